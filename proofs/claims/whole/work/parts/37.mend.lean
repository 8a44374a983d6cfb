/-! PURE: mending as a read is done -/
/-- what a letters' stretch may do: new ones are mending ones -/
def KK (X X' : St) (sn sn' : Nat) (ch ch' : List Nat) : Prop := sn ≤ sn' ∧ sn' + ch.length = sn + ch'.length ∧ (∀ x, x ∈ ch' → x ∈ ch ∨ X'.1 26 x = nI 4) ∧ (∀ k j, 23 ≤ k → ¬ k = 24 → j < sn → X'.1 k j = X.1 k j) ∧ ch'.countP (isP (X'.1 26)) = ch.countP (isP (X.1 26))
theorem KK.rf (X : St) (sn : Nat) (ch : List Nat) : KK X X sn sn ch ch := ⟨Nat.le_refl _, rfl, fun _ h => Or.inl h, fun _ _ _ _ _ => rfl, rfl⟩
theorem J4_answeredLesser_e (S : St) {q c : Nat} (hq : q < 40) (hc : c < 5) {x g : Nat} (hx : x ≤ 40) (hg : g ≤ 40) (hgr : S.1 35 q = nI g) (hd : S.1 40 (5 * q + c) = nI x) : J4_answeredLesser S (nI q) (nI c) = some (b2 (x < g), S) := by
  unfold J4_answeredLesser J4_answeredLesser_30 J4_answeredLesser_31
  rw [show nI q * 5 + nI c = nI (5 * q + c) by show nI q * nI 5 + nI c = _; rw [nI_mul, nI_add, Nat.mul_comm]]
  simp (disch := omega) only [zin_nI, zg_t, nI_clamp, zlet_e]
  rw [hd, hgr, if_neg (by rw [nI_nm x (by omega)]; exact id)]
  by_cases z : x < g
  · rw [if_neg (by rw [nI_leE (by omega) (by omega)]; omega), b2_t z]; rfl
  · rw [if_pos (by rw [nI_leE (by omega) (by omega)]; omega), b2_f z]; rfl
theorem J4_answeredLesser_n (S : St) {q c : Nat} (hq : q < 40) (hc : c < 5) (hd : S.1 40 (5 * q + c) = -1) : J4_answeredLesser S (nI q) (nI c) = some (0, S) := by
  unfold J4_answeredLesser J4_answeredLesser_30 J4_answeredLesser_31
  rw [show nI q * 5 + nI c = nI (5 * q + c) by show nI q * nI 5 + nI c = _; rw [nI_mul, nI_add, Nat.mul_comm]]
  simp (disch := omega) only [zin_nI, zg_t, nI_clamp, zlet_e]
  rw [hd, if_pos rfl]
  rfl
theorem mend_sim {n nW nR t q r g : Nat} {by_ vs : Nat → Nat} (hn5 : n ≤ 5) (hr5 : r ≤ 5) (hq : q < 40) (hg : g ≤ 40) (ht : t ≤ 10000000) (hby : ∀ i, i < r → by_ i < 5 ∧ vs i ≤ 40) (hinj : ∀ i j, i < r → j < r → by_ i = by_ j → i = j) : ∀ (d c nC nM sn : Nat) (X Y : St) (ch : List Nat), c + d = n → d < nC → d < nM → RuL X Y n nW nR t sn ch → sn + d ≤ 1000 →
    X.1 18 3 = nI n → X.1 17 8 = nI t → X.1 35 q = nI g → (∀ i, i < r → X.1 40 (5 * q + by_ i) = nI (vs i)) → (∀ c, c < 5 → (∀ i, i < r → ¬ by_ i = c) → X.1 40 (5 * q + c) = -1) →
    Y.1 0 18 = nI n → ¬ Y.1 0 17 = 0 → Y.1 0 20 = nI r → Y.1 0 21 = nI t → (∀ i, i < r → Y.1 31 (5 * q + i) = nI (by_ i) ∧ Y.1 30 (5 * q + i) = nI (vs i)) →
    ∃ X' Y' sn' ch', J5_mend_2 nC X (nI q) (nI c) = some ((), X') ∧ J9_answer_200 nM Y (nI q) (nI g) (nI c) = some ((), Y') ∧ RuL X' Y' n nW nR t sn' ch' ∧ frC X X' ∧ frM Y Y' ∧ KK X X' sn sn' ch ch' ∧ sn' ≤ sn + d := by
  intro d
  induction d with
  | zero =>
    intro c nC nM sn X Y ch hc h1 h2 hL hsn x1 x2 x3 x4 x5 y1 y2 y3 y4 y5
    obtain ⟨nC, rfl⟩ : ∃ m, nC = m + 1 := ⟨nC - 1, by omega⟩
    obtain ⟨nM, rfl⟩ : ∃ m, nM = m + 1 := ⟨nM - 1, by omega⟩
    refine ⟨X, Y, sn, ch, ?_, ?_, hL, frC.rf _, frM.rf _, KK.rf _ _ _, Nat.le_refl _⟩
    · rw [J5_mend_2, x1, if_pos (by rw [nI_leE (by omega) (by omega)]; omega)]
    · rw [J9_answer_200, y1, if_pos (by rw [nI_leE (by omega) (by omega)]; omega)]
      rfl
  | succ d ih =>
    intro c nC nM sn X Y ch hc h1 h2 hL hsn x1 x2 x3 x4 x5 y1 y2 y3 y4 y5
    obtain ⟨nC, rfl⟩ : ∃ m, nC = m + 1 := ⟨nC - 1, by omega⟩
    obtain ⟨nM, rfl⟩ : ∃ m, nM = m + 1 := ⟨nM - 1, by omega⟩
    have hv : ∀ i, i < r → by_ i < 5 ∧ vs i ≤ 40 ∧ Y.1 31 (5 * q + i) = nI (by_ i) ∧ Y.1 30 (5 * q + i) = nI (vs i) := fun i hi => ⟨(hby i hi).1, (hby i hi).2, (y5 i hi).1, (y5 i hi).2⟩
    rw [J5_mend_2, x1, if_neg (by rw [nI_leE (by omega) (by omega)]; omega), J9_answer_200, y1, if_neg (by rw [nI_leE (by omega) (by omega)]; omega), if_neg y2]
    unfold J5_mend_50
    by_cases hex : ∃ i, i < r ∧ by_ i = c ∧ vs i < g
    · obtain ⟨i, hi, hi2, hi3⟩ := hex
      obtain ⟨X2, Y2, ch2, s1, s2, s3, s4, s5, s6, s7, s8, s9, s10, s11⟩ := send_sim (kd := 4) (c := c) (num := g) (e := 0) (d := 1) (of := nI q) (v := nI g) (way := nI 0) hL y4 (by omega) (by omega) (by omega) (by omega) (by omega) (by omega) (fun z => by omega) (fun z => by omega) (fun _ => hg) (fun z => by omega) (fun z => by omega) (fun _ => rfl) (fun z => by omega) (fun z => by omega)
      have hlen2 : ch2.length = ch.length + 1 := by simpa using s7 (fun _ => true)
      obtain ⟨X', Y', sn', ch', g1, g2, g3, g4, g5, g6, g7⟩ := ih (c + 1) nC nM (sn + 1) X2 Y2 ch2 (by omega) (by omega) (by omega) s3 (by omega) (by rw [s4.1 18 (by decide)]; exact x1) (by rw [s4.1 17 (by decide)]; exact x2) (by rw [s4.1 35 (by decide)]; exact x3) (fun i hi => by rw [s4.1 40 (by decide)]; exact x4 i hi) (fun c hc h => by rw [s4.1 40 (by decide)]; exact x5 c hc h) (by rw [s5.2.1 18 (by decide) (by decide)]; exact y1) (by rw [s5.2.1 17 (by decide) (by decide)]; exact y2) (by rw [s5.2.1 20 (by decide) (by decide)]; exact y3) (by rw [s5.2.1 21 (by decide) (by decide)]; exact y4) (fun i hi => by rw [s5.1 31 (by decide) (by decide), s5.1 30 (by decide) (by decide)]; exact y5 i hi)
      refine ⟨X', Y', sn', ch', ?_, ?_, g3, s4.trans g4, s5.trans g5, ?_, by omega⟩
      · rw [J4_answeredLesser_e X hq (by omega) (x := vs i) (hby i hi).2 hg x3 (by rw [← hi2]; exact x4 i hi), zb_t, b2_t hi3, if_neg (show ¬ (1 : Int32) = 0 by decide), zin_nI (show q < 40 from hq) (by omega), zg_t, nI_clamp (show q < 2 ^ 31 by omega), x3, x2, show nI t + 1 = nI (t + 1) from nI_1 t, show J3_send X (nI (t + 1)) 4 (nI g) (nI c) 0 = _ from s1, zb_t, zlet_e, show nI c + 1 = nI (c + 1) from nI_1 c]
        exact g1
      · rw [show (0 : Int32) = nI 0 from rfl, mendM_yes (J9_answer_200 nM) Y Y2 (i := i) y3 hr5 hq (by omega) hg hv hinj s2 s5 hi ⟨hi2, hi3⟩ r 0 fu (by omega) (fu_gt (by omega)) (by omega)]
        exact g2
      · obtain ⟨k1, k2, k3, k4, k5⟩ := g6
        have hlt : ∀ a ∈ ch, a < sn := fun a ha => (hL.1.2.2.1 a ha).1
        refine ⟨by omega, by omega, fun x hx => ?_, fun k j q1 q2 q3 => by rw [k4 k j q1 q2 (by omega), s8 k j q1 q2 q3], ?_⟩
        · rcases k3 x hx with z | z
          · rcases (s6 x).mp z with rfl | z
            · right; rw [k4 26 x (by decide) (by decide) (by omega), s9]
            · exact Or.inl z
          · exact Or.inr z
        · rw [k5, s7 (isP (X2.1 26))]
          have e : isP (X2.1 26) sn = false := by
            simp only [isP, s9]
            decide
          rw [e, countP_cg (p := isP (X2.1 26)) (q := isP (X.1 26)) ch (fun a ha => by simp only [isP, s8 26 a (by decide) (by decide) (hlt a ha)])]
          rfl
    · have hno : ∀ j, 0 ≤ j → j < r → ¬ (by_ j = c ∧ vs j < g) := fun j _ hj z => hex ⟨j, hj, z.1, z.2⟩
      obtain ⟨X', Y', sn', ch', g1, g2, g3, g4, g5, g6, g7⟩ := ih (c + 1) nC nM sn X Y ch (by omega) (by omega) (by omega) hL (by omega) x1 x2 x3 x4 x5 y1 y2 y3 y4 y5
      refine ⟨X', Y', sn', ch', ?_, ?_, g3, g4, g5, g6, by omega⟩
      · have e : J4_answeredLesser X (nI q) (nI c) = some (0, X) := by
          by_cases hc2 : ∃ i, i < r ∧ by_ i = c
          · obtain ⟨i, hi, hi2⟩ := hc2
            rw [J4_answeredLesser_e X hq (by omega) (x := vs i) (hby i hi).2 hg x3 (by rw [← hi2]; exact x4 i hi), b2_f (fun z => hex ⟨i, hi, hi2, z⟩)]
          · exact J4_answeredLesser_n X hq (by omega) (x5 c (by omega) (fun i hi z => hc2 ⟨i, hi, z⟩))
        rw [e, zb_t, if_pos rfl, zlet_e, show nI c + 1 = nI (c + 1) from nI_1 c]
        exact g1
      · rw [show (0 : Int32) = nI 0 from rfl, mendM_no (J9_answer_200 nM) Y y3 hr5 hq (by omega) hg hv r 0 fu (by omega) (fu_gt (by omega)) hno]
        exact g2
