/-! PURE: letters under way: the class's chain, the reference's slots -/
def tkC (S : St) (a : Nat) : Int := (S.1 23 a).toInt
def ltr (f : Nat → Int) (a b : Nat) : Prop := f a < f b ∨ (f a = f b ∧ a < b)
/-- the chain: from a head on, these letters, one behind the other -/
def chn (nx : Nat → Int32) : Int32 → List Nat → Prop
  | h, [] => h = -1
  | h, a :: l => h = nI a ∧ chn nx (nx a) l
theorem chn_cg {nx nx' : Nat → Int32} : ∀ (l : List Nat) (h : Int32), (∀ b ∈ l, nx' b = nx b) → chn nx h l → chn nx' h l := by
  intro l
  induction l with
  | nil => intro h _ q; exact q
  | cons a l ih =>
    intro h hb q
    exact ⟨q.1, by rw [hb a List.mem_cons_self]; exact ih _ (fun b q2 => hb b (List.mem_cons_of_mem _ q2)) q.2⟩
/-- where a letter for a tick goes: behind all that are due by it -/
def insA (f : Nat → Int) (T : Int) (a : Nat) : List Nat → List Nat
  | [] => [a]
  | b :: l => if T < f b then a :: b :: l else b :: insA f T a l
def lw (f : Nat → Int) (T : Int) : List Nat → Option Nat → Option Nat × Int32
  | [], p => (p, -1)
  | b :: l, p => if T < f b then (p, nI b) else lw f T l (some b)
def opI : Option Nat → Int32
  | none => -1
  | some p => nI p
theorem insA_mem {f : Nat → Int} {T : Int} {a x : Nat} : ∀ l : List Nat, x ∈ insA f T a l ↔ x = a ∨ x ∈ l := by
  intro l
  induction l with
  | nil => simp [insA]
  | cons b l ih =>
    simp only [insA]
    split
    · simp
    · simp only [List.mem_cons, ih]
      constructor
      · rintro (h | h | h) <;> simp [h]
      · rintro (h | h | h) <;> simp [h]
theorem insA_len {f : Nat → Int} {T : Int} {a : Nat} : ∀ l : List Nat, (insA f T a l).length = l.length + 1 := by
  intro l
  induction l with
  | nil => rfl
  | cons b l ih =>
    simp only [insA]
    split
    · rfl
    · simp [ih]
theorem insA_cnt {f : Nat → Int} {T : Int} {a : Nat} (p : Nat → Bool) : ∀ l : List Nat, (insA f T a l).countP p = l.countP p + (if p a then 1 else 0) := by
  intro l
  induction l with
  | nil => simp [insA, List.countP_cons]
  | cons b l ih =>
    simp only [insA]
    split
    · simp [List.countP_cons]
    · simp only [List.countP_cons, ih]
      omega
theorem insA_srt {f : Nat → Int} {a : Nat} : ∀ l : List Nat, l.Pairwise (ltr f) → (∀ b ∈ l, b < a) → (insA f (f a) a l).Pairwise (ltr f) := by
  intro l
  induction l with
  | nil => intro _ _; simp [insA]
  | cons b l ih =>
    intro h hb
    rw [List.pairwise_cons] at h
    simp only [insA]
    split
    · next q =>
      refine List.pairwise_cons.mpr ⟨fun x hx => ?_, List.pairwise_cons.mpr h⟩
      rcases List.mem_cons.mp hx with rfl | hx
      · exact Or.inl q
      · rcases h.1 x hx with q2 | ⟨q2, -⟩
        · exact Or.inl (by omega)
        · exact Or.inl (by omega)
    · next q =>
      refine List.pairwise_cons.mpr ⟨fun x hx => ?_, ih h.2 (fun x hx => hb x (List.mem_cons_of_mem _ hx))⟩
      rcases (insA_mem l).mp hx with rfl | hx
      · by_cases e : f b = f x
        · exact Or.inr ⟨e, hb b List.mem_cons_self⟩
        · exact Or.inl (by omega)
      · exact h.1 x hx
theorem ltr_irr {f : Nat → Int} {a b : Nat} (h : ltr f a b) : a ≠ b := by
  rintro rfl
  rcases h with h | ⟨-, h⟩ <;> omega
/-- the nexts behind a linking -/
def nxL (nx : Nat → Int32) (a : Nat) (q : Option Nat × Int32) : Nat → Int32 := fun j => if q.1 = some j then nI a else if j = a then q.2 else nx j
theorem lw_mem {f : Nat → Int} {T : Int} : ∀ (l : List Nat) (p : Option Nat), (lw f T l p).1 = p ∨ ∃ b ∈ l, (lw f T l p).1 = some b := by
  intro l
  induction l with
  | nil => intro p; exact Or.inl rfl
  | cons b l ih =>
    intro p
    simp only [lw]
    split
    · exact Or.inl rfl
    · rcases ih (some b) with h | ⟨c, h1, h2⟩
      · exact Or.inr ⟨b, List.mem_cons_self, h⟩
      · exact Or.inr ⟨c, List.mem_cons_of_mem _ h1, h2⟩
theorem lw_chn {f : Nat → Int} {T : Int} {a : Nat} {nx : Nat → Int32} : ∀ (l : List Nat) (hd : Int32) (p : Option Nat), chn nx hd l → l.Nodup → a ∉ l → (∀ q, p = some q → q ∉ l ∧ q ≠ a) →
    ((lw f T l p).1 = p ∧ chn (nxL nx a (lw f T l p)) (nI a) (insA f T a l)) ∨ ((lw f T l p).1 ≠ p ∧ chn (nxL nx a (lw f T l p)) hd (insA f T a l)) := by
  intro l
  induction l with
  | nil =>
    intro hd p h _ _ hp
    left
    refine ⟨rfl, rfl, ?_⟩
    simp only [nxL, lw, chn]
    rw [if_neg (fun q => (hp a q).2 rfl)]
    simp
  | cons b l ih =>
    intro hd p h hn ha hp
    obtain ⟨h1, h2⟩ := h
    rw [List.nodup_cons] at hn
    have hab : a ≠ b := fun q => ha (by rw [q]; exact List.mem_cons_self)
    have hal : a ∉ l := fun q => ha (List.mem_cons_of_mem _ q)
    by_cases hT : T < f b
    · left
      simp only [lw, if_pos hT, insA]
      refine ⟨by first | trivial | rfl, rfl, ?_⟩
      have e : nxL nx a (p, nI b) a = nI b := by
        simp only [nxL]
        rw [if_neg (fun q => (hp a q).2 rfl)]
        simp
      rw [e]
      refine chn_cg (nx := nx) (b :: l) _ (fun c hc => ?_) ⟨rfl, h2⟩
      simp only [nxL]
      rw [if_neg (fun q => (hp c q).1 hc), if_neg (show ¬ c = a from fun q => ha (q ▸ hc))]
    · simp only [lw, if_neg hT, insA]
      right
      rcases ih (nx b) (some b) h2 hn.2 hal (fun q hq => by cases hq; exact ⟨hn.1, fun z => hab z.symm⟩) with ⟨g1, g2⟩ | ⟨g1, g2⟩
      · refine ⟨?_, h1, ?_⟩
        · rw [g1]
          intro q
          exact (hp b q.symm).1 List.mem_cons_self
        · have e : nxL nx a (lw f T l (some b)) b = nI a := by
            simp only [nxL]
            rw [if_pos g1]
          rw [e]
          exact g2
      · refine ⟨?_, h1, ?_⟩
        · rcases lw_mem (f := f) (T := T) l (some b) with q | ⟨c, q1, q2⟩
          · exact absurd q g1
          · rw [q2]
            intro q
            exact (hp c q.symm).1 (List.mem_cons_of_mem _ q1)
        · have e : nxL nx a (lw f T l (some b)) b = nx b := by
            simp only [nxL]
            rw [if_neg g1, if_neg (fun z => hab z.symm)]
          rw [e]
          exact g2
/-- the class's memory behind a linking -/
def linkS (S : St) (a : Nat) (q : Option Nat × Int32) : St := match q.1 with
  | none => wI (wI S 24 a q.2) 22 7 (nI a)
  | some p => wI (wI S 24 a q.2) 24 p (nI a)
theorem J3_isLetter_e (S : St) (x : Int32) : J3_isLetter S x = some (b2 (0 ≤ x.toInt ∧ x.toInt < 1000), S) := by
  unfold J3_isLetter J3_isLetter_15 J3_isLetter_16
  simp only [tl_le, tl_lt, ti_le, ti_lt, Int32.toInt_toInt64, l64_0, l64_1, l64_2, l64_3, l64_4, l64_5, l64_6, l64_8, l64_14, l64_16, l64_39, l64_40, l64_100, l64_1000, l64_10000, l64_1000000, l32_0, l32_1, l32_2, l32_3, l32_4, l32_5, l32_6, l32_7, l32_8, l32_16, l32_40, l32_100, l32_1000, l32_10000, l32_1000000, l32_m1, zbo_0, zbo_1, zg_t]
  by_cases h1 : 0 ≤ x.toInt ∧ x.toInt < 1000
  · rw [b2_t h1]; grind
  · rw [b2_f h1]; grind
theorem J3_link_55_e (S : St) {a : Nat} (ha : a < 1000) (p : Option Nat) (hp : ∀ q, p = some q → q < 1000) (y : Int32) : J3_link_55 S (nI a) (opI p) y = some ((), linkS S a (p, y)) := by
  cases p with
  | none =>
    show J3_link_55 S (nI a) (-1) y = some ((), wI (wI S 24 a y) 22 7 (nI a))
    unfold J3_link_55 J3_link_84
    simp (disch := omega) only [zin_nI, zg_t, nI_clamp, zlet_e, J3_isLetter_e, zb_t, b2_0]
    rw [if_pos (by rw [l32_m1]; omega)]
  | some q =>
    have hq := hp q rfl
    show J3_link_55 S (nI a) (nI q) y = some ((), wI (wI S 24 a y) 24 q (nI a))
    unfold J3_link_55 J3_link_84
    simp (disch := omega) only [zin_nI, zg_t, nI_clamp, zlet_e, J3_isLetter_e, zb_t, b2_0]
    rw [if_neg (by rw [nI_toInt (show q < 2 ^ 31 by omega)]; omega)]
theorem J3_link_10_e (S : St) {a : Nat} (ha : a < 1000) : ∀ (l : List Nat) (hd : Int32) (p : Option Nat) (i n : Nat), chn (S.1 24) hd l → (∀ b ∈ l, b < 1000) → (∀ q, p = some q → q < 1000) → i + l.length ≤ 1000 → l.length < n → J3_link_10 n S (nI a) (opI p) hd (nI i) = some ((), linkS S a (lw (tkC S) (tkC S a) l p)) := by
  intro l
  induction l with
  | nil =>
    intro hd p i n h hb hp hi hn
    obtain ⟨n, rfl⟩ : ∃ m, n = m + 1 := ⟨n - 1, by omega⟩
    have hd1 : hd = -1 := h
    subst hd1
    rw [J3_link_10, J3_link_55_e S ha p hp]
    simp only [J3_isLetter_e, zb_t, b2_0, lw]
    split
    · rfl
    · rw [if_pos (by rw [l32_m1]; omega)]
      exact J3_link_55_e S ha p hp _
  | cons b l ih =>
    intro hd p i n h hb hp hi hn
    obtain ⟨n, rfl⟩ : ∃ m, n = m + 1 := ⟨n - 1, by omega⟩
    obtain ⟨rfl, h2⟩ := h
    have hb1 := hb b List.mem_cons_self
    have hl : (b :: l).length = l.length + 1 := rfl
    rw [J3_link_10, if_neg (by rw [show (1000 : Int32) = nI 1000 from rfl, nI_leE (by omega) (by omega)]; omega)]
    simp only [J3_isLetter_e, zb_t, b2_0]
    rw [nI_toInt (by omega), if_neg (by omega)]
    simp (disch := omega) only [zin_nI, zg_t, nI_clamp]
    rw [J3_link_55_e S ha p hp]
    simp only [lw]
    by_cases hT : tkC S a < tkC S b
    · rw [if_pos hT, if_pos (Int32.lt_iff_toInt_lt.mpr hT)]
    · rw [if_neg hT, if_neg (fun q => hT (Int32.lt_iff_toInt_lt.mp q))]
      simp only [zlet_e]
      rw [show nI i + 1 = nI (i + 1) from nI_1 i]
      exact ih _ (some b) (i + 1) n h2 (fun c hc => hb c (List.mem_cons_of_mem _ hc)) (fun q hq => by cases hq; exact hb1) (by omega) (by omega)
/-- what linking gives: the chain with the letter in its place; nothing but nexts and head is another -/
theorem J3_link_e (S : St) {a : Nat} {l : List Nat} (ha : a < 1000) (hc : chn (S.1 24) (S.1 22 7) l) (hb : ∀ b ∈ l, b < 1000) (hn : l.Nodup) (hal : a ∉ l) (hl : l.length ≤ 1000) : ∃ S', J3_link S (nI a) = some ((), S') ∧ chn (S'.1 24) (S'.1 22 7) (insA (tkC S) (tkC S a) a l) ∧ (∀ k, k ≠ 22 → k ≠ 24 → S'.1 k = S.1 k) ∧ (∀ j, j ≠ 7 → S'.1 22 j = S.1 22 j) ∧ S'.2 = S.2 := by
  refine ⟨linkS S a (lw (tkC S) (tkC S a) l none), ?_, ?_, ?_, ?_, ?_⟩
  · unfold J3_link
    simp only [zlet_e]
    exact J3_link_10_e S ha l _ none 0 fu hc hb (fun q h => by cases h) (by omega) (fu_gt (by omega))
  · have key := lw_chn (f := tkC S) (T := tkC S a) (a := a) (nx := S.1 24) l (S.1 22 7) none hc hn hal (fun q h => by cases h)
    cases hlw : lw (tkC S) (tkC S a) l none with
    | mk p y =>
      rw [hlw] at key
      cases p with
      | none =>
        rcases key with ⟨-, g⟩ | ⟨g, -⟩
        · have e1 : (linkS S a (none, y)).1 24 = nxL (S.1 24) a (none, y) := by
            funext j
            simp [linkS, wI, nxL]
          have e2 : (linkS S a (none, y)).1 22 7 = nI a := by simp [linkS, wI]
          rw [e1, e2]
          exact g
        · exact absurd rfl g
      | some p =>
        rcases key with ⟨g, -⟩ | ⟨-, g⟩
        · cases g
        · have e1 : (linkS S a (some p, y)).1 24 = nxL (S.1 24) a (some p, y) := by
            funext j
            simp only [linkS, wI, nxL, Option.some.injEq, true_and]
            by_cases h : p = j
            · subst h; simp
            · rw [if_neg h, if_neg (fun q => h q.symm)]
          have e2 : (linkS S a (some p, y)).1 22 7 = S.1 22 7 := by simp [linkS, wI]
          rw [e1, e2]
          exact g
  · intro k h1 h2
    cases lw (tkC S) (tkC S a) l none with
    | mk p y => cases p <;> (simp only [linkS]; rw [wI_1n _ _ _ _ _ (by assumption), wI_1n _ _ _ _ _ (by assumption)])
  · intro j h1
    cases lw (tkC S) (tkC S a) l none with
    | mk p y => cases p <;> simp [linkS, wI, h1]
  · cases lw (tkC S) (tkC S a) l none with
    | mk p y => cases p <;> rfl
