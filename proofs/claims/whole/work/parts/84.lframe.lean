/-! THE LAW: two memories side by side -/
def lA (s : State) : Nat → Prop := fun q => s.heap.size ≤ q
def lX (p : Program) (s : State) (m : MethodId) (meth : Method) (c : Code) (D : va_G) (cA : Nat → ClassId) (σ1 σ2 : Nat → Nat) (tS b Ls : Nat) (xs : Nat → Int32) : Prop :=
  p.tables.exec = Jvm.exec ∧ c.code = code ∧ c.maxLocals = 4 ∧ s.vm.findClass RL = some m.cls ∧ (∀ w ∈ lw_tg, w.before #[Value.ref b] s = true) ∧ meth.sig.returnType = ret ∧ meth.locks = false ∧ va_K D vwCl (ztys cA) s ∧ (zinj shC σ1 ∧ zinj shM σ2 ∧ ∀ i j, i < 43 → j < 32 → ¬ σ1 i = σ2 j) ∧ ((∀ i, i < 43 → lA s (σ1 i)) ∧ ∀ j, j < 32 → lA s (σ2 j)) ∧ zT tS (lA s) s s.heap ∧ va_X b Ls xs s s.heap ∧ b < s.heap.size ∧ Ls ≤ 5120
def Lj (p : Program) (l : Launch) (e : Env) (s : State) (m : MethodId) (below : List Frame) (meth : Method) (c : Code) (D : va_G) (cA : Nat → ClassId) (σ1 σ2 : Nat → Nat) (b : Nat) (pc : Nat) (L : List (Nat × Value)) (st : List Value) (SC SM : St) : Prop :=
  ∀ (H : Heap) (locs : List Loc) (ls : Array Slot), va_P D vwCl (zw shC cA σ1 SC) H → va_P D vwCl (zw shM cA σ2 SM) H → va_S (lA s) s.heap H locs → lv_has ls 4 L → W p l e room_1 s m #[Value.ref b] below meth c H locs 75 18904 (lw_Z below #[Value.ref b] s) (F0 m pc ls st)
theorem zT.sub {tS : Nat} {A B : Nat → Prop} {U : State} {H : Heap} (h : zT tS A U H) (hAB : ∀ q, B q → A q) : zT tS B U H := ⟨h.1.narrow hAB, h.2.1.narrow hAB, h.2.2⟩
theorem zP_law {D : va_G} {cA : Nat → ClassId} {σ : Nat → Nat} {sh : List zk} {tS : Nat} {av : List Value} {S : St} {s : State} {H : Heap} {locs : List Loc} (hK : va_K D vwCl (ztys cA) s) (hi : zinj sh σ) (hA : ∀ k, k < sh.length → lA s (σ k)) (hT : zT tS (lA s) s s.heap) (hP : va_P D vwCl (zw sh cA σ S) H) (hS : va_S (lA s) s.heap H locs) (U : State) (hU : U.heap = H) (hW : s.WarmedH U.vm) : zP D cA σ sh tS av S av.toArray U := by
  have hAB : ∀ q, zA sh σ q → lA s q := by
    rintro q ⟨k, hk, rfl⟩
    exact hA k hk
  obtain ⟨h5, h6, h7⟩ := hT
  refine ⟨rfl, by rw [hU]; exact hP, va_K.moved hW.alike hK, hi, ?_, ?_, va_Nw.warmM hW h7⟩
  · rw [hU]; exact ((h5.kept hS.2.1).moved hW.alike).narrow hAB
  · rw [hU]; exact ((h6.kept hS.2.1).moved hW.alike).narrow hAB
theorem zw_kept {D : va_G} {cA : Nat → ClassId} {σ : Nat → Nat} {sh : List zk} {S : St} {H H1 : Heap} (hP : va_P D vwCl (zw sh cA σ S) H) (B : Nat → Prop) (hB : ∀ k, k < sh.length → ¬ B (σ k)) (hk : ∀ q, q < H.size → ¬ B q → H1[q]? = H[q]?) : va_P D vwCl (zw sh cA σ S) H1 := by
  refine hP.kept (fun k q hq => ?_)
  obtain ⟨h1, h2⟩ := zw_lt hq
  have hl := (hP k q hq).lt
  rw [h2] at hl ⊢
  exact hk _ hl (hB k h1)
section LROWS
variable {p : Program} {l : Launch} {e : Env} {s : State} {m : MethodId} {below : List Frame} {meth : Method} {c : Code} {D : va_G} {cA : Nat → ClassId} {σ1 σ2 : Nat → Nat} {tS b Ls : Nat} {xs : Nat → Int32} {pc : Nat} {L : List (Nat × Value)} {st : List Value} {SC SM : St}
theorem l_iconst (X : lX p s m meth c D cA σ1 σ2 tS b Ls xs) {n : Int} {v : Int32} (hd : decode code pc = .ok (.iconst n, 1)) (hv : Int32.ofInt n = v) (K : Lj p l e s m below meth c D cA σ1 σ2 b (pc + 1) L (.int v :: st) SC SM) : Lj p l e s m below meth c D cA σ1 σ2 b pc L (st) SC SM := fun H locs ls hC hM hS hl => lv_iconst X.1 X.2.1 hd hv (K H locs ls hC hM hS hl)
theorem l_bipush (X : lX p s m meth c D cA σ1 σ2 tS b Ls xs) {n : Int} {v : Int32} (hd : decode code pc = .ok (.bipush n, 2)) (hv : (Int8.ofInt n).toInt32 = v) (K : Lj p l e s m below meth c D cA σ1 σ2 b (pc + 2) L (.int v :: st) SC SM) : Lj p l e s m below meth c D cA σ1 σ2 b pc L (st) SC SM := fun H locs ls hC hM hS hl => lv_bipush X.1 X.2.1 hd hv (K H locs ls hC hM hS hl)
theorem l_iadd (X : lX p s m meth c D cA σ1 σ2 tS b Ls xs) {x y : Int32} (hd : decode code pc = .ok (.iadd, 1)) (K : Lj p l e s m below meth c D cA σ1 σ2 b (pc + 1) L (.int (x + y) :: st) SC SM) : Lj p l e s m below meth c D cA σ1 σ2 b pc L (.int y :: .int x :: st) SC SM := fun H locs ls hC hM hS hl => lv_iadd X.1 X.2.1 hd (K H locs ls hC hM hS hl)
theorem l_isub (X : lX p s m meth c D cA σ1 σ2 tS b Ls xs) {x y : Int32} (hd : decode code pc = .ok (.isub, 1)) (K : Lj p l e s m below meth c D cA σ1 σ2 b (pc + 1) L (.int (x - y) :: st) SC SM) : Lj p l e s m below meth c D cA σ1 σ2 b pc L (.int y :: .int x :: st) SC SM := fun H locs ls hC hM hS hl => lv_isub X.1 X.2.1 hd (K H locs ls hC hM hS hl)
theorem l_iand (X : lX p s m meth c D cA σ1 σ2 tS b Ls xs) {x y : Int32} (hd : decode code pc = .ok (.iand, 1)) (K : Lj p l e s m below meth c D cA σ1 σ2 b (pc + 1) L (.int (x &&& y) :: st) SC SM) : Lj p l e s m below meth c D cA σ1 σ2 b pc L (.int y :: .int x :: st) SC SM := fun H locs ls hC hM hS hl => lv_iand X.1 X.2.1 hd (K H locs ls hC hM hS hl)
theorem l_land (X : lX p s m meth c D cA σ1 σ2 tS b Ls xs) {x y : Int64} (hd : decode code pc = .ok (.land, 1)) (K : Lj p l e s m below meth c D cA σ1 σ2 b (pc + 1) L (.long (x &&& y) :: st) SC SM) : Lj p l e s m below meth c D cA σ1 σ2 b pc L (.long y :: .long x :: st) SC SM := fun H locs ls hC hM hS hl => lv_land X.1 X.2.1 hd (K H locs ls hC hM hS hl)
theorem l_lor (X : lX p s m meth c D cA σ1 σ2 tS b Ls xs) {x y : Int64} (hd : decode code pc = .ok (.lor, 1)) (K : Lj p l e s m below meth c D cA σ1 σ2 b (pc + 1) L (.long (x ||| y) :: st) SC SM) : Lj p l e s m below meth c D cA σ1 σ2 b pc L (.long y :: .long x :: st) SC SM := fun H locs ls hC hM hS hl => lv_lor X.1 X.2.1 hd (K H locs ls hC hM hS hl)
theorem l_lshl (X : lX p s m meth c D cA σ1 σ2 tS b Ls xs) {x : Int64} {y : Int32} (hd : decode code pc = .ok (.lshl, 1)) (K : Lj p l e s m below meth c D cA σ1 σ2 b (pc + 1) L (.long (x <<< (y.toInt64 &&& 63)) :: st) SC SM) : Lj p l e s m below meth c D cA σ1 σ2 b pc L (.int y :: .long x :: st) SC SM := fun H locs ls hC hM hS hl => lv_lshl X.1 X.2.1 hd rfl (K H locs ls hC hM hS hl)
theorem l_i2l (X : lX p s m meth c D cA σ1 σ2 tS b Ls xs) {x : Int32} (hd : decode code pc = .ok (.i2l, 1)) (K : Lj p l e s m below meth c D cA σ1 σ2 b (pc + 1) L (.long x.toInt64 :: st) SC SM) : Lj p l e s m below meth c D cA σ1 σ2 b pc L (.int x :: st) SC SM := fun H locs ls hC hM hS hl => lv_i2l X.1 X.2.1 hd rfl (K H locs ls hC hM hS hl)
theorem l_lcmp (X : lX p s m meth c D cA σ1 σ2 tS b Ls xs) {x y : Int64} (hd : decode code pc = .ok (.lcmp, 1)) (K : Lj p l e s m below meth c D cA σ1 σ2 b (pc + 1) L (.int (lg_cmp x y) :: st) SC SM) : Lj p l e s m below meth c D cA σ1 σ2 b pc L (.long y :: .long x :: st) SC SM := fun H locs ls hC hM hS hl => W.lcmp X.1 X.2.1 hd (K H locs ls hC hM hS hl)
theorem l_ldc2 (X : lX p s m meth c D cA σ1 σ2 tS b Ls xs) {idx : Nat} {v : Int64} (hd : decode code pc = .ok (.ldc2_w idx, 3)) (hw : Cond.constantLong RL idx v ∈ lw_tg) (K : Lj p l e s m below meth c D cA σ1 σ2 b (pc + 3) L (.long v :: st) SC SM) : Lj p l e s m below meth c D cA σ1 σ2 b pc L (st) SC SM := fun H locs ls hC hM hS hl => lv_ldc2 X.1 X.2.1 X.2.2.2.1 (X.2.2.2.2.1 _ hw) hd (K H locs ls hC hM hS hl)
theorem l_iload_n (X : lX p s m meth c D cA σ1 σ2 tS b Ls xs) {k : Fin 4} {i : Nat} {x : Int32} (hd : decode code pc = .ok (.iload_n k, 1)) (hi : (k : Nat) = i) (q : Nat) (hq : L[q]? = some (i, .int x)) (K : Lj p l e s m below meth c D cA σ1 σ2 b (pc + 1) L (.int x :: st) SC SM) : Lj p l e s m below meth c D cA σ1 σ2 b pc L (st) SC SM := fun H locs ls hC hM hS hl => lv_iload_n X.1 X.2.1 hd hi (lv_at hl q hq) (K H locs ls hC hM hS hl)
theorem l_aload_n (X : lX p s m meth c D cA σ1 σ2 tS b Ls xs) {k : Fin 4} {i : Nat} {x : Nat} (hd : decode code pc = .ok (.aload_n k, 1)) (hi : (k : Nat) = i) (q : Nat) (hq : L[q]? = some (i, .ref x)) (K : Lj p l e s m below meth c D cA σ1 σ2 b (pc + 1) L (.ref x :: st) SC SM) : Lj p l e s m below meth c D cA σ1 σ2 b pc L (st) SC SM := fun H locs ls hC hM hS hl => lv_aload_n X.1 X.2.1 hd hi (lv_at hl q hq) (K H locs ls hC hM hS hl)
theorem l_iinc (X : lX p s m meth c D cA σ1 σ2 tS b Ls xs) {i k : Nat} {n : Int} {x v : Int32} {L' : List (Nat × Value)} (hd : decode code pc = .ok (.iinc i n, 3)) (hk : L[k]? = some (i, .int x)) (hv : x + Int32.ofInt n = v) (hn : i < 4) (hL : (i, Value.int v) :: L.filter (fun q => !(q.1 == i) && !(q.1 + 1 == i && q.2.category == 2)) = L') (K : Lj p l e s m below meth c D cA σ1 σ2 b (pc + 3) L' (st) SC SM) : Lj p l e s m below meth c D cA σ1 σ2 b pc L (st) SC SM := fun H locs ls hC hM hS hl => lv_iinc X.1 X.2.1 hd hl hk hv hn hL (fun ls' hl' => K H locs ls' hC hM hS hl')
theorem l_goto (X : lX p s m meth c D cA σ1 σ2 tS b Ls xs) {off : Int} {tgt : Nat} (hd : decode code pc = .ok (.goto off, 3)) (ht : (pc : Int) + off = (tgt : Int)) (K : Lj p l e s m below meth c D cA σ1 σ2 b tgt L (st) SC SM) : Lj p l e s m below meth c D cA σ1 σ2 b pc L (st) SC SM := fun H locs ls hC hM hS hl => lv_goto X.1 X.2.1 hd ht (K H locs ls hC hM hS hl)
theorem l_locals {L' : List (Nat × Value)} (ks : List Nat) (hL : lv_pick L ks = L') (K : Lj p l e s m below meth c D cA σ1 σ2 b pc L' (st) SC SM) : Lj p l e s m below meth c D cA σ1 σ2 b pc L (st) SC SM := fun H locs ls hC hM hS hl => K H locs ls hC hM hS (lv_sub hl ks hL)
theorem l_if_eq (X : lX p s m meth c D cA σ1 σ2 tS b Ls xs) {x : Int32} {off : Int} {tgt : Nat} (hd : decode code pc = .ok (.ifCond .eq off, 3)) (ht : (pc : Int) + off = (tgt : Int)) (k1 : x = 0 → Lj p l e s m below meth c D cA σ1 σ2 b tgt L (st) SC SM) (k2 : ¬ x = 0 → Lj p l e s m below meth c D cA σ1 σ2 b (pc + 3) L (st) SC SM) : Lj p l e s m below meth c D cA σ1 σ2 b pc L (.int x :: st) SC SM := fun H locs ls hC hM hS hl => lv_if_eq X.1 X.2.1 hd ht (fun q => k1 q H locs ls hC hM hS hl) (fun q => k2 q H locs ls hC hM hS hl)
theorem l_icmp_eq (X : lX p s m meth c D cA σ1 σ2 tS b Ls xs) {x : Int32} {off : Int} {tgt : Nat} (hd : decode code pc = .ok (.if_icmp .eq off, 3)) (ht : (pc : Int) + off = (tgt : Int)) (K : Lj p l e s m below meth c D cA σ1 σ2 b tgt L (st) SC SM) : Lj p l e s m below meth c D cA σ1 σ2 b pc L (.int x :: .int x :: st) SC SM := fun H locs ls hC hM hS hl => lv_icmp_eq X.1 X.2.1 hd ht (fun _ => K H locs ls hC hM hS hl) (fun q => absurd rfl q)
theorem l_icmp_gt (X : lX p s m meth c D cA σ1 σ2 tS b Ls xs) {x y : Int32} {off : Int} {tgt : Nat} (hd : decode code pc = .ok (.if_icmp .gt off, 3)) (ht : (pc : Int) + off = (tgt : Int)) (k1 : y < x → Lj p l e s m below meth c D cA σ1 σ2 b tgt L (st) SC SM) (k2 : ¬ y < x → Lj p l e s m below meth c D cA σ1 σ2 b (pc + 3) L (st) SC SM) : Lj p l e s m below meth c D cA σ1 σ2 b pc L (.int y :: .int x :: st) SC SM := fun H locs ls hC hM hS hl => lv_icmp_gt X.1 X.2.1 hd ht (fun q => k1 q H locs ls hC hM hS hl) (fun q => k2 q H locs ls hC hM hS hl)
theorem l_tsIn (X : lX p s m meth c D cA σ1 σ2 tS b Ls xs) {dflt lo hi : Int} {offs : Array Int} {len : Nat} {x : Int32} {off : Int} {tgt : Nat} (v : Int32) (hx : x = v) (hd : decode code pc = .ok (.tableswitch dflt lo hi offs, len)) (h1 : ¬ v.toInt < lo) (h2 : ¬ hi < v.toInt) (ho : offs[(v.toInt - lo).toNat]? = some off) (ht : (pc : Int) + off = (tgt : Int)) (K : Lj p l e s m below meth c D cA σ1 σ2 b tgt L (st) SC SM) : Lj p l e s m below meth c D cA σ1 σ2 b pc L (.int x :: st) SC SM := fun H locs ls hC hM hS hl => by
  subst hx
  exact lv_tableIn X.1 X.2.1 hd h1 h2 ho ht (K H locs ls hC hM hS hl)
theorem l_tsOut (X : lX p s m meth c D cA σ1 σ2 tS b Ls xs) {dflt lo hi : Int} {offs : Array Int} {len : Nat} {x : Int32} {tgt : Nat} (hd : decode code pc = .ok (.tableswitch dflt lo hi offs, len)) (h : x.toInt < lo ∨ hi < x.toInt) (ht : (pc : Int) + dflt = (tgt : Int)) (K : Lj p l e s m below meth c D cA σ1 σ2 b tgt L (st) SC SM) : Lj p l e s m below meth c D cA σ1 σ2 b pc L (.int x :: st) SC SM := fun H locs ls hC hM hS hl => lv_tableOut X.1 X.2.1 hd h ht (K H locs ls hC hM hS hl)
theorem lX.out (X : lX p s m meth c D cA σ1 σ2 tS b Ls xs) : ¬ lA s b := Nat.not_le.mpr X.2.2.2.2.2.2.2.2.2.2.2.2.1
theorem l_sld (X : lX p s m meth c D cA σ1 σ2 tS b Ls xs) {i : Int32} (hin : vp_in i Ls) (hd : decode code pc = .ok (.iaload, 1)) (K : Lj p l e s m below meth c D cA σ1 σ2 b (pc + 1) L (.int (xs i.toNatClampNeg) :: st) SC SM) : Lj p l e s m below meth c D cA σ1 σ2 b pc L (.int i :: .ref b :: st) SC SM := fun H locs ls hC hM hS hl => va_sld X.1 X.2.1 X.2.2.2.2.2.2.2.2.2.2.2.1 X.2.2.2.2.2.2.2.2.2.2.2.2.1 X.out hS hin hd (K H locs ls hC hM hS hl)
theorem l_slen (X : lX p s m meth c D cA σ1 σ2 tS b Ls xs) (hd : decode code pc = .ok (.arraylength, 1)) (K : Lj p l e s m below meth c D cA σ1 σ2 b (pc + 1) L (.int (Int32.ofNat Ls) :: st) SC SM) : Lj p l e s m below meth c D cA σ1 σ2 b pc L (.ref b :: st) SC SM := fun H locs ls hC hM hS hl => va_slen X.1 X.2.1 X.2.2.2.2.2.2.2.2.2.2.2.1 X.2.2.2.2.2.2.2.2.2.2.2.2.1 X.out hS hd (K H locs ls hC hM hS hl)
/-- a word of the script, by its place behind i -/
theorem l_arg (X : lX p s m meth c D cA σ1 σ2 tS b Ls xs) {i : Int32} {n : Int32} (hin : vp_in (i + n) Ls) (hd1 : decode code pc = .ok (.iadd, 1)) (hd2 : decode code (pc + 1) = .ok (.iaload, 1)) (K : Lj p l e s m below meth c D cA σ1 σ2 b (pc + 2) L (.int (xs (i + n).toNatClampNeg) :: st) SC SM) : Lj p l e s m below meth c D cA σ1 σ2 b pc L (.int n :: .int i :: .ref b :: st) SC SM := l_iadd X hd1 (l_sld X hin hd2 K)

theorem l_callC (X : lX p s m meth c D cA σ1 σ2 tS b Ls xs) {idx n mL : Nat} {y : MethodName} {cd : ByteArray} {rt : Option FieldType} {rm : Room} {v : Option Value} {S1 : St} {stk : List Value} (As : List Value) (hCV : zCV RL idx 8 y cd mL rt n) (hn : As.length = n) (hst : stk = As.reverse ++ .ref (σ1 0) :: st) (hW : (st.map fun v => v.category).sum ≤ 8) (hR : rm.cells = 0 ∧ rm.slots = 0 ∧ rm.frames + 1 ≤ room_1.frames ∧ 8 + (mL + 11) + rm.locals ≤ room_1.locals) (hd : decode code pc = .ok (.invokevirtual idx, 3)) (hMt : zMet l D cA σ1 shC tS y cd mL rt rm (.ref (σ1 0) :: As) SC v S1) (K : Lj p l e s m below meth c D cA σ1 σ2 b (pc + 3) L (v.toList ++ st) S1 SM) : Lj p l e s m below meth c D cA σ1 σ2 b pc L (stk) SC SM := fun H locs ls hC hM hS hl => by
  obtain ⟨⟨T, N, hci⟩, hG, hy⟩ := hCV
  obtain ⟨hx, hb, hml, hown, hts, -, -, hK, ⟨hi1, hi2, hapart⟩, ⟨hA1, hA2⟩, hT, -⟩ := id X
  have hsh : shC[0]? = some (.inl (8, [4, 8, 11, 20, 0, 0])) := rfl
  have hrun := va_runV (p := p) (l := l) (e := e) (R := room_1) (s := s) (m := m) (args := #[Value.ref b]) (below := below) (meth := meth) (c := c) (H := H) (locs := locs) (cells := 75) (slots := 18904) (g := F0 m pc ls stk) (As := As) (rest := st) ⟨hx, hb, hml, hown, hts⟩ hMt (cwV n hts hG rfl hR.1 hR.2.1 hy ⟨hR.2.2.1, hR.2.2.2⟩) ⟨zP_blind, va_recv hK hC hci (zw_at hsh), fun U hU hW => zP_law hK hi1 hA1 hT hC hS U hU hW⟩ rfl hn hl.1 hst (lv_room hW) hd ⟨Nat.le_refl _, Nat.le_refl _⟩
  intro T hT XX
  obtain ⟨v', st₀, t, T', Lc, h0, X', hL, e1, e2, ⟨⟨hv, hp⟩, hF⟩, stp⟩ := hrun T hT XX
  cases hv
  obtain ⟨hz, hk⟩ := hF
  rw [h0] at hz hk
  have hAB : ∀ q, zA shC σ1 q → lA s q := by
    rintro q ⟨k, hk, rfl⟩
    exact hA1 k hk
  obtain ⟨t2, a1, b1⟩ := K T'.heap (locs ++ Lc) ls (by rw [e1]; exact hp) (zw_kept hM (zA shC σ1) (fun k hk => by rintro ⟨i, hi, h9⟩; exact hapart i k hi hk h9.symm) (fun q h1 h2 => by rw [e1]; exact hk q h1 h2)) ⟨Nat.le_trans hS.1 (by rw [e1]; exact hz), fun q h1 h2 => by rw [e1, hk q (Nat.lt_of_lt_of_le h1 hS.1) (fun z => h2 (hAB q z))]; exact hS.2.1 q h1 h2, fun q hq => by
      rcases List.mem_append.mp hq with h | h
      · exact hS.2.2 q h
      · exact hAB _ (hL q h)⟩ hl T' rfl X'
  exact ⟨t2, stp t2 a1, b1⟩
theorem l_callM (X : lX p s m meth c D cA σ1 σ2 tS b Ls xs) {idx n mL : Nat} {y : MethodName} {cd : ByteArray} {rt : Option FieldType} {rm : Room} {v : Option Value} {S1 : St} {stk : List Value} (As : List Value) (hCV : zCV RL idx 9 y cd mL rt n) (hn : As.length = n) (hst : stk = As.reverse ++ .ref (σ2 0) :: st) (hW : (st.map fun v => v.category).sum ≤ 8) (hR : rm.cells = 0 ∧ rm.slots = 0 ∧ rm.frames + 1 ≤ room_1.frames ∧ 8 + (mL + 11) + rm.locals ≤ room_1.locals) (hd : decode code pc = .ok (.invokevirtual idx, 3)) (hMt : zMet l D cA σ2 shM tS y cd mL rt rm (.ref (σ2 0) :: As) SM v S1) (K : Lj p l e s m below meth c D cA σ1 σ2 b (pc + 3) L (v.toList ++ st) SC S1) : Lj p l e s m below meth c D cA σ1 σ2 b pc L (stk) SC SM := fun H locs ls hC hM hS hl => by
  obtain ⟨⟨T, N, hci⟩, hG, hy⟩ := hCV
  obtain ⟨hx, hb, hml, hown, hts, -, -, hK, ⟨hi1, hi2, hapart⟩, ⟨hA1, hA2⟩, hT, -⟩ := id X
  have hsh : shM[0]? = some (.inl (9, [0, 1, 1, 4, 5, 6, 0, 0, 0, 0, 7, 8, 9, 2, 2, 12, 0, 0, 0, 0, 0, 0, 0, 0, 0, 0, 0, 13, 14, 15, 16, 17, 18, 19, 20, 21, 22, 23, 24, 0, 25, 26, 27, 28, 29, 30, 31, 32, 33, 34])) := rfl
  have hrun := va_runV (p := p) (l := l) (e := e) (R := room_1) (s := s) (m := m) (args := #[Value.ref b]) (below := below) (meth := meth) (c := c) (H := H) (locs := locs) (cells := 75) (slots := 18904) (g := F0 m pc ls stk) (As := As) (rest := st) ⟨hx, hb, hml, hown, hts⟩ hMt (cwV n hts hG rfl hR.1 hR.2.1 hy ⟨hR.2.2.1, hR.2.2.2⟩) ⟨zP_blind, va_recv hK hM hci (zw_at hsh), fun U hU hW => zP_law hK hi2 hA2 hT hM hS U hU hW⟩ rfl hn hl.1 hst (lv_room hW) hd ⟨Nat.le_refl _, Nat.le_refl _⟩
  intro T hT XX
  obtain ⟨v', st₀, t, T', Lc, h0, X', hL, e1, e2, ⟨⟨hv, hp⟩, hF⟩, stp⟩ := hrun T hT XX
  cases hv
  obtain ⟨hz, hk⟩ := hF
  rw [h0] at hz hk
  have hAB : ∀ q, zA shM σ2 q → lA s q := by
    rintro q ⟨k, hk, rfl⟩
    exact hA2 k hk
  obtain ⟨t2, a1, b1⟩ := K T'.heap (locs ++ Lc) ls (zw_kept hC (zA shM σ2) (fun k hk => by rintro ⟨i, hi, h9⟩; exact hapart k i hk hi h9) (fun q h1 h2 => by rw [e1]; exact hk q h1 h2)) (by rw [e1]; exact hp) ⟨Nat.le_trans hS.1 (by rw [e1]; exact hz), fun q h1 h2 => by rw [e1, hk q (Nat.lt_of_lt_of_le h1 hS.1) (fun z => h2 (hAB q z))]; exact hS.2.1 q h1 h2, fun q hq => by
      rcases List.mem_append.mp hq with h | h
      · exact hS.2.2 q h
      · exact hAB _ (hL q h)⟩ hl T' rfl X'
  exact ⟨t2, stp t2 a1, b1⟩
/-- the end -/
theorem l_end (X : lX p s m meth c D cA σ1 σ2 tS b Ls xs) (hd1 : decode code pc = .ok (.iconst 1, 1)) (hd2 : decode code (pc + 1) = .ok (.ireturn, 1)) : Lj p l e s m below meth c D cA σ1 σ2 b pc L ([]) SC SM := fun H locs ls hC hM hS hl => lv_iconst (v := 1) X.1 X.2.1 hd1 (by decide) (va_forget (fun q hq => hS.2.2 q hq) (lw_ret X.1 X.2.1 X.2.2.2.2.2.1 X.2.2.2.2.2.2.1 hd2))
end LROWS
theorem lg_cmp_r (x : Int64) : lg_cmp x x = 0 := by
  have h := lg_eq x x
  rw [h]
