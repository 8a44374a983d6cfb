/-! CONSTRUCTORS: a world that grows, cell by cell -/
theorem fm_of {α β : Type} (f : α → Option β) : ∀ (l : List α) (r : List β), l.map f = r.map some → l.filterMap f = r := by
  intro l
  induction l with
  | nil =>
    intro r h
    cases r with
    | nil => rfl
    | cons b r => simp at h
  | cons a l ih =>
    intro r h
    cases r with
    | nil => simp at h
    | cons b r =>
      simp only [List.map_cons, List.cons.injEq] at h
      rw [List.filterMap_cons, h.1]
      simp only
      rw [ih r h.2]
/-- what the machine is at a constructor -/
def cM (p : Program) (s : State) (m : MethodId) (args : Array Value) (meth : Method) (c : Code) (D : va_G) (cA : Nat → ClassId) (A : Nat → Prop) (own : String) (cc : ByteArray) (nL : Nat) (ret : Option FieldType) : Prop :=
  p.tables.exec = Jvm.exec ∧ c.code = cc ∧ c.maxLocals = nL ∧ s.vm.findClass own = some m.cls ∧ (∀ w ∈ lw_tg, w.before args s = true) ∧ meth.sig.returnType = ret ∧ meth.locks = false ∧ va_K D vwCl (ztys cA) s ∧ ∀ q, s.heap.size ≤ q → A q
def Cj (p : Program) (l : Launch) (e : Env) (R : Room) (s : State) (m : MethodId) (args : Array Value) (below : List Frame) (meth : Method) (c : Code) (D : va_G) (A : Nat → Prop) (nL : Nat) (Q : State → Prop) (pc : Nat) (L : List (Nat × Value)) (st : List Value) (ws : va_W) (cells slots : Nat) : Prop :=
  ∀ (H : Heap) (locs : List Loc) (ls : Array Slot), va_P D vwCl ws H → va_D A ws → va_S A s.heap H locs → lv_has ls nL L → W p l e R s m args below meth c H locs cells slots Q (F0 m pc ls st)
/-- words of links between nest mates -/
abbrev nW : Type := String × Nat × MethodName × String
def nCond (q : nW) : Cond := .methodLinkNest q.1 q.2.1 q.2.2.1 q.2.2.2
def nAll (N : List nW) (U : State) : Prop := ∀ q ∈ N, va_Nw (nCond q) U
def cPre (D : va_G) (cA : Nat → ClassId) (N : List nW) (av : List Value) (w0 : va_W) (sz : Nat) : Array Value → State → Prop := fun v U => v = av.toArray ∧ U.heap.size = sz ∧ va_P D vwCl w0 U.heap ∧ va_K D vwCl (ztys cA) U ∧ va_D (fun _ => True) w0 ∧ nAll N U
def cPost (D : va_G) (A : Nat → Prop) (w1 : (Nat → Nat) → va_W) : Array Value → State → Outcome → State → Prop := va_Qv (fun _ : Nat → Nat => True) (fun τ t => va_P D vwCl (w1 τ) t.heap ∧ va_D A (w1 τ)) A
/-- a constructor's contract: from the cells w0 to the cells w1, at some addresses -/
def cMet (l : Launch) (D : va_G) (cA : Nat → ClassId) (N : List nW) (y : MethodName) (cc : ByteArray) (nL : Nat) (rm : Room) (av : List Value) (w0 : va_W) (w1 : (Nat → Nat) → va_W) (mc ms : Nat) : Prop := ∀ sz : Nat, Met l y (.code y cc nL none :: lw_tg) rm (cPre D cA N av w0 sz) (cPost D (va_A w0 sz) w1) mc ms (va_A w0 sz)
theorem cPre_blind {D : va_G} {cA : Nat → ClassId} {N : List nW} {av : List Value} {w0 : va_W} {sz : Nat} : FrameBlind (cPre D cA N av w0 sz) := fun a U g mk q => by
  obtain ⟨h1, h2, h3, h4, h5, h6⟩ := q
  exact ⟨h1, h2, h3, va_K.moved (u := U) (U := U.calling g mk a) (Vm.Alike.refl U.vm) h4, h5, fun q hq => va_Nw.same (u := U) (U := U.calling g mk a) rfl rfl (h6 q hq)⟩
/-- a field that is written in a constructor: its class's place and its own -/
def zH (own : String) (idx ci j : Nat) (ty : FieldType) : Prop := ∃ (C : String) (T : u_T) (N : Nat) (ty0 : Nat → FieldType), vwCl[ci]? = some (C, T, N) ∧ j < N ∧ (∀ w ∈ u_ws C T N, w ∈ lw_tg) ∧ Cond.fieldLink own idx (T j).1 (T j).2.1 (T j).2.2.1 ∈ lw_tg ∧ (∀ k, k < N → parseFieldDescriptor (T k).2.2.1 = some (ty0 k)) ∧ (∀ a, a < N → ∀ b, b < N → a ≠ b → (T a).2.1 ≠ (T b).2.1) ∧ ((T j).2.2.2 = false ∨ ((T j).2.2.2 = true ∧ (T j).1 = own)) ∧ parseFieldDescriptor (T j).2.2.1 = some ty
/-- a new object -/
def zN (own : String) (idx ci N : Nat) (fs : List Value) : Prop := ∃ (C : String) (T : u_T) (ty : Nat → FieldType), vwCl[ci]? = some (C, T, N) ∧ (∀ w ∈ u_ws C T N, w ∈ lw_tg) ∧ (∀ k, k < N → parseFieldDescriptor (T k).2.2.1 = some (ty k)) ∧ Cond.classLink own idx C ∈ lw_tg ∧ Cond.instantiable C N ∈ lw_tg ∧ Cond.initialized C ∈ lw_tg ∧ ∀ j, j < N → defaultValue (ty j) = vp_V fs j
section CROWS
variable {p : Program} {l : Launch} {e : Env} {R : Room} {s : State} {m : MethodId} {args : Array Value} {below : List Frame} {meth : Method} {c : Code} {D : va_G} {cA : Nat → ClassId} {A : Nat → Prop} {own : String} {cc : ByteArray} {nL : Nat} {ret : Option FieldType} {Q : State → Prop} {pc : Nat} {L : List (Nat × Value)} {st : List Value} {ws : va_W} {cells slots : Nat}
theorem c_iconst (X : cM p s m args meth c D cA A own cc nL ret) {n : Int} {v : Int32} (hd : decode cc pc = .ok (.iconst n, 1)) (hv : Int32.ofInt n = v) (K : Cj p l e R s m args below meth c D A nL Q (pc + 1) L (.int v :: st) ws cells slots) : Cj p l e R s m args below meth c D A nL Q pc L (st) ws cells slots := fun H locs ls hP hD hS hl => lv_iconst X.1 X.2.1 hd hv (K H locs ls hP hD hS hl)
theorem c_bipush (X : cM p s m args meth c D cA A own cc nL ret) {n : Int} {v : Int32} (hd : decode cc pc = .ok (.bipush n, 2)) (hv : (Int8.ofInt n).toInt32 = v) (K : Cj p l e R s m args below meth c D A nL Q (pc + 2) L (.int v :: st) ws cells slots) : Cj p l e R s m args below meth c D A nL Q pc L (st) ws cells slots := fun H locs ls hP hD hS hl => lv_bipush X.1 X.2.1 hd hv (K H locs ls hP hD hS hl)
theorem c_sipush (X : cM p s m args meth c D cA A own cc nL ret) {n : Int} {v : Int32} (hd : decode cc pc = .ok (.sipush n, 3)) (hv : (Int16.ofInt n).toInt32 = v) (K : Cj p l e R s m args below meth c D A nL Q (pc + 3) L (.int v :: st) ws cells slots) : Cj p l e R s m args below meth c D A nL Q pc L (st) ws cells slots := fun H locs ls hP hD hS hl => lv_sipush X.1 X.2.1 hd hv (K H locs ls hP hD hS hl)
theorem c_lconst (X : cM p s m args meth c D cA A own cc nL ret) {n : Fin 2} {v : Int64} (hd : decode cc pc = .ok (.lconst n, 1)) (hv : Int64.ofNat (n : Nat) = v) (K : Cj p l e R s m args below meth c D A nL Q (pc + 1) L (.long v :: st) ws cells slots) : Cj p l e R s m args below meth c D A nL Q pc L (st) ws cells slots := fun H locs ls hP hD hS hl => lv_lconst X.1 X.2.1 hd hv (K H locs ls hP hD hS hl)
theorem c_imul (X : cM p s m args meth c D cA A own cc nL ret) {x y z : Int32} (hd : decode cc pc = .ok (.imul, 1)) (hz : x * y = z) (K : Cj p l e R s m args below meth c D A nL Q (pc + 1) L (.int z :: st) ws cells slots) : Cj p l e R s m args below meth c D A nL Q pc L (.int y :: .int x :: st) ws cells slots := fun H locs ls hP hD hS hl => lv_imul X.1 X.2.1 hd (by rw [hz]; exact K H locs ls hP hD hS hl)
theorem c_iadd (X : cM p s m args meth c D cA A own cc nL ret) {x y z : Int32} (hd : decode cc pc = .ok (.iadd, 1)) (hz : x + y = z) (K : Cj p l e R s m args below meth c D A nL Q (pc + 1) L (.int z :: st) ws cells slots) : Cj p l e R s m args below meth c D A nL Q pc L (.int y :: .int x :: st) ws cells slots := fun H locs ls hP hD hS hl => lv_iadd X.1 X.2.1 hd (by rw [hz]; exact K H locs ls hP hD hS hl)
theorem c_ladd (X : cM p s m args meth c D cA A own cc nL ret) {x y : Int64} (hd : decode cc pc = .ok (.ladd, 1)) (K : Cj p l e R s m args below meth c D A nL Q (pc + 1) L (.long (x + y) :: st) ws cells slots) : Cj p l e R s m args below meth c D A nL Q pc L (.long y :: .long x :: st) ws cells slots := fun H locs ls hP hD hS hl => lv_ladd X.1 X.2.1 hd (K H locs ls hP hD hS hl)
theorem c_lsub (X : cM p s m args meth c D cA A own cc nL ret) {x y : Int64} (hd : decode cc pc = .ok (.lsub, 1)) (K : Cj p l e R s m args below meth c D A nL Q (pc + 1) L (.long (x - y) :: st) ws cells slots) : Cj p l e R s m args below meth c D A nL Q pc L (.long y :: .long x :: st) ws cells slots := fun H locs ls hP hD hS hl => lv_lsub X.1 X.2.1 hd (K H locs ls hP hD hS hl)
theorem c_dup (X : cM p s m args meth c D cA A own cc nL ret) {va : Value} (hd : decode cc pc = .ok (.dup, 1)) (h1 : va.category = 1) (K : Cj p l e R s m args below meth c D A nL Q (pc + 1) L (va :: va :: st) ws cells slots) : Cj p l e R s m args below meth c D A nL Q pc L (va :: st) ws cells slots := fun H locs ls hP hD hS hl => lv_dup X.1 X.2.1 hd h1 (K H locs ls hP hD hS hl)
theorem c_dup2 (X : cM p s m args meth c D cA A own cc nL ret) {va vb : Value} (hd : decode cc pc = .ok (.dup2, 1)) (h1 : va.category = 1) (h2 : vb.category = 1) (K : Cj p l e R s m args below meth c D A nL Q (pc + 1) L (va :: vb :: va :: vb :: st) ws cells slots) : Cj p l e R s m args below meth c D A nL Q pc L (va :: vb :: st) ws cells slots := fun H locs ls hP hD hS hl => lv_dup2_11 X.1 X.2.1 hd h1 h2 (K H locs ls hP hD hS hl)
theorem c_iload_n (X : cM p s m args meth c D cA A own cc nL ret) {k : Fin 4} {i : Nat} {x : Int32} (hd : decode cc pc = .ok (.iload_n k, 1)) (hi : (k : Nat) = i) (q : Nat) (hq : L[q]? = some (i, .int x)) (K : Cj p l e R s m args below meth c D A nL Q (pc + 1) L (.int x :: st) ws cells slots) : Cj p l e R s m args below meth c D A nL Q pc L (st) ws cells slots := fun H locs ls hP hD hS hl => lv_iload_n X.1 X.2.1 hd hi (lv_at hl q hq) (K H locs ls hP hD hS hl)
theorem c_iload (X : cM p s m args meth c D cA A own cc nL ret) {i : Nat} {x : Int32} (hd : decode cc pc = .ok (.iload i, 2)) (q : Nat) (hq : L[q]? = some (i, .int x)) (K : Cj p l e R s m args below meth c D A nL Q (pc + 2) L (.int x :: st) ws cells slots) : Cj p l e R s m args below meth c D A nL Q pc L (st) ws cells slots := fun H locs ls hP hD hS hl => lv_iload X.1 X.2.1 hd (lv_at hl q hq) (K H locs ls hP hD hS hl)
theorem c_lload_n (X : cM p s m args meth c D cA A own cc nL ret) {k : Fin 4} {i : Nat} {x : Int64} (hd : decode cc pc = .ok (.lload_n k, 1)) (hi : (k : Nat) = i) (q : Nat) (hq : L[q]? = some (i, .long x)) (K : Cj p l e R s m args below meth c D A nL Q (pc + 1) L (.long x :: st) ws cells slots) : Cj p l e R s m args below meth c D A nL Q pc L (st) ws cells slots := fun H locs ls hP hD hS hl => lv_lload_n X.1 X.2.1 hd hi (lv_at hl q hq) (K H locs ls hP hD hS hl)
theorem c_aload_n (X : cM p s m args meth c D cA A own cc nL ret) {k : Fin 4} {i : Nat} {x : Nat} (hd : decode cc pc = .ok (.aload_n k, 1)) (hi : (k : Nat) = i) (q : Nat) (hq : L[q]? = some (i, .ref x)) (K : Cj p l e R s m args below meth c D A nL Q (pc + 1) L (.ref x :: st) ws cells slots) : Cj p l e R s m args below meth c D A nL Q pc L (st) ws cells slots := fun H locs ls hP hD hS hl => lv_aload_n X.1 X.2.1 hd hi (lv_at hl q hq) (K H locs ls hP hD hS hl)
theorem c_istore_n (X : cM p s m args meth c D cA A own cc nL ret) {k : Fin 4} {i : Nat} {x : Int32} {L' : List (Nat × Value)} (hd : decode cc pc = .ok (.istore_n k, 1)) (hi : (k : Nat) = i) (hn : i < nL) (hL : (i, Value.int x) :: L.filter (fun q => !(q.1 == i) && !(q.1 + 1 == i && q.2.category == 2)) = L') (K : Cj p l e R s m args below meth c D A nL Q (pc + 1) L' (st) ws cells slots) : Cj p l e R s m args below meth c D A nL Q pc L (.int x :: st) ws cells slots := fun H locs ls hP hD hS hl => lv_istore_n X.1 X.2.1 hd hi hl hn hL (fun ls' hl' => K H locs ls' hP hD hS hl')
theorem c_istore (X : cM p s m args meth c D cA A own cc nL ret) {i : Nat} {x : Int32} {L' : List (Nat × Value)} (hd : decode cc pc = .ok (.istore i, 2)) (hn : i < nL) (hL : (i, Value.int x) :: L.filter (fun q => !(q.1 == i) && !(q.1 + 1 == i && q.2.category == 2)) = L') (K : Cj p l e R s m args below meth c D A nL Q (pc + 2) L' (st) ws cells slots) : Cj p l e R s m args below meth c D A nL Q pc L (.int x :: st) ws cells slots := fun H locs ls hP hD hS hl => lv_istore X.1 X.2.1 hd hl hn hL (fun ls' hl' => K H locs ls' hP hD hS hl')
theorem c_astore_n (X : cM p s m args meth c D cA A own cc nL ret) {k : Fin 4} {i : Nat} {x : Nat} {L' : List (Nat × Value)} (hd : decode cc pc = .ok (.astore_n k, 1)) (hi : (k : Nat) = i) (hn : i < nL) (hL : (i, Value.ref x) :: L.filter (fun q => !(q.1 == i) && !(q.1 + 1 == i && q.2.category == 2)) = L') (K : Cj p l e R s m args below meth c D A nL Q (pc + 1) L' (st) ws cells slots) : Cj p l e R s m args below meth c D A nL Q pc L (.ref x :: st) ws cells slots := fun H locs ls hP hD hS hl => lv_astore_n X.1 X.2.1 hd hi hl hn hL (fun ls' hl' => K H locs ls' hP hD hS hl')
theorem c_iinc (X : cM p s m args meth c D cA A own cc nL ret) {i k : Nat} {n : Int} {x v : Int32} {L' : List (Nat × Value)} (hd : decode cc pc = .ok (.iinc i n, 3)) (hk : L[k]? = some (i, .int x)) (hv : x + Int32.ofInt n = v) (hn : i < nL) (hL : (i, Value.int v) :: L.filter (fun q => !(q.1 == i) && !(q.1 + 1 == i && q.2.category == 2)) = L') (K : Cj p l e R s m args below meth c D A nL Q (pc + 3) L' (st) ws cells slots) : Cj p l e R s m args below meth c D A nL Q pc L (st) ws cells slots := fun H locs ls hP hD hS hl => lv_iinc X.1 X.2.1 hd hl hk hv hn hL (fun ls' hl' => K H locs ls' hP hD hS hl')
theorem c_goto (X : cM p s m args meth c D cA A own cc nL ret) {off : Int} {tgt : Nat} (hd : decode cc pc = .ok (.goto off, 3)) (ht : (pc : Int) + off = (tgt : Int)) (K : Cj p l e R s m args below meth c D A nL Q tgt L (st) ws cells slots) : Cj p l e R s m args below meth c D A nL Q pc L (st) ws cells slots := fun H locs ls hP hD hS hl => lv_goto X.1 X.2.1 hd ht (K H locs ls hP hD hS hl)
theorem c_ge_y (X : cM p s m args meth c D cA A own cc nL ret) {x y : Int32} {off : Int} {tgt : Nat} (hd : decode cc pc = .ok (.if_icmp .ge off, 3)) (ht : (pc : Int) + off = (tgt : Int)) (h : y ≤ x) (K : Cj p l e R s m args below meth c D A nL Q tgt L (st) ws cells slots) : Cj p l e R s m args below meth c D A nL Q pc L (.int y :: .int x :: st) ws cells slots := fun H locs ls hP hD hS hl => lv_icmp_ge X.1 X.2.1 hd ht (fun _ => K H locs ls hP hD hS hl) (fun q => absurd h q)
theorem c_ge_n (X : cM p s m args meth c D cA A own cc nL ret) {x y : Int32} {off : Int} {tgt : Nat} (hd : decode cc pc = .ok (.if_icmp .ge off, 3)) (ht : (pc : Int) + off = (tgt : Int)) (h : ¬ y ≤ x) (K : Cj p l e R s m args below meth c D A nL Q (pc + 3) L (st) ws cells slots) : Cj p l e R s m args below meth c D A nL Q pc L (.int y :: .int x :: st) ws cells slots := fun H locs ls hP hD hS hl => lv_icmp_ge X.1 X.2.1 hd ht (fun q => absurd q h) (fun _ => K H locs ls hP hD hS hl)
theorem c_world {ws' : va_W} (hw : ws = ws') (K : Cj p l e R s m args below meth c D A nL Q pc L (st) ws' cells slots) : Cj p l e R s m args below meth c D A nL Q pc L (st) ws cells slots := hw ▸ K
theorem c_locals {L' : List (Nat × Value)} (ks : List Nat) (hL : lv_pick L ks = L') (K : Cj p l e R s m args below meth c D A nL Q pc L' (st) ws cells slots) : Cj p l e R s m args below meth c D A nL Q pc L (st) ws cells slots := fun H locs ls hP hD hS hl => K H locs ls hP hD hS (lv_sub hl ks hL)
theorem c_get (X : cM p s m args meth c D cA A own cc nL ret) {idx ci j a : Nat} {nm : String} {fs : List Value} {v : Value} (k : Nat) (hF : zF own idx ci j nm) (he : ws[k]? = some (a, .inr (ci, fs))) (hv : fs[j]? = some v) (hd : decode cc pc = .ok (.getfield idx, 3)) (K : Cj p l e R s m args below meth c D A nL Q (pc + 3) L (v :: st) ws cells slots) : Cj p l e R s m args below meth c D A nL Q pc L (.ref a :: st) ws cells slots := fun H locs ls hP hD hS hl => by
  obtain ⟨C, T, N, h1, h2, h3, h4, -⟩ := hF
  obtain ⟨hx, hb, -, hown, hts, -, -, hK, -⟩ := X
  exact va_get hx hb hts h3 hown hK hP k he h1 j h2 (hts _ h4) (fun _ q => q) hv hd (K H locs ls hP hD hS hl)
theorem c_put (X : cM p s m args meth c D cA A own cc nL ret) (hI : meth.name = "<init>") {idx ci j a : Nat} {ty : FieldType} {fs fs' : List Value} {v : Value} {ws' : va_W} (k : Nat) (hH : zH own idx ci j ty) (he : ws[k]? = some (a, .inr (ci, fs))) (hn : narrow ty v = v) (hfit : fits ty v = true) (hl0 : j < fs.length) (hd : decode cc pc = .ok (.putfield idx, 3)) (hf : fs.set j v = fs') (hw : ws.set k (a, .inr (ci, fs')) = ws') (K : Cj p l e R s m args below meth c D A nL Q (pc + 3) L (st) ws' cells slots) : Cj p l e R s m args below meth c D A nL Q pc L (v :: .ref a :: st) ws cells slots := fun H locs ls hP hD hS hl => by
  subst hf
  subst hw
  obtain ⟨C, T, N, ty0, h1, h2, h3, h4, h5, h6, h7, h8⟩ := hH
  obtain ⟨hx, hb, -, hown, hts, -, -, hK, -⟩ := X
  rcases h7 with h7 | ⟨h7, h9⟩
  · exact va_put hx hb hts h3 ty0 h5 h6 hown hK hP hD hS k he h1 j h2 (hts _ h4) (fun _ q => q) h7 h8 hn hfit hl0 hd (fun H1 locs1 hP1 hD1 hS1 => K H1 locs1 ls hP1 hD1 hS1 hl)
  · exact va_putF hx hb hts h3 ty0 h5 h6 hown hK hP hD hS k he h1 j h2 (hts _ h4) (fun _ q => q) h7 hI h9 h8 hn hfit hl0 hd (fun H1 locs1 hP1 hD1 hS1 => K H1 locs1 ls hP1 hD1 hS1 hl)
theorem c_new (X : cM p s m args meth c D cA A own cc nL ret) {idx ci N : Nat} {fs : List Value} (hN : zN own idx ci N fs) (hc : cells + 1 ≤ R.cells) (hs : slots + N ≤ R.slots) (hd : decode cc pc = .ok (.new idx, 3)) (K : ∀ q : Nat, Cj p l e R s m args below meth c D A nL Q (pc + 3) L (.ref q :: st) (ws ++ [(q, .inr (ci, fs))]) (cells + 1) (slots + N)) : Cj p l e R s m args below meth c D A nL Q pc L (st) ws cells slots := fun H locs ls hP hD hS hl => by
  obtain ⟨C, T, ty, h1, h2, h3, h4, h5, h6, h7⟩ := hN
  obtain ⟨hx, hb, -, hown, hts, -, -, hK, hA⟩ := X
  exact va_new hx hb hts h2 ty h3 hown (hts _ h4) (hts _ h5) (hts _ h6) hK hP hD hS hA h1 h7 hc hs hd (fun q H1 hP1 hD1 hS1 => K q H1 locs ls hP1 hD1 hS1 hl)
theorem ac_int : Cond.arrayClass .int ∈ lw_tg := tgm 80 (by decide +kernel) (by decide +kernel)
theorem ac_long : Cond.arrayClass .long ∈ lw_tg := tgm 79 (by decide +kernel) (by decide +kernel)
theorem ac_bool : Cond.arrayClass .boolean ∈ lw_tg := tgm 204 (by decide +kernel) (by decide +kernel)
theorem same_ty {U : State} {x y : ClassId} {i j : Nat} {t1 t2 : List (ClassId × FieldType)} {ty : FieldType} (h1 : va_K D vwCl t1 U) (h2 : va_K D vwCl t2 U) (e1 : t1[i]? = some (x, ty)) (e2 : t2[j]? = some (y, ty)) (ht : ty = .int ∨ ty = .long ∨ ty = .boolean) : x = y := by
  have a := (h1.2 i _ e1).2
  have b := (h2.2 j _ e2).2
  rcases ht with rfl | rfl | rfl
  · have a' : U.vm.findClass _ = some x := a
    have b' : U.vm.findClass _ = some y := b
    exact Option.some.inj (a'.symm.trans b')
  · have a' : U.vm.findClass _ = some x := a
    have b' : U.vm.findClass _ = some y := b
    exact Option.some.inj (a'.symm.trans b')
  · have a' : U.vm.findClass _ = some x := a
    have b' : U.vm.findClass _ = some y := b
    exact Option.some.inj (a'.symm.trans b')
theorem c_newaI (X : cM p s m args meth c D cA A own cc nL ret) {n : Int32} {N : Nat} (hn : ¬ n < 0) (hN : n.toNatClampNeg = N) (hbytes : N * componentBytes .int ≤ 536870912) (hc : cells + 1 ≤ R.cells) (hs : slots + N ≤ R.slots) (hd : decode cc pc = .ok (.newarray .int, 2)) (K : ∀ q : Nat, Cj p l e R s m args below meth c D A nL Q (pc + 2) L (.ref q :: st) (ws ++ [(q, .inl (cA 0, N, .inl (fun _ => 0)))]) (cells + 1) (slots + N)) : Cj p l e R s m args below meth c D A nL Q pc L (.int n :: st) ws cells slots := fun H locs ls hP hD hS hl => by
  obtain ⟨hx, hb, -, hown, hts, -, -, hK, hA⟩ := X
  refine va_newa (atype := .int) (ty := .int) (a0 := (N, .inl (fun _ => 0))) hx hb (hts _ ac_int) rfl hK hP hD hS hA (fun _ => rfl) hn hN hbytes hc hs hd (fun q cB H1 hK1 hP1 hD1 hS1 => ?_)
  have e : cB = cA 0 := same_ty (i := 3) (j := 0) hK1 hK rfl rfl (by simp)
  subst e
  exact K q H1 locs ls hP1 hD1 hS1 hl
theorem c_newaL (X : cM p s m args meth c D cA A own cc nL ret) {n : Int32} {N : Nat} (hn : ¬ n < 0) (hN : n.toNatClampNeg = N) (hbytes : N * componentBytes .long ≤ 536870912) (hc : cells + 1 ≤ R.cells) (hs : slots + N ≤ R.slots) (hd : decode cc pc = .ok (.newarray .long, 2)) (K : ∀ q : Nat, Cj p l e R s m args below meth c D A nL Q (pc + 2) L (.ref q :: st) (ws ++ [(q, .inl (cA 1, N, .inr (.inl (fun _ => 0))))]) (cells + 1) (slots + N)) : Cj p l e R s m args below meth c D A nL Q pc L (.int n :: st) ws cells slots := fun H locs ls hP hD hS hl => by
  obtain ⟨hx, hb, -, hown, hts, -, -, hK, hA⟩ := X
  refine va_newa (atype := .long) (ty := .long) (a0 := (N, .inr (.inl (fun _ => 0)))) hx hb (hts _ ac_long) rfl hK hP hD hS hA (fun _ => rfl) hn hN hbytes hc hs hd (fun q cB H1 hK1 hP1 hD1 hS1 => ?_)
  have e : cB = cA 1 := same_ty (i := 3) (j := 1) hK1 hK rfl rfl (by simp)
  subst e
  exact K q H1 locs ls hP1 hD1 hS1 hl
theorem c_newaZ (X : cM p s m args meth c D cA A own cc nL ret) {n : Int32} {N : Nat} (hn : ¬ n < 0) (hN : n.toNatClampNeg = N) (hbytes : N * componentBytes .boolean ≤ 536870912) (hc : cells + 1 ≤ R.cells) (hs : slots + N ≤ R.slots) (hd : decode cc pc = .ok (.newarray .boolean, 2)) (K : ∀ q : Nat, Cj p l e R s m args below meth c D A nL Q (pc + 2) L (.ref q :: st) (ws ++ [(q, .inl (cA 2, N, .inl (fun _ => 0)))]) (cells + 1) (slots + N)) : Cj p l e R s m args below meth c D A nL Q pc L (.int n :: st) ws cells slots := fun H locs ls hP hD hS hl => by
  obtain ⟨hx, hb, -, hown, hts, -, -, hK, hA⟩ := X
  refine va_newa (atype := .boolean) (ty := .boolean) (a0 := (N, .inl (fun _ => 0))) hx hb (hts _ ac_bool) rfl hK hP hD hS hA (fun _ => rfl) hn hN hbytes hc hs hd (fun q cB H1 hK1 hP1 hD1 hS1 => ?_)
  have e : cB = cA 2 := same_ty (i := 3) (j := 2) hK1 hK rfl rfl (by simp)
  subst e
  exact K q H1 locs ls hP1 hD1 hS1 hl
theorem c_iast (X : cM p s m args meth c D cA A own cc nL ret) {a n : Nat} {f : Nat → Int32} {i x : Int32} {ws' : va_W} (k : Nat) (he : ws[k]? = some (a, .inl (cA 0, n, .inl f))) (hin : zin i n = true) (hd : decode cc pc = .ok (.iastore, 1)) (hw : ws.set k (a, .inl (cA 0, n, .inl (upd f i.toNatClampNeg x))) = ws') (K : Cj p l e R s m args below meth c D A nL Q (pc + 1) L (st) ws' cells slots) : Cj p l e R s m args below meth c D A nL Q pc L (.int x :: .int i :: .ref a :: st) ws cells slots := fun H locs ls hP hD hS hl => by
  subst hw
  exact va_iast X.1 X.2.1 X.2.2.2.2.2.2.2.1 hP hD hS k 0 he rfl (zin_in hin) hd (fun H1 locs1 hP1 hD1 hS1 => K H1 locs1 ls hP1 hD1 hS1 hl)
theorem c_last (X : cM p s m args meth c D cA A own cc nL ret) {a n : Nat} {f : Nat → Int64} {i : Int32} {x : Int64} {ws' : va_W} (k : Nat) (he : ws[k]? = some (a, .inl (cA 1, n, .inr (.inl f)))) (hin : zin i n = true) (hd : decode cc pc = .ok (.lastore, 1)) (hw : ws.set k (a, .inl (cA 1, n, .inr (.inl (vp_updL f i.toNatClampNeg x)))) = ws') (K : Cj p l e R s m args below meth c D A nL Q (pc + 1) L (st) ws' cells slots) : Cj p l e R s m args below meth c D A nL Q pc L (.long x :: .int i :: .ref a :: st) ws cells slots := fun H locs ls hP hD hS hl => by
  subst hw
  exact va_last X.1 X.2.1 X.2.2.2.2.2.2.2.1 hP hD hS k 1 he rfl (zin_in hin) hd (fun H1 locs1 hP1 hD1 hS1 => K H1 locs1 ls hP1 hD1 hS1 hl)
theorem c_lald (X : cM p s m args meth c D cA A own cc nL ret) {a n : Nat} {f : Nat → Int64} {i : Int32} (k : Nat) (he : ws[k]? = some (a, .inl (cA 1, n, .inr (.inl f)))) (hin : zin i n = true) (hd : decode cc pc = .ok (.laload, 1)) (K : Cj p l e R s m args below meth c D A nL Q (pc + 1) L (.long (f i.toNatClampNeg) :: st) ws cells slots) : Cj p l e R s m args below meth c D A nL Q pc L (.int i :: .ref a :: st) ws cells slots := fun H locs ls hP hD hS hl => va_lald X.1 X.2.1 X.2.2.2.2.2.2.2.1 hP k 1 he rfl (zin_in hin) hd (K H locs ls hP hD hS hl)
/-- Object's own constructor -/
def zO (own : String) (idx : Nat) : Prop := Cond.methodLink own idx Lib.objectInit ∈ lw_tg ∧ Cond.instanceMethod Lib.objectInit ∈ lw_tg ∧ Cond.code Lib.objectInit ⟨#[0xb1]⟩ 1 none ∈ lw_tg
theorem c_obj (X : cM p s m args meth c D cA A own cc nL ret) {idx a : Nat} (hO : zO own idx) (hd : decode cc pc = .ok (.invokespecial idx, 3)) (hR : 1 ≤ R.frames ∧ (st.map fun v => v.category).sum + 12 ≤ R.locals) (K : Cj p l e R s m args below meth c D A nL Q (pc + 3) L (st) ws cells slots) : Cj p l e R s m args below meth c D A nL Q pc L (.ref a :: st) ws cells slots := fun H locs ls hP hD hS hl => by
  obtain ⟨hx, hb, hml, hown, hts, -⟩ := X
  refine W.objInit hx hb hown (hts _ hO.1) (hts _ hO.2.1) (hts _ hO.2.2) rfl (by rw [hml]; exact hl.1) rfl hd hR.1 ?_ (W.eq (g2 := F0 m (pc + 3) ls st) rfl (K H locs ls hP hD hS hl))
  have := hR.2
  simp [F0]
  omega
/-- the words of a call of a constructor -/
def zK (own : String) (idx : Nat) (y : MethodName) (cd : ByteArray) (mL n : Nat) : Prop := Cond.methodLink own idx y ∈ lw_tg ∧ Cond.instanceMethod y ∈ lw_tg ∧ Cond.initialized y.cls ∈ lw_tg ∧ Cond.code y cd mL none ∈ lw_tg ∧ y.name = "<init>" ∧ (y.cls ≠ "java/lang/invoke/MethodHandle" ∧ y.cls ≠ "java/lang/invoke/VarHandle" ∧ (parseMethodDescriptor y.desc).map (fun d => d.parameters.length) = some n)
def zKN (y : MethodName) (cd : ByteArray) (mL n : Nat) : Prop := Cond.instanceMethod y ∈ lw_tg ∧ Cond.initialized y.cls ∈ lw_tg ∧ Cond.code y cd mL none ∈ lw_tg ∧ y.name = "<init>" ∧ (y.cls ≠ "java/lang/invoke/MethodHandle" ∧ y.cls ≠ "java/lang/invoke/VarHandle" ∧ (parseMethodDescriptor y.desc).map (fun d => d.parameters.length) = some n)
theorem zK_good {y : MethodName} {cd : ByteArray} {mL : Nat} {rt : Option FieldType} (h : Cond.code y cd mL rt ∈ lw_tg) : GoodIn lw_tg (.code y cd mL rt :: lw_tg) := lw_goodIn (fun w hw => by
  rcases List.mem_cons.mp hw with rfl | hw
  · exact h
  · exact hw)
theorem c_run (X : cM p s m args meth c D cA A own cc nL ret) {y : MethodName} {rm : Room} {mc ms a : Nat} {As : List Value} {N : List nW} {wc wr : va_W} {w1 : (Nat → Nat) → va_W} {stk : List Value} (isC isR : List Nat) (hC : isC.map (fun i => ws[i]?) = wc.map some) (hRr : isR.map (fun i => ws[i]?) = wr.map some) (hn1 : va_nd isC = true) (hn2 : va_nd isR = true) (hdis : ∀ i ∈ isR, i ∉ isC) (hN : nAll N s)
    (hr : ∀ (H : Heap) (locs : List Loc) (ls : Array Slot), lv_has ls nL L → PreS s H (cPre D cA N (.ref a :: As) wc H.size) (.ref a :: As) → va_P D vwCl wc H → va_Run p l e R s m args below meth c H locs cells slots mc ms (F0 m pc ls stk) st (cPost D (va_A wc H.size) w1 (Value.ref a :: As).toArray) (va_A wc H.size))
    (K : ∀ τ : Nat → Nat, Cj p l e R s m args below meth c D A nL Q (pc + 3) L (st) (wr ++ w1 τ) (cells + mc) (slots + ms)) : Cj p l e R s m args below meth c D A nL Q pc L (stk) ws cells slots := fun H locs ls hP hD hS hl => by
  obtain ⟨hx, hb, hml, hown, hts, -, -, hK, hA⟩ := id X
  have hPc : va_P D vwCl wc H := hP.sub isC (fm_of _ _ _ hC)
  have hDc := hD.sub isC hn1 hC
  have hFc := va_free (wc := wc) hD hS hA isC hC
  refine va_callv (hr H locs ls hl ⟨cPre_blind, fun U hU hW => ⟨rfl, by rw [hU], by rw [hU]; exact hPc, va_K.moved hW.alike hK, hDc.weaken (fun _ _ _ _ => trivial), fun q hq => va_Nw.warmM hW (hN q hq)⟩⟩ hPc) hS (fun q _ h => hFc q h) hFc (fun τ t H1 locs1 ht hvm _ hB hz1 hk1 hS1 => ?_)
  obtain ⟨hP1, hD1⟩ := hB
  rw [ht] at hP1
  obtain ⟨hP2, hD2⟩ := va_join (wr := wr) (w1 := w1 τ) hP hD isC isR hC hRr hn2 hdis hk1 hFc hP1 hD1
  exact K τ H1 locs1 ls hP2 hD2 hS1 hl
theorem c_call (X : cM p s m args meth c D cA A own cc nL ret) {idx n mL : Nat} {y : MethodName} {cd : ByteArray} {rm : Room} {mc ms a : Nat} {wc wr : va_W} {w1 : (Nat → Nat) → va_W} {stk : List Value} {N : List nW} (As : List Value) (isC isR : List Nat) (hC : isC.map (fun i => ws[i]?) = wc.map some) (hRr : isR.map (fun i => ws[i]?) = wr.map some) (hn1 : va_nd isC = true) (hn2 : va_nd isR = true) (hdis : ∀ i ∈ isR, i ∉ isC) (hN : nAll N s) (hKw : zK own idx y cd mL n) (hM : cMet l D cA N y cd mL rm (.ref a :: As) wc w1 mc ms) (hAs : As.length = n) (hst : stk = As.reverse ++ .ref a :: st) (hW : (st.map fun v => v.category).sum ≤ 8) (hrm : rm.cells = mc ∧ rm.slots = ms ∧ rm.frames + 1 ≤ R.frames ∧ 8 + (mL + 11) + rm.locals ≤ R.locals) (hcs : cells + mc ≤ R.cells ∧ slots + ms ≤ R.slots) (hd : decode cc pc = .ok (.invokespecial idx, 3))
    (K : ∀ τ : Nat → Nat, Cj p l e R s m args below meth c D A nL Q (pc + 3) L (st) (wr ++ w1 τ) (cells + mc) (slots + ms)) : Cj p l e R s m args below meth c D A nL Q pc L (stk) ws cells slots := by
  obtain ⟨k1, k2, k3, k4, k5, k6⟩ := hKw
  obtain ⟨hx, hb, hml, hown, hts, -, -, hK, hA⟩ := id X
  exact c_run X (y := y) (rm := rm) isC isR hC hRr hn1 hn2 hdis hN (fun H locs ls hl hp _ => va_runI (As := As) (rest := st) ⟨hx, hb, hml, hown, hts⟩ (hM H.size) (cwI n hts (zK_good k4) rfl hrm.1 hrm.2.1 (hts _ k3) (hts _ k1) (hts _ k2) k5 k6 ⟨hrm.2.2.1, hrm.2.2.2⟩) hp rfl hAs hl.1 hst (lv_room hW) hd hcs) K
theorem c_callN (X : cM p s m args meth c D cA A own cc nL ret) {idx n mL : Nat} {y : MethodName} {cd : ByteArray} {rm : Room} {mc ms a : Nat} {host : String} {wc wr : va_W} {w1 : (Nat → Nat) → va_W} {stk : List Value} {N : List nW} (As : List Value) (isC isR : List Nat) (hC : isC.map (fun i => ws[i]?) = wc.map some) (hRr : isR.map (fun i => ws[i]?) = wr.map some) (hn1 : va_nd isC = true) (hn2 : va_nd isR = true) (hdis : ∀ i ∈ isR, i ∉ isC) (hN : nAll N s) (hLk : va_Nw (.methodLinkNest own idx y host) s) (hKw : zKN y cd mL n) (hM : cMet l D cA N y cd mL rm (.ref a :: As) wc w1 mc ms) (hAs : As.length = n) (hst : stk = As.reverse ++ .ref a :: st) (hW : (st.map fun v => v.category).sum ≤ 8) (hrm : rm.cells = mc ∧ rm.slots = ms ∧ rm.frames + 1 ≤ R.frames ∧ 8 + (mL + 11) + rm.locals ≤ R.locals) (hcs : cells + mc ≤ R.cells ∧ slots + ms ≤ R.slots) (hd : decode cc pc = .ok (.invokespecial idx, 3))
    (K : ∀ τ : Nat → Nat, Cj p l e R s m args below meth c D A nL Q (pc + 3) L (st) (wr ++ w1 τ) (cells + mc) (slots + ms)) : Cj p l e R s m args below meth c D A nL Q pc L (stk) ws cells slots := by
  obtain ⟨k2, k3, k4, k5, k6⟩ := hKw
  obtain ⟨hx, hb, hml, hown, hts, -, -, hK, hA⟩ := id X
  exact c_run X (y := y) (rm := rm) isC isR hC hRr hn1 hn2 hdis hN (fun H locs ls hl hp _ => va_runIN (As := As) (rest := st) ⟨hx, hb, hml, hown, hts⟩ (hM H.size) ⟨va_cnB n hts (zK_good k4) rfl hrm.1 hrm.2.1 hLk (hts _ k3) k6 ⟨hrm.2.2.1, hrm.2.2.2⟩, k5, hts _ k2⟩ hp rfl hAs hl.1 hst (lv_room hW) hd hcs) K
/-- a call of a method that makes nothing, of an object -/
theorem c_callV (X : cM p s m args meth c D cA A own cc nL ret) {idx ci n mL : Nat} {y : MethodName} {cd : ByteArray} {rm : Room} {a k0 : Nat} {fs : List Value} {wc wr : va_W} {w1 : (Nat → Nat) → va_W} {stk : List Value} (As : List Value) (isC isR : List Nat) (hC : isC.map (fun i => ws[i]?) = wc.map some) (hRr : isR.map (fun i => ws[i]?) = wr.map some) (hn1 : va_nd isC = true) (hn2 : va_nd isR = true) (hdis : ∀ i ∈ isR, i ∉ isC) (hCV : zCV own idx ci y cd mL none n) (hob : wc[k0]? = some (a, .inr (ci, fs))) (hM : cMet l D cA [] y cd mL rm (.ref a :: As) wc w1 0 0) (hAs : As.length = n) (hst : stk = As.reverse ++ .ref a :: st) (hW : (st.map fun v => v.category).sum ≤ 8) (hrm : rm.cells = 0 ∧ rm.slots = 0 ∧ rm.frames + 1 ≤ R.frames ∧ 8 + (mL + 11) + rm.locals ≤ R.locals) (hcs : cells + 0 ≤ R.cells ∧ slots + 0 ≤ R.slots) (hd : decode cc pc = .ok (.invokevirtual idx, 3))
    (K : ∀ τ : Nat → Nat, Cj p l e R s m args below meth c D A nL Q (pc + 3) L (st) (wr ++ w1 τ) (cells + 0) (slots + 0)) : Cj p l e R s m args below meth c D A nL Q pc L (stk) ws cells slots := by
  obtain ⟨⟨T, N, hci⟩, hG, hy⟩ := hCV
  obtain ⟨hx, hb, hml, hown, hts, -, -, hK, hA⟩ := id X
  exact c_run X (y := y) (rm := rm) isC isR hC hRr hn1 hn2 hdis (N := []) (fun q hq => by cases hq) (fun H locs ls hl hp hPc => va_runV (As := As) (rest := st) ⟨hx, hb, hml, hown, hts⟩ (hM H.size) (cwV n hts hG rfl hrm.1 hrm.2.1 hy ⟨hrm.2.2.1, hrm.2.2.2⟩) ⟨hp.1, va_recv hK hPc hci hob, hp.2⟩ rfl hAs hl.1 hst (lv_room hW) hd hcs) K
theorem c_ret {w1 : (Nat → Nat) → va_W} {mc ms : Nat} (X : cM p s m args meth c D cA A own cc nL none) (τ : Nat → Nat) (hw : ws = w1 τ) (h1 : cells ≤ mc) (h2 : slots ≤ ms) (hd : decode cc pc = .ok (.return_, 1)) : Cj p l e R s m args below meth c D A nL (MQ below (cPost D A w1) args s mc ms A) pc L [] ws cells slots := fun H locs ls hP hD hS hl => by
  obtain ⟨hx, hb, -, -, -, hr, hlk, -⟩ := X
  subst hw
  refine W.widen h1 h2 ?_
  exact W.vret hx hb hr (fun t ht hW => ⟨⟨τ, rfl, trivial, by rw [ht]; exact hP, hD⟩, hS.F ht⟩) hS.2.2 hd hlk
end CROWS
/-- a constructor (or a method that answers nothing) by its walk -/
theorem c_met {l : Launch} {D : va_G} {cA : Nat → ClassId} {N : List nW} {y : MethodName} {cc : ByteArray} {nL : Nat} {rm : Room} {av : List Value} {w0 : va_W} {w1 : (Nat → Nat) → va_W} {mc ms : Nat} (L : List (Nat × Value)) (hy : plainName y.cls = true) (hn : (lg_sl av).length ≤ nL) (hL : lv_args 0 av = L) (K : ∀ (p : Program) (e : Env) (s : State) (m : MethodId) (below : List Frame) (meth : Method) (c : Code) (A : Nat → Prop), cM p s m av.toArray meth c D cA A y.cls cc nL none → meth.name = y.name → nAll N s → Cj p l e rm s m av.toArray below meth c D A nL (MQ below (cPost D A w1) av.toArray s mc ms A) 0 L [] w0 0 0) : cMet l D cA N y cc nL rm av w0 w1 mc ms := by
  intro sz
  refine Met.ofW (cc := cc) (maxL := nL) (ret := none) hy rfl ?_
  intro p e s m args below meth c s₁ B hml hv
  obtain ⟨rfl, rfl, hP, hK, hD0, hN⟩ := hv
  have hts := atoms_spec (ws := Cond.code y cc nL none :: lw_tg) B.pre
  have hX : cM p s m av.toArray meth c D cA (va_A w0 s.heap.size) y.cls cc nL none := ⟨B.exec, B.bytes, hml, findClass_of_methodNamed B.named, fun w hw => hts w (List.mem_cons_of_mem _ hw), B.returns, B.notSynchronized, hK, fun q hq => Or.inr hq⟩
  have hl := lv_entry av (n := nL) hn
  rw [lg_entry_eq]
  exact K p e s m below meth c _ hX (name_of_methodNamed B.named B.method).1 hN s.heap [] _ hP hD0.self va_S.rf (hL ▸ hl)
