/-- the tables' words that a callee may ask for -/
def lw_tg : List Cond := lw_tbl.filter goodWord
/-! THE STATE OF A SYSTEM WHOSE CELLS ARE ALL MADE: ints (and booleans) and longs, by cell and place; the shape is told ahead -/
abbrev St : Type := (Nat → Nat → Int32) × (Nat → Nat → Int64)
def wI (S : St) (k j : Nat) (v : Int32) : St := (fun k' j' => if k' = k ∧ j' = j then v else S.1 k' j', S.2)
def wL (S : St) (k j : Nat) (v : Int64) : St := (S.1, fun k' j' => if k' = k ∧ j' = j then v else S.2 k' j')
def wC (S : St) (k : Nat) (f : Nat → Int64) : St := (S.1, fun k' j' => if k' = k then f j' else S.2 k' j')
/-- an object: its class's place in vwCl, its fields' kinds (0 an int or boolean, 1 a long, 2 a reference that moves, t + 3 the cell t for ever); or a row: its kind (0 ints, 1 longs, 2 booleans), its length -/
abbrev zk : Type := (Nat × List Nat) ⊕ (Nat × Nat)
def zfv (σ : Nat → Nat) (S : St) (k j : Nat) : Nat → Value
  | 0 => .int (S.1 k j)
  | 1 => .long (S.2 k j)
  | 2 => .ref (σ (S.1 k j).toNatClampNeg)
  | t + 3 => .ref (σ t)
def zfs (σ : Nat → Nat) (S : St) (k : Nat) (ts : List Nat) : List Value := ts.mapIdx (fun j t => zfv σ S k j t)
def zcell (cA : Nat → ClassId) (σ : Nat → Nat) (S : St) (k : Nat) : zk → va_E
  | .inl o => .inr (o.1, zfs σ S k o.2)
  | .inr q => if q.1 = 1 then .inl (cA 1, q.2, .inr (.inl (S.2 k))) else .inl (cA q.1, q.2, .inl (S.1 k))
def zw (sh : List zk) (cA : Nat → ClassId) (σ : Nat → Nat) (S : St) : va_W := sh.mapIdx (fun k e => (σ k, zcell cA σ S k e))
def zinj (sh : List zk) (σ : Nat → Nat) : Prop := ∀ i j : Nat, i < sh.length → j < sh.length → σ i = σ j → i = j
def zA (sh : List zk) (σ : Nat → Nat) : Nat → Prop := fun q => ∃ k : Nat, k < sh.length ∧ q = σ k
def zty : Nat → FieldType
  | 0 => .int
  | 1 => .long
  | _ => .boolean
def ztys (cA : Nat → ClassId) : List (ClassId × FieldType) := [(cA 0, .int), (cA 1, .long), (cA 2, .boolean)]
theorem zw_len {sh : List zk} {cA : Nat → ClassId} {σ : Nat → Nat} {S : St} : (zw sh cA σ S).length = sh.length := by simp [zw]
theorem zw_at {sh : List zk} {cA : Nat → ClassId} {σ : Nat → Nat} {S : St} {k : Nat} {e : zk} (h : sh[k]? = some e) : (zw sh cA σ S)[k]? = some (σ k, zcell cA σ S k e) := by simp [zw, List.getElem?_mapIdx, h]
theorem zw_lt {sh : List zk} {cA : Nat → ClassId} {σ : Nat → Nat} {S : St} {k : Nat} {q : Nat × va_E} (h : (zw sh cA σ S)[k]? = some q) : k < sh.length ∧ q.1 = σ k := by
  have hk : k < sh.length := by
    have := (List.getElem?_eq_some_iff.mp h).1
    rw [zw_len] at this
    exact this
  refine ⟨hk, ?_⟩
  rw [zw_at (e := sh[k]) (List.getElem?_eq_getElem hk)] at h
  cases h
  rfl
theorem zw_D {sh : List zk} {cA : Nat → ClassId} {σ : Nat → Nat} (S : St) (h : zinj sh σ) : va_D (zA sh σ) (zw sh cA σ S) := by
  refine ⟨fun i j p q hi hj e => ?_, fun k q hk => ?_⟩
  · obtain ⟨h1, h2⟩ := zw_lt hi
    obtain ⟨h3, h4⟩ := zw_lt hj
    exact h i j h1 h3 (by rw [← h2, ← h4]; exact e)
  · obtain ⟨h1, h2⟩ := zw_lt hk
    exact ⟨k, h1, h2⟩
theorem zw_set {sh : List zk} {cA : Nat → ClassId} {σ : Nat → Nat} {S S' : St} {k : Nat} {e : zk} {x : va_E} (he : sh[k]? = some e) (h0 : ∀ (i : Nat) (e' : zk), i ≠ k → zcell cA σ S i e' = zcell cA σ S' i e') (h1 : x = zcell cA σ S' k e) : (zw sh cA σ S).set k (σ k, x) = zw sh cA σ S' := by
  apply List.ext_getElem?
  intro i
  rw [List.getElem?_set]
  have hk : k < sh.length := (List.getElem?_eq_some_iff.mp he).1
  by_cases hi : k = i
  · subst hi
    rw [if_pos rfl, if_pos (by rw [zw_len]; exact hk), zw_at he, h1]
  · rw [if_neg hi]
    cases hs : sh[i]? with
    | none => simp [zw, List.getElem?_mapIdx, hs]
    | some e' => rw [zw_at hs, zw_at hs, h0 i e' (fun z => hi z.symm)]
theorem zfv_ne {σ : Nat → Nat} {S S' : St} {k j t : Nat} (h1 : S.1 k j = S'.1 k j) (h2 : S.2 k j = S'.2 k j) : zfv σ S k j t = zfv σ S' k j t := by
  match t with
  | 0 => simp [zfv, h1]
  | 1 => simp [zfv, h2]
  | 2 => simp [zfv, h1]
  | t + 3 => simp [zfv]
theorem zfs_eq {σ : Nat → Nat} {S S' : St} {k : Nat} {ts : List Nat} (h : ∀ j t : Nat, ts[j]? = some t → zfv σ S k j t = zfv σ S' k j t) : zfs σ S k ts = zfs σ S' k ts := by
  apply List.ext_getElem?
  intro i
  simp only [zfs, List.getElem?_mapIdx]
  cases hi : ts[i]? with
  | none => rfl
  | some t => simp [h i t hi]
theorem zfs_at {σ : Nat → Nat} {S : St} {k j t : Nat} {ts : List Nat} (h : ts[j]? = some t) : (zfs σ S k ts)[j]? = some (zfv σ S k j t) := by simp [zfs, List.getElem?_mapIdx, h]
theorem zfs_set {σ : Nat → Nat} {S S' : St} {k j t : Nat} {ts : List Nat} (hj : ts[j]? = some t) {v : Value} (hv : v = zfv σ S' k j t) (h : ∀ (i t' : Nat), i ≠ j → zfv σ S k i t' = zfv σ S' k i t') : (zfs σ S k ts).set j v = zfs σ S' k ts := by
  apply List.ext_getElem?
  intro i
  rw [List.getElem?_set]
  by_cases hi : j = i
  · subst hi
    rw [if_pos rfl, if_pos (by simp [zfs]; exact (List.getElem?_eq_some_iff.mp hj).1), zfs_at hj, hv]
  · rw [if_neg hi]
    simp only [zfs, List.getElem?_mapIdx]
    cases hs : ts[i]? with
    | none => rfl
    | some t' => simp [h i t' (fun z => hi z.symm)]
theorem zcell_ne {cA : Nat → ClassId} {σ : Nat → Nat} {S S' : St} {k : Nat} {e : zk} (h1 : ∀ j, S.1 k j = S'.1 k j) (h2 : ∀ j, S.2 k j = S'.2 k j) : zcell cA σ S k e = zcell cA σ S' k e := by
  have g1 : S.1 k = S'.1 k := funext h1
  have g2 : S.2 k = S'.2 k := funext h2
  cases e with
  | inl o => simp only [zcell]; rw [zfs_eq (fun j t _ => zfv_ne (h1 j) (h2 j))]
  | inr q => simp only [zcell, g1, g2]
theorem zw_putI {sh : List zk} {cA : Nat → ClassId} {σ : Nat → Nat} {S : St} {k ci j : Nat} {ts : List Nat} (he : sh[k]? = some (.inl (ci, ts))) (hj : ts[j]? = some 0) (x : Int32) : (zw sh cA σ S).set k (σ k, .inr (ci, (zfs σ S k ts).set j (.int x))) = zw sh cA σ (wI S k j x) := by
  refine zw_set he (fun i e' hi => zcell_ne (fun j' => by simp [wI, hi]) (fun j' => rfl)) ?_
  simp only [zcell]
  rw [zfs_set (σ := σ) (S := S) (k := k) hj (S' := wI S k j x) (v := .int x) (by simp [zfv, wI]) (fun i t' hi => zfv_ne (by simp [wI, hi]) rfl)]
theorem zw_putR {sh : List zk} {cA : Nat → ClassId} {σ : Nat → Nat} {S : St} {k ci j : Nat} {ts : List Nat} (he : sh[k]? = some (.inl (ci, ts))) (hj : ts[j]? = some 2) (x : Int32) : (zw sh cA σ S).set k (σ k, .inr (ci, (zfs σ S k ts).set j (.ref (σ x.toNatClampNeg)))) = zw sh cA σ (wI S k j x) := by
  refine zw_set he (fun i e' hi => zcell_ne (fun j' => by simp [wI, hi]) (fun j' => rfl)) ?_
  simp only [zcell]
  rw [zfs_set (σ := σ) (S := S) (k := k) hj (S' := wI S k j x) (v := .ref (σ x.toNatClampNeg)) (by simp [zfv, wI]) (fun i t' hi => zfv_ne (by simp [wI, hi]) rfl)]
theorem zw_putL {sh : List zk} {cA : Nat → ClassId} {σ : Nat → Nat} {S : St} {k ci j : Nat} {ts : List Nat} (he : sh[k]? = some (.inl (ci, ts))) (hj : ts[j]? = some 1) (x : Int64) : (zw sh cA σ S).set k (σ k, .inr (ci, (zfs σ S k ts).set j (.long x))) = zw sh cA σ (wL S k j x) := by
  refine zw_set he (fun i e' hi => zcell_ne (fun j' => rfl) (fun j' => by simp [wL, hi])) ?_
  simp only [zcell]
  rw [zfs_set (σ := σ) (S := S) (k := k) hj (S' := wL S k j x) (v := .long x) (by simp [zfv, wL]) (fun i t' hi => zfv_ne rfl (by simp [wL, hi]))]
theorem zw_stI {sh : List zk} {cA : Nat → ClassId} {σ : Nat → Nat} {S : St} {k n t : Nat} (ht : ¬ t = 1) (he : sh[k]? = some (.inr (t, n))) (j : Nat) (x : Int32) : (zw sh cA σ S).set k (σ k, .inl (cA t, n, .inl (upd (S.1 k) j x))) = zw sh cA σ (wI S k j x) := by
  refine zw_set he (fun i e' hi => zcell_ne (fun j' => by simp [wI, hi]) (fun j' => rfl)) ?_
  have hf : upd (S.1 k) j x = (wI S k j x).1 k := by
    funext q
    simp [upd, wI]
  simp only [zcell, ht, if_false]
  rw [hf]
theorem zw_stL {sh : List zk} {cA : Nat → ClassId} {σ : Nat → Nat} {S : St} {k n : Nat} (he : sh[k]? = some (.inr (1, n))) (f : Nat → Int64) : (zw sh cA σ S).set k (σ k, .inl (cA 1, n, .inr (.inl f))) = zw sh cA σ (wC S k f) := by
  refine zw_set he (fun i e' hi => zcell_ne (fun j' => rfl) (fun j' => by simp [wC, hi])) ?_
  simp [zcell, wC]
theorem wC_upd (S : St) (k j : Nat) (x : Int64) : wC S k (vp_updL (S.2 k) j x) = wL S k j x := by
  simp only [wC, wL, vp_updL, Prod.mk.injEq, true_and]
  funext a b
  by_cases h : a = k
  · subst h; simp
  · simp [h]
/-! what the machine is at a method of such a system -/
def zpk (j : Nat) : Int64 := [1, 0, 0, 0, 0, 0, 1, 1, 0, 0, 0, 0, 1, 2, 1, 0, 0, 0, 1, 3, 3, 1, 0, 0, 1, 4, 6, 4, 1, 0, 1, 5, 10, 10, 5, 1].getD j 0
def zT (tS : Nat) (A : Nat → Prop) (U : State) (H : Heap) : Prop := va_Z "ReadAge$Odds" "PICKS" "[J" (.ref tS) A U H ∧ va_T .long tS 36 (fun j => .long (zpk j)) A U H ∧ va_Nw (.methodLinkNest RX6 24 yX8_fits RX8) U
def zM (p : Program) (s : State) (m : MethodId) (args : Array Value) (meth : Method) (c : Code) (D : va_G) (cA : Nat → ClassId) (σ : Nat → Nat) (sh : List zk) (tS : Nat) (own : String) (cc : ByteArray) (nL : Nat) (ret : Option FieldType) : Prop :=
  p.tables.exec = Jvm.exec ∧ c.code = cc ∧ c.maxLocals = nL ∧ s.vm.findClass own = some m.cls ∧ (∀ w ∈ lw_tg, w.before args s = true) ∧ meth.sig.returnType = ret ∧ meth.locks = false ∧ va_K D vwCl (ztys cA) s ∧ zinj sh σ ∧ zT tS (zA sh σ) s s.heap
def zQ (D : va_G) (cA : Nat → ClassId) (σ : Nat → Nat) (sh : List zk) (rv : Option Value) (S' : St) : Array Value → State → Outcome → State → Prop := fun _ st oc t => (oc = .returned rv ∧ va_P D vwCl (zw sh cA σ S') t.heap) ∧ va_F (zA sh σ) st t
def zP (D : va_G) (cA : Nat → ClassId) (σ : Nat → Nat) (sh : List zk) (tS : Nat) (av : List Value) (S : St) : Array Value → State → Prop := fun v U => v = av.toArray ∧ va_P D vwCl (zw sh cA σ S) U.heap ∧ va_K D vwCl (ztys cA) U ∧ zinj sh σ ∧ zT tS (zA sh σ) U U.heap
def zMet (l : Launch) (D : va_G) (cA : Nat → ClassId) (σ : Nat → Nat) (sh : List zk) (tS : Nat) (y : MethodName) (cc : ByteArray) (maxL : Nat) (ret : Option FieldType) (rm : Room) (av : List Value) (S : St) (rv : Option Value) (S' : St) : Prop := Met l y (.code y cc maxL ret :: lw_tg) rm (zP D cA σ sh tS av S) (zQ D cA σ sh rv S') 0 0 (zA sh σ)
def Zj (p : Program) (l : Launch) (e : Env) (R : Room) (s : State) (m : MethodId) (args : Array Value) (below : List Frame) (meth : Method) (c : Code) (D : va_G) (cA : Nat → ClassId) (σ : Nat → Nat) (sh : List zk) (nL : Nat) (rv : Option Value) (S' : St) (pc : Nat) (L : List (Nat × Value)) (st : List Value) (S : St) : Prop :=
  ∀ (H : Heap) (locs : List Loc) (ls : Array Slot), va_P D vwCl (zw sh cA σ S) H → va_S (zA sh σ) s.heap H locs → lv_has ls nL L → W p l e R s m args below meth c H locs 0 0 (MQ below (zQ D cA σ sh rv S') args s 0 0 (zA sh σ)) (F0 m pc ls st)
/-! the words of the answers' functions -/
def zlet {α β : Type} (a : α) (f : α → β) : β := f a
def zg {α : Type} (b : Bool) (o : Option α) : Option α := if b = true then o else none
def zb {α β : Type} (o : Option (α × St)) (f : α → St → Option β) : Option β := match o with
  | none => none
  | some q => f q.1 q.2
def zin (i : Int32) (n : Nat) : Bool := decide (¬ (i < 0 ∨ n ≤ i.toNatClampNeg))
def zbo (x : Int32) : Bool := decide (x = 0 ∨ x = 1)
theorem fu_ex : ∃ n : Nat, 100000 ≤ n := ⟨100000, Nat.le_refl _⟩
/-- the answers' loops have this many rounds (no program unfolds it) -/
noncomputable def fu : Nat := Classical.choose fu_ex
theorem zin_in {i : Int32} {n : Nat} (h : zin i n = true) : vp_in i n := by
  unfold vp_in
  exact of_decide_eq_true h
theorem zg_some {α : Type} {b : Bool} {o : Option α} {r : α} (h : zg b o = some r) : b = true ∧ o = some r := by
  unfold zg at h
  split at h
  · exact ⟨by assumption, h⟩
  · cases h
theorem zb_some {α β : Type} {o : Option (α × St)} {f : α → St → Option β} {r : β} (h : zb o f = some r) : ∃ (a : α) (S : St), o = some (a, S) ∧ f a S = some r := by
  cases o with
  | none => cases h
  | some q => exact ⟨q.1, q.2, rfl, h⟩
theorem lw_goodIn {ws : List Cond} (h : ∀ w ∈ ws, w ∈ lw_tg) : GoodIn lw_tg ws := fun w hw => ⟨h w hw, good_of_word (List.mem_filter.mp (h w hw)).2⟩
section ZROWS
variable {p : Program} {l : Launch} {e : Env} {R : Room} {s : State} {m : MethodId} {args : Array Value} {below : List Frame} {meth : Method} {c : Code} {D : va_G} {cA : Nat → ClassId} {σ : Nat → Nat} {sh : List zk} {tS : Nat} {own : String} {cc : ByteArray} {nL : Nat} {ret : Option FieldType} {rv : Option Value} {S' S : St} {pc : Nat} {L : List (Nat × Value)} {st : List Value}
theorem z_iconst (X : zM p s m args meth c D cA σ sh tS own cc nL ret) {n : Int} {v : Int32} (hd : decode cc pc = .ok (.iconst n, 1)) (hv : Int32.ofInt n = v) (K : Zj p l e R s m args below meth c D cA σ sh nL rv S' (pc + 1) L (.int v :: st) S) : Zj p l e R s m args below meth c D cA σ sh nL rv S' pc L (st) S := fun H locs ls hP hS hl => lv_iconst X.1 X.2.1 hd hv (K H locs ls hP hS hl)
theorem z_bipush (X : zM p s m args meth c D cA σ sh tS own cc nL ret) {n : Int} {v : Int32} (hd : decode cc pc = .ok (.bipush n, 2)) (hv : (Int8.ofInt n).toInt32 = v) (K : Zj p l e R s m args below meth c D cA σ sh nL rv S' (pc + 2) L (.int v :: st) S) : Zj p l e R s m args below meth c D cA σ sh nL rv S' pc L (st) S := fun H locs ls hP hS hl => lv_bipush X.1 X.2.1 hd hv (K H locs ls hP hS hl)
theorem z_sipush (X : zM p s m args meth c D cA σ sh tS own cc nL ret) {n : Int} {v : Int32} (hd : decode cc pc = .ok (.sipush n, 3)) (hv : (Int16.ofInt n).toInt32 = v) (K : Zj p l e R s m args below meth c D cA σ sh nL rv S' (pc + 3) L (.int v :: st) S) : Zj p l e R s m args below meth c D cA σ sh nL rv S' pc L (st) S := fun H locs ls hP hS hl => lv_sipush X.1 X.2.1 hd hv (K H locs ls hP hS hl)
theorem z_lconst (X : zM p s m args meth c D cA σ sh tS own cc nL ret) {n : Fin 2} {v : Int64} (hd : decode cc pc = .ok (.lconst n, 1)) (hv : Int64.ofNat (n : Nat) = v) (K : Zj p l e R s m args below meth c D cA σ sh nL rv S' (pc + 1) L (.long v :: st) S) : Zj p l e R s m args below meth c D cA σ sh nL rv S' pc L (st) S := fun H locs ls hP hS hl => lv_lconst X.1 X.2.1 hd hv (K H locs ls hP hS hl)
theorem z_iadd (X : zM p s m args meth c D cA σ sh tS own cc nL ret) {x y : Int32} (hd : decode cc pc = .ok (.iadd, 1)) (K : Zj p l e R s m args below meth c D cA σ sh nL rv S' (pc + 1) L (.int (x + y) :: st) S) : Zj p l e R s m args below meth c D cA σ sh nL rv S' pc L (.int y :: .int x :: st) S := fun H locs ls hP hS hl => lv_iadd X.1 X.2.1 hd (K H locs ls hP hS hl)
theorem z_isub (X : zM p s m args meth c D cA σ sh tS own cc nL ret) {x y : Int32} (hd : decode cc pc = .ok (.isub, 1)) (K : Zj p l e R s m args below meth c D cA σ sh nL rv S' (pc + 1) L (.int (x - y) :: st) S) : Zj p l e R s m args below meth c D cA σ sh nL rv S' pc L (.int y :: .int x :: st) S := fun H locs ls hP hS hl => lv_isub X.1 X.2.1 hd (K H locs ls hP hS hl)
theorem z_imul (X : zM p s m args meth c D cA σ sh tS own cc nL ret) {x y : Int32} (hd : decode cc pc = .ok (.imul, 1)) (K : Zj p l e R s m args below meth c D cA σ sh nL rv S' (pc + 1) L (.int (x * y) :: st) S) : Zj p l e R s m args below meth c D cA σ sh nL rv S' pc L (.int y :: .int x :: st) S := fun H locs ls hP hS hl => lv_imul X.1 X.2.1 hd (K H locs ls hP hS hl)
theorem z_iand (X : zM p s m args meth c D cA σ sh tS own cc nL ret) {x y : Int32} (hd : decode cc pc = .ok (.iand, 1)) (K : Zj p l e R s m args below meth c D cA σ sh nL rv S' (pc + 1) L (.int (x &&& y) :: st) S) : Zj p l e R s m args below meth c D cA σ sh nL rv S' pc L (.int y :: .int x :: st) S := fun H locs ls hP hS hl => lv_iand X.1 X.2.1 hd (K H locs ls hP hS hl)
theorem z_ladd (X : zM p s m args meth c D cA σ sh tS own cc nL ret) {x y : Int64} (hd : decode cc pc = .ok (.ladd, 1)) (K : Zj p l e R s m args below meth c D cA σ sh nL rv S' (pc + 1) L (.long (x + y) :: st) S) : Zj p l e R s m args below meth c D cA σ sh nL rv S' pc L (.long y :: .long x :: st) S := fun H locs ls hP hS hl => lv_ladd X.1 X.2.1 hd (K H locs ls hP hS hl)
theorem z_lsub (X : zM p s m args meth c D cA σ sh tS own cc nL ret) {x y : Int64} (hd : decode cc pc = .ok (.lsub, 1)) (K : Zj p l e R s m args below meth c D cA σ sh nL rv S' (pc + 1) L (.long (x - y) :: st) S) : Zj p l e R s m args below meth c D cA σ sh nL rv S' pc L (.long y :: .long x :: st) S := fun H locs ls hP hS hl => lv_lsub X.1 X.2.1 hd (K H locs ls hP hS hl)
theorem z_lmul (X : zM p s m args meth c D cA σ sh tS own cc nL ret) {x y : Int64} (hd : decode cc pc = .ok (.lmul, 1)) (K : Zj p l e R s m args below meth c D cA σ sh nL rv S' (pc + 1) L (.long (x * y) :: st) S) : Zj p l e R s m args below meth c D cA σ sh nL rv S' pc L (.long y :: .long x :: st) S := fun H locs ls hP hS hl => lv_lmul X.1 X.2.1 hd (K H locs ls hP hS hl)
theorem z_land (X : zM p s m args meth c D cA σ sh tS own cc nL ret) {x y : Int64} (hd : decode cc pc = .ok (.land, 1)) (K : Zj p l e R s m args below meth c D cA σ sh nL rv S' (pc + 1) L (.long (x &&& y) :: st) S) : Zj p l e R s m args below meth c D cA σ sh nL rv S' pc L (.long y :: .long x :: st) S := fun H locs ls hP hS hl => lv_land X.1 X.2.1 hd (K H locs ls hP hS hl)
theorem z_lor (X : zM p s m args meth c D cA σ sh tS own cc nL ret) {x y : Int64} (hd : decode cc pc = .ok (.lor, 1)) (K : Zj p l e R s m args below meth c D cA σ sh nL rv S' (pc + 1) L (.long (x ||| y) :: st) S) : Zj p l e R s m args below meth c D cA σ sh nL rv S' pc L (.long y :: .long x :: st) S := fun H locs ls hP hS hl => lv_lor X.1 X.2.1 hd (K H locs ls hP hS hl)
theorem z_lushr (X : zM p s m args meth c D cA σ sh tS own cc nL ret) {x : Int64} {y : Int32} (hd : decode cc pc = .ok (.lushr, 1)) (K : Zj p l e R s m args below meth c D cA σ sh nL rv S' (pc + 1) L (.long ((x.toUInt64 >>> (y.toInt64.toUInt64 &&& Int64.toUInt64 63)).toInt64) :: st) S) : Zj p l e R s m args below meth c D cA σ sh nL rv S' pc L (.int y :: .long x :: st) S := fun H locs ls hP hS hl => lv_lushr X.1 X.2.1 hd rfl (K H locs ls hP hS hl)
theorem z_lshl (X : zM p s m args meth c D cA σ sh tS own cc nL ret) {x : Int64} {y : Int32} (hd : decode cc pc = .ok (.lshl, 1)) (K : Zj p l e R s m args below meth c D cA σ sh nL rv S' (pc + 1) L (.long (x <<< (y.toInt64 &&& 63)) :: st) S) : Zj p l e R s m args below meth c D cA σ sh nL rv S' pc L (.int y :: .long x :: st) S := fun H locs ls hP hS hl => lv_lshl X.1 X.2.1 hd rfl (K H locs ls hP hS hl)
theorem z_i2l (X : zM p s m args meth c D cA σ sh tS own cc nL ret) {x : Int32} (hd : decode cc pc = .ok (.i2l, 1)) (K : Zj p l e R s m args below meth c D cA σ sh nL rv S' (pc + 1) L (.long x.toInt64 :: st) S) : Zj p l e R s m args below meth c D cA σ sh nL rv S' pc L (.int x :: st) S := fun H locs ls hP hS hl => lv_i2l X.1 X.2.1 hd rfl (K H locs ls hP hS hl)
theorem z_l2i (X : zM p s m args meth c D cA σ sh tS own cc nL ret) {x : Int64} (hd : decode cc pc = .ok (.l2i, 1)) (K : Zj p l e R s m args below meth c D cA σ sh nL rv S' (pc + 1) L (.int x.toInt32 :: st) S) : Zj p l e R s m args below meth c D cA σ sh nL rv S' pc L (.long x :: st) S := fun H locs ls hP hS hl => lv_l2i X.1 X.2.1 hd rfl (K H locs ls hP hS hl)
theorem z_i2b (X : zM p s m args meth c D cA σ sh tS own cc nL ret) {x : Int32} (hd : decode cc pc = .ok (.i2b, 1)) (K : Zj p l e R s m args below meth c D cA σ sh nL rv S' (pc + 1) L (.int x.toInt8.toInt32 :: st) S) : Zj p l e R s m args below meth c D cA σ sh nL rv S' pc L (.int x :: st) S := fun H locs ls hP hS hl => lv_i2b X.1 X.2.1 hd rfl (K H locs ls hP hS hl)
theorem z_i2s (X : zM p s m args meth c D cA σ sh tS own cc nL ret) {x : Int32} (hd : decode cc pc = .ok (.i2s, 1)) (K : Zj p l e R s m args below meth c D cA σ sh nL rv S' (pc + 1) L (.int x.toInt16.toInt32 :: st) S) : Zj p l e R s m args below meth c D cA σ sh nL rv S' pc L (.int x :: st) S := fun H locs ls hP hS hl => lv_i2s X.1 X.2.1 hd rfl (K H locs ls hP hS hl)
theorem z_lcmp (X : zM p s m args meth c D cA σ sh tS own cc nL ret) {x y : Int64} (hd : decode cc pc = .ok (.lcmp, 1)) (K : Zj p l e R s m args below meth c D cA σ sh nL rv S' (pc + 1) L (.int (lg_cmp x y) :: st) S) : Zj p l e R s m args below meth c D cA σ sh nL rv S' pc L (.long y :: .long x :: st) S := fun H locs ls hP hS hl => W.lcmp X.1 X.2.1 hd (K H locs ls hP hS hl)
theorem z_dup (X : zM p s m args meth c D cA σ sh tS own cc nL ret) {va : Value} (hd : decode cc pc = .ok (.dup, 1)) (h1 : va.category = 1) (K : Zj p l e R s m args below meth c D cA σ sh nL rv S' (pc + 1) L (va :: va :: st) S) : Zj p l e R s m args below meth c D cA σ sh nL rv S' pc L (va :: st) S := fun H locs ls hP hS hl => lv_dup X.1 X.2.1 hd h1 (K H locs ls hP hS hl)
theorem z_pop (X : zM p s m args meth c D cA σ sh tS own cc nL ret) {va : Value} (hd : decode cc pc = .ok (.pop, 1)) (h1 : va.category = 1) (K : Zj p l e R s m args below meth c D cA σ sh nL rv S' (pc + 1) L (st) S) : Zj p l e R s m args below meth c D cA σ sh nL rv S' pc L (va :: st) S := fun H locs ls hP hS hl => lv_pop X.1 X.2.1 hd h1 (K H locs ls hP hS hl)
theorem z_dup_x1 (X : zM p s m args meth c D cA σ sh tS own cc nL ret) {va vb : Value} (hd : decode cc pc = .ok (.dup_x1, 1)) (h1 : va.category = 1) (h2 : vb.category = 1) (K : Zj p l e R s m args below meth c D cA σ sh nL rv S' (pc + 1) L (va :: vb :: va :: st) S) : Zj p l e R s m args below meth c D cA σ sh nL rv S' pc L (va :: vb :: st) S := fun H locs ls hP hS hl => lv_dup_x1 X.1 X.2.1 hd h1 h2 (K H locs ls hP hS hl)
theorem z_dup2_11 (X : zM p s m args meth c D cA σ sh tS own cc nL ret) {va vb : Value} (hd : decode cc pc = .ok (.dup2, 1)) (h1 : va.category = 1) (h2 : vb.category = 1) (K : Zj p l e R s m args below meth c D cA σ sh nL rv S' (pc + 1) L (va :: vb :: va :: vb :: st) S) : Zj p l e R s m args below meth c D cA σ sh nL rv S' pc L (va :: vb :: st) S := fun H locs ls hP hS hl => lv_dup2_11 X.1 X.2.1 hd h1 h2 (K H locs ls hP hS hl)
theorem z_dup2_2 (X : zM p s m args meth c D cA σ sh tS own cc nL ret) {va : Value} (hd : decode cc pc = .ok (.dup2, 1)) (h1 : va.category = 2) (K : Zj p l e R s m args below meth c D cA σ sh nL rv S' (pc + 1) L (va :: va :: st) S) : Zj p l e R s m args below meth c D cA σ sh nL rv S' pc L (va :: st) S := fun H locs ls hP hS hl => lv_dup2_2 X.1 X.2.1 hd h1 (K H locs ls hP hS hl)
theorem z_ldiv (X : zM p s m args meth c D cA σ sh tS own cc nL ret) {x y : Int64} {α : Type} {o : Option α} {r : α} (hd : decode cc pc = .ok (.ldiv, 1)) (h : zg (decide (¬ y = 0)) o = some r) (K : o = some r → Zj p l e R s m args below meth c D cA σ sh nL rv S' (pc + 1) L (.long (x / y) :: st) S) : Zj p l e R s m args below meth c D cA σ sh nL rv S' pc L (.long y :: .long x :: st) S := fun H locs ls hP hS hl => lv_ldiv X.1 X.2.1 hd (of_decide_eq_true (zg_some h).1) (K (zg_some h).2 H locs ls hP hS hl)
theorem z_lrem (X : zM p s m args meth c D cA σ sh tS own cc nL ret) {x y : Int64} {α : Type} {o : Option α} {r : α} (hd : decode cc pc = .ok (.lrem, 1)) (h : zg (decide (¬ y = 0)) o = some r) (K : o = some r → Zj p l e R s m args below meth c D cA σ sh nL rv S' (pc + 1) L (.long (x - x / y * y) :: st) S) : Zj p l e R s m args below meth c D cA σ sh nL rv S' pc L (.long y :: .long x :: st) S := fun H locs ls hP hS hl => lv_lrem X.1 X.2.1 hd (of_decide_eq_true (zg_some h).1) (K (zg_some h).2 H locs ls hP hS hl)
theorem z_ldc (X : zM p s m args meth c D cA σ sh tS own cc nL ret) {idx : Nat} {v : Int32} (hd : decode cc pc = .ok (.ldc idx, 2)) (hw : Cond.constant own idx v ∈ lw_tg) (K : Zj p l e R s m args below meth c D cA σ sh nL rv S' (pc + 2) L (.int v :: st) S) : Zj p l e R s m args below meth c D cA σ sh nL rv S' pc L st S := fun H locs ls hP hS hl => lv_ldc X.1 X.2.1 X.2.2.2.1 (X.2.2.2.2.1 _ hw) hd (K H locs ls hP hS hl)
theorem z_ldc2 (X : zM p s m args meth c D cA σ sh tS own cc nL ret) {idx : Nat} {v : Int64} (hd : decode cc pc = .ok (.ldc2_w idx, 3)) (hw : Cond.constantLong own idx v ∈ lw_tg) (K : Zj p l e R s m args below meth c D cA σ sh nL rv S' (pc + 3) L (.long v :: st) S) : Zj p l e R s m args below meth c D cA σ sh nL rv S' pc L st S := fun H locs ls hP hS hl => lv_ldc2 X.1 X.2.1 X.2.2.2.1 (X.2.2.2.2.1 _ hw) hd (K H locs ls hP hS hl)
theorem z_iload_n (X : zM p s m args meth c D cA σ sh tS own cc nL ret) {k : Fin 4} {i : Nat} {x : Int32} (hd : decode cc pc = .ok (.iload_n k, 1)) (hi : (k : Nat) = i) (q : Nat) (hq : L[q]? = some (i, .int x)) (K : Zj p l e R s m args below meth c D cA σ sh nL rv S' (pc + 1) L (.int x :: st) S) : Zj p l e R s m args below meth c D cA σ sh nL rv S' pc L st S := fun H locs ls hP hS hl => lv_iload_n X.1 X.2.1 hd hi (lv_at hl q hq) (K H locs ls hP hS hl)
theorem z_iload (X : zM p s m args meth c D cA σ sh tS own cc nL ret) {i : Nat} {x : Int32} (hd : decode cc pc = .ok (.iload i, 2)) (q : Nat) (hq : L[q]? = some (i, .int x)) (K : Zj p l e R s m args below meth c D cA σ sh nL rv S' (pc + 2) L (.int x :: st) S) : Zj p l e R s m args below meth c D cA σ sh nL rv S' pc L st S := fun H locs ls hP hS hl => lv_iload X.1 X.2.1 hd (lv_at hl q hq) (K H locs ls hP hS hl)
theorem z_istore_n (X : zM p s m args meth c D cA σ sh tS own cc nL ret) {k : Fin 4} {i : Nat} {x : Int32} {L' : List (Nat × Value)} (hd : decode cc pc = .ok (.istore_n k, 1)) (hi : (k : Nat) = i) (hn : i < nL) (hL : (i, Value.int x) :: L.filter (fun q => !(q.1 == i) && !(q.1 + 1 == i && q.2.category == 2)) = L') (K : Zj p l e R s m args below meth c D cA σ sh nL rv S' (pc + 1) L' st S) : Zj p l e R s m args below meth c D cA σ sh nL rv S' pc L (.int x :: st) S := fun H locs ls hP hS hl => lv_istore_n X.1 X.2.1 hd hi hl hn hL (fun ls' hl' => K H locs ls' hP hS hl')
theorem z_istore (X : zM p s m args meth c D cA σ sh tS own cc nL ret) {i : Nat} {x : Int32} {L' : List (Nat × Value)} (hd : decode cc pc = .ok (.istore i, 2)) (hn : i < nL) (hL : (i, Value.int x) :: L.filter (fun q => !(q.1 == i) && !(q.1 + 1 == i && q.2.category == 2)) = L') (K : Zj p l e R s m args below meth c D cA σ sh nL rv S' (pc + 2) L' st S) : Zj p l e R s m args below meth c D cA σ sh nL rv S' pc L (.int x :: st) S := fun H locs ls hP hS hl => lv_istore X.1 X.2.1 hd hl hn hL (fun ls' hl' => K H locs ls' hP hS hl')
theorem z_lload_n (X : zM p s m args meth c D cA σ sh tS own cc nL ret) {k : Fin 4} {i : Nat} {x : Int64} (hd : decode cc pc = .ok (.lload_n k, 1)) (hi : (k : Nat) = i) (q : Nat) (hq : L[q]? = some (i, .long x)) (K : Zj p l e R s m args below meth c D cA σ sh nL rv S' (pc + 1) L (.long x :: st) S) : Zj p l e R s m args below meth c D cA σ sh nL rv S' pc L st S := fun H locs ls hP hS hl => lv_lload_n X.1 X.2.1 hd hi (lv_at hl q hq) (K H locs ls hP hS hl)
theorem z_lload (X : zM p s m args meth c D cA σ sh tS own cc nL ret) {i : Nat} {x : Int64} (hd : decode cc pc = .ok (.lload i, 2)) (q : Nat) (hq : L[q]? = some (i, .long x)) (K : Zj p l e R s m args below meth c D cA σ sh nL rv S' (pc + 2) L (.long x :: st) S) : Zj p l e R s m args below meth c D cA σ sh nL rv S' pc L st S := fun H locs ls hP hS hl => lv_lload X.1 X.2.1 hd (lv_at hl q hq) (K H locs ls hP hS hl)
theorem z_lstore_n (X : zM p s m args meth c D cA σ sh tS own cc nL ret) {k : Fin 4} {i : Nat} {x : Int64} {L' : List (Nat × Value)} (hd : decode cc pc = .ok (.lstore_n k, 1)) (hi : (k : Nat) = i) (hn : i + 1 < nL) (hL : (i, Value.long x) :: L.filter (fun q => !(q.1 == i) && (!(q.1 == i + 1) && !(q.1 + 1 == i && q.2.category == 2))) = L') (K : Zj p l e R s m args below meth c D cA σ sh nL rv S' (pc + 1) L' st S) : Zj p l e R s m args below meth c D cA σ sh nL rv S' pc L (.long x :: st) S := fun H locs ls hP hS hl => lv_lstore_n X.1 X.2.1 hd hi hl hn hL (fun ls' hl' => K H locs ls' hP hS hl')
theorem z_lstore (X : zM p s m args meth c D cA σ sh tS own cc nL ret) {i : Nat} {x : Int64} {L' : List (Nat × Value)} (hd : decode cc pc = .ok (.lstore i, 2)) (hn : i + 1 < nL) (hL : (i, Value.long x) :: L.filter (fun q => !(q.1 == i) && (!(q.1 == i + 1) && !(q.1 + 1 == i && q.2.category == 2))) = L') (K : Zj p l e R s m args below meth c D cA σ sh nL rv S' (pc + 2) L' st S) : Zj p l e R s m args below meth c D cA σ sh nL rv S' pc L (.long x :: st) S := fun H locs ls hP hS hl => lv_lstore X.1 X.2.1 hd hl hn hL (fun ls' hl' => K H locs ls' hP hS hl')
theorem z_aload_n (X : zM p s m args meth c D cA σ sh tS own cc nL ret) {k : Fin 4} {i : Nat} {x : Nat} (hd : decode cc pc = .ok (.aload_n k, 1)) (hi : (k : Nat) = i) (q : Nat) (hq : L[q]? = some (i, .ref x)) (K : Zj p l e R s m args below meth c D cA σ sh nL rv S' (pc + 1) L (.ref x :: st) S) : Zj p l e R s m args below meth c D cA σ sh nL rv S' pc L st S := fun H locs ls hP hS hl => lv_aload_n X.1 X.2.1 hd hi (lv_at hl q hq) (K H locs ls hP hS hl)
theorem z_aload (X : zM p s m args meth c D cA σ sh tS own cc nL ret) {i : Nat} {x : Nat} (hd : decode cc pc = .ok (.aload i, 2)) (q : Nat) (hq : L[q]? = some (i, .ref x)) (K : Zj p l e R s m args below meth c D cA σ sh nL rv S' (pc + 2) L (.ref x :: st) S) : Zj p l e R s m args below meth c D cA σ sh nL rv S' pc L st S := fun H locs ls hP hS hl => lv_aload X.1 X.2.1 hd (lv_at hl q hq) (K H locs ls hP hS hl)
theorem z_astore_n (X : zM p s m args meth c D cA σ sh tS own cc nL ret) {k : Fin 4} {i : Nat} {x : Nat} {L' : List (Nat × Value)} (hd : decode cc pc = .ok (.astore_n k, 1)) (hi : (k : Nat) = i) (hn : i < nL) (hL : (i, Value.ref x) :: L.filter (fun q => !(q.1 == i) && !(q.1 + 1 == i && q.2.category == 2)) = L') (K : Zj p l e R s m args below meth c D cA σ sh nL rv S' (pc + 1) L' st S) : Zj p l e R s m args below meth c D cA σ sh nL rv S' pc L (.ref x :: st) S := fun H locs ls hP hS hl => lv_astore_n X.1 X.2.1 hd hi hl hn hL (fun ls' hl' => K H locs ls' hP hS hl')
theorem z_astore (X : zM p s m args meth c D cA σ sh tS own cc nL ret) {i : Nat} {x : Nat} {L' : List (Nat × Value)} (hd : decode cc pc = .ok (.astore i, 2)) (hn : i < nL) (hL : (i, Value.ref x) :: L.filter (fun q => !(q.1 == i) && !(q.1 + 1 == i && q.2.category == 2)) = L') (K : Zj p l e R s m args below meth c D cA σ sh nL rv S' (pc + 2) L' st S) : Zj p l e R s m args below meth c D cA σ sh nL rv S' pc L (.ref x :: st) S := fun H locs ls hP hS hl => lv_astore X.1 X.2.1 hd hl hn hL (fun ls' hl' => K H locs ls' hP hS hl')
theorem z_iinc (X : zM p s m args meth c D cA σ sh tS own cc nL ret) {i k : Nat} {n : Int} {x v : Int32} {L' : List (Nat × Value)} (hd : decode cc pc = .ok (.iinc i n, 3)) (hk : L[k]? = some (i, .int x)) (hv : Int32.ofInt n = v) (hn : i < nL) (hL : (i, Value.int (x + v)) :: L.filter (fun q => !(q.1 == i) && !(q.1 + 1 == i && q.2.category == 2)) = L') (K : Zj p l e R s m args below meth c D cA σ sh nL rv S' (pc + 3) L' st S) : Zj p l e R s m args below meth c D cA σ sh nL rv S' pc L st S := fun H locs ls hP hS hl => lv_iinc X.1 X.2.1 hd hl hk (by rw [hv]) hn hL (fun ls' hl' => K H locs ls' hP hS hl')
theorem z_sub {L' : List (Nat × Value)} (ks : List Nat) (hL : lv_pick L ks = L') (K : Zj p l e R s m args below meth c D cA σ sh nL rv S' pc L' st S) : Zj p l e R s m args below meth c D cA σ sh nL rv S' pc L st S := fun H locs ls hP hS hl => K H locs ls hP hS (lv_sub hl ks hL)
theorem z_goto (X : zM p s m args meth c D cA σ sh tS own cc nL ret) {off : Int} {tgt : Nat} (hd : decode cc pc = .ok (.goto off, 3)) (ht : (pc : Int) + off = (tgt : Int)) (K : Zj p l e R s m args below meth c D cA σ sh nL rv S' tgt L st S) : Zj p l e R s m args below meth c D cA σ sh nL rv S' pc L st S := fun H locs ls hP hS hl => lv_goto X.1 X.2.1 hd ht (K H locs ls hP hS hl)
theorem z_if_eq (X : zM p s m args meth c D cA σ sh tS own cc nL ret) {x : Int32} {off : Int} {tgt : Nat} {α : Type} {a b : Option α} {r : α} (hd : decode cc pc = .ok (.ifCond .eq off, 3)) (ht : (pc : Int) + off = (tgt : Int)) (h : (if x = 0 then a else b) = some r) (k1 : a = some r → Zj p l e R s m args below meth c D cA σ sh nL rv S' tgt L st S) (k2 : b = some r → Zj p l e R s m args below meth c D cA σ sh nL rv S' (pc + 3) L st S) : Zj p l e R s m args below meth c D cA σ sh nL rv S' pc L (.int x :: st) S := fun H locs ls hP hS hl => lv_if_eq X.1 X.2.1 hd ht (fun q => k1 (by rw [if_pos q] at h; exact h) H locs ls hP hS hl) (fun q => k2 (by rw [if_neg q] at h; exact h) H locs ls hP hS hl)
theorem z_icmp_eq (X : zM p s m args meth c D cA σ sh tS own cc nL ret) {x y : Int32} {off : Int} {tgt : Nat} {α : Type} {a b : Option α} {r : α} (hd : decode cc pc = .ok (.if_icmp .eq off, 3)) (ht : (pc : Int) + off = (tgt : Int)) (h : (if x = y then a else b) = some r) (k1 : a = some r → Zj p l e R s m args below meth c D cA σ sh nL rv S' tgt L st S) (k2 : b = some r → Zj p l e R s m args below meth c D cA σ sh nL rv S' (pc + 3) L st S) : Zj p l e R s m args below meth c D cA σ sh nL rv S' pc L (.int y :: .int x :: st) S := fun H locs ls hP hS hl => lv_icmp_eq X.1 X.2.1 hd ht (fun q => k1 (by rw [if_pos q] at h; exact h) H locs ls hP hS hl) (fun q => k2 (by rw [if_neg q] at h; exact h) H locs ls hP hS hl)
theorem z_if_ne (X : zM p s m args meth c D cA σ sh tS own cc nL ret) {x : Int32} {off : Int} {tgt : Nat} {α : Type} {a b : Option α} {r : α} (hd : decode cc pc = .ok (.ifCond .ne off, 3)) (ht : (pc : Int) + off = (tgt : Int)) (h : (if x = 0 then b else a) = some r) (k1 : a = some r → Zj p l e R s m args below meth c D cA σ sh nL rv S' tgt L st S) (k2 : b = some r → Zj p l e R s m args below meth c D cA σ sh nL rv S' (pc + 3) L st S) : Zj p l e R s m args below meth c D cA σ sh nL rv S' pc L (.int x :: st) S := fun H locs ls hP hS hl => lv_if_ne X.1 X.2.1 hd ht (fun q => k1 (by rw [if_neg q] at h; exact h) H locs ls hP hS hl) (fun q => k2 (by rw [if_pos q] at h; exact h) H locs ls hP hS hl)
theorem z_icmp_ne (X : zM p s m args meth c D cA σ sh tS own cc nL ret) {x y : Int32} {off : Int} {tgt : Nat} {α : Type} {a b : Option α} {r : α} (hd : decode cc pc = .ok (.if_icmp .ne off, 3)) (ht : (pc : Int) + off = (tgt : Int)) (h : (if x = y then b else a) = some r) (k1 : a = some r → Zj p l e R s m args below meth c D cA σ sh nL rv S' tgt L st S) (k2 : b = some r → Zj p l e R s m args below meth c D cA σ sh nL rv S' (pc + 3) L st S) : Zj p l e R s m args below meth c D cA σ sh nL rv S' pc L (.int y :: .int x :: st) S := fun H locs ls hP hS hl => lv_icmp_ne X.1 X.2.1 hd ht (fun q => k1 (by rw [if_neg q] at h; exact h) H locs ls hP hS hl) (fun q => k2 (by rw [if_pos q] at h; exact h) H locs ls hP hS hl)
theorem z_if_lt (X : zM p s m args meth c D cA σ sh tS own cc nL ret) {x : Int32} {off : Int} {tgt : Nat} {α : Type} {a b : Option α} {r : α} (hd : decode cc pc = .ok (.ifCond .lt off, 3)) (ht : (pc : Int) + off = (tgt : Int)) (h : (if x < 0 then a else b) = some r) (k1 : a = some r → Zj p l e R s m args below meth c D cA σ sh nL rv S' tgt L st S) (k2 : b = some r → Zj p l e R s m args below meth c D cA σ sh nL rv S' (pc + 3) L st S) : Zj p l e R s m args below meth c D cA σ sh nL rv S' pc L (.int x :: st) S := fun H locs ls hP hS hl => lv_if_lt X.1 X.2.1 hd ht (fun q => k1 (by rw [if_pos q] at h; exact h) H locs ls hP hS hl) (fun q => k2 (by rw [if_neg q] at h; exact h) H locs ls hP hS hl)
theorem z_icmp_lt (X : zM p s m args meth c D cA σ sh tS own cc nL ret) {x y : Int32} {off : Int} {tgt : Nat} {α : Type} {a b : Option α} {r : α} (hd : decode cc pc = .ok (.if_icmp .lt off, 3)) (ht : (pc : Int) + off = (tgt : Int)) (h : (if x < y then a else b) = some r) (k1 : a = some r → Zj p l e R s m args below meth c D cA σ sh nL rv S' tgt L st S) (k2 : b = some r → Zj p l e R s m args below meth c D cA σ sh nL rv S' (pc + 3) L st S) : Zj p l e R s m args below meth c D cA σ sh nL rv S' pc L (.int y :: .int x :: st) S := fun H locs ls hP hS hl => lv_icmp_lt X.1 X.2.1 hd ht (fun q => k1 (by rw [if_pos q] at h; exact h) H locs ls hP hS hl) (fun q => k2 (by rw [if_neg q] at h; exact h) H locs ls hP hS hl)
theorem z_if_ge (X : zM p s m args meth c D cA σ sh tS own cc nL ret) {x : Int32} {off : Int} {tgt : Nat} {α : Type} {a b : Option α} {r : α} (hd : decode cc pc = .ok (.ifCond .ge off, 3)) (ht : (pc : Int) + off = (tgt : Int)) (h : (if 0 ≤ x then a else b) = some r) (k1 : a = some r → Zj p l e R s m args below meth c D cA σ sh nL rv S' tgt L st S) (k2 : b = some r → Zj p l e R s m args below meth c D cA σ sh nL rv S' (pc + 3) L st S) : Zj p l e R s m args below meth c D cA σ sh nL rv S' pc L (.int x :: st) S := fun H locs ls hP hS hl => lv_if_ge X.1 X.2.1 hd ht (fun q => k1 (by rw [if_pos q] at h; exact h) H locs ls hP hS hl) (fun q => k2 (by rw [if_neg q] at h; exact h) H locs ls hP hS hl)
theorem z_icmp_ge (X : zM p s m args meth c D cA σ sh tS own cc nL ret) {x y : Int32} {off : Int} {tgt : Nat} {α : Type} {a b : Option α} {r : α} (hd : decode cc pc = .ok (.if_icmp .ge off, 3)) (ht : (pc : Int) + off = (tgt : Int)) (h : (if y ≤ x then a else b) = some r) (k1 : a = some r → Zj p l e R s m args below meth c D cA σ sh nL rv S' tgt L st S) (k2 : b = some r → Zj p l e R s m args below meth c D cA σ sh nL rv S' (pc + 3) L st S) : Zj p l e R s m args below meth c D cA σ sh nL rv S' pc L (.int y :: .int x :: st) S := fun H locs ls hP hS hl => lv_icmp_ge X.1 X.2.1 hd ht (fun q => k1 (by rw [if_pos q] at h; exact h) H locs ls hP hS hl) (fun q => k2 (by rw [if_neg q] at h; exact h) H locs ls hP hS hl)
theorem z_if_gt (X : zM p s m args meth c D cA σ sh tS own cc nL ret) {x : Int32} {off : Int} {tgt : Nat} {α : Type} {a b : Option α} {r : α} (hd : decode cc pc = .ok (.ifCond .gt off, 3)) (ht : (pc : Int) + off = (tgt : Int)) (h : (if 0 < x then a else b) = some r) (k1 : a = some r → Zj p l e R s m args below meth c D cA σ sh nL rv S' tgt L st S) (k2 : b = some r → Zj p l e R s m args below meth c D cA σ sh nL rv S' (pc + 3) L st S) : Zj p l e R s m args below meth c D cA σ sh nL rv S' pc L (.int x :: st) S := fun H locs ls hP hS hl => lv_if_gt X.1 X.2.1 hd ht (fun q => k1 (by rw [if_pos q] at h; exact h) H locs ls hP hS hl) (fun q => k2 (by rw [if_neg q] at h; exact h) H locs ls hP hS hl)
theorem z_icmp_gt (X : zM p s m args meth c D cA σ sh tS own cc nL ret) {x y : Int32} {off : Int} {tgt : Nat} {α : Type} {a b : Option α} {r : α} (hd : decode cc pc = .ok (.if_icmp .gt off, 3)) (ht : (pc : Int) + off = (tgt : Int)) (h : (if y < x then a else b) = some r) (k1 : a = some r → Zj p l e R s m args below meth c D cA σ sh nL rv S' tgt L st S) (k2 : b = some r → Zj p l e R s m args below meth c D cA σ sh nL rv S' (pc + 3) L st S) : Zj p l e R s m args below meth c D cA σ sh nL rv S' pc L (.int y :: .int x :: st) S := fun H locs ls hP hS hl => lv_icmp_gt X.1 X.2.1 hd ht (fun q => k1 (by rw [if_pos q] at h; exact h) H locs ls hP hS hl) (fun q => k2 (by rw [if_neg q] at h; exact h) H locs ls hP hS hl)
theorem z_if_le (X : zM p s m args meth c D cA σ sh tS own cc nL ret) {x : Int32} {off : Int} {tgt : Nat} {α : Type} {a b : Option α} {r : α} (hd : decode cc pc = .ok (.ifCond .le off, 3)) (ht : (pc : Int) + off = (tgt : Int)) (h : (if x ≤ 0 then a else b) = some r) (k1 : a = some r → Zj p l e R s m args below meth c D cA σ sh nL rv S' tgt L st S) (k2 : b = some r → Zj p l e R s m args below meth c D cA σ sh nL rv S' (pc + 3) L st S) : Zj p l e R s m args below meth c D cA σ sh nL rv S' pc L (.int x :: st) S := fun H locs ls hP hS hl => lv_if_le X.1 X.2.1 hd ht (fun q => k1 (by rw [if_pos q] at h; exact h) H locs ls hP hS hl) (fun q => k2 (by rw [if_neg q] at h; exact h) H locs ls hP hS hl)
theorem z_icmp_le (X : zM p s m args meth c D cA σ sh tS own cc nL ret) {x y : Int32} {off : Int} {tgt : Nat} {α : Type} {a b : Option α} {r : α} (hd : decode cc pc = .ok (.if_icmp .le off, 3)) (ht : (pc : Int) + off = (tgt : Int)) (h : (if x ≤ y then a else b) = some r) (k1 : a = some r → Zj p l e R s m args below meth c D cA σ sh nL rv S' tgt L st S) (k2 : b = some r → Zj p l e R s m args below meth c D cA σ sh nL rv S' (pc + 3) L st S) : Zj p l e R s m args below meth c D cA σ sh nL rv S' pc L (.int y :: .int x :: st) S := fun H locs ls hP hS hl => lv_icmp_le X.1 X.2.1 hd ht (fun q => k1 (by rw [if_pos q] at h; exact h) H locs ls hP hS hl) (fun q => k2 (by rw [if_neg q] at h; exact h) H locs ls hP hS hl)
theorem z_arm {α : Type} {a b : Option α} {r : α} {G : Prop} {x v : Int32} (h : (if x = v then a else b) = some r) (k1 : x = v → a = some r → G) (k2 : ¬ x = v → b = some r → G) : G := by
  by_cases q : x = v
  · rw [if_pos q] at h; exact k1 q h
  · rw [if_neg q] at h; exact k2 q h
theorem z_tsIn (X : zM p s m args meth c D cA σ sh tS own cc nL ret) {dflt lo hi : Int} {offs : Array Int} {len : Nat} {x : Int32} {off : Int} {tgt : Nat} (v : Int32) (hx : x = v) (hd : decode cc pc = .ok (.tableswitch dflt lo hi offs, len)) (h1 : ¬ v.toInt < lo) (h2 : ¬ hi < v.toInt) (ho : offs[(v.toInt - lo).toNat]? = some off) (ht : (pc : Int) + off = (tgt : Int)) (K : Zj p l e R s m args below meth c D cA σ sh nL rv S' tgt L st S) : Zj p l e R s m args below meth c D cA σ sh nL rv S' pc L (.int x :: st) S := fun H locs ls hP hS hl => by
  subst hx
  exact lv_tableIn X.1 X.2.1 hd h1 h2 ho ht (K H locs ls hP hS hl)
theorem z_tsOut (X : zM p s m args meth c D cA σ sh tS own cc nL ret) {dflt lo hi : Int} {offs : Array Int} {len : Nat} {x : Int32} {tgt : Nat} (hd : decode cc pc = .ok (.tableswitch dflt lo hi offs, len)) (h : x.toInt < lo ∨ hi < x.toInt) (ht : (pc : Int) + dflt = (tgt : Int)) (K : Zj p l e R s m args below meth c D cA σ sh nL rv S' tgt L st S) : Zj p l e R s m args below meth c D cA σ sh nL rv S' pc L (.int x :: st) S := fun H locs ls hP hS hl => lv_tableOut X.1 X.2.1 hd h ht (K H locs ls hP hS hl)
theorem z_ls (X : zM p s m args meth c D cA σ sh tS own cc nL ret) {dflt : Int} {ps : Array (Int × Int)} {len : Nat} {x : Int32} {off : Int} {tgt : Nat} (hd : decode cc pc = .ok (.lookupswitch dflt ps, len)) (hp : (ps.toList.zip (ps.toList.drop 1)).all (fun (a, next) => a.1 < next.1) = true) (ho : Op.lookupswitch.offset ps.toList dflt x.toInt = off) (ht : (pc : Int) + off = (tgt : Int)) (K : Zj p l e R s m args below meth c D cA σ sh nL rv S' tgt L st S) : Zj p l e R s m args below meth c D cA σ sh nL rv S' pc L (.int x :: st) S := fun H locs ls hP hS hl => lv_lookup X.1 X.2.1 hd hp ho ht (K H locs ls hP hS hl)
theorem z_let {α β : Type} {a : α} {f : α → Option β} {r : β} {G : Prop} (h : zlet a f = some r) (k : f a = some r → G) : G := k h
theorem z_gd {α : Type} {b : Bool} {o : Option α} {r : α} {G : Prop} (h : zg b o = some r) (k : b = true → o = some r → G) : G := k (zg_some h).1 (zg_some h).2

/-- a field that a method's class names: its class's place and its own -/
def zF (own : String) (idx ci j : Nat) (nm : String) : Prop := ∃ (C : String) (T : u_T) (N : Nat), vwCl[ci]? = some (C, T, N) ∧ j < N ∧ (∀ w ∈ u_ws C T N, w ∈ lw_tg) ∧ Cond.fieldLink own idx (T j).1 (T j).2.1 (T j).2.2.1 ∈ lw_tg ∧ (T j).2.1 = nm
/-- one that may be written -/
def zG (own : String) (idx ci j : Nat) (ty : FieldType) : Prop := ∃ (C : String) (T : u_T) (N : Nat) (ty0 : Nat → FieldType), vwCl[ci]? = some (C, T, N) ∧ j < N ∧ (∀ w ∈ u_ws C T N, w ∈ lw_tg) ∧ Cond.fieldLink own idx (T j).1 (T j).2.1 (T j).2.2.1 ∈ lw_tg ∧ (∀ k, k < N → parseFieldDescriptor (T k).2.2.1 = some (ty0 k)) ∧ (∀ a, a < N → ∀ b, b < N → a ≠ b → (T a).2.1 ≠ (T b).2.1) ∧ (T j).2.2.2 = false ∧ parseFieldDescriptor (T j).2.2.1 = some ty
theorem z_get (X : zM p s m args meth c D cA σ sh tS own cc nL ret) {idx ci j : Nat} {nm : String} {ts : List Nat} {t : Nat} {v : Value} (k : Nat) (hF : zF own idx ci j nm) (hsh : sh[k]? = some (.inl (ci, ts))) (ht : ts[j]? = some t) (hd : decode cc pc = .ok (.getfield idx, 3)) (hv : zfv σ S k j t = v) (K : Zj p l e R s m args below meth c D cA σ sh nL rv S' (pc + 3) L (v :: st) S) : Zj p l e R s m args below meth c D cA σ sh nL rv S' pc L (.ref (σ k) :: st) S := fun H locs ls hP hS hl => by
  obtain ⟨C, T, N, h1, h2, h3, h4, -⟩ := hF
  obtain ⟨hx, hb, -, hown, hts, -, -, hK, -⟩ := X
  exact va_get hx hb hts h3 hown hK hP k (zw_at hsh) h1 j h2 (hts _ h4) (fun _ q => q) (by rw [zfs_at ht, hv]) hd (K H locs ls hP hS hl)
theorem z_putI (X : zM p s m args meth c D cA σ sh tS own cc nL ret) {idx ci j : Nat} {ts : List Nat} {x : Int32} (k : Nat) (hG : zG own idx ci j .int) (hsh : sh[k]? = some (.inl (ci, ts))) (ht : ts[j]? = some 0) (hd : decode cc pc = .ok (.putfield idx, 3)) (K : Zj p l e R s m args below meth c D cA σ sh nL rv S' (pc + 3) L st (wI S k j x)) : Zj p l e R s m args below meth c D cA σ sh nL rv S' pc L (.int x :: .ref (σ k) :: st) S := fun H locs ls hP hS hl => by
  obtain ⟨C, T, N, ty0, h1, h2, h3, h4, h5, h6, h7, h8⟩ := hG
  obtain ⟨hx, hb, -, hown, hts, -, -, hK, hi, -⟩ := X
  refine va_put hx hb hts h3 ty0 h5 h6 hown hK hP (zw_D S hi) hS k (zw_at hsh) h1 j h2 (hts _ h4) (fun _ q => q) h7 h8 rfl rfl (by simpa [zfs] using (List.getElem?_eq_some_iff.mp ht).1) hd (fun H1 locs1 hP1 hD1 hS1 => ?_)
  rw [zw_putI hsh ht] at hP1
  exact K H1 locs1 ls hP1 hS1 hl
theorem z_putZ (X : zM p s m args meth c D cA σ sh tS own cc nL ret) {idx ci j : Nat} {ts : List Nat} {x : Int32} {α : Type} {o : Option α} {r : α} (k : Nat) (hG : zG own idx ci j .boolean) (hsh : sh[k]? = some (.inl (ci, ts))) (ht : ts[j]? = some 0) (hd : decode cc pc = .ok (.putfield idx, 3)) (h : zg (zbo x) o = some r) (K : o = some r → Zj p l e R s m args below meth c D cA σ sh nL rv S' (pc + 3) L st (wI S k j x)) : Zj p l e R s m args below meth c D cA σ sh nL rv S' pc L (.int x :: .ref (σ k) :: st) S := fun H locs ls hP hS hl => by
  obtain ⟨C, T, N, ty0, h1, h2, h3, h4, h5, h6, h7, h8⟩ := hG
  obtain ⟨hx, hb, -, hown, hts, -, -, hK, hi, -⟩ := X
  have hz : x = 0 ∨ x = 1 := of_decide_eq_true (zg_some h).1
  refine va_put hx hb hts h3 ty0 h5 h6 hown hK hP (zw_D S hi) hS k (zw_at hsh) h1 j h2 (hts _ h4) (fun _ q => q) h7 h8 (by rcases hz with rfl | rfl <;> decide +kernel) (by rcases hz with rfl | rfl <;> decide +kernel) (by simpa [zfs] using (List.getElem?_eq_some_iff.mp ht).1) hd (fun H1 locs1 hP1 hD1 hS1 => ?_)
  rw [zw_putI hsh ht] at hP1
  exact K (zg_some h).2 H1 locs1 ls hP1 hS1 hl
theorem z_putL (X : zM p s m args meth c D cA σ sh tS own cc nL ret) {idx ci j : Nat} {ts : List Nat} {x : Int64} (k : Nat) (hG : zG own idx ci j .long) (hsh : sh[k]? = some (.inl (ci, ts))) (ht : ts[j]? = some 1) (hd : decode cc pc = .ok (.putfield idx, 3)) (K : Zj p l e R s m args below meth c D cA σ sh nL rv S' (pc + 3) L st (wL S k j x)) : Zj p l e R s m args below meth c D cA σ sh nL rv S' pc L (.long x :: .ref (σ k) :: st) S := fun H locs ls hP hS hl => by
  obtain ⟨C, T, N, ty0, h1, h2, h3, h4, h5, h6, h7, h8⟩ := hG
  obtain ⟨hx, hb, -, hown, hts, -, -, hK, hi, -⟩ := X
  refine va_put hx hb hts h3 ty0 h5 h6 hown hK hP (zw_D S hi) hS k (zw_at hsh) h1 j h2 (hts _ h4) (fun _ q => q) h7 h8 rfl rfl (by simpa [zfs] using (List.getElem?_eq_some_iff.mp ht).1) hd (fun H1 locs1 hP1 hD1 hS1 => ?_)
  rw [zw_putL hsh ht] at hP1
  exact K H1 locs1 ls hP1 hS1 hl
theorem z_putR (X : zM p s m args meth c D cA σ sh tS own cc nL ret) {idx ci j : Nat} {ts : List Nat} {x : Int32} (k : Nat) (hG : zG own idx ci j (.array .long)) (hsh : sh[k]? = some (.inl (ci, ts))) (ht : ts[j]? = some 2) (hd : decode cc pc = .ok (.putfield idx, 3)) (K : Zj p l e R s m args below meth c D cA σ sh nL rv S' (pc + 3) L st (wI S k j x)) : Zj p l e R s m args below meth c D cA σ sh nL rv S' pc L (.ref (σ x.toNatClampNeg) :: .ref (σ k) :: st) S := fun H locs ls hP hS hl => by
  obtain ⟨C, T, N, ty0, h1, h2, h3, h4, h5, h6, h7, h8⟩ := hG
  obtain ⟨hx, hb, -, hown, hts, -, -, hK, hi, -⟩ := X
  refine va_put hx hb hts h3 ty0 h5 h6 hown hK hP (zw_D S hi) hS k (zw_at hsh) h1 j h2 (hts _ h4) (fun _ q => q) h7 h8 rfl rfl (by simpa [zfs] using (List.getElem?_eq_some_iff.mp ht).1) hd (fun H1 locs1 hP1 hD1 hS1 => ?_)
  rw [zw_putR hsh ht] at hP1
  exact K H1 locs1 ls hP1 hS1 hl

theorem z_iald (X : zM p s m args meth c D cA σ sh tS own cc nL ret) {i : Int32} {n : Nat} {α : Type} {o : Option α} {r : α} (k : Nat) (hsh : sh[k]? = some (.inr (0, n))) (hd : decode cc pc = .ok (.iaload, 1)) (h : zg (zin i n) o = some r) (K : o = some r → Zj p l e R s m args below meth c D cA σ sh nL rv S' (pc + 1) L (.int (S.1 k i.toNatClampNeg) :: st) S) : Zj p l e R s m args below meth c D cA σ sh nL rv S' pc L (.int i :: .ref (σ k) :: st) S := fun H locs ls hP hS hl => va_iald X.1 X.2.1 X.2.2.2.2.2.2.2.1 hP k 0 (zw_at hsh) rfl (zin_in (zg_some h).1) hd (K (zg_some h).2 H locs ls hP hS hl)
theorem z_zald (X : zM p s m args meth c D cA σ sh tS own cc nL ret) {i : Int32} {n : Nat} {α : Type} {o : Option α} {r : α} (k : Nat) (hsh : sh[k]? = some (.inr (2, n))) (hd : decode cc pc = .ok (.baload, 1)) (h : zg (zin i n) o = some r) (K : o = some r → Zj p l e R s m args below meth c D cA σ sh nL rv S' (pc + 1) L (.int (S.1 k i.toNatClampNeg) :: st) S) : Zj p l e R s m args below meth c D cA σ sh nL rv S' pc L (.int i :: .ref (σ k) :: st) S := fun H locs ls hP hS hl => va_zald X.1 X.2.1 X.2.2.2.2.2.2.2.1 hP k 2 (zw_at hsh) rfl (zin_in (zg_some h).1) hd (K (zg_some h).2 H locs ls hP hS hl)
theorem z_lald (X : zM p s m args meth c D cA σ sh tS own cc nL ret) {i : Int32} {n : Nat} {α : Type} {o : Option α} {r : α} (k : Nat) (hsh : sh[k]? = some (.inr (1, n))) (hd : decode cc pc = .ok (.laload, 1)) (h : zg (zin i n) o = some r) (K : o = some r → Zj p l e R s m args below meth c D cA σ sh nL rv S' (pc + 1) L (.long (S.2 k i.toNatClampNeg) :: st) S) : Zj p l e R s m args below meth c D cA σ sh nL rv S' pc L (.int i :: .ref (σ k) :: st) S := fun H locs ls hP hS hl => va_lald X.1 X.2.1 X.2.2.2.2.2.2.2.1 hP k 1 (zw_at hsh) rfl (zin_in (zg_some h).1) hd (K (zg_some h).2 H locs ls hP hS hl)
theorem z_iast (X : zM p s m args meth c D cA σ sh tS own cc nL ret) {i x : Int32} {n : Nat} {α : Type} {o : Option α} {r : α} (k : Nat) (hsh : sh[k]? = some (.inr (0, n))) (hd : decode cc pc = .ok (.iastore, 1)) (h : zg (zin i n) o = some r) (K : o = some r → Zj p l e R s m args below meth c D cA σ sh nL rv S' (pc + 1) L st (wI S k i.toNatClampNeg (x))) : Zj p l e R s m args below meth c D cA σ sh nL rv S' pc L (.int x :: .int i :: .ref (σ k) :: st) S := fun H locs ls hP hS hl => va_iast X.1 X.2.1 X.2.2.2.2.2.2.2.1 hP (zw_D S X.2.2.2.2.2.2.2.2.1) hS k 0 (zw_at hsh) rfl (zin_in (zg_some h).1) hd (fun H1 locs1 hP1 hD1 hS1 => K (zg_some h).2 H1 locs1 ls (by rw [← zw_stI (by decide) hsh]; exact hP1) hS1 hl)
theorem z_zast (X : zM p s m args meth c D cA σ sh tS own cc nL ret) {i x : Int32} {n : Nat} {α : Type} {o : Option α} {r : α} (k : Nat) (hsh : sh[k]? = some (.inr (2, n))) (hd : decode cc pc = .ok (.bastore, 1)) (h : zg (zin i n) o = some r) (K : o = some r → Zj p l e R s m args below meth c D cA σ sh nL rv S' (pc + 1) L st (wI S k i.toNatClampNeg (vp_nar .boolean x))) : Zj p l e R s m args below meth c D cA σ sh nL rv S' pc L (.int x :: .int i :: .ref (σ k) :: st) S := fun H locs ls hP hS hl => va_zast X.1 X.2.1 X.2.2.2.2.2.2.2.1 hP (zw_D S X.2.2.2.2.2.2.2.2.1) hS k 2 (zw_at hsh) rfl (zin_in (zg_some h).1) hd (fun H1 locs1 hP1 hD1 hS1 => K (zg_some h).2 H1 locs1 ls (by rw [← zw_stI (by decide) hsh]; exact hP1) hS1 hl)
theorem z_last (X : zM p s m args meth c D cA σ sh tS own cc nL ret) {i : Int32} {x : Int64} {n : Nat} {α : Type} {o : Option α} {r : α} (k : Nat) (hsh : sh[k]? = some (.inr (1, n))) (hd : decode cc pc = .ok (.lastore, 1)) (h : zg (zin i n) o = some r) (K : o = some r → Zj p l e R s m args below meth c D cA σ sh nL rv S' (pc + 1) L st (wL S k i.toNatClampNeg x)) : Zj p l e R s m args below meth c D cA σ sh nL rv S' pc L (.long x :: .int i :: .ref (σ k) :: st) S := fun H locs ls hP hS hl => va_last X.1 X.2.1 X.2.2.2.2.2.2.2.1 hP (zw_D S X.2.2.2.2.2.2.2.2.1) hS k 1 (zw_at hsh) rfl (zin_in (zg_some h).1) hd (fun H1 locs1 hP1 hD1 hS1 => K (zg_some h).2 H1 locs1 ls (by rw [← wC_upd, ← zw_stL hsh]; exact hP1) hS1 hl)
theorem z_alen (X : zM p s m args meth c D cA σ sh tS own cc nL ret) {n t : Nat} {v : Int32} (k : Nat) (ht : t < 3) (hsh : sh[k]? = some (.inr (t, n))) (hv : Int32.ofNat n = v) (hd : decode cc pc = .ok (.arraylength, 1)) (K : Zj p l e R s m args below meth c D cA σ sh nL rv S' (pc + 1) L (.int v :: st) S) : Zj p l e R s m args below meth c D cA σ sh nL rv S' pc L (.ref (σ k) :: st) S := fun H locs ls hP hS hl => by
  obtain ⟨hx, hb, -, hown, hts, -, -, hK, hi, -⟩ := X
  rcases (show t = 0 ∨ t = 1 ∨ t = 2 by omega) with rfl | rfl | rfl
  · exact va_alen hx hb hK hP k 0 (zw_at hsh) rfl hv hd (K H locs ls hP hS hl)
  · exact va_alen hx hb hK hP k 1 (zw_at hsh) rfl hv hd (K H locs ls hP hS hl)
  · exact va_alen hx hb hK hP k 2 (zw_at hsh) rfl hv hd (K H locs ls hP hS hl)
theorem z_gets (X : zM p s m args meth c D cA σ sh tS own cc nL ret) {idx : Nat} (hw : Cond.fieldLink own idx "ReadAge$Odds" "PICKS" "[J" ∈ lw_tg) (hd : decode cc pc = .ok (.getstatic idx, 3)) (K : Zj p l e R s m args below meth c D cA σ sh nL rv S' (pc + 3) L (.ref tS :: st) S) : Zj p l e R s m args below meth c D cA σ sh nL rv S' pc L st S := fun H locs ls hP hS hl => va_gets X.1 X.2.1 X.2.2.2.2.2.2.2.2.2.1 hS X.2.2.2.1 (X.2.2.2.2.1 _ hw) (fun _ q => q) hd (K H locs ls hP hS hl)
theorem z_tl (X : zM p s m args meth c D cA σ sh tS own cc nL ret) {i : Int32} {α : Type} {o : Option α} {r : α} (hd : decode cc pc = .ok (.laload, 1)) (h : zg (zin i 36) o = some r) (K : o = some r → Zj p l e R s m args below meth c D cA σ sh nL rv S' (pc + 1) L (.long (zpk i.toNatClampNeg) :: st) S) : Zj p l e R s m args below meth c D cA σ sh nL rv S' pc L (.int i :: .ref tS :: st) S := fun H locs ls hP hS hl => va_tl X.1 X.2.1 X.2.2.2.2.2.2.2.2.2.2.1 hS (zin_in (zg_some h).1) rfl hd (K (zg_some h).2 H locs ls hP hS hl)
/-- the machine's own: max, min, the copying of a row into itself -/
def zMath (own : String) (idx : Nat) (y : MethodName) (cd : ByteArray) : Prop := Cond.methodLink own idx y ∈ lw_tg ∧ Cond.static y ∈ lw_tg ∧ Cond.initialized "java/lang/Math" ∈ lw_tg ∧ Cond.code y cd 2 (some .int) ∈ lw_tg
theorem z_max (X : zM p s m args meth c D cA σ sh tS own cc nL ret) {idx : Nat} {x y : Int32} (hM : zMath own idx Lib.Math.max.name Lib.Math.max.code) (hR : 1 ≤ R.frames ∧ (st.map fun v => v.category).sum + 13 ≤ R.locals) (hd : decode cc pc = .ok (.invokestatic idx, 3)) (K : Zj p l e R s m args below meth c D cA σ sh nL rv S' (pc + 3) L (.int (if x < y then y else x) :: st) S) : Zj p l e R s m args below meth c D cA σ sh nL rv S' pc L (.int y :: .int x :: st) S := fun H locs ls hP hS hl => by
  obtain ⟨hx, hb, hml, hown, hts, -⟩ := X
  exact va_mmax hx hb (hml.trans hl.1.symm) hown (hts _ hM.1) (hts _ hM.2.1) (hts _ hM.2.2.1) (hts _ hM.2.2.2) hR.1 hR.2 (Nat.zero_le _) (Nat.zero_le _) hd (K H locs ls hP hS hl)
theorem z_min (X : zM p s m args meth c D cA σ sh tS own cc nL ret) {idx : Nat} {x y : Int32} (hM : zMath own idx Lib.Math.min.name Lib.Math.min.code) (hR : 1 ≤ R.frames ∧ (st.map fun v => v.category).sum + 13 ≤ R.locals) (hd : decode cc pc = .ok (.invokestatic idx, 3)) (K : Zj p l e R s m args below meth c D cA σ sh nL rv S' (pc + 3) L (.int (if y < x then y else x) :: st) S) : Zj p l e R s m args below meth c D cA σ sh nL rv S' pc L (.int y :: .int x :: st) S := fun H locs ls hP hS hl => by
  obtain ⟨hx, hb, hml, hown, hts, -⟩ := X
  exact va_mmin hx hb (hml.trans hl.1.symm) hown (hts _ hM.1) (hts _ hM.2.1) (hts _ hM.2.2.1) (hts _ hM.2.2.2) hR.1 hR.2 (Nat.zero_le _) (Nat.zero_le _) hd (K H locs ls hP hS hl)
def zcpk (sp dp n : Int32) (N : Nat) : Bool := decide (¬ sp < 0 ∧ ¬ dp < 0 ∧ ¬ n < 0 ∧ sp.toNatClampNeg + n.toNatClampNeg ≤ N ∧ dp.toNatClampNeg + n.toNatClampNeg ≤ N)
theorem z_cpl (X : zM p s m args meth c D cA σ sh tS own cc nL ret) {idx : Nat} {sp dp n : Int32} {N : Nat} {α : Type} {o : Option α} {r : α} (k : Nat) (hsh : sh[k]? = some (.inr (1, N))) (hM : Cond.methodLink own idx arraycopyName ∈ lw_tg ∧ Cond.native arraycopyName ∈ lw_tg ∧ Cond.static arraycopyName ∈ lw_tg ∧ Cond.initialized "java/lang/System" ∈ lw_tg) (hR : 1 ≤ R.frames ∧ (st.map fun v => v.category).sum + (nativeFrameWords "java/lang/System" "arraycopy" 5 + 11) ≤ R.locals) (hd : decode cc pc = .ok (.invokestatic idx, 3)) (h : zg (zcpk sp dp n N) o = some r) (K : o = some r → Zj p l e R s m args below meth c D cA σ sh nL rv S' (pc + 3) L st (wC S k (va_cpy (S.2 k) (S.2 k) sp.toNatClampNeg dp.toNatClampNeg n.toNatClampNeg))) : Zj p l e R s m args below meth c D cA σ sh nL rv S' pc L (.int n :: .int dp :: .ref (σ k) :: .int sp :: .ref (σ k) :: st) S := fun H locs ls hP hS hl => by
  obtain ⟨hx, hb, hml, hown, hts, -, -, hK, hi, -⟩ := X
  obtain ⟨g1, g2, g3, g4, g5⟩ : ¬ sp < 0 ∧ ¬ dp < 0 ∧ ¬ n < 0 ∧ sp.toNatClampNeg + n.toNatClampNeg ≤ N ∧ dp.toNatClampNeg + n.toNatClampNeg ≤ N := of_decide_eq_true (zg_some h).1
  exact va_copyl hx hb (hml.trans hl.1.symm) hown (hts _ hM.1) (hts _ hM.2.1) (hts _ hM.2.2.1) (hts _ hM.2.2.2) hK hP (zw_D S hi) hS k k 1 1 (zw_at hsh) (zw_at hsh) rfl rfl rfl g1 g2 g3 g4 g5 (fun _ _ => rfl) hR.1 hR.2 hd (fun H1 locs1 hP1 hD1 hS1 => K (zg_some h).2 H1 locs1 ls (by rw [← zw_stL hsh]; exact hP1) hS1 hl)

theorem z_ret (v : Option Value) {pc : Nat} {stk : List Value} (hrv : rv = v) (hSS : S' = S) (hk : ∀ (H : Heap) (locs : List Loc) (ls : Array Slot), (∀ t : State, t.heap = H → s.WarmedH t.vm → zQ D cA σ sh v S args s (.returned v) t) → (∀ q ∈ locs, zA sh σ q.base) → W p l e R s m args below meth c H locs 0 0 (MQ below (zQ D cA σ sh v S) args s 0 0 (zA sh σ)) (F0 m pc ls stk)) : Zj p l e R s m args below meth c D cA σ sh nL rv S' pc L stk S := fun H locs ls hP hS hl => by
  subst hrv; subst hSS
  exact hk H locs ls (fun t ht _ => ⟨⟨rfl, by rw [ht]; exact hP⟩, hS.F ht⟩) hS.2.2

theorem z_iret (X : zM p s m args meth c D cA σ sh tS own cc nL (some .int)) {x r0 : Int32} (hrv : rv = some (.int r0)) (hd : decode cc pc = .ok (.ireturn, 1)) (h : some (x, S) = some (r0, S')) : Zj p l e R s m args below meth c D cA σ sh nL rv S' pc L [.int x] S := by
  cases h
  exact z_ret _ hrv rfl (fun H locs ls hq hf => W.iret X.1 X.2.1 X.2.2.2.2.2.1 (fun t h1 h2 => hq t h1 h2) hf hd X.2.2.2.2.2.2.1)
theorem z_zret (X : zM p s m args meth c D cA σ sh tS own cc nL (some .boolean)) {x r0 : Int32} (hrv : rv = some (.int r0)) (hd : decode cc pc = .ok (.ireturn, 1)) (h : zg (zbo x) (some (x, S)) = some (r0, S')) : Zj p l e R s m args below meth c D cA σ sh nL rv S' pc L [.int x] S := by
  obtain ⟨h1, h⟩ := zg_some h
  have hz : x = 0 ∨ x = 1 := of_decide_eq_true h1
  cases h
  exact z_ret _ hrv rfl (fun H locs ls hq hf => W.zret X.1 X.2.1 X.2.2.2.2.2.1 (by rcases hz with rfl | rfl <;> decide +kernel) (fun t h1 h2 => hq t h1 h2) hf hd X.2.2.2.2.2.2.1)
theorem z_lret (X : zM p s m args meth c D cA σ sh tS own cc nL (some .long)) {x r0 : Int64} (hrv : rv = some (.long r0)) (hd : decode cc pc = .ok (.lreturn, 1)) (h : some (x, S) = some (r0, S')) : Zj p l e R s m args below meth c D cA σ sh nL rv S' pc L [.long x] S := by
  cases h
  exact z_ret _ hrv rfl (fun H locs ls hq hf => W.lret X.1 X.2.1 X.2.2.2.2.2.1 (fun t h1 h2 => hq t h1 h2) hf hd X.2.2.2.2.2.2.1)
theorem z_vret (X : zM p s m args meth c D cA σ sh tS own cc nL none) (hrv : rv = none) (hd : decode cc pc = .ok (.return_, 1)) (h : some ((), S) = some ((), S')) : Zj p l e R s m args below meth c D cA σ sh nL rv S' pc L [] S := by
  cases h
  exact z_ret _ hrv rfl (fun H locs ls hq hf => W.vret X.1 X.2.1 X.2.2.2.2.2.1 (fun t h1 h2 => hq t h1 h2) hf hd X.2.2.2.2.2.2.1)

/-- a call that has run: its answer on the stack, the world behind it -/
theorem z_run (X : zM p s m args meth c D cA σ sh tS own cc nL ret) {stk rest : List Value} {a : Array Value} {v : Option Value} {S1 : St} (hr : ∀ (H : Heap) (locs : List Loc) (ls : Array Slot), va_P D vwCl (zw sh cA σ S) H → va_S (zA sh σ) s.heap H locs → lv_has ls nL L → va_Run p l e R s m args below meth c H locs 0 0 0 0 (F0 m pc ls stk) rest (zQ D cA σ sh v S1 a) (zA sh σ)) (K : Zj p l e R s m args below meth c D cA σ sh nL rv S' (pc + 3) L (v.toList ++ rest) S1) : Zj p l e R s m args below meth c D cA σ sh nL rv S' pc L stk S := fun H locs ls hP hS hl => by
  intro T hT XX
  obtain ⟨v', st₀, t, T', Lc, h0, X', hL, e1, e2, ⟨⟨hv, hp⟩, hF⟩, stp⟩ := hr H locs ls hP hS hl T hT XX
  cases hv
  obtain ⟨hz, hk⟩ := hF
  rw [h0] at hz hk
  obtain ⟨t2, a1, b1⟩ := K T'.heap (locs ++ Lc) ls (by rw [e1]; exact hp) ⟨Nat.le_trans hS.1 (by rw [e1]; exact hz), fun q h1 h2 => by rw [e1, hk q (Nat.lt_of_lt_of_le h1 hS.1) h2]; exact hS.2.1 q h1 h2, fun q hq => by
      rcases List.mem_append.mp hq with h | h
      · exact hS.2.2 q h
      · exact hL q h⟩ hl T' rfl X'
  exact ⟨t2, stp t2 a1, b1⟩
theorem zP_blind {av : List Value} : FrameBlind (zP D cA σ sh tS av S) := fun a U g mk q => by
  obtain ⟨h1, h2, h3, h4, h5, h6, h7⟩ := q
  exact ⟨h1, h2, va_K.moved (u := U) (U := U.calling g mk a) (Vm.Alike.refl U.vm) h3, h4, va_Z.moved (u := U) (U := U.calling g mk a) (Vm.Alike.refl U.vm) h5, va_T.moved (u := U) (U := U.calling g mk a) (Vm.Alike.refl U.vm) h6, va_Nw.same (u := U) (U := U.calling g mk a) rfl rfl h7⟩
theorem zP_at (X : zM p s m args meth c D cA σ sh tS own cc nL ret) {av : List Value} {H : Heap} {locs : List Loc} (hP : va_P D vwCl (zw sh cA σ S) H) (hS : va_S (zA sh σ) s.heap H locs) (U : State) (hU : U.heap = H) (hW : s.WarmedH U.vm) : zP D cA σ sh tS av S av.toArray U := by
  obtain ⟨-, -, -, -, -, -, -, hK, hi, h5, h6, h7⟩ := X
  refine ⟨rfl, by rw [hU]; exact hP, va_K.moved hW.alike hK, hi, ?_, ?_, va_Nw.warmM hW h7⟩
  · rw [hU]; exact (h5.kept hS.2.1).moved hW.alike
  · rw [hU]; exact (h6.kept hS.2.1).moved hW.alike
/-- what a call of y by 'own' at a place of its class's pool wants: of an object of the class at place ci; of no object -/
def zCV (own : String) (idx ci : Nat) (y : MethodName) (cd : ByteArray) (mL : Nat) (rt : Option FieldType) (n : Nat) : Prop := (∃ (T : u_T) (N : Nat), vwCl[ci]? = some (y.cls, T, N)) ∧ GoodIn lw_tg (wsV own idx y.cls y (.code y cd mL rt :: lw_tg)) ∧ (y.cls = y.cls ∧ y.cls ≠ "java/lang/invoke/MethodHandle" ∧ y.cls ≠ "java/lang/invoke/VarHandle" ∧ (parseMethodDescriptor y.desc).map (fun d => d.parameters.length) = some n)
def zCS (own : String) (idx : Nat) (y : MethodName) (cd : ByteArray) (mL : Nat) (rt : Option FieldType) (n : Nat) : Prop := GoodIn lw_tg (va_wsS own idx y (.code y cd mL rt :: lw_tg)) ∧ (y.cls ≠ "java/lang/invoke/MethodHandle" ∧ y.cls ≠ "java/lang/invoke/VarHandle" ∧ (parseMethodDescriptor y.desc).map (fun d => d.parameters.length) = some n)
theorem z_callV0 (X : zM p s m args meth c D cA σ sh tS own cc nL ret) {idx ci n mL : Nat} {y : MethodName} {cd : ByteArray} {rt : Option FieldType} {rm : Room} {ts : List Nat} {v : Option Value} {S1 : St} {stk : List Value} (k : Nat) (As : List Value) (hC : zCV own idx ci y cd mL rt n) (hn : As.length = n) (hsh : sh[k]? = some (.inl (ci, ts))) (hst : stk = As.reverse ++ .ref (σ k) :: st) (hW : (st.map fun v => v.category).sum ≤ 8) (hR : rm.cells = 0 ∧ rm.slots = 0 ∧ rm.frames + 1 ≤ R.frames ∧ 8 + (mL + 11) + rm.locals ≤ R.locals) (hd : decode cc pc = .ok (.invokevirtual idx, 3)) (hM : zMet l D cA σ sh tS y cd mL rt rm (.ref (σ k) :: As) S v S1) (K : Zj p l e R s m args below meth c D cA σ sh nL rv S' (pc + 3) L (v.toList ++ st) S1) : Zj p l e R s m args below meth c D cA σ sh nL rv S' pc L stk S := by
  refine z_run (a := (Value.ref (σ k) :: As).toArray) X (fun H locs ls hP hS hl => ?_) K
  obtain ⟨⟨T, N, hci⟩, hG, hy⟩ := hC
  obtain ⟨hx, hb, hml, hown, hts, -, -, hK, -⟩ := id X
  exact va_runV (As := As) (rest := st) ⟨hx, hb, hml, hown, hts⟩ hM (cwV n hts hG rfl hR.1 hR.2.1 hy ⟨hR.2.2.1, hR.2.2.2⟩) ⟨zP_blind, va_recv hK hP hci (zw_at hsh), fun U hU hW => zP_at X hP hS U hU hW⟩ rfl hn hl.1 hst (lv_room hW) hd ⟨Nat.zero_le _, Nat.zero_le _⟩
theorem z_callS0 (X : zM p s m args meth c D cA σ sh tS own cc nL ret) {idx n mL : Nat} {y : MethodName} {cd : ByteArray} {rt : Option FieldType} {rm : Room} {v : Option Value} {S1 : St} {stk : List Value} (As : List Value) (hC : zCS own idx y cd mL rt n) (hn : As.length = n) (hst : stk = As.reverse ++ st) (hW : (st.map fun v => v.category).sum ≤ 8) (hR : rm.cells = 0 ∧ rm.slots = 0 ∧ rm.frames + 1 ≤ R.frames ∧ 8 + (mL + 11) + rm.locals ≤ R.locals) (hd : decode cc pc = .ok (.invokestatic idx, 3)) (hM : zMet l D cA σ sh tS y cd mL rt rm As S v S1) (K : Zj p l e R s m args below meth c D cA σ sh nL rv S' (pc + 3) L (v.toList ++ st) S1) : Zj p l e R s m args below meth c D cA σ sh nL rv S' pc L stk S := by
  refine z_run (a := As.toArray) X (fun H locs ls hP hS hl => ?_) K
  obtain ⟨hG, hy⟩ := hC
  obtain ⟨hx, hb, hml, hown, hts, -, -, hK, -⟩ := id X
  exact va_runS (As := As) (rest := st) ⟨hx, hb, hml, hown, hts⟩ hM (va_cwS n hts hG rfl hR.1 hR.2.1 hy ⟨hR.2.2.1, hR.2.2.2⟩) ⟨zP_blind, fun U hU hW => zP_at X hP hS U hU hW⟩ rfl hn hl.1 hst (lv_room hW) hd ⟨Nat.zero_le _, Nat.zero_le _⟩

def zCN (y : MethodName) (cd : ByteArray) (mL : Nat) (rt : Option FieldType) (n : Nat) : Prop := GoodIn lw_tg (.code y cd mL rt :: lw_tg) ∧ Cond.initialized y.cls ∈ lw_tg ∧ Cond.static y ∈ lw_tg ∧ (y.cls ≠ "java/lang/invoke/MethodHandle" ∧ y.cls ≠ "java/lang/invoke/VarHandle" ∧ (parseMethodDescriptor y.desc).map (fun d => d.parameters.length) = some n)
theorem z_callN0 (X : zM p s m args meth c D cA σ sh tS own cc nL ret) {idx n mL : Nat} {y : MethodName} {host : String} {cd : ByteArray} {rt : Option FieldType} {rm : Room} {v : Option Value} {S1 : St} {stk : List Value} (As : List Value) (hC : zCN y cd mL rt n) (hl : va_Nw (.methodLinkNest own idx y host) s) (hn : As.length = n) (hst : stk = As.reverse ++ st) (hW : (st.map fun v => v.category).sum ≤ 8) (hR : rm.cells = 0 ∧ rm.slots = 0 ∧ rm.frames + 1 ≤ R.frames ∧ 8 + (mL + 11) + rm.locals ≤ R.locals) (hd : decode cc pc = .ok (.invokestatic idx, 3)) (hM : zMet l D cA σ sh tS y cd mL rt rm As S v S1) (K : Zj p l e R s m args below meth c D cA σ sh nL rv S' (pc + 3) L (v.toList ++ st) S1) : Zj p l e R s m args below meth c D cA σ sh nL rv S' pc L stk S := by
  refine z_run (a := As.toArray) X (fun H locs ls hP hS hlv => ?_) K
  obtain ⟨hG, h1, h2, hy⟩ := hC
  obtain ⟨hx, hb, hml, hown, hts, -, -, hK, -⟩ := id X
  exact va_runSN (As := As) (rest := st) ⟨hx, hb, hml, hown, hts⟩ hM ⟨va_cnB n hts hG rfl hR.1 hR.2.1 hl (hts _ h1) hy ⟨hR.2.2.1, hR.2.2.2⟩, hts _ h2, trivial⟩ ⟨zP_blind, fun U hU hW => zP_at X hP hS U hU hW⟩ rfl hn hlv.1 hst (lv_room hW) hd ⟨Nat.zero_le _, Nat.zero_le _⟩
theorem z_callNi (X : zM p s m args meth c D cA σ sh tS own cc nL ret) {idx n mL : Nat} {y : MethodName} {host : String} {cd : ByteArray} {rt : Option FieldType} {rm : Room} {stk : List Value} {α : Type} {o : Option (Int32 × St)} {f : Int32 → St → Option α} {r : α} (As : List Value) (hC : zCN y cd mL rt n) (hl : va_Nw (.methodLinkNest own idx y host) s) (hn : As.length = n) (hst : stk = As.reverse ++ st) (hW : (st.map fun v => v.category).sum ≤ 8) (hR : rm.cells = 0 ∧ rm.slots = 0 ∧ rm.frames + 1 ≤ R.frames ∧ 8 + (mL + 11) + rm.locals ≤ R.locals) (hd : decode cc pc = .ok (.invokestatic idx, 3)) (h : zb o f = some r) (hM : ∀ (r0 : Int32) (S1 : St), o = some (r0, S1) → zMet l D cA σ sh tS y cd mL rt rm As S (some (.int r0)) S1) (K : ∀ (r0 : Int32) (S1 : St), f r0 S1 = some r → Zj p l e R s m args below meth c D cA σ sh nL rv S' (pc + 3) L (.int r0 :: st) S1) : Zj p l e R s m args below meth c D cA σ sh nL rv S' pc L stk S := by
  obtain ⟨r0, S1, h1, h2⟩ := zb_some h
  exact z_callN0 X As hC hl hn hst hW hR hd (hM r0 S1 h1) (K r0 S1 h2)

theorem z_callVi (X : zM p s m args meth c D cA σ sh tS own cc nL ret) {idx ci n mL : Nat} {y : MethodName} {cd : ByteArray} {rt : Option FieldType} {rm : Room} {ts : List Nat} {stk : List Value} {α : Type} {o : Option (Int32 × St)} {f : Int32 → St → Option α} {r : α} (k : Nat) (As : List Value) (hC : zCV own idx ci y cd mL rt n) (hn : As.length = n) (hsh : sh[k]? = some (.inl (ci, ts))) (hst : stk = As.reverse ++ .ref (σ k) :: st) (hW : (st.map fun v => v.category).sum ≤ 8) (hR : rm.cells = 0 ∧ rm.slots = 0 ∧ rm.frames + 1 ≤ R.frames ∧ 8 + (mL + 11) + rm.locals ≤ R.locals) (hd : decode cc pc = .ok (.invokevirtual idx, 3)) (h : zb o f = some r) (hM : ∀ (r0 : Int32) (S1 : St), o = some (r0, S1) → zMet l D cA σ sh tS y cd mL rt rm (.ref (σ k) :: As) S (some (.int r0)) S1) (K : ∀ (r0 : Int32) (S1 : St), f r0 S1 = some r → Zj p l e R s m args below meth c D cA σ sh nL rv S' (pc + 3) L (.int r0 :: st) S1) : Zj p l e R s m args below meth c D cA σ sh nL rv S' pc L stk S := by
  obtain ⟨r0, S1, h1, h2⟩ := zb_some h
  exact z_callV0 X k As hC hn hsh hst hW hR hd (hM r0 S1 h1) (K r0 S1 h2)
theorem z_callSi (X : zM p s m args meth c D cA σ sh tS own cc nL ret) {idx n mL : Nat} {y : MethodName} {cd : ByteArray} {rt : Option FieldType} {rm : Room} {stk : List Value} {α : Type} {o : Option (Int32 × St)} {f : Int32 → St → Option α} {r : α} (As : List Value) (hC : zCS own idx y cd mL rt n) (hn : As.length = n) (hst : stk = As.reverse ++ st) (hW : (st.map fun v => v.category).sum ≤ 8) (hR : rm.cells = 0 ∧ rm.slots = 0 ∧ rm.frames + 1 ≤ R.frames ∧ 8 + (mL + 11) + rm.locals ≤ R.locals) (hd : decode cc pc = .ok (.invokestatic idx, 3)) (h : zb o f = some r) (hM : ∀ (r0 : Int32) (S1 : St), o = some (r0, S1) → zMet l D cA σ sh tS y cd mL rt rm As S (some (.int r0)) S1) (K : ∀ (r0 : Int32) (S1 : St), f r0 S1 = some r → Zj p l e R s m args below meth c D cA σ sh nL rv S' (pc + 3) L (.int r0 :: st) S1) : Zj p l e R s m args below meth c D cA σ sh nL rv S' pc L stk S := by
  obtain ⟨r0, S1, h1, h2⟩ := zb_some h
  exact z_callS0 X As hC hn hst hW hR hd (hM r0 S1 h1) (K r0 S1 h2)

theorem z_callVl (X : zM p s m args meth c D cA σ sh tS own cc nL ret) {idx ci n mL : Nat} {y : MethodName} {cd : ByteArray} {rt : Option FieldType} {rm : Room} {ts : List Nat} {stk : List Value} {α : Type} {o : Option (Int64 × St)} {f : Int64 → St → Option α} {r : α} (k : Nat) (As : List Value) (hC : zCV own idx ci y cd mL rt n) (hn : As.length = n) (hsh : sh[k]? = some (.inl (ci, ts))) (hst : stk = As.reverse ++ .ref (σ k) :: st) (hW : (st.map fun v => v.category).sum ≤ 8) (hR : rm.cells = 0 ∧ rm.slots = 0 ∧ rm.frames + 1 ≤ R.frames ∧ 8 + (mL + 11) + rm.locals ≤ R.locals) (hd : decode cc pc = .ok (.invokevirtual idx, 3)) (h : zb o f = some r) (hM : ∀ (r0 : Int64) (S1 : St), o = some (r0, S1) → zMet l D cA σ sh tS y cd mL rt rm (.ref (σ k) :: As) S (some (.long r0)) S1) (K : ∀ (r0 : Int64) (S1 : St), f r0 S1 = some r → Zj p l e R s m args below meth c D cA σ sh nL rv S' (pc + 3) L (.long r0 :: st) S1) : Zj p l e R s m args below meth c D cA σ sh nL rv S' pc L stk S := by
  obtain ⟨r0, S1, h1, h2⟩ := zb_some h
  exact z_callV0 X k As hC hn hsh hst hW hR hd (hM r0 S1 h1) (K r0 S1 h2)
theorem z_callSl (X : zM p s m args meth c D cA σ sh tS own cc nL ret) {idx n mL : Nat} {y : MethodName} {cd : ByteArray} {rt : Option FieldType} {rm : Room} {stk : List Value} {α : Type} {o : Option (Int64 × St)} {f : Int64 → St → Option α} {r : α} (As : List Value) (hC : zCS own idx y cd mL rt n) (hn : As.length = n) (hst : stk = As.reverse ++ st) (hW : (st.map fun v => v.category).sum ≤ 8) (hR : rm.cells = 0 ∧ rm.slots = 0 ∧ rm.frames + 1 ≤ R.frames ∧ 8 + (mL + 11) + rm.locals ≤ R.locals) (hd : decode cc pc = .ok (.invokestatic idx, 3)) (h : zb o f = some r) (hM : ∀ (r0 : Int64) (S1 : St), o = some (r0, S1) → zMet l D cA σ sh tS y cd mL rt rm As S (some (.long r0)) S1) (K : ∀ (r0 : Int64) (S1 : St), f r0 S1 = some r → Zj p l e R s m args below meth c D cA σ sh nL rv S' (pc + 3) L (.long r0 :: st) S1) : Zj p l e R s m args below meth c D cA σ sh nL rv S' pc L stk S := by
  obtain ⟨r0, S1, h1, h2⟩ := zb_some h
  exact z_callS0 X As hC hn hst hW hR hd (hM r0 S1 h1) (K r0 S1 h2)

theorem z_callVv (X : zM p s m args meth c D cA σ sh tS own cc nL ret) {idx ci n mL : Nat} {y : MethodName} {cd : ByteArray} {rt : Option FieldType} {rm : Room} {ts : List Nat} {stk : List Value} {α : Type} {o : Option (Unit × St)} {f : Unit → St → Option α} {r : α} (k : Nat) (As : List Value) (hC : zCV own idx ci y cd mL rt n) (hn : As.length = n) (hsh : sh[k]? = some (.inl (ci, ts))) (hst : stk = As.reverse ++ .ref (σ k) :: st) (hW : (st.map fun v => v.category).sum ≤ 8) (hR : rm.cells = 0 ∧ rm.slots = 0 ∧ rm.frames + 1 ≤ R.frames ∧ 8 + (mL + 11) + rm.locals ≤ R.locals) (hd : decode cc pc = .ok (.invokevirtual idx, 3)) (h : zb o f = some r) (hM : ∀ (r0 : Unit) (S1 : St), o = some (r0, S1) → zMet l D cA σ sh tS y cd mL rt rm (.ref (σ k) :: As) S (none) S1) (K : ∀ (r0 : Unit) (S1 : St), f r0 S1 = some r → Zj p l e R s m args below meth c D cA σ sh nL rv S' (pc + 3) L (st) S1) : Zj p l e R s m args below meth c D cA σ sh nL rv S' pc L stk S := by
  obtain ⟨r0, S1, h1, h2⟩ := zb_some h
  exact z_callV0 X k As hC hn hsh hst hW hR hd (hM r0 S1 h1) (K r0 S1 h2)
theorem z_callSv (X : zM p s m args meth c D cA σ sh tS own cc nL ret) {idx n mL : Nat} {y : MethodName} {cd : ByteArray} {rt : Option FieldType} {rm : Room} {stk : List Value} {α : Type} {o : Option (Unit × St)} {f : Unit → St → Option α} {r : α} (As : List Value) (hC : zCS own idx y cd mL rt n) (hn : As.length = n) (hst : stk = As.reverse ++ st) (hW : (st.map fun v => v.category).sum ≤ 8) (hR : rm.cells = 0 ∧ rm.slots = 0 ∧ rm.frames + 1 ≤ R.frames ∧ 8 + (mL + 11) + rm.locals ≤ R.locals) (hd : decode cc pc = .ok (.invokestatic idx, 3)) (h : zb o f = some r) (hM : ∀ (r0 : Unit) (S1 : St), o = some (r0, S1) → zMet l D cA σ sh tS y cd mL rt rm As S (none) S1) (K : ∀ (r0 : Unit) (S1 : St), f r0 S1 = some r → Zj p l e R s m args below meth c D cA σ sh nL rv S' (pc + 3) L (st) S1) : Zj p l e R s m args below meth c D cA σ sh nL rv S' pc L stk S := by
  obtain ⟨r0, S1, h1, h2⟩ := zb_some h
  exact z_callS0 X As hC hn hst hW hR hd (hM r0 S1 h1) (K r0 S1 h2)

end ZROWS
/-- a method by its walk -/
theorem z_met {l : Launch} {D : va_G} {cA : Nat → ClassId} {σ : Nat → Nat} {sh : List zk} {tS : Nat} {y : MethodName} {cc : ByteArray} {nL : Nat} {ret : Option FieldType} {rm : Room} {av : List Value} {S S' : St} {rv : Option Value} (L : List (Nat × Value)) (hy : plainName y.cls = true) (hn : (lg_sl av).length ≤ nL) (hL : lv_args 0 av = L) (K : ∀ (p : Program) (e : Env) (s : State) (m : MethodId) (args : Array Value) (below : List Frame) (meth : Method) (c : Code), zM p s m args meth c D cA σ sh tS y.cls cc nL ret → Zj p l e rm s m args below meth c D cA σ sh nL rv S' 0 L [] S) : zMet l D cA σ sh tS y cc nL ret rm av S rv S' := by
  refine Met.ofW (cc := cc) (maxL := nL) (ret := ret) hy rfl ?_
  intro p e s m args below meth c s₁ B hml hv
  obtain ⟨rfl, hP, hK, hi, hT⟩ := hv
  have hts := atoms_spec (ws := Cond.code y cc nL ret :: lw_tg) B.pre
  have hX : zM p s m av.toArray meth c D cA σ sh tS y.cls cc nL ret := ⟨B.exec, B.bytes, hml, findClass_of_methodNamed B.named, fun w hw => hts w (List.mem_cons_of_mem _ hw), B.returns, B.notSynchronized, hK, hi, hT⟩
  have hl := lv_entry av (n := nL) hn
  rw [lg_entry_eq]
  exact K p e s m av.toArray below meth c hX s.heap [] _ hP va_S.rf (hL ▸ hl)

