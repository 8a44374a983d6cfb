section ZZ
variable {p : Program} {l : Launch} {e : Env} {s : State} {m : MethodId} {args : Array Value} {below : List Frame} {meth : Method} {c : Code} {D : va_G} {cA : Nat → ClassId} {σ : Nat → Nat} {tS : Nat}
set_option maxRecDepth 100000 in
set_option maxHeartbeats 4000000 in
theorem zz0_above_33 {S' : St} {r : Int64} (X : zM p s m args meth c D cA σ shC tS RX0 cX0_above 5 (some .long)) : ∀ (S : St) (x2 : Int64), J0_above_33 S x2 = some (r, S') → Zj p l e rm0_above s m args below meth c D cA σ shC 5 (some (.long r)) S' 33 [(2, .long x2)] [] S := by
  intro S x2 h
  rw [J0_above_33] at h
  refine z_lload_n (pc := 33) X dX0_above_33 rfl 0 rfl ?_
  exact z_lret X rfl dX0_above_34 h
set_option maxRecDepth 100000 in
set_option maxHeartbeats 4000000 in
theorem zz0_above_6 {S' : St} {r : Int64} (X : zM p s m args meth c D cA σ shC tS RX0 cX0_above 5 (some .long)) : ∀ (n : Nat) (S : St) (x1 : Int32) (x2 : Int64) (x4 : Int32), J0_above_6 n S x1 x2 x4 = some (r, S') → Zj p l e rm0_above s m args below meth c D cA σ shC 5 (some (.long r)) S' 6 [(0, .ref (σ 5)), (1, .int x1), (2, .long x2), (4, .int x4)] [] S := by
  intro n
  induction n with
  | zero =>
    intro S x1 x2 x4 h
    rw [J0_above_6] at h
    cases h
  | succ n ih =>
    intro S x1 x2 x4 h
    rw [J0_above_6] at h
    refine z_iload (pc := 6) X dX0_above_6 3 rfl ?_
    refine z_iload_n (pc := 8) X dX0_above_8 rfl 1 rfl ?_
    refine z_icmp_le (pc := 9) (tgt := 33) X dX0_above_9 (by decide) h (fun h => ?_) (fun h => ?_)
    · exact z_sub [2] rfl (zz0_above_33 X  _ _ h)
    · refine z_iload (pc := 12) X dX0_above_12 3 rfl ?_
      refine z_if_lt (pc := 14) (tgt := 33) X dX0_above_14 (by decide) h (fun h => ?_) (fun h => ?_)
      · exact z_sub [2] rfl (zz0_above_33 X  _ _ h)
      · refine z_lload_n (pc := 17) X dX0_above_17 rfl 2 rfl ?_
        refine z_aload_n (pc := 18) X dX0_above_18 rfl 0 rfl ?_
        refine z_get (pc := 19) (v := .ref (σ 6)) X 5 fX0_9 rfl rfl dX0_above_19 rfl ?_
        refine z_iload (pc := 22) X dX0_above_22 3 rfl ?_
        refine z_lald (pc := 24) X 6 rfl dX0_above_24 h (fun h => ?_)
        refine z_ladd (pc := 25) X dX0_above_25 ?_
        refine z_lstore_n (pc := 26) (L' := [(2, .long _), (0, .ref _), (1, .int _), (4, .int _)]) X dX0_above_26 rfl (by decide) rfl ?_
        refine z_let h (fun h => ?_)
        refine z_iinc (pc := 27) (k := 3) (v := -1) (L' := [(4, .int _), (2, .long _), (0, .ref _), (1, .int _)]) X dX0_above_27 rfl (by decide) (by decide) rfl ?_
        refine z_let h (fun h => ?_)
        refine z_goto (pc := 30) (tgt := 6) X dX0_above_30 (by decide) ?_
        exact z_sub [2, 3, 1, 0] rfl (ih _ _ _ _ h)
set_option maxRecDepth 100000 in
set_option maxHeartbeats 4000000 in
theorem zz0_above_0 {S' : St} {r : Int64} (X : zM p s m args meth c D cA σ shC tS RX0 cX0_above 5 (some .long)) : ∀ (S : St) (x1 : Int32), J0_above S x1 = some (r, S') → Zj p l e rm0_above s m args below meth c D cA σ shC 5 (some (.long r)) S' 0 [(0, .ref (σ 5)), (1, .int x1)] [] S := by
  intro S x1 h
  rw [J0_above] at h
  refine z_lconst (pc := 0) (v := 0) X dX0_above_0 (by decide) ?_
  refine z_lstore_n (pc := 1) (L' := [(2, .long _), (0, .ref _), (1, .int _)]) X dX0_above_1 rfl (by decide) rfl ?_
  refine z_bipush (pc := 2) (v := 7) X dX0_above_2 (by decide) ?_
  refine z_istore (pc := 4) (L' := [(4, .int _), (2, .long _), (0, .ref _), (1, .int _)]) X dX0_above_4 (by decide) rfl ?_
  exact z_sub [2, 3, 1, 0] rfl (zz0_above_6 X  fu _ _ _ _ h)
theorem cc0_above {l : Launch} {D : va_G} {cA : Nat → ClassId} {σ : Nat → Nat} {tS : Nat} {S S' : St} {x1 : Int32} {r : Int64} (h : J0_above S x1 = some (r, S')) : zMet l D cA σ shC tS yX0_above cX0_above 5 (some .long) rm0_above [.ref (σ 5), .int x1] S (some (.long r)) S' := z_met [(0, .ref (σ 5)), (1, .int x1)] (by decide +kernel) (Nat.le_of_ble_eq_true rfl) rfl (fun _ _ _ _ _ _ _ _ X => zz0_above_0 X _ _ h)
set_option maxRecDepth 100000 in
set_option maxHeartbeats 4000000 in
theorem zz0_commonDivisor_45 {S' : St} {r : Int64} (X : zM p s m args meth c D cA σ shC tS RX0 cX0_commonDivisor 11 (some .long)) : ∀ (S : St) (x4 : Int64), J0_commonDivisor_45 S x4 = some (r, S') → Zj p l e rm0_commonDivisor s m args below meth c D cA σ shC 11 (some (.long r)) S' 45 [(4, .long x4)] [] S := by
  intro S x4 h
  rw [J0_commonDivisor_45] at h
  refine z_lload (pc := 45) X dX0_commonDivisor_45 0 rfl ?_
  exact z_lret X rfl dX0_commonDivisor_47 h
set_option maxRecDepth 100000 in
set_option maxHeartbeats 4000000 in
theorem zz0_commonDivisor_9 {S' : St} {r : Int64} (X : zM p s m args meth c D cA σ shC tS RX0 cX0_commonDivisor 11 (some .long)) : ∀ (n : Nat) (S : St) (x4 : Int64) (x6 : Int64) (x8 : Int32), J0_commonDivisor_9 n S x4 x6 x8 = some (r, S') → Zj p l e rm0_commonDivisor s m args below meth c D cA σ shC 11 (some (.long r)) S' 9 [(4, .long x4), (6, .long x6), (8, .int x8)] [] S := by
  intro n
  induction n with
  | zero =>
    intro S x4 x6 x8 h
    rw [J0_commonDivisor_9] at h
    cases h
  | succ n ih =>
    intro S x4 x6 x8 h
    rw [J0_commonDivisor_9] at h
    refine z_iload (pc := 9) X dX0_commonDivisor_9 2 rfl ?_
    refine z_sipush (pc := 11) (v := 200) X dX0_commonDivisor_11 (by decide) ?_
    refine z_icmp_ge (pc := 14) (tgt := 45) X dX0_commonDivisor_14 (by decide) h (fun h => ?_) (fun h => ?_)
    · exact z_sub [0] rfl (zz0_commonDivisor_45 X  _ _ h)
    · refine z_lload (pc := 17) X dX0_commonDivisor_17 1 rfl ?_
      refine z_lconst (pc := 19) (v := 0) X dX0_commonDivisor_19 (by decide) ?_
      refine z_lcmp (pc := 20) X dX0_commonDivisor_20 ?_
      refine z_if_eq (pc := 21) (tgt := 45) X dX0_commonDivisor_21 (by decide) h (fun h => ?_) (fun h => ?_)
      · exact z_sub [0] rfl (zz0_commonDivisor_45 X  _ _ h)
      · refine z_lload (pc := 24) X dX0_commonDivisor_24 0 rfl ?_
        refine z_lload (pc := 26) X dX0_commonDivisor_26 1 rfl ?_
        refine z_lrem (pc := 28) X dX0_commonDivisor_28 h (fun h => ?_)
        refine z_lstore (pc := 29) (L' := [(9, .long _), (4, .long _), (6, .long _), (8, .int _)]) X dX0_commonDivisor_29 (by decide) rfl ?_
        refine z_let h (fun h => ?_)
        refine z_lload (pc := 31) X dX0_commonDivisor_31 2 rfl ?_
        refine z_lstore (pc := 33) (L' := [(4, .long _), (9, .long _), (6, .long _), (8, .int _)]) X dX0_commonDivisor_33 (by decide) rfl ?_
        refine z_lload (pc := 35) X dX0_commonDivisor_35 1 rfl ?_
        refine z_lstore (pc := 37) (L' := [(6, .long _), (4, .long _), (9, .long _), (8, .int _)]) X dX0_commonDivisor_37 (by decide) rfl ?_
        refine z_iinc (pc := 39) (k := 3) (v := 1) (L' := [(8, .int _), (6, .long _), (4, .long _), (9, .long _)]) X dX0_commonDivisor_39 rfl (by decide) (by decide) rfl ?_
        refine z_let h (fun h => ?_)
        refine z_goto (pc := 42) (tgt := 9) X dX0_commonDivisor_42 (by decide) ?_
        exact z_sub [2, 1, 0] rfl (ih _ _ _ _ h)
set_option maxRecDepth 100000 in
set_option maxHeartbeats 4000000 in
theorem zz0_commonDivisor_0 {S' : St} {r : Int64} (X : zM p s m args meth c D cA σ shC tS RX0 cX0_commonDivisor 11 (some .long)) : ∀ (S : St) (x0 : Int64) (x2 : Int64), J0_commonDivisor S x0 x2 = some (r, S') → Zj p l e rm0_commonDivisor s m args below meth c D cA σ shC 11 (some (.long r)) S' 0 [(0, .long x0), (2, .long x2)] [] S := by
  intro S x0 x2 h
  rw [J0_commonDivisor] at h
  refine z_lload_n (pc := 0) X dX0_commonDivisor_0 rfl 0 rfl ?_
  refine z_lstore (pc := 1) (L' := [(4, .long _), (0, .long _), (2, .long _)]) X dX0_commonDivisor_1 (by decide) rfl ?_
  refine z_lload_n (pc := 3) X dX0_commonDivisor_3 rfl 2 rfl ?_
  refine z_lstore (pc := 4) (L' := [(6, .long _), (4, .long _), (0, .long _), (2, .long _)]) X dX0_commonDivisor_4 (by decide) rfl ?_
  refine z_iconst (pc := 6) (v := 0) X dX0_commonDivisor_6 (by decide) ?_
  refine z_istore (pc := 7) (L' := [(8, .int _), (6, .long _), (4, .long _), (0, .long _), (2, .long _)]) X dX0_commonDivisor_7 (by decide) rfl ?_
  exact z_sub [2, 1, 0] rfl (zz0_commonDivisor_9 X  fu _ _ _ _ h)
theorem cc0_commonDivisor {l : Launch} {D : va_G} {cA : Nat → ClassId} {σ : Nat → Nat} {tS : Nat} {S S' : St} {x0 : Int64} {x2 : Int64} {r : Int64} (h : J0_commonDivisor S x0 x2 = some (r, S')) : zMet l D cA σ shC tS yX0_commonDivisor cX0_commonDivisor 11 (some .long) rm0_commonDivisor [.long x0, .long x2] S (some (.long r)) S' := z_met [(0, .long x0), (2, .long x2)] (by decide +kernel) (Nat.le_of_ble_eq_true rfl) rfl (fun _ _ _ _ _ _ _ _ X => zz0_commonDivisor_0 X _ _ _ h)
set_option maxRecDepth 100000 in
set_option maxHeartbeats 4000000 in
theorem zz0_power_5 {S' : St} {r : Int64} (X : zM p s m args meth c D cA σ shC tS RX0 cX0_power 6 (some .long)) : ∀ (n : Nat) (S : St) (x0 : Int64) (x2 : Int32) (x3 : Int64) (x5 : Int32), J0_power_5 n S x0 x2 x3 x5 = some (r, S') → Zj p l e rm0_power s m args below meth c D cA σ shC 6 (some (.long r)) S' 5 [(0, .long x0), (2, .int x2), (3, .long x3), (5, .int x5)] [] S := by
  intro n
  induction n with
  | zero =>
    intro S x0 x2 x3 x5 h
    rw [J0_power_5] at h
    cases h
  | succ n ih =>
    intro S x0 x2 x3 x5 h
    rw [J0_power_5] at h
    refine z_iload (pc := 5) X dX0_power_5 3 rfl ?_
    refine z_iload_n (pc := 7) X dX0_power_7 rfl 1 rfl ?_
    refine z_icmp_ge (pc := 8) (tgt := 21) X dX0_power_8 (by decide) h (fun h => ?_) (fun h => ?_)
    · refine z_lload_n (pc := 21) X dX0_power_21 rfl 2 rfl ?_
      exact z_lret X rfl dX0_power_22 h
    · refine z_lload_n (pc := 11) X dX0_power_11 rfl 2 rfl ?_
      refine z_lload_n (pc := 12) X dX0_power_12 rfl 0 rfl ?_
      refine z_lmul (pc := 13) X dX0_power_13 ?_
      refine z_lstore_n (pc := 14) (L' := [(3, .long _), (0, .long _), (2, .int _), (5, .int _)]) X dX0_power_14 rfl (by decide) rfl ?_
      refine z_let h (fun h => ?_)
      refine z_iinc (pc := 15) (k := 3) (v := 1) (L' := [(5, .int _), (3, .long _), (0, .long _), (2, .int _)]) X dX0_power_15 rfl (by decide) (by decide) rfl ?_
      refine z_let h (fun h => ?_)
      refine z_goto (pc := 18) (tgt := 5) X dX0_power_18 (by decide) ?_
      exact z_sub [2, 3, 1, 0] rfl (ih _ _ _ _ _ h)
set_option maxRecDepth 100000 in
set_option maxHeartbeats 4000000 in
theorem zz0_power_0 {S' : St} {r : Int64} (X : zM p s m args meth c D cA σ shC tS RX0 cX0_power 6 (some .long)) : ∀ (S : St) (x0 : Int64) (x2 : Int32), J0_power S x0 x2 = some (r, S') → Zj p l e rm0_power s m args below meth c D cA σ shC 6 (some (.long r)) S' 0 [(0, .long x0), (2, .int x2)] [] S := by
  intro S x0 x2 h
  rw [J0_power] at h
  refine z_lconst (pc := 0) (v := 1) X dX0_power_0 (by decide) ?_
  refine z_lstore_n (pc := 1) (L' := [(3, .long _), (0, .long _), (2, .int _)]) X dX0_power_1 rfl (by decide) rfl ?_
  refine z_iconst (pc := 2) (v := 0) X dX0_power_2 (by decide) ?_
  refine z_istore (pc := 3) (L' := [(5, .int _), (3, .long _), (0, .long _), (2, .int _)]) X dX0_power_3 (by decide) rfl ?_
  exact z_sub [2, 3, 1, 0] rfl (zz0_power_5 X  fu _ _ _ _ _ h)
theorem cc0_power {l : Launch} {D : va_G} {cA : Nat → ClassId} {σ : Nat → Nat} {tS : Nat} {S S' : St} {x0 : Int64} {x2 : Int32} {r : Int64} (h : J0_power S x0 x2 = some (r, S')) : zMet l D cA σ shC tS yX0_power cX0_power 6 (some .long) rm0_power [.long x0, .int x2] S (some (.long r)) S' := z_met [(0, .long x0), (2, .int x2)] (by decide +kernel) (Nat.le_of_ble_eq_true rfl) rfl (fun _ _ _ _ _ _ _ _ X => zz0_power_0 X _ _ _ h)
set_option maxRecDepth 100000 in
set_option maxHeartbeats 4000000 in
theorem zz0_ofCopy_0 {S' : St} {r : Int64} (X : zM p s m args meth c D cA σ shC tS RX0 cX0_ofCopy 2 (some .long)) : ∀ (S : St) (x1 : Int32), J0_ofCopy S x1 = some (r, S') → Zj p l e rm0_ofCopy s m args below meth c D cA σ shC 2 (some (.long r)) S' 0 [(0, .ref (σ 5)), (1, .int x1)] [] S := by
  intro S x1 h
  rw [J0_ofCopy] at h
  refine z_aload_n (pc := 0) X dX0_ofCopy_0 rfl 0 rfl ?_
  refine z_get (pc := 1) (v := .ref (σ 7)) X 5 fX0_15 rfl rfl dX0_ofCopy_1 rfl ?_
  refine z_iconst (pc := 4) (v := 0) X dX0_ofCopy_4 (by decide) ?_
  refine z_lald (pc := 5) X 7 rfl dX0_ofCopy_5 h (fun h => ?_)
  refine z_iload_n (pc := 6) X dX0_ofCopy_6 rfl 1 rfl ?_
  refine z_iconst (pc := 7) (v := 1) X dX0_ofCopy_7 (by decide) ?_
  refine z_iadd (pc := 8) X dX0_ofCopy_8 ?_
  refine z_callSl (pc := 9) (rm := rm0_power) X [.long _, .int _] sX0_46 rfl rfl (Nat.le_of_ble_eq_true rfl) ⟨rfl, rfl, Nat.le_of_ble_eq_true rfl, Nat.le_of_ble_eq_true rfl⟩ dX0_ofCopy_9 h (fun _ _ q => cc0_power q) (fun r1 S1 h => ?_)
  refine z_aload_n (pc := 12) X dX0_ofCopy_12 rfl 0 rfl ?_
  refine z_get (pc := 13) (v := .ref (σ 7)) X 5 fX0_15 rfl rfl dX0_ofCopy_13 rfl ?_
  refine z_iconst (pc := 16) (v := 1) X dX0_ofCopy_16 (by decide) ?_
  refine z_lald (pc := 17) X 7 rfl dX0_ofCopy_17 h (fun h => ?_)
  refine z_lmul (pc := 18) X dX0_ofCopy_18 ?_
  refine z_aload_n (pc := 19) X dX0_ofCopy_19 rfl 0 rfl ?_
  refine z_get (pc := 20) (v := .ref (σ 7)) X 5 fX0_15 rfl rfl dX0_ofCopy_20 rfl ?_
  refine z_iconst (pc := 23) (v := 2) X dX0_ofCopy_23 (by decide) ?_
  refine z_lald (pc := 24) X 7 rfl dX0_ofCopy_24 h (fun h => ?_)
  refine z_lmul (pc := 25) X dX0_ofCopy_25 ?_
  refine z_aload_n (pc := 26) X dX0_ofCopy_26 rfl 0 rfl ?_
  refine z_get (pc := 27) (v := .ref (σ 7)) X 5 fX0_15 rfl rfl dX0_ofCopy_27 rfl ?_
  refine z_iconst (pc := 30) (v := 3) X dX0_ofCopy_30 (by decide) ?_
  refine z_lald (pc := 31) X 7 rfl dX0_ofCopy_31 h (fun h => ?_)
  refine z_lmul (pc := 32) X dX0_ofCopy_32 ?_
  exact z_lret X rfl dX0_ofCopy_33 h
theorem cc0_ofCopy {l : Launch} {D : va_G} {cA : Nat → ClassId} {σ : Nat → Nat} {tS : Nat} {S S' : St} {x1 : Int32} {r : Int64} (h : J0_ofCopy S x1 = some (r, S')) : zMet l D cA σ shC tS yX0_ofCopy cX0_ofCopy 2 (some .long) rm0_ofCopy [.ref (σ 5), .int x1] S (some (.long r)) S' := z_met [(0, .ref (σ 5)), (1, .int x1)] (by decide +kernel) (Nat.le_of_ble_eq_true rfl) rfl (fun _ _ _ _ _ _ _ _ X => zz0_ofCopy_0 X _ _ h)
set_option maxRecDepth 100000 in
set_option maxHeartbeats 4000000 in
theorem zz0_greatness_35 {S' : St} {r : Int32} (X : zM p s m args meth c D cA σ shC tS RX0 cX0_greatness 8 (some .int)) : ∀ (S : St), J0_greatness_35 S = some (r, S') → Zj p l e rm0_greatness s m args below meth c D cA σ shC 8 (some (.int r)) S' 35 [] [] S := by
  intro S h
  rw [J0_greatness_35] at h
  refine z_bipush (pc := 35) (v := 9) X dX0_greatness_35 (by decide) ?_
  exact z_iret X rfl dX0_greatness_37 h
set_option maxRecDepth 100000 in
set_option maxHeartbeats 4000000 in
theorem zz0_greatness_12 {S' : St} {r : Int32} (X : zM p s m args meth c D cA σ shC tS RX0 cX0_greatness 8 (some .int)) : ∀ (n : Nat) (S : St) (x1 : Int32) (x3 : Int64) (x5 : Int64) (x7 : Int32), J0_greatness_12 n S x1 x3 x5 x7 = some (r, S') → Zj p l e rm0_greatness s m args below meth c D cA σ shC 8 (some (.int r)) S' 12 [(1, .int x1), (3, .long x3), (5, .long x5), (7, .int x7)] [] S := by
  intro n
  induction n with
  | zero =>
    intro S x1 x3 x5 x7 h
    rw [J0_greatness_12] at h
    cases h
  | succ n ih =>
    intro S x1 x3 x5 x7 h
    rw [J0_greatness_12] at h
    refine z_iload (pc := 12) X dX0_greatness_12 3 rfl ?_
    refine z_iload_n (pc := 14) X dX0_greatness_14 rfl 0 rfl ?_
    refine z_icmp_ge (pc := 15) (tgt := 50) X dX0_greatness_15 (by decide) h (fun h => ?_) (fun h => ?_)
    · refine z_iconst (pc := 50) (v := 0) X dX0_greatness_50 (by decide) ?_
      exact z_iret X rfl dX0_greatness_51 h
    · refine z_lload_n (pc := 18) X dX0_greatness_18 rfl 1 rfl ?_
      refine z_lconst (pc := 19) (v := 1) X dX0_greatness_19 (by decide) ?_
      refine z_lcmp (pc := 20) X dX0_greatness_20 ?_
      refine z_if_lt (pc := 21) (tgt := 35) X dX0_greatness_21 (by decide) h (fun h => ?_) (fun h => ?_)
      · exact z_sub [] rfl (zz0_greatness_35 X  _ h)
      · refine z_lload (pc := 24) X dX0_greatness_24 2 rfl ?_
        refine z_ldc2 (pc := 26) X dX0_greatness_26 mw_537 ?_
        refine z_lload_n (pc := 29) X dX0_greatness_29 rfl 1 rfl ?_
        refine z_ldiv (pc := 30) X dX0_greatness_30 h (fun h => ?_)
        refine z_lcmp (pc := 31) X dX0_greatness_31 ?_
        refine z_if_le (pc := 32) (tgt := 38) X dX0_greatness_32 (by decide) h (fun h => ?_) (fun h => ?_)
        · refine z_lload (pc := 38) X dX0_greatness_38 2 rfl ?_
          refine z_lload_n (pc := 40) X dX0_greatness_40 rfl 1 rfl ?_
          refine z_lmul (pc := 41) X dX0_greatness_41 ?_
          refine z_lstore (pc := 42) (L' := [(5, .long _), (1, .int _), (3, .long _), (7, .int _)]) X dX0_greatness_42 (by decide) rfl ?_
          refine z_let h (fun h => ?_)
          refine z_iinc (pc := 44) (k := 3) (v := 1) (L' := [(7, .int _), (5, .long _), (1, .int _), (3, .long _)]) X dX0_greatness_44 rfl (by decide) (by decide) rfl ?_
          refine z_let h (fun h => ?_)
          refine z_goto (pc := 47) (tgt := 12) X dX0_greatness_47 (by decide) ?_
          exact z_sub [2, 3, 1, 0] rfl (ih _ _ _ _ _ h)
        · exact z_sub [] rfl (zz0_greatness_35 X  _ h)
set_option maxRecDepth 100000 in
set_option maxHeartbeats 4000000 in
theorem zz0_greatness_0 {S' : St} {r : Int32} (X : zM p s m args meth c D cA σ shC tS RX0 cX0_greatness 8 (some .int)) : ∀ (S : St) (x1 : Int32) (x2 : Int32), J0_greatness S x1 x2 = some (r, S') → Zj p l e rm0_greatness s m args below meth c D cA σ shC 8 (some (.int r)) S' 0 [(0, .ref (σ 5)), (1, .int x1), (2, .int x2)] [] S := by
  intro S x1 x2 h
  rw [J0_greatness] at h
  refine z_aload_n (pc := 0) X dX0_greatness_0 rfl 0 rfl ?_
  refine z_iload_n (pc := 1) X dX0_greatness_1 rfl 2 rfl ?_
  refine z_callVl (pc := 2) (rm := rm0_ofCopy) X 5 [.int _] vX0_50 rfl rfl rfl (Nat.le_of_ble_eq_true rfl) ⟨rfl, rfl, Nat.le_of_ble_eq_true rfl, Nat.le_of_ble_eq_true rfl⟩ dX0_greatness_2 h (fun _ _ q => cc0_ofCopy q) (fun r1 S1 h => ?_)
  refine z_lstore_n (pc := 5) (L' := [(3, .long _), (0, .ref _), (1, .int _), (2, .int _)]) X dX0_greatness_5 rfl (by decide) rfl ?_
  refine z_lconst (pc := 6) (v := 1) X dX0_greatness_6 (by decide) ?_
  refine z_lstore (pc := 7) (L' := [(5, .long _), (3, .long _), (0, .ref _), (1, .int _), (2, .int _)]) X dX0_greatness_7 (by decide) rfl ?_
  refine z_iconst (pc := 9) (v := 0) X dX0_greatness_9 (by decide) ?_
  refine z_istore (pc := 10) (L' := [(7, .int _), (5, .long _), (3, .long _), (0, .ref _), (1, .int _), (2, .int _)]) X dX0_greatness_10 (by decide) rfl ?_
  exact z_sub [4, 2, 1, 0] rfl (zz0_greatness_12 X  fu _ _ _ _ _ h)
theorem cc0_greatness {l : Launch} {D : va_G} {cA : Nat → ClassId} {σ : Nat → Nat} {tS : Nat} {S S' : St} {x1 : Int32} {x2 : Int32} {r : Int32} (h : J0_greatness S x1 x2 = some (r, S')) : zMet l D cA σ shC tS yX0_greatness cX0_greatness 8 (some .int) rm0_greatness [.ref (σ 5), .int x1, .int x2] S (some (.int r)) S' := z_met [(0, .ref (σ 5)), (1, .int x1), (2, .int x2)] (by decide +kernel) (Nat.le_of_ble_eq_true rfl) rfl (fun _ _ _ _ _ _ _ _ X => zz0_greatness_0 X _ _ _ h)
set_option maxRecDepth 100000 in
set_option maxHeartbeats 4000000 in
theorem zz0_weight_25 {S' : St} {r : Int64} (X : zM p s m args meth c D cA σ shC tS RX0 cX0_weight 3 (some .long)) : ∀ (S : St) (t0 : Int64), J0_weight_25 S t0 = some (r, S') → Zj p l e rm0_weight s m args below meth c D cA σ shC 3 (some (.long r)) S' 25 [] [.long t0] S := by
  intro S t0 h
  rw [J0_weight_25] at h
  exact z_lret X rfl dX0_weight_25 h
set_option maxRecDepth 100000 in
set_option maxHeartbeats 4000000 in
theorem zz0_weight_24 {S' : St} {r : Int64} (X : zM p s m args meth c D cA σ shC tS RX0 cX0_weight 3 (some .long)) : ∀ (S : St), J0_weight_24 S = some (r, S') → Zj p l e rm0_weight s m args below meth c D cA σ shC 3 (some (.long r)) S' 24 [] [] S := by
  intro S h
  rw [J0_weight_24] at h
  refine z_lconst (pc := 24) (v := 0) X dX0_weight_24 (by decide) ?_
  exact z_sub [] rfl (zz0_weight_25 X  _ _ h)
set_option maxRecDepth 100000 in
set_option maxHeartbeats 4000000 in
theorem zz0_weight_0 {S' : St} {r : Int64} (X : zM p s m args meth c D cA σ shC tS RX0 cX0_weight 3 (some .long)) : ∀ (S : St) (x1 : Int32) (x2 : Int32), J0_weight S x1 x2 = some (r, S') → Zj p l e rm0_weight s m args below meth c D cA σ shC 3 (some (.long r)) S' 0 [(0, .ref (σ 5)), (1, .int x1), (2, .int x2)] [] S := by
  intro S x1 x2 h
  rw [J0_weight] at h
  refine z_iload_n (pc := 0) X dX0_weight_0 rfl 2 rfl ?_
  refine z_if_lt (pc := 1) (tgt := 24) X dX0_weight_1 (by decide) h (fun h => ?_) (fun h => ?_)
  · exact z_sub [] rfl (zz0_weight_24 X  _ h)
  · refine z_iload_n (pc := 4) X dX0_weight_4 rfl 2 rfl ?_
    refine z_bipush (pc := 5) (v := 8) X dX0_weight_5 (by decide) ?_
    refine z_icmp_ge (pc := 7) (tgt := 24) X dX0_weight_7 (by decide) h (fun h => ?_) (fun h => ?_)
    · exact z_sub [] rfl (zz0_weight_24 X  _ h)
    · refine z_aload_n (pc := 10) X dX0_weight_10 rfl 0 rfl ?_
      refine z_get (pc := 11) (v := .ref (σ 6)) X 5 fX0_9 rfl rfl dX0_weight_11 rfl ?_
      refine z_iload_n (pc := 14) X dX0_weight_14 rfl 1 rfl ?_
      refine z_bipush (pc := 15) (v := 8) X dX0_weight_15 (by decide) ?_
      refine z_imul (pc := 17) X dX0_weight_17 ?_
      refine z_iload_n (pc := 18) X dX0_weight_18 rfl 2 rfl ?_
      refine z_iadd (pc := 19) X dX0_weight_19 ?_
      refine z_lald (pc := 20) X 6 rfl dX0_weight_20 h (fun h => ?_)
      refine z_goto (pc := 21) (tgt := 25) X dX0_weight_21 (by decide) ?_
      exact z_sub [] rfl (zz0_weight_25 X  _ _ h)
theorem cc0_weight {l : Launch} {D : va_G} {cA : Nat → ClassId} {σ : Nat → Nat} {tS : Nat} {S S' : St} {x1 : Int32} {x2 : Int32} {r : Int64} (h : J0_weight S x1 x2 = some (r, S')) : zMet l D cA σ shC tS yX0_weight cX0_weight 3 (some .long) rm0_weight [.ref (σ 5), .int x1, .int x2] S (some (.long r)) S' := z_met [(0, .ref (σ 5)), (1, .int x1), (2, .int x2)] (by decide +kernel) (Nat.le_of_ble_eq_true rfl) rfl (fun _ _ _ _ _ _ _ _ X => zz0_weight_0 X _ _ _ h)
set_option maxRecDepth 100000 in
set_option maxHeartbeats 4000000 in
theorem zz0_spread_c9_23 {S' : St} (X : zM p s m args meth c D cA σ shC tS RX0 cX0_spread 8 none) (k3 : St → Int32 → Int32 → Int32 → Option (Unit × St)) (hk3 : ∀ (S : St) (x1 : Int32) (x2 : Int32) (x4 : Int32), k3 S x1 x2 x4 = some ((), S') → Zj p l e rm0_spread s m args below meth c D cA σ shC 8 none S' 3 [(0, .ref (σ 5)), (1, .int x1), (2, .int x2), (3, .ref (σ 9)), (4, .int x4)] [] S) : ∀ (n : Nat) (S : St) (x1 : Int32) (x2 : Int32) (x4 : Int32) (x5 : Int64) (x7 : Int32), J0_spread_c9_23 k3 n S x1 x2 x4 x5 x7 = some ((), S') → Zj p l e rm0_spread s m args below meth c D cA σ shC 8 none S' 23 [(0, .ref (σ 5)), (1, .int x1), (2, .int x2), (3, .ref (σ 9)), (4, .int x4), (5, .long x5), (7, .int x7)] [] S := by
  intro n
  induction n with
  | zero =>
    intro S x1 x2 x4 x5 x7 h
    rw [J0_spread_c9_23] at h
    cases h
  | succ n ih =>
    intro S x1 x2 x4 x5 x7 h
    rw [J0_spread_c9_23] at h
    refine z_iload (pc := 23) X dX0_spread_23 6 rfl ?_
    refine z_bipush (pc := 25) (v := 8) X dX0_spread_25 (by decide) ?_
    refine z_icmp_ge (pc := 27) (tgt := 59) X dX0_spread_27 (by decide) h (fun h => ?_) (fun h => ?_)
    · refine z_aload_n (pc := 59) X dX0_spread_59 rfl 3 rfl ?_
      refine z_iload (pc := 60) X dX0_spread_60 4 rfl ?_
      refine z_lload (pc := 62) X dX0_spread_62 5 rfl ?_
      refine z_last (pc := 64) X 9 rfl dX0_spread_64 h (fun h => ?_)
      refine z_let h (fun h => ?_)
      refine z_iinc (pc := 65) (k := 4) (v := 1) (L' := [(4, .int _), (0, .ref _), (1, .int _), (2, .int _), (3, .ref _), (5, .long _), (7, .int _)]) X dX0_spread_65 rfl (by decide) (by decide) rfl ?_
      refine z_let h (fun h => ?_)
      refine z_goto (pc := 68) (tgt := 3) X dX0_spread_68 (by decide) ?_
      exact z_sub [1, 2, 3, 4, 0] rfl (hk3 _ _ _ _ h)
    · refine z_lload (pc := 30) X dX0_spread_30 5 rfl ?_
      refine z_aload_n (pc := 32) X dX0_spread_32 rfl 0 rfl ?_
      refine z_iload_n (pc := 33) X dX0_spread_33 rfl 1 rfl ?_
      refine z_iload (pc := 34) X dX0_spread_34 6 rfl ?_
      refine z_callVl (pc := 36) (rm := rm0_weight) X 5 [.int _, .int _] vX0_42 rfl rfl rfl (Nat.le_of_ble_eq_true rfl) ⟨rfl, rfl, Nat.le_of_ble_eq_true rfl, Nat.le_of_ble_eq_true rfl⟩ dX0_spread_36 h (fun _ _ q => cc0_weight q) (fun r3 S3 h => ?_)
      refine z_aload_n (pc := 39) X dX0_spread_39 rfl 0 rfl ?_
      refine z_iload_n (pc := 40) X dX0_spread_40 rfl 2 rfl ?_
      refine z_iload (pc := 41) X dX0_spread_41 4 rfl ?_
      refine z_iload (pc := 43) X dX0_spread_43 6 rfl ?_
      refine z_isub (pc := 45) X dX0_spread_45 ?_
      refine z_callVl (pc := 46) (rm := rm0_weight) X 5 [.int _, .int _] vX0_42 rfl rfl rfl (Nat.le_of_ble_eq_true rfl) ⟨rfl, rfl, Nat.le_of_ble_eq_true rfl, Nat.le_of_ble_eq_true rfl⟩ dX0_spread_46 h (fun _ _ q => cc0_weight q) (fun r4 S4 h => ?_)
      refine z_lmul (pc := 49) X dX0_spread_49 ?_
      refine z_ladd (pc := 50) X dX0_spread_50 ?_
      refine z_lstore (pc := 51) (L' := [(5, .long _), (0, .ref _), (1, .int _), (2, .int _), (3, .ref _), (4, .int _), (7, .int _)]) X dX0_spread_51 (by decide) rfl ?_
      refine z_let h (fun h => ?_)
      refine z_iinc (pc := 53) (k := 6) (v := 1) (L' := [(7, .int _), (5, .long _), (0, .ref _), (1, .int _), (2, .int _), (3, .ref _), (4, .int _)]) X dX0_spread_53 rfl (by decide) (by decide) rfl ?_
      refine z_let h (fun h => ?_)
      refine z_goto (pc := 56) (tgt := 23) X dX0_spread_56 (by decide) ?_
      exact z_sub [2, 3, 4, 5, 6, 1, 0] rfl (ih _ _ _ _ _ _ h)
set_option maxRecDepth 100000 in
set_option maxHeartbeats 4000000 in
theorem zz0_spread_c9_71 {S' : St} (X : zM p s m args meth c D cA σ shC tS RX0 cX0_spread 8 none) : ∀ (S : St), J0_spread_c9_71 S = some ((), S') → Zj p l e rm0_spread s m args below meth c D cA σ shC 8 none S' 71 [] [] S := by
  intro S h
  rw [J0_spread_c9_71] at h
  exact z_vret X rfl dX0_spread_71 h
set_option maxRecDepth 100000 in
set_option maxHeartbeats 4000000 in
theorem zz0_spread_c9_3 {S' : St} (X : zM p s m args meth c D cA σ shC tS RX0 cX0_spread 8 none) : ∀ (n : Nat) (S : St) (x1 : Int32) (x2 : Int32) (x4 : Int32), J0_spread_c9_3 n S x1 x2 x4 = some ((), S') → Zj p l e rm0_spread s m args below meth c D cA σ shC 8 none S' 3 [(0, .ref (σ 5)), (1, .int x1), (2, .int x2), (3, .ref (σ 9)), (4, .int x4)] [] S := by
  intro n
  induction n with
  | zero =>
    intro S x1 x2 x4 h
    rw [J0_spread_c9_3] at h
    cases h
  | succ n ih =>
    intro S x1 x2 x4 h
    rw [J0_spread_c9_3] at h
    refine z_iload (pc := 3) X dX0_spread_3 4 rfl ?_
    refine z_bipush (pc := 5) (v := 15) X dX0_spread_5 (by decide) ?_
    refine z_icmp_ge (pc := 7) (tgt := 71) X dX0_spread_7 (by decide) h (fun h => ?_) (fun h => ?_)
    · exact z_sub [] rfl (zz0_spread_c9_71 X  _ h)
    · refine z_iload (pc := 10) X dX0_spread_10 4 rfl ?_
      refine z_aload_n (pc := 12) X dX0_spread_12 rfl 3 rfl ?_
      refine z_alen (pc := 13) (v := 15) X 9 (by decide) rfl rfl dX0_spread_13 ?_
      refine z_icmp_ge (pc := 14) (tgt := 71) X dX0_spread_14 (by decide) h (fun h => ?_) (fun h => ?_)
      · exact z_sub [] rfl (zz0_spread_c9_71 X  _ h)
      · refine z_lconst (pc := 17) (v := 0) X dX0_spread_17 (by decide) ?_
        refine z_lstore (pc := 18) (L' := [(5, .long _), (0, .ref _), (1, .int _), (2, .int _), (3, .ref _), (4, .int _)]) X dX0_spread_18 (by decide) rfl ?_
        refine z_iconst (pc := 20) (v := 0) X dX0_spread_20 (by decide) ?_
        refine z_istore (pc := 21) (L' := [(7, .int _), (5, .long _), (0, .ref _), (1, .int _), (2, .int _), (3, .ref _), (4, .int _)]) X dX0_spread_21 (by decide) rfl ?_
        exact z_sub [2, 3, 4, 5, 6, 1, 0] rfl (zz0_spread_c9_23 X _ ih fu _ _ _ _ _ _ h)
set_option maxRecDepth 100000 in
set_option maxHeartbeats 4000000 in
theorem zz0_spread_c9_0 {S' : St} (X : zM p s m args meth c D cA σ shC tS RX0 cX0_spread 8 none) : ∀ (S : St) (x1 : Int32) (x2 : Int32), J0_spread_c9 S x1 x2 = some ((), S') → Zj p l e rm0_spread s m args below meth c D cA σ shC 8 none S' 0 [(0, .ref (σ 5)), (1, .int x1), (2, .int x2), (3, .ref (σ 9))] [] S := by
  intro S x1 x2 h
  rw [J0_spread_c9] at h
  refine z_iconst (pc := 0) (v := 0) X dX0_spread_0 (by decide) ?_
  refine z_istore (pc := 1) (L' := [(4, .int _), (0, .ref _), (1, .int _), (2, .int _), (3, .ref _)]) X dX0_spread_1 (by decide) rfl ?_
  exact z_sub [1, 2, 3, 4, 0] rfl (zz0_spread_c9_3 X  fu _ _ _ _ h)
theorem cc0_spread_c9 {l : Launch} {D : va_G} {cA : Nat → ClassId} {σ : Nat → Nat} {tS : Nat} {S S' : St} {x1 : Int32} {x2 : Int32} (h : J0_spread_c9 S x1 x2 = some ((), S')) : zMet l D cA σ shC tS yX0_spread cX0_spread 8 none rm0_spread [.ref (σ 5), .int x1, .int x2, .ref (σ 9)] S none S' := z_met [(0, .ref (σ 5)), (1, .int x1), (2, .int x2), (3, .ref (σ 9))] (by decide +kernel) (Nat.le_of_ble_eq_true rfl) rfl (fun _ _ _ _ _ _ _ _ X => zz0_spread_c9_0 X _ _ _ h)
set_option maxRecDepth 100000 in
set_option maxHeartbeats 4000000 in
theorem zz0_spread_c10_23 {S' : St} (X : zM p s m args meth c D cA σ shC tS RX0 cX0_spread 8 none) (k3 : St → Int32 → Int32 → Int32 → Option (Unit × St)) (hk3 : ∀ (S : St) (x1 : Int32) (x2 : Int32) (x4 : Int32), k3 S x1 x2 x4 = some ((), S') → Zj p l e rm0_spread s m args below meth c D cA σ shC 8 none S' 3 [(0, .ref (σ 5)), (1, .int x1), (2, .int x2), (3, .ref (σ 10)), (4, .int x4)] [] S) : ∀ (n : Nat) (S : St) (x1 : Int32) (x2 : Int32) (x4 : Int32) (x5 : Int64) (x7 : Int32), J0_spread_c10_23 k3 n S x1 x2 x4 x5 x7 = some ((), S') → Zj p l e rm0_spread s m args below meth c D cA σ shC 8 none S' 23 [(0, .ref (σ 5)), (1, .int x1), (2, .int x2), (3, .ref (σ 10)), (4, .int x4), (5, .long x5), (7, .int x7)] [] S := by
  intro n
  induction n with
  | zero =>
    intro S x1 x2 x4 x5 x7 h
    rw [J0_spread_c10_23] at h
    cases h
  | succ n ih =>
    intro S x1 x2 x4 x5 x7 h
    rw [J0_spread_c10_23] at h
    refine z_iload (pc := 23) X dX0_spread_23 6 rfl ?_
    refine z_bipush (pc := 25) (v := 8) X dX0_spread_25 (by decide) ?_
    refine z_icmp_ge (pc := 27) (tgt := 59) X dX0_spread_27 (by decide) h (fun h => ?_) (fun h => ?_)
    · refine z_aload_n (pc := 59) X dX0_spread_59 rfl 3 rfl ?_
      refine z_iload (pc := 60) X dX0_spread_60 4 rfl ?_
      refine z_lload (pc := 62) X dX0_spread_62 5 rfl ?_
      refine z_last (pc := 64) X 10 rfl dX0_spread_64 h (fun h => ?_)
      refine z_let h (fun h => ?_)
      refine z_iinc (pc := 65) (k := 4) (v := 1) (L' := [(4, .int _), (0, .ref _), (1, .int _), (2, .int _), (3, .ref _), (5, .long _), (7, .int _)]) X dX0_spread_65 rfl (by decide) (by decide) rfl ?_
      refine z_let h (fun h => ?_)
      refine z_goto (pc := 68) (tgt := 3) X dX0_spread_68 (by decide) ?_
      exact z_sub [1, 2, 3, 4, 0] rfl (hk3 _ _ _ _ h)
    · refine z_lload (pc := 30) X dX0_spread_30 5 rfl ?_
      refine z_aload_n (pc := 32) X dX0_spread_32 rfl 0 rfl ?_
      refine z_iload_n (pc := 33) X dX0_spread_33 rfl 1 rfl ?_
      refine z_iload (pc := 34) X dX0_spread_34 6 rfl ?_
      refine z_callVl (pc := 36) (rm := rm0_weight) X 5 [.int _, .int _] vX0_42 rfl rfl rfl (Nat.le_of_ble_eq_true rfl) ⟨rfl, rfl, Nat.le_of_ble_eq_true rfl, Nat.le_of_ble_eq_true rfl⟩ dX0_spread_36 h (fun _ _ q => cc0_weight q) (fun r3 S3 h => ?_)
      refine z_aload_n (pc := 39) X dX0_spread_39 rfl 0 rfl ?_
      refine z_iload_n (pc := 40) X dX0_spread_40 rfl 2 rfl ?_
      refine z_iload (pc := 41) X dX0_spread_41 4 rfl ?_
      refine z_iload (pc := 43) X dX0_spread_43 6 rfl ?_
      refine z_isub (pc := 45) X dX0_spread_45 ?_
      refine z_callVl (pc := 46) (rm := rm0_weight) X 5 [.int _, .int _] vX0_42 rfl rfl rfl (Nat.le_of_ble_eq_true rfl) ⟨rfl, rfl, Nat.le_of_ble_eq_true rfl, Nat.le_of_ble_eq_true rfl⟩ dX0_spread_46 h (fun _ _ q => cc0_weight q) (fun r4 S4 h => ?_)
      refine z_lmul (pc := 49) X dX0_spread_49 ?_
      refine z_ladd (pc := 50) X dX0_spread_50 ?_
      refine z_lstore (pc := 51) (L' := [(5, .long _), (0, .ref _), (1, .int _), (2, .int _), (3, .ref _), (4, .int _), (7, .int _)]) X dX0_spread_51 (by decide) rfl ?_
      refine z_let h (fun h => ?_)
      refine z_iinc (pc := 53) (k := 6) (v := 1) (L' := [(7, .int _), (5, .long _), (0, .ref _), (1, .int _), (2, .int _), (3, .ref _), (4, .int _)]) X dX0_spread_53 rfl (by decide) (by decide) rfl ?_
      refine z_let h (fun h => ?_)
      refine z_goto (pc := 56) (tgt := 23) X dX0_spread_56 (by decide) ?_
      exact z_sub [2, 3, 4, 5, 6, 1, 0] rfl (ih _ _ _ _ _ _ h)
set_option maxRecDepth 100000 in
set_option maxHeartbeats 4000000 in
theorem zz0_spread_c10_71 {S' : St} (X : zM p s m args meth c D cA σ shC tS RX0 cX0_spread 8 none) : ∀ (S : St), J0_spread_c10_71 S = some ((), S') → Zj p l e rm0_spread s m args below meth c D cA σ shC 8 none S' 71 [] [] S := by
  intro S h
  rw [J0_spread_c10_71] at h
  exact z_vret X rfl dX0_spread_71 h
set_option maxRecDepth 100000 in
set_option maxHeartbeats 4000000 in
theorem zz0_spread_c10_3 {S' : St} (X : zM p s m args meth c D cA σ shC tS RX0 cX0_spread 8 none) : ∀ (n : Nat) (S : St) (x1 : Int32) (x2 : Int32) (x4 : Int32), J0_spread_c10_3 n S x1 x2 x4 = some ((), S') → Zj p l e rm0_spread s m args below meth c D cA σ shC 8 none S' 3 [(0, .ref (σ 5)), (1, .int x1), (2, .int x2), (3, .ref (σ 10)), (4, .int x4)] [] S := by
  intro n
  induction n with
  | zero =>
    intro S x1 x2 x4 h
    rw [J0_spread_c10_3] at h
    cases h
  | succ n ih =>
    intro S x1 x2 x4 h
    rw [J0_spread_c10_3] at h
    refine z_iload (pc := 3) X dX0_spread_3 4 rfl ?_
    refine z_bipush (pc := 5) (v := 15) X dX0_spread_5 (by decide) ?_
    refine z_icmp_ge (pc := 7) (tgt := 71) X dX0_spread_7 (by decide) h (fun h => ?_) (fun h => ?_)
    · exact z_sub [] rfl (zz0_spread_c10_71 X  _ h)
    · refine z_iload (pc := 10) X dX0_spread_10 4 rfl ?_
      refine z_aload_n (pc := 12) X dX0_spread_12 rfl 3 rfl ?_
      refine z_alen (pc := 13) (v := 15) X 10 (by decide) rfl rfl dX0_spread_13 ?_
      refine z_icmp_ge (pc := 14) (tgt := 71) X dX0_spread_14 (by decide) h (fun h => ?_) (fun h => ?_)
      · exact z_sub [] rfl (zz0_spread_c10_71 X  _ h)
      · refine z_lconst (pc := 17) (v := 0) X dX0_spread_17 (by decide) ?_
        refine z_lstore (pc := 18) (L' := [(5, .long _), (0, .ref _), (1, .int _), (2, .int _), (3, .ref _), (4, .int _)]) X dX0_spread_18 (by decide) rfl ?_
        refine z_iconst (pc := 20) (v := 0) X dX0_spread_20 (by decide) ?_
        refine z_istore (pc := 21) (L' := [(7, .int _), (5, .long _), (0, .ref _), (1, .int _), (2, .int _), (3, .ref _), (4, .int _)]) X dX0_spread_21 (by decide) rfl ?_
        exact z_sub [2, 3, 4, 5, 6, 1, 0] rfl (zz0_spread_c10_23 X _ ih fu _ _ _ _ _ _ h)
set_option maxRecDepth 100000 in
set_option maxHeartbeats 4000000 in
theorem zz0_spread_c10_0 {S' : St} (X : zM p s m args meth c D cA σ shC tS RX0 cX0_spread 8 none) : ∀ (S : St) (x1 : Int32) (x2 : Int32), J0_spread_c10 S x1 x2 = some ((), S') → Zj p l e rm0_spread s m args below meth c D cA σ shC 8 none S' 0 [(0, .ref (σ 5)), (1, .int x1), (2, .int x2), (3, .ref (σ 10))] [] S := by
  intro S x1 x2 h
  rw [J0_spread_c10] at h
  refine z_iconst (pc := 0) (v := 0) X dX0_spread_0 (by decide) ?_
  refine z_istore (pc := 1) (L' := [(4, .int _), (0, .ref _), (1, .int _), (2, .int _), (3, .ref _)]) X dX0_spread_1 (by decide) rfl ?_
  exact z_sub [1, 2, 3, 4, 0] rfl (zz0_spread_c10_3 X  fu _ _ _ _ h)
theorem cc0_spread_c10 {l : Launch} {D : va_G} {cA : Nat → ClassId} {σ : Nat → Nat} {tS : Nat} {S S' : St} {x1 : Int32} {x2 : Int32} (h : J0_spread_c10 S x1 x2 = some ((), S')) : zMet l D cA σ shC tS yX0_spread cX0_spread 8 none rm0_spread [.ref (σ 5), .int x1, .int x2, .ref (σ 10)] S none S' := z_met [(0, .ref (σ 5)), (1, .int x1), (2, .int x2), (3, .ref (σ 10))] (by decide +kernel) (Nat.le_of_ble_eq_true rfl) rfl (fun _ _ _ _ _ _ _ _ X => zz0_spread_c10_0 X _ _ _ h)
set_option maxRecDepth 100000 in
set_option maxHeartbeats 4000000 in
theorem zz0_sum_0 {S' : St} {r : Int64} (X : zM p s m args meth c D cA σ shC tS RX0 cX0_sum 2 (some .long)) : ∀ (S : St) (x1 : Int32), J0_sum S x1 = some (r, S') → Zj p l e rm0_sum s m args below meth c D cA σ shC 2 (some (.long r)) S' 0 [(0, .ref (σ 5)), (1, .int x1)] [] S := by
  intro S x1 h
  rw [J0_sum] at h
  refine z_aload_n (pc := 0) X dX0_sum_0 rfl 0 rfl ?_
  refine z_get (pc := 1) (v := .ref (σ 7)) X 5 fX0_15 rfl rfl dX0_sum_1 rfl ?_
  refine z_iload_n (pc := 4) X dX0_sum_4 rfl 1 rfl ?_
  refine z_lald (pc := 5) X 7 rfl dX0_sum_5 h (fun h => ?_)
  exact z_lret X rfl dX0_sum_6 h
theorem cc0_sum {l : Launch} {D : va_G} {cA : Nat → ClassId} {σ : Nat → Nat} {tS : Nat} {S S' : St} {x1 : Int32} {r : Int64} (h : J0_sum S x1 = some (r, S')) : zMet l D cA σ shC tS yX0_sum cX0_sum 2 (some .long) rm0_sum [.ref (σ 5), .int x1] S (some (.long r)) S' := z_met [(0, .ref (σ 5)), (1, .int x1)] (by decide +kernel) (Nat.le_of_ble_eq_true rfl) rfl (fun _ _ _ _ _ _ _ _ X => zz0_sum_0 X _ _ h)
set_option maxRecDepth 100000 in
set_option maxHeartbeats 4000000 in
theorem zz0_tellFraction_43 {S' : St} {r : Int32} (X : zM p s m args meth c D cA σ shC tS RX0 cX0_tellFraction 7 (some .int)) : ∀ (S : St) (t0 : Int32), J0_tellFraction_43 S t0 = some (r, S') → Zj p l e rm0_tellFraction s m args below meth c D cA σ shC 7 (some (.int r)) S' 43 [] [.int t0] S := by
  intro S t0 h
  rw [J0_tellFraction_43] at h
  exact z_iret X rfl dX0_tellFraction_43 h
set_option maxRecDepth 100000 in
set_option maxHeartbeats 4000000 in
theorem zz0_tellFraction_0 {S' : St} {r : Int32} (X : zM p s m args meth c D cA σ shC tS RX0 cX0_tellFraction 7 (some .int)) : ∀ (S : St) (x1 : Int64) (x3 : Int64), J0_tellFraction S x1 x3 = some (r, S') → Zj p l e rm0_tellFraction s m args below meth c D cA σ shC 7 (some (.int r)) S' 0 [(0, .ref (σ 5)), (1, .long x1), (3, .long x3)] [] S := by
  intro S x1 x3 h
  rw [J0_tellFraction] at h
  refine z_lload_n (pc := 0) X dX0_tellFraction_0 rfl 1 rfl ?_
  refine z_lload_n (pc := 1) X dX0_tellFraction_1 rfl 2 rfl ?_
  refine z_callSl (pc := 2) (rm := rm0_commonDivisor) X [.long _, .long _] sX0_56 rfl rfl (Nat.le_of_ble_eq_true rfl) ⟨rfl, rfl, Nat.le_of_ble_eq_true rfl, Nat.le_of_ble_eq_true rfl⟩ dX0_tellFraction_2 h (fun _ _ q => cc0_commonDivisor q) (fun r1 S1 h => ?_)
  refine z_lstore (pc := 5) (L' := [(5, .long _), (0, .ref _), (1, .long _), (3, .long _)]) X dX0_tellFraction_5 (by decide) rfl ?_
  refine z_lload (pc := 7) X dX0_tellFraction_7 0 rfl ?_
  refine z_lconst (pc := 9) (v := 1) X dX0_tellFraction_9 (by decide) ?_
  refine z_lcmp (pc := 10) X dX0_tellFraction_10 ?_
  refine z_if_ge (pc := 11) (tgt := 16) X dX0_tellFraction_11 (by decide) h (fun h => ?_) (fun h => ?_)
  · refine z_aload_n (pc := 16) X dX0_tellFraction_16 rfl 1 rfl ?_
    refine z_lload_n (pc := 17) X dX0_tellFraction_17 rfl 2 rfl ?_
    refine z_lload (pc := 18) X dX0_tellFraction_18 0 rfl ?_
    refine z_ldiv (pc := 20) X dX0_tellFraction_20 h (fun h => ?_)
    refine z_putL (pc := 21) X 5 gX0_31 rfl rfl dX0_tellFraction_21 ?_
    refine z_let h (fun h => ?_)
    refine z_aload_n (pc := 24) X dX0_tellFraction_24 rfl 1 rfl ?_
    refine z_lload_n (pc := 25) X dX0_tellFraction_25 rfl 3 rfl ?_
    refine z_lload (pc := 26) X dX0_tellFraction_26 0 rfl ?_
    refine z_ldiv (pc := 28) X dX0_tellFraction_28 h (fun h => ?_)
    refine z_putL (pc := 29) X 5 gX0_35 rfl rfl dX0_tellFraction_29 ?_
    refine z_let h (fun h => ?_)
    refine z_lload_n (pc := 32) X dX0_tellFraction_32 rfl 2 rfl ?_
    refine z_lconst (pc := 33) (v := 0) X dX0_tellFraction_33 (by decide) ?_
    refine z_lcmp (pc := 34) X dX0_tellFraction_34 ?_
    refine z_if_le (pc := 35) (tgt := 42) X dX0_tellFraction_35 (by decide) h (fun h => ?_) (fun h => ?_)
    · refine z_iconst (pc := 42) (v := 0) X dX0_tellFraction_42 (by decide) ?_
      exact z_sub [] rfl (zz0_tellFraction_43 X  _ _ h)
    · refine z_iconst (pc := 38) (v := 1) X dX0_tellFraction_38 (by decide) ?_
      refine z_goto (pc := 39) (tgt := 43) X dX0_tellFraction_39 (by decide) ?_
      exact z_sub [] rfl (zz0_tellFraction_43 X  _ _ h)
  · refine z_iconst (pc := 14) (v := -1) X dX0_tellFraction_14 (by decide) ?_
    exact z_iret X rfl dX0_tellFraction_15 h
theorem cc0_tellFraction {l : Launch} {D : va_G} {cA : Nat → ClassId} {σ : Nat → Nat} {tS : Nat} {S S' : St} {x1 : Int64} {x3 : Int64} {r : Int32} (h : J0_tellFraction S x1 x3 = some (r, S')) : zMet l D cA σ shC tS yX0_tellFraction cX0_tellFraction 7 (some .int) rm0_tellFraction [.ref (σ 5), .long x1, .long x3] S (some (.int r)) S' := z_met [(0, .ref (σ 5)), (1, .long x1), (3, .long x3)] (by decide +kernel) (Nat.le_of_ble_eq_true rfl) rfl (fun _ _ _ _ _ _ _ _ X => zz0_tellFraction_0 X _ _ _ h)
set_option maxRecDepth 100000 in
set_option maxHeartbeats 4000000 in
theorem zz0_weigh_0 {S' : St} (X : zM p s m args meth c D cA σ shC tS RX0 cX0_weigh 6 none) : ∀ (S : St) (x1 : Int32) (x2 : Int32) (x3 : Int64), J0_weigh S x1 x2 x3 = some ((), S') → Zj p l e rm0_weigh s m args below meth c D cA σ shC 6 none S' 0 [(0, .ref (σ 5)), (1, .int x1), (2, .int x2), (3, .long x3)] [] S := by
  intro S x1 x2 x3 h
  rw [J0_weigh] at h
  refine z_iload_n (pc := 0) X dX0_weigh_0 rfl 1 rfl ?_
  refine z_bipush (pc := 1) (v := 8) X dX0_weigh_1 (by decide) ?_
  refine z_imul (pc := 3) X dX0_weigh_3 ?_
  refine z_iload_n (pc := 4) X dX0_weigh_4 rfl 2 rfl ?_
  refine z_iadd (pc := 5) X dX0_weigh_5 ?_
  refine z_istore (pc := 6) (L' := [(5, .int _), (0, .ref _), (1, .int _), (2, .int _), (3, .long _)]) X dX0_weigh_6 (by decide) rfl ?_
  refine z_let h (fun h => ?_)
  refine z_aload_n (pc := 8) X dX0_weigh_8 rfl 1 rfl ?_
  refine z_get (pc := 9) (v := .ref (σ 7)) X 5 fX0_15 rfl rfl dX0_weigh_9 rfl ?_
  refine z_iload_n (pc := 12) X dX0_weigh_12 rfl 2 rfl ?_
  refine z_dup2_11 (pc := 13) X dX0_weigh_13 rfl rfl ?_
  refine z_lald (pc := 14) X 7 rfl dX0_weigh_14 h (fun h => ?_)
  refine z_lload_n (pc := 15) X dX0_weigh_15 rfl 4 rfl ?_
  refine z_aload_n (pc := 16) X dX0_weigh_16 rfl 1 rfl ?_
  refine z_get (pc := 17) (v := .ref (σ 6)) X 5 fX0_9 rfl rfl dX0_weigh_17 rfl ?_
  refine z_iload (pc := 20) X dX0_weigh_20 0 rfl ?_
  refine z_lald (pc := 22) X 6 rfl dX0_weigh_22 h (fun h => ?_)
  refine z_lsub (pc := 23) X dX0_weigh_23 ?_
  refine z_ladd (pc := 24) X dX0_weigh_24 ?_
  refine z_last (pc := 25) X 7 rfl dX0_weigh_25 h (fun h => ?_)
  refine z_let h (fun h => ?_)
  refine z_aload_n (pc := 26) X dX0_weigh_26 rfl 1 rfl ?_
  refine z_get (pc := 27) (v := .ref (σ 6)) X 5 fX0_9 rfl rfl dX0_weigh_27 rfl ?_
  refine z_iload (pc := 30) X dX0_weigh_30 0 rfl ?_
  refine z_lload_n (pc := 32) X dX0_weigh_32 rfl 4 rfl ?_
  refine z_last (pc := 33) X 6 rfl dX0_weigh_33 h (fun h => ?_)
  refine z_let h (fun h => ?_)
  exact z_vret X rfl dX0_weigh_34 h
theorem cc0_weigh {l : Launch} {D : va_G} {cA : Nat → ClassId} {σ : Nat → Nat} {tS : Nat} {S S' : St} {x1 : Int32} {x2 : Int32} {x3 : Int64} (h : J0_weigh S x1 x2 x3 = some ((), S')) : zMet l D cA σ shC tS yX0_weigh cX0_weigh 6 none rm0_weigh [.ref (σ 5), .int x1, .int x2, .long x3] S none S' := z_met [(0, .ref (σ 5)), (1, .int x1), (2, .int x2), (3, .long x3)] (by decide +kernel) (Nat.le_of_ble_eq_true rfl) rfl (fun _ _ _ _ _ _ _ _ X => zz0_weigh_0 X _ _ _ _ h)
set_option maxRecDepth 100000 in
set_option maxHeartbeats 4000000 in
theorem zz1_forget_2 {S' : St} (X : zM p s m args meth c D cA σ shC tS RX1 cX1_forget 3 none) : ∀ (n : Nat) (S : St) (x1 : Int32) (x2 : Int32), J1_forget_2 n S x1 x2 = some ((), S') → Zj p l e rm1_forget s m args below meth c D cA σ shC 3 none S' 2 [(0, .ref (σ 18)), (1, .int x1), (2, .int x2)] [] S := by
  intro n
  induction n with
  | zero =>
    intro S x1 x2 h
    rw [J1_forget_2] at h
    cases h
  | succ n ih =>
    intro S x1 x2 h
    rw [J1_forget_2] at h
    refine z_iload_n (pc := 2) X dX1_forget_2 rfl 2 rfl ?_
    refine z_iconst (pc := 3) (v := 5) X dX1_forget_3 (by decide) ?_
    refine z_icmp_ge (pc := 4) (tgt := 24) X dX1_forget_4 (by decide) h (fun h => ?_) (fun h => ?_)
    · exact z_vret X rfl dX1_forget_24 h
    · refine z_aload_n (pc := 7) X dX1_forget_7 rfl 0 rfl ?_
      refine z_get (pc := 8) (v := .ref (σ 21)) X 18 fX1_19 rfl rfl dX1_forget_8 rfl ?_
      refine z_iload_n (pc := 11) X dX1_forget_11 rfl 1 rfl ?_
      refine z_iconst (pc := 12) (v := 5) X dX1_forget_12 (by decide) ?_
      refine z_imul (pc := 13) X dX1_forget_13 ?_
      refine z_iload_n (pc := 14) X dX1_forget_14 rfl 2 rfl ?_
      refine z_iadd (pc := 15) X dX1_forget_15 ?_
      refine z_iconst (pc := 16) (v := 0) X dX1_forget_16 (by decide) ?_
      refine z_iast (pc := 17) X 21 rfl dX1_forget_17 h (fun h => ?_)
      refine z_let h (fun h => ?_)
      refine z_iinc (pc := 18) (k := 2) (v := 1) (L' := [(2, .int _), (0, .ref _), (1, .int _)]) X dX1_forget_18 rfl (by decide) (by decide) rfl ?_
      refine z_let h (fun h => ?_)
      refine z_goto (pc := 21) (tgt := 2) X dX1_forget_21 (by decide) ?_
      exact z_sub [1, 2, 0] rfl (ih _ _ _ h)
set_option maxRecDepth 100000 in
set_option maxHeartbeats 4000000 in
theorem zz1_forget_0 {S' : St} (X : zM p s m args meth c D cA σ shC tS RX1 cX1_forget 3 none) : ∀ (S : St) (x1 : Int32), J1_forget S x1 = some ((), S') → Zj p l e rm1_forget s m args below meth c D cA σ shC 3 none S' 0 [(0, .ref (σ 18)), (1, .int x1)] [] S := by
  intro S x1 h
  rw [J1_forget] at h
  refine z_iconst (pc := 0) (v := 0) X dX1_forget_0 (by decide) ?_
  refine z_istore_n (pc := 1) (L' := [(2, .int _), (0, .ref _), (1, .int _)]) X dX1_forget_1 rfl (by decide) rfl ?_
  exact z_sub [1, 2, 0] rfl (zz1_forget_2 X  fu _ _ _ h)
theorem cc1_forget {l : Launch} {D : va_G} {cA : Nat → ClassId} {σ : Nat → Nat} {tS : Nat} {S S' : St} {x1 : Int32} (h : J1_forget S x1 = some ((), S')) : zMet l D cA σ shC tS yX1_forget cX1_forget 3 none rm1_forget [.ref (σ 18), .int x1] S none S' := z_met [(0, .ref (σ 18)), (1, .int x1)] (by decide +kernel) (Nat.le_of_ble_eq_true rfl) rfl (fun _ _ _ _ _ _ _ _ X => zz1_forget_0 X _ _ h)
set_option maxRecDepth 100000 in
set_option maxHeartbeats 4000000 in
theorem zz1_keptBy_28 {S' : St} {r : Int32} (X : zM p s m args meth c D cA σ shC tS RX1 cX1_keptBy 4 (some .int)) (k4 : St → Int32 → Int32 → Int32 → Option (Int32 × St)) (hk4 : ∀ (S : St) (x1 : Int32) (x2 : Int32) (x3 : Int32), k4 S x1 x2 x3 = some (r, S') → Zj p l e rm1_keptBy s m args below meth c D cA σ shC 4 (some (.int r)) S' 4 [(0, .ref (σ 18)), (1, .int x1), (2, .int x2), (3, .int x3)] [] S) : ∀ (S : St) (x1 : Int32) (x2 : Int32) (x3 : Int32), J1_keptBy_28 k4 S x1 x2 x3 = some (r, S') → Zj p l e rm1_keptBy s m args below meth c D cA σ shC 4 (some (.int r)) S' 28 [(0, .ref (σ 18)), (1, .int x1), (2, .int x2), (3, .int x3)] [] S := by
  intro S x1 x2 x3 h
  rw [J1_keptBy_28] at h
  refine z_iinc (pc := 28) (k := 3) (v := 1) (L' := [(3, .int _), (0, .ref _), (1, .int _), (2, .int _)]) X dX1_keptBy_28 rfl (by decide) (by decide) rfl ?_
  refine z_let h (fun h => ?_)
  refine z_goto (pc := 31) (tgt := 4) X dX1_keptBy_31 (by decide) ?_
  exact z_sub [1, 2, 3, 0] rfl (hk4 _ _ _ _ h)
set_option maxRecDepth 100000 in
set_option maxHeartbeats 4000000 in
theorem zz1_keptBy_4 {S' : St} {r : Int32} (X : zM p s m args meth c D cA σ shC tS RX1 cX1_keptBy 4 (some .int)) : ∀ (n : Nat) (S : St) (x1 : Int32) (x2 : Int32) (x3 : Int32), J1_keptBy_4 n S x1 x2 x3 = some (r, S') → Zj p l e rm1_keptBy s m args below meth c D cA σ shC 4 (some (.int r)) S' 4 [(0, .ref (σ 18)), (1, .int x1), (2, .int x2), (3, .int x3)] [] S := by
  intro n
  induction n with
  | zero =>
    intro S x1 x2 x3 h
    rw [J1_keptBy_4] at h
    cases h
  | succ n ih =>
    intro S x1 x2 x3 h
    rw [J1_keptBy_4] at h
    refine z_iload_n (pc := 4) X dX1_keptBy_4 rfl 3 rfl ?_
    refine z_aload_n (pc := 5) X dX1_keptBy_5 rfl 0 rfl ?_
    refine z_get (pc := 6) (v := .int _) X 18 fX1_22 rfl rfl dX1_keptBy_6 rfl ?_
    refine z_icmp_ge (pc := 9) (tgt := 34) X dX1_keptBy_9 (by decide) h (fun h => ?_) (fun h => ?_)
    · refine z_iload_n (pc := 34) X dX1_keptBy_34 rfl 2 rfl ?_
      exact z_iret X rfl dX1_keptBy_35 h
    · refine z_aload_n (pc := 12) X dX1_keptBy_12 rfl 0 rfl ?_
      refine z_get (pc := 13) (v := .ref (σ 21)) X 18 fX1_19 rfl rfl dX1_keptBy_13 rfl ?_
      refine z_iload_n (pc := 16) X dX1_keptBy_16 rfl 1 rfl ?_
      refine z_iconst (pc := 17) (v := 5) X dX1_keptBy_17 (by decide) ?_
      refine z_imul (pc := 18) X dX1_keptBy_18 ?_
      refine z_iload_n (pc := 19) X dX1_keptBy_19 rfl 3 rfl ?_
      refine z_iadd (pc := 20) X dX1_keptBy_20 ?_
      refine z_iald (pc := 21) X 21 rfl dX1_keptBy_21 h (fun h => ?_)
      refine z_if_le (pc := 22) (tgt := 28) X dX1_keptBy_22 (by decide) h (fun h => ?_) (fun h => ?_)
      · exact z_sub [0, 1, 2, 3] rfl (zz1_keptBy_28 X _ ih _ _ _ _ h)
      · refine z_iinc (pc := 25) (k := 2) (v := 1) (L' := [(2, .int _), (0, .ref _), (1, .int _), (3, .int _)]) X dX1_keptBy_25 rfl (by decide) (by decide) rfl ?_
        refine z_let h (fun h => ?_)
        exact z_sub [1, 2, 0, 3] rfl (zz1_keptBy_28 X _ ih _ _ _ _ h)
set_option maxRecDepth 100000 in
set_option maxHeartbeats 4000000 in
theorem zz1_keptBy_0 {S' : St} {r : Int32} (X : zM p s m args meth c D cA σ shC tS RX1 cX1_keptBy 4 (some .int)) : ∀ (S : St) (x1 : Int32), J1_keptBy S x1 = some (r, S') → Zj p l e rm1_keptBy s m args below meth c D cA σ shC 4 (some (.int r)) S' 0 [(0, .ref (σ 18)), (1, .int x1)] [] S := by
  intro S x1 h
  rw [J1_keptBy] at h
  refine z_iconst (pc := 0) (v := 0) X dX1_keptBy_0 (by decide) ?_
  refine z_istore_n (pc := 1) (L' := [(2, .int _), (0, .ref _), (1, .int _)]) X dX1_keptBy_1 rfl (by decide) rfl ?_
  refine z_iconst (pc := 2) (v := 0) X dX1_keptBy_2 (by decide) ?_
  refine z_istore_n (pc := 3) (L' := [(3, .int _), (2, .int _), (0, .ref _), (1, .int _)]) X dX1_keptBy_3 rfl (by decide) rfl ?_
  exact z_sub [2, 3, 1, 0] rfl (zz1_keptBy_4 X  fu _ _ _ _ h)
theorem cc1_keptBy {l : Launch} {D : va_G} {cA : Nat → ClassId} {σ : Nat → Nat} {tS : Nat} {S S' : St} {x1 : Int32} {r : Int32} (h : J1_keptBy S x1 = some (r, S')) : zMet l D cA σ shC tS yX1_keptBy cX1_keptBy 4 (some .int) rm1_keptBy [.ref (σ 18), .int x1] S (some (.int r)) S' := z_met [(0, .ref (σ 18)), (1, .int x1)] (by decide +kernel) (Nat.le_of_ble_eq_true rfl) rfl (fun _ _ _ _ _ _ _ _ X => zz1_keptBy_0 X _ _ h)
set_option maxRecDepth 100000 in
set_option maxHeartbeats 4000000 in
theorem zz1_fall_37 {S' : St} (X : zM p s m args meth c D cA σ shC tS RX1 cX1_fall 3 none) : ∀ (S : St), J1_fall_37 S = some ((), S') → Zj p l e rm1_fall s m args below meth c D cA σ shC 3 none S' 37 [] [] S := by
  intro S h
  rw [J1_fall_37] at h
  exact z_vret X rfl dX1_fall_37 h
set_option maxRecDepth 100000 in
set_option maxHeartbeats 4000000 in
theorem zz1_fall_0 {S' : St} (X : zM p s m args meth c D cA σ shC tS RX1 cX1_fall 3 none) : ∀ (S : St) (x1 : Int32) (x2 : Int32), J1_fall S x1 x2 = some ((), S') → Zj p l e rm1_fall s m args below meth c D cA σ shC 3 none S' 0 [(0, .ref (σ 18)), (1, .int x1), (2, .int x2)] [] S := by
  intro S x1 x2 h
  rw [J1_fall] at h
  refine z_aload_n (pc := 0) X dX1_fall_0 rfl 0 rfl ?_
  refine z_get (pc := 1) (v := .ref (σ 20)) X 18 fX1_15 rfl rfl dX1_fall_1 rfl ?_
  refine z_iload_n (pc := 4) X dX1_fall_4 rfl 1 rfl ?_
  refine z_iconst (pc := 5) (v := 0) X dX1_fall_5 (by decide) ?_
  refine z_zast (pc := 6) X 20 rfl dX1_fall_6 h (fun h => ?_)
  refine z_let h (fun h => ?_)
  refine z_iload_n (pc := 7) X dX1_fall_7 rfl 2 rfl ?_
  refine z_if_eq (pc := 8) (tgt := 37) X dX1_fall_8 (by decide) h (fun h => ?_) (fun h => ?_)
  · exact z_sub [] rfl (zz1_fall_37 X  _ h)
  · refine z_aload_n (pc := 11) X dX1_fall_11 rfl 0 rfl ?_
    refine z_dup (pc := 12) X dX1_fall_12 rfl ?_
    refine z_get (pc := 13) (v := .int _) X 18 fX1_26 rfl rfl dX1_fall_13 rfl ?_
    refine z_aload_n (pc := 16) X dX1_fall_16 rfl 0 rfl ?_
    refine z_iload_n (pc := 17) X dX1_fall_17 rfl 1 rfl ?_
    refine z_callVi (pc := 18) (rm := rm1_keptBy) X 18 [.int _] vX1_46 rfl rfl rfl (Nat.le_of_ble_eq_true rfl) ⟨rfl, rfl, Nat.le_of_ble_eq_true rfl, Nat.le_of_ble_eq_true rfl⟩ dX1_fall_18 h (fun _ _ q => cc1_keptBy q) (fun r2 S2 h => ?_)
    refine z_iadd (pc := 21) X dX1_fall_21 ?_
    refine z_putI (pc := 22) X 18 gX1_26 rfl rfl dX1_fall_22 ?_
    refine z_let h (fun h => ?_)
    refine z_aload_n (pc := 25) X dX1_fall_25 rfl 0 rfl ?_
    refine z_get (pc := 26) (v := .ref (σ 19)) X 18 fX1_9 rfl rfl dX1_fall_26 rfl ?_
    refine z_iload_n (pc := 29) X dX1_fall_29 rfl 1 rfl ?_
    refine z_iconst (pc := 30) (v := 0) X dX1_fall_30 (by decide) ?_
    refine z_iast (pc := 31) X 19 rfl dX1_fall_31 h (fun h => ?_)
    refine z_let h (fun h => ?_)
    refine z_aload_n (pc := 32) X dX1_fall_32 rfl 0 rfl ?_
    refine z_iload_n (pc := 33) X dX1_fall_33 rfl 1 rfl ?_
    refine z_callVv (pc := 34) (rm := rm1_forget) X 18 [.int _] vX1_35 rfl rfl rfl (Nat.le_of_ble_eq_true rfl) ⟨rfl, rfl, Nat.le_of_ble_eq_true rfl, Nat.le_of_ble_eq_true rfl⟩ dX1_fall_34 h (fun _ _ q => cc1_forget q) (fun _ S5 h => ?_)
    exact z_sub [] rfl (zz1_fall_37 X  _ h)
theorem cc1_fall {l : Launch} {D : va_G} {cA : Nat → ClassId} {σ : Nat → Nat} {tS : Nat} {S S' : St} {x1 : Int32} {x2 : Int32} (h : J1_fall S x1 x2 = some ((), S')) : zMet l D cA σ shC tS yX1_fall cX1_fall 3 none rm1_fall [.ref (σ 18), .int x1, .int x2] S none S' := z_met [(0, .ref (σ 18)), (1, .int x1), (2, .int x2)] (by decide +kernel) (Nat.le_of_ble_eq_true rfl) rfl (fun _ _ _ _ _ _ _ _ X => zz1_fall_0 X _ _ _ h)
set_option maxRecDepth 100000 in
set_option maxHeartbeats 4000000 in
theorem zz1_give_24 {S' : St} {r : Int32} (X : zM p s m args meth c D cA σ shC tS RX1 cX1_give 4 (some .int)) : ∀ (S : St), J1_give_24 S = some (r, S') → Zj p l e rm1_give s m args below meth c D cA σ shC 4 (some (.int r)) S' 24 [] [] S := by
  intro S h
  rw [J1_give_24] at h
  refine z_iconst (pc := 24) (v := 0) X dX1_give_24 (by decide) ?_
  exact z_iret X rfl dX1_give_25 h
set_option maxRecDepth 100000 in
set_option maxHeartbeats 4000000 in
theorem zz1_give_0 {S' : St} {r : Int32} (X : zM p s m args meth c D cA σ shC tS RX1 cX1_give 4 (some .int)) : ∀ (S : St) (x1 : Int32) (x2 : Int32), J1_give S x1 x2 = some (r, S') → Zj p l e rm1_give s m args below meth c D cA σ shC 4 (some (.int r)) S' 0 [(0, .ref (σ 18)), (1, .int x1), (2, .int x2)] [] S := by
  intro S x1 x2 h
  rw [J1_give] at h
  refine z_iload_n (pc := 0) X dX1_give_0 rfl 1 rfl ?_
  refine z_iconst (pc := 1) (v := 5) X dX1_give_1 (by decide) ?_
  refine z_imul (pc := 2) X dX1_give_2 ?_
  refine z_iload_n (pc := 3) X dX1_give_3 rfl 2 rfl ?_
  refine z_iadd (pc := 4) X dX1_give_4 ?_
  refine z_istore_n (pc := 5) (L' := [(3, .int _), (0, .ref _), (1, .int _), (2, .int _)]) X dX1_give_5 rfl (by decide) rfl ?_
  refine z_let h (fun h => ?_)
  refine z_aload_n (pc := 6) X dX1_give_6 rfl 1 rfl ?_
  refine z_get (pc := 7) (v := .ref (σ 21)) X 18 fX1_19 rfl rfl dX1_give_7 rfl ?_
  refine z_iload_n (pc := 10) X dX1_give_10 rfl 0 rfl ?_
  refine z_iald (pc := 11) X 21 rfl dX1_give_11 h (fun h => ?_)
  refine z_if_eq (pc := 12) (tgt := 24) X dX1_give_12 (by decide) h (fun h => ?_) (fun h => ?_)
  · exact z_sub [] rfl (zz1_give_24 X  _ h)
  · refine z_aload_n (pc := 15) X dX1_give_15 rfl 1 rfl ?_
    refine z_get (pc := 16) (v := .ref (σ 20)) X 18 fX1_15 rfl rfl dX1_give_16 rfl ?_
    refine z_iload_n (pc := 19) X dX1_give_19 rfl 2 rfl ?_
    refine z_zald (pc := 20) X 20 rfl dX1_give_20 h (fun h => ?_)
    refine z_if_ne (pc := 21) (tgt := 26) X dX1_give_21 (by decide) h (fun h => ?_) (fun h => ?_)
    · refine z_aload_n (pc := 26) X dX1_give_26 rfl 1 rfl ?_
      refine z_get (pc := 27) (v := .ref (σ 19)) X 18 fX1_9 rfl rfl dX1_give_27 rfl ?_
      refine z_iload_n (pc := 30) X dX1_give_30 rfl 3 rfl ?_
      refine z_aload_n (pc := 31) X dX1_give_31 rfl 1 rfl ?_
      refine z_get (pc := 32) (v := .ref (σ 19)) X 18 fX1_9 rfl rfl dX1_give_32 rfl ?_
      refine z_iload_n (pc := 35) X dX1_give_35 rfl 3 rfl ?_
      refine z_iald (pc := 36) X 19 rfl dX1_give_36 h (fun h => ?_)
      refine z_aload_n (pc := 37) X dX1_give_37 rfl 1 rfl ?_
      refine z_get (pc := 38) (v := .ref (σ 21)) X 18 fX1_19 rfl rfl dX1_give_38 rfl ?_
      refine z_iload_n (pc := 41) X dX1_give_41 rfl 0 rfl ?_
      refine z_iald (pc := 42) X 21 rfl dX1_give_42 h (fun h => ?_)
      refine z_max (pc := 43) X hX1_39 ⟨Nat.le_of_ble_eq_true rfl, Nat.le_of_ble_eq_true rfl⟩ dX1_give_43 ?_
      refine z_iast (pc := 46) X 19 rfl dX1_give_46 h (fun h => ?_)
      refine z_let h (fun h => ?_)
      refine z_aload_n (pc := 47) X dX1_give_47 rfl 1 rfl ?_
      refine z_get (pc := 48) (v := .ref (σ 21)) X 18 fX1_19 rfl rfl dX1_give_48 rfl ?_
      refine z_iload_n (pc := 51) X dX1_give_51 rfl 0 rfl ?_
      refine z_iconst (pc := 52) (v := 0) X dX1_give_52 (by decide) ?_
      refine z_iast (pc := 53) X 21 rfl dX1_give_53 h (fun h => ?_)
      refine z_let h (fun h => ?_)
      refine z_iconst (pc := 54) (v := 1) X dX1_give_54 (by decide) ?_
      exact z_iret X rfl dX1_give_55 h
    · exact z_sub [] rfl (zz1_give_24 X  _ h)
theorem cc1_give {l : Launch} {D : va_G} {cA : Nat → ClassId} {σ : Nat → Nat} {tS : Nat} {S S' : St} {x1 : Int32} {x2 : Int32} {r : Int32} (h : J1_give S x1 x2 = some (r, S')) : zMet l D cA σ shC tS yX1_give cX1_give 4 (some .int) rm1_give [.ref (σ 18), .int x1, .int x2] S (some (.int r)) S' := z_met [(0, .ref (σ 18)), (1, .int x1), (2, .int x2)] (by decide +kernel) (Nat.le_of_ble_eq_true rfl) rfl (fun _ _ _ _ _ _ _ _ X => zz1_give_0 X _ _ _ h)
set_option maxRecDepth 100000 in
set_option maxHeartbeats 4000000 in
theorem zz1_has_17 {S' : St} {r : Int32} (X : zM p s m args meth c D cA σ shC tS RX1 cX1_has 2 (some .boolean)) : ∀ (S : St) (t0 : Int32), J1_has_17 S t0 = some (r, S') → Zj p l e rm1_has s m args below meth c D cA σ shC 2 (some (.int r)) S' 17 [] [.int t0] S := by
  intro S t0 h
  rw [J1_has_17] at h
  exact z_zret X rfl dX1_has_17 h
set_option maxRecDepth 100000 in
set_option maxHeartbeats 4000000 in
theorem zz1_has_16 {S' : St} {r : Int32} (X : zM p s m args meth c D cA σ shC tS RX1 cX1_has 2 (some .boolean)) : ∀ (S : St), J1_has_16 S = some (r, S') → Zj p l e rm1_has s m args below meth c D cA σ shC 2 (some (.int r)) S' 16 [] [] S := by
  intro S h
  rw [J1_has_16] at h
  refine z_iconst (pc := 16) (v := 0) X dX1_has_16 (by decide) ?_
  exact z_sub [] rfl (zz1_has_17 X  _ _ h)
set_option maxRecDepth 100000 in
set_option maxHeartbeats 4000000 in
theorem zz1_has_0 {S' : St} {r : Int32} (X : zM p s m args meth c D cA σ shC tS RX1 cX1_has 2 (some .boolean)) : ∀ (S : St) (x1 : Int32), J1_has S x1 = some (r, S') → Zj p l e rm1_has s m args below meth c D cA σ shC 2 (some (.int r)) S' 0 [(0, .ref (σ 18)), (1, .int x1)] [] S := by
  intro S x1 h
  rw [J1_has] at h
  refine z_iload_n (pc := 0) X dX1_has_0 rfl 1 rfl ?_
  refine z_if_lt (pc := 1) (tgt := 16) X dX1_has_1 (by decide) h (fun h => ?_) (fun h => ?_)
  · exact z_sub [] rfl (zz1_has_16 X  _ h)
  · refine z_iload_n (pc := 4) X dX1_has_4 rfl 1 rfl ?_
    refine z_aload_n (pc := 5) X dX1_has_5 rfl 0 rfl ?_
    refine z_get (pc := 6) (v := .int _) X 18 fX1_22 rfl rfl dX1_has_6 rfl ?_
    refine z_icmp_ge (pc := 9) (tgt := 16) X dX1_has_9 (by decide) h (fun h => ?_) (fun h => ?_)
    · exact z_sub [] rfl (zz1_has_16 X  _ h)
    · refine z_iconst (pc := 12) (v := 1) X dX1_has_12 (by decide) ?_
      refine z_goto (pc := 13) (tgt := 17) X dX1_has_13 (by decide) ?_
      exact z_sub [] rfl (zz1_has_17 X  _ _ h)
theorem cc1_has {l : Launch} {D : va_G} {cA : Nat → ClassId} {σ : Nat → Nat} {tS : Nat} {S S' : St} {x1 : Int32} {r : Int32} (h : J1_has S x1 = some (r, S')) : zMet l D cA σ shC tS yX1_has cX1_has 2 (some .boolean) rm1_has [.ref (σ 18), .int x1] S (some (.int r)) S' := z_met [(0, .ref (σ 18)), (1, .int x1)] (by decide +kernel) (Nat.le_of_ble_eq_true rfl) rfl (fun _ _ _ _ _ _ _ _ X => zz1_has_0 X _ _ h)
set_option maxRecDepth 100000 in
set_option maxHeartbeats 4000000 in
theorem zz1_leastUp_2 {S' : St} {r : Int32} (X : zM p s m args meth c D cA σ shC tS RX1 cX1_leastUp 2 (some .int)) : ∀ (n : Nat) (S : St) (x1 : Int32), J1_leastUp_2 n S x1 = some (r, S') → Zj p l e rm1_leastUp s m args below meth c D cA σ shC 2 (some (.int r)) S' 2 [(0, .ref (σ 18)), (1, .int x1)] [] S := by
  intro n
  induction n with
  | zero =>
    intro S x1 h
    rw [J1_leastUp_2] at h
    cases h
  | succ n ih =>
    intro S x1 h
    rw [J1_leastUp_2] at h
    refine z_iload_n (pc := 2) X dX1_leastUp_2 rfl 1 rfl ?_
    refine z_aload_n (pc := 3) X dX1_leastUp_3 rfl 0 rfl ?_
    refine z_get (pc := 4) (v := .int _) X 18 fX1_22 rfl rfl dX1_leastUp_4 rfl ?_
    refine z_icmp_ge (pc := 7) (tgt := 27) X dX1_leastUp_7 (by decide) h (fun h => ?_) (fun h => ?_)
    · refine z_iconst (pc := 27) (v := -1) X dX1_leastUp_27 (by decide) ?_
      exact z_iret X rfl dX1_leastUp_28 h
    · refine z_aload_n (pc := 10) X dX1_leastUp_10 rfl 0 rfl ?_
      refine z_get (pc := 11) (v := .ref (σ 20)) X 18 fX1_15 rfl rfl dX1_leastUp_11 rfl ?_
      refine z_iload_n (pc := 14) X dX1_leastUp_14 rfl 1 rfl ?_
      refine z_zald (pc := 15) X 20 rfl dX1_leastUp_15 h (fun h => ?_)
      refine z_if_eq (pc := 16) (tgt := 21) X dX1_leastUp_16 (by decide) h (fun h => ?_) (fun h => ?_)
      · refine z_iinc (pc := 21) (k := 1) (v := 1) (L' := [(1, .int _), (0, .ref _)]) X dX1_leastUp_21 rfl (by decide) (by decide) rfl ?_
        refine z_let h (fun h => ?_)
        refine z_goto (pc := 24) (tgt := 2) X dX1_leastUp_24 (by decide) ?_
        exact z_sub [1, 0] rfl (ih _ _ h)
      · refine z_iload_n (pc := 19) X dX1_leastUp_19 rfl 1 rfl ?_
        exact z_iret X rfl dX1_leastUp_20 h
set_option maxRecDepth 100000 in
set_option maxHeartbeats 4000000 in
theorem zz1_leastUp_0 {S' : St} {r : Int32} (X : zM p s m args meth c D cA σ shC tS RX1 cX1_leastUp 2 (some .int)) : ∀ (S : St), J1_leastUp S = some (r, S') → Zj p l e rm1_leastUp s m args below meth c D cA σ shC 2 (some (.int r)) S' 0 [(0, .ref (σ 18))] [] S := by
  intro S h
  rw [J1_leastUp] at h
  refine z_iconst (pc := 0) (v := 0) X dX1_leastUp_0 (by decide) ?_
  refine z_istore_n (pc := 1) (L' := [(1, .int _), (0, .ref _)]) X dX1_leastUp_1 rfl (by decide) rfl ?_
  exact z_sub [1, 0] rfl (zz1_leastUp_2 X  fu _ _ h)
theorem cc1_leastUp {l : Launch} {D : va_G} {cA : Nat → ClassId} {σ : Nat → Nat} {tS : Nat} {S S' : St} {r : Int32} (h : J1_leastUp S = some (r, S')) : zMet l D cA σ shC tS yX1_leastUp cX1_leastUp 2 (some .int) rm1_leastUp [.ref (σ 18)] S (some (.int r)) S' := z_met [(0, .ref (σ 18))] (by decide +kernel) (Nat.le_of_ble_eq_true rfl) rfl (fun _ _ _ _ _ _ _ _ X => zz1_leastUp_0 X _ h)
set_option maxRecDepth 100000 in
set_option maxHeartbeats 4000000 in
theorem zz1_level_0 {S' : St} {r : Int32} (X : zM p s m args meth c D cA σ shC tS RX1 cX1_level 4 (some .int)) : ∀ (S : St) (x1 : Int32) (x2 : Int32), J1_level S x1 x2 = some (r, S') → Zj p l e rm1_level s m args below meth c D cA σ shC 4 (some (.int r)) S' 0 [(0, .ref (σ 18)), (1, .int x1), (2, .int x2)] [] S := by
  intro S x1 x2 h
  rw [J1_level] at h
  refine z_aload_n (pc := 0) X dX1_level_0 rfl 0 rfl ?_
  refine z_get (pc := 1) (v := .ref (σ 19)) X 18 fX1_9 rfl rfl dX1_level_1 rfl ?_
  refine z_iload_n (pc := 4) X dX1_level_4 rfl 1 rfl ?_
  refine z_iald (pc := 5) X 19 rfl dX1_level_5 h (fun h => ?_)
  refine z_aload_n (pc := 6) X dX1_level_6 rfl 0 rfl ?_
  refine z_get (pc := 7) (v := .ref (σ 19)) X 18 fX1_9 rfl rfl dX1_level_7 rfl ?_
  refine z_iload_n (pc := 10) X dX1_level_10 rfl 2 rfl ?_
  refine z_iald (pc := 11) X 19 rfl dX1_level_11 h (fun h => ?_)
  refine z_icmp_ne (pc := 12) (tgt := 17) X dX1_level_12 (by decide) h (fun h => ?_) (fun h => ?_)
  · refine z_aload_n (pc := 17) X dX1_level_17 rfl 0 rfl ?_
    refine z_get (pc := 18) (v := .ref (σ 19)) X 18 fX1_9 rfl rfl dX1_level_18 rfl ?_
    refine z_iload_n (pc := 21) X dX1_level_21 rfl 1 rfl ?_
    refine z_iald (pc := 22) X 19 rfl dX1_level_22 h (fun h => ?_)
    refine z_aload_n (pc := 23) X dX1_level_23 rfl 0 rfl ?_
    refine z_get (pc := 24) (v := .ref (σ 19)) X 18 fX1_9 rfl rfl dX1_level_24 rfl ?_
    refine z_iload_n (pc := 27) X dX1_level_27 rfl 2 rfl ?_
    refine z_iald (pc := 28) X 19 rfl dX1_level_28 h (fun h => ?_)
    refine z_max (pc := 29) X hX1_39 ⟨Nat.le_of_ble_eq_true rfl, Nat.le_of_ble_eq_true rfl⟩ dX1_level_29 ?_
    refine z_istore_n (pc := 32) (L' := [(3, .int _), (0, .ref _), (1, .int _), (2, .int _)]) X dX1_level_32 rfl (by decide) rfl ?_
    refine z_let h (fun h => ?_)
    refine z_aload_n (pc := 33) X dX1_level_33 rfl 1 rfl ?_
    refine z_get (pc := 34) (v := .ref (σ 19)) X 18 fX1_9 rfl rfl dX1_level_34 rfl ?_
    refine z_iload_n (pc := 37) X dX1_level_37 rfl 2 rfl ?_
    refine z_iload_n (pc := 38) X dX1_level_38 rfl 0 rfl ?_
    refine z_iast (pc := 39) X 19 rfl dX1_level_39 h (fun h => ?_)
    refine z_let h (fun h => ?_)
    refine z_aload_n (pc := 40) X dX1_level_40 rfl 1 rfl ?_
    refine z_get (pc := 41) (v := .ref (σ 19)) X 18 fX1_9 rfl rfl dX1_level_41 rfl ?_
    refine z_iload_n (pc := 44) X dX1_level_44 rfl 3 rfl ?_
    refine z_iload_n (pc := 45) X dX1_level_45 rfl 0 rfl ?_
    refine z_iast (pc := 46) X 19 rfl dX1_level_46 h (fun h => ?_)
    refine z_let h (fun h => ?_)
    refine z_iconst (pc := 47) (v := 1) X dX1_level_47 (by decide) ?_
    exact z_iret X rfl dX1_level_48 h
  · refine z_iconst (pc := 15) (v := 0) X dX1_level_15 (by decide) ?_
    exact z_iret X rfl dX1_level_16 h
theorem cc1_level {l : Launch} {D : va_G} {cA : Nat → ClassId} {σ : Nat → Nat} {tS : Nat} {S S' : St} {x1 : Int32} {x2 : Int32} {r : Int32} (h : J1_level S x1 x2 = some (r, S')) : zMet l D cA σ shC tS yX1_level cX1_level 4 (some .int) rm1_level [.ref (σ 18), .int x1, .int x2] S (some (.int r)) S' := z_met [(0, .ref (σ 18)), (1, .int x1), (2, .int x2)] (by decide +kernel) (Nat.le_of_ble_eq_true rfl) rfl (fun _ _ _ _ _ _ _ _ X => zz1_level_0 X _ _ _ h)
set_option maxRecDepth 100000 in
set_option maxHeartbeats 4000000 in
theorem zz1_renew_16 {S' : St} (X : zM p s m args meth c D cA σ shC tS RX1 cX1_renew 3 none) : ∀ (n : Nat) (S : St) (x2 : Int32), J1_renew_16 n S x2 = some ((), S') → Zj p l e rm1_renew s m args below meth c D cA σ shC 3 none S' 16 [(0, .ref (σ 18)), (2, .int x2)] [] S := by
  intro n
  induction n with
  | zero =>
    intro S x2 h
    rw [J1_renew_16] at h
    cases h
  | succ n ih =>
    intro S x2 h
    rw [J1_renew_16] at h
    refine z_iload_n (pc := 16) X dX1_renew_16 rfl 1 rfl ?_
    refine z_iconst (pc := 17) (v := 5) X dX1_renew_17 (by decide) ?_
    refine z_icmp_ge (pc := 18) (tgt := 46) X dX1_renew_18 (by decide) h (fun h => ?_) (fun h => ?_)
    · exact z_vret X rfl dX1_renew_46 h
    · refine z_aload_n (pc := 21) X dX1_renew_21 rfl 0 rfl ?_
      refine z_get (pc := 22) (v := .ref (σ 19)) X 18 fX1_9 rfl rfl dX1_renew_22 rfl ?_
      refine z_iload_n (pc := 25) X dX1_renew_25 rfl 1 rfl ?_
      refine z_iconst (pc := 26) (v := 0) X dX1_renew_26 (by decide) ?_
      refine z_iast (pc := 27) X 19 rfl dX1_renew_27 h (fun h => ?_)
      refine z_let h (fun h => ?_)
      refine z_aload_n (pc := 28) X dX1_renew_28 rfl 0 rfl ?_
      refine z_get (pc := 29) (v := .ref (σ 20)) X 18 fX1_15 rfl rfl dX1_renew_29 rfl ?_
      refine z_iload_n (pc := 32) X dX1_renew_32 rfl 1 rfl ?_
      refine z_iconst (pc := 33) (v := 1) X dX1_renew_33 (by decide) ?_
      refine z_zast (pc := 34) X 20 rfl dX1_renew_34 h (fun h => ?_)
      refine z_let h (fun h => ?_)
      refine z_aload_n (pc := 35) X dX1_renew_35 rfl 0 rfl ?_
      refine z_iload_n (pc := 36) X dX1_renew_36 rfl 1 rfl ?_
      refine z_callVv (pc := 37) (rm := rm1_forget) X 18 [.int _] vX1_35 rfl rfl rfl (Nat.le_of_ble_eq_true rfl) ⟨rfl, rfl, Nat.le_of_ble_eq_true rfl, Nat.le_of_ble_eq_true rfl⟩ dX1_renew_37 h (fun _ _ q => cc1_forget q) (fun _ S3 h => ?_)
      refine z_iinc (pc := 40) (k := 1) (v := 1) (L' := [(2, .int _), (0, .ref _)]) X dX1_renew_40 rfl (by decide) (by decide) rfl ?_
      refine z_let h (fun h => ?_)
      refine z_goto (pc := 43) (tgt := 16) X dX1_renew_43 (by decide) ?_
      exact z_sub [1, 0] rfl (ih _ _ h)
set_option maxRecDepth 100000 in
set_option maxHeartbeats 4000000 in
theorem zz1_renew_0 {S' : St} (X : zM p s m args meth c D cA σ shC tS RX1 cX1_renew 3 none) : ∀ (S : St) (x1 : Int32), J1_renew S x1 = some ((), S') → Zj p l e rm1_renew s m args below meth c D cA σ shC 3 none S' 0 [(0, .ref (σ 18)), (1, .int x1)] [] S := by
  intro S x1 h
  rw [J1_renew] at h
  refine z_aload_n (pc := 0) X dX1_renew_0 rfl 0 rfl ?_
  refine z_iload_n (pc := 1) X dX1_renew_1 rfl 1 rfl ?_
  refine z_iconst (pc := 2) (v := 5) X dX1_renew_2 (by decide) ?_
  refine z_min (pc := 3) X hX1_29 ⟨Nat.le_of_ble_eq_true rfl, Nat.le_of_ble_eq_true rfl⟩ dX1_renew_3 ?_
  refine z_putI (pc := 6) X 18 gX1_22 rfl rfl dX1_renew_6 ?_
  refine z_let h (fun h => ?_)
  refine z_aload_n (pc := 9) X dX1_renew_9 rfl 0 rfl ?_
  refine z_iconst (pc := 10) (v := 0) X dX1_renew_10 (by decide) ?_
  refine z_putI (pc := 11) X 18 gX1_26 rfl rfl dX1_renew_11 ?_
  refine z_let h (fun h => ?_)
  refine z_iconst (pc := 14) (v := 0) X dX1_renew_14 (by decide) ?_
  refine z_istore_n (pc := 15) (L' := [(2, .int _), (0, .ref _), (1, .int _)]) X dX1_renew_15 rfl (by decide) rfl ?_
  exact z_sub [1, 0] rfl (zz1_renew_16 X  fu _ _ h)
theorem cc1_renew {l : Launch} {D : va_G} {cA : Nat → ClassId} {σ : Nat → Nat} {tS : Nat} {S S' : St} {x1 : Int32} (h : J1_renew S x1 = some ((), S')) : zMet l D cA σ shC tS yX1_renew cX1_renew 3 none rm1_renew [.ref (σ 18), .int x1] S none S' := z_met [(0, .ref (σ 18)), (1, .int x1)] (by decide +kernel) (Nat.le_of_ble_eq_true rfl) rfl (fun _ _ _ _ _ _ _ _ X => zz1_renew_0 X _ _ h)
set_option maxRecDepth 100000 in
set_option maxHeartbeats 4000000 in
theorem zz1_rise_62 {S' : St} {r : Int32} (X : zM p s m args meth c D cA σ shC tS RX1 cX1_rise 4 (some .int)) (k36 : St → Int32 → Int32 → Int32 → Option (Int32 × St)) (hk36 : ∀ (S : St) (x1 : Int32) (x2 : Int32) (x3 : Int32), k36 S x1 x2 x3 = some (r, S') → Zj p l e rm1_rise s m args below meth c D cA σ shC 4 (some (.int r)) S' 36 [(0, .ref (σ 18)), (1, .int x1), (2, .int x2), (3, .int x3)] [] S) : ∀ (S : St) (x1 : Int32) (x2 : Int32) (x3 : Int32), J1_rise_62 k36 S x1 x2 x3 = some (r, S') → Zj p l e rm1_rise s m args below meth c D cA σ shC 4 (some (.int r)) S' 62 [(0, .ref (σ 18)), (1, .int x1), (2, .int x2), (3, .int x3)] [] S := by
  intro S x1 x2 x3 h
  rw [J1_rise_62] at h
  refine z_iinc (pc := 62) (k := 3) (v := 1) (L' := [(3, .int _), (0, .ref _), (1, .int _), (2, .int _)]) X dX1_rise_62 rfl (by decide) (by decide) rfl ?_
  refine z_let h (fun h => ?_)
  refine z_goto (pc := 65) (tgt := 36) X dX1_rise_65 (by decide) ?_
  exact z_sub [1, 2, 3, 0] rfl (hk36 _ _ _ _ h)
set_option maxRecDepth 100000 in
set_option maxHeartbeats 4000000 in
theorem zz1_rise_36 {S' : St} {r : Int32} (X : zM p s m args meth c D cA σ shC tS RX1 cX1_rise 4 (some .int)) : ∀ (n : Nat) (S : St) (x1 : Int32) (x2 : Int32) (x3 : Int32), J1_rise_36 n S x1 x2 x3 = some (r, S') → Zj p l e rm1_rise s m args below meth c D cA σ shC 4 (some (.int r)) S' 36 [(0, .ref (σ 18)), (1, .int x1), (2, .int x2), (3, .int x3)] [] S := by
  intro n
  induction n with
  | zero =>
    intro S x1 x2 x3 h
    rw [J1_rise_36] at h
    cases h
  | succ n ih =>
    intro S x1 x2 x3 h
    rw [J1_rise_36] at h
    refine z_iload_n (pc := 36) X dX1_rise_36 rfl 3 rfl ?_
    refine z_aload_n (pc := 37) X dX1_rise_37 rfl 0 rfl ?_
    refine z_get (pc := 38) (v := .int _) X 18 fX1_22 rfl rfl dX1_rise_38 rfl ?_
    refine z_icmp_ge (pc := 41) (tgt := 68) X dX1_rise_41 (by decide) h (fun h => ?_) (fun h => ?_)
    · refine z_iload_n (pc := 68) X dX1_rise_68 rfl 2 rfl ?_
      exact z_iret X rfl dX1_rise_69 h
    · refine z_aload_n (pc := 44) X dX1_rise_44 rfl 0 rfl ?_
      refine z_get (pc := 45) (v := .ref (σ 20)) X 18 fX1_15 rfl rfl dX1_rise_45 rfl ?_
      refine z_iload_n (pc := 48) X dX1_rise_48 rfl 3 rfl ?_
      refine z_zald (pc := 49) X 20 rfl dX1_rise_49 h (fun h => ?_)
      refine z_if_eq (pc := 50) (tgt := 62) X dX1_rise_50 (by decide) h (fun h => ?_) (fun h => ?_)
      · exact z_sub [0, 1, 2, 3] rfl (zz1_rise_62 X _ ih _ _ _ _ h)
      · refine z_iload_n (pc := 53) X dX1_rise_53 rfl 2 rfl ?_
        refine z_aload_n (pc := 54) X dX1_rise_54 rfl 0 rfl ?_
        refine z_iload_n (pc := 55) X dX1_rise_55 rfl 1 rfl ?_
        refine z_iload_n (pc := 56) X dX1_rise_56 rfl 3 rfl ?_
        refine z_callVi (pc := 57) (rm := rm1_give) X 18 [.int _, .int _] vX1_50 rfl rfl rfl (Nat.le_of_ble_eq_true rfl) ⟨rfl, rfl, Nat.le_of_ble_eq_true rfl, Nat.le_of_ble_eq_true rfl⟩ dX1_rise_57 h (fun _ _ q => cc1_give q) (fun r1 S1 h => ?_)
        refine z_iadd (pc := 60) X dX1_rise_60 ?_
        refine z_istore_n (pc := 61) (L' := [(2, .int _), (0, .ref _), (1, .int _), (3, .int _)]) X dX1_rise_61 rfl (by decide) rfl ?_
        refine z_let h (fun h => ?_)
        exact z_sub [1, 2, 0, 3] rfl (zz1_rise_62 X _ ih _ _ _ _ h)
set_option maxRecDepth 100000 in
set_option maxHeartbeats 4000000 in
theorem zz1_rise_4 {S' : St} {r : Int32} (X : zM p s m args meth c D cA σ shC tS RX1 cX1_rise 4 (some .int)) : ∀ (n : Nat) (S : St) (x1 : Int32) (x2 : Int32) (x3 : Int32), J1_rise_4 n S x1 x2 x3 = some (r, S') → Zj p l e rm1_rise s m args below meth c D cA σ shC 4 (some (.int r)) S' 4 [(0, .ref (σ 18)), (1, .int x1), (2, .int x2), (3, .int x3)] [] S := by
  intro n
  induction n with
  | zero =>
    intro S x1 x2 x3 h
    rw [J1_rise_4] at h
    cases h
  | succ n ih =>
    intro S x1 x2 x3 h
    rw [J1_rise_4] at h
    refine z_iload_n (pc := 4) X dX1_rise_4 rfl 3 rfl ?_
    refine z_aload_n (pc := 5) X dX1_rise_5 rfl 0 rfl ?_
    refine z_get (pc := 6) (v := .int _) X 18 fX1_22 rfl rfl dX1_rise_6 rfl ?_
    refine z_icmp_ge (pc := 9) (tgt := 27) X dX1_rise_9 (by decide) h (fun h => ?_) (fun h => ?_)
    · refine z_aload_n (pc := 27) X dX1_rise_27 rfl 0 rfl ?_
      refine z_get (pc := 28) (v := .ref (σ 20)) X 18 fX1_15 rfl rfl dX1_rise_28 rfl ?_
      refine z_iload_n (pc := 31) X dX1_rise_31 rfl 1 rfl ?_
      refine z_iconst (pc := 32) (v := 1) X dX1_rise_32 (by decide) ?_
      refine z_zast (pc := 33) X 20 rfl dX1_rise_33 h (fun h => ?_)
      refine z_let h (fun h => ?_)
      refine z_iconst (pc := 34) (v := 0) X dX1_rise_34 (by decide) ?_
      refine z_istore_n (pc := 35) (L' := [(3, .int _), (0, .ref _), (1, .int _), (2, .int _)]) X dX1_rise_35 rfl (by decide) rfl ?_
      exact z_sub [1, 2, 3, 0] rfl (zz1_rise_36 X  fu _ _ _ _ h)
    · refine z_iload_n (pc := 12) X dX1_rise_12 rfl 2 rfl ?_
      refine z_aload_n (pc := 13) X dX1_rise_13 rfl 0 rfl ?_
      refine z_iload_n (pc := 14) X dX1_rise_14 rfl 3 rfl ?_
      refine z_iload_n (pc := 15) X dX1_rise_15 rfl 1 rfl ?_
      refine z_callVi (pc := 16) (rm := rm1_give) X 18 [.int _, .int _] vX1_50 rfl rfl rfl (Nat.le_of_ble_eq_true rfl) ⟨rfl, rfl, Nat.le_of_ble_eq_true rfl, Nat.le_of_ble_eq_true rfl⟩ dX1_rise_16 h (fun _ _ q => cc1_give q) (fun r2 S2 h => ?_)
      refine z_iadd (pc := 19) X dX1_rise_19 ?_
      refine z_istore_n (pc := 20) (L' := [(2, .int _), (0, .ref _), (1, .int _), (3, .int _)]) X dX1_rise_20 rfl (by decide) rfl ?_
      refine z_let h (fun h => ?_)
      refine z_iinc (pc := 21) (k := 3) (v := 1) (L' := [(3, .int _), (2, .int _), (0, .ref _), (1, .int _)]) X dX1_rise_21 rfl (by decide) (by decide) rfl ?_
      refine z_let h (fun h => ?_)
      refine z_goto (pc := 24) (tgt := 4) X dX1_rise_24 (by decide) ?_
      exact z_sub [2, 3, 1, 0] rfl (ih _ _ _ _ h)
set_option maxRecDepth 100000 in
set_option maxHeartbeats 4000000 in
theorem zz1_rise_0 {S' : St} {r : Int32} (X : zM p s m args meth c D cA σ shC tS RX1 cX1_rise 4 (some .int)) : ∀ (S : St) (x1 : Int32), J1_rise S x1 = some (r, S') → Zj p l e rm1_rise s m args below meth c D cA σ shC 4 (some (.int r)) S' 0 [(0, .ref (σ 18)), (1, .int x1)] [] S := by
  intro S x1 h
  rw [J1_rise] at h
  refine z_iconst (pc := 0) (v := 0) X dX1_rise_0 (by decide) ?_
  refine z_istore_n (pc := 1) (L' := [(2, .int _), (0, .ref _), (1, .int _)]) X dX1_rise_1 rfl (by decide) rfl ?_
  refine z_iconst (pc := 2) (v := 0) X dX1_rise_2 (by decide) ?_
  refine z_istore_n (pc := 3) (L' := [(3, .int _), (2, .int _), (0, .ref _), (1, .int _)]) X dX1_rise_3 rfl (by decide) rfl ?_
  exact z_sub [2, 3, 1, 0] rfl (zz1_rise_4 X  fu _ _ _ _ h)
theorem cc1_rise {l : Launch} {D : va_G} {cA : Nat → ClassId} {σ : Nat → Nat} {tS : Nat} {S S' : St} {x1 : Int32} {r : Int32} (h : J1_rise S x1 = some (r, S')) : zMet l D cA σ shC tS yX1_rise cX1_rise 4 (some .int) rm1_rise [.ref (σ 18), .int x1] S (some (.int r)) S' := z_met [(0, .ref (σ 18)), (1, .int x1)] (by decide +kernel) (Nat.le_of_ble_eq_true rfl) rfl (fun _ _ _ _ _ _ _ _ X => zz1_rise_0 X _ _ h)
set_option maxRecDepth 100000 in
set_option maxHeartbeats 4000000 in
theorem zz1_take_75 {S' : St} {r : Int32} (X : zM p s m args meth c D cA σ shC tS RX1 cX1_take 5 (some .boolean)) : ∀ (S : St), J1_take_75 S = some (r, S') → Zj p l e rm1_take s m args below meth c D cA σ shC 5 (some (.int r)) S' 75 [] [] S := by
  intro S h
  rw [J1_take_75] at h
  refine z_iconst (pc := 75) (v := 0) X dX1_take_75 (by decide) ?_
  exact z_zret X rfl dX1_take_76 h
set_option maxRecDepth 100000 in
set_option maxHeartbeats 4000000 in
theorem zz1_take_0 {S' : St} {r : Int32} (X : zM p s m args meth c D cA σ shC tS RX1 cX1_take 5 (some .boolean)) : ∀ (S : St) (x1 : Int32) (x2 : Int32), J1_take S x1 x2 = some (r, S') → Zj p l e rm1_take s m args below meth c D cA σ shC 5 (some (.int r)) S' 0 [(0, .ref (σ 18)), (1, .int x1), (2, .int x2)] [] S := by
  intro S x1 x2 h
  rw [J1_take] at h
  refine z_aload_n (pc := 0) X dX1_take_0 rfl 0 rfl ?_
  refine z_get (pc := 1) (v := .ref (σ 20)) X 18 fX1_15 rfl rfl dX1_take_1 rfl ?_
  refine z_iload_n (pc := 4) X dX1_take_4 rfl 1 rfl ?_
  refine z_zald (pc := 5) X 20 rfl dX1_take_5 h (fun h => ?_)
  refine z_if_eq (pc := 6) (tgt := 27) X dX1_take_6 (by decide) h (fun h => ?_) (fun h => ?_)
  · refine z_aload_n (pc := 27) X dX1_take_27 rfl 0 rfl ?_
    refine z_callVi (pc := 28) (rm := rm1_leastUp) X 18 [] vX1_42 rfl rfl rfl (Nat.le_of_ble_eq_true rfl) ⟨rfl, rfl, Nat.le_of_ble_eq_true rfl, Nat.le_of_ble_eq_true rfl⟩ dX1_take_28 h (fun _ _ q => cc1_leastUp q) (fun r1 S1 h => ?_)
    refine z_istore_n (pc := 31) (L' := [(3, .int _), (0, .ref _), (1, .int _), (2, .int _)]) X dX1_take_31 rfl (by decide) rfl ?_
    refine z_iload_n (pc := 32) X dX1_take_32 rfl 0 rfl ?_
    refine z_iconst (pc := 33) (v := -1) X dX1_take_33 (by decide) ?_
    refine z_icmp_ne (pc := 34) (tgt := 50) X dX1_take_34 (by decide) h (fun h => ?_) (fun h => ?_)
    · refine z_iload_n (pc := 50) X dX1_take_50 rfl 0 rfl ?_
      refine z_iconst (pc := 51) (v := 5) X dX1_take_51 (by decide) ?_
      refine z_imul (pc := 52) X dX1_take_52 ?_
      refine z_iload_n (pc := 53) X dX1_take_53 rfl 2 rfl ?_
      refine z_iadd (pc := 54) X dX1_take_54 ?_
      refine z_istore (pc := 55) (L' := [(4, .int _), (3, .int _), (0, .ref _), (1, .int _), (2, .int _)]) X dX1_take_55 (by decide) rfl ?_
      refine z_let h (fun h => ?_)
      refine z_aload_n (pc := 57) X dX1_take_57 rfl 2 rfl ?_
      refine z_get (pc := 58) (v := .ref (σ 21)) X 18 fX1_19 rfl rfl dX1_take_58 rfl ?_
      refine z_iload (pc := 61) X dX1_take_61 0 rfl ?_
      refine z_aload_n (pc := 63) X dX1_take_63 rfl 2 rfl ?_
      refine z_get (pc := 64) (v := .ref (σ 21)) X 18 fX1_19 rfl rfl dX1_take_64 rfl ?_
      refine z_iload (pc := 67) X dX1_take_67 0 rfl ?_
      refine z_iald (pc := 69) X 21 rfl dX1_take_69 h (fun h => ?_)
      refine z_iload_n (pc := 70) X dX1_take_70 rfl 4 rfl ?_
      refine z_max (pc := 71) X hX1_39 ⟨Nat.le_of_ble_eq_true rfl, Nat.le_of_ble_eq_true rfl⟩ dX1_take_71 ?_
      refine z_iast (pc := 74) X 21 rfl dX1_take_74 h (fun h => ?_)
      refine z_let h (fun h => ?_)
      exact z_sub [] rfl (zz1_take_75 X  _ h)
    · refine z_aload_n (pc := 37) X dX1_take_37 rfl 1 rfl ?_
      refine z_dup (pc := 38) X dX1_take_38 rfl ?_
      refine z_get (pc := 39) (v := .int _) X 18 fX1_26 rfl rfl dX1_take_39 rfl ?_
      refine z_iconst (pc := 42) (v := 1) X dX1_take_42 (by decide) ?_
      refine z_iadd (pc := 43) X dX1_take_43 ?_
      refine z_putI (pc := 44) X 18 gX1_26 rfl rfl dX1_take_44 ?_
      refine z_let h (fun h => ?_)
      refine z_goto (pc := 47) (tgt := 75) X dX1_take_47 (by decide) ?_
      exact z_sub [] rfl (zz1_take_75 X  _ h)
  · refine z_aload_n (pc := 9) X dX1_take_9 rfl 0 rfl ?_
    refine z_get (pc := 10) (v := .ref (σ 19)) X 18 fX1_9 rfl rfl dX1_take_10 rfl ?_
    refine z_iload_n (pc := 13) X dX1_take_13 rfl 1 rfl ?_
    refine z_aload_n (pc := 14) X dX1_take_14 rfl 0 rfl ?_
    refine z_get (pc := 15) (v := .ref (σ 19)) X 18 fX1_9 rfl rfl dX1_take_15 rfl ?_
    refine z_iload_n (pc := 18) X dX1_take_18 rfl 1 rfl ?_
    refine z_iald (pc := 19) X 19 rfl dX1_take_19 h (fun h => ?_)
    refine z_iload_n (pc := 20) X dX1_take_20 rfl 2 rfl ?_
    refine z_max (pc := 21) X hX1_39 ⟨Nat.le_of_ble_eq_true rfl, Nat.le_of_ble_eq_true rfl⟩ dX1_take_21 ?_
    refine z_iast (pc := 24) X 19 rfl dX1_take_24 h (fun h => ?_)
    refine z_let h (fun h => ?_)
    refine z_iconst (pc := 25) (v := 1) X dX1_take_25 (by decide) ?_
    exact z_zret X rfl dX1_take_26 h
theorem cc1_take {l : Launch} {D : va_G} {cA : Nat → ClassId} {σ : Nat → Nat} {tS : Nat} {S S' : St} {x1 : Int32} {x2 : Int32} {r : Int32} (h : J1_take S x1 x2 = some (r, S')) : zMet l D cA σ shC tS yX1_take cX1_take 5 (some .boolean) rm1_take [.ref (σ 18), .int x1, .int x2] S (some (.int r)) S' := z_met [(0, .ref (σ 18)), (1, .int x1), (2, .int x2)] (by decide +kernel) (Nat.le_of_ble_eq_true rfl) rfl (fun _ _ _ _ _ _ _ _ X => zz1_take_0 X _ _ _ h)
set_option maxRecDepth 100000 in
set_option maxHeartbeats 4000000 in
theorem zz2_ask_0 {S' : St} (X : zM p s m args meth c D cA σ shC tS RX2 cX2_ask 3 none) : ∀ (S : St) (x1 : Int32) (x2 : Int32), J2_ask S x1 x2 = some ((), S') → Zj p l e rm2_ask s m args below meth c D cA σ shC 3 none S' 0 [(0, .ref (σ 8)), (1, .int x1), (2, .int x2)] [] S := by
  intro S x1 x2 h
  rw [J2_ask] at h
  refine z_aload_n (pc := 0) X dX2_ask_0 rfl 0 rfl ?_
  refine z_iload_n (pc := 1) X dX2_ask_1 rfl 1 rfl ?_
  refine z_putI (pc := 2) X 8 gX2_38 rfl rfl dX2_ask_2 ?_
  refine z_let h (fun h => ?_)
  refine z_aload_n (pc := 5) X dX2_ask_5 rfl 0 rfl ?_
  refine z_iload_n (pc := 6) X dX2_ask_6 rfl 2 rfl ?_
  refine z_putI (pc := 7) X 8 gX2_42 rfl rfl dX2_ask_7 ?_
  refine z_let h (fun h => ?_)
  refine z_aload_n (pc := 10) X dX2_ask_10 rfl 0 rfl ?_
  refine z_iconst (pc := 11) (v := 0) X dX2_ask_11 (by decide) ?_
  refine z_putI (pc := 12) X 8 gX2_45 rfl rfl dX2_ask_12 ?_
  refine z_let h (fun h => ?_)
  exact z_vret X rfl dX2_ask_15 h
theorem cc2_ask {l : Launch} {D : va_G} {cA : Nat → ClassId} {σ : Nat → Nat} {tS : Nat} {S S' : St} {x1 : Int32} {x2 : Int32} (h : J2_ask S x1 x2 = some ((), S')) : zMet l D cA σ shC tS yX2_ask cX2_ask 3 none rm2_ask [.ref (σ 8), .int x1, .int x2] S none S' := z_met [(0, .ref (σ 8)), (1, .int x1), (2, .int x2)] (by decide +kernel) (Nat.le_of_ble_eq_true rfl) rfl (fun _ _ _ _ _ _ _ _ X => zz2_ask_0 X _ _ _ h)
set_option maxRecDepth 100000 in
set_option maxHeartbeats 4000000 in
theorem zz2_picks_34 {S' : St} {r : Int64} (X : zM p s m args meth c D cA σ shC tS RX2 cX2_picks 2 (some .long)) : ∀ (S : St) (t0 : Int64), J2_picks_34 S t0 = some (r, S') → Zj p l e rm2_picks s m args below meth c D cA σ shC 2 (some (.long r)) S' 34 [] [.long t0] S := by
  intro S t0 h
  rw [J2_picks_34] at h
  exact z_lret X rfl dX2_picks_34 h
set_option maxRecDepth 100000 in
set_option maxHeartbeats 4000000 in
theorem zz2_picks_33 {S' : St} {r : Int64} (X : zM p s m args meth c D cA σ shC tS RX2 cX2_picks 2 (some .long)) : ∀ (S : St), J2_picks_33 S = some (r, S') → Zj p l e rm2_picks s m args below meth c D cA σ shC 2 (some (.long r)) S' 33 [] [] S := by
  intro S h
  rw [J2_picks_33] at h
  refine z_lconst (pc := 33) (v := 0) X dX2_picks_33 (by decide) ?_
  exact z_sub [] rfl (zz2_picks_34 X  _ _ h)
set_option maxRecDepth 100000 in
set_option maxHeartbeats 4000000 in
theorem zz2_picks_0 {S' : St} {r : Int64} (X : zM p s m args meth c D cA σ shC tS RX2 cX2_picks 2 (some .long)) : ∀ (S : St) (x0 : Int32) (x1 : Int32), J2_picks S x0 x1 = some (r, S') → Zj p l e rm2_picks s m args below meth c D cA σ shC 2 (some (.long r)) S' 0 [(0, .int x0), (1, .int x1)] [] S := by
  intro S x0 x1 h
  rw [J2_picks] at h
  refine z_iload_n (pc := 0) X dX2_picks_0 rfl 0 rfl ?_
  refine z_if_lt (pc := 1) (tgt := 33) X dX2_picks_1 (by decide) h (fun h => ?_) (fun h => ?_)
  · exact z_sub [] rfl (zz2_picks_33 X  _ h)
  · refine z_iload_n (pc := 4) X dX2_picks_4 rfl 0 rfl ?_
    refine z_bipush (pc := 5) (v := 6) X dX2_picks_5 (by decide) ?_
    refine z_icmp_ge (pc := 7) (tgt := 33) X dX2_picks_7 (by decide) h (fun h => ?_) (fun h => ?_)
    · exact z_sub [] rfl (zz2_picks_33 X  _ h)
    · refine z_iload_n (pc := 10) X dX2_picks_10 rfl 1 rfl ?_
      refine z_if_lt (pc := 11) (tgt := 33) X dX2_picks_11 (by decide) h (fun h => ?_) (fun h => ?_)
      · exact z_sub [] rfl (zz2_picks_33 X  _ h)
      · refine z_iload_n (pc := 14) X dX2_picks_14 rfl 1 rfl ?_
        refine z_bipush (pc := 15) (v := 6) X dX2_picks_15 (by decide) ?_
        refine z_icmp_ge (pc := 17) (tgt := 33) X dX2_picks_17 (by decide) h (fun h => ?_) (fun h => ?_)
        · exact z_sub [] rfl (zz2_picks_33 X  _ h)
        · refine z_gets (pc := 20) X mw_509 dX2_picks_20 ?_
          refine z_iload_n (pc := 23) X dX2_picks_23 rfl 0 rfl ?_
          refine z_bipush (pc := 24) (v := 6) X dX2_picks_24 (by decide) ?_
          refine z_imul (pc := 26) X dX2_picks_26 ?_
          refine z_iload_n (pc := 27) X dX2_picks_27 rfl 1 rfl ?_
          refine z_iadd (pc := 28) X dX2_picks_28 ?_
          refine z_tl (pc := 29) X dX2_picks_29 h (fun h => ?_)
          refine z_goto (pc := 30) (tgt := 34) X dX2_picks_30 (by decide) ?_
          exact z_sub [] rfl (zz2_picks_34 X  _ _ h)
theorem cc2_picks {l : Launch} {D : va_G} {cA : Nat → ClassId} {σ : Nat → Nat} {tS : Nat} {S S' : St} {x0 : Int32} {x1 : Int32} {r : Int64} (h : J2_picks S x0 x1 = some (r, S')) : zMet l D cA σ shC tS yX2_picks cX2_picks 2 (some .long) rm2_picks [.int x0, .int x1] S (some (.long r)) S' := z_met [(0, .int x0), (1, .int x1)] (by decide +kernel) (Nat.le_of_ble_eq_true rfl) rfl (fun _ _ _ _ _ _ _ _ X => zz2_picks_0 X _ _ _ h)
set_option maxRecDepth 100000 in
set_option maxHeartbeats 4000000 in
theorem zz2_atLeast_6 {S' : St} {r : Int64} (X : zM p s m args meth c D cA σ shC tS RX2 cX2_atLeast 9 (some .long)) : ∀ (n : Nat) (S : St) (x0 : Int32) (x2 : Int64) (x4 : Int64) (x6 : Int64) (x8 : Int32), J2_atLeast_6 n S x0 x2 x4 x6 x8 = some (r, S') → Zj p l e rm2_atLeast s m args below meth c D cA σ shC 9 (some (.long r)) S' 6 [(0, .int x0), (2, .long x2), (4, .long x4), (6, .long x6), (8, .int x8)] [] S := by
  intro n
  induction n with
  | zero =>
    intro S x0 x2 x4 x6 x8 h
    rw [J2_atLeast_6] at h
    cases h
  | succ n ih =>
    intro S x0 x2 x4 x6 x8 h
    rw [J2_atLeast_6] at h
    refine z_iload (pc := 6) X dX2_atLeast_6 4 rfl ?_
    refine z_iload_n (pc := 8) X dX2_atLeast_8 rfl 0 rfl ?_
    refine z_icmp_gt (pc := 9) (tgt := 46) X dX2_atLeast_9 (by decide) h (fun h => ?_) (fun h => ?_)
    · refine z_lload (pc := 46) X dX2_atLeast_46 3 rfl ?_
      exact z_lret X rfl dX2_atLeast_48 h
    · refine z_lload (pc := 12) X dX2_atLeast_12 3 rfl ?_
      refine z_iload_n (pc := 14) X dX2_atLeast_14 rfl 0 rfl ?_
      refine z_iload (pc := 15) X dX2_atLeast_15 4 rfl ?_
      refine z_callSl (pc := 17) (rm := rm2_picks) X [.int _, .int _] sX2_116 rfl rfl (Nat.le_of_ble_eq_true rfl) ⟨rfl, rfl, Nat.le_of_ble_eq_true rfl, Nat.le_of_ble_eq_true rfl⟩ dX2_atLeast_17 h (fun _ _ q => cc2_picks q) (fun r1 S1 h => ?_)
      refine z_lload_n (pc := 20) X dX2_atLeast_20 rfl 1 rfl ?_
      refine z_iload (pc := 21) X dX2_atLeast_21 4 rfl ?_
      refine z_callSl (pc := 23) (rm := rm0_power) X [.long _, .int _] sX2_73 rfl rfl (Nat.le_of_ble_eq_true rfl) ⟨rfl, rfl, Nat.le_of_ble_eq_true rfl, Nat.le_of_ble_eq_true rfl⟩ dX2_atLeast_23 h (fun _ _ q => cc0_power q) (fun r2 S2 h => ?_)
      refine z_lmul (pc := 26) X dX2_atLeast_26 ?_
      refine z_lload (pc := 27) X dX2_atLeast_27 2 rfl ?_
      refine z_iload_n (pc := 29) X dX2_atLeast_29 rfl 0 rfl ?_
      refine z_iload (pc := 30) X dX2_atLeast_30 4 rfl ?_
      refine z_isub (pc := 32) X dX2_atLeast_32 ?_
      refine z_callSl (pc := 33) (rm := rm0_power) X [.long _, .int _] sX2_73 rfl rfl (Nat.le_of_ble_eq_true rfl) ⟨rfl, rfl, Nat.le_of_ble_eq_true rfl, Nat.le_of_ble_eq_true rfl⟩ dX2_atLeast_33 h (fun _ _ q => cc0_power q) (fun r3 S3 h => ?_)
      refine z_lmul (pc := 36) X dX2_atLeast_36 ?_
      refine z_ladd (pc := 37) X dX2_atLeast_37 ?_
      refine z_lstore (pc := 38) (L' := [(6, .long _), (0, .int _), (2, .long _), (4, .long _), (8, .int _)]) X dX2_atLeast_38 (by decide) rfl ?_
      refine z_let h (fun h => ?_)
      refine z_iinc (pc := 40) (k := 4) (v := 1) (L' := [(8, .int _), (6, .long _), (0, .int _), (2, .long _), (4, .long _)]) X dX2_atLeast_40 rfl (by decide) (by decide) rfl ?_
      refine z_let h (fun h => ?_)
      refine z_goto (pc := 43) (tgt := 6) X dX2_atLeast_43 (by decide) ?_
      exact z_sub [2, 3, 4, 1, 0] rfl (ih _ _ _ _ _ _ h)
set_option maxRecDepth 100000 in
set_option maxHeartbeats 4000000 in
theorem zz2_atLeast_0 {S' : St} {r : Int64} (X : zM p s m args meth c D cA σ shC tS RX2 cX2_atLeast 9 (some .long)) : ∀ (S : St) (x0 : Int32) (x1 : Int32) (x2 : Int64) (x4 : Int64), J2_atLeast S x0 x1 x2 x4 = some (r, S') → Zj p l e rm2_atLeast s m args below meth c D cA σ shC 9 (some (.long r)) S' 0 [(0, .int x0), (1, .int x1), (2, .long x2), (4, .long x4)] [] S := by
  intro S x0 x1 x2 x4 h
  rw [J2_atLeast] at h
  refine z_lconst (pc := 0) (v := 0) X dX2_atLeast_0 (by decide) ?_
  refine z_lstore (pc := 1) (L' := [(6, .long _), (0, .int _), (1, .int _), (2, .long _), (4, .long _)]) X dX2_atLeast_1 (by decide) rfl ?_
  refine z_iload_n (pc := 3) X dX2_atLeast_3 rfl 2 rfl ?_
  refine z_istore (pc := 4) (L' := [(8, .int _), (6, .long _), (0, .int _), (1, .int _), (2, .long _), (4, .long _)]) X dX2_atLeast_4 (by decide) rfl ?_
  exact z_sub [2, 4, 5, 1, 0] rfl (zz2_atLeast_6 X  fu _ _ _ _ _ _ h)
theorem cc2_atLeast {l : Launch} {D : va_G} {cA : Nat → ClassId} {σ : Nat → Nat} {tS : Nat} {S S' : St} {x0 : Int32} {x1 : Int32} {x2 : Int64} {x4 : Int64} {r : Int64} (h : J2_atLeast S x0 x1 x2 x4 = some (r, S')) : zMet l D cA σ shC tS yX2_atLeast cX2_atLeast 9 (some .long) rm2_atLeast [.int x0, .int x1, .long x2, .long x4] S (some (.long r)) S' := z_met [(0, .int x0), (1, .int x1), (2, .long x2), (4, .long x4)] (by decide +kernel) (Nat.le_of_ble_eq_true rfl) rfl (fun _ _ _ _ _ _ _ _ X => zz2_atLeast_0 X _ _ _ _ _ h)
set_option maxRecDepth 100000 in
set_option maxHeartbeats 4000000 in
theorem zz2_isAtMost_88 {S' : St} {r : Int32} (X : zM p s m args meth c D cA σ shC tS RX2 cX2_isAtMost 18 (some .boolean)) : ∀ (S : St) (t0 : Int32), J2_isAtMost_88 S t0 = some (r, S') → Zj p l e rm2_isAtMost s m args below meth c D cA σ shC 18 (some (.int r)) S' 88 [] [.int t0] S := by
  intro S t0 h
  rw [J2_isAtMost_88] at h
  exact z_zret X rfl dX2_isAtMost_88 h
set_option maxRecDepth 100000 in
set_option maxHeartbeats 4000000 in
theorem zz2_isAtMost_83 {S' : St} {r : Int32} (X : zM p s m args meth c D cA σ shC tS RX2 cX2_isAtMost 18 (some .boolean)) : ∀ (S : St), J2_isAtMost_83 S = some (r, S') → Zj p l e rm2_isAtMost s m args below meth c D cA σ shC 18 (some (.int r)) S' 83 [] [] S := by
  intro S h
  rw [J2_isAtMost_83] at h
  refine z_iconst (pc := 83) (v := 1) X dX2_isAtMost_83 (by decide) ?_
  refine z_goto (pc := 84) (tgt := 88) X dX2_isAtMost_84 (by decide) ?_
  exact z_sub [] rfl (zz2_isAtMost_88 X  _ _ h)
set_option maxRecDepth 100000 in
set_option maxHeartbeats 4000000 in
theorem zz2_isAtMost_87 {S' : St} {r : Int32} (X : zM p s m args meth c D cA σ shC tS RX2 cX2_isAtMost 18 (some .boolean)) : ∀ (S : St), J2_isAtMost_87 S = some (r, S') → Zj p l e rm2_isAtMost s m args below meth c D cA σ shC 18 (some (.int r)) S' 87 [] [] S := by
  intro S h
  rw [J2_isAtMost_87] at h
  refine z_iconst (pc := 87) (v := 0) X dX2_isAtMost_87 (by decide) ?_
  exact z_sub [] rfl (zz2_isAtMost_88 X  _ _ h)
set_option maxRecDepth 100000 in
set_option maxHeartbeats 4000000 in
theorem zz2_isAtMost_0 {S' : St} {r : Int32} (X : zM p s m args meth c D cA σ shC tS RX2 cX2_isAtMost 18 (some .boolean)) : ∀ (S : St) (x0 : Int64) (x2 : Int64) (x4 : Int64) (x6 : Int64), J2_isAtMost S x0 x2 x4 x6 = some (r, S') → Zj p l e rm2_isAtMost s m args below meth c D cA σ shC 18 (some (.int r)) S' 0 [(0, .long x0), (2, .long x2), (4, .long x4), (6, .long x6)] [] S := by
  intro S x0 x2 x4 x6 h
  rw [J2_isAtMost] at h
  refine z_ldc2 (pc := 0) X dX2_isAtMost_0 mw_591 ?_
  refine z_lstore (pc := 3) (L' := [(8, .long _), (0, .long _), (2, .long _), (4, .long _), (6, .long _)]) X dX2_isAtMost_3 (by decide) rfl ?_
  refine z_lload_n (pc := 5) X dX2_isAtMost_5 rfl 1 rfl ?_
  refine z_lload (pc := 6) X dX2_isAtMost_6 0 rfl ?_
  refine z_land (pc := 8) X dX2_isAtMost_8 ?_
  refine z_lload (pc := 9) X dX2_isAtMost_9 4 rfl ?_
  refine z_lmul (pc := 11) X dX2_isAtMost_11 ?_
  refine z_lstore (pc := 12) (L' := [(10, .long _), (8, .long _), (0, .long _), (2, .long _), (4, .long _), (6, .long _)]) X dX2_isAtMost_12 (by decide) rfl ?_
  refine z_let h (fun h => ?_)
  refine z_lload_n (pc := 14) X dX2_isAtMost_14 rfl 3 rfl ?_
  refine z_lload (pc := 15) X dX2_isAtMost_15 1 rfl ?_
  refine z_land (pc := 17) X dX2_isAtMost_17 ?_
  refine z_lload (pc := 18) X dX2_isAtMost_18 4 rfl ?_
  refine z_lmul (pc := 20) X dX2_isAtMost_20 ?_
  refine z_lstore (pc := 21) (L' := [(12, .long _), (10, .long _), (8, .long _), (0, .long _), (2, .long _), (4, .long _), (6, .long _)]) X dX2_isAtMost_21 (by decide) rfl ?_
  refine z_let h (fun h => ?_)
  refine z_lload_n (pc := 23) X dX2_isAtMost_23 rfl 3 rfl ?_
  refine z_bipush (pc := 24) (v := 31) X dX2_isAtMost_24 (by decide) ?_
  refine z_lushr (pc := 26) X dX2_isAtMost_26 ?_
  refine z_lload (pc := 27) X dX2_isAtMost_27 6 rfl ?_
  refine z_lmul (pc := 29) X dX2_isAtMost_29 ?_
  refine z_lload (pc := 30) X dX2_isAtMost_30 1 rfl ?_
  refine z_bipush (pc := 32) (v := 31) X dX2_isAtMost_32 (by decide) ?_
  refine z_lushr (pc := 34) X dX2_isAtMost_34 ?_
  refine z_ladd (pc := 35) X dX2_isAtMost_35 ?_
  refine z_lstore (pc := 36) (L' := [(14, .long _), (12, .long _), (10, .long _), (8, .long _), (0, .long _), (2, .long _), (4, .long _), (6, .long _)]) X dX2_isAtMost_36 (by decide) rfl ?_
  refine z_let h (fun h => ?_)
  refine z_lload_n (pc := 38) X dX2_isAtMost_38 rfl 5 rfl ?_
  refine z_bipush (pc := 39) (v := 31) X dX2_isAtMost_39 (by decide) ?_
  refine z_lushr (pc := 41) X dX2_isAtMost_41 ?_
  refine z_lload (pc := 42) X dX2_isAtMost_42 6 rfl ?_
  refine z_lmul (pc := 44) X dX2_isAtMost_44 ?_
  refine z_lload (pc := 45) X dX2_isAtMost_45 1 rfl ?_
  refine z_bipush (pc := 47) (v := 31) X dX2_isAtMost_47 (by decide) ?_
  refine z_lushr (pc := 49) X dX2_isAtMost_49 ?_
  refine z_ladd (pc := 50) X dX2_isAtMost_50 ?_
  refine z_lstore (pc := 51) (L' := [(16, .long _), (14, .long _), (12, .long _), (10, .long _), (8, .long _), (0, .long _), (2, .long _), (4, .long _), (6, .long _)]) X dX2_isAtMost_51 (by decide) rfl ?_
  refine z_let h (fun h => ?_)
  refine z_lload (pc := 53) X dX2_isAtMost_53 1 rfl ?_
  refine z_lload (pc := 55) X dX2_isAtMost_55 0 rfl ?_
  refine z_lcmp (pc := 57) X dX2_isAtMost_57 ?_
  refine z_if_lt (pc := 58) (tgt := 83) X dX2_isAtMost_58 (by decide) h (fun h => ?_) (fun h => ?_)
  · exact z_sub [] rfl (zz2_isAtMost_83 X  _ h)
  · refine z_lload (pc := 61) X dX2_isAtMost_61 1 rfl ?_
    refine z_lload (pc := 63) X dX2_isAtMost_63 0 rfl ?_
    refine z_lcmp (pc := 65) X dX2_isAtMost_65 ?_
    refine z_if_ne (pc := 66) (tgt := 87) X dX2_isAtMost_66 (by decide) h (fun h => ?_) (fun h => ?_)
    · exact z_sub [] rfl (zz2_isAtMost_87 X  _ h)
    · refine z_lload (pc := 69) X dX2_isAtMost_69 3 rfl ?_
      refine z_lload (pc := 71) X dX2_isAtMost_71 4 rfl ?_
      refine z_land (pc := 73) X dX2_isAtMost_73 ?_
      refine z_lload (pc := 74) X dX2_isAtMost_74 2 rfl ?_
      refine z_lload (pc := 76) X dX2_isAtMost_76 4 rfl ?_
      refine z_land (pc := 78) X dX2_isAtMost_78 ?_
      refine z_lcmp (pc := 79) X dX2_isAtMost_79 ?_
      refine z_if_gt (pc := 80) (tgt := 87) X dX2_isAtMost_80 (by decide) h (fun h => ?_) (fun h => ?_)
      · exact z_sub [] rfl (zz2_isAtMost_87 X  _ h)
      · exact z_sub [] rfl (zz2_isAtMost_83 X  _ h)
theorem cc2_isAtMost {l : Launch} {D : va_G} {cA : Nat → ClassId} {σ : Nat → Nat} {tS : Nat} {S S' : St} {x0 : Int64} {x2 : Int64} {x4 : Int64} {x6 : Int64} {r : Int32} (h : J2_isAtMost S x0 x2 x4 x6 = some (r, S')) : zMet l D cA σ shC tS yX2_isAtMost cX2_isAtMost 18 (some .boolean) rm2_isAtMost [.long x0, .long x2, .long x4, .long x6] S (some (.int r)) S' := z_met [(0, .long x0), (2, .long x2), (4, .long x4), (6, .long x6)] (by decide +kernel) (Nat.le_of_ble_eq_true rfl) rfl (fun _ _ _ _ _ _ _ _ X => zz2_isAtMost_0 X _ _ _ _ _ h)
set_option maxRecDepth 100000 in
set_option maxHeartbeats 4000000 in
theorem zz2_endsAt_65 {S' : St} {r : Int64} (X : zM p s m args meth c D cA σ shC tS RX2 cX2_endsAt 10 (some .long)) : ∀ (S : St) (x1 : Int32) (x2 : Int32) (x4 : Int64) (x6 : Int64) (t0 : Int64) (t1 : Int64), J2_endsAt_65 S x1 x2 x4 x6 t0 t1 = some (r, S') → Zj p l e rm2_endsAt s m args below meth c D cA σ shC 10 (some (.long r)) S' 65 [(1, .int x1), (2, .int x2), (4, .long x4), (6, .long x6)] [.long t0, .long t1] S := by
  intro S x1 x2 x4 x6 t0 t1 h
  rw [J2_endsAt_65] at h
  refine z_ladd (pc := 65) X dX2_endsAt_65 ?_
  refine z_lstore (pc := 66) (L' := [(8, .long _), (1, .int _), (2, .int _), (4, .long _), (6, .long _)]) X dX2_endsAt_66 (by decide) rfl ?_
  refine z_let h (fun h => ?_)
  refine z_iload_n (pc := 68) X dX2_endsAt_68 rfl 1 rfl ?_
  refine z_iload_n (pc := 69) X dX2_endsAt_69 rfl 2 rfl ?_
  refine z_lload (pc := 70) X dX2_endsAt_70 0 rfl ?_
  refine z_lload (pc := 72) X dX2_endsAt_72 3 rfl ?_
  refine z_lload (pc := 74) X dX2_endsAt_74 0 rfl ?_
  refine z_lsub (pc := 76) X dX2_endsAt_76 ?_
  refine z_callSl (pc := 77) (rm := rm2_atLeast) X [.int _, .int _, .long _, .long _] sX2_129 rfl rfl (Nat.le_of_ble_eq_true rfl) ⟨rfl, rfl, Nat.le_of_ble_eq_true rfl, Nat.le_of_ble_eq_true rfl⟩ dX2_endsAt_77 h (fun _ _ q => cc2_atLeast q) (fun r2 S2 h => ?_)
  refine z_iload_n (pc := 80) X dX2_endsAt_80 rfl 1 rfl ?_
  refine z_iload_n (pc := 81) X dX2_endsAt_81 rfl 2 rfl ?_
  refine z_lload (pc := 82) X dX2_endsAt_82 4 rfl ?_
  refine z_lload (pc := 84) X dX2_endsAt_84 3 rfl ?_
  refine z_lload (pc := 86) X dX2_endsAt_86 4 rfl ?_
  refine z_lsub (pc := 88) X dX2_endsAt_88 ?_
  refine z_callSl (pc := 89) (rm := rm2_atLeast) X [.int _, .int _, .long _, .long _] sX2_129 rfl rfl (Nat.le_of_ble_eq_true rfl) ⟨rfl, rfl, Nat.le_of_ble_eq_true rfl, Nat.le_of_ble_eq_true rfl⟩ dX2_endsAt_89 h (fun _ _ q => cc2_atLeast q) (fun r3 S3 h => ?_)
  refine z_lsub (pc := 92) X dX2_endsAt_92 ?_
  exact z_lret X rfl dX2_endsAt_93 h
set_option maxRecDepth 100000 in
set_option maxHeartbeats 4000000 in
theorem zz2_endsAt_64 {S' : St} {r : Int64} (X : zM p s m args meth c D cA σ shC tS RX2 cX2_endsAt 10 (some .long)) : ∀ (S : St) (x1 : Int32) (x2 : Int32) (x4 : Int64) (x6 : Int64) (t0 : Int64), J2_endsAt_64 S x1 x2 x4 x6 t0 = some (r, S') → Zj p l e rm2_endsAt s m args below meth c D cA σ shC 10 (some (.long r)) S' 64 [(1, .int x1), (2, .int x2), (4, .long x4), (6, .long x6)] [.long t0] S := by
  intro S x1 x2 x4 x6 t0 h
  rw [J2_endsAt_64] at h
  refine z_lconst (pc := 64) (v := 0) X dX2_endsAt_64 (by decide) ?_
  exact z_sub [0, 1, 2, 3] rfl (zz2_endsAt_65 X  _ _ _ _ _ _ _ h)
set_option maxRecDepth 100000 in
set_option maxHeartbeats 4000000 in
theorem zz2_endsAt_40 {S' : St} {r : Int64} (X : zM p s m args meth c D cA σ shC tS RX2 cX2_endsAt 10 (some .long)) : ∀ (S : St) (x1 : Int32) (x2 : Int32) (x3 : Int32) (x4 : Int64) (x6 : Int64), J2_endsAt_40 S x1 x2 x3 x4 x6 = some (r, S') → Zj p l e rm2_endsAt s m args below meth c D cA σ shC 10 (some (.long r)) S' 40 [(0, .ref (σ 8)), (1, .int x1), (2, .int x2), (3, .int x3), (4, .long x4), (6, .long x6)] [] S := by
  intro S x1 x2 x3 x4 x6 h
  rw [J2_endsAt_40] at h
  refine z_lload (pc := 40) X dX2_endsAt_40 5 rfl ?_
  refine z_iload_n (pc := 42) X dX2_endsAt_42 rfl 3 rfl ?_
  refine z_if_lt (pc := 43) (tgt := 64) X dX2_endsAt_43 (by decide) h (fun h => ?_) (fun h => ?_)
  · exact z_sub [1, 2, 4, 5] rfl (zz2_endsAt_64 X  _ _ _ _ _ _ h)
  · refine z_iload_n (pc := 46) X dX2_endsAt_46 rfl 3 rfl ?_
    refine z_aload_n (pc := 47) X dX2_endsAt_47 rfl 0 rfl ?_
    refine z_get (pc := 48) (v := .ref (σ 9)) X 8 fX2_11 rfl rfl dX2_endsAt_48 rfl ?_
    refine z_alen (pc := 51) (v := 15) X 9 (by decide) rfl rfl dX2_endsAt_51 ?_
    refine z_icmp_ge (pc := 52) (tgt := 64) X dX2_endsAt_52 (by decide) h (fun h => ?_) (fun h => ?_)
    · exact z_sub [1, 2, 4, 5] rfl (zz2_endsAt_64 X  _ _ _ _ _ _ h)
    · refine z_aload_n (pc := 55) X dX2_endsAt_55 rfl 0 rfl ?_
      refine z_get (pc := 56) (v := .ref (σ 9)) X 8 fX2_11 rfl rfl dX2_endsAt_56 rfl ?_
      refine z_iload_n (pc := 59) X dX2_endsAt_59 rfl 3 rfl ?_
      refine z_lald (pc := 60) X 9 rfl dX2_endsAt_60 h (fun h => ?_)
      refine z_goto (pc := 61) (tgt := 65) X dX2_endsAt_61 (by decide) ?_
      exact z_sub [1, 2, 4, 5] rfl (zz2_endsAt_65 X  _ _ _ _ _ _ _ h)
set_option maxRecDepth 100000 in
set_option maxHeartbeats 4000000 in
theorem zz2_endsAt_6 {S' : St} {r : Int64} (X : zM p s m args meth c D cA σ shC tS RX2 cX2_endsAt 10 (some .long)) : ∀ (n : Nat) (S : St) (x1 : Int32) (x2 : Int32) (x3 : Int32) (x4 : Int64) (x6 : Int64) (x8 : Int32), J2_endsAt_6 n S x1 x2 x3 x4 x6 x8 = some (r, S') → Zj p l e rm2_endsAt s m args below meth c D cA σ shC 10 (some (.long r)) S' 6 [(0, .ref (σ 8)), (1, .int x1), (2, .int x2), (3, .int x3), (4, .long x4), (6, .long x6), (8, .int x8)] [] S := by
  intro n
  induction n with
  | zero =>
    intro S x1 x2 x3 x4 x6 x8 h
    rw [J2_endsAt_6] at h
    cases h
  | succ n ih =>
    intro S x1 x2 x3 x4 x6 x8 h
    rw [J2_endsAt_6] at h
    refine z_iload (pc := 6) X dX2_endsAt_6 6 rfl ?_
    refine z_iload_n (pc := 8) X dX2_endsAt_8 rfl 3 rfl ?_
    refine z_icmp_ge (pc := 9) (tgt := 40) X dX2_endsAt_9 (by decide) h (fun h => ?_) (fun h => ?_)
    · exact z_sub [0, 1, 2, 3, 4, 5] rfl (zz2_endsAt_40 X  _ _ _ _ _ _ h)
    · refine z_iload (pc := 12) X dX2_endsAt_12 6 rfl ?_
      refine z_aload_n (pc := 14) X dX2_endsAt_14 rfl 0 rfl ?_
      refine z_get (pc := 15) (v := .ref (σ 9)) X 8 fX2_11 rfl rfl dX2_endsAt_15 rfl ?_
      refine z_alen (pc := 18) (v := 15) X 9 (by decide) rfl rfl dX2_endsAt_18 ?_
      refine z_icmp_ge (pc := 19) (tgt := 40) X dX2_endsAt_19 (by decide) h (fun h => ?_) (fun h => ?_)
      · exact z_sub [0, 1, 2, 3, 4, 5] rfl (zz2_endsAt_40 X  _ _ _ _ _ _ h)
      · refine z_lload (pc := 22) X dX2_endsAt_22 5 rfl ?_
        refine z_aload_n (pc := 24) X dX2_endsAt_24 rfl 0 rfl ?_
        refine z_get (pc := 25) (v := .ref (σ 9)) X 8 fX2_11 rfl rfl dX2_endsAt_25 rfl ?_
        refine z_iload (pc := 28) X dX2_endsAt_28 6 rfl ?_
        refine z_lald (pc := 30) X 9 rfl dX2_endsAt_30 h (fun h => ?_)
        refine z_ladd (pc := 31) X dX2_endsAt_31 ?_
        refine z_lstore (pc := 32) (L' := [(6, .long _), (0, .ref _), (1, .int _), (2, .int _), (3, .int _), (4, .long _), (8, .int _)]) X dX2_endsAt_32 (by decide) rfl ?_
        refine z_let h (fun h => ?_)
        refine z_iinc (pc := 34) (k := 6) (v := 1) (L' := [(8, .int _), (6, .long _), (0, .ref _), (1, .int _), (2, .int _), (3, .int _), (4, .long _)]) X dX2_endsAt_34 rfl (by decide) (by decide) rfl ?_
        refine z_let h (fun h => ?_)
        refine z_goto (pc := 37) (tgt := 6) X dX2_endsAt_37 (by decide) ?_
        exact z_sub [2, 3, 4, 5, 6, 1, 0] rfl (ih _ _ _ _ _ _ _ h)
set_option maxRecDepth 100000 in
set_option maxHeartbeats 4000000 in
theorem zz2_endsAt_0 {S' : St} {r : Int64} (X : zM p s m args meth c D cA σ shC tS RX2 cX2_endsAt 10 (some .long)) : ∀ (S : St) (x1 : Int32) (x2 : Int32) (x3 : Int32) (x4 : Int64), J2_endsAt S x1 x2 x3 x4 = some (r, S') → Zj p l e rm2_endsAt s m args below meth c D cA σ shC 10 (some (.long r)) S' 0 [(0, .ref (σ 8)), (1, .int x1), (2, .int x2), (3, .int x3), (4, .long x4)] [] S := by
  intro S x1 x2 x3 x4 h
  rw [J2_endsAt] at h
  refine z_lconst (pc := 0) (v := 0) X dX2_endsAt_0 (by decide) ?_
  refine z_lstore (pc := 1) (L' := [(6, .long _), (0, .ref _), (1, .int _), (2, .int _), (3, .int _), (4, .long _)]) X dX2_endsAt_1 (by decide) rfl ?_
  refine z_iconst (pc := 3) (v := 0) X dX2_endsAt_3 (by decide) ?_
  refine z_istore (pc := 4) (L' := [(8, .int _), (6, .long _), (0, .ref _), (1, .int _), (2, .int _), (3, .int _), (4, .long _)]) X dX2_endsAt_4 (by decide) rfl ?_
  exact z_sub [2, 3, 4, 5, 6, 1, 0] rfl (zz2_endsAt_6 X  fu _ _ _ _ _ _ _ h)
theorem cc2_endsAt {l : Launch} {D : va_G} {cA : Nat → ClassId} {σ : Nat → Nat} {tS : Nat} {S S' : St} {x1 : Int32} {x2 : Int32} {x3 : Int32} {x4 : Int64} {r : Int64} (h : J2_endsAt S x1 x2 x3 x4 = some (r, S')) : zMet l D cA σ shC tS yX2_endsAt cX2_endsAt 10 (some .long) rm2_endsAt [.ref (σ 8), .int x1, .int x2, .int x3, .long x4] S (some (.long r)) S' := z_met [(0, .ref (σ 8)), (1, .int x1), (2, .int x2), (3, .int x3), (4, .long x4)] (by decide +kernel) (Nat.le_of_ble_eq_true rfl) rfl (fun _ _ _ _ _ _ _ _ X => zz2_endsAt_0 X _ _ _ _ _ h)
set_option maxRecDepth 100000 in
set_option maxHeartbeats 4000000 in
theorem zz2_place_0 {S' : St} {r : Int32} (X : zM p s m args meth c D cA σ shC tS RX2 cX2_place 2 (some .int)) : ∀ (S : St) (x0 : Int32) (x1 : Int32), J2_place S x0 x1 = some (r, S') → Zj p l e rm2_place s m args below meth c D cA σ shC 2 (some (.int r)) S' 0 [(0, .int x0), (1, .int x1)] [] S := by
  intro S x0 x1 h
  rw [J2_place] at h
  refine z_iload_n (pc := 0) X dX2_place_0 rfl 0 rfl ?_
  refine z_bipush (pc := 1) (v := 6) X dX2_place_1 (by decide) ?_
  refine z_imul (pc := 3) X dX2_place_3 ?_
  refine z_iload_n (pc := 4) X dX2_place_4 rfl 1 rfl ?_
  refine z_iadd (pc := 5) X dX2_place_5 ?_
  exact z_iret X rfl dX2_place_6 h
theorem cc2_place {l : Launch} {D : va_G} {cA : Nat → ClassId} {σ : Nat → Nat} {tS : Nat} {S S' : St} {x0 : Int32} {x1 : Int32} {r : Int32} (h : J2_place S x0 x1 = some (r, S')) : zMet l D cA σ shC tS yX2_place cX2_place 2 (some .int) rm2_place [.int x0, .int x1] S (some (.int r)) S' := z_met [(0, .int x0), (1, .int x1)] (by decide +kernel) (Nat.le_of_ble_eq_true rfl) rfl (fun _ _ _ _ _ _ _ _ X => zz2_place_0 X _ _ _ h)
set_option maxRecDepth 100000 in
set_option maxHeartbeats 4000000 in
theorem zz2_fillPowers_c13_5 {S' : St} (X : zM p s m args meth c D cA σ shC tS RX2 cX2_fillPowers 6 none) : ∀ (n : Nat) (S : St) (x0 : Int64) (x3 : Int64) (x5 : Int32), J2_fillPowers_c13_5 n S x0 x3 x5 = some ((), S') → Zj p l e rm2_fillPowers s m args below meth c D cA σ shC 6 none S' 5 [(0, .long x0), (2, .ref (σ 13)), (3, .long x3), (5, .int x5)] [] S := by
  intro n
  induction n with
  | zero =>
    intro S x0 x3 x5 h
    rw [J2_fillPowers_c13_5] at h
    cases h
  | succ n ih =>
    intro S x0 x3 x5 h
    rw [J2_fillPowers_c13_5] at h
    refine z_iload (pc := 5) X dX2_fillPowers_5 3 rfl ?_
    refine z_aload_n (pc := 7) X dX2_fillPowers_7 rfl 1 rfl ?_
    refine z_alen (pc := 8) (v := 6) X 13 (by decide) rfl rfl dX2_fillPowers_8 ?_
    refine z_icmp_ge (pc := 9) (tgt := 27) X dX2_fillPowers_9 (by decide) h (fun h => ?_) (fun h => ?_)
    · exact z_vret X rfl dX2_fillPowers_27 h
    · refine z_aload_n (pc := 12) X dX2_fillPowers_12 rfl 1 rfl ?_
      refine z_iload (pc := 13) X dX2_fillPowers_13 3 rfl ?_
      refine z_lload_n (pc := 15) X dX2_fillPowers_15 rfl 2 rfl ?_
      refine z_last (pc := 16) X 13 rfl dX2_fillPowers_16 h (fun h => ?_)
      refine z_let h (fun h => ?_)
      refine z_lload_n (pc := 17) X dX2_fillPowers_17 rfl 2 rfl ?_
      refine z_lload_n (pc := 18) X dX2_fillPowers_18 rfl 0 rfl ?_
      refine z_lmul (pc := 19) X dX2_fillPowers_19 ?_
      refine z_lstore_n (pc := 20) (L' := [(3, .long _), (0, .long _), (2, .ref _), (5, .int _)]) X dX2_fillPowers_20 rfl (by decide) rfl ?_
      refine z_let h (fun h => ?_)
      refine z_iinc (pc := 21) (k := 3) (v := 1) (L' := [(5, .int _), (3, .long _), (0, .long _), (2, .ref _)]) X dX2_fillPowers_21 rfl (by decide) (by decide) rfl ?_
      refine z_let h (fun h => ?_)
      refine z_goto (pc := 24) (tgt := 5) X dX2_fillPowers_24 (by decide) ?_
      exact z_sub [2, 3, 1, 0] rfl (ih _ _ _ _ h)
set_option maxRecDepth 100000 in
set_option maxHeartbeats 4000000 in
theorem zz2_fillPowers_c13_0 {S' : St} (X : zM p s m args meth c D cA σ shC tS RX2 cX2_fillPowers 6 none) : ∀ (S : St) (x0 : Int64), J2_fillPowers_c13 S x0 = some ((), S') → Zj p l e rm2_fillPowers s m args below meth c D cA σ shC 6 none S' 0 [(0, .long x0), (2, .ref (σ 13))] [] S := by
  intro S x0 h
  rw [J2_fillPowers_c13] at h
  refine z_lconst (pc := 0) (v := 1) X dX2_fillPowers_0 (by decide) ?_
  refine z_lstore_n (pc := 1) (L' := [(3, .long _), (0, .long _), (2, .ref _)]) X dX2_fillPowers_1 rfl (by decide) rfl ?_
  refine z_iconst (pc := 2) (v := 0) X dX2_fillPowers_2 (by decide) ?_
  refine z_istore (pc := 3) (L' := [(5, .int _), (3, .long _), (0, .long _), (2, .ref _)]) X dX2_fillPowers_3 (by decide) rfl ?_
  exact z_sub [2, 3, 1, 0] rfl (zz2_fillPowers_c13_5 X  fu _ _ _ _ h)
theorem cc2_fillPowers_c13 {l : Launch} {D : va_G} {cA : Nat → ClassId} {σ : Nat → Nat} {tS : Nat} {S S' : St} {x0 : Int64} (h : J2_fillPowers_c13 S x0 = some ((), S')) : zMet l D cA σ shC tS yX2_fillPowers cX2_fillPowers 6 none rm2_fillPowers [.long x0, .ref (σ 13)] S none S' := z_met [(0, .long x0), (2, .ref (σ 13))] (by decide +kernel) (Nat.le_of_ble_eq_true rfl) rfl (fun _ _ _ _ _ _ _ _ X => zz2_fillPowers_c13_0 X _ _ h)
set_option maxRecDepth 100000 in
set_option maxHeartbeats 4000000 in
theorem zz2_fillPowers_c14_5 {S' : St} (X : zM p s m args meth c D cA σ shC tS RX2 cX2_fillPowers 6 none) : ∀ (n : Nat) (S : St) (x0 : Int64) (x3 : Int64) (x5 : Int32), J2_fillPowers_c14_5 n S x0 x3 x5 = some ((), S') → Zj p l e rm2_fillPowers s m args below meth c D cA σ shC 6 none S' 5 [(0, .long x0), (2, .ref (σ 14)), (3, .long x3), (5, .int x5)] [] S := by
  intro n
  induction n with
  | zero =>
    intro S x0 x3 x5 h
    rw [J2_fillPowers_c14_5] at h
    cases h
  | succ n ih =>
    intro S x0 x3 x5 h
    rw [J2_fillPowers_c14_5] at h
    refine z_iload (pc := 5) X dX2_fillPowers_5 3 rfl ?_
    refine z_aload_n (pc := 7) X dX2_fillPowers_7 rfl 1 rfl ?_
    refine z_alen (pc := 8) (v := 6) X 14 (by decide) rfl rfl dX2_fillPowers_8 ?_
    refine z_icmp_ge (pc := 9) (tgt := 27) X dX2_fillPowers_9 (by decide) h (fun h => ?_) (fun h => ?_)
    · exact z_vret X rfl dX2_fillPowers_27 h
    · refine z_aload_n (pc := 12) X dX2_fillPowers_12 rfl 1 rfl ?_
      refine z_iload (pc := 13) X dX2_fillPowers_13 3 rfl ?_
      refine z_lload_n (pc := 15) X dX2_fillPowers_15 rfl 2 rfl ?_
      refine z_last (pc := 16) X 14 rfl dX2_fillPowers_16 h (fun h => ?_)
      refine z_let h (fun h => ?_)
      refine z_lload_n (pc := 17) X dX2_fillPowers_17 rfl 2 rfl ?_
      refine z_lload_n (pc := 18) X dX2_fillPowers_18 rfl 0 rfl ?_
      refine z_lmul (pc := 19) X dX2_fillPowers_19 ?_
      refine z_lstore_n (pc := 20) (L' := [(3, .long _), (0, .long _), (2, .ref _), (5, .int _)]) X dX2_fillPowers_20 rfl (by decide) rfl ?_
      refine z_let h (fun h => ?_)
      refine z_iinc (pc := 21) (k := 3) (v := 1) (L' := [(5, .int _), (3, .long _), (0, .long _), (2, .ref _)]) X dX2_fillPowers_21 rfl (by decide) (by decide) rfl ?_
      refine z_let h (fun h => ?_)
      refine z_goto (pc := 24) (tgt := 5) X dX2_fillPowers_24 (by decide) ?_
      exact z_sub [2, 3, 1, 0] rfl (ih _ _ _ _ h)
set_option maxRecDepth 100000 in
set_option maxHeartbeats 4000000 in
theorem zz2_fillPowers_c14_0 {S' : St} (X : zM p s m args meth c D cA σ shC tS RX2 cX2_fillPowers 6 none) : ∀ (S : St) (x0 : Int64), J2_fillPowers_c14 S x0 = some ((), S') → Zj p l e rm2_fillPowers s m args below meth c D cA σ shC 6 none S' 0 [(0, .long x0), (2, .ref (σ 14))] [] S := by
  intro S x0 h
  rw [J2_fillPowers_c14] at h
  refine z_lconst (pc := 0) (v := 1) X dX2_fillPowers_0 (by decide) ?_
  refine z_lstore_n (pc := 1) (L' := [(3, .long _), (0, .long _), (2, .ref _)]) X dX2_fillPowers_1 rfl (by decide) rfl ?_
  refine z_iconst (pc := 2) (v := 0) X dX2_fillPowers_2 (by decide) ?_
  refine z_istore (pc := 3) (L' := [(5, .int _), (3, .long _), (0, .long _), (2, .ref _)]) X dX2_fillPowers_3 (by decide) rfl ?_
  exact z_sub [2, 3, 1, 0] rfl (zz2_fillPowers_c14_5 X  fu _ _ _ _ h)
theorem cc2_fillPowers_c14 {l : Launch} {D : va_G} {cA : Nat → ClassId} {σ : Nat → Nat} {tS : Nat} {S S' : St} {x0 : Int64} (h : J2_fillPowers_c14 S x0 = some ((), S')) : zMet l D cA σ shC tS yX2_fillPowers cX2_fillPowers 6 none rm2_fillPowers [.long x0, .ref (σ 14)] S none S' := z_met [(0, .long x0), (2, .ref (σ 14))] (by decide +kernel) (Nat.le_of_ble_eq_true rfl) rfl (fun _ _ _ _ _ _ _ _ X => zz2_fillPowers_c14_0 X _ _ h)
set_option maxRecDepth 100000 in
set_option maxHeartbeats 4000000 in
theorem zz2_fillPowers_c15_5 {S' : St} (X : zM p s m args meth c D cA σ shC tS RX2 cX2_fillPowers 6 none) : ∀ (n : Nat) (S : St) (x0 : Int64) (x3 : Int64) (x5 : Int32), J2_fillPowers_c15_5 n S x0 x3 x5 = some ((), S') → Zj p l e rm2_fillPowers s m args below meth c D cA σ shC 6 none S' 5 [(0, .long x0), (2, .ref (σ 15)), (3, .long x3), (5, .int x5)] [] S := by
  intro n
  induction n with
  | zero =>
    intro S x0 x3 x5 h
    rw [J2_fillPowers_c15_5] at h
    cases h
  | succ n ih =>
    intro S x0 x3 x5 h
    rw [J2_fillPowers_c15_5] at h
    refine z_iload (pc := 5) X dX2_fillPowers_5 3 rfl ?_
    refine z_aload_n (pc := 7) X dX2_fillPowers_7 rfl 1 rfl ?_
    refine z_alen (pc := 8) (v := 6) X 15 (by decide) rfl rfl dX2_fillPowers_8 ?_
    refine z_icmp_ge (pc := 9) (tgt := 27) X dX2_fillPowers_9 (by decide) h (fun h => ?_) (fun h => ?_)
    · exact z_vret X rfl dX2_fillPowers_27 h
    · refine z_aload_n (pc := 12) X dX2_fillPowers_12 rfl 1 rfl ?_
      refine z_iload (pc := 13) X dX2_fillPowers_13 3 rfl ?_
      refine z_lload_n (pc := 15) X dX2_fillPowers_15 rfl 2 rfl ?_
      refine z_last (pc := 16) X 15 rfl dX2_fillPowers_16 h (fun h => ?_)
      refine z_let h (fun h => ?_)
      refine z_lload_n (pc := 17) X dX2_fillPowers_17 rfl 2 rfl ?_
      refine z_lload_n (pc := 18) X dX2_fillPowers_18 rfl 0 rfl ?_
      refine z_lmul (pc := 19) X dX2_fillPowers_19 ?_
      refine z_lstore_n (pc := 20) (L' := [(3, .long _), (0, .long _), (2, .ref _), (5, .int _)]) X dX2_fillPowers_20 rfl (by decide) rfl ?_
      refine z_let h (fun h => ?_)
      refine z_iinc (pc := 21) (k := 3) (v := 1) (L' := [(5, .int _), (3, .long _), (0, .long _), (2, .ref _)]) X dX2_fillPowers_21 rfl (by decide) (by decide) rfl ?_
      refine z_let h (fun h => ?_)
      refine z_goto (pc := 24) (tgt := 5) X dX2_fillPowers_24 (by decide) ?_
      exact z_sub [2, 3, 1, 0] rfl (ih _ _ _ _ h)
set_option maxRecDepth 100000 in
set_option maxHeartbeats 4000000 in
theorem zz2_fillPowers_c15_0 {S' : St} (X : zM p s m args meth c D cA σ shC tS RX2 cX2_fillPowers 6 none) : ∀ (S : St) (x0 : Int64), J2_fillPowers_c15 S x0 = some ((), S') → Zj p l e rm2_fillPowers s m args below meth c D cA σ shC 6 none S' 0 [(0, .long x0), (2, .ref (σ 15))] [] S := by
  intro S x0 h
  rw [J2_fillPowers_c15] at h
  refine z_lconst (pc := 0) (v := 1) X dX2_fillPowers_0 (by decide) ?_
  refine z_lstore_n (pc := 1) (L' := [(3, .long _), (0, .long _), (2, .ref _)]) X dX2_fillPowers_1 rfl (by decide) rfl ?_
  refine z_iconst (pc := 2) (v := 0) X dX2_fillPowers_2 (by decide) ?_
  refine z_istore (pc := 3) (L' := [(5, .int _), (3, .long _), (0, .long _), (2, .ref _)]) X dX2_fillPowers_3 (by decide) rfl ?_
  exact z_sub [2, 3, 1, 0] rfl (zz2_fillPowers_c15_5 X  fu _ _ _ _ h)
theorem cc2_fillPowers_c15 {l : Launch} {D : va_G} {cA : Nat → ClassId} {σ : Nat → Nat} {tS : Nat} {S S' : St} {x0 : Int64} (h : J2_fillPowers_c15 S x0 = some ((), S')) : zMet l D cA σ shC tS yX2_fillPowers cX2_fillPowers 6 none rm2_fillPowers [.long x0, .ref (σ 15)] S none S' := z_met [(0, .long x0), (2, .ref (σ 15))] (by decide +kernel) (Nat.le_of_ble_eq_true rfl) rfl (fun _ _ _ _ _ _ _ _ X => zz2_fillPowers_c15_0 X _ _ h)
set_option maxRecDepth 100000 in
set_option maxHeartbeats 4000000 in
theorem zz2_fillPowers_c16_5 {S' : St} (X : zM p s m args meth c D cA σ shC tS RX2 cX2_fillPowers 6 none) : ∀ (n : Nat) (S : St) (x0 : Int64) (x3 : Int64) (x5 : Int32), J2_fillPowers_c16_5 n S x0 x3 x5 = some ((), S') → Zj p l e rm2_fillPowers s m args below meth c D cA σ shC 6 none S' 5 [(0, .long x0), (2, .ref (σ 16)), (3, .long x3), (5, .int x5)] [] S := by
  intro n
  induction n with
  | zero =>
    intro S x0 x3 x5 h
    rw [J2_fillPowers_c16_5] at h
    cases h
  | succ n ih =>
    intro S x0 x3 x5 h
    rw [J2_fillPowers_c16_5] at h
    refine z_iload (pc := 5) X dX2_fillPowers_5 3 rfl ?_
    refine z_aload_n (pc := 7) X dX2_fillPowers_7 rfl 1 rfl ?_
    refine z_alen (pc := 8) (v := 6) X 16 (by decide) rfl rfl dX2_fillPowers_8 ?_
    refine z_icmp_ge (pc := 9) (tgt := 27) X dX2_fillPowers_9 (by decide) h (fun h => ?_) (fun h => ?_)
    · exact z_vret X rfl dX2_fillPowers_27 h
    · refine z_aload_n (pc := 12) X dX2_fillPowers_12 rfl 1 rfl ?_
      refine z_iload (pc := 13) X dX2_fillPowers_13 3 rfl ?_
      refine z_lload_n (pc := 15) X dX2_fillPowers_15 rfl 2 rfl ?_
      refine z_last (pc := 16) X 16 rfl dX2_fillPowers_16 h (fun h => ?_)
      refine z_let h (fun h => ?_)
      refine z_lload_n (pc := 17) X dX2_fillPowers_17 rfl 2 rfl ?_
      refine z_lload_n (pc := 18) X dX2_fillPowers_18 rfl 0 rfl ?_
      refine z_lmul (pc := 19) X dX2_fillPowers_19 ?_
      refine z_lstore_n (pc := 20) (L' := [(3, .long _), (0, .long _), (2, .ref _), (5, .int _)]) X dX2_fillPowers_20 rfl (by decide) rfl ?_
      refine z_let h (fun h => ?_)
      refine z_iinc (pc := 21) (k := 3) (v := 1) (L' := [(5, .int _), (3, .long _), (0, .long _), (2, .ref _)]) X dX2_fillPowers_21 rfl (by decide) (by decide) rfl ?_
      refine z_let h (fun h => ?_)
      refine z_goto (pc := 24) (tgt := 5) X dX2_fillPowers_24 (by decide) ?_
      exact z_sub [2, 3, 1, 0] rfl (ih _ _ _ _ h)
set_option maxRecDepth 100000 in
set_option maxHeartbeats 4000000 in
theorem zz2_fillPowers_c16_0 {S' : St} (X : zM p s m args meth c D cA σ shC tS RX2 cX2_fillPowers 6 none) : ∀ (S : St) (x0 : Int64), J2_fillPowers_c16 S x0 = some ((), S') → Zj p l e rm2_fillPowers s m args below meth c D cA σ shC 6 none S' 0 [(0, .long x0), (2, .ref (σ 16))] [] S := by
  intro S x0 h
  rw [J2_fillPowers_c16] at h
  refine z_lconst (pc := 0) (v := 1) X dX2_fillPowers_0 (by decide) ?_
  refine z_lstore_n (pc := 1) (L' := [(3, .long _), (0, .long _), (2, .ref _)]) X dX2_fillPowers_1 rfl (by decide) rfl ?_
  refine z_iconst (pc := 2) (v := 0) X dX2_fillPowers_2 (by decide) ?_
  refine z_istore (pc := 3) (L' := [(5, .int _), (3, .long _), (0, .long _), (2, .ref _)]) X dX2_fillPowers_3 (by decide) rfl ?_
  exact z_sub [2, 3, 1, 0] rfl (zz2_fillPowers_c16_5 X  fu _ _ _ _ h)
theorem cc2_fillPowers_c16 {l : Launch} {D : va_G} {cA : Nat → ClassId} {σ : Nat → Nat} {tS : Nat} {S S' : St} {x0 : Int64} (h : J2_fillPowers_c16 S x0 = some ((), S')) : zMet l D cA σ shC tS yX2_fillPowers cX2_fillPowers 6 none rm2_fillPowers [.long x0, .ref (σ 16)] S none S' := z_met [(0, .long x0), (2, .ref (σ 16))] (by decide +kernel) (Nat.le_of_ble_eq_true rfl) rfl (fun _ _ _ _ _ _ _ _ X => zz2_fillPowers_c16_0 X _ _ h)
set_option maxRecDepth 100000 in
set_option maxHeartbeats 4000000 in
theorem zz2_staleAnswers_5 {S' : St} {r : Int64} (X : zM p s m args meth c D cA σ shC tS RX2 cX2_staleAnswers 6 (some .long)) : ∀ (n : Nat) (S : St) (x1 : Int32) (x2 : Int32) (x3 : Int64) (x5 : Int32), J2_staleAnswers_5 n S x1 x2 x3 x5 = some (r, S') → Zj p l e rm2_staleAnswers s m args below meth c D cA σ shC 6 (some (.long r)) S' 5 [(0, .ref (σ 8)), (1, .int x1), (2, .int x2), (3, .long x3), (5, .int x5)] [] S := by
  intro n
  induction n with
  | zero =>
    intro S x1 x2 x3 x5 h
    rw [J2_staleAnswers_5] at h
    cases h
  | succ n ih =>
    intro S x1 x2 x3 x5 h
    rw [J2_staleAnswers_5] at h
    refine z_iload_n (pc := 5) X dX2_staleAnswers_5 rfl 1 rfl ?_
    refine z_iload (pc := 6) X dX2_staleAnswers_6 4 rfl ?_
    refine z_iadd (pc := 8) X dX2_staleAnswers_8 ?_
    refine z_bipush (pc := 9) (v := 7) X dX2_staleAnswers_9 (by decide) ?_
    refine z_icmp_ge (pc := 11) (tgt := 56) X dX2_staleAnswers_11 (by decide) h (fun h => ?_) (fun h => ?_)
    · refine z_lload_n (pc := 56) X dX2_staleAnswers_56 rfl 3 rfl ?_
      refine z_aload_n (pc := 57) X dX2_staleAnswers_57 rfl 0 rfl ?_
      refine z_get (pc := 58) (v := .ref (σ 5)) X 8 fX2_48 rfl rfl dX2_staleAnswers_58 rfl ?_
      refine z_iconst (pc := 61) (v := 1) X dX2_staleAnswers_61 (by decide) ?_
      refine z_callVl (pc := 62) (rm := rm0_sum) X 5 [.int _] vX2_62 rfl rfl rfl (Nat.le_of_ble_eq_true rfl) ⟨rfl, rfl, Nat.le_of_ble_eq_true rfl, Nat.le_of_ble_eq_true rfl⟩ dX2_staleAnswers_62 h (fun _ _ q => cc0_sum q) (fun r1 S1 h => ?_)
      refine z_lmul (pc := 65) X dX2_staleAnswers_65 ?_
      exact z_lret X rfl dX2_staleAnswers_66 h
    · refine z_lload_n (pc := 14) X dX2_staleAnswers_14 rfl 3 rfl ?_
      refine z_aload_n (pc := 15) X dX2_staleAnswers_15 rfl 0 rfl ?_
      refine z_get (pc := 16) (v := .ref (σ 5)) X 8 fX2_48 rfl rfl dX2_staleAnswers_16 rfl ?_
      refine z_iconst (pc := 19) (v := 2) X dX2_staleAnswers_19 (by decide) ?_
      refine z_iload (pc := 20) X dX2_staleAnswers_20 4 rfl ?_
      refine z_callVl (pc := 22) (rm := rm0_weight) X 5 [.int _, .int _] vX2_113 rfl rfl rfl (Nat.le_of_ble_eq_true rfl) ⟨rfl, rfl, Nat.le_of_ble_eq_true rfl, Nat.le_of_ble_eq_true rfl⟩ dX2_staleAnswers_22 h (fun _ _ q => cc0_weight q) (fun r2 S2 h => ?_)
      refine z_aload_n (pc := 25) X dX2_staleAnswers_25 rfl 0 rfl ?_
      refine z_get (pc := 26) (v := .ref (σ 5)) X 8 fX2_48 rfl rfl dX2_staleAnswers_26 rfl ?_
      refine z_iconst (pc := 29) (v := 3) X dX2_staleAnswers_29 (by decide) ?_
      refine z_iload_n (pc := 30) X dX2_staleAnswers_30 rfl 2 rfl ?_
      refine z_iload (pc := 31) X dX2_staleAnswers_31 4 rfl ?_
      refine z_isub (pc := 33) X dX2_staleAnswers_33 ?_
      refine z_callVl (pc := 34) (rm := rm0_weight) X 5 [.int _, .int _] vX2_113 rfl rfl rfl (Nat.le_of_ble_eq_true rfl) ⟨rfl, rfl, Nat.le_of_ble_eq_true rfl, Nat.le_of_ble_eq_true rfl⟩ dX2_staleAnswers_34 h (fun _ _ q => cc0_weight q) (fun r3 S3 h => ?_)
      refine z_lmul (pc := 37) X dX2_staleAnswers_37 ?_
      refine z_aload_n (pc := 38) X dX2_staleAnswers_38 rfl 0 rfl ?_
      refine z_get (pc := 39) (v := .ref (σ 11)) X 8 fX2_20 rfl rfl dX2_staleAnswers_39 rfl ?_
      refine z_iload_n (pc := 42) X dX2_staleAnswers_42 rfl 1 rfl ?_
      refine z_iload (pc := 43) X dX2_staleAnswers_43 4 rfl ?_
      refine z_iadd (pc := 45) X dX2_staleAnswers_45 ?_
      refine z_lald (pc := 46) X 11 rfl dX2_staleAnswers_46 h (fun h => ?_)
      refine z_lmul (pc := 47) X dX2_staleAnswers_47 ?_
      refine z_ladd (pc := 48) X dX2_staleAnswers_48 ?_
      refine z_lstore_n (pc := 49) (L' := [(3, .long _), (0, .ref _), (1, .int _), (2, .int _), (5, .int _)]) X dX2_staleAnswers_49 rfl (by decide) rfl ?_
      refine z_let h (fun h => ?_)
      refine z_iinc (pc := 50) (k := 4) (v := 1) (L' := [(5, .int _), (3, .long _), (0, .ref _), (1, .int _), (2, .int _)]) X dX2_staleAnswers_50 rfl (by decide) (by decide) rfl ?_
      refine z_let h (fun h => ?_)
      refine z_goto (pc := 53) (tgt := 5) X dX2_staleAnswers_53 (by decide) ?_
      exact z_sub [2, 3, 4, 1, 0] rfl (ih _ _ _ _ _ h)
set_option maxRecDepth 100000 in
set_option maxHeartbeats 4000000 in
theorem zz2_staleAnswers_0 {S' : St} {r : Int64} (X : zM p s m args meth c D cA σ shC tS RX2 cX2_staleAnswers 6 (some .long)) : ∀ (S : St) (x1 : Int32) (x2 : Int32), J2_staleAnswers S x1 x2 = some (r, S') → Zj p l e rm2_staleAnswers s m args below meth c D cA σ shC 6 (some (.long r)) S' 0 [(0, .ref (σ 8)), (1, .int x1), (2, .int x2)] [] S := by
  intro S x1 x2 h
  rw [J2_staleAnswers] at h
  refine z_lconst (pc := 0) (v := 0) X dX2_staleAnswers_0 (by decide) ?_
  refine z_lstore_n (pc := 1) (L' := [(3, .long _), (0, .ref _), (1, .int _), (2, .int _)]) X dX2_staleAnswers_1 rfl (by decide) rfl ?_
  refine z_iconst (pc := 2) (v := 0) X dX2_staleAnswers_2 (by decide) ?_
  refine z_istore (pc := 3) (L' := [(5, .int _), (3, .long _), (0, .ref _), (1, .int _), (2, .int _)]) X dX2_staleAnswers_3 (by decide) rfl ?_
  exact z_sub [2, 3, 4, 1, 0] rfl (zz2_staleAnswers_5 X  fu _ _ _ _ _ h)
theorem cc2_staleAnswers {l : Launch} {D : va_G} {cA : Nat → ClassId} {σ : Nat → Nat} {tS : Nat} {S S' : St} {x1 : Int32} {x2 : Int32} {r : Int64} (h : J2_staleAnswers S x1 x2 = some (r, S')) : zMet l D cA σ shC tS yX2_staleAnswers cX2_staleAnswers 6 (some .long) rm2_staleAnswers [.ref (σ 8), .int x1, .int x2] S (some (.long r)) S' := z_met [(0, .ref (σ 8)), (1, .int x1), (2, .int x2)] (by decide +kernel) (Nat.le_of_ble_eq_true rfl) rfl (fun _ _ _ _ _ _ _ _ X => zz2_staleAnswers_0 X _ _ _ h)
set_option maxRecDepth 100000 in
set_option maxHeartbeats 4000000 in
theorem zz2_staleReads_17 {S' : St} {r : Int64} (X : zM p s m args meth c D cA σ shC tS RX2 cX2_staleReads 9 (some .long)) (k5 : St → Int32 → Int32 → Int64 → Int32 → Option (Int64 × St)) (hk5 : ∀ (S : St) (x1 : Int32) (x2 : Int32) (x3 : Int64) (x5 : Int32), k5 S x1 x2 x3 x5 = some (r, S') → Zj p l e rm2_staleReads s m args below meth c D cA σ shC 9 (some (.long r)) S' 5 [(0, .ref (σ 8)), (1, .int x1), (2, .int x2), (3, .long x3), (5, .int x5)] [] S) : ∀ (n : Nat) (S : St) (x1 : Int32) (x2 : Int32) (x3 : Int64) (x5 : Int32) (x6 : Int64) (x8 : Int32), J2_staleReads_17 k5 n S x1 x2 x3 x5 x6 x8 = some (r, S') → Zj p l e rm2_staleReads s m args below meth c D cA σ shC 9 (some (.long r)) S' 17 [(0, .ref (σ 8)), (1, .int x1), (2, .int x2), (3, .long x3), (5, .int x5), (6, .long x6), (8, .int x8)] [] S := by
  intro n
  induction n with
  | zero =>
    intro S x1 x2 x3 x5 x6 x8 h
    rw [J2_staleReads_17] at h
    cases h
  | succ n ih =>
    intro S x1 x2 x3 x5 x6 x8 h
    rw [J2_staleReads_17] at h
    refine z_iload (pc := 17) X dX2_staleReads_17 6 rfl ?_
    refine z_iload_n (pc := 19) X dX2_staleReads_19 rfl 1 rfl ?_
    refine z_iload_n (pc := 20) X dX2_staleReads_20 rfl 2 rfl ?_
    refine z_isub (pc := 21) X dX2_staleReads_21 ?_
    refine z_icmp_gt (pc := 22) (tgt := 70) X dX2_staleReads_22 (by decide) h (fun h => ?_) (fun h => ?_)
    · refine z_lload_n (pc := 70) X dX2_staleReads_70 rfl 3 rfl ?_
      refine z_iload_n (pc := 71) X dX2_staleReads_71 rfl 1 rfl ?_
      refine z_iload (pc := 72) X dX2_staleReads_72 4 rfl ?_
      refine z_callSl (pc := 74) (rm := rm2_picks) X [.int _, .int _] sX2_116 rfl rfl (Nat.le_of_ble_eq_true rfl) ⟨rfl, rfl, Nat.le_of_ble_eq_true rfl, Nat.le_of_ble_eq_true rfl⟩ dX2_staleReads_74 h (fun _ _ q => cc2_picks q) (fun r1 S1 h => ?_)
      refine z_aload_n (pc := 77) X dX2_staleReads_77 rfl 0 rfl ?_
      refine z_get (pc := 78) (v := .ref (σ 13)) X 8 fX2_26 rfl rfl dX2_staleReads_78 rfl ?_
      refine z_iload (pc := 81) X dX2_staleReads_81 4 rfl ?_
      refine z_lald (pc := 83) X 13 rfl dX2_staleReads_83 h (fun h => ?_)
      refine z_lmul (pc := 84) X dX2_staleReads_84 ?_
      refine z_aload_n (pc := 85) X dX2_staleReads_85 rfl 0 rfl ?_
      refine z_get (pc := 86) (v := .ref (σ 14)) X 8 fX2_29 rfl rfl dX2_staleReads_86 rfl ?_
      refine z_iload_n (pc := 89) X dX2_staleReads_89 rfl 2 rfl ?_
      refine z_iload (pc := 90) X dX2_staleReads_90 4 rfl ?_
      refine z_isub (pc := 92) X dX2_staleReads_92 ?_
      refine z_lald (pc := 93) X 14 rfl dX2_staleReads_93 h (fun h => ?_)
      refine z_lmul (pc := 94) X dX2_staleReads_94 ?_
      refine z_lload (pc := 95) X dX2_staleReads_95 5 rfl ?_
      refine z_lmul (pc := 97) X dX2_staleReads_97 ?_
      refine z_ladd (pc := 98) X dX2_staleReads_98 ?_
      refine z_lstore_n (pc := 99) (L' := [(3, .long _), (0, .ref _), (1, .int _), (2, .int _), (5, .int _), (6, .long _), (8, .int _)]) X dX2_staleReads_99 rfl (by decide) rfl ?_
      refine z_let h (fun h => ?_)
      refine z_iinc (pc := 100) (k := 4) (v := 1) (L' := [(5, .int _), (3, .long _), (0, .ref _), (1, .int _), (2, .int _), (6, .long _), (8, .int _)]) X dX2_staleReads_100 rfl (by decide) (by decide) rfl ?_
      refine z_let h (fun h => ?_)
      refine z_goto (pc := 103) (tgt := 5) X dX2_staleReads_103 (by decide) ?_
      exact z_sub [2, 3, 4, 1, 0] rfl (hk5 _ _ _ _ _ h)
    · refine z_lload (pc := 25) X dX2_staleReads_25 5 rfl ?_
      refine z_iload_n (pc := 27) X dX2_staleReads_27 rfl 1 rfl ?_
      refine z_iload (pc := 28) X dX2_staleReads_28 4 rfl ?_
      refine z_isub (pc := 30) X dX2_staleReads_30 ?_
      refine z_iload_n (pc := 31) X dX2_staleReads_31 rfl 2 rfl ?_
      refine z_iload (pc := 32) X dX2_staleReads_32 4 rfl ?_
      refine z_isub (pc := 34) X dX2_staleReads_34 ?_
      refine z_iload (pc := 35) X dX2_staleReads_35 6 rfl ?_
      refine z_iadd (pc := 37) X dX2_staleReads_37 ?_
      refine z_callSl (pc := 38) (rm := rm2_picks) X [.int _, .int _] sX2_116 rfl rfl (Nat.le_of_ble_eq_true rfl) ⟨rfl, rfl, Nat.le_of_ble_eq_true rfl, Nat.le_of_ble_eq_true rfl⟩ dX2_staleReads_38 h (fun _ _ q => cc2_picks q) (fun r4 S4 h => ?_)
      refine z_aload_n (pc := 41) X dX2_staleReads_41 rfl 0 rfl ?_
      refine z_get (pc := 42) (v := .ref (σ 15)) X 8 fX2_32 rfl rfl dX2_staleReads_42 rfl ?_
      refine z_iload (pc := 45) X dX2_staleReads_45 6 rfl ?_
      refine z_lald (pc := 47) X 15 rfl dX2_staleReads_47 h (fun h => ?_)
      refine z_lmul (pc := 48) X dX2_staleReads_48 ?_
      refine z_aload_n (pc := 49) X dX2_staleReads_49 rfl 0 rfl ?_
      refine z_get (pc := 50) (v := .ref (σ 16)) X 8 fX2_35 rfl rfl dX2_staleReads_50 rfl ?_
      refine z_iload_n (pc := 53) X dX2_staleReads_53 rfl 1 rfl ?_
      refine z_iload_n (pc := 54) X dX2_staleReads_54 rfl 2 rfl ?_
      refine z_isub (pc := 55) X dX2_staleReads_55 ?_
      refine z_iload (pc := 56) X dX2_staleReads_56 6 rfl ?_
      refine z_isub (pc := 58) X dX2_staleReads_58 ?_
      refine z_lald (pc := 59) X 16 rfl dX2_staleReads_59 h (fun h => ?_)
      refine z_lmul (pc := 60) X dX2_staleReads_60 ?_
      refine z_ladd (pc := 61) X dX2_staleReads_61 ?_
      refine z_lstore (pc := 62) (L' := [(6, .long _), (0, .ref _), (1, .int _), (2, .int _), (3, .long _), (5, .int _), (8, .int _)]) X dX2_staleReads_62 (by decide) rfl ?_
      refine z_let h (fun h => ?_)
      refine z_iinc (pc := 64) (k := 6) (v := 1) (L' := [(8, .int _), (6, .long _), (0, .ref _), (1, .int _), (2, .int _), (3, .long _), (5, .int _)]) X dX2_staleReads_64 rfl (by decide) (by decide) rfl ?_
      refine z_let h (fun h => ?_)
      refine z_goto (pc := 67) (tgt := 17) X dX2_staleReads_67 (by decide) ?_
      exact z_sub [2, 3, 4, 5, 6, 1, 0] rfl (ih _ _ _ _ _ _ _ h)
set_option maxRecDepth 100000 in
set_option maxHeartbeats 4000000 in
theorem zz2_staleReads_5 {S' : St} {r : Int64} (X : zM p s m args meth c D cA σ shC tS RX2 cX2_staleReads 9 (some .long)) : ∀ (n : Nat) (S : St) (x1 : Int32) (x2 : Int32) (x3 : Int64) (x5 : Int32), J2_staleReads_5 n S x1 x2 x3 x5 = some (r, S') → Zj p l e rm2_staleReads s m args below meth c D cA σ shC 9 (some (.long r)) S' 5 [(0, .ref (σ 8)), (1, .int x1), (2, .int x2), (3, .long x3), (5, .int x5)] [] S := by
  intro n
  induction n with
  | zero =>
    intro S x1 x2 x3 x5 h
    rw [J2_staleReads_5] at h
    cases h
  | succ n ih =>
    intro S x1 x2 x3 x5 h
    rw [J2_staleReads_5] at h
    refine z_iload (pc := 5) X dX2_staleReads_5 4 rfl ?_
    refine z_iload_n (pc := 7) X dX2_staleReads_7 rfl 2 rfl ?_
    refine z_icmp_ge (pc := 8) (tgt := 106) X dX2_staleReads_8 (by decide) h (fun h => ?_) (fun h => ?_)
    · refine z_lload_n (pc := 106) X dX2_staleReads_106 rfl 3 rfl ?_
      exact z_lret X rfl dX2_staleReads_107 h
    · refine z_lconst (pc := 11) (v := 0) X dX2_staleReads_11 (by decide) ?_
      refine z_lstore (pc := 12) (L' := [(6, .long _), (0, .ref _), (1, .int _), (2, .int _), (3, .long _), (5, .int _)]) X dX2_staleReads_12 (by decide) rfl ?_
      refine z_iconst (pc := 14) (v := 0) X dX2_staleReads_14 (by decide) ?_
      refine z_istore (pc := 15) (L' := [(8, .int _), (6, .long _), (0, .ref _), (1, .int _), (2, .int _), (3, .long _), (5, .int _)]) X dX2_staleReads_15 (by decide) rfl ?_
      exact z_sub [2, 3, 4, 5, 6, 1, 0] rfl (zz2_staleReads_17 X _ ih fu _ _ _ _ _ _ _ h)
set_option maxRecDepth 100000 in
set_option maxHeartbeats 4000000 in
theorem zz2_staleReads_0 {S' : St} {r : Int64} (X : zM p s m args meth c D cA σ shC tS RX2 cX2_staleReads 9 (some .long)) : ∀ (S : St) (x1 : Int32) (x2 : Int32), J2_staleReads S x1 x2 = some (r, S') → Zj p l e rm2_staleReads s m args below meth c D cA σ shC 9 (some (.long r)) S' 0 [(0, .ref (σ 8)), (1, .int x1), (2, .int x2)] [] S := by
  intro S x1 x2 h
  rw [J2_staleReads] at h
  refine z_lconst (pc := 0) (v := 0) X dX2_staleReads_0 (by decide) ?_
  refine z_lstore_n (pc := 1) (L' := [(3, .long _), (0, .ref _), (1, .int _), (2, .int _)]) X dX2_staleReads_1 rfl (by decide) rfl ?_
  refine z_iconst (pc := 2) (v := 0) X dX2_staleReads_2 (by decide) ?_
  refine z_istore (pc := 3) (L' := [(5, .int _), (3, .long _), (0, .ref _), (1, .int _), (2, .int _)]) X dX2_staleReads_3 (by decide) rfl ?_
  exact z_sub [2, 3, 4, 1, 0] rfl (zz2_staleReads_5 X  fu _ _ _ _ _ h)
theorem cc2_staleReads {l : Launch} {D : va_G} {cA : Nat → ClassId} {σ : Nat → Nat} {tS : Nat} {S S' : St} {x1 : Int32} {x2 : Int32} {r : Int64} (h : J2_staleReads S x1 x2 = some (r, S')) : zMet l D cA σ shC tS yX2_staleReads cX2_staleReads 9 (some .long) rm2_staleReads [.ref (σ 8), .int x1, .int x2] S (some (.long r)) S' := z_met [(0, .ref (σ 8)), (1, .int x1), (2, .int x2)] (by decide +kernel) (Nat.le_of_ble_eq_true rfl) rfl (fun _ _ _ _ _ _ _ _ X => zz2_staleReads_0 X _ _ _ h)
set_option maxRecDepth 100000 in
set_option maxHeartbeats 4000000 in
theorem zz2_prepareEnd_162 {S' : St} (X : zM p s m args meth c D cA σ shC tS RX2 cX2_prepareEnd 11 none) (k51 : St → Int32 → Int32 → Int64 → Int64 → Int32 → Option (Unit × St)) (hk51 : ∀ (S : St) (x1 : Int32) (x2 : Int32) (x3 : Int64) (x5 : Int64) (x7 : Int32), k51 S x1 x2 x3 x5 x7 = some ((), S') → Zj p l e rm2_prepareEnd s m args below meth c D cA σ shC 11 none S' 51 [(0, .ref (σ 8)), (1, .int x1), (2, .int x2), (3, .long x3), (5, .long x5), (7, .int x7)] [] S) : ∀ (S : St) (x1 : Int32) (x2 : Int32) (x3 : Int64) (x5 : Int64) (x7 : Int32) (x8 : Int64), J2_prepareEnd_162 k51 S x1 x2 x3 x5 x7 x8 = some ((), S') → Zj p l e rm2_prepareEnd s m args below meth c D cA σ shC 11 none S' 162 [(0, .ref (σ 8)), (1, .int x1), (2, .int x2), (3, .long x3), (5, .long x5), (7, .int x7), (8, .long x8)] [] S := by
  intro S x1 x2 x3 x5 x7 x8 h
  rw [J2_prepareEnd_162] at h
  refine z_lload_n (pc := 162) X dX2_prepareEnd_162 rfl 3 rfl ?_
  refine z_lload (pc := 163) X dX2_prepareEnd_163 6 rfl ?_
  refine z_ladd (pc := 165) X dX2_prepareEnd_165 ?_
  refine z_lstore_n (pc := 166) (L' := [(3, .long _), (0, .ref _), (1, .int _), (2, .int _), (5, .long _), (7, .int _), (8, .long _)]) X dX2_prepareEnd_166 rfl (by decide) rfl ?_
  refine z_let h (fun h => ?_)
  refine z_iinc (pc := 167) (k := 5) (v := 1) (L' := [(7, .int _), (3, .long _), (0, .ref _), (1, .int _), (2, .int _), (5, .long _), (8, .long _)]) X dX2_prepareEnd_167 rfl (by decide) (by decide) rfl ?_
  refine z_let h (fun h => ?_)
  refine z_goto (pc := 170) (tgt := 51) X dX2_prepareEnd_170 (by decide) ?_
  exact z_sub [2, 3, 4, 1, 5, 0] rfl (hk51 _ _ _ _ _ _ h)
set_option maxRecDepth 100000 in
set_option maxHeartbeats 4000000 in
theorem zz2_prepareEnd_129 {S' : St} (X : zM p s m args meth c D cA σ shC tS RX2 cX2_prepareEnd 11 none) (k51 : St → Int32 → Int32 → Int64 → Int64 → Int32 → Option (Unit × St)) (hk51 : ∀ (S : St) (x1 : Int32) (x2 : Int32) (x3 : Int64) (x5 : Int64) (x7 : Int32), k51 S x1 x2 x3 x5 x7 = some ((), S') → Zj p l e rm2_prepareEnd s m args below meth c D cA σ shC 11 none S' 51 [(0, .ref (σ 8)), (1, .int x1), (2, .int x2), (3, .long x3), (5, .long x5), (7, .int x7)] [] S) : ∀ (n : Nat) (S : St) (x1 : Int32) (x2 : Int32) (x3 : Int64) (x5 : Int64) (x7 : Int32) (x8 : Int64) (x10 : Int32), J2_prepareEnd_129 k51 n S x1 x2 x3 x5 x7 x8 x10 = some ((), S') → Zj p l e rm2_prepareEnd s m args below meth c D cA σ shC 11 none S' 129 [(0, .ref (σ 8)), (1, .int x1), (2, .int x2), (3, .long x3), (5, .long x5), (7, .int x7), (8, .long x8), (10, .int x10)] [] S := by
  intro n
  induction n with
  | zero =>
    intro S x1 x2 x3 x5 x7 x8 x10 h
    rw [J2_prepareEnd_129] at h
    cases h
  | succ n ih =>
    intro S x1 x2 x3 x5 x7 x8 x10 h
    rw [J2_prepareEnd_129] at h
    refine z_iload (pc := 129) X dX2_prepareEnd_129 7 rfl ?_
    refine z_iload_n (pc := 131) X dX2_prepareEnd_131 rfl 2 rfl ?_
    refine z_icmp_ge (pc := 132) (tgt := 162) X dX2_prepareEnd_132 (by decide) h (fun h => ?_) (fun h => ?_)
    · exact z_sub [0, 1, 2, 3, 4, 5, 6] rfl (zz2_prepareEnd_162 X _ hk51 _ _ _ _ _ _ _ h)
    · refine z_aload_n (pc := 135) X dX2_prepareEnd_135 rfl 0 rfl ?_
      refine z_get (pc := 136) (v := .ref (σ 12)) X 8 fX2_23 rfl rfl dX2_prepareEnd_136 rfl ?_
      refine z_iload_n (pc := 139) X dX2_prepareEnd_139 rfl 1 rfl ?_
      refine z_iload (pc := 140) X dX2_prepareEnd_140 7 rfl ?_
      refine z_callSi (pc := 142) (rm := rm2_place) X [.int _, .int _] sX2_98 rfl rfl (Nat.le_of_ble_eq_true rfl) ⟨rfl, rfl, Nat.le_of_ble_eq_true rfl, Nat.le_of_ble_eq_true rfl⟩ dX2_prepareEnd_142 h (fun _ _ q => cc2_place q) (fun r1 S1 h => ?_)
      refine z_dup2_11 (pc := 145) X dX2_prepareEnd_145 rfl rfl ?_
      refine z_lald (pc := 146) X 12 rfl dX2_prepareEnd_146 h (fun h => ?_)
      refine z_aload_n (pc := 147) X dX2_prepareEnd_147 rfl 0 rfl ?_
      refine z_iload_n (pc := 148) X dX2_prepareEnd_148 rfl 2 rfl ?_
      refine z_iload (pc := 149) X dX2_prepareEnd_149 7 rfl ?_
      refine z_callVl (pc := 151) (rm := rm2_staleReads) X 8 [.int _, .int _] vX2_110 rfl rfl rfl (Nat.le_of_ble_eq_true rfl) ⟨rfl, rfl, Nat.le_of_ble_eq_true rfl, Nat.le_of_ble_eq_true rfl⟩ dX2_prepareEnd_151 h (fun _ _ q => cc2_staleReads q) (fun r2 S2 h => ?_)
      refine z_ladd (pc := 154) X dX2_prepareEnd_154 ?_
      refine z_last (pc := 155) X 12 rfl dX2_prepareEnd_155 h (fun h => ?_)
      refine z_let h (fun h => ?_)
      refine z_iinc (pc := 156) (k := 7) (v := 1) (L' := [(10, .int _), (0, .ref _), (1, .int _), (2, .int _), (3, .long _), (5, .long _), (7, .int _), (8, .long _)]) X dX2_prepareEnd_156 rfl (by decide) (by decide) rfl ?_
      refine z_let h (fun h => ?_)
      refine z_goto (pc := 159) (tgt := 129) X dX2_prepareEnd_159 (by decide) ?_
      exact z_sub [1, 2, 3, 4, 5, 6, 7, 0] rfl (ih _ _ _ _ _ _ _ _ h)
set_option maxRecDepth 100000 in
set_option maxHeartbeats 4000000 in
theorem zz2_prepareEnd_51 {S' : St} (X : zM p s m args meth c D cA σ shC tS RX2 cX2_prepareEnd 11 none) : ∀ (n : Nat) (S : St) (x1 : Int32) (x2 : Int32) (x3 : Int64) (x5 : Int64) (x7 : Int32), J2_prepareEnd_51 n S x1 x2 x3 x5 x7 = some ((), S') → Zj p l e rm2_prepareEnd s m args below meth c D cA σ shC 11 none S' 51 [(0, .ref (σ 8)), (1, .int x1), (2, .int x2), (3, .long x3), (5, .long x5), (7, .int x7)] [] S := by
  intro n
  induction n with
  | zero =>
    intro S x1 x2 x3 x5 x7 h
    rw [J2_prepareEnd_51] at h
    cases h
  | succ n ih =>
    intro S x1 x2 x3 x5 x7 h
    rw [J2_prepareEnd_51] at h
    refine z_iload (pc := 51) X dX2_prepareEnd_51 5 rfl ?_
    refine z_bipush (pc := 53) (v := 15) X dX2_prepareEnd_53 (by decide) ?_
    refine z_icmp_ge (pc := 55) (tgt := 173) X dX2_prepareEnd_55 (by decide) h (fun h => ?_) (fun h => ?_)
    · exact z_vret X rfl dX2_prepareEnd_173 h
    · refine z_aload_n (pc := 58) X dX2_prepareEnd_58 rfl 0 rfl ?_
      refine z_iload_n (pc := 59) X dX2_prepareEnd_59 rfl 1 rfl ?_
      refine z_iload (pc := 60) X dX2_prepareEnd_60 5 rfl ?_
      refine z_callVl (pc := 62) (rm := rm2_staleAnswers) X 8 [.int _, .int _] vX2_102 rfl rfl rfl (Nat.le_of_ble_eq_true rfl) ⟨rfl, rfl, Nat.le_of_ble_eq_true rfl, Nat.le_of_ble_eq_true rfl⟩ dX2_prepareEnd_62 h (fun _ _ q => cc2_staleAnswers q) (fun r1 S1 h => ?_)
      refine z_lstore (pc := 65) (L' := [(8, .long _), (0, .ref _), (1, .int _), (2, .int _), (3, .long _), (5, .long _), (7, .int _)]) X dX2_prepareEnd_65 (by decide) rfl ?_
      refine z_lload (pc := 67) X dX2_prepareEnd_67 5 rfl ?_
      refine z_aload_n (pc := 69) X dX2_prepareEnd_69 rfl 1 rfl ?_
      refine z_get (pc := 70) (v := .ref (σ 10)) X 8 fX2_17 rfl rfl dX2_prepareEnd_70 rfl ?_
      refine z_iload (pc := 73) X dX2_prepareEnd_73 6 rfl ?_
      refine z_lald (pc := 75) X 10 rfl dX2_prepareEnd_75 h (fun h => ?_)
      refine z_lsub (pc := 76) X dX2_prepareEnd_76 ?_
      refine z_lstore (pc := 77) (L' := [(5, .long _), (8, .long _), (0, .ref _), (1, .int _), (2, .int _), (3, .long _), (7, .int _)]) X dX2_prepareEnd_77 (by decide) rfl ?_
      refine z_let h (fun h => ?_)
      refine z_lload (pc := 79) X dX2_prepareEnd_79 1 rfl ?_
      refine z_lconst (pc := 81) (v := 0) X dX2_prepareEnd_81 (by decide) ?_
      refine z_lcmp (pc := 82) X dX2_prepareEnd_82 ?_
      refine z_if_eq (pc := 83) (tgt := 162) X dX2_prepareEnd_83 (by decide) h (fun h => ?_) (fun h => ?_)
      · exact z_sub [2, 3, 4, 5, 0, 6, 1] rfl (zz2_prepareEnd_162 X _ ih _ _ _ _ _ _ _ h)
      · refine z_lload_n (pc := 86) X dX2_prepareEnd_86 rfl 5 rfl ?_
        refine z_aload_n (pc := 87) X dX2_prepareEnd_87 rfl 2 rfl ?_
        refine z_get (pc := 88) (v := .ref (σ 13)) X 8 fX2_26 rfl rfl dX2_prepareEnd_88 rfl ?_
        refine z_callSv (pc := 91) (rm := rm2_fillPowers) X [.long _, .ref (σ 13)] sX2_106 rfl rfl (Nat.le_of_ble_eq_true rfl) ⟨rfl, rfl, Nat.le_of_ble_eq_true rfl, Nat.le_of_ble_eq_true rfl⟩ dX2_prepareEnd_91 h (fun _ _ q => cc2_fillPowers_c13 q) (fun _ S3 h => ?_)
        refine z_lload (pc := 94) X dX2_prepareEnd_94 1 rfl ?_
        refine z_aload_n (pc := 96) X dX2_prepareEnd_96 rfl 2 rfl ?_
        refine z_get (pc := 97) (v := .ref (σ 14)) X 8 fX2_29 rfl rfl dX2_prepareEnd_97 rfl ?_
        refine z_callSv (pc := 100) (rm := rm2_fillPowers) X [.long _, .ref (σ 14)] sX2_106 rfl rfl (Nat.le_of_ble_eq_true rfl) ⟨rfl, rfl, Nat.le_of_ble_eq_true rfl, Nat.le_of_ble_eq_true rfl⟩ dX2_prepareEnd_100 h (fun _ _ q => cc2_fillPowers_c14 q) (fun _ S4 h => ?_)
        refine z_aload_n (pc := 103) X dX2_prepareEnd_103 rfl 2 rfl ?_
        refine z_get (pc := 104) (v := .ref (σ 10)) X 8 fX2_17 rfl rfl dX2_prepareEnd_104 rfl ?_
        refine z_iload (pc := 107) X dX2_prepareEnd_107 6 rfl ?_
        refine z_lald (pc := 109) X 10 rfl dX2_prepareEnd_109 h (fun h => ?_)
        refine z_aload_n (pc := 110) X dX2_prepareEnd_110 rfl 2 rfl ?_
        refine z_get (pc := 111) (v := .ref (σ 15)) X 8 fX2_32 rfl rfl dX2_prepareEnd_111 rfl ?_
        refine z_callSv (pc := 114) (rm := rm2_fillPowers) X [.long _, .ref (σ 15)] sX2_106 rfl rfl (Nat.le_of_ble_eq_true rfl) ⟨rfl, rfl, Nat.le_of_ble_eq_true rfl, Nat.le_of_ble_eq_true rfl⟩ dX2_prepareEnd_114 h (fun _ _ q => cc2_fillPowers_c15 q) (fun _ S5 h => ?_)
        refine z_lload (pc := 117) X dX2_prepareEnd_117 0 rfl ?_
        refine z_aload_n (pc := 119) X dX2_prepareEnd_119 rfl 2 rfl ?_
        refine z_get (pc := 120) (v := .ref (σ 16)) X 8 fX2_35 rfl rfl dX2_prepareEnd_120 rfl ?_
        refine z_callSv (pc := 123) (rm := rm2_fillPowers) X [.long _, .ref (σ 16)] sX2_106 rfl rfl (Nat.le_of_ble_eq_true rfl) ⟨rfl, rfl, Nat.le_of_ble_eq_true rfl, Nat.le_of_ble_eq_true rfl⟩ dX2_prepareEnd_123 h (fun _ _ q => cc2_fillPowers_c16 q) (fun _ S6 h => ?_)
        refine z_iconst (pc := 126) (v := 1) X dX2_prepareEnd_126 (by decide) ?_
        refine z_istore (pc := 127) (L' := [(10, .int _), (5, .long _), (8, .long _), (0, .ref _), (1, .int _), (2, .int _), (3, .long _), (7, .int _)]) X dX2_prepareEnd_127 (by decide) rfl ?_
        exact z_sub [3, 4, 5, 6, 1, 7, 2, 0] rfl (zz2_prepareEnd_129 X _ ih fu _ _ _ _ _ _ _ _ h)
set_option maxRecDepth 100000 in
set_option maxHeartbeats 4000000 in
theorem zz2_prepareEnd_24 {S' : St} (X : zM p s m args meth c D cA σ shC tS RX2 cX2_prepareEnd 11 none) : ∀ (n : Nat) (S : St) (x1 : Int32) (x2 : Int32) (x3 : Int64) (x5 : Int64) (x7 : Int32), J2_prepareEnd_24 n S x1 x2 x3 x5 x7 = some ((), S') → Zj p l e rm2_prepareEnd s m args below meth c D cA σ shC 11 none S' 24 [(0, .ref (σ 8)), (1, .int x1), (2, .int x2), (3, .long x3), (5, .long x5), (7, .int x7)] [] S := by
  intro n
  induction n with
  | zero =>
    intro S x1 x2 x3 x5 x7 h
    rw [J2_prepareEnd_24] at h
    cases h
  | succ n ih =>
    intro S x1 x2 x3 x5 x7 h
    rw [J2_prepareEnd_24] at h
    refine z_iload (pc := 24) X dX2_prepareEnd_24 5 rfl ?_
    refine z_iload_n (pc := 26) X dX2_prepareEnd_26 rfl 2 rfl ?_
    refine z_icmp_ge (pc := 27) (tgt := 48) X dX2_prepareEnd_27 (by decide) h (fun h => ?_) (fun h => ?_)
    · refine z_iconst (pc := 48) (v := 0) X dX2_prepareEnd_48 (by decide) ?_
      refine z_istore (pc := 49) (L' := [(7, .int _), (0, .ref _), (1, .int _), (2, .int _), (3, .long _), (5, .long _)]) X dX2_prepareEnd_49 (by decide) rfl ?_
      exact z_sub [1, 2, 3, 4, 5, 0] rfl (zz2_prepareEnd_51 X  fu _ _ _ _ _ _ h)
    · refine z_aload_n (pc := 30) X dX2_prepareEnd_30 rfl 0 rfl ?_
      refine z_get (pc := 31) (v := .ref (σ 12)) X 8 fX2_23 rfl rfl dX2_prepareEnd_31 rfl ?_
      refine z_iload_n (pc := 34) X dX2_prepareEnd_34 rfl 1 rfl ?_
      refine z_iload (pc := 35) X dX2_prepareEnd_35 5 rfl ?_
      refine z_callSi (pc := 37) (rm := rm2_place) X [.int _, .int _] sX2_98 rfl rfl (Nat.le_of_ble_eq_true rfl) ⟨rfl, rfl, Nat.le_of_ble_eq_true rfl, Nat.le_of_ble_eq_true rfl⟩ dX2_prepareEnd_37 h (fun _ _ q => cc2_place q) (fun r1 S1 h => ?_)
      refine z_lconst (pc := 40) (v := 0) X dX2_prepareEnd_40 (by decide) ?_
      refine z_last (pc := 41) X 12 rfl dX2_prepareEnd_41 h (fun h => ?_)
      refine z_let h (fun h => ?_)
      refine z_iinc (pc := 42) (k := 5) (v := 1) (L' := [(7, .int _), (0, .ref _), (1, .int _), (2, .int _), (3, .long _), (5, .long _)]) X dX2_prepareEnd_42 rfl (by decide) (by decide) rfl ?_
      refine z_let h (fun h => ?_)
      refine z_goto (pc := 45) (tgt := 24) X dX2_prepareEnd_45 (by decide) ?_
      exact z_sub [1, 2, 3, 4, 5, 0] rfl (ih _ _ _ _ _ _ h)
set_option maxRecDepth 100000 in
set_option maxHeartbeats 4000000 in
theorem zz2_prepareEnd_0 {S' : St} (X : zM p s m args meth c D cA σ shC tS RX2 cX2_prepareEnd 11 none) : ∀ (S : St) (x1 : Int32) (x2 : Int32), J2_prepareEnd S x1 x2 = some ((), S') → Zj p l e rm2_prepareEnd s m args below meth c D cA σ shC 11 none S' 0 [(0, .ref (σ 8)), (1, .int x1), (2, .int x2)] [] S := by
  intro S x1 x2 h
  rw [J2_prepareEnd] at h
  refine z_lconst (pc := 0) (v := 0) X dX2_prepareEnd_0 (by decide) ?_
  refine z_lstore_n (pc := 1) (L' := [(3, .long _), (0, .ref _), (1, .int _), (2, .int _)]) X dX2_prepareEnd_1 rfl (by decide) rfl ?_
  refine z_aload_n (pc := 2) X dX2_prepareEnd_2 rfl 1 rfl ?_
  refine z_get (pc := 3) (v := .ref (σ 5)) X 8 fX2_48 rfl rfl dX2_prepareEnd_3 rfl ?_
  refine z_iconst (pc := 6) (v := 2) X dX2_prepareEnd_6 (by decide) ?_
  refine z_callVl (pc := 7) (rm := rm0_sum) X 5 [.int _] vX2_62 rfl rfl rfl (Nat.le_of_ble_eq_true rfl) ⟨rfl, rfl, Nat.le_of_ble_eq_true rfl, Nat.le_of_ble_eq_true rfl⟩ dX2_prepareEnd_7 h (fun _ _ q => cc0_sum q) (fun r1 S1 h => ?_)
  refine z_aload_n (pc := 10) X dX2_prepareEnd_10 rfl 1 rfl ?_
  refine z_get (pc := 11) (v := .ref (σ 5)) X 8 fX2_48 rfl rfl dX2_prepareEnd_11 rfl ?_
  refine z_iconst (pc := 14) (v := 3) X dX2_prepareEnd_14 (by decide) ?_
  refine z_callVl (pc := 15) (rm := rm0_sum) X 5 [.int _] vX2_62 rfl rfl rfl (Nat.le_of_ble_eq_true rfl) ⟨rfl, rfl, Nat.le_of_ble_eq_true rfl, Nat.le_of_ble_eq_true rfl⟩ dX2_prepareEnd_15 h (fun _ _ q => cc0_sum q) (fun r2 S2 h => ?_)
  refine z_lmul (pc := 18) X dX2_prepareEnd_18 ?_
  refine z_lstore (pc := 19) (L' := [(5, .long _), (3, .long _), (0, .ref _), (1, .int _), (2, .int _)]) X dX2_prepareEnd_19 (by decide) rfl ?_
  refine z_let h (fun h => ?_)
  refine z_iconst (pc := 21) (v := 1) X dX2_prepareEnd_21 (by decide) ?_
  refine z_istore (pc := 22) (L' := [(7, .int _), (5, .long _), (3, .long _), (0, .ref _), (1, .int _), (2, .int _)]) X dX2_prepareEnd_22 (by decide) rfl ?_
  exact z_sub [3, 4, 5, 2, 1, 0] rfl (zz2_prepareEnd_24 X  fu _ _ _ _ _ _ h)
theorem cc2_prepareEnd {l : Launch} {D : va_G} {cA : Nat → ClassId} {σ : Nat → Nat} {tS : Nat} {S S' : St} {x1 : Int32} {x2 : Int32} (h : J2_prepareEnd S x1 x2 = some ((), S')) : zMet l D cA σ shC tS yX2_prepareEnd cX2_prepareEnd 11 none rm2_prepareEnd [.ref (σ 8), .int x1, .int x2] S none S' := z_met [(0, .ref (σ 8)), (1, .int x1), (2, .int x2)] (by decide +kernel) (Nat.le_of_ble_eq_true rfl) rfl (fun _ _ _ _ _ _ _ _ X => zz2_prepareEnd_0 X _ _ _ h)
set_option maxRecDepth 100000 in
set_option maxHeartbeats 4000000 in
theorem zz2_prepare_43 {S' : St} (X : zM p s m args meth c D cA σ shC tS RX2 cX2_prepare 4 none) (k28 : St → Int32 → Int32 → Option (Unit × St)) (hk28 : ∀ (S : St) (x1 : Int32) (x2 : Int32), k28 S x1 x2 = some ((), S') → Zj p l e rm2_prepare s m args below meth c D cA σ shC 4 none S' 28 [(0, .ref (σ 8)), (1, .int x1), (2, .int x2)] [] S) : ∀ (n : Nat) (S : St) (x1 : Int32) (x2 : Int32) (x3 : Int32), J2_prepare_43 k28 n S x1 x2 x3 = some ((), S') → Zj p l e rm2_prepare s m args below meth c D cA σ shC 4 none S' 43 [(0, .ref (σ 8)), (1, .int x1), (2, .int x2), (3, .int x3)] [] S := by
  intro n
  induction n with
  | zero =>
    intro S x1 x2 x3 h
    rw [J2_prepare_43] at h
    cases h
  | succ n ih =>
    intro S x1 x2 x3 h
    rw [J2_prepare_43] at h
    refine z_iload_n (pc := 43) X dX2_prepare_43 rfl 3 rfl ?_
    refine z_aload_n (pc := 44) X dX2_prepare_44 rfl 0 rfl ?_
    refine z_get (pc := 45) (v := .int _) X 8 fX2_42 rfl rfl dX2_prepare_45 rfl ?_
    refine z_icmp_gt (pc := 48) (tgt := 89) X dX2_prepare_48 (by decide) h (fun h => ?_) (fun h => ?_)
    · refine z_iinc (pc := 89) (k := 2) (v := 1) (L' := [(2, .int _), (0, .ref _), (1, .int _), (3, .int _)]) X dX2_prepare_89 rfl (by decide) (by decide) rfl ?_
      refine z_let h (fun h => ?_)
      refine z_goto (pc := 92) (tgt := 28) X dX2_prepare_92 (by decide) ?_
      exact z_sub [1, 2, 0] rfl (hk28 _ _ _ h)
    · refine z_aload_n (pc := 51) X dX2_prepare_51 rfl 0 rfl ?_
      refine z_get (pc := 52) (v := .ref (σ 11)) X 8 fX2_20 rfl rfl dX2_prepare_52 rfl ?_
      refine z_iload_n (pc := 55) X dX2_prepare_55 rfl 2 rfl ?_
      refine z_dup2_11 (pc := 56) X dX2_prepare_56 rfl rfl ?_
      refine z_lald (pc := 57) X 11 rfl dX2_prepare_57 h (fun h => ?_)
      refine z_aload_n (pc := 58) X dX2_prepare_58 rfl 0 rfl ?_
      refine z_get (pc := 59) (v := .ref (σ 5)) X 8 fX2_48 rfl rfl dX2_prepare_59 rfl ?_
      refine z_aload_n (pc := 62) X dX2_prepare_62 rfl 0 rfl ?_
      refine z_get (pc := 63) (v := .int _) X 8 fX2_38 rfl rfl dX2_prepare_63 rfl ?_
      refine z_iload_n (pc := 66) X dX2_prepare_66 rfl 2 rfl ?_
      refine z_iadd (pc := 67) X dX2_prepare_67 ?_
      refine z_iload_n (pc := 68) X dX2_prepare_68 rfl 3 rfl ?_
      refine z_aload_n (pc := 69) X dX2_prepare_69 rfl 0 rfl ?_
      refine z_get (pc := 70) (v := .ref (σ 5)) X 8 fX2_48 rfl rfl dX2_prepare_70 rfl ?_
      refine z_get (pc := 73) (v := .int _) X 5 fX2_88 rfl rfl dX2_prepare_73 rfl ?_
      refine z_imul (pc := 76) X dX2_prepare_76 ?_
      refine z_iadd (pc := 77) X dX2_prepare_77 ?_
      refine z_callVl (pc := 78) (rm := rm0_above) X 5 [.int _] vX2_91 rfl rfl rfl (Nat.le_of_ble_eq_true rfl) ⟨rfl, rfl, Nat.le_of_ble_eq_true rfl, Nat.le_of_ble_eq_true rfl⟩ dX2_prepare_78 h (fun _ _ q => cc0_above q) (fun r2 S2 h => ?_)
      refine z_lmul (pc := 81) X dX2_prepare_81 ?_
      refine z_last (pc := 82) X 11 rfl dX2_prepare_82 h (fun h => ?_)
      refine z_let h (fun h => ?_)
      refine z_iinc (pc := 83) (k := 3) (v := 1) (L' := [(3, .int _), (0, .ref _), (1, .int _), (2, .int _)]) X dX2_prepare_83 rfl (by decide) (by decide) rfl ?_
      refine z_let h (fun h => ?_)
      refine z_goto (pc := 86) (tgt := 43) X dX2_prepare_86 (by decide) ?_
      exact z_sub [1, 2, 3, 0] rfl (ih _ _ _ _ h)
set_option maxRecDepth 100000 in
set_option maxHeartbeats 4000000 in
theorem zz2_prepare_97 {S' : St} (X : zM p s m args meth c D cA σ shC tS RX2 cX2_prepare 4 none) : ∀ (n : Nat) (S : St) (x1 : Int32) (x2 : Int32), J2_prepare_97 n S x1 x2 = some ((), S') → Zj p l e rm2_prepare s m args below meth c D cA σ shC 4 none S' 97 [(0, .ref (σ 8)), (1, .int x1), (2, .int x2)] [] S := by
  intro n
  induction n with
  | zero =>
    intro S x1 x2 h
    rw [J2_prepare_97] at h
    cases h
  | succ n ih =>
    intro S x1 x2 h
    rw [J2_prepare_97] at h
    refine z_iload_n (pc := 97) X dX2_prepare_97 rfl 2 rfl ?_
    refine z_bipush (pc := 98) (v := 7) X dX2_prepare_98 (by decide) ?_
    refine z_icmp_ge (pc := 100) (tgt := 115) X dX2_prepare_100 (by decide) h (fun h => ?_) (fun h => ?_)
    · refine z_aload_n (pc := 115) X dX2_prepare_115 rfl 0 rfl ?_
      refine z_iload_n (pc := 116) X dX2_prepare_116 rfl 1 rfl ?_
      refine z_putI (pc := 117) X 8 gX2_45 rfl rfl dX2_prepare_117 ?_
      refine z_let h (fun h => ?_)
      exact z_vret X rfl dX2_prepare_120 h
    · refine z_aload_n (pc := 103) X dX2_prepare_103 rfl 0 rfl ?_
      refine z_iload_n (pc := 104) X dX2_prepare_104 rfl 2 rfl ?_
      refine z_iload_n (pc := 105) X dX2_prepare_105 rfl 1 rfl ?_
      refine z_callVv (pc := 106) (rm := rm2_prepareEnd) X 8 [.int _, .int _] vX2_94 rfl rfl rfl (Nat.le_of_ble_eq_true rfl) ⟨rfl, rfl, Nat.le_of_ble_eq_true rfl, Nat.le_of_ble_eq_true rfl⟩ dX2_prepare_106 h (fun _ _ q => cc2_prepareEnd q) (fun _ S2 h => ?_)
      refine z_iinc (pc := 109) (k := 2) (v := 1) (L' := [(2, .int _), (0, .ref _), (1, .int _)]) X dX2_prepare_109 rfl (by decide) (by decide) rfl ?_
      refine z_let h (fun h => ?_)
      refine z_goto (pc := 112) (tgt := 97) X dX2_prepare_112 (by decide) ?_
      exact z_sub [1, 2, 0] rfl (ih _ _ _ h)
set_option maxRecDepth 100000 in
set_option maxHeartbeats 4000000 in
theorem zz2_prepare_28 {S' : St} (X : zM p s m args meth c D cA σ shC tS RX2 cX2_prepare 4 none) : ∀ (n : Nat) (S : St) (x1 : Int32) (x2 : Int32), J2_prepare_28 n S x1 x2 = some ((), S') → Zj p l e rm2_prepare s m args below meth c D cA σ shC 4 none S' 28 [(0, .ref (σ 8)), (1, .int x1), (2, .int x2)] [] S := by
  intro n
  induction n with
  | zero =>
    intro S x1 x2 h
    rw [J2_prepare_28] at h
    cases h
  | succ n ih =>
    intro S x1 x2 h
    rw [J2_prepare_28] at h
    refine z_iload_n (pc := 28) X dX2_prepare_28 rfl 2 rfl ?_
    refine z_bipush (pc := 29) (v := 7) X dX2_prepare_29 (by decide) ?_
    refine z_icmp_ge (pc := 31) (tgt := 95) X dX2_prepare_31 (by decide) h (fun h => ?_) (fun h => ?_)
    · refine z_iconst (pc := 95) (v := 0) X dX2_prepare_95 (by decide) ?_
      refine z_istore_n (pc := 96) (L' := [(2, .int _), (0, .ref _), (1, .int _)]) X dX2_prepare_96 rfl (by decide) rfl ?_
      exact z_sub [1, 2, 0] rfl (zz2_prepare_97 X  fu _ _ _ h)
    · refine z_aload_n (pc := 34) X dX2_prepare_34 rfl 0 rfl ?_
      refine z_get (pc := 35) (v := .ref (σ 11)) X 8 fX2_20 rfl rfl dX2_prepare_35 rfl ?_
      refine z_iload_n (pc := 38) X dX2_prepare_38 rfl 2 rfl ?_
      refine z_lconst (pc := 39) (v := 1) X dX2_prepare_39 (by decide) ?_
      refine z_last (pc := 40) X 11 rfl dX2_prepare_40 h (fun h => ?_)
      refine z_let h (fun h => ?_)
      refine z_iconst (pc := 41) (v := 0) X dX2_prepare_41 (by decide) ?_
      refine z_istore_n (pc := 42) (L' := [(3, .int _), (0, .ref _), (1, .int _), (2, .int _)]) X dX2_prepare_42 rfl (by decide) rfl ?_
      exact z_sub [1, 2, 3, 0] rfl (zz2_prepare_43 X _ ih fu _ _ _ _ h)
set_option maxRecDepth 100000 in
set_option maxHeartbeats 4000000 in
theorem zz2_prepare_0 {S' : St} (X : zM p s m args meth c D cA σ shC tS RX2 cX2_prepare 4 none) : ∀ (S : St) (x1 : Int32), J2_prepare S x1 = some ((), S') → Zj p l e rm2_prepare s m args below meth c D cA σ shC 4 none S' 0 [(0, .ref (σ 8)), (1, .int x1)] [] S := by
  intro S x1 h
  rw [J2_prepare] at h
  refine z_aload_n (pc := 0) X dX2_prepare_0 rfl 0 rfl ?_
  refine z_get (pc := 1) (v := .ref (σ 5)) X 8 fX2_48 rfl rfl dX2_prepare_1 rfl ?_
  refine z_iconst (pc := 4) (v := 0) X dX2_prepare_4 (by decide) ?_
  refine z_iconst (pc := 5) (v := 1) X dX2_prepare_5 (by decide) ?_
  refine z_aload_n (pc := 6) X dX2_prepare_6 rfl 0 rfl ?_
  refine z_get (pc := 7) (v := .ref (σ 9)) X 8 fX2_11 rfl rfl dX2_prepare_7 rfl ?_
  refine z_callVv (pc := 10) (rm := rm0_spread) X 5 [.int _, .int _, .ref (σ 9)] vX2_58 rfl rfl rfl (Nat.le_of_ble_eq_true rfl) ⟨rfl, rfl, Nat.le_of_ble_eq_true rfl, Nat.le_of_ble_eq_true rfl⟩ dX2_prepare_10 h (fun _ _ q => cc0_spread_c9 q) (fun _ S1 h => ?_)
  refine z_aload_n (pc := 13) X dX2_prepare_13 rfl 0 rfl ?_
  refine z_get (pc := 14) (v := .ref (σ 5)) X 8 fX2_48 rfl rfl dX2_prepare_14 rfl ?_
  refine z_iconst (pc := 17) (v := 2) X dX2_prepare_17 (by decide) ?_
  refine z_iconst (pc := 18) (v := 3) X dX2_prepare_18 (by decide) ?_
  refine z_aload_n (pc := 19) X dX2_prepare_19 rfl 0 rfl ?_
  refine z_get (pc := 20) (v := .ref (σ 10)) X 8 fX2_17 rfl rfl dX2_prepare_20 rfl ?_
  refine z_callVv (pc := 23) (rm := rm0_spread) X 5 [.int _, .int _, .ref (σ 10)] vX2_58 rfl rfl rfl (Nat.le_of_ble_eq_true rfl) ⟨rfl, rfl, Nat.le_of_ble_eq_true rfl, Nat.le_of_ble_eq_true rfl⟩ dX2_prepare_23 h (fun _ _ q => cc0_spread_c10 q) (fun _ S2 h => ?_)
  refine z_iconst (pc := 26) (v := 0) X dX2_prepare_26 (by decide) ?_
  refine z_istore_n (pc := 27) (L' := [(2, .int _), (0, .ref _), (1, .int _)]) X dX2_prepare_27 rfl (by decide) rfl ?_
  exact z_sub [1, 2, 0] rfl (zz2_prepare_28 X  fu _ _ _ h)
theorem cc2_prepare {l : Launch} {D : va_G} {cA : Nat → ClassId} {σ : Nat → Nat} {tS : Nat} {S S' : St} {x1 : Int32} (h : J2_prepare S x1 = some ((), S')) : zMet l D cA σ shC tS yX2_prepare cX2_prepare 4 none rm2_prepare [.ref (σ 8), .int x1] S none S' := z_met [(0, .ref (σ 8)), (1, .int x1)] (by decide +kernel) (Nat.le_of_ble_eq_true rfl) rfl (fun _ _ _ _ _ _ _ _ X => zz2_prepare_0 X _ _ h)
set_option maxRecDepth 100000 in
set_option maxHeartbeats 4000000 in
theorem zz2_waysAbove_94 {S' : St} {r : Int64} (X : zM p s m args meth c D cA σ shC tS RX2 cX2_waysAbove 11 (some .long)) (k47 : St → Int32 → Int32 → Int32 → Int64 → Int64 → Int32 → Option (Int64 × St)) (hk47 : ∀ (S : St) (x1 : Int32) (x2 : Int32) (x3 : Int32) (x4 : Int64) (x6 : Int64) (x8 : Int32), k47 S x1 x2 x3 x4 x6 x8 = some (r, S') → Zj p l e rm2_waysAbove s m args below meth c D cA σ shC 11 (some (.long r)) S' 47 [(0, .ref (σ 8)), (1, .int x1), (2, .int x2), (3, .int x3), (4, .long x4), (6, .long x6), (8, .int x8)] [] S) : ∀ (S : St) (x1 : Int32) (x2 : Int32) (x3 : Int32) (x4 : Int64) (x6 : Int64) (x8 : Int32), J2_waysAbove_94 k47 S x1 x2 x3 x4 x6 x8 = some (r, S') → Zj p l e rm2_waysAbove s m args below meth c D cA σ shC 11 (some (.long r)) S' 94 [(0, .ref (σ 8)), (1, .int x1), (2, .int x2), (3, .int x3), (4, .long x4), (6, .long x6), (8, .int x8)] [] S := by
  intro S x1 x2 x3 x4 x6 x8 h
  rw [J2_waysAbove_94] at h
  refine z_iinc (pc := 94) (k := 6) (v := 1) (L' := [(8, .int _), (0, .ref _), (1, .int _), (2, .int _), (3, .int _), (4, .long _), (6, .long _)]) X dX2_waysAbove_94 rfl (by decide) (by decide) rfl ?_
  refine z_let h (fun h => ?_)
  refine z_goto (pc := 97) (tgt := 47) X dX2_waysAbove_97 (by decide) ?_
  exact z_sub [1, 2, 3, 4, 5, 6, 0] rfl (hk47 _ _ _ _ _ _ _ h)
set_option maxRecDepth 100000 in
set_option maxHeartbeats 4000000 in
theorem zz2_waysAbove_47 {S' : St} {r : Int64} (X : zM p s m args meth c D cA σ shC tS RX2 cX2_waysAbove 11 (some .long)) : ∀ (n : Nat) (S : St) (x1 : Int32) (x2 : Int32) (x3 : Int32) (x4 : Int64) (x6 : Int64) (x8 : Int32), J2_waysAbove_47 n S x1 x2 x3 x4 x6 x8 = some (r, S') → Zj p l e rm2_waysAbove s m args below meth c D cA σ shC 11 (some (.long r)) S' 47 [(0, .ref (σ 8)), (1, .int x1), (2, .int x2), (3, .int x3), (4, .long x4), (6, .long x6), (8, .int x8)] [] S := by
  intro n
  induction n with
  | zero =>
    intro S x1 x2 x3 x4 x6 x8 h
    rw [J2_waysAbove_47] at h
    cases h
  | succ n ih =>
    intro S x1 x2 x3 x4 x6 x8 h
    rw [J2_waysAbove_47] at h
    refine z_iload (pc := 47) X dX2_waysAbove_47 6 rfl ?_
    refine z_bipush (pc := 49) (v := 7) X dX2_waysAbove_49 (by decide) ?_
    refine z_icmp_ge (pc := 51) (tgt := 100) X dX2_waysAbove_51 (by decide) h (fun h => ?_) (fun h => ?_)
    · refine z_lload (pc := 100) X dX2_waysAbove_100 5 rfl ?_
      refine z_aload_n (pc := 102) X dX2_waysAbove_102 rfl 0 rfl ?_
      refine z_get (pc := 103) (v := .ref (σ 5)) X 8 fX2_48 rfl rfl dX2_waysAbove_103 rfl ?_
      refine z_iconst (pc := 106) (v := 0) X dX2_waysAbove_106 (by decide) ?_
      refine z_callVl (pc := 107) (rm := rm0_sum) X 5 [.int _] vX2_62 rfl rfl rfl (Nat.le_of_ble_eq_true rfl) ⟨rfl, rfl, Nat.le_of_ble_eq_true rfl, Nat.le_of_ble_eq_true rfl⟩ dX2_waysAbove_107 h (fun _ _ q => cc0_sum q) (fun r1 S1 h => ?_)
      refine z_aload_n (pc := 110) X dX2_waysAbove_110 rfl 0 rfl ?_
      refine z_get (pc := 111) (v := .int _) X 8 fX2_42 rfl rfl dX2_waysAbove_111 rfl ?_
      refine z_iload_n (pc := 114) X dX2_waysAbove_114 rfl 1 rfl ?_
      refine z_iload_n (pc := 115) X dX2_waysAbove_115 rfl 3 rfl ?_
      refine z_isub (pc := 116) X dX2_waysAbove_116 ?_
      refine z_imul (pc := 117) X dX2_waysAbove_117 ?_
      refine z_callSl (pc := 118) (rm := rm0_power) X [.long _, .int _] sX2_73 rfl rfl (Nat.le_of_ble_eq_true rfl) ⟨rfl, rfl, Nat.le_of_ble_eq_true rfl, Nat.le_of_ble_eq_true rfl⟩ dX2_waysAbove_118 h (fun _ _ q => cc0_power q) (fun r2 S2 h => ?_)
      refine z_lmul (pc := 121) X dX2_waysAbove_121 ?_
      exact z_lret X rfl dX2_waysAbove_122 h
    · refine z_aload_n (pc := 54) X dX2_waysAbove_54 rfl 0 rfl ?_
      refine z_get (pc := 55) (v := .ref (σ 12)) X 8 fX2_23 rfl rfl dX2_waysAbove_55 rfl ?_
      refine z_iload (pc := 58) X dX2_waysAbove_58 6 rfl ?_
      refine z_iload_n (pc := 60) X dX2_waysAbove_60 rfl 3 rfl ?_
      refine z_callSi (pc := 61) (rm := rm2_place) X [.int _, .int _] sX2_98 rfl rfl (Nat.le_of_ble_eq_true rfl) ⟨rfl, rfl, Nat.le_of_ble_eq_true rfl, Nat.le_of_ble_eq_true rfl⟩ dX2_waysAbove_61 h (fun _ _ q => cc2_place q) (fun r3 S3 h => ?_)
      refine z_lald (pc := 64) X 12 rfl dX2_waysAbove_64 h (fun h => ?_)
      refine z_lstore (pc := 65) (L' := [(9, .long _), (0, .ref _), (1, .int _), (2, .int _), (3, .int _), (4, .long _), (6, .long _), (8, .int _)]) X dX2_waysAbove_65 (by decide) rfl ?_
      refine z_let h (fun h => ?_)
      refine z_lload (pc := 67) X dX2_waysAbove_67 0 rfl ?_
      refine z_lconst (pc := 69) (v := 0) X dX2_waysAbove_69 (by decide) ?_
      refine z_lcmp (pc := 70) X dX2_waysAbove_70 ?_
      refine z_if_eq (pc := 71) (tgt := 94) X dX2_waysAbove_71 (by decide) h (fun h => ?_) (fun h => ?_)
      · exact z_sub [1, 2, 3, 4, 5, 6, 7] rfl (zz2_waysAbove_94 X _ ih _ _ _ _ _ _ _ h)
      · refine z_lload (pc := 74) X dX2_waysAbove_74 6 rfl ?_
        refine z_lload (pc := 76) X dX2_waysAbove_76 0 rfl ?_
        refine z_aload_n (pc := 78) X dX2_waysAbove_78 rfl 1 rfl ?_
        refine z_iload_n (pc := 79) X dX2_waysAbove_79 rfl 2 rfl ?_
        refine z_iload_n (pc := 80) X dX2_waysAbove_80 rfl 4 rfl ?_
        refine z_isub (pc := 81) X dX2_waysAbove_81 ?_
        refine z_iload_n (pc := 82) X dX2_waysAbove_82 rfl 3 rfl ?_
        refine z_iload (pc := 83) X dX2_waysAbove_83 7 rfl ?_
        refine z_lload (pc := 85) X dX2_waysAbove_85 5 rfl ?_
        refine z_callVl (pc := 87) (rm := rm2_endsAt) X 8 [.int _, .int _, .int _, .long _] vX2_69 rfl rfl rfl (Nat.le_of_ble_eq_true rfl) ⟨rfl, rfl, Nat.le_of_ble_eq_true rfl, Nat.le_of_ble_eq_true rfl⟩ dX2_waysAbove_87 h (fun _ _ q => cc2_endsAt q) (fun r5 S5 h => ?_)
        refine z_lmul (pc := 90) X dX2_waysAbove_90 ?_
        refine z_ladd (pc := 91) X dX2_waysAbove_91 ?_
        refine z_lstore (pc := 92) (L' := [(6, .long _), (9, .long _), (0, .ref _), (1, .int _), (2, .int _), (3, .int _), (4, .long _), (8, .int _)]) X dX2_waysAbove_92 (by decide) rfl ?_
        refine z_let h (fun h => ?_)
        exact z_sub [2, 3, 4, 5, 6, 0, 7] rfl (zz2_waysAbove_94 X _ ih _ _ _ _ _ _ _ h)
set_option maxRecDepth 100000 in
set_option maxHeartbeats 4000000 in
theorem zz2_waysAbove_22 {S' : St} {r : Int64} (X : zM p s m args meth c D cA σ shC tS RX2 cX2_waysAbove 11 (some .long)) : ∀ (S : St) (x1 : Int32) (x2 : Int32) (x3 : Int32), J2_waysAbove_22 S x1 x2 x3 = some (r, S') → Zj p l e rm2_waysAbove s m args below meth c D cA σ shC 11 (some (.long r)) S' 22 [(0, .ref (σ 8)), (1, .int x1), (2, .int x2), (3, .int x3)] [] S := by
  intro S x1 x2 x3 h
  rw [J2_waysAbove_22] at h
  refine z_aload_n (pc := 22) X dX2_waysAbove_22 rfl 0 rfl ?_
  refine z_get (pc := 23) (v := .ref (σ 5)) X 8 fX2_48 rfl rfl dX2_waysAbove_23 rfl ?_
  refine z_iconst (pc := 26) (v := 0) X dX2_waysAbove_26 (by decide) ?_
  refine z_callVl (pc := 27) (rm := rm0_sum) X 5 [.int _] vX2_62 rfl rfl rfl (Nat.le_of_ble_eq_true rfl) ⟨rfl, rfl, Nat.le_of_ble_eq_true rfl, Nat.le_of_ble_eq_true rfl⟩ dX2_waysAbove_27 h (fun _ _ q => cc0_sum q) (fun r1 S1 h => ?_)
  refine z_aload_n (pc := 30) X dX2_waysAbove_30 rfl 0 rfl ?_
  refine z_get (pc := 31) (v := .ref (σ 5)) X 8 fX2_48 rfl rfl dX2_waysAbove_31 rfl ?_
  refine z_iconst (pc := 34) (v := 1) X dX2_waysAbove_34 (by decide) ?_
  refine z_callVl (pc := 35) (rm := rm0_sum) X 5 [.int _] vX2_62 rfl rfl rfl (Nat.le_of_ble_eq_true rfl) ⟨rfl, rfl, Nat.le_of_ble_eq_true rfl, Nat.le_of_ble_eq_true rfl⟩ dX2_waysAbove_35 h (fun _ _ q => cc0_sum q) (fun r2 S2 h => ?_)
  refine z_lmul (pc := 38) X dX2_waysAbove_38 ?_
  refine z_lstore (pc := 39) (L' := [(4, .long _), (0, .ref _), (1, .int _), (2, .int _), (3, .int _)]) X dX2_waysAbove_39 (by decide) rfl ?_
  refine z_let h (fun h => ?_)
  refine z_lconst (pc := 41) (v := 0) X dX2_waysAbove_41 (by decide) ?_
  refine z_lstore (pc := 42) (L' := [(6, .long _), (4, .long _), (0, .ref _), (1, .int _), (2, .int _), (3, .int _)]) X dX2_waysAbove_42 (by decide) rfl ?_
  refine z_iconst (pc := 44) (v := 0) X dX2_waysAbove_44 (by decide) ?_
  refine z_istore (pc := 45) (L' := [(8, .int _), (6, .long _), (4, .long _), (0, .ref _), (1, .int _), (2, .int _), (3, .int _)]) X dX2_waysAbove_45 (by decide) rfl ?_
  exact z_sub [3, 4, 5, 6, 2, 1, 0] rfl (zz2_waysAbove_47 X  fu _ _ _ _ _ _ _ h)
set_option maxRecDepth 100000 in
set_option maxHeartbeats 4000000 in
theorem zz2_waysAbove_0 {S' : St} {r : Int64} (X : zM p s m args meth c D cA σ shC tS RX2 cX2_waysAbove 11 (some .long)) : ∀ (S : St) (x1 : Int32) (x2 : Int32) (x3 : Int32), J2_waysAbove S x1 x2 x3 = some (r, S') → Zj p l e rm2_waysAbove s m args below meth c D cA σ shC 11 (some (.long r)) S' 0 [(0, .ref (σ 8)), (1, .int x1), (2, .int x2), (3, .int x3)] [] S := by
  intro S x1 x2 x3 h
  rw [J2_waysAbove] at h
  refine z_iload_n (pc := 0) X dX2_waysAbove_0 rfl 2 rfl ?_
  refine z_iload_n (pc := 1) X dX2_waysAbove_1 rfl 1 rfl ?_
  refine z_iload_n (pc := 2) X dX2_waysAbove_2 rfl 3 rfl ?_
  refine z_isub (pc := 3) X dX2_waysAbove_3 ?_
  refine z_icmp_le (pc := 4) (tgt := 9) X dX2_waysAbove_4 (by decide) h (fun h => ?_) (fun h => ?_)
  · refine z_aload_n (pc := 9) X dX2_waysAbove_9 rfl 0 rfl ?_
    refine z_get (pc := 10) (v := .int _) X 8 fX2_45 rfl rfl dX2_waysAbove_10 rfl ?_
    refine z_iload_n (pc := 13) X dX2_waysAbove_13 rfl 1 rfl ?_
    refine z_icmp_eq (pc := 14) (tgt := 22) X dX2_waysAbove_14 (by decide) h (fun h => ?_) (fun h => ?_)
    · exact z_sub [0, 1, 2, 3] rfl (zz2_waysAbove_22 X  _ _ _ _ h)
    · refine z_aload_n (pc := 17) X dX2_waysAbove_17 rfl 0 rfl ?_
      refine z_iload_n (pc := 18) X dX2_waysAbove_18 rfl 1 rfl ?_
      refine z_callVv (pc := 19) (rm := rm2_prepare) X 8 [.int _] vX2_119 rfl rfl rfl (Nat.le_of_ble_eq_true rfl) ⟨rfl, rfl, Nat.le_of_ble_eq_true rfl, Nat.le_of_ble_eq_true rfl⟩ dX2_waysAbove_19 h (fun _ _ q => cc2_prepare q) (fun _ S1 h => ?_)
      exact z_sub [0, 1, 2, 3] rfl (zz2_waysAbove_22 X  _ _ _ _ h)
  · refine z_lconst (pc := 7) (v := 0) X dX2_waysAbove_7 (by decide) ?_
    exact z_lret X rfl dX2_waysAbove_8 h
theorem cc2_waysAbove {l : Launch} {D : va_G} {cA : Nat → ClassId} {σ : Nat → Nat} {tS : Nat} {S S' : St} {x1 : Int32} {x2 : Int32} {x3 : Int32} {r : Int64} (h : J2_waysAbove S x1 x2 x3 = some (r, S')) : zMet l D cA σ shC tS yX2_waysAbove cX2_waysAbove 11 (some .long) rm2_waysAbove [.ref (σ 8), .int x1, .int x2, .int x3] S (some (.long r)) S' := z_met [(0, .ref (σ 8)), (1, .int x1), (2, .int x2), (3, .int x3)] (by decide +kernel) (Nat.le_of_ble_eq_true rfl) rfl (fun _ _ _ _ _ _ _ _ X => zz2_waysAbove_0 X _ _ _ _ h)
set_option maxRecDepth 100000 in
set_option maxHeartbeats 4000000 in
theorem zz2_cheapest_127 {S' : St} {r : Int32} (X : zM p s m args meth c D cA σ shC tS RX2 cX2_cheapest 15 (some .int)) (k9 : St → Int32 → Int32 → Int32 → Int32 → Int32 → Int32 → Int32 → Int32 → Int32 → Option (Int32 × St)) (hk9 : ∀ (S : St) (x1 : Int32) (x2 : Int32) (x3 : Int32) (x4 : Int32) (x5 : Int32) (x6 : Int32) (x7 : Int32) (x8 : Int32) (x9 : Int32), k9 S x1 x2 x3 x4 x5 x6 x7 x8 x9 = some (r, S') → Zj p l e rm2_cheapest s m args below meth c D cA σ shC 15 (some (.int r)) S' 9 [(0, .ref (σ 8)), (1, .int x1), (2, .int x2), (3, .int x3), (4, .int x4), (5, .int x5), (6, .int x6), (7, .int x7), (8, .int x8), (9, .int x9)] [] S) (k36 : St → Int32 → Int32 → Int32 → Int32 → Int32 → Int32 → Int32 → Int32 → Int32 → Int64 → Int32 → Option (Int32 × St)) (hk36 : ∀ (S : St) (x1 : Int32) (x2 : Int32) (x3 : Int32) (x4 : Int32) (x5 : Int32) (x6 : Int32) (x7 : Int32) (x8 : Int32) (x9 : Int32) (x10 : Int64) (x12 : Int32), k36 S x1 x2 x3 x4 x5 x6 x7 x8 x9 x10 x12 = some (r, S') → Zj p l e rm2_cheapest s m args below meth c D cA σ shC 15 (some (.int r)) S' 36 [(0, .ref (σ 8)), (1, .int x1), (2, .int x2), (3, .int x3), (4, .int x4), (5, .int x5), (6, .int x6), (7, .int x7), (8, .int x8), (9, .int x9), (10, .long x10), (12, .int x12)] [] S) (k46 : St → Int32 → Int32 → Int32 → Int32 → Int32 → Int32 → Int32 → Int32 → Int32 → Int64 → Int32 → Int32 → Option (Int32 × St)) (hk46 : ∀ (S : St) (x1 : Int32) (x2 : Int32) (x3 : Int32) (x4 : Int32) (x5 : Int32) (x6 : Int32) (x7 : Int32) (x8 : Int32) (x9 : Int32) (x10 : Int64) (x12 : Int32) (x13 : Int32), k46 S x1 x2 x3 x4 x5 x6 x7 x8 x9 x10 x12 x13 = some (r, S') → Zj p l e rm2_cheapest s m args below meth c D cA σ shC 15 (some (.int r)) S' 46 [(0, .ref (σ 8)), (1, .int x1), (2, .int x2), (3, .int x3), (4, .int x4), (5, .int x5), (6, .int x6), (7, .int x7), (8, .int x8), (9, .int x9), (10, .long x10), (12, .int x12), (13, .int x13)] [] S) : ∀ (S : St) (x1 : Int32) (x2 : Int32) (x3 : Int32) (x4 : Int32) (x5 : Int32) (x6 : Int32) (x7 : Int32) (x8 : Int32) (x9 : Int32) (x10 : Int64) (x12 : Int32) (x13 : Int32), J2_cheapest_127 k9 k36 k46 S x1 x2 x3 x4 x5 x6 x7 x8 x9 x10 x12 x13 = some (r, S') → Zj p l e rm2_cheapest s m args below meth c D cA σ shC 15 (some (.int r)) S' 127 [(0, .ref (σ 8)), (1, .int x1), (2, .int x2), (3, .int x3), (4, .int x4), (5, .int x5), (6, .int x6), (7, .int x7), (8, .int x8), (9, .int x9), (10, .long x10), (12, .int x12), (13, .int x13)] [] S := by
  intro S x1 x2 x3 x4 x5 x6 x7 x8 x9 x10 x12 x13 h
  rw [J2_cheapest_127] at h
  refine z_iinc (pc := 127) (k := 12) (v := 1) (L' := [(13, .int _), (0, .ref _), (1, .int _), (2, .int _), (3, .int _), (4, .int _), (5, .int _), (6, .int _), (7, .int _), (8, .int _), (9, .int _), (10, .long _), (12, .int _)]) X dX2_cheapest_127 rfl (by decide) (by decide) rfl ?_
  refine z_let h (fun h => ?_)
  refine z_goto (pc := 130) (tgt := 46) X dX2_cheapest_130 (by decide) ?_
  exact z_sub [1, 2, 3, 4, 5, 6, 7, 8, 9, 10, 11, 12, 0] rfl (hk46 _ _ _ _ _ _ _ _ _ _ _ _ _ h)
set_option maxRecDepth 100000 in
set_option maxHeartbeats 4000000 in
theorem zz2_cheapest_85 {S' : St} {r : Int32} (X : zM p s m args meth c D cA σ shC tS RX2 cX2_cheapest 15 (some .int)) (k9 : St → Int32 → Int32 → Int32 → Int32 → Int32 → Int32 → Int32 → Int32 → Int32 → Option (Int32 × St)) (hk9 : ∀ (S : St) (x1 : Int32) (x2 : Int32) (x3 : Int32) (x4 : Int32) (x5 : Int32) (x6 : Int32) (x7 : Int32) (x8 : Int32) (x9 : Int32), k9 S x1 x2 x3 x4 x5 x6 x7 x8 x9 = some (r, S') → Zj p l e rm2_cheapest s m args below meth c D cA σ shC 15 (some (.int r)) S' 9 [(0, .ref (σ 8)), (1, .int x1), (2, .int x2), (3, .int x3), (4, .int x4), (5, .int x5), (6, .int x6), (7, .int x7), (8, .int x8), (9, .int x9)] [] S) (k36 : St → Int32 → Int32 → Int32 → Int32 → Int32 → Int32 → Int32 → Int32 → Int32 → Int64 → Int32 → Option (Int32 × St)) (hk36 : ∀ (S : St) (x1 : Int32) (x2 : Int32) (x3 : Int32) (x4 : Int32) (x5 : Int32) (x6 : Int32) (x7 : Int32) (x8 : Int32) (x9 : Int32) (x10 : Int64) (x12 : Int32), k36 S x1 x2 x3 x4 x5 x6 x7 x8 x9 x10 x12 = some (r, S') → Zj p l e rm2_cheapest s m args below meth c D cA σ shC 15 (some (.int r)) S' 36 [(0, .ref (σ 8)), (1, .int x1), (2, .int x2), (3, .int x3), (4, .int x4), (5, .int x5), (6, .int x6), (7, .int x7), (8, .int x8), (9, .int x9), (10, .long x10), (12, .int x12)] [] S) (k46 : St → Int32 → Int32 → Int32 → Int32 → Int32 → Int32 → Int32 → Int32 → Int32 → Int64 → Int32 → Int32 → Option (Int32 × St)) (hk46 : ∀ (S : St) (x1 : Int32) (x2 : Int32) (x3 : Int32) (x4 : Int32) (x5 : Int32) (x6 : Int32) (x7 : Int32) (x8 : Int32) (x9 : Int32) (x10 : Int64) (x12 : Int32) (x13 : Int32), k46 S x1 x2 x3 x4 x5 x6 x7 x8 x9 x10 x12 x13 = some (r, S') → Zj p l e rm2_cheapest s m args below meth c D cA σ shC 15 (some (.int r)) S' 46 [(0, .ref (σ 8)), (1, .int x1), (2, .int x2), (3, .int x3), (4, .int x4), (5, .int x5), (6, .int x6), (7, .int x7), (8, .int x8), (9, .int x9), (10, .long x10), (12, .int x12), (13, .int x13)] [] S) : ∀ (S : St) (x1 : Int32) (x2 : Int32) (x3 : Int32) (x4 : Int32) (x5 : Int32) (x6 : Int32) (x7 : Int32) (x8 : Int32) (x9 : Int32) (x10 : Int64) (x12 : Int32) (x13 : Int32) (x14 : Int32), J2_cheapest_85 k9 k36 k46 S x1 x2 x3 x4 x5 x6 x7 x8 x9 x10 x12 x13 x14 = some (r, S') → Zj p l e rm2_cheapest s m args below meth c D cA σ shC 15 (some (.int r)) S' 85 [(0, .ref (σ 8)), (1, .int x1), (2, .int x2), (3, .int x3), (4, .int x4), (5, .int x5), (6, .int x6), (7, .int x7), (8, .int x8), (9, .int x9), (10, .long x10), (12, .int x12), (13, .int x13), (14, .int x14)] [] S := by
  intro S x1 x2 x3 x4 x5 x6 x7 x8 x9 x10 x12 x13 x14 h
  rw [J2_cheapest_85] at h
  refine z_aload_n (pc := 85) X dX2_cheapest_85 rfl 0 rfl ?_
  refine z_iload (pc := 86) X dX2_cheapest_86 9 rfl ?_
  refine z_iload (pc := 88) X dX2_cheapest_88 11 rfl ?_
  refine z_iload (pc := 90) X dX2_cheapest_90 12 rfl ?_
  refine z_callVl (pc := 92) (rm := rm2_waysAbove) X 8 [.int _, .int _, .int _] vX2_81 rfl rfl rfl (Nat.le_of_ble_eq_true rfl) ⟨rfl, rfl, Nat.le_of_ble_eq_true rfl, Nat.le_of_ble_eq_true rfl⟩ dX2_cheapest_92 h (fun _ _ q => cc2_waysAbove q) (fun r1 S1 h => ?_)
  refine z_lload (pc := 95) X dX2_cheapest_95 10 rfl ?_
  refine z_iload_n (pc := 97) X dX2_cheapest_97 rfl 2 rfl ?_
  refine z_i2l (pc := 98) X dX2_cheapest_98 ?_
  refine z_iload_n (pc := 99) X dX2_cheapest_99 rfl 3 rfl ?_
  refine z_i2l (pc := 100) X dX2_cheapest_100 ?_
  refine z_callSi (pc := 101) (rm := rm2_isAtMost) X [.long _, .long _, .long _, .long _] sX2_123 rfl rfl (Nat.le_of_ble_eq_true rfl) ⟨rfl, rfl, Nat.le_of_ble_eq_true rfl, Nat.le_of_ble_eq_true rfl⟩ dX2_cheapest_101 h (fun _ _ q => cc2_isAtMost q) (fun r2 S2 h => ?_)
  refine z_if_eq (pc := 104) (tgt := 127) X dX2_cheapest_104 (by decide) h (fun h => ?_) (fun h => ?_)
  · exact z_sub [0, 1, 2, 3, 4, 5, 6, 7, 8, 9, 10, 11, 12] rfl (zz2_cheapest_127 X _ hk9 _ hk36 _ hk46 _ _ _ _ _ _ _ _ _ _ _ _ _ h)
  · refine z_bipush (pc := 107) (v := 100) X dX2_cheapest_107 (by decide) ?_
    refine z_iload (pc := 109) X dX2_cheapest_109 9 rfl ?_
    refine z_imul (pc := 111) X dX2_cheapest_111 ?_
    refine z_bipush (pc := 112) (v := 10) X dX2_cheapest_112 (by decide) ?_
    refine z_iload (pc := 114) X dX2_cheapest_114 11 rfl ?_
    refine z_imul (pc := 116) X dX2_cheapest_116 ?_
    refine z_iadd (pc := 117) X dX2_cheapest_117 ?_
    refine z_iload (pc := 118) X dX2_cheapest_118 12 rfl ?_
    refine z_iadd (pc := 120) X dX2_cheapest_120 ?_
    refine z_istore (pc := 121) (L' := [(7, .int _), (0, .ref _), (1, .int _), (2, .int _), (3, .int _), (4, .int _), (5, .int _), (6, .int _), (8, .int _), (9, .int _), (10, .long _), (12, .int _), (13, .int _), (14, .int _)]) X dX2_cheapest_121 (by decide) rfl ?_
    refine z_let h (fun h => ?_)
    refine z_iload (pc := 123) X dX2_cheapest_123 13 rfl ?_
    refine z_istore (pc := 125) (L' := [(8, .int _), (7, .int _), (0, .ref _), (1, .int _), (2, .int _), (3, .int _), (4, .int _), (5, .int _), (6, .int _), (9, .int _), (10, .long _), (12, .int _), (13, .int _), (14, .int _)]) X dX2_cheapest_125 (by decide) rfl ?_
    exact z_sub [2, 3, 4, 5, 6, 7, 8, 1, 0, 9, 10, 11, 12] rfl (zz2_cheapest_127 X _ hk9 _ hk36 _ hk46 _ _ _ _ _ _ _ _ _ _ _ _ _ h)
set_option maxRecDepth 100000 in
set_option maxHeartbeats 4000000 in
theorem zz2_cheapest_46 {S' : St} {r : Int32} (X : zM p s m args meth c D cA σ shC tS RX2 cX2_cheapest 15 (some .int)) (k9 : St → Int32 → Int32 → Int32 → Int32 → Int32 → Int32 → Int32 → Int32 → Int32 → Option (Int32 × St)) (hk9 : ∀ (S : St) (x1 : Int32) (x2 : Int32) (x3 : Int32) (x4 : Int32) (x5 : Int32) (x6 : Int32) (x7 : Int32) (x8 : Int32) (x9 : Int32), k9 S x1 x2 x3 x4 x5 x6 x7 x8 x9 = some (r, S') → Zj p l e rm2_cheapest s m args below meth c D cA σ shC 15 (some (.int r)) S' 9 [(0, .ref (σ 8)), (1, .int x1), (2, .int x2), (3, .int x3), (4, .int x4), (5, .int x5), (6, .int x6), (7, .int x7), (8, .int x8), (9, .int x9)] [] S) (k36 : St → Int32 → Int32 → Int32 → Int32 → Int32 → Int32 → Int32 → Int32 → Int32 → Int64 → Int32 → Option (Int32 × St)) (hk36 : ∀ (S : St) (x1 : Int32) (x2 : Int32) (x3 : Int32) (x4 : Int32) (x5 : Int32) (x6 : Int32) (x7 : Int32) (x8 : Int32) (x9 : Int32) (x10 : Int64) (x12 : Int32), k36 S x1 x2 x3 x4 x5 x6 x7 x8 x9 x10 x12 = some (r, S') → Zj p l e rm2_cheapest s m args below meth c D cA σ shC 15 (some (.int r)) S' 36 [(0, .ref (σ 8)), (1, .int x1), (2, .int x2), (3, .int x3), (4, .int x4), (5, .int x5), (6, .int x6), (7, .int x7), (8, .int x8), (9, .int x9), (10, .long x10), (12, .int x12)] [] S) : ∀ (n : Nat) (S : St) (x1 : Int32) (x2 : Int32) (x3 : Int32) (x4 : Int32) (x5 : Int32) (x6 : Int32) (x7 : Int32) (x8 : Int32) (x9 : Int32) (x10 : Int64) (x12 : Int32) (x13 : Int32), J2_cheapest_46 k9 k36 n S x1 x2 x3 x4 x5 x6 x7 x8 x9 x10 x12 x13 = some (r, S') → Zj p l e rm2_cheapest s m args below meth c D cA σ shC 15 (some (.int r)) S' 46 [(0, .ref (σ 8)), (1, .int x1), (2, .int x2), (3, .int x3), (4, .int x4), (5, .int x5), (6, .int x6), (7, .int x7), (8, .int x8), (9, .int x9), (10, .long x10), (12, .int x12), (13, .int x13)] [] S := by
  intro n
  induction n with
  | zero =>
    intro S x1 x2 x3 x4 x5 x6 x7 x8 x9 x10 x12 x13 h
    rw [J2_cheapest_46] at h
    cases h
  | succ n ih =>
    intro S x1 x2 x3 x4 x5 x6 x7 x8 x9 x10 x12 x13 h
    rw [J2_cheapest_46] at h
    refine z_iload (pc := 46) X dX2_cheapest_46 12 rfl ?_
    refine z_iload (pc := 48) X dX2_cheapest_48 9 rfl ?_
    refine z_icmp_gt (pc := 50) (tgt := 133) X dX2_cheapest_50 (by decide) h (fun h => ?_) (fun h => ?_)
    · refine z_iinc (pc := 133) (k := 11) (v := 1) (L' := [(12, .int _), (0, .ref _), (1, .int _), (2, .int _), (3, .int _), (4, .int _), (5, .int _), (6, .int _), (7, .int _), (8, .int _), (9, .int _), (10, .long _), (13, .int _)]) X dX2_cheapest_133 rfl (by decide) (by decide) rfl ?_
      refine z_let h (fun h => ?_)
      refine z_goto (pc := 136) (tgt := 36) X dX2_cheapest_136 (by decide) ?_
      exact z_sub [1, 2, 3, 4, 5, 6, 7, 8, 9, 10, 11, 0] rfl (hk36 _ _ _ _ _ _ _ _ _ _ _ _ h)
    · refine z_iload (pc := 53) X dX2_cheapest_53 9 rfl ?_
      refine z_iload (pc := 55) X dX2_cheapest_55 4 rfl ?_
      refine z_imul (pc := 57) X dX2_cheapest_57 ?_
      refine z_iload (pc := 58) X dX2_cheapest_58 11 rfl ?_
      refine z_iload (pc := 60) X dX2_cheapest_60 5 rfl ?_
      refine z_imul (pc := 62) X dX2_cheapest_62 ?_
      refine z_iadd (pc := 63) X dX2_cheapest_63 ?_
      refine z_iload (pc := 64) X dX2_cheapest_64 12 rfl ?_
      refine z_iload (pc := 66) X dX2_cheapest_66 6 rfl ?_
      refine z_imul (pc := 68) X dX2_cheapest_68 ?_
      refine z_iadd (pc := 69) X dX2_cheapest_69 ?_
      refine z_istore (pc := 70) (L' := [(14, .int _), (0, .ref _), (1, .int _), (2, .int _), (3, .int _), (4, .int _), (5, .int _), (6, .int _), (7, .int _), (8, .int _), (9, .int _), (10, .long _), (12, .int _), (13, .int _)]) X dX2_cheapest_70 (by decide) rfl ?_
      refine z_let h (fun h => ?_)
      refine z_iload (pc := 72) X dX2_cheapest_72 8 rfl ?_
      refine z_iconst (pc := 74) (v := -1) X dX2_cheapest_74 (by decide) ?_
      refine z_icmp_eq (pc := 75) (tgt := 85) X dX2_cheapest_75 (by decide) h (fun h => ?_) (fun h => ?_)
      · exact z_sub [1, 2, 3, 4, 5, 6, 7, 8, 9, 10, 11, 12, 13, 0] rfl (zz2_cheapest_85 X _ hk9 _ hk36 _ ih _ _ _ _ _ _ _ _ _ _ _ _ _ _ h)
      · refine z_iload (pc := 78) X dX2_cheapest_78 0 rfl ?_
        refine z_iload (pc := 80) X dX2_cheapest_80 9 rfl ?_
        refine z_icmp_ge (pc := 82) (tgt := 127) X dX2_cheapest_82 (by decide) h (fun h => ?_) (fun h => ?_)
        · exact z_sub [1, 2, 3, 4, 5, 6, 7, 8, 9, 10, 11, 12, 13] rfl (zz2_cheapest_127 X _ hk9 _ hk36 _ ih _ _ _ _ _ _ _ _ _ _ _ _ _ h)
        · exact z_sub [1, 2, 3, 4, 5, 6, 7, 8, 9, 10, 11, 12, 13, 0] rfl (zz2_cheapest_85 X _ hk9 _ hk36 _ ih _ _ _ _ _ _ _ _ _ _ _ _ _ _ h)
set_option maxRecDepth 100000 in
set_option maxHeartbeats 4000000 in
theorem zz2_cheapest_36 {S' : St} {r : Int32} (X : zM p s m args meth c D cA σ shC tS RX2 cX2_cheapest 15 (some .int)) (k9 : St → Int32 → Int32 → Int32 → Int32 → Int32 → Int32 → Int32 → Int32 → Int32 → Option (Int32 × St)) (hk9 : ∀ (S : St) (x1 : Int32) (x2 : Int32) (x3 : Int32) (x4 : Int32) (x5 : Int32) (x6 : Int32) (x7 : Int32) (x8 : Int32) (x9 : Int32), k9 S x1 x2 x3 x4 x5 x6 x7 x8 x9 = some (r, S') → Zj p l e rm2_cheapest s m args below meth c D cA σ shC 15 (some (.int r)) S' 9 [(0, .ref (σ 8)), (1, .int x1), (2, .int x2), (3, .int x3), (4, .int x4), (5, .int x5), (6, .int x6), (7, .int x7), (8, .int x8), (9, .int x9)] [] S) : ∀ (n : Nat) (S : St) (x1 : Int32) (x2 : Int32) (x3 : Int32) (x4 : Int32) (x5 : Int32) (x6 : Int32) (x7 : Int32) (x8 : Int32) (x9 : Int32) (x10 : Int64) (x12 : Int32), J2_cheapest_36 k9 n S x1 x2 x3 x4 x5 x6 x7 x8 x9 x10 x12 = some (r, S') → Zj p l e rm2_cheapest s m args below meth c D cA σ shC 15 (some (.int r)) S' 36 [(0, .ref (σ 8)), (1, .int x1), (2, .int x2), (3, .int x3), (4, .int x4), (5, .int x5), (6, .int x6), (7, .int x7), (8, .int x8), (9, .int x9), (10, .long x10), (12, .int x12)] [] S := by
  intro n
  induction n with
  | zero =>
    intro S x1 x2 x3 x4 x5 x6 x7 x8 x9 x10 x12 h
    rw [J2_cheapest_36] at h
    cases h
  | succ n ih =>
    intro S x1 x2 x3 x4 x5 x6 x7 x8 x9 x10 x12 h
    rw [J2_cheapest_36] at h
    refine z_iload (pc := 36) X dX2_cheapest_36 11 rfl ?_
    refine z_iload (pc := 38) X dX2_cheapest_38 9 rfl ?_
    refine z_icmp_gt (pc := 40) (tgt := 139) X dX2_cheapest_40 (by decide) h (fun h => ?_) (fun h => ?_)
    · refine z_iinc (pc := 139) (k := 9) (v := 1) (L' := [(9, .int _), (0, .ref _), (1, .int _), (2, .int _), (3, .int _), (4, .int _), (5, .int _), (6, .int _), (7, .int _), (8, .int _), (10, .long _), (12, .int _)]) X dX2_cheapest_139 rfl (by decide) (by decide) rfl ?_
      refine z_let h (fun h => ?_)
      refine z_goto (pc := 142) (tgt := 9) X dX2_cheapest_142 (by decide) ?_
      exact z_sub [1, 2, 3, 4, 5, 6, 7, 8, 9, 0] rfl (hk9 _ _ _ _ _ _ _ _ _ _ h)
    · refine z_iconst (pc := 43) (v := 1) X dX2_cheapest_43 (by decide) ?_
      refine z_istore (pc := 44) (L' := [(13, .int _), (0, .ref _), (1, .int _), (2, .int _), (3, .int _), (4, .int _), (5, .int _), (6, .int _), (7, .int _), (8, .int _), (9, .int _), (10, .long _), (12, .int _)]) X dX2_cheapest_44 (by decide) rfl ?_
      exact z_sub [1, 2, 3, 4, 5, 6, 7, 8, 9, 10, 11, 12, 0] rfl (zz2_cheapest_46 X _ hk9 _ ih fu _ _ _ _ _ _ _ _ _ _ _ _ _ h)
set_option maxRecDepth 100000 in
set_option maxHeartbeats 4000000 in
theorem zz2_cheapest_9 {S' : St} {r : Int32} (X : zM p s m args meth c D cA σ shC tS RX2 cX2_cheapest 15 (some .int)) : ∀ (n : Nat) (S : St) (x1 : Int32) (x2 : Int32) (x3 : Int32) (x4 : Int32) (x5 : Int32) (x6 : Int32) (x7 : Int32) (x8 : Int32) (x9 : Int32), J2_cheapest_9 n S x1 x2 x3 x4 x5 x6 x7 x8 x9 = some (r, S') → Zj p l e rm2_cheapest s m args below meth c D cA σ shC 15 (some (.int r)) S' 9 [(0, .ref (σ 8)), (1, .int x1), (2, .int x2), (3, .int x3), (4, .int x4), (5, .int x5), (6, .int x6), (7, .int x7), (8, .int x8), (9, .int x9)] [] S := by
  intro n
  induction n with
  | zero =>
    intro S x1 x2 x3 x4 x5 x6 x7 x8 x9 h
    rw [J2_cheapest_9] at h
    cases h
  | succ n ih =>
    intro S x1 x2 x3 x4 x5 x6 x7 x8 x9 h
    rw [J2_cheapest_9] at h
    refine z_iload (pc := 9) X dX2_cheapest_9 9 rfl ?_
    refine z_iload_n (pc := 11) X dX2_cheapest_11 rfl 1 rfl ?_
    refine z_icmp_gt (pc := 12) (tgt := 145) X dX2_cheapest_12 (by decide) h (fun h => ?_) (fun h => ?_)
    · refine z_iload (pc := 145) X dX2_cheapest_145 7 rfl ?_
      exact z_iret X rfl dX2_cheapest_147 h
    · refine z_aload_n (pc := 15) X dX2_cheapest_15 rfl 0 rfl ?_
      refine z_get (pc := 16) (v := .ref (σ 5)) X 8 fX2_48 rfl rfl dX2_cheapest_16 rfl ?_
      refine z_aload_n (pc := 19) X dX2_cheapest_19 rfl 0 rfl ?_
      refine z_get (pc := 20) (v := .int _) X 8 fX2_42 rfl rfl dX2_cheapest_20 rfl ?_
      refine z_callVl (pc := 23) (rm := rm0_ofCopy) X 5 [.int _] vX2_85 rfl rfl rfl (Nat.le_of_ble_eq_true rfl) ⟨rfl, rfl, Nat.le_of_ble_eq_true rfl, Nat.le_of_ble_eq_true rfl⟩ dX2_cheapest_23 h (fun _ _ q => cc0_ofCopy q) (fun r1 S1 h => ?_)
      refine z_iload (pc := 26) X dX2_cheapest_26 9 rfl ?_
      refine z_callSl (pc := 28) (rm := rm0_power) X [.long _, .int _] sX2_73 rfl rfl (Nat.le_of_ble_eq_true rfl) ⟨rfl, rfl, Nat.le_of_ble_eq_true rfl, Nat.le_of_ble_eq_true rfl⟩ dX2_cheapest_28 h (fun _ _ q => cc0_power q) (fun r2 S2 h => ?_)
      refine z_lstore (pc := 31) (L' := [(10, .long _), (0, .ref _), (1, .int _), (2, .int _), (3, .int _), (4, .int _), (5, .int _), (6, .int _), (7, .int _), (8, .int _), (9, .int _)]) X dX2_cheapest_31 (by decide) rfl ?_
      refine z_iconst (pc := 33) (v := 1) X dX2_cheapest_33 (by decide) ?_
      refine z_istore (pc := 34) (L' := [(12, .int _), (10, .long _), (0, .ref _), (1, .int _), (2, .int _), (3, .int _), (4, .int _), (5, .int _), (6, .int _), (7, .int _), (8, .int _), (9, .int _)]) X dX2_cheapest_34 (by decide) rfl ?_
      exact z_sub [2, 3, 4, 5, 6, 7, 8, 9, 10, 11, 1, 0] rfl (zz2_cheapest_36 X _ ih fu _ _ _ _ _ _ _ _ _ _ _ _ h)
set_option maxRecDepth 100000 in
set_option maxHeartbeats 4000000 in
theorem zz2_cheapest_0 {S' : St} {r : Int32} (X : zM p s m args meth c D cA σ shC tS RX2 cX2_cheapest 15 (some .int)) : ∀ (S : St) (x1 : Int32) (x2 : Int32) (x3 : Int32) (x4 : Int32) (x5 : Int32) (x6 : Int32), J2_cheapest S x1 x2 x3 x4 x5 x6 = some (r, S') → Zj p l e rm2_cheapest s m args below meth c D cA σ shC 15 (some (.int r)) S' 0 [(0, .ref (σ 8)), (1, .int x1), (2, .int x2), (3, .int x3), (4, .int x4), (5, .int x5), (6, .int x6)] [] S := by
  intro S x1 x2 x3 x4 x5 x6 h
  rw [J2_cheapest] at h
  refine z_iconst (pc := 0) (v := -1) X dX2_cheapest_0 (by decide) ?_
  refine z_istore (pc := 1) (L' := [(7, .int _), (0, .ref _), (1, .int _), (2, .int _), (3, .int _), (4, .int _), (5, .int _), (6, .int _)]) X dX2_cheapest_1 (by decide) rfl ?_
  refine z_iconst (pc := 3) (v := 0) X dX2_cheapest_3 (by decide) ?_
  refine z_istore (pc := 4) (L' := [(8, .int _), (7, .int _), (0, .ref _), (1, .int _), (2, .int _), (3, .int _), (4, .int _), (5, .int _), (6, .int _)]) X dX2_cheapest_4 (by decide) rfl ?_
  refine z_iconst (pc := 6) (v := 1) X dX2_cheapest_6 (by decide) ?_
  refine z_istore (pc := 7) (L' := [(9, .int _), (8, .int _), (7, .int _), (0, .ref _), (1, .int _), (2, .int _), (3, .int _), (4, .int _), (5, .int _), (6, .int _)]) X dX2_cheapest_7 (by decide) rfl ?_
  exact z_sub [3, 4, 5, 6, 7, 8, 9, 2, 1, 0] rfl (zz2_cheapest_9 X  fu _ _ _ _ _ _ _ _ _ _ h)
theorem cc2_cheapest {l : Launch} {D : va_G} {cA : Nat → ClassId} {σ : Nat → Nat} {tS : Nat} {S S' : St} {x1 : Int32} {x2 : Int32} {x3 : Int32} {x4 : Int32} {x5 : Int32} {x6 : Int32} {r : Int32} (h : J2_cheapest S x1 x2 x3 x4 x5 x6 = some (r, S')) : zMet l D cA σ shC tS yX2_cheapest cX2_cheapest 15 (some .int) rm2_cheapest [.ref (σ 8), .int x1, .int x2, .int x3, .int x4, .int x5, .int x6] S (some (.int r)) S' := z_met [(0, .ref (σ 8)), (1, .int x1), (2, .int x2), (3, .int x3), (4, .int x4), (5, .int x5), (6, .int x6)] (by decide +kernel) (Nat.le_of_ble_eq_true rfl) rfl (fun _ _ _ _ _ _ _ _ X => zz2_cheapest_0 X _ _ _ _ _ _ _ h)
set_option maxRecDepth 100000 in
set_option maxHeartbeats 4000000 in
theorem zz2_tellAge_0 {S' : St} {r : Int32} (X : zM p s m args meth c D cA σ shC tS RX2 cX2_tellAge 3 (some .int)) : ∀ (S : St), J2_tellAge S = some (r, S') → Zj p l e rm2_tellAge s m args below meth c D cA σ shC 3 (some (.int r)) S' 0 [(0, .ref (σ 8))] [] S := by
  intro S h
  rw [J2_tellAge] at h
  refine z_aload_n (pc := 0) X dX2_tellAge_0 rfl 0 rfl ?_
  refine z_aload_n (pc := 1) X dX2_tellAge_1 rfl 0 rfl ?_
  refine z_get (pc := 2) (v := .ref (σ 5)) X 8 fX2_48 rfl rfl dX2_tellAge_2 rfl ?_
  refine z_get (pc := 5) (v := .int _) X 5 fX2_66 rfl rfl dX2_tellAge_5 rfl ?_
  refine z_aload_n (pc := 8) X dX2_tellAge_8 rfl 0 rfl ?_
  refine z_get (pc := 9) (v := .ref (σ 5)) X 8 fX2_48 rfl rfl dX2_tellAge_9 rfl ?_
  refine z_get (pc := 12) (v := .int _) X 5 fX2_52 rfl rfl dX2_tellAge_12 rfl ?_
  refine z_aload_n (pc := 15) X dX2_tellAge_15 rfl 0 rfl ?_
  refine z_get (pc := 16) (v := .ref (σ 5)) X 8 fX2_48 rfl rfl dX2_tellAge_16 rfl ?_
  refine z_get (pc := 19) (v := .int _) X 5 fX2_55 rfl rfl dX2_tellAge_19 rfl ?_
  refine z_callVl (pc := 22) (rm := rm2_waysAbove) X 8 [.int _, .int _, .int _] vX2_81 rfl rfl rfl (Nat.le_of_ble_eq_true rfl) ⟨rfl, rfl, Nat.le_of_ble_eq_true rfl, Nat.le_of_ble_eq_true rfl⟩ dX2_tellAge_22 h (fun _ _ q => cc2_waysAbove q) (fun r1 S1 h => ?_)
  refine z_lstore_n (pc := 25) (L' := [(1, .long _), (0, .ref _)]) X dX2_tellAge_25 rfl (by decide) rfl ?_
  refine z_aload_n (pc := 26) X dX2_tellAge_26 rfl 1 rfl ?_
  refine z_get (pc := 27) (v := .ref (σ 5)) X 8 fX2_48 rfl rfl dX2_tellAge_27 rfl ?_
  refine z_lload_n (pc := 30) X dX2_tellAge_30 rfl 0 rfl ?_
  refine z_aload_n (pc := 31) X dX2_tellAge_31 rfl 1 rfl ?_
  refine z_get (pc := 32) (v := .ref (σ 5)) X 8 fX2_48 rfl rfl dX2_tellAge_32 rfl ?_
  refine z_aload_n (pc := 35) X dX2_tellAge_35 rfl 1 rfl ?_
  refine z_get (pc := 36) (v := .int _) X 8 fX2_42 rfl rfl dX2_tellAge_36 rfl ?_
  refine z_callVl (pc := 39) (rm := rm0_ofCopy) X 5 [.int _] vX2_85 rfl rfl rfl (Nat.le_of_ble_eq_true rfl) ⟨rfl, rfl, Nat.le_of_ble_eq_true rfl, Nat.le_of_ble_eq_true rfl⟩ dX2_tellAge_39 h (fun _ _ q => cc0_ofCopy q) (fun r2 S2 h => ?_)
  refine z_aload_n (pc := 42) X dX2_tellAge_42 rfl 1 rfl ?_
  refine z_get (pc := 43) (v := .ref (σ 5)) X 8 fX2_48 rfl rfl dX2_tellAge_43 rfl ?_
  refine z_get (pc := 46) (v := .int _) X 5 fX2_66 rfl rfl dX2_tellAge_46 rfl ?_
  refine z_callSl (pc := 49) (rm := rm0_power) X [.long _, .int _] sX2_73 rfl rfl (Nat.le_of_ble_eq_true rfl) ⟨rfl, rfl, Nat.le_of_ble_eq_true rfl, Nat.le_of_ble_eq_true rfl⟩ dX2_tellAge_49 h (fun _ _ q => cc0_power q) (fun r3 S3 h => ?_)
  refine z_callVi (pc := 52) (rm := rm0_tellFraction) X 5 [.long _, .long _] vX2_77 rfl rfl rfl (Nat.le_of_ble_eq_true rfl) ⟨rfl, rfl, Nat.le_of_ble_eq_true rfl, Nat.le_of_ble_eq_true rfl⟩ dX2_tellAge_52 h (fun _ _ q => cc0_tellFraction q) (fun r4 S4 h => ?_)
  exact z_iret X rfl dX2_tellAge_55 h
theorem cc2_tellAge {l : Launch} {D : va_G} {cA : Nat → ClassId} {σ : Nat → Nat} {tS : Nat} {S S' : St} {r : Int32} (h : J2_tellAge S = some (r, S')) : zMet l D cA σ shC tS yX2_tellAge cX2_tellAge 3 (some .int) rm2_tellAge [.ref (σ 8)] S (some (.int r)) S' := z_met [(0, .ref (σ 8))] (by decide +kernel) (Nat.le_of_ble_eq_true rfl) rfl (fun _ _ _ _ _ _ _ _ X => zz2_tellAge_0 X _ h)
set_option maxRecDepth 100000 in
set_option maxHeartbeats 4000000 in
theorem zz2_tellTakes_31 {S' : St} {r : Int32} (X : zM p s m args meth c D cA σ shC tS RX2 cX2_tellTakes 9 (some .int)) : ∀ (S : St) (x2 : Int32) (x3 : Int32) (t0 : Int32), J2_tellTakes_31 S x2 x3 t0 = some (r, S') → Zj p l e rm2_tellTakes s m args below meth c D cA σ shC 9 (some (.int r)) S' 31 [(0, .ref (σ 8)), (2, .int x2), (3, .int x3)] [.int t0] S := by
  intro S x2 x3 t0 h
  rw [J2_tellTakes_31] at h
  refine z_istore (pc := 31) (L' := [(4, .int _), (0, .ref _), (2, .int _), (3, .int _)]) X dX2_tellTakes_31 (by decide) rfl ?_
  refine z_aload_n (pc := 33) X dX2_tellTakes_33 rfl 1 rfl ?_
  refine z_get (pc := 34) (v := .ref (σ 5)) X 8 fX2_48 rfl rfl dX2_tellTakes_34 rfl ?_
  refine z_iload_n (pc := 37) X dX2_tellTakes_37 rfl 3 rfl ?_
  refine z_iload_n (pc := 38) X dX2_tellTakes_38 rfl 3 rfl ?_
  refine z_iconst (pc := 39) (v := 1) X dX2_tellTakes_39 (by decide) ?_
  refine z_iadd (pc := 40) X dX2_tellTakes_40 ?_
  refine z_aload_n (pc := 41) X dX2_tellTakes_41 rfl 1 rfl ?_
  refine z_get (pc := 42) (v := .ref (σ 9)) X 8 fX2_11 rfl rfl dX2_tellTakes_42 rfl ?_
  refine z_callVv (pc := 45) (rm := rm0_spread) X 5 [.int _, .int _, .ref (σ 9)] vX2_58 rfl rfl rfl (Nat.le_of_ble_eq_true rfl) ⟨rfl, rfl, Nat.le_of_ble_eq_true rfl, Nat.le_of_ble_eq_true rfl⟩ dX2_tellTakes_45 h (fun _ _ q => cc0_spread_c9 q) (fun _ S1 h => ?_)
  refine z_aload_n (pc := 48) X dX2_tellTakes_48 rfl 1 rfl ?_
  refine z_get (pc := 49) (v := .ref (σ 5)) X 8 fX2_48 rfl rfl dX2_tellTakes_49 rfl ?_
  refine z_iload_n (pc := 52) X dX2_tellTakes_52 rfl 3 rfl ?_
  refine z_callVl (pc := 53) (rm := rm0_sum) X 5 [.int _] vX2_62 rfl rfl rfl (Nat.le_of_ble_eq_true rfl) ⟨rfl, rfl, Nat.le_of_ble_eq_true rfl, Nat.le_of_ble_eq_true rfl⟩ dX2_tellTakes_53 h (fun _ _ q => cc0_sum q) (fun r2 S2 h => ?_)
  refine z_aload_n (pc := 56) X dX2_tellTakes_56 rfl 1 rfl ?_
  refine z_get (pc := 57) (v := .ref (σ 5)) X 8 fX2_48 rfl rfl dX2_tellTakes_57 rfl ?_
  refine z_iload_n (pc := 60) X dX2_tellTakes_60 rfl 3 rfl ?_
  refine z_iconst (pc := 61) (v := 1) X dX2_tellTakes_61 (by decide) ?_
  refine z_iadd (pc := 62) X dX2_tellTakes_62 ?_
  refine z_callVl (pc := 63) (rm := rm0_sum) X 5 [.int _] vX2_62 rfl rfl rfl (Nat.le_of_ble_eq_true rfl) ⟨rfl, rfl, Nat.le_of_ble_eq_true rfl, Nat.le_of_ble_eq_true rfl⟩ dX2_tellTakes_63 h (fun _ _ q => cc0_sum q) (fun r3 S3 h => ?_)
  refine z_lmul (pc := 66) X dX2_tellTakes_66 ?_
  refine z_lstore (pc := 67) (L' := [(5, .long _), (4, .int _), (0, .ref _), (2, .int _), (3, .int _)]) X dX2_tellTakes_67 (by decide) rfl ?_
  refine z_let h (fun h => ?_)
  refine z_aload_n (pc := 69) X dX2_tellTakes_69 rfl 2 rfl ?_
  refine z_aload_n (pc := 70) X dX2_tellTakes_70 rfl 2 rfl ?_
  refine z_get (pc := 71) (v := .ref (σ 5)) X 8 fX2_48 rfl rfl dX2_tellTakes_71 rfl ?_
  refine z_get (pc := 74) (v := .int _) X 5 fX2_66 rfl rfl dX2_tellTakes_74 rfl ?_
  refine z_iload (pc := 77) X dX2_tellTakes_77 1 rfl ?_
  refine z_iload_n (pc := 79) X dX2_tellTakes_79 rfl 3 rfl ?_
  refine z_lload (pc := 80) X dX2_tellTakes_80 0 rfl ?_
  refine z_callVl (pc := 82) (rm := rm2_endsAt) X 8 [.int _, .int _, .int _, .long _] vX2_69 rfl rfl rfl (Nat.le_of_ble_eq_true rfl) ⟨rfl, rfl, Nat.le_of_ble_eq_true rfl, Nat.le_of_ble_eq_true rfl⟩ dX2_tellTakes_82 h (fun _ _ q => cc2_endsAt q) (fun r5 S5 h => ?_)
  refine z_lstore (pc := 85) (L' := [(7, .long _), (5, .long _), (4, .int _), (0, .ref _), (2, .int _), (3, .int _)]) X dX2_tellTakes_85 (by decide) rfl ?_
  refine z_aload_n (pc := 87) X dX2_tellTakes_87 rfl 3 rfl ?_
  refine z_get (pc := 88) (v := .ref (σ 5)) X 8 fX2_48 rfl rfl dX2_tellTakes_88 rfl ?_
  refine z_lload (pc := 91) X dX2_tellTakes_91 0 rfl ?_
  refine z_lload (pc := 93) X dX2_tellTakes_93 1 rfl ?_
  refine z_aload_n (pc := 95) X dX2_tellTakes_95 rfl 3 rfl ?_
  refine z_get (pc := 96) (v := .ref (σ 5)) X 8 fX2_48 rfl rfl dX2_tellTakes_96 rfl ?_
  refine z_get (pc := 99) (v := .int _) X 5 fX2_66 rfl rfl dX2_tellTakes_99 rfl ?_
  refine z_callSl (pc := 102) (rm := rm0_power) X [.long _, .int _] sX2_73 rfl rfl (Nat.le_of_ble_eq_true rfl) ⟨rfl, rfl, Nat.le_of_ble_eq_true rfl, Nat.le_of_ble_eq_true rfl⟩ dX2_tellTakes_102 h (fun _ _ q => cc0_power q) (fun r6 S6 h => ?_)
  refine z_callVi (pc := 105) (rm := rm0_tellFraction) X 5 [.long _, .long _] vX2_77 rfl rfl rfl (Nat.le_of_ble_eq_true rfl) ⟨rfl, rfl, Nat.le_of_ble_eq_true rfl, Nat.le_of_ble_eq_true rfl⟩ dX2_tellTakes_105 h (fun _ _ q => cc0_tellFraction q) (fun r7 S7 h => ?_)
  exact z_iret X rfl dX2_tellTakes_108 h
set_option maxRecDepth 100000 in
set_option maxHeartbeats 4000000 in
theorem zz2_tellTakes_9 {S' : St} {r : Int32} (X : zM p s m args meth c D cA σ shC tS RX2 cX2_tellTakes 9 (some .int)) : ∀ (S : St) (x1 : Int32) (x2 : Int32) (t0 : Int32), J2_tellTakes_9 S x1 x2 t0 = some (r, S') → Zj p l e rm2_tellTakes s m args below meth c D cA σ shC 9 (some (.int r)) S' 9 [(0, .ref (σ 8)), (1, .int x1), (2, .int x2)] [.int t0] S := by
  intro S x1 x2 t0 h
  rw [J2_tellTakes_9] at h
  refine z_istore_n (pc := 9) (L' := [(3, .int _), (0, .ref _), (1, .int _), (2, .int _)]) X dX2_tellTakes_9 rfl (by decide) rfl ?_
  refine z_iload_n (pc := 10) X dX2_tellTakes_10 rfl 2 rfl ?_
  refine z_if_eq (pc := 11) (tgt := 24) X dX2_tellTakes_11 (by decide) h (fun h => ?_) (fun h => ?_)
  · refine z_aload_n (pc := 24) X dX2_tellTakes_24 rfl 1 rfl ?_
    refine z_get (pc := 25) (v := .ref (σ 5)) X 8 fX2_48 rfl rfl dX2_tellTakes_25 rfl ?_
    refine z_get (pc := 28) (v := .int _) X 5 fX2_55 rfl rfl dX2_tellTakes_28 rfl ?_
    exact z_sub [1, 3, 0] rfl (zz2_tellTakes_31 X  _ _ _ _ h)
  · refine z_aload_n (pc := 14) X dX2_tellTakes_14 rfl 1 rfl ?_
    refine z_get (pc := 15) (v := .ref (σ 5)) X 8 fX2_48 rfl rfl dX2_tellTakes_15 rfl ?_
    refine z_get (pc := 18) (v := .int _) X 5 fX2_52 rfl rfl dX2_tellTakes_18 rfl ?_
    refine z_goto (pc := 21) (tgt := 31) X dX2_tellTakes_21 (by decide) ?_
    exact z_sub [1, 3, 0] rfl (zz2_tellTakes_31 X  _ _ _ _ h)
set_option maxRecDepth 100000 in
set_option maxHeartbeats 4000000 in
theorem zz2_tellTakes_0 {S' : St} {r : Int32} (X : zM p s m args meth c D cA σ shC tS RX2 cX2_tellTakes 9 (some .int)) : ∀ (S : St) (x1 : Int32) (x2 : Int32), J2_tellTakes S x1 x2 = some (r, S') → Zj p l e rm2_tellTakes s m args below meth c D cA σ shC 9 (some (.int r)) S' 0 [(0, .ref (σ 8)), (1, .int x1), (2, .int x2)] [] S := by
  intro S x1 x2 h
  rw [J2_tellTakes] at h
  refine z_iload_n (pc := 0) X dX2_tellTakes_0 rfl 1 rfl ?_
  refine z_if_eq (pc := 1) (tgt := 8) X dX2_tellTakes_1 (by decide) h (fun h => ?_) (fun h => ?_)
  · refine z_iconst (pc := 8) (v := 2) X dX2_tellTakes_8 (by decide) ?_
    exact z_sub [0, 1, 2] rfl (zz2_tellTakes_9 X  _ _ _ _ h)
  · refine z_iconst (pc := 4) (v := 0) X dX2_tellTakes_4 (by decide) ?_
    refine z_goto (pc := 5) (tgt := 9) X dX2_tellTakes_5 (by decide) ?_
    exact z_sub [0, 1, 2] rfl (zz2_tellTakes_9 X  _ _ _ _ h)
theorem cc2_tellTakes {l : Launch} {D : va_G} {cA : Nat → ClassId} {σ : Nat → Nat} {tS : Nat} {S S' : St} {x1 : Int32} {x2 : Int32} {r : Int32} (h : J2_tellTakes S x1 x2 = some (r, S')) : zMet l D cA σ shC tS yX2_tellTakes cX2_tellTakes 9 (some .int) rm2_tellTakes [.ref (σ 8), .int x1, .int x2] S (some (.int r)) S' := z_met [(0, .ref (σ 8)), (1, .int x1), (2, .int x2)] (by decide +kernel) (Nat.le_of_ble_eq_true rfl) rfl (fun _ _ _ _ _ _ _ _ X => zz2_tellTakes_0 X _ _ _ h)
set_option maxRecDepth 100000 in
set_option maxHeartbeats 4000000 in
theorem zz3_isLetter_16 {S' : St} {r : Int32} (X : zM p s m args meth c D cA σ shC tS RX3 cX3_isLetter 1 (some .boolean)) : ∀ (S : St) (t0 : Int32), J3_isLetter_16 S t0 = some (r, S') → Zj p l e rm3_isLetter s m args below meth c D cA σ shC 1 (some (.int r)) S' 16 [] [.int t0] S := by
  intro S t0 h
  rw [J3_isLetter_16] at h
  exact z_zret X rfl dX3_isLetter_16 h
set_option maxRecDepth 100000 in
set_option maxHeartbeats 4000000 in
theorem zz3_isLetter_15 {S' : St} {r : Int32} (X : zM p s m args meth c D cA σ shC tS RX3 cX3_isLetter 1 (some .boolean)) : ∀ (S : St), J3_isLetter_15 S = some (r, S') → Zj p l e rm3_isLetter s m args below meth c D cA σ shC 1 (some (.int r)) S' 15 [] [] S := by
  intro S h
  rw [J3_isLetter_15] at h
  refine z_iconst (pc := 15) (v := 0) X dX3_isLetter_15 (by decide) ?_
  exact z_sub [] rfl (zz3_isLetter_16 X  _ _ h)
set_option maxRecDepth 100000 in
set_option maxHeartbeats 4000000 in
theorem zz3_isLetter_0 {S' : St} {r : Int32} (X : zM p s m args meth c D cA σ shC tS RX3 cX3_isLetter 1 (some .boolean)) : ∀ (S : St) (x0 : Int32), J3_isLetter S x0 = some (r, S') → Zj p l e rm3_isLetter s m args below meth c D cA σ shC 1 (some (.int r)) S' 0 [(0, .int x0)] [] S := by
  intro S x0 h
  rw [J3_isLetter] at h
  refine z_iload_n (pc := 0) X dX3_isLetter_0 rfl 0 rfl ?_
  refine z_if_lt (pc := 1) (tgt := 15) X dX3_isLetter_1 (by decide) h (fun h => ?_) (fun h => ?_)
  · exact z_sub [] rfl (zz3_isLetter_15 X  _ h)
  · refine z_iload_n (pc := 4) X dX3_isLetter_4 rfl 0 rfl ?_
    refine z_sipush (pc := 5) (v := 1000) X dX3_isLetter_5 (by decide) ?_
    refine z_icmp_ge (pc := 8) (tgt := 15) X dX3_isLetter_8 (by decide) h (fun h => ?_) (fun h => ?_)
    · exact z_sub [] rfl (zz3_isLetter_15 X  _ h)
    · refine z_iconst (pc := 11) (v := 1) X dX3_isLetter_11 (by decide) ?_
      refine z_goto (pc := 12) (tgt := 16) X dX3_isLetter_12 (by decide) ?_
      exact z_sub [] rfl (zz3_isLetter_16 X  _ _ h)
theorem cc3_isLetter {l : Launch} {D : va_G} {cA : Nat → ClassId} {σ : Nat → Nat} {tS : Nat} {S S' : St} {x0 : Int32} {r : Int32} (h : J3_isLetter S x0 = some (r, S')) : zMet l D cA σ shC tS yX3_isLetter cX3_isLetter 1 (some .boolean) rm3_isLetter [.int x0] S (some (.int r)) S' := z_met [(0, .int x0)] (by decide +kernel) (Nat.le_of_ble_eq_true rfl) rfl (fun _ _ _ _ _ _ _ _ X => zz3_isLetter_0 X _ _ h)
set_option maxRecDepth 100000 in
set_option maxHeartbeats 4000000 in
theorem zz3_link_84 {S' : St} (X : zM p s m args meth c D cA σ shC tS RX3 cX3_link 5 none) : ∀ (S : St), J3_link_84 S = some ((), S') → Zj p l e rm3_link s m args below meth c D cA σ shC 5 none S' 84 [] [] S := by
  intro S h
  rw [J3_link_84] at h
  exact z_vret X rfl dX3_link_84 h
set_option maxRecDepth 100000 in
set_option maxHeartbeats 4000000 in
theorem zz3_link_55 {S' : St} (X : zM p s m args meth c D cA σ shC tS RX3 cX3_link 5 none) : ∀ (S : St) (x1 : Int32) (x2 : Int32) (x3 : Int32), J3_link_55 S x1 x2 x3 = some ((), S') → Zj p l e rm3_link s m args below meth c D cA σ shC 5 none S' 55 [(0, .ref (σ 22)), (1, .int x1), (2, .int x2), (3, .int x3)] [] S := by
  intro S x1 x2 x3 h
  rw [J3_link_55] at h
  refine z_aload_n (pc := 55) X dX3_link_55 rfl 0 rfl ?_
  refine z_get (pc := 56) (v := .ref (σ 24)) X 22 fX3_15 rfl rfl dX3_link_56 rfl ?_
  refine z_iload_n (pc := 59) X dX3_link_59 rfl 1 rfl ?_
  refine z_iload_n (pc := 60) X dX3_link_60 rfl 3 rfl ?_
  refine z_iast (pc := 61) X 24 rfl dX3_link_61 h (fun h => ?_)
  refine z_let h (fun h => ?_)
  refine z_iload_n (pc := 62) X dX3_link_62 rfl 2 rfl ?_
  refine z_callSi (pc := 63) (rm := rm3_isLetter) X [.int _] sX3_44 rfl rfl (Nat.le_of_ble_eq_true rfl) ⟨rfl, rfl, Nat.le_of_ble_eq_true rfl, Nat.le_of_ble_eq_true rfl⟩ dX3_link_63 h (fun _ _ q => cc3_isLetter q) (fun r2 S2 h => ?_)
  refine z_if_eq (pc := 66) (tgt := 79) X dX3_link_66 (by decide) h (fun h => ?_) (fun h => ?_)
  · refine z_aload_n (pc := 79) X dX3_link_79 rfl 0 rfl ?_
    refine z_iload_n (pc := 80) X dX3_link_80 rfl 1 rfl ?_
    refine z_putI (pc := 81) X 22 gX3_34 rfl rfl dX3_link_81 ?_
    refine z_let h (fun h => ?_)
    exact z_sub [] rfl (zz3_link_84 X  _ h)
  · refine z_aload_n (pc := 69) X dX3_link_69 rfl 0 rfl ?_
    refine z_get (pc := 70) (v := .ref (σ 24)) X 22 fX3_15 rfl rfl dX3_link_70 rfl ?_
    refine z_iload_n (pc := 73) X dX3_link_73 rfl 2 rfl ?_
    refine z_iload_n (pc := 74) X dX3_link_74 rfl 1 rfl ?_
    refine z_iast (pc := 75) X 24 rfl dX3_link_75 h (fun h => ?_)
    refine z_let h (fun h => ?_)
    refine z_goto (pc := 76) (tgt := 84) X dX3_link_76 (by decide) ?_
    exact z_sub [] rfl (zz3_link_84 X  _ h)
set_option maxRecDepth 100000 in
set_option maxHeartbeats 4000000 in
theorem zz3_link_10 {S' : St} (X : zM p s m args meth c D cA σ shC tS RX3 cX3_link 5 none) : ∀ (n : Nat) (S : St) (x1 : Int32) (x2 : Int32) (x3 : Int32) (x4 : Int32), J3_link_10 n S x1 x2 x3 x4 = some ((), S') → Zj p l e rm3_link s m args below meth c D cA σ shC 5 none S' 10 [(0, .ref (σ 22)), (1, .int x1), (2, .int x2), (3, .int x3), (4, .int x4)] [] S := by
  intro n
  induction n with
  | zero =>
    intro S x1 x2 x3 x4 h
    rw [J3_link_10] at h
    cases h
  | succ n ih =>
    intro S x1 x2 x3 x4 h
    rw [J3_link_10] at h
    refine z_iload (pc := 10) X dX3_link_10 4 rfl ?_
    refine z_sipush (pc := 12) (v := 1000) X dX3_link_12 (by decide) ?_
    refine z_icmp_ge (pc := 15) (tgt := 55) X dX3_link_15 (by decide) h (fun h => ?_) (fun h => ?_)
    · exact z_sub [0, 1, 2, 3] rfl (zz3_link_55 X  _ _ _ _ h)
    · refine z_iload_n (pc := 18) X dX3_link_18 rfl 3 rfl ?_
      refine z_callSi (pc := 19) (rm := rm3_isLetter) X [.int _] sX3_44 rfl rfl (Nat.le_of_ble_eq_true rfl) ⟨rfl, rfl, Nat.le_of_ble_eq_true rfl, Nat.le_of_ble_eq_true rfl⟩ dX3_link_19 h (fun _ _ q => cc3_isLetter q) (fun r1 S1 h => ?_)
      refine z_if_eq (pc := 22) (tgt := 55) X dX3_link_22 (by decide) h (fun h => ?_) (fun h => ?_)
      · exact z_sub [0, 1, 2, 3] rfl (zz3_link_55 X  _ _ _ _ h)
      · refine z_aload_n (pc := 25) X dX3_link_25 rfl 0 rfl ?_
        refine z_get (pc := 26) (v := .ref (σ 23)) X 22 fX3_11 rfl rfl dX3_link_26 rfl ?_
        refine z_iload_n (pc := 29) X dX3_link_29 rfl 3 rfl ?_
        refine z_iald (pc := 30) X 23 rfl dX3_link_30 h (fun h => ?_)
        refine z_aload_n (pc := 31) X dX3_link_31 rfl 0 rfl ?_
        refine z_get (pc := 32) (v := .ref (σ 23)) X 22 fX3_11 rfl rfl dX3_link_32 rfl ?_
        refine z_iload_n (pc := 35) X dX3_link_35 rfl 1 rfl ?_
        refine z_iald (pc := 36) X 23 rfl dX3_link_36 h (fun h => ?_)
        refine z_icmp_gt (pc := 37) (tgt := 55) X dX3_link_37 (by decide) h (fun h => ?_) (fun h => ?_)
        · exact z_sub [0, 1, 2, 3] rfl (zz3_link_55 X  _ _ _ _ h)
        · refine z_iload_n (pc := 40) X dX3_link_40 rfl 3 rfl ?_
          refine z_istore_n (pc := 41) (L' := [(2, .int _), (0, .ref _), (1, .int _), (3, .int _), (4, .int _)]) X dX3_link_41 rfl (by decide) rfl ?_
          refine z_aload_n (pc := 42) X dX3_link_42 rfl 1 rfl ?_
          refine z_get (pc := 43) (v := .ref (σ 24)) X 22 fX3_15 rfl rfl dX3_link_43 rfl ?_
          refine z_iload_n (pc := 46) X dX3_link_46 rfl 3 rfl ?_
          refine z_iald (pc := 47) X 24 rfl dX3_link_47 h (fun h => ?_)
          refine z_istore_n (pc := 48) (L' := [(3, .int _), (2, .int _), (0, .ref _), (1, .int _), (4, .int _)]) X dX3_link_48 rfl (by decide) rfl ?_
          refine z_let h (fun h => ?_)
          refine z_iinc (pc := 49) (k := 4) (v := 1) (L' := [(4, .int _), (3, .int _), (2, .int _), (0, .ref _), (1, .int _)]) X dX3_link_49 rfl (by decide) (by decide) rfl ?_
          refine z_let h (fun h => ?_)
          refine z_goto (pc := 52) (tgt := 10) X dX3_link_52 (by decide) ?_
          exact z_sub [3, 4, 2, 1, 0] rfl (ih _ _ _ _ _ h)
set_option maxRecDepth 100000 in
set_option maxHeartbeats 4000000 in
theorem zz3_link_0 {S' : St} (X : zM p s m args meth c D cA σ shC tS RX3 cX3_link 5 none) : ∀ (S : St) (x1 : Int32), J3_link S x1 = some ((), S') → Zj p l e rm3_link s m args below meth c D cA σ shC 5 none S' 0 [(0, .ref (σ 22)), (1, .int x1)] [] S := by
  intro S x1 h
  rw [J3_link] at h
  refine z_iconst (pc := 0) (v := -1) X dX3_link_0 (by decide) ?_
  refine z_istore_n (pc := 1) (L' := [(2, .int _), (0, .ref _), (1, .int _)]) X dX3_link_1 rfl (by decide) rfl ?_
  refine z_aload_n (pc := 2) X dX3_link_2 rfl 1 rfl ?_
  refine z_get (pc := 3) (v := .int _) X 22 fX3_34 rfl rfl dX3_link_3 rfl ?_
  refine z_istore_n (pc := 6) (L' := [(3, .int _), (2, .int _), (0, .ref _), (1, .int _)]) X dX3_link_6 rfl (by decide) rfl ?_
  refine z_let h (fun h => ?_)
  refine z_iconst (pc := 7) (v := 0) X dX3_link_7 (by decide) ?_
  refine z_istore (pc := 8) (L' := [(4, .int _), (3, .int _), (2, .int _), (0, .ref _), (1, .int _)]) X dX3_link_8 (by decide) rfl ?_
  exact z_sub [3, 4, 2, 1, 0] rfl (zz3_link_10 X  fu _ _ _ _ _ h)
theorem cc3_link {l : Launch} {D : va_G} {cA : Nat → ClassId} {σ : Nat → Nat} {tS : Nat} {S S' : St} {x1 : Int32} (h : J3_link S x1 = some ((), S')) : zMet l D cA σ shC tS yX3_link cX3_link 5 none rm3_link [.ref (σ 22), .int x1] S none S' := z_met [(0, .ref (σ 22)), (1, .int x1)] (by decide +kernel) (Nat.le_of_ble_eq_true rfl) rfl (fun _ _ _ _ _ _ _ _ X => zz3_link_0 X _ _ h)
set_option maxRecDepth 100000 in
set_option maxHeartbeats 4000000 in
theorem zz3_renew_0 {S' : St} (X : zM p s m args meth c D cA σ shC tS RX3 cX3_renew 1 none) : ∀ (S : St), J3_renew S = some ((), S') → Zj p l e rm3_renew s m args below meth c D cA σ shC 1 none S' 0 [(0, .ref (σ 22))] [] S := by
  intro S h
  rw [J3_renew] at h
  refine z_aload_n (pc := 0) X dX3_renew_0 rfl 0 rfl ?_
  refine z_iconst (pc := 1) (v := 0) X dX3_renew_1 (by decide) ?_
  refine z_putI (pc := 2) X 22 gX3_30 rfl rfl dX3_renew_2 ?_
  refine z_let h (fun h => ?_)
  refine z_aload_n (pc := 5) X dX3_renew_5 rfl 0 rfl ?_
  refine z_iconst (pc := 6) (v := -1) X dX3_renew_6 (by decide) ?_
  refine z_putI (pc := 7) X 22 gX3_34 rfl rfl dX3_renew_7 ?_
  refine z_let h (fun h => ?_)
  refine z_aload_n (pc := 10) X dX3_renew_10 rfl 0 rfl ?_
  refine z_iconst (pc := 11) (v := 0) X dX3_renew_11 (by decide) ?_
  refine z_putI (pc := 12) X 22 gX3_37 rfl rfl dX3_renew_12 ?_
  refine z_let h (fun h => ?_)
  exact z_vret X rfl dX3_renew_15 h
theorem cc3_renew {l : Launch} {D : va_G} {cA : Nat → ClassId} {σ : Nat → Nat} {tS : Nat} {S S' : St} (h : J3_renew S = some ((), S')) : zMet l D cA σ shC tS yX3_renew cX3_renew 1 none rm3_renew [.ref (σ 22)] S none S' := z_met [(0, .ref (σ 22))] (by decide +kernel) (Nat.le_of_ble_eq_true rfl) rfl (fun _ _ _ _ _ _ _ _ X => zz3_renew_0 X _ h)
set_option maxRecDepth 100000 in
set_option maxHeartbeats 4000000 in
theorem zz3_send_0 {S' : St} (X : zM p s m args meth c D cA σ shC tS RX3 cX3_send 7 none) : ∀ (S : St) (x1 : Int32) (x2 : Int32) (x3 : Int32) (x4 : Int32) (x5 : Int32), J3_send S x1 x2 x3 x4 x5 = some ((), S') → Zj p l e rm3_send s m args below meth c D cA σ shC 7 none S' 0 [(0, .ref (σ 22)), (1, .int x1), (2, .int x2), (3, .int x3), (4, .int x4), (5, .int x5)] [] S := by
  intro S x1 x2 x3 x4 x5 h
  rw [J3_send] at h
  refine z_aload_n (pc := 0) X dX3_send_0 rfl 0 rfl ?_
  refine z_get (pc := 1) (v := .int _) X 22 fX3_30 rfl rfl dX3_send_1 rfl ?_
  refine z_sipush (pc := 4) (v := 1000) X dX3_send_4 (by decide) ?_
  refine z_icmp_lt (pc := 7) (tgt := 11) X dX3_send_7 (by decide) h (fun h => ?_) (fun h => ?_)
  · refine z_aload_n (pc := 11) X dX3_send_11 rfl 0 rfl ?_
    refine z_dup (pc := 12) X dX3_send_12 rfl ?_
    refine z_get (pc := 13) (v := .int _) X 22 fX3_30 rfl rfl dX3_send_13 rfl ?_
    refine z_dup_x1 (pc := 16) X dX3_send_16 rfl rfl ?_
    refine z_iconst (pc := 17) (v := 1) X dX3_send_17 (by decide) ?_
    refine z_iadd (pc := 18) X dX3_send_18 ?_
    refine z_putI (pc := 19) X 22 gX3_30 rfl rfl dX3_send_19 ?_
    refine z_let h (fun h => ?_)
    refine z_istore (pc := 22) (L' := [(6, .int _), (0, .ref _), (1, .int _), (2, .int _), (3, .int _), (4, .int _), (5, .int _)]) X dX3_send_22 (by decide) rfl ?_
    refine z_let h (fun h => ?_)
    refine z_aload_n (pc := 24) X dX3_send_24 rfl 1 rfl ?_
    refine z_dup (pc := 25) X dX3_send_25 rfl ?_
    refine z_get (pc := 26) (v := .int _) X 22 fX3_37 rfl rfl dX3_send_26 rfl ?_
    refine z_iconst (pc := 29) (v := 1) X dX3_send_29 (by decide) ?_
    refine z_iadd (pc := 30) X dX3_send_30 ?_
    refine z_putI (pc := 31) X 22 gX3_37 rfl rfl dX3_send_31 ?_
    refine z_let h (fun h => ?_)
    refine z_aload_n (pc := 34) X dX3_send_34 rfl 1 rfl ?_
    refine z_get (pc := 35) (v := .ref (σ 23)) X 22 fX3_11 rfl rfl dX3_send_35 rfl ?_
    refine z_iload (pc := 38) X dX3_send_38 0 rfl ?_
    refine z_iload_n (pc := 40) X dX3_send_40 rfl 2 rfl ?_
    refine z_iast (pc := 41) X 23 rfl dX3_send_41 h (fun h => ?_)
    refine z_let h (fun h => ?_)
    refine z_aload_n (pc := 42) X dX3_send_42 rfl 1 rfl ?_
    refine z_get (pc := 43) (v := .ref (σ 26)) X 22 fX3_21 rfl rfl dX3_send_43 rfl ?_
    refine z_iload (pc := 46) X dX3_send_46 0 rfl ?_
    refine z_iload_n (pc := 48) X dX3_send_48 rfl 3 rfl ?_
    refine z_iast (pc := 49) X 26 rfl dX3_send_49 h (fun h => ?_)
    refine z_let h (fun h => ?_)
    refine z_aload_n (pc := 50) X dX3_send_50 rfl 1 rfl ?_
    refine z_get (pc := 51) (v := .ref (σ 25)) X 22 fX3_18 rfl rfl dX3_send_51 rfl ?_
    refine z_iload (pc := 54) X dX3_send_54 0 rfl ?_
    refine z_iload_n (pc := 56) X dX3_send_56 rfl 4 rfl ?_
    refine z_iast (pc := 57) X 25 rfl dX3_send_57 h (fun h => ?_)
    refine z_let h (fun h => ?_)
    refine z_aload_n (pc := 58) X dX3_send_58 rfl 1 rfl ?_
    refine z_get (pc := 59) (v := .ref (σ 27)) X 22 fX3_24 rfl rfl dX3_send_59 rfl ?_
    refine z_iload (pc := 62) X dX3_send_62 0 rfl ?_
    refine z_iload (pc := 64) X dX3_send_64 5 rfl ?_
    refine z_iast (pc := 66) X 27 rfl dX3_send_66 h (fun h => ?_)
    refine z_let h (fun h => ?_)
    refine z_aload_n (pc := 67) X dX3_send_67 rfl 1 rfl ?_
    refine z_get (pc := 68) (v := .ref (σ 28)) X 22 fX3_27 rfl rfl dX3_send_68 rfl ?_
    refine z_iload (pc := 71) X dX3_send_71 0 rfl ?_
    refine z_iload (pc := 73) X dX3_send_73 6 rfl ?_
    refine z_iast (pc := 75) X 28 rfl dX3_send_75 h (fun h => ?_)
    refine z_let h (fun h => ?_)
    refine z_aload_n (pc := 76) X dX3_send_76 rfl 1 rfl ?_
    refine z_iload (pc := 77) X dX3_send_77 0 rfl ?_
    refine z_callVv (pc := 79) (rm := rm3_link) X 22 [.int _] vX3_40 rfl rfl rfl (Nat.le_of_ble_eq_true rfl) ⟨rfl, rfl, Nat.le_of_ble_eq_true rfl, Nat.le_of_ble_eq_true rfl⟩ dX3_send_79 h (fun _ _ q => cc3_link q) (fun _ S9 h => ?_)
    exact z_vret X rfl dX3_send_82 h
  · exact z_vret X rfl dX3_send_10 h
theorem cc3_send {l : Launch} {D : va_G} {cA : Nat → ClassId} {σ : Nat → Nat} {tS : Nat} {S S' : St} {x1 : Int32} {x2 : Int32} {x3 : Int32} {x4 : Int32} {x5 : Int32} (h : J3_send S x1 x2 x3 x4 x5 = some ((), S')) : zMet l D cA σ shC tS yX3_send cX3_send 7 none rm3_send [.ref (σ 22), .int x1, .int x2, .int x3, .int x4, .int x5] S none S' := z_met [(0, .ref (σ 22)), (1, .int x1), (2, .int x2), (3, .int x3), (4, .int x4), (5, .int x5)] (by decide +kernel) (Nat.le_of_ble_eq_true rfl) rfl (fun _ _ _ _ _ _ _ _ X => zz3_send_0 X _ _ _ _ _ _ h)
set_option maxRecDepth 100000 in
set_option maxHeartbeats 4000000 in
theorem zz3_takeDue_23 {S' : St} {r : Int32} (X : zM p s m args meth c D cA σ shC tS RX3 cX3_takeDue 3 (some .int)) : ∀ (S : St), J3_takeDue_23 S = some (r, S') → Zj p l e rm3_takeDue s m args below meth c D cA σ shC 3 (some (.int r)) S' 23 [] [] S := by
  intro S h
  rw [J3_takeDue_23] at h
  refine z_iconst (pc := 23) (v := -1) X dX3_takeDue_23 (by decide) ?_
  exact z_iret X rfl dX3_takeDue_24 h
set_option maxRecDepth 100000 in
set_option maxHeartbeats 4000000 in
theorem zz3_takeDue_0 {S' : St} {r : Int32} (X : zM p s m args meth c D cA σ shC tS RX3 cX3_takeDue 3 (some .int)) : ∀ (S : St) (x1 : Int32), J3_takeDue S x1 = some (r, S') → Zj p l e rm3_takeDue s m args below meth c D cA σ shC 3 (some (.int r)) S' 0 [(0, .ref (σ 22)), (1, .int x1)] [] S := by
  intro S x1 h
  rw [J3_takeDue] at h
  refine z_aload_n (pc := 0) X dX3_takeDue_0 rfl 0 rfl ?_
  refine z_get (pc := 1) (v := .int _) X 22 fX3_34 rfl rfl dX3_takeDue_1 rfl ?_
  refine z_callSi (pc := 4) (rm := rm3_isLetter) X [.int _] sX3_44 rfl rfl (Nat.le_of_ble_eq_true rfl) ⟨rfl, rfl, Nat.le_of_ble_eq_true rfl, Nat.le_of_ble_eq_true rfl⟩ dX3_takeDue_4 h (fun _ _ q => cc3_isLetter q) (fun r1 S1 h => ?_)
  refine z_if_eq (pc := 7) (tgt := 23) X dX3_takeDue_7 (by decide) h (fun h => ?_) (fun h => ?_)
  · exact z_sub [] rfl (zz3_takeDue_23 X  _ h)
  · refine z_aload_n (pc := 10) X dX3_takeDue_10 rfl 0 rfl ?_
    refine z_get (pc := 11) (v := .ref (σ 23)) X 22 fX3_11 rfl rfl dX3_takeDue_11 rfl ?_
    refine z_aload_n (pc := 14) X dX3_takeDue_14 rfl 0 rfl ?_
    refine z_get (pc := 15) (v := .int _) X 22 fX3_34 rfl rfl dX3_takeDue_15 rfl ?_
    refine z_iald (pc := 18) X 23 rfl dX3_takeDue_18 h (fun h => ?_)
    refine z_iload_n (pc := 19) X dX3_takeDue_19 rfl 1 rfl ?_
    refine z_icmp_le (pc := 20) (tgt := 25) X dX3_takeDue_20 (by decide) h (fun h => ?_) (fun h => ?_)
    · refine z_aload_n (pc := 25) X dX3_takeDue_25 rfl 0 rfl ?_
      refine z_get (pc := 26) (v := .int _) X 22 fX3_34 rfl rfl dX3_takeDue_26 rfl ?_
      refine z_istore_n (pc := 29) (L' := [(2, .int _), (0, .ref _), (1, .int _)]) X dX3_takeDue_29 rfl (by decide) rfl ?_
      refine z_let h (fun h => ?_)
      refine z_aload_n (pc := 30) X dX3_takeDue_30 rfl 1 rfl ?_
      refine z_aload_n (pc := 31) X dX3_takeDue_31 rfl 1 rfl ?_
      refine z_get (pc := 32) (v := .ref (σ 24)) X 22 fX3_15 rfl rfl dX3_takeDue_32 rfl ?_
      refine z_iload_n (pc := 35) X dX3_takeDue_35 rfl 0 rfl ?_
      refine z_iald (pc := 36) X 24 rfl dX3_takeDue_36 h (fun h => ?_)
      refine z_putI (pc := 37) X 22 gX3_34 rfl rfl dX3_takeDue_37 ?_
      refine z_let h (fun h => ?_)
      refine z_aload_n (pc := 40) X dX3_takeDue_40 rfl 1 rfl ?_
      refine z_dup (pc := 41) X dX3_takeDue_41 rfl ?_
      refine z_get (pc := 42) (v := .int _) X 22 fX3_37 rfl rfl dX3_takeDue_42 rfl ?_
      refine z_iconst (pc := 45) (v := 1) X dX3_takeDue_45 (by decide) ?_
      refine z_isub (pc := 46) X dX3_takeDue_46 ?_
      refine z_putI (pc := 47) X 22 gX3_37 rfl rfl dX3_takeDue_47 ?_
      refine z_let h (fun h => ?_)
      refine z_iload_n (pc := 50) X dX3_takeDue_50 rfl 0 rfl ?_
      exact z_iret X rfl dX3_takeDue_51 h
    · exact z_sub [] rfl (zz3_takeDue_23 X  _ h)
theorem cc3_takeDue {l : Launch} {D : va_G} {cA : Nat → ClassId} {σ : Nat → Nat} {tS : Nat} {S S' : St} {x1 : Int32} {r : Int32} (h : J3_takeDue S x1 = some (r, S')) : zMet l D cA σ shC tS yX3_takeDue cX3_takeDue 3 (some .int) rm3_takeDue [.ref (σ 22), .int x1] S (some (.int r)) S' := z_met [(0, .ref (σ 22)), (1, .int x1)] (by decide +kernel) (Nat.le_of_ble_eq_true rfl) rfl (fun _ _ _ _ _ _ _ _ X => zz3_takeDue_0 X _ _ h)
set_option maxRecDepth 100000 in
set_option maxHeartbeats 4000000 in
theorem zz3_tickOf_0 {S' : St} {r : Int32} (X : zM p s m args meth c D cA σ shC tS RX3 cX3_tickOf 2 (some .int)) : ∀ (S : St) (x1 : Int32), J3_tickOf S x1 = some (r, S') → Zj p l e rm3_tickOf s m args below meth c D cA σ shC 2 (some (.int r)) S' 0 [(0, .ref (σ 22)), (1, .int x1)] [] S := by
  intro S x1 h
  rw [J3_tickOf] at h
  refine z_aload_n (pc := 0) X dX3_tickOf_0 rfl 0 rfl ?_
  refine z_get (pc := 1) (v := .ref (σ 23)) X 22 fX3_11 rfl rfl dX3_tickOf_1 rfl ?_
  refine z_iload_n (pc := 4) X dX3_tickOf_4 rfl 1 rfl ?_
  refine z_iald (pc := 5) X 23 rfl dX3_tickOf_5 h (fun h => ?_)
  exact z_iret X rfl dX3_tickOf_6 h
theorem cc3_tickOf {l : Launch} {D : va_G} {cA : Nat → ClassId} {σ : Nat → Nat} {tS : Nat} {S S' : St} {x1 : Int32} {r : Int32} (h : J3_tickOf S x1 = some (r, S')) : zMet l D cA σ shC tS yX3_tickOf cX3_tickOf 2 (some .int) rm3_tickOf [.ref (σ 22), .int x1] S (some (.int r)) S' := z_met [(0, .ref (σ 22)), (1, .int x1)] (by decide +kernel) (Nat.le_of_ble_eq_true rfl) rfl (fun _ _ _ _ _ _ _ _ X => zz3_tickOf_0 X _ _ h)
set_option maxRecDepth 100000 in
set_option maxHeartbeats 4000000 in
theorem zz4_add_50 {S' : St} {r : Int32} (X : zM p s m args meth c D cA σ shC tS RX4 cX4_add 5 (some .int)) : ∀ (n : Nat) (S : St) (x3 : Int32) (x4 : Int32), J4_add_50 n S x3 x4 = some (r, S') → Zj p l e rm4_add s m args below meth c D cA σ shC 5 (some (.int r)) S' 50 [(0, .ref (σ 32)), (3, .int x3), (4, .int x4)] [] S := by
  intro n
  induction n with
  | zero =>
    intro S x3 x4 h
    rw [J4_add_50] at h
    cases h
  | succ n ih =>
    intro S x3 x4 h
    rw [J4_add_50] at h
    refine z_iload (pc := 50) X dX4_add_50 2 rfl ?_
    refine z_iconst (pc := 52) (v := 5) X dX4_add_52 (by decide) ?_
    refine z_icmp_ge (pc := 53) (tgt := 74) X dX4_add_53 (by decide) h (fun h => ?_) (fun h => ?_)
    · refine z_iload_n (pc := 74) X dX4_add_74 rfl 1 rfl ?_
      exact z_iret X rfl dX4_add_75 h
    · refine z_aload_n (pc := 56) X dX4_add_56 rfl 0 rfl ?_
      refine z_get (pc := 57) (v := .ref (σ 40)) X 32 fX4_33 rfl rfl dX4_add_57 rfl ?_
      refine z_iload_n (pc := 60) X dX4_add_60 rfl 1 rfl ?_
      refine z_iconst (pc := 61) (v := 5) X dX4_add_61 (by decide) ?_
      refine z_imul (pc := 62) X dX4_add_62 ?_
      refine z_iload (pc := 63) X dX4_add_63 2 rfl ?_
      refine z_iadd (pc := 65) X dX4_add_65 ?_
      refine z_iconst (pc := 66) (v := -1) X dX4_add_66 (by decide) ?_
      refine z_iast (pc := 67) X 40 rfl dX4_add_67 h (fun h => ?_)
      refine z_let h (fun h => ?_)
      refine z_iinc (pc := 68) (k := 2) (v := 1) (L' := [(4, .int _), (0, .ref _), (3, .int _)]) X dX4_add_68 rfl (by decide) (by decide) rfl ?_
      refine z_let h (fun h => ?_)
      refine z_goto (pc := 71) (tgt := 50) X dX4_add_71 (by decide) ?_
      exact z_sub [1, 2, 0] rfl (ih _ _ _ h)
set_option maxRecDepth 100000 in
set_option maxHeartbeats 4000000 in
theorem zz4_add_0 {S' : St} {r : Int32} (X : zM p s m args meth c D cA σ shC tS RX4 cX4_add 5 (some .int)) : ∀ (S : St) (x1 : Int32) (x2 : Int32), J4_add S x1 x2 = some (r, S') → Zj p l e rm4_add s m args below meth c D cA σ shC 5 (some (.int r)) S' 0 [(0, .ref (σ 32)), (1, .int x1), (2, .int x2)] [] S := by
  intro S x1 x2 h
  rw [J4_add] at h
  refine z_aload_n (pc := 0) X dX4_add_0 rfl 0 rfl ?_
  refine z_dup (pc := 1) X dX4_add_1 rfl ?_
  refine z_get (pc := 2) (v := .int _) X 32 fX4_36 rfl rfl dX4_add_2 rfl ?_
  refine z_dup_x1 (pc := 5) X dX4_add_5 rfl rfl ?_
  refine z_iconst (pc := 6) (v := 1) X dX4_add_6 (by decide) ?_
  refine z_iadd (pc := 7) X dX4_add_7 ?_
  refine z_putI (pc := 8) X 32 gX4_36 rfl rfl dX4_add_8 ?_
  refine z_let h (fun h => ?_)
  refine z_istore_n (pc := 11) (L' := [(3, .int _), (0, .ref _), (1, .int _), (2, .int _)]) X dX4_add_11 rfl (by decide) rfl ?_
  refine z_let h (fun h => ?_)
  refine z_aload_n (pc := 12) X dX4_add_12 rfl 1 rfl ?_
  refine z_get (pc := 13) (v := .ref (σ 33)) X 32 fX4_9 rfl rfl dX4_add_13 rfl ?_
  refine z_iload_n (pc := 16) X dX4_add_16 rfl 0 rfl ?_
  refine z_iload_n (pc := 17) X dX4_add_17 rfl 2 rfl ?_
  refine z_iast (pc := 18) X 33 rfl dX4_add_18 h (fun h => ?_)
  refine z_let h (fun h => ?_)
  refine z_aload_n (pc := 19) X dX4_add_19 rfl 1 rfl ?_
  refine z_get (pc := 20) (v := .ref (σ 34)) X 32 fX4_15 rfl rfl dX4_add_20 rfl ?_
  refine z_iload_n (pc := 23) X dX4_add_23 rfl 0 rfl ?_
  refine z_iload_n (pc := 24) X dX4_add_24 rfl 3 rfl ?_
  refine z_iast (pc := 25) X 34 rfl dX4_add_25 h (fun h => ?_)
  refine z_let h (fun h => ?_)
  refine z_aload_n (pc := 26) X dX4_add_26 rfl 1 rfl ?_
  refine z_get (pc := 27) (v := .ref (σ 35)) X 32 fX4_18 rfl rfl dX4_add_27 rfl ?_
  refine z_iload_n (pc := 30) X dX4_add_30 rfl 0 rfl ?_
  refine z_iconst (pc := 31) (v := 0) X dX4_add_31 (by decide) ?_
  refine z_iast (pc := 32) X 35 rfl dX4_add_32 h (fun h => ?_)
  refine z_let h (fun h => ?_)
  refine z_aload_n (pc := 33) X dX4_add_33 rfl 1 rfl ?_
  refine z_get (pc := 34) (v := .ref (σ 36)) X 32 fX4_21 rfl rfl dX4_add_34 rfl ?_
  refine z_iload_n (pc := 37) X dX4_add_37 rfl 0 rfl ?_
  refine z_iconst (pc := 38) (v := -1) X dX4_add_38 (by decide) ?_
  refine z_iast (pc := 39) X 36 rfl dX4_add_39 h (fun h => ?_)
  refine z_let h (fun h => ?_)
  refine z_aload_n (pc := 40) X dX4_add_40 rfl 1 rfl ?_
  refine z_get (pc := 41) (v := .ref (σ 39)) X 32 fX4_30 rfl rfl dX4_add_41 rfl ?_
  refine z_iload_n (pc := 44) X dX4_add_44 rfl 0 rfl ?_
  refine z_iconst (pc := 45) (v := 0) X dX4_add_45 (by decide) ?_
  refine z_iast (pc := 46) X 39 rfl dX4_add_46 h (fun h => ?_)
  refine z_let h (fun h => ?_)
  refine z_iconst (pc := 47) (v := 0) X dX4_add_47 (by decide) ?_
  refine z_istore (pc := 48) (L' := [(4, .int _), (3, .int _), (0, .ref _), (1, .int _), (2, .int _)]) X dX4_add_48 (by decide) rfl ?_
  exact z_sub [2, 1, 0] rfl (zz4_add_50 X  fu _ _ _ h)
theorem cc4_add {l : Launch} {D : va_G} {cA : Nat → ClassId} {σ : Nat → Nat} {tS : Nat} {S S' : St} {x1 : Int32} {x2 : Int32} {r : Int32} (h : J4_add S x1 x2 = some (r, S')) : zMet l D cA σ shC tS yX4_add cX4_add 5 (some .int) rm4_add [.ref (σ 32), .int x1, .int x2] S (some (.int r)) S' := z_met [(0, .ref (σ 32)), (1, .int x1), (2, .int x2)] (by decide +kernel) (Nat.le_of_ble_eq_true rfl) rfl (fun _ _ _ _ _ _ _ _ X => zz4_add_0 X _ _ _ h)
set_option maxRecDepth 100000 in
set_option maxHeartbeats 4000000 in
theorem zz4_answeredLesser_31 {S' : St} {r : Int32} (X : zM p s m args meth c D cA σ shC tS RX4 cX4_answeredLesser 4 (some .boolean)) : ∀ (S : St) (t0 : Int32), J4_answeredLesser_31 S t0 = some (r, S') → Zj p l e rm4_answeredLesser s m args below meth c D cA σ shC 4 (some (.int r)) S' 31 [] [.int t0] S := by
  intro S t0 h
  rw [J4_answeredLesser_31] at h
  exact z_zret X rfl dX4_answeredLesser_31 h
set_option maxRecDepth 100000 in
set_option maxHeartbeats 4000000 in
theorem zz4_answeredLesser_30 {S' : St} {r : Int32} (X : zM p s m args meth c D cA σ shC tS RX4 cX4_answeredLesser 4 (some .boolean)) : ∀ (S : St), J4_answeredLesser_30 S = some (r, S') → Zj p l e rm4_answeredLesser s m args below meth c D cA σ shC 4 (some (.int r)) S' 30 [] [] S := by
  intro S h
  rw [J4_answeredLesser_30] at h
  refine z_iconst (pc := 30) (v := 0) X dX4_answeredLesser_30 (by decide) ?_
  exact z_sub [] rfl (zz4_answeredLesser_31 X  _ _ h)
set_option maxRecDepth 100000 in
set_option maxHeartbeats 4000000 in
theorem zz4_answeredLesser_0 {S' : St} {r : Int32} (X : zM p s m args meth c D cA σ shC tS RX4 cX4_answeredLesser 4 (some .boolean)) : ∀ (S : St) (x1 : Int32) (x2 : Int32), J4_answeredLesser S x1 x2 = some (r, S') → Zj p l e rm4_answeredLesser s m args below meth c D cA σ shC 4 (some (.int r)) S' 0 [(0, .ref (σ 32)), (1, .int x1), (2, .int x2)] [] S := by
  intro S x1 x2 h
  rw [J4_answeredLesser] at h
  refine z_aload_n (pc := 0) X dX4_answeredLesser_0 rfl 0 rfl ?_
  refine z_get (pc := 1) (v := .ref (σ 40)) X 32 fX4_33 rfl rfl dX4_answeredLesser_1 rfl ?_
  refine z_iload_n (pc := 4) X dX4_answeredLesser_4 rfl 1 rfl ?_
  refine z_iconst (pc := 5) (v := 5) X dX4_answeredLesser_5 (by decide) ?_
  refine z_imul (pc := 6) X dX4_answeredLesser_6 ?_
  refine z_iload_n (pc := 7) X dX4_answeredLesser_7 rfl 2 rfl ?_
  refine z_iadd (pc := 8) X dX4_answeredLesser_8 ?_
  refine z_iald (pc := 9) X 40 rfl dX4_answeredLesser_9 h (fun h => ?_)
  refine z_istore_n (pc := 10) (L' := [(3, .int _), (0, .ref _), (1, .int _), (2, .int _)]) X dX4_answeredLesser_10 rfl (by decide) rfl ?_
  refine z_let h (fun h => ?_)
  refine z_iload_n (pc := 11) X dX4_answeredLesser_11 rfl 0 rfl ?_
  refine z_iconst (pc := 12) (v := -1) X dX4_answeredLesser_12 (by decide) ?_
  refine z_icmp_eq (pc := 13) (tgt := 30) X dX4_answeredLesser_13 (by decide) h (fun h => ?_) (fun h => ?_)
  · exact z_sub [] rfl (zz4_answeredLesser_30 X  _ h)
  · refine z_iload_n (pc := 16) X dX4_answeredLesser_16 rfl 0 rfl ?_
    refine z_aload_n (pc := 17) X dX4_answeredLesser_17 rfl 1 rfl ?_
    refine z_get (pc := 18) (v := .ref (σ 35)) X 32 fX4_18 rfl rfl dX4_answeredLesser_18 rfl ?_
    refine z_iload_n (pc := 21) X dX4_answeredLesser_21 rfl 2 rfl ?_
    refine z_iald (pc := 22) X 35 rfl dX4_answeredLesser_22 h (fun h => ?_)
    refine z_icmp_ge (pc := 23) (tgt := 30) X dX4_answeredLesser_23 (by decide) h (fun h => ?_) (fun h => ?_)
    · exact z_sub [] rfl (zz4_answeredLesser_30 X  _ h)
    · refine z_iconst (pc := 26) (v := 1) X dX4_answeredLesser_26 (by decide) ?_
      refine z_goto (pc := 27) (tgt := 31) X dX4_answeredLesser_27 (by decide) ?_
      exact z_sub [] rfl (zz4_answeredLesser_31 X  _ _ h)
theorem cc4_answeredLesser {l : Launch} {D : va_G} {cA : Nat → ClassId} {σ : Nat → Nat} {tS : Nat} {S S' : St} {x1 : Int32} {x2 : Int32} {r : Int32} (h : J4_answeredLesser S x1 x2 = some (r, S')) : zMet l D cA σ shC tS yX4_answeredLesser cX4_answeredLesser 4 (some .boolean) rm4_answeredLesser [.ref (σ 32), .int x1, .int x2] S (some (.int r)) S' := z_met [(0, .ref (σ 32)), (1, .int x1), (2, .int x2)] (by decide +kernel) (Nat.le_of_ble_eq_true rfl) rfl (fun _ _ _ _ _ _ _ _ X => zz4_answeredLesser_0 X _ _ _ h)
set_option maxRecDepth 100000 in
set_option maxHeartbeats 4000000 in
theorem zz4_has_17 {S' : St} {r : Int32} (X : zM p s m args meth c D cA σ shC tS RX4 cX4_has 2 (some .boolean)) : ∀ (S : St) (t0 : Int32), J4_has_17 S t0 = some (r, S') → Zj p l e rm4_has s m args below meth c D cA σ shC 2 (some (.int r)) S' 17 [] [.int t0] S := by
  intro S t0 h
  rw [J4_has_17] at h
  exact z_zret X rfl dX4_has_17 h
set_option maxRecDepth 100000 in
set_option maxHeartbeats 4000000 in
theorem zz4_has_16 {S' : St} {r : Int32} (X : zM p s m args meth c D cA σ shC tS RX4 cX4_has 2 (some .boolean)) : ∀ (S : St), J4_has_16 S = some (r, S') → Zj p l e rm4_has s m args below meth c D cA σ shC 2 (some (.int r)) S' 16 [] [] S := by
  intro S h
  rw [J4_has_16] at h
  refine z_iconst (pc := 16) (v := 0) X dX4_has_16 (by decide) ?_
  exact z_sub [] rfl (zz4_has_17 X  _ _ h)
set_option maxRecDepth 100000 in
set_option maxHeartbeats 4000000 in
theorem zz4_has_0 {S' : St} {r : Int32} (X : zM p s m args meth c D cA σ shC tS RX4 cX4_has 2 (some .boolean)) : ∀ (S : St) (x1 : Int32), J4_has S x1 = some (r, S') → Zj p l e rm4_has s m args below meth c D cA σ shC 2 (some (.int r)) S' 0 [(0, .ref (σ 32)), (1, .int x1)] [] S := by
  intro S x1 h
  rw [J4_has] at h
  refine z_iload_n (pc := 0) X dX4_has_0 rfl 1 rfl ?_
  refine z_if_lt (pc := 1) (tgt := 16) X dX4_has_1 (by decide) h (fun h => ?_) (fun h => ?_)
  · exact z_sub [] rfl (zz4_has_16 X  _ h)
  · refine z_iload_n (pc := 4) X dX4_has_4 rfl 1 rfl ?_
    refine z_aload_n (pc := 5) X dX4_has_5 rfl 0 rfl ?_
    refine z_get (pc := 6) (v := .int _) X 32 fX4_36 rfl rfl dX4_has_6 rfl ?_
    refine z_icmp_ge (pc := 9) (tgt := 16) X dX4_has_9 (by decide) h (fun h => ?_) (fun h => ?_)
    · exact z_sub [] rfl (zz4_has_16 X  _ h)
    · refine z_iconst (pc := 12) (v := 1) X dX4_has_12 (by decide) ?_
      refine z_goto (pc := 13) (tgt := 17) X dX4_has_13 (by decide) ?_
      exact z_sub [] rfl (zz4_has_17 X  _ _ h)
theorem cc4_has {l : Launch} {D : va_G} {cA : Nat → ClassId} {σ : Nat → Nat} {tS : Nat} {S S' : St} {x1 : Int32} {r : Int32} (h : J4_has S x1 = some (r, S')) : zMet l D cA σ shC tS yX4_has cX4_has 2 (some .boolean) rm4_has [.ref (σ 32), .int x1] S (some (.int r)) S' := z_met [(0, .ref (σ 32)), (1, .int x1)] (by decide +kernel) (Nat.le_of_ble_eq_true rfl) rfl (fun _ _ _ _ _ _ _ _ X => zz4_has_0 X _ _ h)
set_option maxRecDepth 100000 in
set_option maxHeartbeats 4000000 in
theorem zz4_hear_18 {S' : St} {r : Int32} (X : zM p s m args meth c D cA σ shC tS RX4 cX4_hear 5 (some .boolean)) : ∀ (S : St), J4_hear_18 S = some (r, S') → Zj p l e rm4_hear s m args below meth c D cA σ shC 5 (some (.int r)) S' 18 [] [] S := by
  intro S h
  rw [J4_hear_18] at h
  refine z_iconst (pc := 18) (v := 0) X dX4_hear_18 (by decide) ?_
  exact z_zret X rfl dX4_hear_19 h
set_option maxRecDepth 100000 in
set_option maxHeartbeats 4000000 in
theorem zz4_hear_73 {S' : St} {r : Int32} (X : zM p s m args meth c D cA σ shC tS RX4 cX4_hear 5 (some .boolean)) : ∀ (S : St) (t0 : Int32), J4_hear_73 S t0 = some (r, S') → Zj p l e rm4_hear s m args below meth c D cA σ shC 5 (some (.int r)) S' 73 [] [.int t0] S := by
  intro S t0 h
  rw [J4_hear_73] at h
  exact z_zret X rfl dX4_hear_73 h
set_option maxRecDepth 100000 in
set_option maxHeartbeats 4000000 in
theorem zz4_hear_0 {S' : St} {r : Int32} (X : zM p s m args meth c D cA σ shC tS RX4 cX4_hear 5 (some .boolean)) : ∀ (S : St) (x1 : Int32) (x2 : Int32) (x3 : Int32) (x4 : Int32), J4_hear S x1 x2 x3 x4 = some (r, S') → Zj p l e rm4_hear s m args below meth c D cA σ shC 5 (some (.int r)) S' 0 [(0, .ref (σ 32)), (1, .int x1), (2, .int x2), (3, .int x3), (4, .int x4)] [] S := by
  intro S x1 x2 x3 x4 h
  rw [J4_hear] at h
  refine z_aload_n (pc := 0) X dX4_hear_0 rfl 0 rfl ?_
  refine z_iload_n (pc := 1) X dX4_hear_1 rfl 1 rfl ?_
  refine z_callVi (pc := 2) (rm := rm4_has) X 32 [.int _] vX4_40 rfl rfl rfl (Nat.le_of_ble_eq_true rfl) ⟨rfl, rfl, Nat.le_of_ble_eq_true rfl, Nat.le_of_ble_eq_true rfl⟩ dX4_hear_2 h (fun _ _ q => cc4_has q) (fun r1 S1 h => ?_)
  refine z_if_eq (pc := 5) (tgt := 18) X dX4_hear_5 (by decide) h (fun h => ?_) (fun h => ?_)
  · exact z_sub [] rfl (zz4_hear_18 X  _ h)
  · refine z_aload_n (pc := 8) X dX4_hear_8 rfl 0 rfl ?_
    refine z_get (pc := 9) (v := .ref (σ 36)) X 32 fX4_21 rfl rfl dX4_hear_9 rfl ?_
    refine z_iload_n (pc := 12) X dX4_hear_12 rfl 1 rfl ?_
    refine z_iald (pc := 13) X 36 rfl dX4_hear_13 h (fun h => ?_)
    refine z_iconst (pc := 14) (v := -1) X dX4_hear_14 (by decide) ?_
    refine z_icmp_eq (pc := 15) (tgt := 20) X dX4_hear_15 (by decide) h (fun h => ?_) (fun h => ?_)
    · refine z_aload_n (pc := 20) X dX4_hear_20 rfl 0 rfl ?_
      refine z_get (pc := 21) (v := .ref (σ 40)) X 32 fX4_33 rfl rfl dX4_hear_21 rfl ?_
      refine z_iload_n (pc := 24) X dX4_hear_24 rfl 1 rfl ?_
      refine z_iconst (pc := 25) (v := 5) X dX4_hear_25 (by decide) ?_
      refine z_imul (pc := 26) X dX4_hear_26 ?_
      refine z_iload_n (pc := 27) X dX4_hear_27 rfl 2 rfl ?_
      refine z_iadd (pc := 28) X dX4_hear_28 ?_
      refine z_iload_n (pc := 29) X dX4_hear_29 rfl 3 rfl ?_
      refine z_iast (pc := 30) X 40 rfl dX4_hear_30 h (fun h => ?_)
      refine z_let h (fun h => ?_)
      refine z_aload_n (pc := 31) X dX4_hear_31 rfl 0 rfl ?_
      refine z_get (pc := 32) (v := .ref (σ 35)) X 32 fX4_18 rfl rfl dX4_hear_32 rfl ?_
      refine z_iload_n (pc := 35) X dX4_hear_35 rfl 1 rfl ?_
      refine z_aload_n (pc := 36) X dX4_hear_36 rfl 0 rfl ?_
      refine z_get (pc := 37) (v := .ref (σ 35)) X 32 fX4_18 rfl rfl dX4_hear_37 rfl ?_
      refine z_iload_n (pc := 40) X dX4_hear_40 rfl 1 rfl ?_
      refine z_iald (pc := 41) X 35 rfl dX4_hear_41 h (fun h => ?_)
      refine z_iload_n (pc := 42) X dX4_hear_42 rfl 3 rfl ?_
      refine z_max (pc := 43) X hX4_44 ⟨Nat.le_of_ble_eq_true rfl, Nat.le_of_ble_eq_true rfl⟩ dX4_hear_43 ?_
      refine z_iast (pc := 46) X 35 rfl dX4_hear_46 h (fun h => ?_)
      refine z_let h (fun h => ?_)
      refine z_aload_n (pc := 47) X dX4_hear_47 rfl 0 rfl ?_
      refine z_get (pc := 48) (v := .ref (σ 39)) X 32 fX4_30 rfl rfl dX4_hear_48 rfl ?_
      refine z_iload_n (pc := 51) X dX4_hear_51 rfl 1 rfl ?_
      refine z_dup2_11 (pc := 52) X dX4_hear_52 rfl rfl ?_
      refine z_iald (pc := 53) X 39 rfl dX4_hear_53 h (fun h => ?_)
      refine z_iconst (pc := 54) (v := 1) X dX4_hear_54 (by decide) ?_
      refine z_iadd (pc := 55) X dX4_hear_55 ?_
      refine z_iast (pc := 56) X 39 rfl dX4_hear_56 h (fun h => ?_)
      refine z_let h (fun h => ?_)
      refine z_aload_n (pc := 57) X dX4_hear_57 rfl 0 rfl ?_
      refine z_get (pc := 58) (v := .ref (σ 39)) X 32 fX4_30 rfl rfl dX4_hear_58 rfl ?_
      refine z_iload_n (pc := 61) X dX4_hear_61 rfl 1 rfl ?_
      refine z_iald (pc := 62) X 39 rfl dX4_hear_62 h (fun h => ?_)
      refine z_iload (pc := 63) X dX4_hear_63 4 rfl ?_
      refine z_icmp_ne (pc := 65) (tgt := 72) X dX4_hear_65 (by decide) h (fun h => ?_) (fun h => ?_)
      · refine z_iconst (pc := 72) (v := 0) X dX4_hear_72 (by decide) ?_
        exact z_sub [] rfl (zz4_hear_73 X  _ _ h)
      · refine z_iconst (pc := 68) (v := 1) X dX4_hear_68 (by decide) ?_
        refine z_goto (pc := 69) (tgt := 73) X dX4_hear_69 (by decide) ?_
        exact z_sub [] rfl (zz4_hear_73 X  _ _ h)
    · exact z_sub [] rfl (zz4_hear_18 X  _ h)
theorem cc4_hear {l : Launch} {D : va_G} {cA : Nat → ClassId} {σ : Nat → Nat} {tS : Nat} {S S' : St} {x1 : Int32} {x2 : Int32} {x3 : Int32} {x4 : Int32} {r : Int32} (h : J4_hear S x1 x2 x3 x4 = some (r, S')) : zMet l D cA σ shC tS yX4_hear cX4_hear 5 (some .boolean) rm4_hear [.ref (σ 32), .int x1, .int x2, .int x3, .int x4] S (some (.int r)) S' := z_met [(0, .ref (σ 32)), (1, .int x1), (2, .int x2), (3, .int x3), (4, .int x4)] (by decide +kernel) (Nat.le_of_ble_eq_true rfl) rfl (fun _ _ _ _ _ _ _ _ X => zz4_hear_0 X _ _ _ _ _ h)
set_option maxRecDepth 100000 in
set_option maxHeartbeats 4000000 in
theorem zz4_isDone_23 {S' : St} {r : Int32} (X : zM p s m args meth c D cA σ shC tS RX4 cX4_isDone 2 (some .boolean)) : ∀ (S : St) (t0 : Int32), J4_isDone_23 S t0 = some (r, S') → Zj p l e rm4_isDone s m args below meth c D cA σ shC 2 (some (.int r)) S' 23 [] [.int t0] S := by
  intro S t0 h
  rw [J4_isDone_23] at h
  exact z_zret X rfl dX4_isDone_23 h
set_option maxRecDepth 100000 in
set_option maxHeartbeats 4000000 in
theorem zz4_isDone_22 {S' : St} {r : Int32} (X : zM p s m args meth c D cA σ shC tS RX4 cX4_isDone 2 (some .boolean)) : ∀ (S : St), J4_isDone_22 S = some (r, S') → Zj p l e rm4_isDone s m args below meth c D cA σ shC 2 (some (.int r)) S' 22 [] [] S := by
  intro S h
  rw [J4_isDone_22] at h
  refine z_iconst (pc := 22) (v := 0) X dX4_isDone_22 (by decide) ?_
  exact z_sub [] rfl (zz4_isDone_23 X  _ _ h)
set_option maxRecDepth 100000 in
set_option maxHeartbeats 4000000 in
theorem zz4_isDone_0 {S' : St} {r : Int32} (X : zM p s m args meth c D cA σ shC tS RX4 cX4_isDone 2 (some .boolean)) : ∀ (S : St) (x1 : Int32), J4_isDone S x1 = some (r, S') → Zj p l e rm4_isDone s m args below meth c D cA σ shC 2 (some (.int r)) S' 0 [(0, .ref (σ 32)), (1, .int x1)] [] S := by
  intro S x1 h
  rw [J4_isDone] at h
  refine z_aload_n (pc := 0) X dX4_isDone_0 rfl 0 rfl ?_
  refine z_iload_n (pc := 1) X dX4_isDone_1 rfl 1 rfl ?_
  refine z_callVi (pc := 2) (rm := rm4_has) X 32 [.int _] vX4_40 rfl rfl rfl (Nat.le_of_ble_eq_true rfl) ⟨rfl, rfl, Nat.le_of_ble_eq_true rfl, Nat.le_of_ble_eq_true rfl⟩ dX4_isDone_2 h (fun _ _ q => cc4_has q) (fun r1 S1 h => ?_)
  refine z_if_eq (pc := 5) (tgt := 22) X dX4_isDone_5 (by decide) h (fun h => ?_) (fun h => ?_)
  · exact z_sub [] rfl (zz4_isDone_22 X  _ h)
  · refine z_aload_n (pc := 8) X dX4_isDone_8 rfl 0 rfl ?_
    refine z_get (pc := 9) (v := .ref (σ 36)) X 32 fX4_21 rfl rfl dX4_isDone_9 rfl ?_
    refine z_iload_n (pc := 12) X dX4_isDone_12 rfl 1 rfl ?_
    refine z_iald (pc := 13) X 36 rfl dX4_isDone_13 h (fun h => ?_)
    refine z_iconst (pc := 14) (v := -1) X dX4_isDone_14 (by decide) ?_
    refine z_icmp_eq (pc := 15) (tgt := 22) X dX4_isDone_15 (by decide) h (fun h => ?_) (fun h => ?_)
    · exact z_sub [] rfl (zz4_isDone_22 X  _ h)
    · refine z_iconst (pc := 18) (v := 1) X dX4_isDone_18 (by decide) ?_
      refine z_goto (pc := 19) (tgt := 23) X dX4_isDone_19 (by decide) ?_
      exact z_sub [] rfl (zz4_isDone_23 X  _ _ h)
theorem cc4_isDone {l : Launch} {D : va_G} {cA : Nat → ClassId} {σ : Nat → Nat} {tS : Nat} {S S' : St} {x1 : Int32} {r : Int32} (h : J4_isDone S x1 = some (r, S')) : zMet l D cA σ shC tS yX4_isDone cX4_isDone 2 (some .boolean) rm4_isDone [.ref (σ 32), .int x1] S (some (.int r)) S' := z_met [(0, .ref (σ 32)), (1, .int x1)] (by decide +kernel) (Nat.le_of_ble_eq_true rfl) rfl (fun _ _ _ _ _ _ _ _ X => zz4_isDone_0 X _ _ h)
set_option maxRecDepth 100000 in
set_option maxHeartbeats 4000000 in
theorem zz7_has_18 {S' : St} {r : Int32} (X : zM p s m args meth c D cA σ shC tS RX7 cX7_has 2 (some .boolean)) : ∀ (S : St) (t0 : Int32), J7_has_18 S t0 = some (r, S') → Zj p l e rm7_has s m args below meth c D cA σ shC 2 (some (.int r)) S' 18 [] [.int t0] S := by
  intro S t0 h
  rw [J7_has_18] at h
  exact z_zret X rfl dX7_has_18 h
set_option maxRecDepth 100000 in
set_option maxHeartbeats 4000000 in
theorem zz7_has_17 {S' : St} {r : Int32} (X : zM p s m args meth c D cA σ shC tS RX7 cX7_has 2 (some .boolean)) : ∀ (S : St), J7_has_17 S = some (r, S') → Zj p l e rm7_has s m args below meth c D cA σ shC 2 (some (.int r)) S' 17 [] [] S := by
  intro S h
  rw [J7_has_17] at h
  refine z_iconst (pc := 17) (v := 0) X dX7_has_17 (by decide) ?_
  exact z_sub [] rfl (zz7_has_18 X  _ _ h)
set_option maxRecDepth 100000 in
set_option maxHeartbeats 4000000 in
theorem zz7_has_0 {S' : St} {r : Int32} (X : zM p s m args meth c D cA σ shC tS RX7 cX7_has 2 (some .boolean)) : ∀ (S : St) (x1 : Int32), J7_has S x1 = some (r, S') → Zj p l e rm7_has s m args below meth c D cA σ shC 2 (some (.int r)) S' 0 [(0, .ref (σ 29)), (1, .int x1)] [] S := by
  intro S x1 h
  rw [J7_has] at h
  refine z_iload_n (pc := 0) X dX7_has_0 rfl 1 rfl ?_
  refine z_iconst (pc := 1) (v := 1) X dX7_has_1 (by decide) ?_
  refine z_icmp_lt (pc := 2) (tgt := 17) X dX7_has_2 (by decide) h (fun h => ?_) (fun h => ?_)
  · exact z_sub [] rfl (zz7_has_17 X  _ h)
  · refine z_iload_n (pc := 5) X dX7_has_5 rfl 1 rfl ?_
    refine z_aload_n (pc := 6) X dX7_has_6 rfl 0 rfl ?_
    refine z_get (pc := 7) (v := .int _) X 29 fX7_18 rfl rfl dX7_has_7 rfl ?_
    refine z_icmp_gt (pc := 10) (tgt := 17) X dX7_has_10 (by decide) h (fun h => ?_) (fun h => ?_)
    · exact z_sub [] rfl (zz7_has_17 X  _ h)
    · refine z_iconst (pc := 13) (v := 1) X dX7_has_13 (by decide) ?_
      refine z_goto (pc := 14) (tgt := 18) X dX7_has_14 (by decide) ?_
      exact z_sub [] rfl (zz7_has_18 X  _ _ h)
theorem cc7_has {l : Launch} {D : va_G} {cA : Nat → ClassId} {σ : Nat → Nat} {tS : Nat} {S S' : St} {x1 : Int32} {r : Int32} (h : J7_has S x1 = some (r, S')) : zMet l D cA σ shC tS yX7_has cX7_has 2 (some .boolean) rm7_has [.ref (σ 29), .int x1] S (some (.int r)) S' := z_met [(0, .ref (σ 29)), (1, .int x1)] (by decide +kernel) (Nat.le_of_ble_eq_true rfl) rfl (fun _ _ _ _ _ _ _ _ X => zz7_has_0 X _ _ h)
set_option maxRecDepth 100000 in
set_option maxHeartbeats 4000000 in
theorem zz7_isDone_25 {S' : St} {r : Int32} (X : zM p s m args meth c D cA σ shC tS RX7 cX7_isDone 2 (some .boolean)) : ∀ (S : St) (t0 : Int32), J7_isDone_25 S t0 = some (r, S') → Zj p l e rm7_isDone s m args below meth c D cA σ shC 2 (some (.int r)) S' 25 [] [.int t0] S := by
  intro S t0 h
  rw [J7_isDone_25] at h
  exact z_zret X rfl dX7_isDone_25 h
set_option maxRecDepth 100000 in
set_option maxHeartbeats 4000000 in
theorem zz7_isDone_24 {S' : St} {r : Int32} (X : zM p s m args meth c D cA σ shC tS RX7 cX7_isDone 2 (some .boolean)) : ∀ (S : St), J7_isDone_24 S = some (r, S') → Zj p l e rm7_isDone s m args below meth c D cA σ shC 2 (some (.int r)) S' 24 [] [] S := by
  intro S h
  rw [J7_isDone_24] at h
  refine z_iconst (pc := 24) (v := 0) X dX7_isDone_24 (by decide) ?_
  exact z_sub [] rfl (zz7_isDone_25 X  _ _ h)
set_option maxRecDepth 100000 in
set_option maxHeartbeats 4000000 in
theorem zz7_isDone_0 {S' : St} {r : Int32} (X : zM p s m args meth c D cA σ shC tS RX7 cX7_isDone 2 (some .boolean)) : ∀ (S : St) (x1 : Int32), J7_isDone S x1 = some (r, S') → Zj p l e rm7_isDone s m args below meth c D cA σ shC 2 (some (.int r)) S' 0 [(0, .ref (σ 29)), (1, .int x1)] [] S := by
  intro S x1 h
  rw [J7_isDone] at h
  refine z_aload_n (pc := 0) X dX7_isDone_0 rfl 0 rfl ?_
  refine z_iload_n (pc := 1) X dX7_isDone_1 rfl 1 rfl ?_
  refine z_callVi (pc := 2) (rm := rm7_has) X 29 [.int _] vX7_22 rfl rfl rfl (Nat.le_of_ble_eq_true rfl) ⟨rfl, rfl, Nat.le_of_ble_eq_true rfl, Nat.le_of_ble_eq_true rfl⟩ dX7_isDone_2 h (fun _ _ q => cc7_has q) (fun r1 S1 h => ?_)
  refine z_if_eq (pc := 5) (tgt := 24) X dX7_isDone_5 (by decide) h (fun h => ?_) (fun h => ?_)
  · exact z_sub [] rfl (zz7_isDone_24 X  _ h)
  · refine z_aload_n (pc := 8) X dX7_isDone_8 rfl 0 rfl ?_
    refine z_get (pc := 9) (v := .ref (σ 30)) X 29 fX7_9 rfl rfl dX7_isDone_9 rfl ?_
    refine z_iload_n (pc := 12) X dX7_isDone_12 rfl 1 rfl ?_
    refine z_iconst (pc := 13) (v := 1) X dX7_isDone_13 (by decide) ?_
    refine z_isub (pc := 14) X dX7_isDone_14 ?_
    refine z_iald (pc := 15) X 30 rfl dX7_isDone_15 h (fun h => ?_)
    refine z_iconst (pc := 16) (v := -1) X dX7_isDone_16 (by decide) ?_
    refine z_icmp_eq (pc := 17) (tgt := 24) X dX7_isDone_17 (by decide) h (fun h => ?_) (fun h => ?_)
    · exact z_sub [] rfl (zz7_isDone_24 X  _ h)
    · refine z_iconst (pc := 20) (v := 1) X dX7_isDone_20 (by decide) ?_
      refine z_goto (pc := 21) (tgt := 25) X dX7_isDone_21 (by decide) ?_
      exact z_sub [] rfl (zz7_isDone_25 X  _ _ h)
theorem cc7_isDone {l : Launch} {D : va_G} {cA : Nat → ClassId} {σ : Nat → Nat} {tS : Nat} {S S' : St} {x1 : Int32} {r : Int32} (h : J7_isDone S x1 = some (r, S')) : zMet l D cA σ shC tS yX7_isDone cX7_isDone 2 (some .boolean) rm7_isDone [.ref (σ 29), .int x1] S (some (.int r)) S' := z_met [(0, .ref (σ 29)), (1, .int x1)] (by decide +kernel) (Nat.le_of_ble_eq_true rfl) rfl (fun _ _ _ _ _ _ _ _ X => zz7_isDone_0 X _ _ h)
set_option maxRecDepth 100000 in
set_option maxHeartbeats 4000000 in
theorem zz7_doneBefore_41 {S' : St} {r : Int32} (X : zM p s m args meth c D cA σ shC tS RX7 cX7_doneBefore 5 (some .int)) (k7 : St → Int32 → Int32 → Int32 → Option (Int32 × St)) (hk7 : ∀ (S : St) (x1 : Int32) (x3 : Int32) (x4 : Int32), k7 S x1 x3 x4 = some (r, S') → Zj p l e rm7_doneBefore s m args below meth c D cA σ shC 5 (some (.int r)) S' 7 [(0, .ref (σ 29)), (1, .int x1), (3, .int x3), (4, .int x4)] [] S) : ∀ (S : St) (x1 : Int32) (x3 : Int32) (x4 : Int32), J7_doneBefore_41 k7 S x1 x3 x4 = some (r, S') → Zj p l e rm7_doneBefore s m args below meth c D cA σ shC 5 (some (.int r)) S' 41 [(0, .ref (σ 29)), (1, .int x1), (3, .int x3), (4, .int x4)] [] S := by
  intro S x1 x3 x4 h
  rw [J7_doneBefore_41] at h
  refine z_iinc (pc := 41) (k := 3) (v := 1) (L' := [(4, .int _), (0, .ref _), (1, .int _), (3, .int _)]) X dX7_doneBefore_41 rfl (by decide) (by decide) rfl ?_
  refine z_let h (fun h => ?_)
  refine z_goto (pc := 44) (tgt := 7) X dX7_doneBefore_44 (by decide) ?_
  exact z_sub [1, 2, 3, 0] rfl (hk7 _ _ _ _ h)
set_option maxRecDepth 100000 in
set_option maxHeartbeats 4000000 in
theorem zz7_doneBefore_7 {S' : St} {r : Int32} (X : zM p s m args meth c D cA σ shC tS RX7 cX7_doneBefore 5 (some .int)) : ∀ (n : Nat) (S : St) (x1 : Int32) (x3 : Int32) (x4 : Int32), J7_doneBefore_7 n S x1 x3 x4 = some (r, S') → Zj p l e rm7_doneBefore s m args below meth c D cA σ shC 5 (some (.int r)) S' 7 [(0, .ref (σ 29)), (1, .int x1), (3, .int x3), (4, .int x4)] [] S := by
  intro n
  induction n with
  | zero =>
    intro S x1 x3 x4 h
    rw [J7_doneBefore_7] at h
    cases h
  | succ n ih =>
    intro S x1 x3 x4 h
    rw [J7_doneBefore_7] at h
    refine z_iload (pc := 7) X dX7_doneBefore_7 3 rfl ?_
    refine z_aload_n (pc := 9) X dX7_doneBefore_9 rfl 0 rfl ?_
    refine z_get (pc := 10) (v := .int _) X 29 fX7_18 rfl rfl dX7_doneBefore_10 rfl ?_
    refine z_icmp_gt (pc := 13) (tgt := 47) X dX7_doneBefore_13 (by decide) h (fun h => ?_) (fun h => ?_)
    · refine z_iload_n (pc := 47) X dX7_doneBefore_47 rfl 2 rfl ?_
      exact z_iret X rfl dX7_doneBefore_48 h
    · refine z_aload_n (pc := 16) X dX7_doneBefore_16 rfl 0 rfl ?_
      refine z_iload (pc := 17) X dX7_doneBefore_17 3 rfl ?_
      refine z_callVi (pc := 19) (rm := rm7_isDone) X 29 [.int _] vX7_26 rfl rfl rfl (Nat.le_of_ble_eq_true rfl) ⟨rfl, rfl, Nat.le_of_ble_eq_true rfl, Nat.le_of_ble_eq_true rfl⟩ dX7_doneBefore_19 h (fun _ _ q => cc7_isDone q) (fun r1 S1 h => ?_)
      refine z_if_eq (pc := 22) (tgt := 41) X dX7_doneBefore_22 (by decide) h (fun h => ?_) (fun h => ?_)
      · exact z_sub [0, 1, 2, 3] rfl (zz7_doneBefore_41 X _ ih _ _ _ _ h)
      · refine z_aload_n (pc := 25) X dX7_doneBefore_25 rfl 0 rfl ?_
        refine z_get (pc := 26) (v := .ref (σ 30)) X 29 fX7_9 rfl rfl dX7_doneBefore_26 rfl ?_
        refine z_iload (pc := 29) X dX7_doneBefore_29 3 rfl ?_
        refine z_iconst (pc := 31) (v := 1) X dX7_doneBefore_31 (by decide) ?_
        refine z_isub (pc := 32) X dX7_doneBefore_32 ?_
        refine z_iald (pc := 33) X 30 rfl dX7_doneBefore_33 h (fun h => ?_)
        refine z_iload_n (pc := 34) X dX7_doneBefore_34 rfl 1 rfl ?_
        refine z_icmp_ge (pc := 35) (tgt := 41) X dX7_doneBefore_35 (by decide) h (fun h => ?_) (fun h => ?_)
        · exact z_sub [0, 1, 2, 3] rfl (zz7_doneBefore_41 X _ ih _ _ _ _ h)
        · refine z_iinc (pc := 38) (k := 2) (v := 1) (L' := [(3, .int _), (0, .ref _), (1, .int _), (4, .int _)]) X dX7_doneBefore_38 rfl (by decide) (by decide) rfl ?_
          refine z_let h (fun h => ?_)
          exact z_sub [1, 2, 0, 3] rfl (zz7_doneBefore_41 X _ ih _ _ _ _ h)
set_option maxRecDepth 100000 in
set_option maxHeartbeats 4000000 in
theorem zz7_doneBefore_0 {S' : St} {r : Int32} (X : zM p s m args meth c D cA σ shC tS RX7 cX7_doneBefore 5 (some .int)) : ∀ (S : St) (x1 : Int32) (x2 : Int32), J7_doneBefore S x1 x2 = some (r, S') → Zj p l e rm7_doneBefore s m args below meth c D cA σ shC 5 (some (.int r)) S' 0 [(0, .ref (σ 29)), (1, .int x1), (2, .int x2)] [] S := by
  intro S x1 x2 h
  rw [J7_doneBefore] at h
  refine z_iconst (pc := 0) (v := 0) X dX7_doneBefore_0 (by decide) ?_
  refine z_istore_n (pc := 1) (L' := [(3, .int _), (0, .ref _), (1, .int _), (2, .int _)]) X dX7_doneBefore_1 rfl (by decide) rfl ?_
  refine z_iload_n (pc := 2) X dX7_doneBefore_2 rfl 3 rfl ?_
  refine z_iconst (pc := 3) (v := 1) X dX7_doneBefore_3 (by decide) ?_
  refine z_iadd (pc := 4) X dX7_doneBefore_4 ?_
  refine z_istore (pc := 5) (L' := [(4, .int _), (3, .int _), (0, .ref _), (1, .int _), (2, .int _)]) X dX7_doneBefore_5 (by decide) rfl ?_
  refine z_let h (fun h => ?_)
  exact z_sub [2, 3, 1, 0] rfl (zz7_doneBefore_7 X  fu _ _ _ _ h)
theorem cc7_doneBefore {l : Launch} {D : va_G} {cA : Nat → ClassId} {σ : Nat → Nat} {tS : Nat} {S S' : St} {x1 : Int32} {x2 : Int32} {r : Int32} (h : J7_doneBefore S x1 x2 = some (r, S')) : zMet l D cA σ shC tS yX7_doneBefore cX7_doneBefore 5 (some .int) rm7_doneBefore [.ref (σ 29), .int x1, .int x2] S (some (.int r)) S' := z_met [(0, .ref (σ 29)), (1, .int x1), (2, .int x2)] (by decide +kernel) (Nat.le_of_ble_eq_true rfl) rfl (fun _ _ _ _ _ _ _ _ X => zz7_doneBefore_0 X _ _ _ h)
set_option maxRecDepth 100000 in
set_option maxHeartbeats 4000000 in
theorem zz5_finish_117 {S' : St} (X : zM p s m args meth c D cA σ shC tS RX5 cX5_finish 4 none) : ∀ (S : St) (x1 : Int32) (x2 : Int32) (x3 : Int32), J5_finish_117 S x1 x2 x3 = some ((), S') → Zj p l e rm5_finish s m args below meth c D cA σ shC 4 none S' 117 [(0, .ref (σ 17)), (1, .int x1), (2, .int x2), (3, .int x3)] [] S := by
  intro S x1 x2 x3 h
  rw [J5_finish_117] at h
  refine z_aload_n (pc := 117) X dX5_finish_117 rfl 0 rfl ?_
  refine z_get (pc := 118) (v := .ref (σ 42)) X 17 fX5_43 rfl rfl dX5_finish_118 rfl ?_
  refine z_iload_n (pc := 121) X dX5_finish_121 rfl 3 rfl ?_
  refine z_aload_n (pc := 122) X dX5_finish_122 rfl 0 rfl ?_
  refine z_get (pc := 123) (v := .ref (σ 42)) X 17 fX5_43 rfl rfl dX5_finish_123 rfl ?_
  refine z_iload_n (pc := 126) X dX5_finish_126 rfl 3 rfl ?_
  refine z_iald (pc := 127) X 42 rfl dX5_finish_127 h (fun h => ?_)
  refine z_iload_n (pc := 128) X dX5_finish_128 rfl 2 rfl ?_
  refine z_max (pc := 129) X hX5_155 ⟨Nat.le_of_ble_eq_true rfl, Nat.le_of_ble_eq_true rfl⟩ dX5_finish_129 ?_
  refine z_iast (pc := 132) X 42 rfl dX5_finish_132 h (fun h => ?_)
  refine z_let h (fun h => ?_)
  refine z_aload_n (pc := 133) X dX5_finish_133 rfl 0 rfl ?_
  refine z_get (pc := 134) (v := .ref (σ 32)) X 17 fX5_35 rfl rfl dX5_finish_134 rfl ?_
  refine z_get (pc := 137) (v := .ref (σ 37)) X 32 fX5_160 rfl rfl dX5_finish_137 rfl ?_
  refine z_iload_n (pc := 140) X dX5_finish_140 rfl 1 rfl ?_
  refine z_iload_n (pc := 141) X dX5_finish_141 rfl 2 rfl ?_
  refine z_iast (pc := 142) X 37 rfl dX5_finish_142 h (fun h => ?_)
  refine z_let h (fun h => ?_)
  exact z_vret X rfl dX5_finish_143 h
set_option maxRecDepth 100000 in
set_option maxHeartbeats 4000000 in
theorem zz5_finish_81 {S' : St} (X : zM p s m args meth c D cA σ shC tS RX5 cX5_finish 4 none) : ∀ (S : St) (x1 : Int32) (x2 : Int32) (x3 : Int32), J5_finish_81 S x1 x2 x3 = some ((), S') → Zj p l e rm5_finish s m args below meth c D cA σ shC 4 none S' 81 [(0, .ref (σ 17)), (1, .int x1), (2, .int x2), (3, .int x3)] [] S := by
  intro S x1 x2 x3 h
  rw [J5_finish_81] at h
  refine z_aload_n (pc := 81) X dX5_finish_81 rfl 0 rfl ?_
  refine z_get (pc := 82) (v := .ref (σ 41)) X 17 fX5_39 rfl rfl dX5_finish_82 rfl ?_
  refine z_iload_n (pc := 85) X dX5_finish_85 rfl 3 rfl ?_
  refine z_zald (pc := 86) X 41 rfl dX5_finish_86 h (fun h => ?_)
  refine z_if_eq (pc := 87) (tgt := 117) X dX5_finish_87 (by decide) h (fun h => ?_) (fun h => ?_)
  · exact z_sub [0, 1, 2, 3] rfl (zz5_finish_117 X  _ _ _ _ h)
  · refine z_iload_n (pc := 90) X dX5_finish_90 rfl 2 rfl ?_
    refine z_aload_n (pc := 91) X dX5_finish_91 rfl 0 rfl ?_
    refine z_get (pc := 92) (v := .ref (σ 42)) X 17 fX5_43 rfl rfl dX5_finish_92 rfl ?_
    refine z_iload_n (pc := 95) X dX5_finish_95 rfl 3 rfl ?_
    refine z_iald (pc := 96) X 42 rfl dX5_finish_96 h (fun h => ?_)
    refine z_icmp_ge (pc := 97) (tgt := 117) X dX5_finish_97 (by decide) h (fun h => ?_) (fun h => ?_)
    · exact z_sub [0, 1, 2, 3] rfl (zz5_finish_117 X  _ _ _ _ h)
    · refine z_aload_n (pc := 100) X dX5_finish_100 rfl 0 rfl ?_
      refine z_dup (pc := 101) X dX5_finish_101 rfl ?_
      refine z_get (pc := 102) (v := .int _) X 17 fX5_61 rfl rfl dX5_finish_102 rfl ?_
      refine z_iconst (pc := 105) (v := 1) X dX5_finish_105 (by decide) ?_
      refine z_iadd (pc := 106) X dX5_finish_106 ?_
      refine z_putI (pc := 107) X 17 gX5_61 rfl rfl dX5_finish_107 ?_
      refine z_let h (fun h => ?_)
      refine z_aload_n (pc := 110) X dX5_finish_110 rfl 0 rfl ?_
      refine z_get (pc := 111) (v := .ref (σ 42)) X 17 fX5_43 rfl rfl dX5_finish_111 rfl ?_
      refine z_iload_n (pc := 114) X dX5_finish_114 rfl 3 rfl ?_
      refine z_iald (pc := 115) X 42 rfl dX5_finish_115 h (fun h => ?_)
      refine z_istore_n (pc := 116) (L' := [(2, .int _), (0, .ref _), (1, .int _), (3, .int _)]) X dX5_finish_116 rfl (by decide) rfl ?_
      refine z_let h (fun h => ?_)
      exact z_sub [1, 2, 0, 3] rfl (zz5_finish_117 X  _ _ _ _ h)
set_option maxRecDepth 100000 in
set_option maxHeartbeats 4000000 in
theorem zz5_finish_0 {S' : St} (X : zM p s m args meth c D cA σ shC tS RX5 cX5_finish 4 none) : ∀ (S : St) (x1 : Int32), J5_finish S x1 = some ((), S') → Zj p l e rm5_finish s m args below meth c D cA σ shC 4 none S' 0 [(0, .ref (σ 17)), (1, .int x1)] [] S := by
  intro S x1 h
  rw [J5_finish] at h
  refine z_aload_n (pc := 0) X dX5_finish_0 rfl 0 rfl ?_
  refine z_get (pc := 1) (v := .ref (σ 32)) X 17 fX5_35 rfl rfl dX5_finish_1 rfl ?_
  refine z_get (pc := 4) (v := .ref (σ 35)) X 32 fX5_136 rfl rfl dX5_finish_4 rfl ?_
  refine z_iload_n (pc := 7) X dX5_finish_7 rfl 1 rfl ?_
  refine z_iald (pc := 8) X 35 rfl dX5_finish_8 h (fun h => ?_)
  refine z_istore_n (pc := 9) (L' := [(2, .int _), (0, .ref _), (1, .int _)]) X dX5_finish_9 rfl (by decide) rfl ?_
  refine z_let h (fun h => ?_)
  refine z_aload_n (pc := 10) X dX5_finish_10 rfl 1 rfl ?_
  refine z_get (pc := 11) (v := .ref (σ 32)) X 17 fX5_35 rfl rfl dX5_finish_11 rfl ?_
  refine z_get (pc := 14) (v := .ref (σ 33)) X 32 fX5_139 rfl rfl dX5_finish_14 rfl ?_
  refine z_iload_n (pc := 17) X dX5_finish_17 rfl 2 rfl ?_
  refine z_iald (pc := 18) X 33 rfl dX5_finish_18 h (fun h => ?_)
  refine z_istore_n (pc := 19) (L' := [(3, .int _), (2, .int _), (0, .ref _), (1, .int _)]) X dX5_finish_19 rfl (by decide) rfl ?_
  refine z_let h (fun h => ?_)
  refine z_aload_n (pc := 20) X dX5_finish_20 rfl 2 rfl ?_
  refine z_get (pc := 21) (v := .ref (σ 32)) X 17 fX5_35 rfl rfl dX5_finish_21 rfl ?_
  refine z_get (pc := 24) (v := .ref (σ 36)) X 32 fX5_142 rfl rfl dX5_finish_24 rfl ?_
  refine z_iload_n (pc := 27) X dX5_finish_27 rfl 3 rfl ?_
  refine z_aload_n (pc := 28) X dX5_finish_28 rfl 2 rfl ?_
  refine z_get (pc := 29) (v := .int _) X 17 fX5_54 rfl rfl dX5_finish_29 rfl ?_
  refine z_iast (pc := 32) X 36 rfl dX5_finish_32 h (fun h => ?_)
  refine z_let h (fun h => ?_)
  refine z_aload_n (pc := 33) X dX5_finish_33 rfl 2 rfl ?_
  refine z_get (pc := 34) (v := .ref (σ 32)) X 17 fX5_35 rfl rfl dX5_finish_34 rfl ?_
  refine z_get (pc := 37) (v := .ref (σ 38)) X 32 fX5_145 rfl rfl dX5_finish_37 rfl ?_
  refine z_iload_n (pc := 40) X dX5_finish_40 rfl 3 rfl ?_
  refine z_aload_n (pc := 41) X dX5_finish_41 rfl 2 rfl ?_
  refine z_get (pc := 42) (v := .ref (σ 29)) X 17 fX5_28 rfl rfl dX5_finish_42 rfl ?_
  refine z_aload_n (pc := 45) X dX5_finish_45 rfl 2 rfl ?_
  refine z_get (pc := 46) (v := .ref (σ 32)) X 17 fX5_35 rfl rfl dX5_finish_46 rfl ?_
  refine z_get (pc := 49) (v := .ref (σ 34)) X 32 fX5_148 rfl rfl dX5_finish_49 rfl ?_
  refine z_iload_n (pc := 52) X dX5_finish_52 rfl 3 rfl ?_
  refine z_iald (pc := 53) X 34 rfl dX5_finish_53 h (fun h => ?_)
  refine z_iload_n (pc := 54) X dX5_finish_54 rfl 1 rfl ?_
  refine z_callVi (pc := 55) (rm := rm7_doneBefore) X 29 [.int _, .int _] vX5_151 rfl rfl rfl (Nat.le_of_ble_eq_true rfl) ⟨rfl, rfl, Nat.le_of_ble_eq_true rfl, Nat.le_of_ble_eq_true rfl⟩ dX5_finish_55 h (fun _ _ q => cc7_doneBefore q) (fun r4 S4 h => ?_)
  refine z_iast (pc := 58) X 38 rfl dX5_finish_58 h (fun h => ?_)
  refine z_let h (fun h => ?_)
  refine z_aload_n (pc := 59) X dX5_finish_59 rfl 2 rfl ?_
  refine z_get (pc := 60) (v := .ref (σ 32)) X 17 fX5_35 rfl rfl dX5_finish_60 rfl ?_
  refine z_get (pc := 63) (v := .ref (σ 38)) X 32 fX5_145 rfl rfl dX5_finish_63 rfl ?_
  refine z_iload_n (pc := 66) X dX5_finish_66 rfl 3 rfl ?_
  refine z_iald (pc := 67) X 38 rfl dX5_finish_67 h (fun h => ?_)
  refine z_if_le (pc := 68) (tgt := 81) X dX5_finish_68 (by decide) h (fun h => ?_) (fun h => ?_)
  · exact z_sub [2, 3, 1, 0] rfl (zz5_finish_81 X  _ _ _ _ h)
  · refine z_aload_n (pc := 71) X dX5_finish_71 rfl 2 rfl ?_
    refine z_dup (pc := 72) X dX5_finish_72 rfl ?_
    refine z_get (pc := 73) (v := .int _) X 17 fX5_64 rfl rfl dX5_finish_73 rfl ?_
    refine z_iconst (pc := 76) (v := 1) X dX5_finish_76 (by decide) ?_
    refine z_iadd (pc := 77) X dX5_finish_77 ?_
    refine z_putI (pc := 78) X 17 gX5_64 rfl rfl dX5_finish_78 ?_
    refine z_let h (fun h => ?_)
    exact z_sub [2, 3, 1, 0] rfl (zz5_finish_81 X  _ _ _ _ h)
theorem cc5_finish {l : Launch} {D : va_G} {cA : Nat → ClassId} {σ : Nat → Nat} {tS : Nat} {S S' : St} {x1 : Int32} (h : J5_finish S x1 = some ((), S')) : zMet l D cA σ shC tS yX5_finish cX5_finish 4 none rm5_finish [.ref (σ 17), .int x1] S none S' := z_met [(0, .ref (σ 17)), (1, .int x1)] (by decide +kernel) (Nat.le_of_ble_eq_true rfl) rfl (fun _ _ _ _ _ _ _ _ X => zz5_finish_0 X _ _ h)
set_option maxRecDepth 100000 in
set_option maxHeartbeats 4000000 in
theorem zz5_mend_50 {S' : St} (X : zM p s m args meth c D cA σ shC tS RX5 cX5_mend 3 none) (k2 : St → Int32 → Int32 → Option (Unit × St)) (hk2 : ∀ (S : St) (x1 : Int32) (x2 : Int32), k2 S x1 x2 = some ((), S') → Zj p l e rm5_mend s m args below meth c D cA σ shC 3 none S' 2 [(0, .ref (σ 17)), (1, .int x1), (2, .int x2)] [] S) : ∀ (S : St) (x1 : Int32) (x2 : Int32), J5_mend_50 k2 S x1 x2 = some ((), S') → Zj p l e rm5_mend s m args below meth c D cA σ shC 3 none S' 50 [(0, .ref (σ 17)), (1, .int x1), (2, .int x2)] [] S := by
  intro S x1 x2 h
  rw [J5_mend_50] at h
  refine z_iinc (pc := 50) (k := 2) (v := 1) (L' := [(2, .int _), (0, .ref _), (1, .int _)]) X dX5_mend_50 rfl (by decide) (by decide) rfl ?_
  refine z_let h (fun h => ?_)
  refine z_goto (pc := 53) (tgt := 2) X dX5_mend_53 (by decide) ?_
  exact z_sub [1, 2, 0] rfl (hk2 _ _ _ h)
set_option maxRecDepth 100000 in
set_option maxHeartbeats 4000000 in
theorem zz5_mend_2 {S' : St} (X : zM p s m args meth c D cA σ shC tS RX5 cX5_mend 3 none) : ∀ (n : Nat) (S : St) (x1 : Int32) (x2 : Int32), J5_mend_2 n S x1 x2 = some ((), S') → Zj p l e rm5_mend s m args below meth c D cA σ shC 3 none S' 2 [(0, .ref (σ 17)), (1, .int x1), (2, .int x2)] [] S := by
  intro n
  induction n with
  | zero =>
    intro S x1 x2 h
    rw [J5_mend_2] at h
    cases h
  | succ n ih =>
    intro S x1 x2 h
    rw [J5_mend_2] at h
    refine z_iload_n (pc := 2) X dX5_mend_2 rfl 2 rfl ?_
    refine z_aload_n (pc := 3) X dX5_mend_3 rfl 0 rfl ?_
    refine z_get (pc := 4) (v := .ref (σ 18)) X 17 fX5_12 rfl rfl dX5_mend_4 rfl ?_
    refine z_get (pc := 7) (v := .int _) X 18 fX5_77 rfl rfl dX5_mend_7 rfl ?_
    refine z_icmp_ge (pc := 10) (tgt := 56) X dX5_mend_10 (by decide) h (fun h => ?_) (fun h => ?_)
    · exact z_vret X rfl dX5_mend_56 h
    · refine z_aload_n (pc := 13) X dX5_mend_13 rfl 0 rfl ?_
      refine z_get (pc := 14) (v := .ref (σ 32)) X 17 fX5_35 rfl rfl dX5_mend_14 rfl ?_
      refine z_iload_n (pc := 17) X dX5_mend_17 rfl 1 rfl ?_
      refine z_iload_n (pc := 18) X dX5_mend_18 rfl 2 rfl ?_
      refine z_callVi (pc := 19) (rm := rm4_answeredLesser) X 32 [.int _, .int _] vX5_163 rfl rfl rfl (Nat.le_of_ble_eq_true rfl) ⟨rfl, rfl, Nat.le_of_ble_eq_true rfl, Nat.le_of_ble_eq_true rfl⟩ dX5_mend_19 h (fun _ _ q => cc4_answeredLesser q) (fun r1 S1 h => ?_)
      refine z_if_eq (pc := 22) (tgt := 50) X dX5_mend_22 (by decide) h (fun h => ?_) (fun h => ?_)
      · exact z_sub [0, 1, 2] rfl (zz5_mend_50 X _ ih _ _ _ h)
      · refine z_aload_n (pc := 25) X dX5_mend_25 rfl 0 rfl ?_
        refine z_get (pc := 26) (v := .ref (σ 22)) X 17 fX5_21 rfl rfl dX5_mend_26 rfl ?_
        refine z_aload_n (pc := 29) X dX5_mend_29 rfl 0 rfl ?_
        refine z_get (pc := 30) (v := .int _) X 17 fX5_54 rfl rfl dX5_mend_30 rfl ?_
        refine z_iconst (pc := 33) (v := 1) X dX5_mend_33 (by decide) ?_
        refine z_iadd (pc := 34) X dX5_mend_34 ?_
        refine z_iconst (pc := 35) (v := 4) X dX5_mend_35 (by decide) ?_
        refine z_aload_n (pc := 36) X dX5_mend_36 rfl 0 rfl ?_
        refine z_get (pc := 37) (v := .ref (σ 32)) X 17 fX5_35 rfl rfl dX5_mend_37 rfl ?_
        refine z_get (pc := 40) (v := .ref (σ 35)) X 32 fX5_136 rfl rfl dX5_mend_40 rfl ?_
        refine z_iload_n (pc := 43) X dX5_mend_43 rfl 1 rfl ?_
        refine z_iald (pc := 44) X 35 rfl dX5_mend_44 h (fun h => ?_)
        refine z_iload_n (pc := 45) X dX5_mend_45 rfl 2 rfl ?_
        refine z_iconst (pc := 46) (v := 0) X dX5_mend_46 (by decide) ?_
        refine z_callVv (pc := 47) (rm := rm3_send) X 22 [.int _, .int _, .int _, .int _, .int _] vX5_84 rfl rfl rfl (Nat.le_of_ble_eq_true rfl) ⟨rfl, rfl, Nat.le_of_ble_eq_true rfl, Nat.le_of_ble_eq_true rfl⟩ dX5_mend_47 h (fun _ _ q => cc3_send q) (fun _ S2 h => ?_)
        exact z_sub [0, 1, 2] rfl (zz5_mend_50 X _ ih _ _ _ h)
set_option maxRecDepth 100000 in
set_option maxHeartbeats 4000000 in
theorem zz5_mend_0 {S' : St} (X : zM p s m args meth c D cA σ shC tS RX5 cX5_mend 3 none) : ∀ (S : St) (x1 : Int32), J5_mend S x1 = some ((), S') → Zj p l e rm5_mend s m args below meth c D cA σ shC 3 none S' 0 [(0, .ref (σ 17)), (1, .int x1)] [] S := by
  intro S x1 h
  rw [J5_mend] at h
  refine z_iconst (pc := 0) (v := 0) X dX5_mend_0 (by decide) ?_
  refine z_istore_n (pc := 1) (L' := [(2, .int _), (0, .ref _), (1, .int _)]) X dX5_mend_1 rfl (by decide) rfl ?_
  exact z_sub [1, 2, 0] rfl (zz5_mend_2 X  fu _ _ _ h)
theorem cc5_mend {l : Launch} {D : va_G} {cA : Nat → ClassId} {σ : Nat → Nat} {tS : Nat} {S S' : St} {x1 : Int32} (h : J5_mend S x1 = some ((), S')) : zMet l D cA σ shC tS yX5_mend cX5_mend 3 none rm5_mend [.ref (σ 17), .int x1] S none S' := z_met [(0, .ref (σ 17)), (1, .int x1)] (by decide +kernel) (Nat.le_of_ble_eq_true rfl) rfl (fun _ _ _ _ _ _ _ _ X => zz5_mend_0 X _ _ h)
set_option maxRecDepth 100000 in
set_option maxHeartbeats 4000000 in
theorem zz7_hear_44 {S' : St} (X : zM p s m args meth c D cA σ shC tS RX7 cX7_hear 5 none) : ∀ (S : St), J7_hear_44 S = some ((), S') → Zj p l e rm7_hear s m args below meth c D cA σ shC 5 none S' 44 [] [] S := by
  intro S h
  rw [J7_hear_44] at h
  exact z_vret X rfl dX7_hear_44 h
set_option maxRecDepth 100000 in
set_option maxHeartbeats 4000000 in
theorem zz7_hear_0 {S' : St} (X : zM p s m args meth c D cA σ shC tS RX7 cX7_hear 5 none) : ∀ (S : St) (x1 : Int32) (x2 : Int32) (x3 : Int32), J7_hear S x1 x2 x3 = some ((), S') → Zj p l e rm7_hear s m args below meth c D cA σ shC 5 none S' 0 [(0, .ref (σ 29)), (1, .int x1), (2, .int x2), (3, .int x3)] [] S := by
  intro S x1 x2 x3 h
  rw [J7_hear] at h
  refine z_aload_n (pc := 0) X dX7_hear_0 rfl 0 rfl ?_
  refine z_iload_n (pc := 1) X dX7_hear_1 rfl 1 rfl ?_
  refine z_callVi (pc := 2) (rm := rm7_has) X 29 [.int _] vX7_22 rfl rfl rfl (Nat.le_of_ble_eq_true rfl) ⟨rfl, rfl, Nat.le_of_ble_eq_true rfl, Nat.le_of_ble_eq_true rfl⟩ dX7_hear_2 h (fun _ _ q => cc7_has q) (fun r1 S1 h => ?_)
  refine z_if_ne (pc := 5) (tgt := 9) X dX7_hear_5 (by decide) h (fun h => ?_) (fun h => ?_)
  · refine z_iload_n (pc := 9) X dX7_hear_9 rfl 1 rfl ?_
    refine z_iconst (pc := 10) (v := 1) X dX7_hear_10 (by decide) ?_
    refine z_isub (pc := 11) X dX7_hear_11 ?_
    refine z_istore (pc := 12) (L' := [(4, .int _), (0, .ref _), (1, .int _), (2, .int _), (3, .int _)]) X dX7_hear_12 (by decide) rfl ?_
    refine z_let h (fun h => ?_)
    refine z_aload_n (pc := 14) X dX7_hear_14 rfl 1 rfl ?_
    refine z_get (pc := 15) (v := .ref (σ 31)) X 29 fX7_15 rfl rfl dX7_hear_15 rfl ?_
    refine z_iload (pc := 18) X dX7_hear_18 0 rfl ?_
    refine z_dup2_11 (pc := 20) X dX7_hear_20 rfl rfl ?_
    refine z_iald (pc := 21) X 31 rfl dX7_hear_21 h (fun h => ?_)
    refine z_iconst (pc := 22) (v := 1) X dX7_hear_22 (by decide) ?_
    refine z_iadd (pc := 23) X dX7_hear_23 ?_
    refine z_iast (pc := 24) X 31 rfl dX7_hear_24 h (fun h => ?_)
    refine z_let h (fun h => ?_)
    refine z_aload_n (pc := 25) X dX7_hear_25 rfl 1 rfl ?_
    refine z_get (pc := 26) (v := .ref (σ 31)) X 29 fX7_15 rfl rfl dX7_hear_26 rfl ?_
    refine z_iload (pc := 29) X dX7_hear_29 0 rfl ?_
    refine z_iald (pc := 31) X 31 rfl dX7_hear_31 h (fun h => ?_)
    refine z_iload_n (pc := 32) X dX7_hear_32 rfl 3 rfl ?_
    refine z_icmp_ne (pc := 33) (tgt := 44) X dX7_hear_33 (by decide) h (fun h => ?_) (fun h => ?_)
    · exact z_sub [] rfl (zz7_hear_44 X  _ h)
    · refine z_aload_n (pc := 36) X dX7_hear_36 rfl 1 rfl ?_
      refine z_get (pc := 37) (v := .ref (σ 30)) X 29 fX7_9 rfl rfl dX7_hear_37 rfl ?_
      refine z_iload (pc := 40) X dX7_hear_40 0 rfl ?_
      refine z_iload_n (pc := 42) X dX7_hear_42 rfl 4 rfl ?_
      refine z_iast (pc := 43) X 30 rfl dX7_hear_43 h (fun h => ?_)
      refine z_let h (fun h => ?_)
      exact z_sub [] rfl (zz7_hear_44 X  _ h)
  · exact z_vret X rfl dX7_hear_8 h
theorem cc7_hear {l : Launch} {D : va_G} {cA : Nat → ClassId} {σ : Nat → Nat} {tS : Nat} {S S' : St} {x1 : Int32} {x2 : Int32} {x3 : Int32} (h : J7_hear S x1 x2 x3 = some ((), S')) : zMet l D cA σ shC tS yX7_hear cX7_hear 5 none rm7_hear [.ref (σ 29), .int x1, .int x2, .int x3] S none S' := z_met [(0, .ref (σ 29)), (1, .int x1), (2, .int x2), (3, .int x3)] (by decide +kernel) (Nat.le_of_ble_eq_true rfl) rfl (fun _ _ _ _ _ _ _ _ X => zz7_hear_0 X _ _ _ _ h)
set_option maxRecDepth 100000 in
set_option maxHeartbeats 4000000 in
theorem zz5_come_225 {S' : St} (X : zM p s m args meth c D cA σ shC tS RX5 cX5_come 5 none) : ∀ (S : St), J5_come_225 S = some ((), S') → Zj p l e rm5_come s m args below meth c D cA σ shC 5 none S' 225 [] [] S := by
  intro S h
  rw [J5_come_225] at h
  exact z_vret X rfl dX5_come_225 h
set_option maxRecDepth 100000 in
set_option maxHeartbeats 4000000 in
theorem zz5_come_0 {S' : St} (X : zM p s m args meth c D cA σ shC tS RX5 cX5_come 5 none) : ∀ (S : St) (x1 : Int32), J5_come S x1 = some ((), S') → Zj p l e rm5_come s m args below meth c D cA σ shC 5 none S' 0 [(0, .ref (σ 17)), (1, .int x1)] [] S := by
  intro S x1 h
  rw [J5_come] at h
  refine z_aload_n (pc := 0) X dX5_come_0 rfl 0 rfl ?_
  refine z_get (pc := 1) (v := .ref (σ 22)) X 17 fX5_21 rfl rfl dX5_come_1 rfl ?_
  refine z_get (pc := 4) (v := .ref (σ 25)) X 22 fX5_98 rfl rfl dX5_come_4 rfl ?_
  refine z_iload_n (pc := 7) X dX5_come_7 rfl 1 rfl ?_
  refine z_iald (pc := 8) X 25 rfl dX5_come_8 h (fun h => ?_)
  refine z_istore_n (pc := 9) (L' := [(2, .int _), (0, .ref _), (1, .int _)]) X dX5_come_9 rfl (by decide) rfl ?_
  refine z_let h (fun h => ?_)
  refine z_aload_n (pc := 10) X dX5_come_10 rfl 1 rfl ?_
  refine z_get (pc := 11) (v := .ref (σ 22)) X 17 fX5_21 rfl rfl dX5_come_11 rfl ?_
  refine z_get (pc := 14) (v := .ref (σ 27)) X 22 fX5_101 rfl rfl dX5_come_14 rfl ?_
  refine z_iload_n (pc := 17) X dX5_come_17 rfl 2 rfl ?_
  refine z_iald (pc := 18) X 27 rfl dX5_come_18 h (fun h => ?_)
  refine z_istore_n (pc := 19) (L' := [(3, .int _), (2, .int _), (0, .ref _), (1, .int _)]) X dX5_come_19 rfl (by decide) rfl ?_
  refine z_let h (fun h => ?_)
  refine z_aload_n (pc := 20) X dX5_come_20 rfl 2 rfl ?_
  refine z_get (pc := 21) (v := .ref (σ 22)) X 17 fX5_21 rfl rfl dX5_come_21 rfl ?_
  refine z_get (pc := 24) (v := .ref (σ 28)) X 22 fX5_103 rfl rfl dX5_come_24 rfl ?_
  refine z_iload_n (pc := 27) X dX5_come_27 rfl 3 rfl ?_
  refine z_iald (pc := 28) X 28 rfl dX5_come_28 h (fun h => ?_)
  refine z_istore (pc := 29) (L' := [(4, .int _), (3, .int _), (2, .int _), (0, .ref _), (1, .int _)]) X dX5_come_29 (by decide) rfl ?_
  refine z_let h (fun h => ?_)
  refine z_aload_n (pc := 31) X dX5_come_31 rfl 3 rfl ?_
  refine z_get (pc := 32) (v := .ref (σ 18)) X 17 fX5_12 rfl rfl dX5_come_32 rfl ?_
  refine z_iload_n (pc := 35) X dX5_come_35 rfl 1 rfl ?_
  refine z_callVi (pc := 36) (rm := rm1_has) X 18 [.int _] vX5_106 rfl rfl rfl (Nat.le_of_ble_eq_true rfl) ⟨rfl, rfl, Nat.le_of_ble_eq_true rfl, Nat.le_of_ble_eq_true rfl⟩ dX5_come_36 h (fun _ _ q => cc1_has q) (fun r4 S4 h => ?_)
  refine z_if_ne (pc := 39) (tgt := 43) X dX5_come_39 (by decide) h (fun h => ?_) (fun h => ?_)
  · refine z_aload_n (pc := 43) X dX5_come_43 rfl 3 rfl ?_
    refine z_get (pc := 44) (v := .ref (σ 22)) X 17 fX5_21 rfl rfl dX5_come_44 rfl ?_
    refine z_get (pc := 47) (v := .ref (σ 26)) X 22 fX5_110 rfl rfl dX5_come_47 rfl ?_
    refine z_iload_n (pc := 50) X dX5_come_50 rfl 4 rfl ?_
    refine z_iald (pc := 51) X 26 rfl dX5_come_51 h (fun h => ?_)
    refine z_arm h (fun hx h => ?_) (fun hx0 h => ?_)
    · refine z_tsIn (pc := 52) (tgt := 84) X 0 hx dX5_come_52 (by decide) (by decide) rfl (by decide) ?_
      refine z_aload_n (pc := 84) X dX5_come_84 rfl 3 rfl ?_
      refine z_get (pc := 85) (v := .ref (σ 18)) X 17 fX5_12 rfl rfl dX5_come_85 rfl ?_
      refine z_iload_n (pc := 88) X dX5_come_88 rfl 1 rfl ?_
      refine z_iload_n (pc := 89) X dX5_come_89 rfl 2 rfl ?_
      refine z_callVi (pc := 90) (rm := rm1_take) X 18 [.int _, .int _] vX5_113 rfl rfl rfl (Nat.le_of_ble_eq_true rfl) ⟨rfl, rfl, Nat.le_of_ble_eq_true rfl, Nat.le_of_ble_eq_true rfl⟩ dX5_come_90 h (fun _ _ q => cc1_take q) (fun r5 S5 h => ?_)
      refine z_if_eq (pc := 93) (tgt := 225) X dX5_come_93 (by decide) h (fun h => ?_) (fun h => ?_)
      · exact z_sub [] rfl (zz5_come_225 X  _ h)
      · refine z_aload_n (pc := 96) X dX5_come_96 rfl 3 rfl ?_
        refine z_get (pc := 97) (v := .ref (σ 22)) X 17 fX5_21 rfl rfl dX5_come_97 rfl ?_
        refine z_aload_n (pc := 100) X dX5_come_100 rfl 3 rfl ?_
        refine z_get (pc := 101) (v := .int _) X 17 fX5_54 rfl rfl dX5_come_101 rfl ?_
        refine z_iload (pc := 104) X dX5_come_104 0 rfl ?_
        refine z_iadd (pc := 106) X dX5_come_106 ?_
        refine z_iconst (pc := 107) (v := 1) X dX5_come_107 (by decide) ?_
        refine z_iload_n (pc := 108) X dX5_come_108 rfl 2 rfl ?_
        refine z_iload_n (pc := 109) X dX5_come_109 rfl 1 rfl ?_
        refine z_iconst (pc := 110) (v := 0) X dX5_come_110 (by decide) ?_
        refine z_callVv (pc := 111) (rm := rm3_send) X 22 [.int _, .int _, .int _, .int _, .int _] vX5_84 rfl rfl rfl (Nat.le_of_ble_eq_true rfl) ⟨rfl, rfl, Nat.le_of_ble_eq_true rfl, Nat.le_of_ble_eq_true rfl⟩ dX5_come_111 h (fun _ _ q => cc3_send q) (fun _ S6 h => ?_)
        refine z_goto (pc := 114) (tgt := 225) X dX5_come_114 (by decide) ?_
        exact z_sub [] rfl (zz5_come_225 X  _ h)
    · skip
      refine z_arm h (fun hx h => ?_) (fun hx1 h => ?_)
      · refine z_tsIn (pc := 52) (tgt := 117) X 1 hx dX5_come_52 (by decide) (by decide) rfl (by decide) ?_
        refine z_aload_n (pc := 117) X dX5_come_117 rfl 3 rfl ?_
        refine z_get (pc := 118) (v := .ref (σ 29)) X 17 fX5_28 rfl rfl dX5_come_118 rfl ?_
        refine z_iload_n (pc := 121) X dX5_come_121 rfl 2 rfl ?_
        refine z_aload_n (pc := 122) X dX5_come_122 rfl 3 rfl ?_
        refine z_get (pc := 123) (v := .int _) X 17 fX5_47 rfl rfl dX5_come_123 rfl ?_
        refine z_aload_n (pc := 126) X dX5_come_126 rfl 3 rfl ?_
        refine z_get (pc := 127) (v := .int _) X 17 fX5_54 rfl rfl dX5_come_127 rfl ?_
        refine z_callVv (pc := 130) (rm := rm7_hear) X 29 [.int _, .int _, .int _] vX5_117 rfl rfl rfl (Nat.le_of_ble_eq_true rfl) ⟨rfl, rfl, Nat.le_of_ble_eq_true rfl, Nat.le_of_ble_eq_true rfl⟩ dX5_come_130 h (fun _ _ q => cc7_hear q) (fun _ S7 h => ?_)
        refine z_goto (pc := 133) (tgt := 225) X dX5_come_133 (by decide) ?_
        exact z_sub [] rfl (zz5_come_225 X  _ h)
      · skip
        refine z_arm h (fun hx h => ?_) (fun hx2 h => ?_)
        · refine z_tsIn (pc := 52) (tgt := 136) X 2 hx dX5_come_52 (by decide) (by decide) rfl (by decide) ?_
          refine z_aload_n (pc := 136) X dX5_come_136 rfl 3 rfl ?_
          refine z_get (pc := 137) (v := .ref (σ 18)) X 17 fX5_12 rfl rfl dX5_come_137 rfl ?_
          refine z_get (pc := 140) (v := .ref (σ 20)) X 18 fX5_121 rfl rfl dX5_come_140 rfl ?_
          refine z_iload_n (pc := 143) X dX5_come_143 rfl 1 rfl ?_
          refine z_zald (pc := 144) X 20 rfl dX5_come_144 h (fun h => ?_)
          refine z_if_eq (pc := 145) (tgt := 225) X dX5_come_145 (by decide) h (fun h => ?_) (fun h => ?_)
          · exact z_sub [] rfl (zz5_come_225 X  _ h)
          · refine z_aload_n (pc := 148) X dX5_come_148 rfl 3 rfl ?_
            refine z_get (pc := 149) (v := .ref (σ 22)) X 17 fX5_21 rfl rfl dX5_come_149 rfl ?_
            refine z_aload_n (pc := 152) X dX5_come_152 rfl 3 rfl ?_
            refine z_get (pc := 153) (v := .int _) X 17 fX5_54 rfl rfl dX5_come_153 rfl ?_
            refine z_iload (pc := 156) X dX5_come_156 0 rfl ?_
            refine z_iadd (pc := 158) X dX5_come_158 ?_
            refine z_iconst (pc := 159) (v := 3) X dX5_come_159 (by decide) ?_
            refine z_iload_n (pc := 160) X dX5_come_160 rfl 2 rfl ?_
            refine z_iload_n (pc := 161) X dX5_come_161 rfl 1 rfl ?_
            refine z_aload_n (pc := 162) X dX5_come_162 rfl 3 rfl ?_
            refine z_get (pc := 163) (v := .ref (σ 18)) X 17 fX5_12 rfl rfl dX5_come_163 rfl ?_
            refine z_get (pc := 166) (v := .ref (σ 19)) X 18 fX5_124 rfl rfl dX5_come_166 rfl ?_
            refine z_iload_n (pc := 169) X dX5_come_169 rfl 1 rfl ?_
            refine z_iald (pc := 170) X 19 rfl dX5_come_170 h (fun h => ?_)
            refine z_callVv (pc := 171) (rm := rm3_send) X 22 [.int _, .int _, .int _, .int _, .int _] vX5_84 rfl rfl rfl (Nat.le_of_ble_eq_true rfl) ⟨rfl, rfl, Nat.le_of_ble_eq_true rfl, Nat.le_of_ble_eq_true rfl⟩ dX5_come_171 h (fun _ _ q => cc3_send q) (fun _ S8 h => ?_)
            refine z_goto (pc := 174) (tgt := 225) X dX5_come_174 (by decide) ?_
            exact z_sub [] rfl (zz5_come_225 X  _ h)
        · skip
          refine z_arm h (fun hx h => ?_) (fun hx3 h => ?_)
          · refine z_tsIn (pc := 52) (tgt := 177) X 3 hx dX5_come_52 (by decide) (by decide) rfl (by decide) ?_
            refine z_aload_n (pc := 177) X dX5_come_177 rfl 3 rfl ?_
            refine z_get (pc := 178) (v := .ref (σ 32)) X 17 fX5_35 rfl rfl dX5_come_178 rfl ?_
            refine z_iload_n (pc := 181) X dX5_come_181 rfl 2 rfl ?_
            refine z_iload_n (pc := 182) X dX5_come_182 rfl 1 rfl ?_
            refine z_iload (pc := 183) X dX5_come_183 0 rfl ?_
            refine z_aload_n (pc := 185) X dX5_come_185 rfl 3 rfl ?_
            refine z_get (pc := 186) (v := .int _) X 17 fX5_51 rfl rfl dX5_come_186 rfl ?_
            refine z_callVi (pc := 189) (rm := rm4_hear) X 32 [.int _, .int _, .int _, .int _] vX5_127 rfl rfl rfl (Nat.le_of_ble_eq_true rfl) ⟨rfl, rfl, Nat.le_of_ble_eq_true rfl, Nat.le_of_ble_eq_true rfl⟩ dX5_come_189 h (fun _ _ q => cc4_hear q) (fun r9 S9 h => ?_)
            refine z_if_eq (pc := 192) (tgt := 225) X dX5_come_192 (by decide) h (fun h => ?_) (fun h => ?_)
            · exact z_sub [] rfl (zz5_come_225 X  _ h)
            · refine z_aload_n (pc := 195) X dX5_come_195 rfl 3 rfl ?_
              refine z_iload_n (pc := 196) X dX5_come_196 rfl 2 rfl ?_
              refine z_callVv (pc := 197) (rm := rm5_finish) X 17 [.int _] vX5_130 rfl rfl rfl (Nat.le_of_ble_eq_true rfl) ⟨rfl, rfl, Nat.le_of_ble_eq_true rfl, Nat.le_of_ble_eq_true rfl⟩ dX5_come_197 h (fun _ _ q => cc5_finish q) (fun _ S10 h => ?_)
              refine z_aload_n (pc := 200) X dX5_come_200 rfl 3 rfl ?_
              refine z_get (pc := 201) (v := .int _) X 17 fX5_57 rfl rfl dX5_come_201 rfl ?_
              refine z_if_eq (pc := 204) (tgt := 225) X dX5_come_204 (by decide) h (fun h => ?_) (fun h => ?_)
              · exact z_sub [] rfl (zz5_come_225 X  _ h)
              · refine z_aload_n (pc := 207) X dX5_come_207 rfl 3 rfl ?_
                refine z_iload_n (pc := 208) X dX5_come_208 rfl 2 rfl ?_
                refine z_callVv (pc := 209) (rm := rm5_mend) X 17 [.int _] vX5_133 rfl rfl rfl (Nat.le_of_ble_eq_true rfl) ⟨rfl, rfl, Nat.le_of_ble_eq_true rfl, Nat.le_of_ble_eq_true rfl⟩ dX5_come_209 h (fun _ _ q => cc5_mend q) (fun _ S11 h => ?_)
                refine z_goto (pc := 212) (tgt := 225) X dX5_come_212 (by decide) ?_
                exact z_sub [] rfl (zz5_come_225 X  _ h)
          · skip
            have hs0 := lv_neT hx0 (a := 0) (by decide)
            have hs1 := lv_neT hx1 (a := 1) (by decide)
            have hs2 := lv_neT hx2 (a := 2) (by decide)
            have hs3 := lv_neT hx3 (a := 3) (by decide)
            refine z_tsOut (pc := 52) (tgt := 215) X dX5_come_52 (by omega) (by decide) ?_
            refine z_aload_n (pc := 215) X dX5_come_215 rfl 3 rfl ?_
            refine z_get (pc := 216) (v := .ref (σ 18)) X 17 fX5_12 rfl rfl dX5_come_216 rfl ?_
            refine z_iload_n (pc := 219) X dX5_come_219 rfl 1 rfl ?_
            refine z_iload_n (pc := 220) X dX5_come_220 rfl 2 rfl ?_
            refine z_callVi (pc := 221) (rm := rm1_take) X 18 [.int _, .int _] vX5_113 rfl rfl rfl (Nat.le_of_ble_eq_true rfl) ⟨rfl, rfl, Nat.le_of_ble_eq_true rfl, Nat.le_of_ble_eq_true rfl⟩ dX5_come_221 h (fun _ _ q => cc1_take q) (fun r12 S12 h => ?_)
            refine z_pop (pc := 224) X dX5_come_224 rfl ?_
            exact z_sub [] rfl (zz5_come_225 X  _ h)
  · exact z_vret X rfl dX5_come_42 h
theorem cc5_come {l : Launch} {D : va_G} {cA : Nat → ClassId} {σ : Nat → Nat} {tS : Nat} {S S' : St} {x1 : Int32} (h : J5_come S x1 = some ((), S')) : zMet l D cA σ shC tS yX5_come cX5_come 5 none rm5_come [.ref (σ 17), .int x1] S none S' := z_met [(0, .ref (σ 17)), (1, .int x1)] (by decide +kernel) (Nat.le_of_ble_eq_true rfl) rfl (fun _ _ _ _ _ _ _ _ X => zz5_come_0 X _ _ h)
set_option maxRecDepth 100000 in
set_option maxHeartbeats 4000000 in
theorem zz5_renew_34 {S' : St} (X : zM p s m args meth c D cA σ shC tS RX5 cX5_renew 5 none) : ∀ (n : Nat) (S : St) (x2 : Int32) (x3 : Int32) (x4 : Int32), J5_renew_34 n S x2 x3 x4 = some ((), S') → Zj p l e rm5_renew s m args below meth c D cA σ shC 5 none S' 34 [(0, .ref (σ 17)), (2, .int x2), (3, .int x3), (4, .int x4)] [] S := by
  intro n
  induction n with
  | zero =>
    intro S x2 x3 x4 h
    rw [J5_renew_34] at h
    cases h
  | succ n ih =>
    intro S x2 x3 x4 h
    rw [J5_renew_34] at h
    refine z_iload (pc := 34) X dX5_renew_34 3 rfl ?_
    refine z_iconst (pc := 36) (v := 4) X dX5_renew_36 (by decide) ?_
    refine z_icmp_ge (pc := 37) (tgt := 62) X dX5_renew_37 (by decide) h (fun h => ?_) (fun h => ?_)
    · refine z_aload_n (pc := 62) X dX5_renew_62 rfl 0 rfl ?_
      refine z_iload_n (pc := 63) X dX5_renew_63 rfl 1 rfl ?_
      refine z_putI (pc := 64) X 17 gX5_47 rfl rfl dX5_renew_64 ?_
      refine z_let h (fun h => ?_)
      refine z_aload_n (pc := 67) X dX5_renew_67 rfl 0 rfl ?_
      refine z_iload_n (pc := 68) X dX5_renew_68 rfl 2 rfl ?_
      refine z_putI (pc := 69) X 17 gX5_51 rfl rfl dX5_renew_69 ?_
      refine z_let h (fun h => ?_)
      refine z_aload_n (pc := 72) X dX5_renew_72 rfl 0 rfl ?_
      refine z_iconst (pc := 73) (v := 0) X dX5_renew_73 (by decide) ?_
      refine z_putI (pc := 74) X 17 gX5_54 rfl rfl dX5_renew_74 ?_
      refine z_let h (fun h => ?_)
      refine z_aload_n (pc := 77) X dX5_renew_77 rfl 0 rfl ?_
      refine z_iconst (pc := 78) (v := 0) X dX5_renew_78 (by decide) ?_
      refine z_putZ (pc := 79) X 17 gX5_57 rfl rfl dX5_renew_79 h (fun h => ?_)
      refine z_let h (fun h => ?_)
      refine z_aload_n (pc := 82) X dX5_renew_82 rfl 0 rfl ?_
      refine z_iconst (pc := 83) (v := 0) X dX5_renew_83 (by decide) ?_
      refine z_putI (pc := 84) X 17 gX5_61 rfl rfl dX5_renew_84 ?_
      refine z_let h (fun h => ?_)
      refine z_aload_n (pc := 87) X dX5_renew_87 rfl 0 rfl ?_
      refine z_iconst (pc := 88) (v := 0) X dX5_renew_88 (by decide) ?_
      refine z_putI (pc := 89) X 17 gX5_64 rfl rfl dX5_renew_89 ?_
      refine z_let h (fun h => ?_)
      exact z_vret X rfl dX5_renew_92 h
    · refine z_aload_n (pc := 40) X dX5_renew_40 rfl 0 rfl ?_
      refine z_get (pc := 41) (v := .ref (σ 41)) X 17 fX5_39 rfl rfl dX5_renew_41 rfl ?_
      refine z_iload (pc := 44) X dX5_renew_44 3 rfl ?_
      refine z_iconst (pc := 46) (v := 0) X dX5_renew_46 (by decide) ?_
      refine z_zast (pc := 47) X 41 rfl dX5_renew_47 h (fun h => ?_)
      refine z_let h (fun h => ?_)
      refine z_aload_n (pc := 48) X dX5_renew_48 rfl 0 rfl ?_
      refine z_get (pc := 49) (v := .ref (σ 42)) X 17 fX5_43 rfl rfl dX5_renew_49 rfl ?_
      refine z_iload (pc := 52) X dX5_renew_52 3 rfl ?_
      refine z_iconst (pc := 54) (v := 0) X dX5_renew_54 (by decide) ?_
      refine z_iast (pc := 55) X 42 rfl dX5_renew_55 h (fun h => ?_)
      refine z_let h (fun h => ?_)
      refine z_iinc (pc := 56) (k := 3) (v := 1) (L' := [(4, .int _), (0, .ref _), (2, .int _), (3, .int _)]) X dX5_renew_56 rfl (by decide) (by decide) rfl ?_
      refine z_let h (fun h => ?_)
      refine z_goto (pc := 59) (tgt := 34) X dX5_renew_59 (by decide) ?_
      exact z_sub [1, 2, 3, 0] rfl (ih _ _ _ _ h)
set_option maxRecDepth 100000 in
set_option maxHeartbeats 4000000 in
theorem zz5_renew_0 {S' : St} (X : zM p s m args meth c D cA σ shC tS RX5 cX5_renew 5 none) : ∀ (S : St) (x1 : Int32) (x2 : Int32) (x3 : Int32), J5_renew S x1 x2 x3 = some ((), S') → Zj p l e rm5_renew s m args below meth c D cA σ shC 5 none S' 0 [(0, .ref (σ 17)), (1, .int x1), (2, .int x2), (3, .int x3)] [] S := by
  intro S x1 x2 x3 h
  rw [J5_renew] at h
  refine z_aload_n (pc := 0) X dX5_renew_0 rfl 0 rfl ?_
  refine z_get (pc := 1) (v := .ref (σ 18)) X 17 fX5_12 rfl rfl dX5_renew_1 rfl ?_
  refine z_iload_n (pc := 4) X dX5_renew_4 rfl 1 rfl ?_
  refine z_callVv (pc := 5) (rm := rm1_renew) X 18 [.int _] vX5_67 rfl rfl rfl (Nat.le_of_ble_eq_true rfl) ⟨rfl, rfl, Nat.le_of_ble_eq_true rfl, Nat.le_of_ble_eq_true rfl⟩ dX5_renew_5 h (fun _ _ q => cc1_renew q) (fun _ S1 h => ?_)
  refine z_aload_n (pc := 8) X dX5_renew_8 rfl 0 rfl ?_
  refine z_get (pc := 9) (v := .ref (σ 22)) X 17 fX5_21 rfl rfl dX5_renew_9 rfl ?_
  refine z_callVv (pc := 12) (rm := rm3_renew) X 22 [] vX5_71 rfl rfl rfl (Nat.le_of_ble_eq_true rfl) ⟨rfl, rfl, Nat.le_of_ble_eq_true rfl, Nat.le_of_ble_eq_true rfl⟩ dX5_renew_12 h (fun _ _ q => cc3_renew q) (fun _ S2 h => ?_)
  refine z_aload_n (pc := 15) X dX5_renew_15 rfl 0 rfl ?_
  refine z_get (pc := 16) (v := .ref (σ 29)) X 17 fX5_28 rfl rfl dX5_renew_16 rfl ?_
  refine z_iconst (pc := 19) (v := 0) X dX5_renew_19 (by decide) ?_
  refine z_putI (pc := 20) X 29 gX5_73 rfl rfl dX5_renew_20 ?_
  refine z_let h (fun h => ?_)
  refine z_aload_n (pc := 23) X dX5_renew_23 rfl 0 rfl ?_
  refine z_get (pc := 24) (v := .ref (σ 32)) X 17 fX5_35 rfl rfl dX5_renew_24 rfl ?_
  refine z_iconst (pc := 27) (v := 0) X dX5_renew_27 (by decide) ?_
  refine z_putI (pc := 28) X 32 gX5_76 rfl rfl dX5_renew_28 ?_
  refine z_let h (fun h => ?_)
  refine z_iconst (pc := 31) (v := 0) X dX5_renew_31 (by decide) ?_
  refine z_istore (pc := 32) (L' := [(4, .int _), (0, .ref _), (1, .int _), (2, .int _), (3, .int _)]) X dX5_renew_32 (by decide) rfl ?_
  exact z_sub [1, 3, 4, 0] rfl (zz5_renew_34 X  fu _ _ _ _ h)
theorem cc5_renew {l : Launch} {D : va_G} {cA : Nat → ClassId} {σ : Nat → Nat} {tS : Nat} {S S' : St} {x1 : Int32} {x2 : Int32} {x3 : Int32} (h : J5_renew S x1 x2 x3 = some ((), S')) : zMet l D cA σ shC tS yX5_renew cX5_renew 5 none rm5_renew [.ref (σ 17), .int x1, .int x2, .int x3] S none S' := z_met [(0, .ref (σ 17)), (1, .int x1), (2, .int x2), (3, .int x3)] (by decide +kernel) (Nat.le_of_ble_eq_true rfl) rfl (fun _ _ _ _ _ _ _ _ X => zz5_renew_0 X _ _ _ _ h)
set_option maxRecDepth 100000 in
set_option maxHeartbeats 4000000 in
theorem zz8_fits_18 {S' : St} {r : Int32} (X : zM p s m args meth c D cA σ shC tS RX8 cX8_fits 6 (some .boolean)) : ∀ (S : St) (t0 : Int32), J8_fits_18 S t0 = some (r, S') → Zj p l e rm8_fits s m args below meth c D cA σ shC 6 (some (.int r)) S' 18 [] [.int t0] S := by
  intro S t0 h
  rw [J8_fits_18] at h
  exact z_zret X rfl dX8_fits_18 h
set_option maxRecDepth 100000 in
set_option maxHeartbeats 4000000 in
theorem zz8_fits_17 {S' : St} {r : Int32} (X : zM p s m args meth c D cA σ shC tS RX8 cX8_fits 6 (some .boolean)) : ∀ (S : St), J8_fits_17 S = some (r, S') → Zj p l e rm8_fits s m args below meth c D cA σ shC 6 (some (.int r)) S' 17 [] [] S := by
  intro S h
  rw [J8_fits_17] at h
  refine z_iconst (pc := 17) (v := 0) X dX8_fits_17 (by decide) ?_
  exact z_sub [] rfl (zz8_fits_18 X  _ _ h)
set_option maxRecDepth 100000 in
set_option maxHeartbeats 4000000 in
theorem zz8_fits_0 {S' : St} {r : Int32} (X : zM p s m args meth c D cA σ shC tS RX8 cX8_fits 6 (some .boolean)) : ∀ (S : St) (x0 : Int64) (x2 : Int64) (x4 : Int64), J8_fits S x0 x2 x4 = some (r, S') → Zj p l e rm8_fits s m args below meth c D cA σ shC 6 (some (.int r)) S' 0 [(0, .long x0), (2, .long x2), (4, .long x4)] [] S := by
  intro S x0 x2 x4 h
  rw [J8_fits] at h
  refine z_lload_n (pc := 0) X dX8_fits_0 rfl 0 rfl ?_
  refine z_lload_n (pc := 1) X dX8_fits_1 rfl 1 rfl ?_
  refine z_lcmp (pc := 2) X dX8_fits_2 ?_
  refine z_if_lt (pc := 3) (tgt := 17) X dX8_fits_3 (by decide) h (fun h => ?_) (fun h => ?_)
  · exact z_sub [] rfl (zz8_fits_17 X  _ h)
  · refine z_lload_n (pc := 6) X dX8_fits_6 rfl 0 rfl ?_
    refine z_lload (pc := 7) X dX8_fits_7 2 rfl ?_
    refine z_lcmp (pc := 9) X dX8_fits_9 ?_
    refine z_if_gt (pc := 10) (tgt := 17) X dX8_fits_10 (by decide) h (fun h => ?_) (fun h => ?_)
    · exact z_sub [] rfl (zz8_fits_17 X  _ h)
    · refine z_iconst (pc := 13) (v := 1) X dX8_fits_13 (by decide) ?_
      refine z_goto (pc := 14) (tgt := 18) X dX8_fits_14 (by decide) ?_
      exact z_sub [] rfl (zz8_fits_18 X  _ _ h)
theorem cc8_fits {l : Launch} {D : va_G} {cA : Nat → ClassId} {σ : Nat → Nat} {tS : Nat} {S S' : St} {x0 : Int64} {x2 : Int64} {x4 : Int64} {r : Int32} (h : J8_fits S x0 x2 x4 = some (r, S')) : zMet l D cA σ shC tS yX8_fits cX8_fits 6 (some .boolean) rm8_fits [.long x0, .long x2, .long x4] S (some (.int r)) S' := z_met [(0, .long x0), (2, .long x2), (4, .long x4)] (by decide +kernel) (Nat.le_of_ble_eq_true rfl) rfl (fun _ _ _ _ _ _ _ _ X => zz8_fits_0 X _ _ _ _ h)
set_option maxRecDepth 100000 in
set_option maxHeartbeats 4000000 in
theorem zz6_lack_16 {S' : St} {r : Int32} (X : zM p s m args meth c D cA σ shC tS RX6 cX6_lack 4 (some .int)) : ∀ (S : St), J6_lack_16 S = some (r, S') → Zj p l e rm6_lack s m args below meth c D cA σ shC 4 (some (.int r)) S' 16 [] [] S := by
  intro S h
  rw [J6_lack_16] at h
  refine z_iconst (pc := 16) (v := 1) X dX6_lack_16 (by decide) ?_
  exact z_iret X rfl dX6_lack_17 h
set_option maxRecDepth 100000 in
set_option maxHeartbeats 4000000 in
theorem zz6_lack_51 {S' : St} {r : Int32} (X : zM p s m args meth c D cA σ shC tS RX6 cX6_lack 4 (some .int)) : ∀ (S : St) (t0 : Int32), J6_lack_51 S t0 = some (r, S') → Zj p l e rm6_lack s m args below meth c D cA σ shC 4 (some (.int r)) S' 51 [] [.int t0] S := by
  intro S t0 h
  rw [J6_lack_51] at h
  exact z_iret X rfl dX6_lack_51 h
set_option maxRecDepth 100000 in
set_option maxHeartbeats 4000000 in
theorem zz6_lack_46 {S' : St} {r : Int32} (X : zM p s m args meth c D cA σ shC tS RX6 cX6_lack 4 (some .int)) : ∀ (S : St), J6_lack_46 S = some (r, S') → Zj p l e rm6_lack s m args below meth c D cA σ shC 4 (some (.int r)) S' 46 [] [] S := by
  intro S h
  rw [J6_lack_46] at h
  refine z_iconst (pc := 46) (v := 3) X dX6_lack_46 (by decide) ?_
  refine z_goto (pc := 47) (tgt := 51) X dX6_lack_47 (by decide) ?_
  exact z_sub [] rfl (zz6_lack_51 X  _ _ h)
set_option maxRecDepth 100000 in
set_option maxHeartbeats 4000000 in
theorem zz6_lack_0 {S' : St} {r : Int32} (X : zM p s m args meth c D cA σ shC tS RX6 cX6_lack 4 (some .int)) : ∀ (S : St) (x1 : Int32) (x2 : Int32) (x3 : Int32), J6_lack S x1 x2 x3 = some (r, S') → Zj p l e rm6_lack s m args below meth c D cA σ shC 4 (some (.int r)) S' 0 [(0, .ref (σ 1)), (1, .int x1), (2, .int x2), (3, .int x3)] [] S := by
  intro S x1 x2 x3 h
  rw [J6_lack] at h
  refine z_iload_n (pc := 0) X dX6_lack_0 rfl 1 rfl ?_
  refine z_i2l (pc := 1) X dX6_lack_1 ?_
  refine z_lconst (pc := 2) (v := 0) X dX6_lack_2 (by decide) ?_
  refine z_ldc2 (pc := 3) X dX6_lack_3 mw_410 ?_
  refine z_callNi (pc := 6) (rm := rm8_fits) X [.long _, .long _, .long _] nX6_24 X.2.2.2.2.2.2.2.2.2.2.2 rfl rfl (Nat.le_of_ble_eq_true rfl) ⟨rfl, rfl, Nat.le_of_ble_eq_true rfl, Nat.le_of_ble_eq_true rfl⟩ dX6_lack_6 h (fun _ _ q => cc8_fits q) (fun r1 S1 h => ?_)
  refine z_if_eq (pc := 9) (tgt := 16) X dX6_lack_9 (by decide) h (fun h => ?_) (fun h => ?_)
  · exact z_sub [] rfl (zz6_lack_16 X  _ h)
  · refine z_iload_n (pc := 12) X dX6_lack_12 rfl 3 rfl ?_
    refine z_if_ge (pc := 13) (tgt := 18) X dX6_lack_13 (by decide) h (fun h => ?_) (fun h => ?_)
    · refine z_aload_n (pc := 18) X dX6_lack_18 rfl 0 rfl ?_
      refine z_get (pc := 19) (v := .ref (σ 4)) X 1 fX6_19 rfl rfl dX6_lack_19 rfl ?_
      refine z_iload_n (pc := 22) X dX6_lack_22 rfl 1 rfl ?_
      refine z_iald (pc := 23) X 4 rfl dX6_lack_23 h (fun h => ?_)
      refine z_iconst (pc := 24) (v := -1) X dX6_lack_24 (by decide) ?_
      refine z_icmp_ne (pc := 25) (tgt := 30) X dX6_lack_25 (by decide) h (fun h => ?_) (fun h => ?_)
      · refine z_iload_n (pc := 30) X dX6_lack_30 rfl 2 rfl ?_
        refine z_if_lt (pc := 31) (tgt := 46) X dX6_lack_31 (by decide) h (fun h => ?_) (fun h => ?_)
        · exact z_sub [] rfl (zz6_lack_46 X  _ h)
        · refine z_iload_n (pc := 34) X dX6_lack_34 rfl 2 rfl ?_
          refine z_aload_n (pc := 35) X dX6_lack_35 rfl 0 rfl ?_
          refine z_get (pc := 36) (v := .ref (σ 4)) X 1 fX6_19 rfl rfl dX6_lack_36 rfl ?_
          refine z_iload_n (pc := 39) X dX6_lack_39 rfl 1 rfl ?_
          refine z_iald (pc := 40) X 4 rfl dX6_lack_40 h (fun h => ?_)
          refine z_iload_n (pc := 41) X dX6_lack_41 rfl 3 rfl ?_
          refine z_isub (pc := 42) X dX6_lack_42 ?_
          refine z_icmp_le (pc := 43) (tgt := 50) X dX6_lack_43 (by decide) h (fun h => ?_) (fun h => ?_)
          · refine z_iconst (pc := 50) (v := 0) X dX6_lack_50 (by decide) ?_
            exact z_sub [] rfl (zz6_lack_51 X  _ _ h)
          · exact z_sub [] rfl (zz6_lack_46 X  _ h)
      · refine z_iconst (pc := 28) (v := 2) X dX6_lack_28 (by decide) ?_
        exact z_iret X rfl dX6_lack_29 h
    · exact z_sub [] rfl (zz6_lack_16 X  _ h)
theorem cc6_lack {l : Launch} {D : va_G} {cA : Nat → ClassId} {σ : Nat → Nat} {tS : Nat} {S S' : St} {x1 : Int32} {x2 : Int32} {x3 : Int32} {r : Int32} (h : J6_lack S x1 x2 x3 = some (r, S')) : zMet l D cA σ shC tS yX6_lack cX6_lack 4 (some .int) rm6_lack [.ref (σ 1), .int x1, .int x2, .int x3] S (some (.int r)) S' := z_met [(0, .ref (σ 1)), (1, .int x1), (2, .int x2), (3, .int x3)] (by decide +kernel) (Nat.le_of_ble_eq_true rfl) rfl (fun _ _ _ _ _ _ _ _ X => zz6_lack_0 X _ _ _ _ h)
set_option maxRecDepth 100000 in
set_option maxHeartbeats 4000000 in
theorem zz6_at_25 {S' : St} {r : Int64} (X : zM p s m args meth c D cA σ shC tS RX6 cX6_at 3 (some .long)) : ∀ (S : St) (t0 : Int64), J6_at_25 S t0 = some (r, S') → Zj p l e rm6_at s m args below meth c D cA σ shC 3 (some (.long r)) S' 25 [] [.long t0] S := by
  intro S t0 h
  rw [J6_at_25] at h
  exact z_lret X rfl dX6_at_25 h
set_option maxRecDepth 100000 in
set_option maxHeartbeats 4000000 in
theorem zz6_at_0 {S' : St} {r : Int64} (X : zM p s m args meth c D cA σ shC tS RX6 cX6_at 3 (some .long)) : ∀ (S : St) (x1 : Int32) (x2 : Int32), J6_at S x1 x2 = some (r, S') → Zj p l e rm6_at s m args below meth c D cA σ shC 3 (some (.long r)) S' 0 [(0, .ref (σ 1)), (1, .int x1), (2, .int x2)] [] S := by
  intro S x1 x2 h
  rw [J6_at] at h
  refine z_aload_n (pc := 0) X dX6_at_0 rfl 0 rfl ?_
  refine z_iload_n (pc := 1) X dX6_at_1 rfl 1 rfl ?_
  refine z_iload_n (pc := 2) X dX6_at_2 rfl 2 rfl ?_
  refine z_iconst (pc := 3) (v := 1) X dX6_at_3 (by decide) ?_
  refine z_callVi (pc := 4) (rm := rm6_lack) X 1 [.int _, .int _, .int _] vX6_28 rfl rfl rfl (Nat.le_of_ble_eq_true rfl) ⟨rfl, rfl, Nat.le_of_ble_eq_true rfl, Nat.le_of_ble_eq_true rfl⟩ dX6_at_4 h (fun _ _ q => cc6_lack q) (fun r1 S1 h => ?_)
  refine z_if_ne (pc := 7) (tgt := 24) X dX6_at_7 (by decide) h (fun h => ?_) (fun h => ?_)
  · refine z_lconst (pc := 24) (v := 0) X dX6_at_24 (by decide) ?_
    exact z_sub [] rfl (zz6_at_25 X  _ _ h)
  · refine z_aload_n (pc := 10) X dX6_at_10 rfl 0 rfl ?_
    refine z_get (pc := 11) (v := .ref (σ 2)) X 1 fX6_9 rfl rfl dX6_at_11 rfl ?_
    refine z_iload_n (pc := 14) X dX6_at_14 rfl 1 rfl ?_
    refine z_bipush (pc := 15) (v := 16) X dX6_at_15 (by decide) ?_
    refine z_imul (pc := 17) X dX6_at_17 ?_
    refine z_iload_n (pc := 18) X dX6_at_18 rfl 2 rfl ?_
    refine z_iadd (pc := 19) X dX6_at_19 ?_
    refine z_lald (pc := 20) X 2 rfl dX6_at_20 h (fun h => ?_)
    refine z_goto (pc := 21) (tgt := 25) X dX6_at_21 (by decide) ?_
    exact z_sub [] rfl (zz6_at_25 X  _ _ h)
theorem cc6_at {l : Launch} {D : va_G} {cA : Nat → ClassId} {σ : Nat → Nat} {tS : Nat} {S S' : St} {x1 : Int32} {x2 : Int32} {r : Int64} (h : J6_at S x1 x2 = some (r, S')) : zMet l D cA σ shC tS yX6_at cX6_at 3 (some .long) rm6_at [.ref (σ 1), .int x1, .int x2] S (some (.long r)) S' := z_met [(0, .ref (σ 1)), (1, .int x1), (2, .int x2)] (by decide +kernel) (Nat.le_of_ble_eq_true rfl) rfl (fun _ _ _ _ _ _ _ _ X => zz6_at_0 X _ _ _ h)
set_option maxRecDepth 100000 in
set_option maxHeartbeats 4000000 in
theorem zz5_sendAll_c1_3 {S' : St} (X : zM p s m args meth c D cA σ shC tS RX5 cX5_sendAll 8 none) : ∀ (n : Nat) (S : St) (x1 : Int32) (x2 : Int32) (x4 : Int32) (x5 : Int32), J5_sendAll_c1_3 n S x1 x2 x4 x5 = some ((), S') → Zj p l e rm5_sendAll s m args below meth c D cA σ shC 8 none S' 3 [(0, .ref (σ 17)), (1, .int x1), (2, .int x2), (3, .ref (σ 1)), (4, .int x4), (5, .int x5)] [] S := by
  intro n
  induction n with
  | zero =>
    intro S x1 x2 x4 x5 h
    rw [J5_sendAll_c1_3] at h
    cases h
  | succ n ih =>
    intro S x1 x2 x4 x5 h
    rw [J5_sendAll_c1_3] at h
    refine z_iload (pc := 3) X dX5_sendAll_3 5 rfl ?_
    refine z_aload_n (pc := 5) X dX5_sendAll_5 rfl 0 rfl ?_
    refine z_get (pc := 6) (v := .ref (σ 18)) X 17 fX5_12 rfl rfl dX5_sendAll_6 rfl ?_
    refine z_get (pc := 9) (v := .int _) X 18 fX5_77 rfl rfl dX5_sendAll_9 rfl ?_
    refine z_icmp_ge (pc := 12) (tgt := 71) X dX5_sendAll_12 (by decide) h (fun h => ?_) (fun h => ?_)
    · exact z_vret X rfl dX5_sendAll_71 h
    · refine z_aload_n (pc := 15) X dX5_sendAll_15 rfl 3 rfl ?_
      refine z_iload (pc := 16) X dX5_sendAll_16 4 rfl ?_
      refine z_iload (pc := 18) X dX5_sendAll_18 5 rfl ?_
      refine z_callVl (pc := 20) (rm := rm6_at) X 1 [.int _, .int _] vX5_78 rfl rfl rfl (Nat.le_of_ble_eq_true rfl) ⟨rfl, rfl, Nat.le_of_ble_eq_true rfl, Nat.le_of_ble_eq_true rfl⟩ dX5_sendAll_20 h (fun _ _ q => cc6_at q) (fun r1 S1 h => ?_)
      refine z_l2i (pc := 23) X dX5_sendAll_23 ?_
      refine z_istore (pc := 24) (L' := [(6, .int _), (0, .ref _), (1, .int _), (2, .int _), (3, .ref _), (4, .int _), (5, .int _)]) X dX5_sendAll_24 (by decide) rfl ?_
      refine z_let h (fun h => ?_)
      refine z_aload_n (pc := 26) X dX5_sendAll_26 rfl 4 rfl ?_
      refine z_iload (pc := 27) X dX5_sendAll_27 5 rfl ?_
      refine z_aload_n (pc := 29) X dX5_sendAll_29 rfl 1 rfl ?_
      refine z_get (pc := 30) (v := .ref (σ 18)) X 17 fX5_12 rfl rfl dX5_sendAll_30 rfl ?_
      refine z_get (pc := 33) (v := .int _) X 18 fX5_77 rfl rfl dX5_sendAll_33 rfl ?_
      refine z_iload (pc := 36) X dX5_sendAll_36 6 rfl ?_
      refine z_iadd (pc := 38) X dX5_sendAll_38 ?_
      refine z_callVl (pc := 39) (rm := rm6_at) X 1 [.int _, .int _] vX5_78 rfl rfl rfl (Nat.le_of_ble_eq_true rfl) ⟨rfl, rfl, Nat.le_of_ble_eq_true rfl, Nat.le_of_ble_eq_true rfl⟩ dX5_sendAll_39 h (fun _ _ q => cc6_at q) (fun r3 S3 h => ?_)
      refine z_l2i (pc := 42) X dX5_sendAll_42 ?_
      refine z_istore (pc := 43) (L' := [(7, .int _), (6, .int _), (0, .ref _), (1, .int _), (2, .int _), (3, .ref _), (4, .int _), (5, .int _)]) X dX5_sendAll_43 (by decide) rfl ?_
      refine z_let h (fun h => ?_)
      refine z_aload_n (pc := 45) X dX5_sendAll_45 rfl 2 rfl ?_
      refine z_get (pc := 46) (v := .ref (σ 22)) X 17 fX5_21 rfl rfl dX5_sendAll_46 rfl ?_
      refine z_aload_n (pc := 49) X dX5_sendAll_49 rfl 2 rfl ?_
      refine z_get (pc := 50) (v := .int _) X 17 fX5_54 rfl rfl dX5_sendAll_50 rfl ?_
      refine z_iload (pc := 53) X dX5_sendAll_53 1 rfl ?_
      refine z_iadd (pc := 55) X dX5_sendAll_55 ?_
      refine z_iload_n (pc := 56) X dX5_sendAll_56 rfl 3 rfl ?_
      refine z_iload_n (pc := 57) X dX5_sendAll_57 rfl 4 rfl ?_
      refine z_iload (pc := 58) X dX5_sendAll_58 7 rfl ?_
      refine z_iload (pc := 60) X dX5_sendAll_60 0 rfl ?_
      refine z_callVv (pc := 62) (rm := rm3_send) X 22 [.int _, .int _, .int _, .int _, .int _] vX5_84 rfl rfl rfl (Nat.le_of_ble_eq_true rfl) ⟨rfl, rfl, Nat.le_of_ble_eq_true rfl, Nat.le_of_ble_eq_true rfl⟩ dX5_sendAll_62 h (fun _ _ q => cc3_send q) (fun _ S5 h => ?_)
      refine z_iinc (pc := 65) (k := 7) (v := 1) (L' := [(5, .int _), (7, .int _), (6, .int _), (0, .ref _), (1, .int _), (2, .int _), (3, .ref _), (4, .int _)]) X dX5_sendAll_65 rfl (by decide) (by decide) rfl ?_
      refine z_let h (fun h => ?_)
      refine z_goto (pc := 68) (tgt := 3) X dX5_sendAll_68 (by decide) ?_
      exact z_sub [3, 4, 5, 6, 7, 0] rfl (ih _ _ _ _ _ h)
set_option maxRecDepth 100000 in
set_option maxHeartbeats 4000000 in
theorem zz5_sendAll_c1_0 {S' : St} (X : zM p s m args meth c D cA σ shC tS RX5 cX5_sendAll 8 none) : ∀ (S : St) (x1 : Int32) (x2 : Int32) (x4 : Int32), J5_sendAll_c1 S x1 x2 x4 = some ((), S') → Zj p l e rm5_sendAll s m args below meth c D cA σ shC 8 none S' 0 [(0, .ref (σ 17)), (1, .int x1), (2, .int x2), (3, .ref (σ 1)), (4, .int x4)] [] S := by
  intro S x1 x2 x4 h
  rw [J5_sendAll_c1] at h
  refine z_iconst (pc := 0) (v := 0) X dX5_sendAll_0 (by decide) ?_
  refine z_istore (pc := 1) (L' := [(5, .int _), (0, .ref _), (1, .int _), (2, .int _), (3, .ref _), (4, .int _)]) X dX5_sendAll_1 (by decide) rfl ?_
  exact z_sub [1, 2, 3, 4, 5, 0] rfl (zz5_sendAll_c1_3 X  fu _ _ _ _ _ h)
theorem cc5_sendAll_c1 {l : Launch} {D : va_G} {cA : Nat → ClassId} {σ : Nat → Nat} {tS : Nat} {S S' : St} {x1 : Int32} {x2 : Int32} {x4 : Int32} (h : J5_sendAll_c1 S x1 x2 x4 = some ((), S')) : zMet l D cA σ shC tS yX5_sendAll cX5_sendAll 8 none rm5_sendAll [.ref (σ 17), .int x1, .int x2, .ref (σ 1), .int x4] S none S' := z_met [(0, .ref (σ 17)), (1, .int x1), (2, .int x2), (3, .ref (σ 1)), (4, .int x4)] (by decide +kernel) (Nat.le_of_ble_eq_true rfl) rfl (fun _ _ _ _ _ _ _ _ X => zz5_sendAll_c1_0 X _ _ _ _ h)
set_option maxRecDepth 100000 in
set_option maxHeartbeats 4000000 in
theorem zz5_workOff_55 {S' : St} (X : zM p s m args meth c D cA σ shC tS RX5 cX5_workOff 4 none) : ∀ (S : St) (x1 : Int32), J5_workOff_55 S x1 = some ((), S') → Zj p l e rm5_workOff s m args below meth c D cA σ shC 4 none S' 55 [(0, .ref (σ 17)), (1, .int x1)] [] S := by
  intro S x1 h
  rw [J5_workOff_55] at h
  refine z_aload_n (pc := 55) X dX5_workOff_55 rfl 0 rfl ?_
  refine z_iload_n (pc := 56) X dX5_workOff_56 rfl 1 rfl ?_
  refine z_putI (pc := 57) X 17 gX5_54 rfl rfl dX5_workOff_57 ?_
  refine z_let h (fun h => ?_)
  exact z_vret X rfl dX5_workOff_60 h
set_option maxRecDepth 100000 in
set_option maxHeartbeats 4000000 in
theorem zz5_workOff_11 {S' : St} (X : zM p s m args meth c D cA σ shC tS RX5 cX5_workOff 4 none) : ∀ (n : Nat) (S : St) (x1 : Int32) (x2 : Int32) (x3 : Int32), J5_workOff_11 n S x1 x2 x3 = some ((), S') → Zj p l e rm5_workOff s m args below meth c D cA σ shC 4 none S' 11 [(0, .ref (σ 17)), (1, .int x1), (2, .int x2), (3, .int x3)] [] S := by
  intro n
  induction n with
  | zero =>
    intro S x1 x2 x3 h
    rw [J5_workOff_11] at h
    cases h
  | succ n ih =>
    intro S x1 x2 x3 h
    rw [J5_workOff_11] at h
    refine z_iload_n (pc := 11) X dX5_workOff_11 rfl 3 rfl ?_
    refine z_sipush (pc := 12) (v := 1000) X dX5_workOff_12 (by decide) ?_
    refine z_icmp_ge (pc := 15) (tgt := 55) X dX5_workOff_15 (by decide) h (fun h => ?_) (fun h => ?_)
    · exact z_sub [0, 1] rfl (zz5_workOff_55 X  _ _ h)
    · refine z_iload_n (pc := 18) X dX5_workOff_18 rfl 2 rfl ?_
      refine z_iconst (pc := 19) (v := -1) X dX5_workOff_19 (by decide) ?_
      refine z_icmp_eq (pc := 20) (tgt := 55) X dX5_workOff_20 (by decide) h (fun h => ?_) (fun h => ?_)
      · exact z_sub [0, 1] rfl (zz5_workOff_55 X  _ _ h)
      · refine z_aload_n (pc := 23) X dX5_workOff_23 rfl 0 rfl ?_
        refine z_aload_n (pc := 24) X dX5_workOff_24 rfl 0 rfl ?_
        refine z_get (pc := 25) (v := .ref (σ 22)) X 17 fX5_21 rfl rfl dX5_workOff_25 rfl ?_
        refine z_iload_n (pc := 28) X dX5_workOff_28 rfl 2 rfl ?_
        refine z_callVi (pc := 29) (rm := rm3_tickOf) X 22 [.int _] vX5_92 rfl rfl rfl (Nat.le_of_ble_eq_true rfl) ⟨rfl, rfl, Nat.le_of_ble_eq_true rfl, Nat.le_of_ble_eq_true rfl⟩ dX5_workOff_29 h (fun _ _ q => cc3_tickOf q) (fun r1 S1 h => ?_)
        refine z_putI (pc := 32) X 17 gX5_54 rfl rfl dX5_workOff_32 ?_
        refine z_let h (fun h => ?_)
        refine z_aload_n (pc := 35) X dX5_workOff_35 rfl 0 rfl ?_
        refine z_iload_n (pc := 36) X dX5_workOff_36 rfl 2 rfl ?_
        refine z_callVv (pc := 37) (rm := rm5_come) X 17 [.int _] vX5_95 rfl rfl rfl (Nat.le_of_ble_eq_true rfl) ⟨rfl, rfl, Nat.le_of_ble_eq_true rfl, Nat.le_of_ble_eq_true rfl⟩ dX5_workOff_37 h (fun _ _ q => cc5_come q) (fun _ S3 h => ?_)
        refine z_aload_n (pc := 40) X dX5_workOff_40 rfl 0 rfl ?_
        refine z_get (pc := 41) (v := .ref (σ 22)) X 17 fX5_21 rfl rfl dX5_workOff_41 rfl ?_
        refine z_iload_n (pc := 44) X dX5_workOff_44 rfl 1 rfl ?_
        refine z_callVi (pc := 45) (rm := rm3_takeDue) X 22 [.int _] vX5_88 rfl rfl rfl (Nat.le_of_ble_eq_true rfl) ⟨rfl, rfl, Nat.le_of_ble_eq_true rfl, Nat.le_of_ble_eq_true rfl⟩ dX5_workOff_45 h (fun _ _ q => cc3_takeDue q) (fun r4 S4 h => ?_)
        refine z_istore_n (pc := 48) (L' := [(2, .int _), (0, .ref _), (1, .int _), (3, .int _)]) X dX5_workOff_48 rfl (by decide) rfl ?_
        refine z_iinc (pc := 49) (k := 3) (v := 1) (L' := [(3, .int _), (2, .int _), (0, .ref _), (1, .int _)]) X dX5_workOff_49 rfl (by decide) (by decide) rfl ?_
        refine z_let h (fun h => ?_)
        refine z_goto (pc := 52) (tgt := 11) X dX5_workOff_52 (by decide) ?_
        exact z_sub [2, 3, 1, 0] rfl (ih _ _ _ _ h)
set_option maxRecDepth 100000 in
set_option maxHeartbeats 4000000 in
theorem zz5_workOff_0 {S' : St} (X : zM p s m args meth c D cA σ shC tS RX5 cX5_workOff 4 none) : ∀ (S : St) (x1 : Int32), J5_workOff S x1 = some ((), S') → Zj p l e rm5_workOff s m args below meth c D cA σ shC 4 none S' 0 [(0, .ref (σ 17)), (1, .int x1)] [] S := by
  intro S x1 h
  rw [J5_workOff] at h
  refine z_aload_n (pc := 0) X dX5_workOff_0 rfl 0 rfl ?_
  refine z_get (pc := 1) (v := .ref (σ 22)) X 17 fX5_21 rfl rfl dX5_workOff_1 rfl ?_
  refine z_iload_n (pc := 4) X dX5_workOff_4 rfl 1 rfl ?_
  refine z_callVi (pc := 5) (rm := rm3_takeDue) X 22 [.int _] vX5_88 rfl rfl rfl (Nat.le_of_ble_eq_true rfl) ⟨rfl, rfl, Nat.le_of_ble_eq_true rfl, Nat.le_of_ble_eq_true rfl⟩ dX5_workOff_5 h (fun _ _ q => cc3_takeDue q) (fun r1 S1 h => ?_)
  refine z_istore_n (pc := 8) (L' := [(2, .int _), (0, .ref _), (1, .int _)]) X dX5_workOff_8 rfl (by decide) rfl ?_
  refine z_iconst (pc := 9) (v := 0) X dX5_workOff_9 (by decide) ?_
  refine z_istore_n (pc := 10) (L' := [(3, .int _), (2, .int _), (0, .ref _), (1, .int _)]) X dX5_workOff_10 rfl (by decide) rfl ?_
  exact z_sub [2, 3, 1, 0] rfl (zz5_workOff_11 X  fu _ _ _ _ h)
theorem cc5_workOff {l : Launch} {D : va_G} {cA : Nat → ClassId} {σ : Nat → Nat} {tS : Nat} {S S' : St} {x1 : Int32} (h : J5_workOff S x1 = some ((), S')) : zMet l D cA σ shC tS yX5_workOff cX5_workOff 4 none rm5_workOff [.ref (σ 17), .int x1] S none S' := z_met [(0, .ref (σ 17)), (1, .int x1)] (by decide +kernel) (Nat.le_of_ble_eq_true rfl) rfl (fun _ _ _ _ _ _ _ _ X => zz5_workOff_0 X _ _ h)
set_option maxRecDepth 100000 in
set_option maxHeartbeats 4000000 in
theorem zz6_cut_0 {S' : St} {r : Int64} (X : zM p s m args meth c D cA σ shC tS RX6 cX6_cut 3 (some .long)) : ∀ (S : St) (x0 : Int32) (x1 : Int64), J6_cut S x0 x1 = some (r, S') → Zj p l e rm6_cut s m args below meth c D cA σ shC 3 (some (.long r)) S' 0 [(0, .int x0), (1, .long x1)] [] S := by
  intro S x0 x1 h
  rw [J6_cut] at h
  refine z_iload_n (pc := 0) X dX6_cut_0 rfl 0 rfl ?_
  refine z_arm h (fun hx h => ?_) (fun hx0 h => ?_)
  · refine z_tsIn (pc := 1) (tgt := 28) X 0 hx dX6_cut_1 (by decide) (by decide) rfl (by decide) ?_
    refine z_lload_n (pc := 28) X dX6_cut_28 rfl 1 rfl ?_
    refine z_l2i (pc := 29) X dX6_cut_29 ?_
    refine z_i2b (pc := 30) X dX6_cut_30 ?_
    refine z_i2l (pc := 31) X dX6_cut_31 ?_
    exact z_lret X rfl dX6_cut_32 h
  · skip
    refine z_arm h (fun hx h => ?_) (fun hx1 h => ?_)
    · refine z_tsIn (pc := 1) (tgt := 33) X 1 hx dX6_cut_1 (by decide) (by decide) rfl (by decide) ?_
      refine z_lload_n (pc := 33) X dX6_cut_33 rfl 1 rfl ?_
      refine z_l2i (pc := 34) X dX6_cut_34 ?_
      refine z_i2s (pc := 35) X dX6_cut_35 ?_
      refine z_i2l (pc := 36) X dX6_cut_36 ?_
      exact z_lret X rfl dX6_cut_37 h
    · skip
      refine z_arm h (fun hx h => ?_) (fun hx2 h => ?_)
      · refine z_tsIn (pc := 1) (tgt := 38) X 2 hx dX6_cut_1 (by decide) (by decide) rfl (by decide) ?_
        refine z_lload_n (pc := 38) X dX6_cut_38 rfl 1 rfl ?_
        refine z_l2i (pc := 39) X dX6_cut_39 ?_
        refine z_i2l (pc := 40) X dX6_cut_40 ?_
        exact z_lret X rfl dX6_cut_41 h
      · skip
        have hs0 := lv_neT hx0 (a := 0) (by decide)
        have hs1 := lv_neT hx1 (a := 1) (by decide)
        have hs2 := lv_neT hx2 (a := 2) (by decide)
        refine z_tsOut (pc := 1) (tgt := 42) X dX6_cut_1 (by omega) (by decide) ?_
        refine z_lload_n (pc := 42) X dX6_cut_42 rfl 1 rfl ?_
        exact z_lret X rfl dX6_cut_43 h
theorem cc6_cut {l : Launch} {D : va_G} {cA : Nat → ClassId} {σ : Nat → Nat} {tS : Nat} {S S' : St} {x0 : Int32} {x1 : Int64} {r : Int64} (h : J6_cut S x0 x1 = some (r, S')) : zMet l D cA σ shC tS yX6_cut cX6_cut 3 (some .long) rm6_cut [.int x0, .long x1] S (some (.long r)) S' := z_met [(0, .int x0), (1, .long x1)] (by decide +kernel) (Nat.le_of_ble_eq_true rfl) rfl (fun _ _ _ _ _ _ _ _ X => zz6_cut_0 X _ _ _ h)
set_option maxRecDepth 100000 in
set_option maxHeartbeats 4000000 in
theorem zz6_lay_17 {S' : St} (X : zM p s m args meth c D cA σ shC tS RX6 cX6_lay 5 none) : ∀ (n : Nat) (S : St) (x1 : Int32) (x4 : Int32), J6_lay_17 n S x1 x4 = some ((), S') → Zj p l e rm6_lay s m args below meth c D cA σ shC 5 none S' 17 [(0, .ref (σ 1)), (1, .int x1), (4, .int x4)] [] S := by
  intro n
  induction n with
  | zero =>
    intro S x1 x4 h
    rw [J6_lay_17] at h
    cases h
  | succ n ih =>
    intro S x1 x4 h
    rw [J6_lay_17] at h
    refine z_iload (pc := 17) X dX6_lay_17 2 rfl ?_
    refine z_bipush (pc := 19) (v := 16) X dX6_lay_19 (by decide) ?_
    refine z_icmp_ge (pc := 21) (tgt := 43) X dX6_lay_21 (by decide) h (fun h => ?_) (fun h => ?_)
    · exact z_vret X rfl dX6_lay_43 h
    · refine z_aload_n (pc := 24) X dX6_lay_24 rfl 0 rfl ?_
      refine z_get (pc := 25) (v := .ref (σ 2)) X 1 fX6_9 rfl rfl dX6_lay_25 rfl ?_
      refine z_iload_n (pc := 28) X dX6_lay_28 rfl 1 rfl ?_
      refine z_bipush (pc := 29) (v := 16) X dX6_lay_29 (by decide) ?_
      refine z_imul (pc := 31) X dX6_lay_31 ?_
      refine z_iload (pc := 32) X dX6_lay_32 2 rfl ?_
      refine z_iadd (pc := 34) X dX6_lay_34 ?_
      refine z_lconst (pc := 35) (v := 0) X dX6_lay_35 (by decide) ?_
      refine z_last (pc := 36) X 2 rfl dX6_lay_36 h (fun h => ?_)
      refine z_let h (fun h => ?_)
      refine z_iinc (pc := 37) (k := 2) (v := 1) (L' := [(4, .int _), (0, .ref _), (1, .int _)]) X dX6_lay_37 rfl (by decide) (by decide) rfl ?_
      refine z_let h (fun h => ?_)
      refine z_goto (pc := 40) (tgt := 17) X dX6_lay_40 (by decide) ?_
      exact z_sub [1, 2, 0] rfl (ih _ _ _ h)
set_option maxRecDepth 100000 in
set_option maxHeartbeats 4000000 in
theorem zz6_lay_0 {S' : St} (X : zM p s m args meth c D cA σ shC tS RX6 cX6_lay 5 none) : ∀ (S : St) (x1 : Int32) (x2 : Int32) (x3 : Int32), J6_lay S x1 x2 x3 = some ((), S') → Zj p l e rm6_lay s m args below meth c D cA σ shC 5 none S' 0 [(0, .ref (σ 1)), (1, .int x1), (2, .int x2), (3, .int x3)] [] S := by
  intro S x1 x2 x3 h
  rw [J6_lay] at h
  refine z_aload_n (pc := 0) X dX6_lay_0 rfl 0 rfl ?_
  refine z_get (pc := 1) (v := .ref (σ 3)) X 1 fX6_15 rfl rfl dX6_lay_1 rfl ?_
  refine z_iload_n (pc := 4) X dX6_lay_4 rfl 1 rfl ?_
  refine z_iload_n (pc := 5) X dX6_lay_5 rfl 2 rfl ?_
  refine z_iast (pc := 6) X 3 rfl dX6_lay_6 h (fun h => ?_)
  refine z_let h (fun h => ?_)
  refine z_aload_n (pc := 7) X dX6_lay_7 rfl 0 rfl ?_
  refine z_get (pc := 8) (v := .ref (σ 4)) X 1 fX6_19 rfl rfl dX6_lay_8 rfl ?_
  refine z_iload_n (pc := 11) X dX6_lay_11 rfl 1 rfl ?_
  refine z_iload_n (pc := 12) X dX6_lay_12 rfl 3 rfl ?_
  refine z_iast (pc := 13) X 4 rfl dX6_lay_13 h (fun h => ?_)
  refine z_let h (fun h => ?_)
  refine z_iconst (pc := 14) (v := 0) X dX6_lay_14 (by decide) ?_
  refine z_istore (pc := 15) (L' := [(4, .int _), (0, .ref _), (1, .int _), (2, .int _), (3, .int _)]) X dX6_lay_15 (by decide) rfl ?_
  exact z_sub [1, 2, 0] rfl (zz6_lay_17 X  fu _ _ _ h)
theorem cc6_lay {l : Launch} {D : va_G} {cA : Nat → ClassId} {σ : Nat → Nat} {tS : Nat} {S S' : St} {x1 : Int32} {x2 : Int32} {x3 : Int32} (h : J6_lay S x1 x2 x3 = some ((), S')) : zMet l D cA σ shC tS yX6_lay cX6_lay 5 none rm6_lay [.ref (σ 1), .int x1, .int x2, .int x3] S none S' := z_met [(0, .ref (σ 1)), (1, .int x1), (2, .int x2), (3, .int x3)] (by decide +kernel) (Nat.le_of_ble_eq_true rfl) rfl (fun _ _ _ _ _ _ _ _ X => zz6_lay_0 X _ _ _ _ h)
set_option maxRecDepth 100000 in
set_option maxHeartbeats 4000000 in
theorem zz6_move_34 {S' : St} (X : zM p s m args meth c D cA σ shC tS RX6 cX6_move 8 none) : ∀ (n : Nat) (S : St) (x3 : Int32) (x5 : Int32) (x6 : Int32) (x7 : Int32), J6_move_34 n S x3 x5 x6 x7 = some ((), S') → Zj p l e rm6_move s m args below meth c D cA σ shC 8 none S' 34 [(0, .ref (σ 1)), (3, .int x3), (5, .int x5), (6, .int x6), (7, .int x7)] [] S := by
  intro n
  induction n with
  | zero =>
    intro S x3 x5 x6 x7 h
    rw [J6_move_34] at h
    cases h
  | succ n ih =>
    intro S x3 x5 x6 x7 h
    rw [J6_move_34] at h
    refine z_iload (pc := 34) X dX6_move_34 4 rfl ?_
    refine z_iload (pc := 36) X dX6_move_36 3 rfl ?_
    refine z_iload (pc := 38) X dX6_move_38 2 rfl ?_
    refine z_iadd (pc := 40) X dX6_move_40 ?_
    refine z_icmp_ge (pc := 41) (tgt := 73) X dX6_move_41 (by decide) h (fun h => ?_) (fun h => ?_)
    · exact z_vret X rfl dX6_move_73 h
    · refine z_aload_n (pc := 44) X dX6_move_44 rfl 0 rfl ?_
      refine z_get (pc := 45) (v := .ref (σ 2)) X 1 fX6_9 rfl rfl dX6_move_45 rfl ?_
      refine z_iload (pc := 48) X dX6_move_48 4 rfl ?_
      refine z_aload_n (pc := 50) X dX6_move_50 rfl 0 rfl ?_
      refine z_get (pc := 51) (v := .ref (σ 3)) X 1 fX6_15 rfl rfl dX6_move_51 rfl ?_
      refine z_iload_n (pc := 54) X dX6_move_54 rfl 1 rfl ?_
      refine z_iald (pc := 55) X 3 rfl dX6_move_55 h (fun h => ?_)
      refine z_aload_n (pc := 56) X dX6_move_56 rfl 0 rfl ?_
      refine z_get (pc := 57) (v := .ref (σ 2)) X 1 fX6_9 rfl rfl dX6_move_57 rfl ?_
      refine z_iload (pc := 60) X dX6_move_60 4 rfl ?_
      refine z_lald (pc := 62) X 2 rfl dX6_move_62 h (fun h => ?_)
      refine z_callSl (pc := 63) (rm := rm6_cut) X [.int _, .long _] sX6_32 rfl rfl (Nat.le_of_ble_eq_true rfl) ⟨rfl, rfl, Nat.le_of_ble_eq_true rfl, Nat.le_of_ble_eq_true rfl⟩ dX6_move_63 h (fun _ _ q => cc6_cut q) (fun r1 S1 h => ?_)
      refine z_last (pc := 66) X 2 rfl dX6_move_66 h (fun h => ?_)
      refine z_let h (fun h => ?_)
      refine z_iinc (pc := 67) (k := 4) (v := 1) (L' := [(7, .int _), (0, .ref _), (3, .int _), (5, .int _), (6, .int _)]) X dX6_move_67 rfl (by decide) (by decide) rfl ?_
      refine z_let h (fun h => ?_)
      refine z_goto (pc := 70) (tgt := 34) X dX6_move_70 (by decide) ?_
      exact z_sub [1, 2, 3, 4, 0] rfl (ih _ _ _ _ _ h)
set_option maxRecDepth 100000 in
set_option maxHeartbeats 4000000 in
theorem zz6_move_0 {S' : St} (X : zM p s m args meth c D cA σ shC tS RX6 cX6_move 8 none) : ∀ (S : St) (x1 : Int32) (x2 : Int32) (x3 : Int32) (x4 : Int32) (x5 : Int32), J6_move S x1 x2 x3 x4 x5 = some ((), S') → Zj p l e rm6_move s m args below meth c D cA σ shC 8 none S' 0 [(0, .ref (σ 1)), (1, .int x1), (2, .int x2), (3, .int x3), (4, .int x4), (5, .int x5)] [] S := by
  intro S x1 x2 x3 x4 x5 h
  rw [J6_move] at h
  refine z_iload_n (pc := 0) X dX6_move_0 rfl 3 rfl ?_
  refine z_bipush (pc := 1) (v := 16) X dX6_move_1 (by decide) ?_
  refine z_imul (pc := 3) X dX6_move_3 ?_
  refine z_iload (pc := 4) X dX6_move_4 4 rfl ?_
  refine z_iadd (pc := 6) X dX6_move_6 ?_
  refine z_istore (pc := 7) (L' := [(6, .int _), (0, .ref _), (1, .int _), (2, .int _), (3, .int _), (4, .int _), (5, .int _)]) X dX6_move_7 (by decide) rfl ?_
  refine z_let h (fun h => ?_)
  refine z_aload_n (pc := 9) X dX6_move_9 rfl 1 rfl ?_
  refine z_get (pc := 10) (v := .ref (σ 2)) X 1 fX6_9 rfl rfl dX6_move_10 rfl ?_
  refine z_iload_n (pc := 13) X dX6_move_13 rfl 2 rfl ?_
  refine z_bipush (pc := 14) (v := 16) X dX6_move_14 (by decide) ?_
  refine z_imul (pc := 16) X dX6_move_16 ?_
  refine z_iload_n (pc := 17) X dX6_move_17 rfl 3 rfl ?_
  refine z_iadd (pc := 18) X dX6_move_18 ?_
  refine z_aload_n (pc := 19) X dX6_move_19 rfl 1 rfl ?_
  refine z_get (pc := 20) (v := .ref (σ 2)) X 1 fX6_9 rfl rfl dX6_move_20 rfl ?_
  refine z_iload (pc := 23) X dX6_move_23 0 rfl ?_
  refine z_iload (pc := 25) X dX6_move_25 6 rfl ?_
  refine z_cpl (pc := 27) X 2 rfl aX6_36 ⟨Nat.le_of_ble_eq_true rfl, Nat.le_of_ble_eq_true rfl⟩ dX6_move_27 h (fun h => ?_)
  refine z_let h (fun h => ?_)
  refine z_iload (pc := 30) X dX6_move_30 0 rfl ?_
  refine z_istore (pc := 32) (L' := [(7, .int _), (6, .int _), (0, .ref _), (1, .int _), (2, .int _), (3, .int _), (4, .int _), (5, .int _)]) X dX6_move_32 (by decide) rfl ?_
  exact z_sub [2, 5, 7, 1, 0] rfl (zz6_move_34 X  fu _ _ _ _ _ h)
theorem cc6_move {l : Launch} {D : va_G} {cA : Nat → ClassId} {σ : Nat → Nat} {tS : Nat} {S S' : St} {x1 : Int32} {x2 : Int32} {x3 : Int32} {x4 : Int32} {x5 : Int32} (h : J6_move S x1 x2 x3 x4 x5 = some ((), S')) : zMet l D cA σ shC tS yX6_move cX6_move 8 none rm6_move [.ref (σ 1), .int x1, .int x2, .int x3, .int x4, .int x5] S none S' := z_met [(0, .ref (σ 1)), (1, .int x1), (2, .int x2), (3, .int x3), (4, .int x4), (5, .int x5)] (by decide +kernel) (Nat.le_of_ble_eq_true rfl) rfl (fun _ _ _ _ _ _ _ _ X => zz6_move_0 X _ _ _ _ _ _ h)
set_option maxRecDepth 100000 in
set_option maxHeartbeats 4000000 in
theorem zz6_put_0 {S' : St} (X : zM p s m args meth c D cA σ shC tS RX6 cX6_put 5 none) : ∀ (S : St) (x1 : Int32) (x2 : Int32) (x3 : Int64), J6_put S x1 x2 x3 = some ((), S') → Zj p l e rm6_put s m args below meth c D cA σ shC 5 none S' 0 [(0, .ref (σ 1)), (1, .int x1), (2, .int x2), (3, .long x3)] [] S := by
  intro S x1 x2 x3 h
  rw [J6_put] at h
  refine z_aload_n (pc := 0) X dX6_put_0 rfl 0 rfl ?_
  refine z_get (pc := 1) (v := .ref (σ 2)) X 1 fX6_9 rfl rfl dX6_put_1 rfl ?_
  refine z_iload_n (pc := 4) X dX6_put_4 rfl 1 rfl ?_
  refine z_bipush (pc := 5) (v := 16) X dX6_put_5 (by decide) ?_
  refine z_imul (pc := 7) X dX6_put_7 ?_
  refine z_iload_n (pc := 8) X dX6_put_8 rfl 2 rfl ?_
  refine z_iadd (pc := 9) X dX6_put_9 ?_
  refine z_aload_n (pc := 10) X dX6_put_10 rfl 0 rfl ?_
  refine z_get (pc := 11) (v := .ref (σ 3)) X 1 fX6_15 rfl rfl dX6_put_11 rfl ?_
  refine z_iload_n (pc := 14) X dX6_put_14 rfl 1 rfl ?_
  refine z_iald (pc := 15) X 3 rfl dX6_put_15 h (fun h => ?_)
  refine z_lload_n (pc := 16) X dX6_put_16 rfl 3 rfl ?_
  refine z_callSl (pc := 17) (rm := rm6_cut) X [.int _, .long _] sX6_32 rfl rfl (Nat.le_of_ble_eq_true rfl) ⟨rfl, rfl, Nat.le_of_ble_eq_true rfl, Nat.le_of_ble_eq_true rfl⟩ dX6_put_17 h (fun _ _ q => cc6_cut q) (fun r1 S1 h => ?_)
  refine z_last (pc := 20) X 2 rfl dX6_put_20 h (fun h => ?_)
  refine z_let h (fun h => ?_)
  exact z_vret X rfl dX6_put_21 h
theorem cc6_put {l : Launch} {D : va_G} {cA : Nat → ClassId} {σ : Nat → Nat} {tS : Nat} {S S' : St} {x1 : Int32} {x2 : Int32} {x3 : Int64} (h : J6_put S x1 x2 x3 = some ((), S')) : zMet l D cA σ shC tS yX6_put cX6_put 5 none rm6_put [.ref (σ 1), .int x1, .int x2, .long x3] S none S' := z_met [(0, .ref (σ 1)), (1, .int x1), (2, .int x2), (3, .long x3)] (by decide +kernel) (Nat.le_of_ble_eq_true rfl) rfl (fun _ _ _ _ _ _ _ _ X => zz6_put_0 X _ _ _ _ h)
set_option maxRecDepth 100000 in
set_option maxHeartbeats 4000000 in
theorem zz6_takeAway_0 {S' : St} (X : zM p s m args meth c D cA σ shC tS RX6 cX6_takeAway 2 none) : ∀ (S : St) (x1 : Int32), J6_takeAway S x1 = some ((), S') → Zj p l e rm6_takeAway s m args below meth c D cA σ shC 2 none S' 0 [(0, .ref (σ 1)), (1, .int x1)] [] S := by
  intro S x1 h
  rw [J6_takeAway] at h
  refine z_aload_n (pc := 0) X dX6_takeAway_0 rfl 0 rfl ?_
  refine z_get (pc := 1) (v := .ref (σ 4)) X 1 fX6_19 rfl rfl dX6_takeAway_1 rfl ?_
  refine z_iload_n (pc := 4) X dX6_takeAway_4 rfl 1 rfl ?_
  refine z_iconst (pc := 5) (v := -1) X dX6_takeAway_5 (by decide) ?_
  refine z_iast (pc := 6) X 4 rfl dX6_takeAway_6 h (fun h => ?_)
  refine z_let h (fun h => ?_)
  exact z_vret X rfl dX6_takeAway_7 h
theorem cc6_takeAway {l : Launch} {D : va_G} {cA : Nat → ClassId} {σ : Nat → Nat} {tS : Nat} {S S' : St} {x1 : Int32} (h : J6_takeAway S x1 = some ((), S')) : zMet l D cA σ shC tS yX6_takeAway cX6_takeAway 2 none rm6_takeAway [.ref (σ 1), .int x1] S none S' := z_met [(0, .ref (σ 1)), (1, .int x1)] (by decide +kernel) (Nat.le_of_ble_eq_true rfl) rfl (fun _ _ _ _ _ _ _ _ X => zz6_takeAway_0 X _ _ h)
set_option maxRecDepth 100000 in
set_option maxHeartbeats 4000000 in
theorem zz7_add_0 {S' : St} {r : Int32} (X : zM p s m args meth c D cA σ shC tS RX7 cX7_add 1 (some .int)) : ∀ (S : St), J7_add S = some (r, S') → Zj p l e rm7_add s m args below meth c D cA σ shC 1 (some (.int r)) S' 0 [(0, .ref (σ 29))] [] S := by
  intro S h
  rw [J7_add] at h
  refine z_aload_n (pc := 0) X dX7_add_0 rfl 0 rfl ?_
  refine z_get (pc := 1) (v := .ref (σ 31)) X 29 fX7_15 rfl rfl dX7_add_1 rfl ?_
  refine z_aload_n (pc := 4) X dX7_add_4 rfl 0 rfl ?_
  refine z_get (pc := 5) (v := .int _) X 29 fX7_18 rfl rfl dX7_add_5 rfl ?_
  refine z_iconst (pc := 8) (v := 0) X dX7_add_8 (by decide) ?_
  refine z_iast (pc := 9) X 31 rfl dX7_add_9 h (fun h => ?_)
  refine z_let h (fun h => ?_)
  refine z_aload_n (pc := 10) X dX7_add_10 rfl 0 rfl ?_
  refine z_get (pc := 11) (v := .ref (σ 30)) X 29 fX7_9 rfl rfl dX7_add_11 rfl ?_
  refine z_aload_n (pc := 14) X dX7_add_14 rfl 0 rfl ?_
  refine z_get (pc := 15) (v := .int _) X 29 fX7_18 rfl rfl dX7_add_15 rfl ?_
  refine z_iconst (pc := 18) (v := -1) X dX7_add_18 (by decide) ?_
  refine z_iast (pc := 19) X 30 rfl dX7_add_19 h (fun h => ?_)
  refine z_let h (fun h => ?_)
  refine z_aload_n (pc := 20) X dX7_add_20 rfl 0 rfl ?_
  refine z_dup (pc := 21) X dX7_add_21 rfl ?_
  refine z_get (pc := 22) (v := .int _) X 29 fX7_18 rfl rfl dX7_add_22 rfl ?_
  refine z_iconst (pc := 25) (v := 1) X dX7_add_25 (by decide) ?_
  refine z_iadd (pc := 26) X dX7_add_26 ?_
  refine z_putI (pc := 27) X 29 gX7_18 rfl rfl dX7_add_27 ?_
  refine z_let h (fun h => ?_)
  refine z_aload_n (pc := 30) X dX7_add_30 rfl 0 rfl ?_
  refine z_get (pc := 31) (v := .int _) X 29 fX7_18 rfl rfl dX7_add_31 rfl ?_
  exact z_iret X rfl dX7_add_34 h
theorem cc7_add {l : Launch} {D : va_G} {cA : Nat → ClassId} {σ : Nat → Nat} {tS : Nat} {S S' : St} {r : Int32} (h : J7_add S = some (r, S')) : zMet l D cA σ shC tS yX7_add cX7_add 1 (some .int) rm7_add [.ref (σ 29)] S (some (.int r)) S' := z_met [(0, .ref (σ 29))] (by decide +kernel) (Nat.le_of_ble_eq_true rfl) rfl (fun _ _ _ _ _ _ _ _ X => zz7_add_0 X _ h)
set_option maxRecDepth 100000 in
set_option maxHeartbeats 4000000 in
theorem zz8_runLack_18 {S' : St} {r : Int32} (X : zM p s m args meth c D cA σ shC tS RX8 cX8_runLack 2 (some .int)) : ∀ (S : St) (t0 : Int32), J8_runLack_18 S t0 = some (r, S') → Zj p l e rm8_runLack s m args below meth c D cA σ shC 2 (some (.int r)) S' 18 [] [.int t0] S := by
  intro S t0 h
  rw [J8_runLack_18] at h
  exact z_iret X rfl dX8_runLack_18 h
set_option maxRecDepth 100000 in
set_option maxHeartbeats 4000000 in
theorem zz8_runLack_0 {S' : St} {r : Int32} (X : zM p s m args meth c D cA σ shC tS RX8 cX8_runLack 2 (some .int)) : ∀ (S : St) (x1 : Int32), J8_runLack S x1 = some (r, S') → Zj p l e rm8_runLack s m args below meth c D cA σ shC 2 (some (.int r)) S' 0 [(0, .ref (σ 0)), (1, .int x1)] [] S := by
  intro S x1 h
  rw [J8_runLack] at h
  refine z_iload_n (pc := 0) X dX8_runLack_0 rfl 1 rfl ?_
  refine z_if_ne (pc := 1) (tgt := 6) X dX8_runLack_1 (by decide) h (fun h => ?_) (fun h => ?_)
  · refine z_aload_n (pc := 6) X dX8_runLack_6 rfl 0 rfl ?_
    refine z_get (pc := 7) (v := .int _) X 0 fX8_39 rfl rfl dX8_runLack_7 rfl ?_
    refine z_if_eq (pc := 10) (tgt := 17) X dX8_runLack_10 (by decide) h (fun h => ?_) (fun h => ?_)
    · refine z_iconst (pc := 17) (v := 4) X dX8_runLack_17 (by decide) ?_
      exact z_sub [] rfl (zz8_runLack_18 X  _ _ h)
    · refine z_iconst (pc := 13) (v := 0) X dX8_runLack_13 (by decide) ?_
      refine z_goto (pc := 14) (tgt := 18) X dX8_runLack_14 (by decide) ?_
      exact z_sub [] rfl (zz8_runLack_18 X  _ _ h)
  · refine z_iconst (pc := 4) (v := 1) X dX8_runLack_4 (by decide) ?_
    exact z_iret X rfl dX8_runLack_5 h
theorem cc8_runLack {l : Launch} {D : va_G} {cA : Nat → ClassId} {σ : Nat → Nat} {tS : Nat} {S S' : St} {x1 : Int32} {r : Int32} (h : J8_runLack S x1 = some (r, S')) : zMet l D cA σ shC tS yX8_runLack cX8_runLack 2 (some .int) rm8_runLack [.ref (σ 0), .int x1] S (some (.int r)) S' := z_met [(0, .ref (σ 0)), (1, .int x1)] (by decide +kernel) (Nat.le_of_ble_eq_true rfl) rfl (fun _ _ _ _ _ _ _ _ X => zz8_runLack_0 X _ _ h)
set_option maxRecDepth 100000 in
set_option maxHeartbeats 4000000 in
theorem zz8_actLack_120 {S' : St} {r : Int32} (X : zM p s m args meth c D cA σ shC tS RX8 cX8_actLack 7 (some .int)) : ∀ (S : St) (t0 : Int32), J8_actLack_120 S t0 = some (r, S') → Zj p l e rm8_actLack s m args below meth c D cA σ shC 7 (some (.int r)) S' 120 [] [.int t0] S := by
  intro S t0 h
  rw [J8_actLack_120] at h
  exact z_iret X rfl dX8_actLack_120 h
set_option maxRecDepth 100000 in
set_option maxHeartbeats 4000000 in
theorem zz8_actLack_73 {S' : St} {r : Int32} (X : zM p s m args meth c D cA σ shC tS RX8 cX8_actLack 7 (some .int)) : ∀ (n : Nat) (S : St) (x1 : Int32) (x3 : Int32) (x5 : Int32) (x6 : Int32), J8_actLack_73 n S x1 x3 x5 x6 = some (r, S') → Zj p l e rm8_actLack s m args below meth c D cA σ shC 7 (some (.int r)) S' 73 [(0, .ref (σ 0)), (1, .int x1), (3, .int x3), (5, .int x5), (6, .int x6)] [] S := by
  intro n
  induction n with
  | zero =>
    intro S x1 x3 x5 x6 h
    rw [J8_actLack_73] at h
    cases h
  | succ n ih =>
    intro S x1 x3 x5 x6 h
    rw [J8_actLack_73] at h
    refine z_iload (pc := 73) X dX8_actLack_73 4 rfl ?_
    refine z_iload (pc := 75) X dX8_actLack_75 3 rfl ?_
    refine z_icmp_ge (pc := 77) (tgt := 108) X dX8_actLack_77 (by decide) h (fun h => ?_) (fun h => ?_)
    · refine z_iload_n (pc := 108) X dX8_actLack_108 rfl 2 rfl ?_
      refine z_bipush (pc := 109) (v := 40) X dX8_actLack_109 (by decide) ?_
      refine z_icmp_ge (pc := 111) (tgt := 118) X dX8_actLack_111 (by decide) h (fun h => ?_) (fun h => ?_)
      · refine z_bipush (pc := 118) (v := 6) X dX8_actLack_118 (by decide) ?_
        exact z_sub [] rfl (zz8_actLack_120 X  _ _ h)
      · refine z_iconst (pc := 114) (v := 0) X dX8_actLack_114 (by decide) ?_
        refine z_goto (pc := 115) (tgt := 120) X dX8_actLack_115 (by decide) ?_
        exact z_sub [] rfl (zz8_actLack_120 X  _ _ h)
    · refine z_aload_n (pc := 80) X dX8_actLack_80 rfl 0 rfl ?_
      refine z_get (pc := 81) (v := .ref (σ 1)) X 0 fX8_10 rfl rfl dX8_actLack_81 rfl ?_
      refine z_iload_n (pc := 84) X dX8_actLack_84 rfl 1 rfl ?_
      refine z_iload (pc := 85) X dX8_actLack_85 4 rfl ?_
      refine z_callVl (pc := 87) (rm := rm6_at) X 1 [.int _, .int _] vX8_80 rfl rfl rfl (Nat.le_of_ble_eq_true rfl) ⟨rfl, rfl, Nat.le_of_ble_eq_true rfl, Nat.le_of_ble_eq_true rfl⟩ dX8_actLack_87 h (fun _ _ q => cc6_at q) (fun r1 S1 h => ?_)
      refine z_lconst (pc := 90) (v := 0) X dX8_actLack_90 (by decide) ?_
      refine z_ldc2 (pc := 91) X dX8_actLack_91 mw_583 ?_
      refine z_callSi (pc := 94) (rm := rm8_fits) X [.long _, .long _, .long _] sX8_56 rfl rfl (Nat.le_of_ble_eq_true rfl) ⟨rfl, rfl, Nat.le_of_ble_eq_true rfl, Nat.le_of_ble_eq_true rfl⟩ dX8_actLack_94 h (fun _ _ q => cc8_fits q) (fun r2 S2 h => ?_)
      refine z_if_ne (pc := 97) (tgt := 102) X dX8_actLack_97 (by decide) h (fun h => ?_) (fun h => ?_)
      · refine z_iinc (pc := 102) (k := 4) (v := 1) (L' := [(6, .int _), (0, .ref _), (1, .int _), (3, .int _), (5, .int _)]) X dX8_actLack_102 rfl (by decide) (by decide) rfl ?_
        refine z_let h (fun h => ?_)
        refine z_goto (pc := 105) (tgt := 73) X dX8_actLack_105 (by decide) ?_
        exact z_sub [1, 2, 3, 4, 0] rfl (ih _ _ _ _ _ h)
      · refine z_iconst (pc := 100) (v := 1) X dX8_actLack_100 (by decide) ?_
        exact z_iret X rfl dX8_actLack_101 h
set_option maxRecDepth 100000 in
set_option maxHeartbeats 4000000 in
theorem zz8_actLack_22 {S' : St} {r : Int32} (X : zM p s m args meth c D cA σ shC tS RX8 cX8_actLack 7 (some .int)) : ∀ (S : St) (x1 : Int32) (x3 : Int32) (t0 : Int32), J8_actLack_22 S x1 x3 t0 = some (r, S') → Zj p l e rm8_actLack s m args below meth c D cA σ shC 7 (some (.int r)) S' 22 [(0, .ref (σ 0)), (1, .int x1), (3, .int x3)] [.int t0, .ref (σ 0)] S := by
  intro S x1 x3 t0 h
  rw [J8_actLack_22] at h
  refine z_callVi (pc := 22) (rm := rm8_runLack) X 0 [.int _] vX8_152 rfl rfl rfl (Nat.le_of_ble_eq_true rfl) ⟨rfl, rfl, Nat.le_of_ble_eq_true rfl, Nat.le_of_ble_eq_true rfl⟩ dX8_actLack_22 h (fun _ _ q => cc8_runLack q) (fun r1 S1 h => ?_)
  refine z_istore (pc := 25) (L' := [(4, .int _), (0, .ref _), (1, .int _), (3, .int _)]) X dX8_actLack_25 (by decide) rfl ?_
  refine z_iload (pc := 27) X dX8_actLack_27 0 rfl ?_
  refine z_if_eq (pc := 29) (tgt := 35) X dX8_actLack_29 (by decide) h (fun h => ?_) (fun h => ?_)
  · refine z_iconst (pc := 35) (v := 2) X dX8_actLack_35 (by decide) ?_
    refine z_aload_n (pc := 36) X dX8_actLack_36 rfl 1 rfl ?_
    refine z_get (pc := 37) (v := .ref (σ 17)) X 0 fX8_35 rfl rfl dX8_actLack_37 rfl ?_
    refine z_get (pc := 40) (v := .ref (σ 18)) X 17 fX8_206 rfl rfl dX8_actLack_40 rfl ?_
    refine z_get (pc := 43) (v := .int _) X 18 fX8_284 rfl rfl dX8_actLack_43 rfl ?_
    refine z_imul (pc := 46) X dX8_actLack_46 ?_
    refine z_istore (pc := 47) (L' := [(5, .int _), (4, .int _), (0, .ref _), (1, .int _), (3, .int _)]) X dX8_actLack_47 (by decide) rfl ?_
    refine z_let h (fun h => ?_)
    refine z_aload_n (pc := 49) X dX8_actLack_49 rfl 2 rfl ?_
    refine z_get (pc := 50) (v := .ref (σ 1)) X 0 fX8_10 rfl rfl dX8_actLack_50 rfl ?_
    refine z_iload_n (pc := 53) X dX8_actLack_53 rfl 3 rfl ?_
    refine z_iconst (pc := 54) (v := 0) X dX8_actLack_54 (by decide) ?_
    refine z_iload (pc := 55) X dX8_actLack_55 0 rfl ?_
    refine z_callVi (pc := 57) (rm := rm6_lack) X 1 [.int _, .int _, .int _] vX8_70 rfl rfl rfl (Nat.le_of_ble_eq_true rfl) ⟨rfl, rfl, Nat.le_of_ble_eq_true rfl, Nat.le_of_ble_eq_true rfl⟩ dX8_actLack_57 h (fun _ _ q => cc6_lack q) (fun r3 S3 h => ?_)
    refine z_istore (pc := 60) (L' := [(4, .int _), (5, .int _), (0, .ref _), (1, .int _), (3, .int _)]) X dX8_actLack_60 (by decide) rfl ?_
    refine z_iload (pc := 62) X dX8_actLack_62 0 rfl ?_
    refine z_if_eq (pc := 64) (tgt := 70) X dX8_actLack_64 (by decide) h (fun h => ?_) (fun h => ?_)
    · refine z_iconst (pc := 70) (v := 0) X dX8_actLack_70 (by decide) ?_
      refine z_istore (pc := 71) (L' := [(6, .int _), (4, .int _), (5, .int _), (0, .ref _), (1, .int _), (3, .int _)]) X dX8_actLack_71 (by decide) rfl ?_
      exact z_sub [3, 4, 5, 2, 0] rfl (zz8_actLack_73 X  fu _ _ _ _ _ h)
    · refine z_iload (pc := 67) X dX8_actLack_67 0 rfl ?_
      exact z_iret X rfl dX8_actLack_69 h
  · refine z_iload (pc := 32) X dX8_actLack_32 0 rfl ?_
    exact z_iret X rfl dX8_actLack_34 h
set_option maxRecDepth 100000 in
set_option maxHeartbeats 4000000 in
theorem zz8_actLack_21 {S' : St} {r : Int32} (X : zM p s m args meth c D cA σ shC tS RX8 cX8_actLack 7 (some .int)) : ∀ (S : St) (x1 : Int32) (x3 : Int32), J8_actLack_21 S x1 x3 = some (r, S') → Zj p l e rm8_actLack s m args below meth c D cA σ shC 7 (some (.int r)) S' 21 [(0, .ref (σ 0)), (1, .int x1), (3, .int x3)] [.ref (σ 0)] S := by
  intro S x1 x3 h
  rw [J8_actLack_21] at h
  refine z_iconst (pc := 21) (v := 0) X dX8_actLack_21 (by decide) ?_
  exact z_sub [0, 1, 2] rfl (zz8_actLack_22 X  _ _ _ _ h)
set_option maxRecDepth 100000 in
set_option maxHeartbeats 4000000 in
theorem zz8_actLack_0 {S' : St} {r : Int32} (X : zM p s m args meth c D cA σ shC tS RX8 cX8_actLack 7 (some .int)) : ∀ (S : St) (x1 : Int32) (x2 : Int32) (x3 : Int32), J8_actLack S x1 x2 x3 = some (r, S') → Zj p l e rm8_actLack s m args below meth c D cA σ shC 7 (some (.int r)) S' 0 [(0, .ref (σ 0)), (1, .int x1), (2, .int x2), (3, .int x3)] [] S := by
  intro S x1 x2 x3 h
  rw [J8_actLack] at h
  refine z_aload_n (pc := 0) X dX8_actLack_0 rfl 0 rfl ?_
  refine z_iload_n (pc := 1) X dX8_actLack_1 rfl 2 rfl ?_
  refine z_if_eq (pc := 2) (tgt := 21) X dX8_actLack_2 (by decide) h (fun h => ?_) (fun h => ?_)
  · exact z_sub [0, 1, 3] rfl (zz8_actLack_21 X  _ _ _ h)
  · refine z_iload_n (pc := 5) X dX8_actLack_5 rfl 1 rfl ?_
    refine z_i2l (pc := 6) X dX8_actLack_6 ?_
    refine z_lconst (pc := 7) (v := 0) X dX8_actLack_7 (by decide) ?_
    refine z_ldc2 (pc := 8) X dX8_actLack_8 mw_389 ?_
    refine z_callSi (pc := 11) (rm := rm8_fits) X [.long _, .long _, .long _] sX8_56 rfl rfl (Nat.le_of_ble_eq_true rfl) ⟨rfl, rfl, Nat.le_of_ble_eq_true rfl, Nat.le_of_ble_eq_true rfl⟩ dX8_actLack_11 h (fun _ _ q => cc8_fits q) (fun r1 S1 h => ?_)
    refine z_if_eq (pc := 14) (tgt := 21) X dX8_actLack_14 (by decide) h (fun h => ?_) (fun h => ?_)
    · exact z_sub [0, 1, 3] rfl (zz8_actLack_21 X  _ _ _ h)
    · refine z_iconst (pc := 17) (v := 1) X dX8_actLack_17 (by decide) ?_
      refine z_goto (pc := 18) (tgt := 22) X dX8_actLack_18 (by decide) ?_
      exact z_sub [0, 1, 3] rfl (zz8_actLack_22 X  _ _ _ _ h)
theorem cc8_actLack {l : Launch} {D : va_G} {cA : Nat → ClassId} {σ : Nat → Nat} {tS : Nat} {S S' : St} {x1 : Int32} {x2 : Int32} {x3 : Int32} {r : Int32} (h : J8_actLack S x1 x2 x3 = some (r, S')) : zMet l D cA σ shC tS yX8_actLack cX8_actLack 7 (some .int) rm8_actLack [.ref (σ 0), .int x1, .int x2, .int x3] S (some (.int r)) S' := z_met [(0, .ref (σ 0)), (1, .int x1), (2, .int x2), (3, .int x3)] (by decide +kernel) (Nat.le_of_ble_eq_true rfl) rfl (fun _ _ _ _ _ _ _ _ X => zz8_actLack_0 X _ _ _ _ h)
set_option maxRecDepth 100000 in
set_option maxHeartbeats 4000000 in
theorem zz8_passes_14 {S' : St} {r : Int32} (X : zM p s m args meth c D cA σ shC tS RX8 cX8_passes 2 (some .boolean)) : ∀ (S : St) (t0 : Int32), J8_passes_14 S t0 = some (r, S') → Zj p l e rm8_passes s m args below meth c D cA σ shC 2 (some (.int r)) S' 14 [] [.int t0] S := by
  intro S t0 h
  rw [J8_passes_14] at h
  exact z_zret X rfl dX8_passes_14 h
set_option maxRecDepth 100000 in
set_option maxHeartbeats 4000000 in
theorem zz8_passes_0 {S' : St} {r : Int32} (X : zM p s m args meth c D cA σ shC tS RX8 cX8_passes 2 (some .boolean)) : ∀ (S : St) (x1 : Int32), J8_passes S x1 = some (r, S') → Zj p l e rm8_passes s m args below meth c D cA σ shC 2 (some (.int r)) S' 0 [(0, .ref (σ 0)), (1, .int x1)] [] S := by
  intro S x1 h
  rw [J8_passes] at h
  refine z_aload_n (pc := 0) X dX8_passes_0 rfl 0 rfl ?_
  refine z_iload_n (pc := 1) X dX8_passes_1 rfl 1 rfl ?_
  refine z_putI (pc := 2) X 0 gX8_43 rfl rfl dX8_passes_2 ?_
  refine z_let h (fun h => ?_)
  refine z_iload_n (pc := 5) X dX8_passes_5 rfl 1 rfl ?_
  refine z_if_ne (pc := 6) (tgt := 13) X dX8_passes_6 (by decide) h (fun h => ?_) (fun h => ?_)
  · refine z_iconst (pc := 13) (v := 0) X dX8_passes_13 (by decide) ?_
    exact z_sub [] rfl (zz8_passes_14 X  _ _ h)
  · refine z_iconst (pc := 9) (v := 1) X dX8_passes_9 (by decide) ?_
    refine z_goto (pc := 10) (tgt := 14) X dX8_passes_10 (by decide) ?_
    exact z_sub [] rfl (zz8_passes_14 X  _ _ h)
theorem cc8_passes {l : Launch} {D : va_G} {cA : Nat → ClassId} {σ : Nat → Nat} {tS : Nat} {S S' : St} {x1 : Int32} {r : Int32} (h : J8_passes S x1 = some (r, S')) : zMet l D cA σ shC tS yX8_passes cX8_passes 2 (some .boolean) rm8_passes [.ref (σ 0), .int x1] S (some (.int r)) S' := z_met [(0, .ref (σ 0)), (1, .int x1)] (by decide +kernel) (Nat.le_of_ble_eq_true rfl) rfl (fun _ _ _ _ _ _ _ _ X => zz8_passes_0 X _ _ h)
set_option maxRecDepth 100000 in
set_option maxHeartbeats 4000000 in
theorem zz8_begin_0 {S' : St} {r : Int32} (X : zM p s m args meth c D cA σ shC tS RX8 cX8_begin 1 (some .boolean)) : ∀ (S : St), J8_begin S = some (r, S') → Zj p l e rm8_begin s m args below meth c D cA σ shC 1 (some (.int r)) S' 0 [(0, .ref (σ 0))] [] S := by
  intro S h
  rw [J8_begin] at h
  refine z_aload_n (pc := 0) X dX8_begin_0 rfl 0 rfl ?_
  refine z_iconst (pc := 1) (v := 1) X dX8_begin_1 (by decide) ?_
  refine z_putZ (pc := 2) X 0 gX8_39 rfl rfl dX8_begin_2 h (fun h => ?_)
  refine z_let h (fun h => ?_)
  refine z_aload_n (pc := 5) X dX8_begin_5 rfl 0 rfl ?_
  refine z_get (pc := 6) (v := .ref (σ 17)) X 0 fX8_35 rfl rfl dX8_begin_6 rfl ?_
  refine z_aload_n (pc := 9) X dX8_begin_9 rfl 0 rfl ?_
  refine z_get (pc := 10) (v := .ref (σ 5)) X 0 fX8_19 rfl rfl dX8_begin_10 rfl ?_
  refine z_get (pc := 13) (v := .int _) X 5 fX8_98 rfl rfl dX8_begin_13 rfl ?_
  refine z_aload_n (pc := 16) X dX8_begin_16 rfl 0 rfl ?_
  refine z_get (pc := 17) (v := .ref (σ 5)) X 0 fX8_19 rfl rfl dX8_begin_17 rfl ?_
  refine z_get (pc := 20) (v := .int _) X 5 fX8_101 rfl rfl dX8_begin_20 rfl ?_
  refine z_aload_n (pc := 23) X dX8_begin_23 rfl 0 rfl ?_
  refine z_get (pc := 24) (v := .ref (σ 5)) X 0 fX8_19 rfl rfl dX8_begin_24 rfl ?_
  refine z_get (pc := 27) (v := .int _) X 5 fX8_104 rfl rfl dX8_begin_27 rfl ?_
  refine z_callVv (pc := 30) (rm := rm5_renew) X 17 [.int _, .int _, .int _] vX8_149 rfl rfl rfl (Nat.le_of_ble_eq_true rfl) ⟨rfl, rfl, Nat.le_of_ble_eq_true rfl, Nat.le_of_ble_eq_true rfl⟩ dX8_begin_30 h (fun _ _ q => cc5_renew q) (fun _ S2 h => ?_)
  refine z_aload_n (pc := 33) X dX8_begin_33 rfl 0 rfl ?_
  refine z_iconst (pc := 34) (v := 0) X dX8_begin_34 (by decide) ?_
  refine z_callVi (pc := 35) (rm := rm8_passes) X 0 [.int _] vX8_62 rfl rfl rfl (Nat.le_of_ble_eq_true rfl) ⟨rfl, rfl, Nat.le_of_ble_eq_true rfl, Nat.le_of_ble_eq_true rfl⟩ dX8_begin_35 h (fun _ _ q => cc8_passes q) (fun r3 S3 h => ?_)
  exact z_zret X rfl dX8_begin_38 h
theorem cc8_begin {l : Launch} {D : va_G} {cA : Nat → ClassId} {σ : Nat → Nat} {tS : Nat} {S S' : St} {r : Int32} (h : J8_begin S = some (r, S')) : zMet l D cA σ shC tS yX8_begin cX8_begin 1 (some .boolean) rm8_begin [.ref (σ 0)] S (some (.int r)) S' := z_met [(0, .ref (σ 0))] (by decide +kernel) (Nat.le_of_ble_eq_true rfl) rfl (fun _ _ _ _ _ _ _ _ X => zz8_begin_0 X _ h)
set_option maxRecDepth 100000 in
set_option maxHeartbeats 4000000 in
theorem zz8_bottom_0 {S' : St} {r : Int64} (X : zM p s m args meth c D cA σ shC tS RX8 cX8_bottom 1 (some .long)) : ∀ (S : St), J8_bottom S = some (r, S') → Zj p l e rm8_bottom s m args below meth c D cA σ shC 1 (some (.long r)) S' 0 [(0, .ref (σ 0))] [] S := by
  intro S h
  rw [J8_bottom] at h
  refine z_aload_n (pc := 0) X dX8_bottom_0 rfl 0 rfl ?_
  refine z_get (pc := 1) (v := .ref (σ 5)) X 0 fX8_19 rfl rfl dX8_bottom_1 rfl ?_
  refine z_get (pc := 4) (v := .long _) X 5 fX8_51 rfl rfl dX8_bottom_4 rfl ?_
  exact z_lret X rfl dX8_bottom_7 h
theorem cc8_bottom {l : Launch} {D : va_G} {cA : Nat → ClassId} {σ : Nat → Nat} {tS : Nat} {S S' : St} {r : Int64} (h : J8_bottom S = some (r, S')) : zMet l D cA σ shC tS yX8_bottom cX8_bottom 1 (some .long) rm8_bottom [.ref (σ 0)] S (some (.long r)) S' := z_met [(0, .ref (σ 0))] (by decide +kernel) (Nat.le_of_ble_eq_true rfl) rfl (fun _ _ _ _ _ _ _ _ X => zz8_bottom_0 X _ h)
set_option maxRecDepth 100000 in
set_option maxHeartbeats 4000000 in
theorem zz8_fitsRead_40 {S' : St} {r : Int32} (X : zM p s m args meth c D cA σ shC tS RX8 cX8_fitsRead 3 (some .boolean)) : ∀ (S : St) (t0 : Int32), J8_fitsRead_40 S t0 = some (r, S') → Zj p l e rm8_fitsRead s m args below meth c D cA σ shC 3 (some (.int r)) S' 40 [] [.int t0] S := by
  intro S t0 h
  rw [J8_fitsRead_40] at h
  exact z_zret X rfl dX8_fitsRead_40 h
set_option maxRecDepth 100000 in
set_option maxHeartbeats 4000000 in
theorem zz8_fitsRead_39 {S' : St} {r : Int32} (X : zM p s m args meth c D cA σ shC tS RX8 cX8_fitsRead 3 (some .boolean)) : ∀ (S : St), J8_fitsRead_39 S = some (r, S') → Zj p l e rm8_fitsRead s m args below meth c D cA σ shC 3 (some (.int r)) S' 39 [] [] S := by
  intro S h
  rw [J8_fitsRead_39] at h
  refine z_iconst (pc := 39) (v := 0) X dX8_fitsRead_39 (by decide) ?_
  exact z_sub [] rfl (zz8_fitsRead_40 X  _ _ h)
set_option maxRecDepth 100000 in
set_option maxHeartbeats 4000000 in
theorem zz8_fitsRead_0 {S' : St} {r : Int32} (X : zM p s m args meth c D cA σ shC tS RX8 cX8_fitsRead 3 (some .boolean)) : ∀ (S : St) (x0 : Int32) (x1 : Int32) (x2 : Int32), J8_fitsRead S x0 x1 x2 = some (r, S') → Zj p l e rm8_fitsRead s m args below meth c D cA σ shC 3 (some (.int r)) S' 0 [(0, .int x0), (1, .int x1), (2, .int x2)] [] S := by
  intro S x0 x1 x2 h
  rw [J8_fitsRead] at h
  refine z_iload_n (pc := 0) X dX8_fitsRead_0 rfl 0 rfl ?_
  refine z_i2l (pc := 1) X dX8_fitsRead_1 ?_
  refine z_lconst (pc := 2) (v := 0) X dX8_fitsRead_2 (by decide) ?_
  refine z_ldc2 (pc := 3) X dX8_fitsRead_3 mw_467 ?_
  refine z_callSi (pc := 6) (rm := rm8_fits) X [.long _, .long _, .long _] sX8_56 rfl rfl (Nat.le_of_ble_eq_true rfl) ⟨rfl, rfl, Nat.le_of_ble_eq_true rfl, Nat.le_of_ble_eq_true rfl⟩ dX8_fitsRead_6 h (fun _ _ q => cc8_fits q) (fun r1 S1 h => ?_)
  refine z_if_eq (pc := 9) (tgt := 39) X dX8_fitsRead_9 (by decide) h (fun h => ?_) (fun h => ?_)
  · exact z_sub [] rfl (zz8_fitsRead_39 X  _ h)
  · refine z_iload_n (pc := 12) X dX8_fitsRead_12 rfl 1 rfl ?_
    refine z_i2l (pc := 13) X dX8_fitsRead_13 ?_
    refine z_lconst (pc := 14) (v := 0) X dX8_fitsRead_14 (by decide) ?_
    refine z_ldc2 (pc := 15) X dX8_fitsRead_15 mw_389 ?_
    refine z_callSi (pc := 18) (rm := rm8_fits) X [.long _, .long _, .long _] sX8_56 rfl rfl (Nat.le_of_ble_eq_true rfl) ⟨rfl, rfl, Nat.le_of_ble_eq_true rfl, Nat.le_of_ble_eq_true rfl⟩ dX8_fitsRead_18 h (fun _ _ q => cc8_fits q) (fun r2 S2 h => ?_)
    refine z_if_eq (pc := 21) (tgt := 39) X dX8_fitsRead_21 (by decide) h (fun h => ?_) (fun h => ?_)
    · exact z_sub [] rfl (zz8_fitsRead_39 X  _ h)
    · refine z_iload_n (pc := 24) X dX8_fitsRead_24 rfl 2 rfl ?_
      refine z_i2l (pc := 25) X dX8_fitsRead_25 ?_
      refine z_lconst (pc := 26) (v := 0) X dX8_fitsRead_26 (by decide) ?_
      refine z_iload_n (pc := 27) X dX8_fitsRead_27 rfl 1 rfl ?_
      refine z_i2l (pc := 28) X dX8_fitsRead_28 ?_
      refine z_callSi (pc := 29) (rm := rm8_fits) X [.long _, .long _, .long _] sX8_56 rfl rfl (Nat.le_of_ble_eq_true rfl) ⟨rfl, rfl, Nat.le_of_ble_eq_true rfl, Nat.le_of_ble_eq_true rfl⟩ dX8_fitsRead_29 h (fun _ _ q => cc8_fits q) (fun r3 S3 h => ?_)
      refine z_if_eq (pc := 32) (tgt := 39) X dX8_fitsRead_32 (by decide) h (fun h => ?_) (fun h => ?_)
      · exact z_sub [] rfl (zz8_fitsRead_39 X  _ h)
      · refine z_iconst (pc := 35) (v := 1) X dX8_fitsRead_35 (by decide) ?_
        refine z_goto (pc := 36) (tgt := 40) X dX8_fitsRead_36 (by decide) ?_
        exact z_sub [] rfl (zz8_fitsRead_40 X  _ _ h)
theorem cc8_fitsRead {l : Launch} {D : va_G} {cA : Nat → ClassId} {σ : Nat → Nat} {tS : Nat} {S S' : St} {x0 : Int32} {x1 : Int32} {x2 : Int32} {r : Int32} (h : J8_fitsRead S x0 x1 x2 = some (r, S')) : zMet l D cA σ shC tS yX8_fitsRead cX8_fitsRead 3 (some .boolean) rm8_fitsRead [.int x0, .int x1, .int x2] S (some (.int r)) S' := z_met [(0, .int x0), (1, .int x1), (2, .int x2)] (by decide +kernel) (Nat.le_of_ble_eq_true rfl) rfl (fun _ _ _ _ _ _ _ _ X => zz8_fitsRead_0 X _ _ _ _ h)
set_option maxRecDepth 100000 in
set_option maxHeartbeats 4000000 in
theorem zz8_choose_164 {S' : St} {r : Int32} (X : zM p s m args meth c D cA σ shC tS RX8 cX8_choose 12 (some .int)) : ∀ (S : St) (x11 : Int32) (t0 : Int32), J8_choose_164 S x11 t0 = some (r, S') → Zj p l e rm8_choose s m args below meth c D cA σ shC 12 (some (.int r)) S' 164 [(11, .int x11)] [.int t0, .ref (σ 0)] S := by
  intro S x11 t0 h
  rw [J8_choose_164] at h
  refine z_callVi (pc := 164) (rm := rm8_passes) X 0 [.int _] vX8_62 rfl rfl rfl (Nat.le_of_ble_eq_true rfl) ⟨rfl, rfl, Nat.le_of_ble_eq_true rfl, Nat.le_of_ble_eq_true rfl⟩ dX8_choose_164 h (fun _ _ q => cc8_passes q) (fun r1 S1 h => ?_)
  refine z_pop (pc := 167) X dX8_choose_167 rfl ?_
  refine z_iload (pc := 168) X dX8_choose_168 0 rfl ?_
  exact z_iret X rfl dX8_choose_170 h
set_option maxRecDepth 100000 in
set_option maxHeartbeats 4000000 in
theorem zz8_choose_113 {S' : St} {r : Int32} (X : zM p s m args meth c D cA σ shC tS RX8 cX8_choose 12 (some .int)) : ∀ (S : St) (x1 : Int32) (x2 : Int32) (x4 : Int32) (x5 : Int32) (x6 : Int32) (x7 : Int32) (x8 : Int32) (x9 : Int32) (t0 : Int32), J8_choose_113 S x1 x2 x4 x5 x6 x7 x8 x9 t0 = some (r, S') → Zj p l e rm8_choose s m args below meth c D cA σ shC 12 (some (.int r)) S' 113 [(0, .ref (σ 0)), (1, .int x1), (2, .int x2), (4, .int x4), (5, .int x5), (6, .int x6), (7, .int x7), (8, .int x8), (9, .int x9)] [.int t0, .ref (σ 0)] S := by
  intro S x1 x2 x4 x5 x6 x7 x8 x9 t0 h
  rw [J8_choose_113] at h
  refine z_callVi (pc := 113) (rm := rm8_passes) X 0 [.int _] vX8_62 rfl rfl rfl (Nat.le_of_ble_eq_true rfl) ⟨rfl, rfl, Nat.le_of_ble_eq_true rfl, Nat.le_of_ble_eq_true rfl⟩ dX8_choose_113 h (fun _ _ q => cc8_passes q) (fun r1 S1 h => ?_)
  refine z_if_ne (pc := 116) (tgt := 121) X dX8_choose_116 (by decide) h (fun h => ?_) (fun h => ?_)
  · refine z_aload_n (pc := 121) X dX8_choose_121 rfl 0 rfl ?_
    refine z_get (pc := 122) (v := .ref (σ 8)) X 0 fX8_28 rfl rfl dX8_choose_122 rfl ?_
    refine z_iload_n (pc := 125) X dX8_choose_125 rfl 2 rfl ?_
    refine z_iload (pc := 126) X dX8_choose_126 3 rfl ?_
    refine z_callVv (pc := 128) (rm := rm2_ask) X 8 [.int _, .int _] vX8_133 rfl rfl rfl (Nat.le_of_ble_eq_true rfl) ⟨rfl, rfl, Nat.le_of_ble_eq_true rfl, Nat.le_of_ble_eq_true rfl⟩ dX8_choose_128 h (fun _ _ q => cc2_ask q) (fun _ S2 h => ?_)
    refine z_aload_n (pc := 131) X dX8_choose_131 rfl 0 rfl ?_
    refine z_get (pc := 132) (v := .ref (σ 8)) X 0 fX8_28 rfl rfl dX8_choose_132 rfl ?_
    refine z_iload_n (pc := 135) X dX8_choose_135 rfl 1 rfl ?_
    refine z_iload (pc := 136) X dX8_choose_136 4 rfl ?_
    refine z_iload (pc := 138) X dX8_choose_138 5 rfl ?_
    refine z_iload (pc := 140) X dX8_choose_140 6 rfl ?_
    refine z_iload (pc := 142) X dX8_choose_142 7 rfl ?_
    refine z_iload (pc := 144) X dX8_choose_144 8 rfl ?_
    refine z_callVi (pc := 146) (rm := rm2_cheapest) X 8 [.int _, .int _, .int _, .int _, .int _, .int _] vX8_145 rfl rfl rfl (Nat.le_of_ble_eq_true rfl) ⟨rfl, rfl, Nat.le_of_ble_eq_true rfl, Nat.le_of_ble_eq_true rfl⟩ dX8_choose_146 h (fun _ _ q => cc2_cheapest q) (fun r3 S3 h => ?_)
    refine z_istore (pc := 149) (L' := [(11, .int _), (0, .ref _), (1, .int _), (2, .int _), (4, .int _), (5, .int _), (6, .int _), (7, .int _), (8, .int _), (9, .int _)]) X dX8_choose_149 (by decide) rfl ?_
    refine z_aload_n (pc := 151) X dX8_choose_151 rfl 1 rfl ?_
    refine z_iload (pc := 152) X dX8_choose_152 0 rfl ?_
    refine z_iconst (pc := 154) (v := -1) X dX8_choose_154 (by decide) ?_
    refine z_icmp_ne (pc := 155) (tgt := 163) X dX8_choose_155 (by decide) h (fun h => ?_) (fun h => ?_)
    · refine z_iconst (pc := 163) (v := 0) X dX8_choose_163 (by decide) ?_
      exact z_sub [0] rfl (zz8_choose_164 X  _ _ _ h)
    · refine z_bipush (pc := 158) (v := 8) X dX8_choose_158 (by decide) ?_
      refine z_goto (pc := 160) (tgt := 164) X dX8_choose_160 (by decide) ?_
      exact z_sub [0] rfl (zz8_choose_164 X  _ _ _ h)
  · refine z_iconst (pc := 119) (v := -1) X dX8_choose_119 (by decide) ?_
    exact z_iret X rfl dX8_choose_120 h
set_option maxRecDepth 100000 in
set_option maxHeartbeats 4000000 in
theorem zz8_choose_92 {S' : St} {r : Int32} (X : zM p s m args meth c D cA σ shC tS RX8 cX8_choose 12 (some .int)) : ∀ (S : St) (x1 : Int32) (x2 : Int32) (x3 : Int32) (x4 : Int32) (x5 : Int32) (x6 : Int32) (x7 : Int32) (x8 : Int32) (x9 : Int32) (t0 : Int32), J8_choose_92 S x1 x2 x3 x4 x5 x6 x7 x8 x9 t0 = some (r, S') → Zj p l e rm8_choose s m args below meth c D cA σ shC 12 (some (.int r)) S' 92 [(0, .ref (σ 0)), (1, .int x1), (2, .int x2), (3, .int x3), (4, .int x4), (5, .int x5), (6, .int x6), (7, .int x7), (8, .int x8), (9, .int x9)] [.int t0] S := by
  intro S x1 x2 x3 x4 x5 x6 x7 x8 x9 t0 h
  rw [J8_choose_92] at h
  refine z_istore (pc := 92) (L' := [(10, .int _), (0, .ref _), (1, .int _), (2, .int _), (3, .int _), (4, .int _), (5, .int _), (6, .int _), (7, .int _), (8, .int _), (9, .int _)]) X dX8_choose_92 (by decide) rfl ?_
  refine z_aload_n (pc := 94) X dX8_choose_94 rfl 1 rfl ?_
  refine z_iload (pc := 95) X dX8_choose_95 0 rfl ?_
  refine z_if_eq (pc := 97) (tgt := 112) X dX8_choose_97 (by decide) h (fun h => ?_) (fun h => ?_)
  · refine z_iconst (pc := 112) (v := 1) X dX8_choose_112 (by decide) ?_
    exact z_sub [1, 2, 3, 5, 6, 7, 8, 9, 10] rfl (zz8_choose_113 X  _ _ _ _ _ _ _ _ _ _ h)
  · refine z_aload_n (pc := 100) X dX8_choose_100 rfl 1 rfl ?_
    refine z_get (pc := 101) (v := .ref (σ 5)) X 0 fX8_19 rfl rfl dX8_choose_101 rfl ?_
    refine z_iload_n (pc := 104) X dX8_choose_104 rfl 2 rfl ?_
    refine z_iload_n (pc := 105) X dX8_choose_105 rfl 4 rfl ?_
    refine z_callVi (pc := 106) (rm := rm0_greatness) X 5 [.int _, .int _] vX8_130 rfl rfl rfl (Nat.le_of_ble_eq_true rfl) ⟨rfl, rfl, Nat.le_of_ble_eq_true rfl, Nat.le_of_ble_eq_true rfl⟩ dX8_choose_106 h (fun _ _ q => cc0_greatness q) (fun r1 S1 h => ?_)
    refine z_goto (pc := 109) (tgt := 113) X dX8_choose_109 (by decide) ?_
    exact z_sub [1, 2, 3, 5, 6, 7, 8, 9, 10] rfl (zz8_choose_113 X  _ _ _ _ _ _ _ _ _ _ h)
set_option maxRecDepth 100000 in
set_option maxHeartbeats 4000000 in
theorem zz8_choose_91 {S' : St} {r : Int32} (X : zM p s m args meth c D cA σ shC tS RX8 cX8_choose 12 (some .int)) : ∀ (S : St) (x1 : Int32) (x2 : Int32) (x3 : Int32) (x4 : Int32) (x5 : Int32) (x6 : Int32) (x7 : Int32) (x8 : Int32) (x9 : Int32), J8_choose_91 S x1 x2 x3 x4 x5 x6 x7 x8 x9 = some (r, S') → Zj p l e rm8_choose s m args below meth c D cA σ shC 12 (some (.int r)) S' 91 [(0, .ref (σ 0)), (1, .int x1), (2, .int x2), (3, .int x3), (4, .int x4), (5, .int x5), (6, .int x6), (7, .int x7), (8, .int x8), (9, .int x9)] [] S := by
  intro S x1 x2 x3 x4 x5 x6 x7 x8 x9 h
  rw [J8_choose_91] at h
  refine z_iconst (pc := 91) (v := 0) X dX8_choose_91 (by decide) ?_
  exact z_sub [0, 1, 2, 3, 4, 5, 6, 7, 8, 9] rfl (zz8_choose_92 X  _ _ _ _ _ _ _ _ _ _ _ h)
set_option maxRecDepth 100000 in
set_option maxHeartbeats 4000000 in
theorem zz8_choose_0 {S' : St} {r : Int32} (X : zM p s m args meth c D cA σ shC tS RX8 cX8_choose 12 (some .int)) : ∀ (S : St) (x1 : Int32) (x2 : Int32) (x3 : Int32) (x4 : Int32) (x5 : Int32) (x6 : Int32) (x7 : Int32) (x8 : Int32) (x9 : Int32), J8_choose S x1 x2 x3 x4 x5 x6 x7 x8 x9 = some (r, S') → Zj p l e rm8_choose s m args below meth c D cA σ shC 12 (some (.int r)) S' 0 [(0, .ref (σ 0)), (1, .int x1), (2, .int x2), (3, .int x3), (4, .int x4), (5, .int x5), (6, .int x6), (7, .int x7), (8, .int x8), (9, .int x9)] [] S := by
  intro S x1 x2 x3 x4 x5 x6 x7 x8 x9 h
  rw [J8_choose] at h
  refine z_iload_n (pc := 0) X dX8_choose_0 rfl 1 rfl ?_
  refine z_i2l (pc := 1) X dX8_choose_1 ?_
  refine z_lconst (pc := 2) (v := 1) X dX8_choose_2 (by decide) ?_
  refine z_ldc2 (pc := 3) X dX8_choose_3 mw_462 ?_
  refine z_callSi (pc := 6) (rm := rm8_fits) X [.long _, .long _, .long _] sX8_56 rfl rfl (Nat.le_of_ble_eq_true rfl) ⟨rfl, rfl, Nat.le_of_ble_eq_true rfl, Nat.le_of_ble_eq_true rfl⟩ dX8_choose_6 h (fun _ _ q => cc8_fits q) (fun r1 S1 h => ?_)
  refine z_if_eq (pc := 9) (tgt := 91) X dX8_choose_9 (by decide) h (fun h => ?_) (fun h => ?_)
  · exact z_sub [0, 1, 2, 3, 4, 5, 6, 7, 8, 9] rfl (zz8_choose_91 X  _ _ _ _ _ _ _ _ _ _ h)
  · refine z_iload_n (pc := 12) X dX8_choose_12 rfl 2 rfl ?_
    refine z_iload_n (pc := 13) X dX8_choose_13 rfl 3 rfl ?_
    refine z_iload (pc := 14) X dX8_choose_14 4 rfl ?_
    refine z_callSi (pc := 16) (rm := rm8_fitsRead) X [.int _, .int _, .int _] sX8_126 rfl rfl (Nat.le_of_ble_eq_true rfl) ⟨rfl, rfl, Nat.le_of_ble_eq_true rfl, Nat.le_of_ble_eq_true rfl⟩ dX8_choose_16 h (fun _ _ q => cc8_fitsRead q) (fun r2 S2 h => ?_)
    refine z_if_eq (pc := 19) (tgt := 91) X dX8_choose_19 (by decide) h (fun h => ?_) (fun h => ?_)
    · exact z_sub [0, 1, 2, 3, 4, 5, 6, 7, 8, 9] rfl (zz8_choose_91 X  _ _ _ _ _ _ _ _ _ _ h)
    · refine z_iload (pc := 22) X dX8_choose_22 6 rfl ?_
      refine z_i2l (pc := 24) X dX8_choose_24 ?_
      refine z_lconst (pc := 25) (v := 1) X dX8_choose_25 (by decide) ?_
      refine z_ldc2 (pc := 26) X dX8_choose_26 mw_582 ?_
      refine z_callSi (pc := 29) (rm := rm8_fits) X [.long _, .long _, .long _] sX8_56 rfl rfl (Nat.le_of_ble_eq_true rfl) ⟨rfl, rfl, Nat.le_of_ble_eq_true rfl, Nat.le_of_ble_eq_true rfl⟩ dX8_choose_29 h (fun _ _ q => cc8_fits q) (fun r3 S3 h => ?_)
      refine z_if_eq (pc := 32) (tgt := 91) X dX8_choose_32 (by decide) h (fun h => ?_) (fun h => ?_)
      · exact z_sub [0, 1, 2, 3, 4, 5, 6, 7, 8, 9] rfl (zz8_choose_91 X  _ _ _ _ _ _ _ _ _ _ h)
      · refine z_iload (pc := 35) X dX8_choose_35 5 rfl ?_
        refine z_i2l (pc := 37) X dX8_choose_37 ?_
        refine z_lconst (pc := 38) (v := 0) X dX8_choose_38 (by decide) ?_
        refine z_iload (pc := 39) X dX8_choose_39 6 rfl ?_
        refine z_i2l (pc := 41) X dX8_choose_41 ?_
        refine z_callSi (pc := 42) (rm := rm8_fits) X [.long _, .long _, .long _] sX8_56 rfl rfl (Nat.le_of_ble_eq_true rfl) ⟨rfl, rfl, Nat.le_of_ble_eq_true rfl, Nat.le_of_ble_eq_true rfl⟩ dX8_choose_42 h (fun _ _ q => cc8_fits q) (fun r4 S4 h => ?_)
        refine z_if_eq (pc := 45) (tgt := 91) X dX8_choose_45 (by decide) h (fun h => ?_) (fun h => ?_)
        · exact z_sub [0, 1, 2, 3, 4, 5, 6, 7, 8, 9] rfl (zz8_choose_91 X  _ _ _ _ _ _ _ _ _ _ h)
        · refine z_iload (pc := 48) X dX8_choose_48 7 rfl ?_
          refine z_i2l (pc := 50) X dX8_choose_50 ?_
          refine z_lconst (pc := 51) (v := 0) X dX8_choose_51 (by decide) ?_
          refine z_ldc2 (pc := 52) X dX8_choose_52 mw_583 ?_
          refine z_callSi (pc := 55) (rm := rm8_fits) X [.long _, .long _, .long _] sX8_56 rfl rfl (Nat.le_of_ble_eq_true rfl) ⟨rfl, rfl, Nat.le_of_ble_eq_true rfl, Nat.le_of_ble_eq_true rfl⟩ dX8_choose_55 h (fun _ _ q => cc8_fits q) (fun r5 S5 h => ?_)
          refine z_if_eq (pc := 58) (tgt := 91) X dX8_choose_58 (by decide) h (fun h => ?_) (fun h => ?_)
          · exact z_sub [0, 1, 2, 3, 4, 5, 6, 7, 8, 9] rfl (zz8_choose_91 X  _ _ _ _ _ _ _ _ _ _ h)
          · refine z_iload (pc := 61) X dX8_choose_61 8 rfl ?_
            refine z_i2l (pc := 63) X dX8_choose_63 ?_
            refine z_lconst (pc := 64) (v := 0) X dX8_choose_64 (by decide) ?_
            refine z_ldc2 (pc := 65) X dX8_choose_65 mw_583 ?_
            refine z_callSi (pc := 68) (rm := rm8_fits) X [.long _, .long _, .long _] sX8_56 rfl rfl (Nat.le_of_ble_eq_true rfl) ⟨rfl, rfl, Nat.le_of_ble_eq_true rfl, Nat.le_of_ble_eq_true rfl⟩ dX8_choose_68 h (fun _ _ q => cc8_fits q) (fun r6 S6 h => ?_)
            refine z_if_eq (pc := 71) (tgt := 91) X dX8_choose_71 (by decide) h (fun h => ?_) (fun h => ?_)
            · exact z_sub [0, 1, 2, 3, 4, 5, 6, 7, 8, 9] rfl (zz8_choose_91 X  _ _ _ _ _ _ _ _ _ _ h)
            · refine z_iload (pc := 74) X dX8_choose_74 9 rfl ?_
              refine z_i2l (pc := 76) X dX8_choose_76 ?_
              refine z_lconst (pc := 77) (v := 0) X dX8_choose_77 (by decide) ?_
              refine z_ldc2 (pc := 78) X dX8_choose_78 mw_583 ?_
              refine z_callSi (pc := 81) (rm := rm8_fits) X [.long _, .long _, .long _] sX8_56 rfl rfl (Nat.le_of_ble_eq_true rfl) ⟨rfl, rfl, Nat.le_of_ble_eq_true rfl, Nat.le_of_ble_eq_true rfl⟩ dX8_choose_81 h (fun _ _ q => cc8_fits q) (fun r7 S7 h => ?_)
              refine z_if_eq (pc := 84) (tgt := 91) X dX8_choose_84 (by decide) h (fun h => ?_) (fun h => ?_)
              · exact z_sub [0, 1, 2, 3, 4, 5, 6, 7, 8, 9] rfl (zz8_choose_91 X  _ _ _ _ _ _ _ _ _ _ h)
              · refine z_iconst (pc := 87) (v := 1) X dX8_choose_87 (by decide) ?_
                refine z_goto (pc := 88) (tgt := 92) X dX8_choose_88 (by decide) ?_
                exact z_sub [0, 1, 2, 3, 4, 5, 6, 7, 8, 9] rfl (zz8_choose_92 X  _ _ _ _ _ _ _ _ _ _ _ h)
theorem cc8_choose {l : Launch} {D : va_G} {cA : Nat → ClassId} {σ : Nat → Nat} {tS : Nat} {S S' : St} {x1 : Int32} {x2 : Int32} {x3 : Int32} {x4 : Int32} {x5 : Int32} {x6 : Int32} {x7 : Int32} {x8 : Int32} {x9 : Int32} {r : Int32} (h : J8_choose S x1 x2 x3 x4 x5 x6 x7 x8 x9 = some (r, S')) : zMet l D cA σ shC tS yX8_choose cX8_choose 12 (some .int) rm8_choose [.ref (σ 0), .int x1, .int x2, .int x3, .int x4, .int x5, .int x6, .int x7, .int x8, .int x9] S (some (.int r)) S' := z_met [(0, .ref (σ 0)), (1, .int x1), (2, .int x2), (3, .int x3), (4, .int x4), (5, .int x5), (6, .int x6), (7, .int x7), (8, .int x8), (9, .int x9)] (by decide +kernel) (Nat.le_of_ble_eq_true rfl) rfl (fun _ _ _ _ _ _ _ _ X => zz8_choose_0 X _ _ _ _ _ _ _ _ _ _ h)
set_option maxRecDepth 100000 in
set_option maxHeartbeats 4000000 in
theorem zz8_first_19 {S' : St} {r : Int32} (X : zM p s m args meth c D cA σ shC tS RX8 cX8_first 2 (some .int)) : ∀ (S : St) (t0 : Int32), J8_first_19 S t0 = some (r, S') → Zj p l e rm8_first s m args below meth c D cA σ shC 2 (some (.int r)) S' 19 [] [.int t0] S := by
  intro S t0 h
  rw [J8_first_19] at h
  exact z_iret X rfl dX8_first_19 h
set_option maxRecDepth 100000 in
set_option maxHeartbeats 4000000 in
theorem zz8_first_0 {S' : St} {r : Int32} (X : zM p s m args meth c D cA σ shC tS RX8 cX8_first 2 (some .int)) : ∀ (S : St) (x0 : Int32) (x1 : Int32), J8_first S x0 x1 = some (r, S') → Zj p l e rm8_first s m args below meth c D cA σ shC 2 (some (.int r)) S' 0 [(0, .int x0), (1, .int x1)] [] S := by
  intro S x0 x1 h
  rw [J8_first] at h
  refine z_iload_n (pc := 0) X dX8_first_0 rfl 0 rfl ?_
  refine z_if_ne (pc := 1) (tgt := 6) X dX8_first_1 (by decide) h (fun h => ?_) (fun h => ?_)
  · refine z_iload_n (pc := 6) X dX8_first_6 rfl 1 rfl ?_
    refine z_if_ne (pc := 7) (tgt := 14) X dX8_first_7 (by decide) h (fun h => ?_) (fun h => ?_)
    · refine z_iload_n (pc := 14) X dX8_first_14 rfl 0 rfl ?_
      refine z_iload_n (pc := 15) X dX8_first_15 rfl 1 rfl ?_
      refine z_min (pc := 16) X hX8_274 ⟨Nat.le_of_ble_eq_true rfl, Nat.le_of_ble_eq_true rfl⟩ dX8_first_16 ?_
      exact z_sub [] rfl (zz8_first_19 X  _ _ h)
    · refine z_iload_n (pc := 10) X dX8_first_10 rfl 0 rfl ?_
      refine z_goto (pc := 11) (tgt := 19) X dX8_first_11 (by decide) ?_
      exact z_sub [] rfl (zz8_first_19 X  _ _ h)
  · refine z_iload_n (pc := 4) X dX8_first_4 rfl 1 rfl ?_
    exact z_iret X rfl dX8_first_5 h
theorem cc8_first {l : Launch} {D : va_G} {cA : Nat → ClassId} {σ : Nat → Nat} {tS : Nat} {S S' : St} {x0 : Int32} {x1 : Int32} {r : Int32} (h : J8_first S x0 x1 = some (r, S')) : zMet l D cA σ shC tS yX8_first cX8_first 2 (some .int) rm8_first [.int x0, .int x1] S (some (.int r)) S' := z_met [(0, .int x0), (1, .int x1)] (by decide +kernel) (Nat.le_of_ble_eq_true rfl) rfl (fun _ _ _ _ _ _ _ _ X => zz8_first_0 X _ _ _ h)
set_option maxRecDepth 100000 in
set_option maxHeartbeats 4000000 in
theorem zz8_copy_14 {S' : St} {r : Int32} (X : zM p s m args meth c D cA σ shC tS RX8 cX8_copy 7 (some .boolean)) : ∀ (S : St) (x1 : Int32) (x2 : Int32) (x3 : Int32) (x4 : Int32) (x5 : Int32) (t0 : Int32), J8_copy_14 S x1 x2 x3 x4 x5 t0 = some (r, S') → Zj p l e rm8_copy s m args below meth c D cA σ shC 7 (some (.int r)) S' 14 [(0, .ref (σ 0)), (1, .int x1), (2, .int x2), (3, .int x3), (4, .int x4), (5, .int x5)] [.int t0] S := by
  intro S x1 x2 x3 x4 x5 t0 h
  rw [J8_copy_14] at h
  refine z_istore (pc := 14) (L' := [(6, .int _), (0, .ref _), (1, .int _), (2, .int _), (3, .int _), (4, .int _), (5, .int _)]) X dX8_copy_14 (by decide) rfl ?_
  refine z_aload_n (pc := 16) X dX8_copy_16 rfl 1 rfl ?_
  refine z_iload (pc := 17) X dX8_copy_17 0 rfl ?_
  refine z_aload_n (pc := 19) X dX8_copy_19 rfl 1 rfl ?_
  refine z_get (pc := 20) (v := .ref (σ 1)) X 0 fX8_10 rfl rfl dX8_copy_20 rfl ?_
  refine z_iload_n (pc := 23) X dX8_copy_23 rfl 2 rfl ?_
  refine z_iload_n (pc := 24) X dX8_copy_24 rfl 3 rfl ?_
  refine z_iload (pc := 25) X dX8_copy_25 6 rfl ?_
  refine z_callVi (pc := 27) (rm := rm6_lack) X 1 [.int _, .int _, .int _] vX8_70 rfl rfl rfl (Nat.le_of_ble_eq_true rfl) ⟨rfl, rfl, Nat.le_of_ble_eq_true rfl, Nat.le_of_ble_eq_true rfl⟩ dX8_copy_27 h (fun _ _ q => cc6_lack q) (fun r1 S1 h => ?_)
  refine z_aload_n (pc := 30) X dX8_copy_30 rfl 1 rfl ?_
  refine z_get (pc := 31) (v := .ref (σ 1)) X 0 fX8_10 rfl rfl dX8_copy_31 rfl ?_
  refine z_iload_n (pc := 34) X dX8_copy_34 rfl 4 rfl ?_
  refine z_iload (pc := 35) X dX8_copy_35 5 rfl ?_
  refine z_iload (pc := 37) X dX8_copy_37 6 rfl ?_
  refine z_callVi (pc := 39) (rm := rm6_lack) X 1 [.int _, .int _, .int _] vX8_70 rfl rfl rfl (Nat.le_of_ble_eq_true rfl) ⟨rfl, rfl, Nat.le_of_ble_eq_true rfl, Nat.le_of_ble_eq_true rfl⟩ dX8_copy_39 h (fun _ _ q => cc6_lack q) (fun r2 S2 h => ?_)
  refine z_callSi (pc := 42) (rm := rm8_first) X [.int _, .int _] sX8_84 rfl rfl (Nat.le_of_ble_eq_true rfl) ⟨rfl, rfl, Nat.le_of_ble_eq_true rfl, Nat.le_of_ble_eq_true rfl⟩ dX8_copy_42 h (fun _ _ q => cc8_first q) (fun r3 S3 h => ?_)
  refine z_callSi (pc := 45) (rm := rm8_first) X [.int _, .int _] sX8_84 rfl rfl (Nat.le_of_ble_eq_true rfl) ⟨rfl, rfl, Nat.le_of_ble_eq_true rfl, Nat.le_of_ble_eq_true rfl⟩ dX8_copy_45 h (fun _ _ q => cc8_first q) (fun r4 S4 h => ?_)
  refine z_callVi (pc := 48) (rm := rm8_passes) X 0 [.int _] vX8_62 rfl rfl rfl (Nat.le_of_ble_eq_true rfl) ⟨rfl, rfl, Nat.le_of_ble_eq_true rfl, Nat.le_of_ble_eq_true rfl⟩ dX8_copy_48 h (fun _ _ q => cc8_passes q) (fun r5 S5 h => ?_)
  refine z_if_ne (pc := 51) (tgt := 56) X dX8_copy_51 (by decide) h (fun h => ?_) (fun h => ?_)
  · refine z_aload_n (pc := 56) X dX8_copy_56 rfl 1 rfl ?_
    refine z_get (pc := 57) (v := .ref (σ 1)) X 0 fX8_10 rfl rfl dX8_copy_57 rfl ?_
    refine z_iload_n (pc := 60) X dX8_copy_60 rfl 2 rfl ?_
    refine z_iload_n (pc := 61) X dX8_copy_61 rfl 3 rfl ?_
    refine z_iload_n (pc := 62) X dX8_copy_62 rfl 4 rfl ?_
    refine z_iload (pc := 63) X dX8_copy_63 5 rfl ?_
    refine z_iload (pc := 65) X dX8_copy_65 6 rfl ?_
    refine z_callVv (pc := 67) (rm := rm6_move) X 1 [.int _, .int _, .int _, .int _, .int _] vX8_88 rfl rfl rfl (Nat.le_of_ble_eq_true rfl) ⟨rfl, rfl, Nat.le_of_ble_eq_true rfl, Nat.le_of_ble_eq_true rfl⟩ dX8_copy_67 h (fun _ _ q => cc6_move q) (fun _ S6 h => ?_)
    refine z_iconst (pc := 70) (v := 1) X dX8_copy_70 (by decide) ?_
    exact z_zret X rfl dX8_copy_71 h
  · refine z_iconst (pc := 54) (v := 0) X dX8_copy_54 (by decide) ?_
    exact z_zret X rfl dX8_copy_55 h
set_option maxRecDepth 100000 in
set_option maxHeartbeats 4000000 in
theorem zz8_copy_9 {S' : St} {r : Int32} (X : zM p s m args meth c D cA σ shC tS RX8 cX8_copy 7 (some .boolean)) : ∀ (S : St) (x1 : Int32) (x2 : Int32) (x3 : Int32) (x4 : Int32) (x5 : Int32), J8_copy_9 S x1 x2 x3 x4 x5 = some (r, S') → Zj p l e rm8_copy s m args below meth c D cA σ shC 7 (some (.int r)) S' 9 [(0, .ref (σ 0)), (1, .int x1), (2, .int x2), (3, .int x3), (4, .int x4), (5, .int x5)] [] S := by
  intro S x1 x2 x3 x4 x5 h
  rw [J8_copy_9] at h
  refine z_iconst (pc := 9) (v := 1) X dX8_copy_9 (by decide) ?_
  refine z_goto (pc := 10) (tgt := 14) X dX8_copy_10 (by decide) ?_
  exact z_sub [0, 1, 2, 3, 4, 5] rfl (zz8_copy_14 X  _ _ _ _ _ _ _ h)
set_option maxRecDepth 100000 in
set_option maxHeartbeats 4000000 in
theorem zz8_copy_0 {S' : St} {r : Int32} (X : zM p s m args meth c D cA σ shC tS RX8 cX8_copy 7 (some .boolean)) : ∀ (S : St) (x1 : Int32) (x2 : Int32) (x3 : Int32) (x4 : Int32) (x5 : Int32), J8_copy S x1 x2 x3 x4 x5 = some (r, S') → Zj p l e rm8_copy s m args below meth c D cA σ shC 7 (some (.int r)) S' 0 [(0, .ref (σ 0)), (1, .int x1), (2, .int x2), (3, .int x3), (4, .int x4), (5, .int x5)] [] S := by
  intro S x1 x2 x3 x4 x5 h
  rw [J8_copy] at h
  refine z_iload_n (pc := 0) X dX8_copy_0 rfl 2 rfl ?_
  refine z_if_lt (pc := 1) (tgt := 9) X dX8_copy_1 (by decide) h (fun h => ?_) (fun h => ?_)
  · exact z_sub [0, 1, 2, 3, 4, 5] rfl (zz8_copy_9 X  _ _ _ _ _ _ h)
  · refine z_iload (pc := 4) X dX8_copy_4 4 rfl ?_
    refine z_if_ge (pc := 6) (tgt := 13) X dX8_copy_6 (by decide) h (fun h => ?_) (fun h => ?_)
    · refine z_iconst (pc := 13) (v := 0) X dX8_copy_13 (by decide) ?_
      exact z_sub [0, 1, 2, 3, 4, 5] rfl (zz8_copy_14 X  _ _ _ _ _ _ _ h)
    · exact z_sub [0, 1, 2, 3, 4, 5] rfl (zz8_copy_9 X  _ _ _ _ _ _ h)
theorem cc8_copy {l : Launch} {D : va_G} {cA : Nat → ClassId} {σ : Nat → Nat} {tS : Nat} {S S' : St} {x1 : Int32} {x2 : Int32} {x3 : Int32} {x4 : Int32} {x5 : Int32} {r : Int32} (h : J8_copy S x1 x2 x3 x4 x5 = some (r, S')) : zMet l D cA σ shC tS yX8_copy cX8_copy 7 (some .boolean) rm8_copy [.ref (σ 0), .int x1, .int x2, .int x3, .int x4, .int x5] S (some (.int r)) S' := z_met [(0, .ref (σ 0)), (1, .int x1), (2, .int x2), (3, .int x3), (4, .int x4), (5, .int x5)] (by decide +kernel) (Nat.le_of_ble_eq_true rfl) rfl (fun _ _ _ _ _ _ _ _ X => zz8_copy_0 X _ _ _ _ _ _ h)
set_option maxRecDepth 100000 in
set_option maxHeartbeats 4000000 in
theorem zz8_isCopy_30 {S' : St} {r : Int32} (X : zM p s m args meth c D cA σ shC tS RX8 cX8_isCopy 2 (some .boolean)) : ∀ (S : St) (t0 : Int32), J8_isCopy_30 S t0 = some (r, S') → Zj p l e rm8_isCopy s m args below meth c D cA σ shC 2 (some (.int r)) S' 30 [] [.int t0] S := by
  intro S t0 h
  rw [J8_isCopy_30] at h
  exact z_zret X rfl dX8_isCopy_30 h
set_option maxRecDepth 100000 in
set_option maxHeartbeats 4000000 in
theorem zz8_isCopy_0 {S' : St} {r : Int32} (X : zM p s m args meth c D cA σ shC tS RX8 cX8_isCopy 2 (some .boolean)) : ∀ (S : St) (x1 : Int32), J8_isCopy S x1 = some (r, S') → Zj p l e rm8_isCopy s m args below meth c D cA σ shC 2 (some (.int r)) S' 0 [(0, .ref (σ 0)), (1, .int x1)] [] S := by
  intro S x1 h
  rw [J8_isCopy] at h
  refine z_aload_n (pc := 0) X dX8_isCopy_0 rfl 0 rfl ?_
  refine z_get (pc := 1) (v := .int _) X 0 fX8_39 rfl rfl dX8_isCopy_1 rfl ?_
  refine z_if_eq (pc := 4) (tgt := 21) X dX8_isCopy_4 (by decide) h (fun h => ?_) (fun h => ?_)
  · refine z_iload_n (pc := 21) X dX8_isCopy_21 rfl 1 rfl ?_
    refine z_i2l (pc := 22) X dX8_isCopy_22 ?_
    refine z_lconst (pc := 23) (v := 0) X dX8_isCopy_23 (by decide) ?_
    refine z_ldc2 (pc := 24) X dX8_isCopy_24 mw_748 ?_
    refine z_callSi (pc := 27) (rm := rm8_fits) X [.long _, .long _, .long _] sX8_56 rfl rfl (Nat.le_of_ble_eq_true rfl) ⟨rfl, rfl, Nat.le_of_ble_eq_true rfl, Nat.le_of_ble_eq_true rfl⟩ dX8_isCopy_27 h (fun _ _ q => cc8_fits q) (fun r1 S1 h => ?_)
    exact z_sub [] rfl (zz8_isCopy_30 X  _ _ h)
  · refine z_aload_n (pc := 7) X dX8_isCopy_7 rfl 0 rfl ?_
    refine z_get (pc := 8) (v := .ref (σ 17)) X 0 fX8_35 rfl rfl dX8_isCopy_8 rfl ?_
    refine z_get (pc := 11) (v := .ref (σ 18)) X 17 fX8_206 rfl rfl dX8_isCopy_11 rfl ?_
    refine z_iload_n (pc := 14) X dX8_isCopy_14 rfl 1 rfl ?_
    refine z_callVi (pc := 15) (rm := rm1_has) X 18 [.int _] vX8_279 rfl rfl rfl (Nat.le_of_ble_eq_true rfl) ⟨rfl, rfl, Nat.le_of_ble_eq_true rfl, Nat.le_of_ble_eq_true rfl⟩ dX8_isCopy_15 h (fun _ _ q => cc1_has q) (fun r2 S2 h => ?_)
    refine z_goto (pc := 18) (tgt := 30) X dX8_isCopy_18 (by decide) ?_
    exact z_sub [] rfl (zz8_isCopy_30 X  _ _ h)
theorem cc8_isCopy {l : Launch} {D : va_G} {cA : Nat → ClassId} {σ : Nat → Nat} {tS : Nat} {S S' : St} {x1 : Int32} {r : Int32} (h : J8_isCopy S x1 = some (r, S')) : zMet l D cA σ shC tS yX8_isCopy cX8_isCopy 2 (some .boolean) rm8_isCopy [.ref (σ 0), .int x1] S (some (.int r)) S' := z_met [(0, .ref (σ 0)), (1, .int x1)] (by decide +kernel) (Nat.le_of_ble_eq_true rfl) rfl (fun _ _ _ _ _ _ _ _ X => zz8_isCopy_0 X _ _ h)
set_option maxRecDepth 100000 in
set_option maxHeartbeats 4000000 in
theorem zz8_copyLack_37 {S' : St} {r : Int32} (X : zM p s m args meth c D cA σ shC tS RX8 cX8_copyLack 4 (some .int)) : ∀ (S : St) (t0 : Int32), J8_copyLack_37 S t0 = some (r, S') → Zj p l e rm8_copyLack s m args below meth c D cA σ shC 4 (some (.int r)) S' 37 [] [.int t0] S := by
  intro S t0 h
  rw [J8_copyLack_37] at h
  exact z_iret X rfl dX8_copyLack_37 h
set_option maxRecDepth 100000 in
set_option maxHeartbeats 4000000 in
theorem zz8_copyLack_0 {S' : St} {r : Int32} (X : zM p s m args meth c D cA σ shC tS RX8 cX8_copyLack 4 (some .int)) : ∀ (S : St) (x1 : Int32) (x2 : Int32), J8_copyLack S x1 x2 = some (r, S') → Zj p l e rm8_copyLack s m args below meth c D cA σ shC 4 (some (.int r)) S' 0 [(0, .ref (σ 0)), (1, .int x1), (2, .int x2)] [] S := by
  intro S x1 x2 h
  rw [J8_copyLack] at h
  refine z_aload_n (pc := 0) X dX8_copyLack_0 rfl 0 rfl ?_
  refine z_aload_n (pc := 1) X dX8_copyLack_1 rfl 0 rfl ?_
  refine z_iload_n (pc := 2) X dX8_copyLack_2 rfl 1 rfl ?_
  refine z_callVi (pc := 3) (rm := rm8_isCopy) X 0 [.int _] vX8_223 rfl rfl rfl (Nat.le_of_ble_eq_true rfl) ⟨rfl, rfl, Nat.le_of_ble_eq_true rfl, Nat.le_of_ble_eq_true rfl⟩ dX8_copyLack_3 h (fun _ _ q => cc8_isCopy q) (fun r1 S1 h => ?_)
  refine z_callVi (pc := 6) (rm := rm8_runLack) X 0 [.int _] vX8_152 rfl rfl rfl (Nat.le_of_ble_eq_true rfl) ⟨rfl, rfl, Nat.le_of_ble_eq_true rfl, Nat.le_of_ble_eq_true rfl⟩ dX8_copyLack_6 h (fun _ _ q => cc8_runLack q) (fun r2 S2 h => ?_)
  refine z_istore_n (pc := 9) (L' := [(3, .int _), (0, .ref _), (1, .int _), (2, .int _)]) X dX8_copyLack_9 rfl (by decide) rfl ?_
  refine z_iload_n (pc := 10) X dX8_copyLack_10 rfl 0 rfl ?_
  refine z_if_eq (pc := 11) (tgt := 16) X dX8_copyLack_11 (by decide) h (fun h => ?_) (fun h => ?_)
  · refine z_aload_n (pc := 16) X dX8_copyLack_16 rfl 1 rfl ?_
    refine z_get (pc := 17) (v := .ref (σ 17)) X 0 fX8_35 rfl rfl dX8_copyLack_17 rfl ?_
    refine z_get (pc := 20) (v := .ref (σ 18)) X 17 fX8_206 rfl rfl dX8_copyLack_20 rfl ?_
    refine z_get (pc := 23) (v := .ref (σ 20)) X 18 fX8_232 rfl rfl dX8_copyLack_23 rfl ?_
    refine z_iload_n (pc := 26) X dX8_copyLack_26 rfl 2 rfl ?_
    refine z_zald (pc := 27) X 20 rfl dX8_copyLack_27 h (fun h => ?_)
    refine z_iload_n (pc := 28) X dX8_copyLack_28 rfl 3 rfl ?_
    refine z_icmp_ne (pc := 29) (tgt := 36) X dX8_copyLack_29 (by decide) h (fun h => ?_) (fun h => ?_)
    · refine z_iconst (pc := 36) (v := 5) X dX8_copyLack_36 (by decide) ?_
      exact z_sub [] rfl (zz8_copyLack_37 X  _ _ h)
    · refine z_iconst (pc := 32) (v := 0) X dX8_copyLack_32 (by decide) ?_
      refine z_goto (pc := 33) (tgt := 37) X dX8_copyLack_33 (by decide) ?_
      exact z_sub [] rfl (zz8_copyLack_37 X  _ _ h)
  · refine z_iload_n (pc := 14) X dX8_copyLack_14 rfl 0 rfl ?_
    exact z_iret X rfl dX8_copyLack_15 h
theorem cc8_copyLack {l : Launch} {D : va_G} {cA : Nat → ClassId} {σ : Nat → Nat} {tS : Nat} {S S' : St} {x1 : Int32} {x2 : Int32} {r : Int32} (h : J8_copyLack S x1 x2 = some (r, S')) : zMet l D cA σ shC tS yX8_copyLack cX8_copyLack 4 (some .int) rm8_copyLack [.ref (σ 0), .int x1, .int x2] S (some (.int r)) S' := z_met [(0, .ref (σ 0)), (1, .int x1), (2, .int x2)] (by decide +kernel) (Nat.le_of_ble_eq_true rfl) rfl (fun _ _ _ _ _ _ _ _ X => zz8_copyLack_0 X _ _ _ h)
set_option maxRecDepth 100000 in
set_option maxHeartbeats 4000000 in
theorem zz8_done_60 {S' : St} {r : Int32} (X : zM p s m args meth c D cA σ shC tS RX8 cX8_done 3 (some .int)) : ∀ (S : St) (x1 : Int32) (t0 : Int32), J8_done_60 S x1 t0 = some (r, S') → Zj p l e rm8_done s m args below meth c D cA σ shC 3 (some (.int r)) S' 60 [(0, .ref (σ 0)), (1, .int x1)] [.int t0, .ref (σ 0)] S := by
  intro S x1 t0 h
  rw [J8_done_60] at h
  refine z_callVi (pc := 60) (rm := rm8_passes) X 0 [.int _] vX8_62 rfl rfl rfl (Nat.le_of_ble_eq_true rfl) ⟨rfl, rfl, Nat.le_of_ble_eq_true rfl, Nat.le_of_ble_eq_true rfl⟩ dX8_done_60 h (fun _ _ q => cc8_passes q) (fun r1 S1 h => ?_)
  refine z_if_ne (pc := 63) (tgt := 68) X dX8_done_63 (by decide) h (fun h => ?_) (fun h => ?_)
  · refine z_aload_n (pc := 68) X dX8_done_68 rfl 0 rfl ?_
    refine z_get (pc := 69) (v := .ref (σ 17)) X 0 fX8_35 rfl rfl dX8_done_69 rfl ?_
    refine z_get (pc := 72) (v := .ref (σ 29)) X 17 fX8_163 rfl rfl dX8_done_72 rfl ?_
    refine z_get (pc := 75) (v := .ref (σ 30)) X 29 fX8_243 rfl rfl dX8_done_75 rfl ?_
    refine z_iload_n (pc := 78) X dX8_done_78 rfl 1 rfl ?_
    refine z_iconst (pc := 79) (v := 1) X dX8_done_79 (by decide) ?_
    refine z_isub (pc := 80) X dX8_done_80 ?_
    refine z_iald (pc := 81) X 30 rfl dX8_done_81 h (fun h => ?_)
    exact z_iret X rfl dX8_done_82 h
  · refine z_iconst (pc := 66) (v := -1) X dX8_done_66 (by decide) ?_
    exact z_iret X rfl dX8_done_67 h
set_option maxRecDepth 100000 in
set_option maxHeartbeats 4000000 in
theorem zz8_done_59 {S' : St} {r : Int32} (X : zM p s m args meth c D cA σ shC tS RX8 cX8_done 3 (some .int)) : ∀ (S : St) (x1 : Int32) (x2 : Int32), J8_done_59 S x1 x2 = some (r, S') → Zj p l e rm8_done s m args below meth c D cA σ shC 3 (some (.int r)) S' 59 [(0, .ref (σ 0)), (1, .int x1), (2, .int x2)] [.ref (σ 0)] S := by
  intro S x1 x2 h
  rw [J8_done_59] at h
  refine z_iload_n (pc := 59) X dX8_done_59 rfl 2 rfl ?_
  exact z_sub [0, 1] rfl (zz8_done_60 X  _ _ _ h)
set_option maxRecDepth 100000 in
set_option maxHeartbeats 4000000 in
theorem zz8_done_28 {S' : St} {r : Int32} (X : zM p s m args meth c D cA σ shC tS RX8 cX8_done 3 (some .int)) : ∀ (S : St) (x1 : Int32) (t0 : Int64) (t1 : Int64) (t2 : Int64), J8_done_28 S x1 t0 t1 t2 = some (r, S') → Zj p l e rm8_done s m args below meth c D cA σ shC 3 (some (.int r)) S' 28 [(0, .ref (σ 0)), (1, .int x1)] [.long t0, .long t1, .long t2, .ref (σ 0)] S := by
  intro S x1 t0 t1 t2 h
  rw [J8_done_28] at h
  refine z_callSi (pc := 28) (rm := rm8_fits) X [.long _, .long _, .long _] sX8_56 rfl rfl (Nat.le_of_ble_eq_true rfl) ⟨rfl, rfl, Nat.le_of_ble_eq_true rfl, Nat.le_of_ble_eq_true rfl⟩ dX8_done_28 h (fun _ _ q => cc8_fits q) (fun r1 S1 h => ?_)
  refine z_callVi (pc := 31) (rm := rm8_runLack) X 0 [.int _] vX8_152 rfl rfl rfl (Nat.le_of_ble_eq_true rfl) ⟨rfl, rfl, Nat.le_of_ble_eq_true rfl, Nat.le_of_ble_eq_true rfl⟩ dX8_done_31 h (fun _ _ q => cc8_runLack q) (fun r2 S2 h => ?_)
  refine z_istore_n (pc := 34) (L' := [(2, .int _), (0, .ref _), (1, .int _)]) X dX8_done_34 rfl (by decide) rfl ?_
  refine z_aload_n (pc := 35) X dX8_done_35 rfl 1 rfl ?_
  refine z_iload_n (pc := 36) X dX8_done_36 rfl 0 rfl ?_
  refine z_if_ne (pc := 37) (tgt := 59) X dX8_done_37 (by decide) h (fun h => ?_) (fun h => ?_)
  · exact z_sub [1, 2, 0] rfl (zz8_done_59 X  _ _ _ h)
  · refine z_aload_n (pc := 40) X dX8_done_40 rfl 1 rfl ?_
    refine z_get (pc := 41) (v := .ref (σ 17)) X 0 fX8_35 rfl rfl dX8_done_41 rfl ?_
    refine z_get (pc := 44) (v := .ref (σ 29)) X 17 fX8_163 rfl rfl dX8_done_44 rfl ?_
    refine z_iload_n (pc := 47) X dX8_done_47 rfl 2 rfl ?_
    refine z_callVi (pc := 48) (rm := rm7_isDone) X 29 [.int _] vX8_240 rfl rfl rfl (Nat.le_of_ble_eq_true rfl) ⟨rfl, rfl, Nat.le_of_ble_eq_true rfl, Nat.le_of_ble_eq_true rfl⟩ dX8_done_48 h (fun _ _ q => cc7_isDone q) (fun r3 S3 h => ?_)
    refine z_if_ne (pc := 51) (tgt := 59) X dX8_done_51 (by decide) h (fun h => ?_) (fun h => ?_)
    · exact z_sub [1, 2, 0] rfl (zz8_done_59 X  _ _ _ h)
    · refine z_bipush (pc := 54) (v := 7) X dX8_done_54 (by decide) ?_
      refine z_goto (pc := 56) (tgt := 60) X dX8_done_56 (by decide) ?_
      exact z_sub [1, 2] rfl (zz8_done_60 X  _ _ _ h)
set_option maxRecDepth 100000 in
set_option maxHeartbeats 4000000 in
theorem zz8_done_0 {S' : St} {r : Int32} (X : zM p s m args meth c D cA σ shC tS RX8 cX8_done 3 (some .int)) : ∀ (S : St) (x1 : Int32), J8_done S x1 = some (r, S') → Zj p l e rm8_done s m args below meth c D cA σ shC 3 (some (.int r)) S' 0 [(0, .ref (σ 0)), (1, .int x1)] [] S := by
  intro S x1 h
  rw [J8_done] at h
  refine z_aload_n (pc := 0) X dX8_done_0 rfl 0 rfl ?_
  refine z_iload_n (pc := 1) X dX8_done_1 rfl 1 rfl ?_
  refine z_i2l (pc := 2) X dX8_done_2 ?_
  refine z_lconst (pc := 3) (v := 1) X dX8_done_3 (by decide) ?_
  refine z_aload_n (pc := 4) X dX8_done_4 rfl 0 rfl ?_
  refine z_get (pc := 5) (v := .int _) X 0 fX8_39 rfl rfl dX8_done_5 rfl ?_
  refine z_if_eq (pc := 8) (tgt := 25) X dX8_done_8 (by decide) h (fun h => ?_) (fun h => ?_)
  · refine z_ldc2 (pc := 25) X dX8_done_25 mw_787 ?_
    exact z_sub [0, 1] rfl (zz8_done_28 X  _ _ _ _ _ h)
  · refine z_aload_n (pc := 11) X dX8_done_11 rfl 0 rfl ?_
    refine z_get (pc := 12) (v := .ref (σ 17)) X 0 fX8_35 rfl rfl dX8_done_12 rfl ?_
    refine z_get (pc := 15) (v := .ref (σ 29)) X 17 fX8_163 rfl rfl dX8_done_15 rfl ?_
    refine z_get (pc := 18) (v := .int _) X 29 fX8_167 rfl rfl dX8_done_18 rfl ?_
    refine z_i2l (pc := 21) X dX8_done_21 ?_
    refine z_goto (pc := 22) (tgt := 28) X dX8_done_22 (by decide) ?_
    exact z_sub [0, 1] rfl (zz8_done_28 X  _ _ _ _ _ h)
theorem cc8_done {l : Launch} {D : va_G} {cA : Nat → ClassId} {σ : Nat → Nat} {tS : Nat} {S S' : St} {x1 : Int32} {r : Int32} (h : J8_done S x1 = some (r, S')) : zMet l D cA σ shC tS yX8_done cX8_done 3 (some .int) rm8_done [.ref (σ 0), .int x1] S (some (.int r)) S' := z_met [(0, .ref (σ 0)), (1, .int x1)] (by decide +kernel) (Nat.le_of_ble_eq_true rfl) rfl (fun _ _ _ _ _ _ _ _ X => zz8_done_0 X _ _ h)
set_option maxRecDepth 100000 in
set_option maxHeartbeats 4000000 in
theorem zz8_down_0 {S' : St} {r : Int32} (X : zM p s m args meth c D cA σ shC tS RX8 cX8_down 3 (some .boolean)) : ∀ (S : St) (x1 : Int32) (x2 : Int32), J8_down S x1 x2 = some (r, S') → Zj p l e rm8_down s m args below meth c D cA σ shC 3 (some (.int r)) S' 0 [(0, .ref (σ 0)), (1, .int x1), (2, .int x2)] [] S := by
  intro S x1 x2 h
  rw [J8_down] at h
  refine z_aload_n (pc := 0) X dX8_down_0 rfl 0 rfl ?_
  refine z_aload_n (pc := 1) X dX8_down_1 rfl 0 rfl ?_
  refine z_iload_n (pc := 2) X dX8_down_2 rfl 1 rfl ?_
  refine z_iconst (pc := 3) (v := 1) X dX8_down_3 (by decide) ?_
  refine z_callVi (pc := 4) (rm := rm8_copyLack) X 0 [.int _, .int _] vX8_202 rfl rfl rfl (Nat.le_of_ble_eq_true rfl) ⟨rfl, rfl, Nat.le_of_ble_eq_true rfl, Nat.le_of_ble_eq_true rfl⟩ dX8_down_4 h (fun _ _ q => cc8_copyLack q) (fun r1 S1 h => ?_)
  refine z_callVi (pc := 7) (rm := rm8_passes) X 0 [.int _] vX8_62 rfl rfl rfl (Nat.le_of_ble_eq_true rfl) ⟨rfl, rfl, Nat.le_of_ble_eq_true rfl, Nat.le_of_ble_eq_true rfl⟩ dX8_down_7 h (fun _ _ q => cc8_passes q) (fun r2 S2 h => ?_)
  refine z_if_ne (pc := 10) (tgt := 15) X dX8_down_10 (by decide) h (fun h => ?_) (fun h => ?_)
  · refine z_aload_n (pc := 15) X dX8_down_15 rfl 0 rfl ?_
    refine z_get (pc := 16) (v := .ref (σ 17)) X 0 fX8_35 rfl rfl dX8_down_16 rfl ?_
    refine z_get (pc := 19) (v := .ref (σ 18)) X 17 fX8_206 rfl rfl dX8_down_19 rfl ?_
    refine z_iload_n (pc := 22) X dX8_down_22 rfl 1 rfl ?_
    refine z_iload_n (pc := 23) X dX8_down_23 rfl 2 rfl ?_
    refine z_callVv (pc := 24) (rm := rm1_fall) X 18 [.int _, .int _] vX8_210 rfl rfl rfl (Nat.le_of_ble_eq_true rfl) ⟨rfl, rfl, Nat.le_of_ble_eq_true rfl, Nat.le_of_ble_eq_true rfl⟩ dX8_down_24 h (fun _ _ q => cc1_fall q) (fun _ S3 h => ?_)
    refine z_iconst (pc := 27) (v := 1) X dX8_down_27 (by decide) ?_
    exact z_zret X rfl dX8_down_28 h
  · refine z_iconst (pc := 13) (v := 0) X dX8_down_13 (by decide) ?_
    exact z_zret X rfl dX8_down_14 h
theorem cc8_down {l : Launch} {D : va_G} {cA : Nat → ClassId} {σ : Nat → Nat} {tS : Nat} {S S' : St} {x1 : Int32} {x2 : Int32} {r : Int32} (h : J8_down S x1 x2 = some (r, S')) : zMet l D cA σ shC tS yX8_down cX8_down 3 (some .boolean) rm8_down [.ref (σ 0), .int x1, .int x2] S (some (.int r)) S' := z_met [(0, .ref (σ 0)), (1, .int x1), (2, .int x2)] (by decide +kernel) (Nat.le_of_ble_eq_true rfl) rfl (fun _ _ _ _ _ _ _ _ X => zz8_down_0 X _ _ _ h)
set_option maxRecDepth 100000 in
set_option maxHeartbeats 4000000 in
theorem zz8_drop_0 {S' : St} {r : Int32} (X : zM p s m args meth c D cA σ shC tS RX8 cX8_drop 2 (some .boolean)) : ∀ (S : St) (x1 : Int32), J8_drop S x1 = some (r, S') → Zj p l e rm8_drop s m args below meth c D cA σ shC 2 (some (.int r)) S' 0 [(0, .ref (σ 0)), (1, .int x1)] [] S := by
  intro S x1 h
  rw [J8_drop] at h
  refine z_aload_n (pc := 0) X dX8_drop_0 rfl 0 rfl ?_
  refine z_aload_n (pc := 1) X dX8_drop_1 rfl 0 rfl ?_
  refine z_get (pc := 2) (v := .ref (σ 1)) X 0 fX8_10 rfl rfl dX8_drop_2 rfl ?_
  refine z_iload_n (pc := 5) X dX8_drop_5 rfl 1 rfl ?_
  refine z_iconst (pc := 6) (v := 0) X dX8_drop_6 (by decide) ?_
  refine z_iconst (pc := 7) (v := 0) X dX8_drop_7 (by decide) ?_
  refine z_callVi (pc := 8) (rm := rm6_lack) X 1 [.int _, .int _, .int _] vX8_70 rfl rfl rfl (Nat.le_of_ble_eq_true rfl) ⟨rfl, rfl, Nat.le_of_ble_eq_true rfl, Nat.le_of_ble_eq_true rfl⟩ dX8_drop_8 h (fun _ _ q => cc6_lack q) (fun r1 S1 h => ?_)
  refine z_callVi (pc := 11) (rm := rm8_passes) X 0 [.int _] vX8_62 rfl rfl rfl (Nat.le_of_ble_eq_true rfl) ⟨rfl, rfl, Nat.le_of_ble_eq_true rfl, Nat.le_of_ble_eq_true rfl⟩ dX8_drop_11 h (fun _ _ q => cc8_passes q) (fun r2 S2 h => ?_)
  refine z_if_ne (pc := 14) (tgt := 19) X dX8_drop_14 (by decide) h (fun h => ?_) (fun h => ?_)
  · refine z_aload_n (pc := 19) X dX8_drop_19 rfl 0 rfl ?_
    refine z_get (pc := 20) (v := .ref (σ 1)) X 0 fX8_10 rfl rfl dX8_drop_20 rfl ?_
    refine z_iload_n (pc := 23) X dX8_drop_23 rfl 1 rfl ?_
    refine z_callVv (pc := 24) (rm := rm6_takeAway) X 1 [.int _] vX8_92 rfl rfl rfl (Nat.le_of_ble_eq_true rfl) ⟨rfl, rfl, Nat.le_of_ble_eq_true rfl, Nat.le_of_ble_eq_true rfl⟩ dX8_drop_24 h (fun _ _ q => cc6_takeAway q) (fun _ S3 h => ?_)
    refine z_iconst (pc := 27) (v := 1) X dX8_drop_27 (by decide) ?_
    exact z_zret X rfl dX8_drop_28 h
  · refine z_iconst (pc := 17) (v := 0) X dX8_drop_17 (by decide) ?_
    exact z_zret X rfl dX8_drop_18 h
theorem cc8_drop {l : Launch} {D : va_G} {cA : Nat → ClassId} {σ : Nat → Nat} {tS : Nat} {S S' : St} {x1 : Int32} {r : Int32} (h : J8_drop S x1 = some (r, S')) : zMet l D cA σ shC tS yX8_drop cX8_drop 2 (some .boolean) rm8_drop [.ref (σ 0), .int x1] S (some (.int r)) S' := z_met [(0, .ref (σ 0)), (1, .int x1)] (by decide +kernel) (Nat.le_of_ble_eq_true rfl) rfl (fun _ _ _ _ _ _ _ _ X => zz8_drop_0 X _ _ h)
set_option maxRecDepth 100000 in
set_option maxHeartbeats 4000000 in
theorem zz8_gap_18 {S' : St} {r : Int32} (X : zM p s m args meth c D cA σ shC tS RX8 cX8_gap 2 (some .boolean)) : ∀ (S : St) (x1 : Int32) (t0 : Int32), J8_gap_18 S x1 t0 = some (r, S') → Zj p l e rm8_gap s m args below meth c D cA σ shC 2 (some (.int r)) S' 18 [(0, .ref (σ 0)), (1, .int x1)] [.int t0, .ref (σ 0)] S := by
  intro S x1 t0 h
  rw [J8_gap_18] at h
  refine z_callVi (pc := 18) (rm := rm8_passes) X 0 [.int _] vX8_62 rfl rfl rfl (Nat.le_of_ble_eq_true rfl) ⟨rfl, rfl, Nat.le_of_ble_eq_true rfl, Nat.le_of_ble_eq_true rfl⟩ dX8_gap_18 h (fun _ _ q => cc8_passes q) (fun r1 S1 h => ?_)
  refine z_if_ne (pc := 21) (tgt := 26) X dX8_gap_21 (by decide) h (fun h => ?_) (fun h => ?_)
  · refine z_aload_n (pc := 26) X dX8_gap_26 rfl 0 rfl ?_
    refine z_get (pc := 27) (v := .ref (σ 5)) X 0 fX8_19 rfl rfl dX8_gap_27 rfl ?_
    refine z_iload_n (pc := 30) X dX8_gap_30 rfl 1 rfl ?_
    refine z_putI (pc := 31) X 5 gX8_109 rfl rfl dX8_gap_31 ?_
    refine z_let h (fun h => ?_)
    refine z_iconst (pc := 34) (v := 1) X dX8_gap_34 (by decide) ?_
    exact z_zret X rfl dX8_gap_35 h
  · refine z_iconst (pc := 24) (v := 0) X dX8_gap_24 (by decide) ?_
    exact z_zret X rfl dX8_gap_25 h
set_option maxRecDepth 100000 in
set_option maxHeartbeats 4000000 in
theorem zz8_gap_0 {S' : St} {r : Int32} (X : zM p s m args meth c D cA σ shC tS RX8 cX8_gap 2 (some .boolean)) : ∀ (S : St) (x1 : Int32), J8_gap S x1 = some (r, S') → Zj p l e rm8_gap s m args below meth c D cA σ shC 2 (some (.int r)) S' 0 [(0, .ref (σ 0)), (1, .int x1)] [] S := by
  intro S x1 h
  rw [J8_gap] at h
  refine z_aload_n (pc := 0) X dX8_gap_0 rfl 0 rfl ?_
  refine z_iload_n (pc := 1) X dX8_gap_1 rfl 1 rfl ?_
  refine z_i2l (pc := 2) X dX8_gap_2 ?_
  refine z_lconst (pc := 3) (v := 0) X dX8_gap_3 (by decide) ?_
  refine z_ldc2 (pc := 4) X dX8_gap_4 mw_467 ?_
  refine z_callSi (pc := 7) (rm := rm8_fits) X [.long _, .long _, .long _] sX8_56 rfl rfl (Nat.le_of_ble_eq_true rfl) ⟨rfl, rfl, Nat.le_of_ble_eq_true rfl, Nat.le_of_ble_eq_true rfl⟩ dX8_gap_7 h (fun _ _ q => cc8_fits q) (fun r1 S1 h => ?_)
  refine z_if_eq (pc := 10) (tgt := 17) X dX8_gap_10 (by decide) h (fun h => ?_) (fun h => ?_)
  · refine z_iconst (pc := 17) (v := 1) X dX8_gap_17 (by decide) ?_
    exact z_sub [0, 1] rfl (zz8_gap_18 X  _ _ _ h)
  · refine z_iconst (pc := 13) (v := 0) X dX8_gap_13 (by decide) ?_
    refine z_goto (pc := 14) (tgt := 18) X dX8_gap_14 (by decide) ?_
    exact z_sub [0, 1] rfl (zz8_gap_18 X  _ _ _ h)
theorem cc8_gap {l : Launch} {D : va_G} {cA : Nat → ClassId} {σ : Nat → Nat} {tS : Nat} {S S' : St} {x1 : Int32} {r : Int32} (h : J8_gap S x1 = some (r, S')) : zMet l D cA σ shC tS yX8_gap cX8_gap 2 (some .boolean) rm8_gap [.ref (σ 0), .int x1] S (some (.int r)) S' := z_met [(0, .ref (σ 0)), (1, .int x1)] (by decide +kernel) (Nat.le_of_ble_eq_true rfl) rfl (fun _ _ _ _ _ _ _ _ X => zz8_gap_0 X _ _ h)
set_option maxRecDepth 100000 in
set_option maxHeartbeats 4000000 in
theorem zz8_go_0 {S' : St} {r : Int32} (X : zM p s m args meth c D cA σ shC tS RX8 cX8_go 2 (some .int)) : ∀ (S : St) (x1 : Int32), J8_go S x1 = some (r, S') → Zj p l e rm8_go s m args below meth c D cA σ shC 2 (some (.int r)) S' 0 [(0, .ref (σ 0)), (1, .int x1)] [] S := by
  intro S x1 h
  rw [J8_go] at h
  refine z_aload_n (pc := 0) X dX8_go_0 rfl 0 rfl ?_
  refine z_aload_n (pc := 1) X dX8_go_1 rfl 0 rfl ?_
  refine z_iload_n (pc := 2) X dX8_go_2 rfl 1 rfl ?_
  refine z_i2l (pc := 3) X dX8_go_3 ?_
  refine z_lconst (pc := 4) (v := 0) X dX8_go_4 (by decide) ?_
  refine z_ldc2 (pc := 5) X dX8_go_5 mw_734 ?_
  refine z_callSi (pc := 8) (rm := rm8_fits) X [.long _, .long _, .long _] sX8_56 rfl rfl (Nat.le_of_ble_eq_true rfl) ⟨rfl, rfl, Nat.le_of_ble_eq_true rfl, Nat.le_of_ble_eq_true rfl⟩ dX8_go_8 h (fun _ _ q => cc8_fits q) (fun r1 S1 h => ?_)
  refine z_callVi (pc := 11) (rm := rm8_runLack) X 0 [.int _] vX8_152 rfl rfl rfl (Nat.le_of_ble_eq_true rfl) ⟨rfl, rfl, Nat.le_of_ble_eq_true rfl, Nat.le_of_ble_eq_true rfl⟩ dX8_go_11 h (fun _ _ q => cc8_runLack q) (fun r2 S2 h => ?_)
  refine z_callVi (pc := 14) (rm := rm8_passes) X 0 [.int _] vX8_62 rfl rfl rfl (Nat.le_of_ble_eq_true rfl) ⟨rfl, rfl, Nat.le_of_ble_eq_true rfl, Nat.le_of_ble_eq_true rfl⟩ dX8_go_14 h (fun _ _ q => cc8_passes q) (fun r3 S3 h => ?_)
  refine z_if_ne (pc := 17) (tgt := 22) X dX8_go_17 (by decide) h (fun h => ?_) (fun h => ?_)
  · refine z_aload_n (pc := 22) X dX8_go_22 rfl 0 rfl ?_
    refine z_get (pc := 23) (v := .ref (σ 17)) X 0 fX8_35 rfl rfl dX8_go_23 rfl ?_
    refine z_aload_n (pc := 26) X dX8_go_26 rfl 0 rfl ?_
    refine z_get (pc := 27) (v := .ref (σ 17)) X 0 fX8_35 rfl rfl dX8_go_27 rfl ?_
    refine z_get (pc := 30) (v := .int _) X 17 fX8_185 rfl rfl dX8_go_30 rfl ?_
    refine z_iload_n (pc := 33) X dX8_go_33 rfl 1 rfl ?_
    refine z_iadd (pc := 34) X dX8_go_34 ?_
    refine z_callVv (pc := 35) (rm := rm5_workOff) X 17 [.int _] vX8_188 rfl rfl rfl (Nat.le_of_ble_eq_true rfl) ⟨rfl, rfl, Nat.le_of_ble_eq_true rfl, Nat.le_of_ble_eq_true rfl⟩ dX8_go_35 h (fun _ _ q => cc5_workOff q) (fun _ S4 h => ?_)
    refine z_aload_n (pc := 38) X dX8_go_38 rfl 0 rfl ?_
    refine z_get (pc := 39) (v := .ref (σ 17)) X 0 fX8_35 rfl rfl dX8_go_39 rfl ?_
    refine z_get (pc := 42) (v := .int _) X 17 fX8_185 rfl rfl dX8_go_42 rfl ?_
    exact z_iret X rfl dX8_go_45 h
  · refine z_iconst (pc := 20) (v := -1) X dX8_go_20 (by decide) ?_
    exact z_iret X rfl dX8_go_21 h
theorem cc8_go {l : Launch} {D : va_G} {cA : Nat → ClassId} {σ : Nat → Nat} {tS : Nat} {S S' : St} {x1 : Int32} {r : Int32} (h : J8_go S x1 = some (r, S')) : zMet l D cA σ shC tS yX8_go cX8_go 2 (some .int) rm8_go [.ref (σ 0), .int x1] S (some (.int r)) S' := z_met [(0, .ref (σ 0)), (1, .int x1)] (by decide +kernel) (Nat.le_of_ble_eq_true rfl) rfl (fun _ _ _ _ _ _ _ _ X => zz8_go_0 X _ _ h)
set_option maxRecDepth 100000 in
set_option maxHeartbeats 4000000 in
theorem zz8_got_82 {S' : St} {r : Int32} (X : zM p s m args meth c D cA σ shC tS RX8 cX8_got 4 (some .int)) : ∀ (S : St) (x1 : Int32) (x2 : Int32) (t0 : Int32), J8_got_82 S x1 x2 t0 = some (r, S') → Zj p l e rm8_got s m args below meth c D cA σ shC 4 (some (.int r)) S' 82 [(0, .ref (σ 0)), (1, .int x1), (2, .int x2)] [.int t0, .ref (σ 0)] S := by
  intro S x1 x2 t0 h
  rw [J8_got_82] at h
  refine z_callVi (pc := 82) (rm := rm8_passes) X 0 [.int _] vX8_62 rfl rfl rfl (Nat.le_of_ble_eq_true rfl) ⟨rfl, rfl, Nat.le_of_ble_eq_true rfl, Nat.le_of_ble_eq_true rfl⟩ dX8_got_82 h (fun _ _ q => cc8_passes q) (fun r1 S1 h => ?_)
  refine z_if_ne (pc := 85) (tgt := 90) X dX8_got_85 (by decide) h (fun h => ?_) (fun h => ?_)
  · refine z_iload_n (pc := 90) X dX8_got_90 rfl 2 rfl ?_
    refine z_arm h (fun hx h => ?_) (fun hx0 h => ?_)
    · refine z_ls (pc := 91) (off := 25) (tgt := 116) X dX8_got_91 (by decide) (by rw [hx]; first | done | rfl) (by decide) ?_
      refine z_aload_n (pc := 116) X dX8_got_116 rfl 0 rfl ?_
      refine z_get (pc := 117) (v := .ref (σ 17)) X 0 fX8_35 rfl rfl dX8_got_117 rfl ?_
      refine z_get (pc := 120) (v := .ref (σ 32)) X 17 fX8_191 rfl rfl dX8_got_120 rfl ?_
      refine z_get (pc := 123) (v := .ref (σ 36)) X 32 fX8_249 rfl rfl dX8_got_123 rfl ?_
      refine z_iload_n (pc := 126) X dX8_got_126 rfl 1 rfl ?_
      refine z_iald (pc := 127) X 36 rfl dX8_got_127 h (fun h => ?_)
      exact z_iret X rfl dX8_got_128 h
    · skip
      refine z_arm h (fun hx h => ?_) (fun hx1 h => ?_)
      · refine z_ls (pc := 91) (off := 38) (tgt := 129) X dX8_got_91 (by decide) (by rw [hx]; first | done | rfl) (by decide) ?_
        refine z_aload_n (pc := 129) X dX8_got_129 rfl 0 rfl ?_
        refine z_get (pc := 130) (v := .ref (σ 17)) X 0 fX8_35 rfl rfl dX8_got_130 rfl ?_
        refine z_get (pc := 133) (v := .ref (σ 32)) X 17 fX8_191 rfl rfl dX8_got_133 rfl ?_
        refine z_get (pc := 136) (v := .ref (σ 37)) X 32 fX8_250 rfl rfl dX8_got_136 rfl ?_
        refine z_iload_n (pc := 139) X dX8_got_139 rfl 1 rfl ?_
        refine z_iald (pc := 140) X 37 rfl dX8_got_140 h (fun h => ?_)
        exact z_iret X rfl dX8_got_141 h
      · skip
        refine z_ls (pc := 91) (off := 51) (tgt := 142) X dX8_got_91 (by decide) (by simp only [lv_osw hx0 (a := 0) (by decide), lv_osw hx1 (a := 1) (by decide)]; rfl) (by decide) ?_
        refine z_aload_n (pc := 142) X dX8_got_142 rfl 0 rfl ?_
        refine z_get (pc := 143) (v := .ref (σ 17)) X 0 fX8_35 rfl rfl dX8_got_143 rfl ?_
        refine z_get (pc := 146) (v := .ref (σ 32)) X 17 fX8_191 rfl rfl dX8_got_146 rfl ?_
        refine z_get (pc := 149) (v := .ref (σ 38)) X 32 fX8_253 rfl rfl dX8_got_149 rfl ?_
        refine z_iload_n (pc := 152) X dX8_got_152 rfl 1 rfl ?_
        refine z_iald (pc := 153) X 38 rfl dX8_got_153 h (fun h => ?_)
        exact z_iret X rfl dX8_got_154 h
  · refine z_iconst (pc := 88) (v := -1) X dX8_got_88 (by decide) ?_
    exact z_iret X rfl dX8_got_89 h
set_option maxRecDepth 100000 in
set_option maxHeartbeats 4000000 in
theorem zz8_got_81 {S' : St} {r : Int32} (X : zM p s m args meth c D cA σ shC tS RX8 cX8_got 4 (some .int)) : ∀ (S : St) (x1 : Int32) (x2 : Int32) (x3 : Int32), J8_got_81 S x1 x2 x3 = some (r, S') → Zj p l e rm8_got s m args below meth c D cA σ shC 4 (some (.int r)) S' 81 [(0, .ref (σ 0)), (1, .int x1), (2, .int x2), (3, .int x3)] [.ref (σ 0)] S := by
  intro S x1 x2 x3 h
  rw [J8_got_81] at h
  refine z_iload_n (pc := 81) X dX8_got_81 rfl 3 rfl ?_
  exact z_sub [0, 1, 2] rfl (zz8_got_82 X  _ _ _ _ h)
set_option maxRecDepth 100000 in
set_option maxHeartbeats 4000000 in
theorem zz8_got_53 {S' : St} {r : Int32} (X : zM p s m args meth c D cA σ shC tS RX8 cX8_got 4 (some .int)) : ∀ (S : St) (x1 : Int32) (x2 : Int32) (t0 : Int32), J8_got_53 S x1 x2 t0 = some (r, S') → Zj p l e rm8_got s m args below meth c D cA σ shC 4 (some (.int r)) S' 53 [(0, .ref (σ 0)), (1, .int x1), (2, .int x2)] [.int t0, .ref (σ 0)] S := by
  intro S x1 x2 t0 h
  rw [J8_got_53] at h
  refine z_callVi (pc := 53) (rm := rm8_runLack) X 0 [.int _] vX8_152 rfl rfl rfl (Nat.le_of_ble_eq_true rfl) ⟨rfl, rfl, Nat.le_of_ble_eq_true rfl, Nat.le_of_ble_eq_true rfl⟩ dX8_got_53 h (fun _ _ q => cc8_runLack q) (fun r1 S1 h => ?_)
  refine z_istore_n (pc := 56) (L' := [(3, .int _), (0, .ref _), (1, .int _), (2, .int _)]) X dX8_got_56 rfl (by decide) rfl ?_
  refine z_aload_n (pc := 57) X dX8_got_57 rfl 1 rfl ?_
  refine z_iload_n (pc := 58) X dX8_got_58 rfl 0 rfl ?_
  refine z_if_ne (pc := 59) (tgt := 81) X dX8_got_59 (by decide) h (fun h => ?_) (fun h => ?_)
  · exact z_sub [1, 2, 3, 0] rfl (zz8_got_81 X  _ _ _ _ h)
  · refine z_aload_n (pc := 62) X dX8_got_62 rfl 1 rfl ?_
    refine z_get (pc := 63) (v := .ref (σ 17)) X 0 fX8_35 rfl rfl dX8_got_63 rfl ?_
    refine z_get (pc := 66) (v := .ref (σ 32)) X 17 fX8_191 rfl rfl dX8_got_66 rfl ?_
    refine z_iload_n (pc := 69) X dX8_got_69 rfl 2 rfl ?_
    refine z_callVi (pc := 70) (rm := rm4_isDone) X 32 [.int _] vX8_248 rfl rfl rfl (Nat.le_of_ble_eq_true rfl) ⟨rfl, rfl, Nat.le_of_ble_eq_true rfl, Nat.le_of_ble_eq_true rfl⟩ dX8_got_70 h (fun _ _ q => cc4_isDone q) (fun r2 S2 h => ?_)
    refine z_if_ne (pc := 73) (tgt := 81) X dX8_got_73 (by decide) h (fun h => ?_) (fun h => ?_)
    · exact z_sub [1, 2, 3, 0] rfl (zz8_got_81 X  _ _ _ _ h)
    · refine z_bipush (pc := 76) (v := 7) X dX8_got_76 (by decide) ?_
      refine z_goto (pc := 78) (tgt := 82) X dX8_got_78 (by decide) ?_
      exact z_sub [1, 2, 3] rfl (zz8_got_82 X  _ _ _ _ h)
set_option maxRecDepth 100000 in
set_option maxHeartbeats 4000000 in
theorem zz8_got_52 {S' : St} {r : Int32} (X : zM p s m args meth c D cA σ shC tS RX8 cX8_got 4 (some .int)) : ∀ (S : St) (x1 : Int32) (x2 : Int32), J8_got_52 S x1 x2 = some (r, S') → Zj p l e rm8_got s m args below meth c D cA σ shC 4 (some (.int r)) S' 52 [(0, .ref (σ 0)), (1, .int x1), (2, .int x2)] [.ref (σ 0)] S := by
  intro S x1 x2 h
  rw [J8_got_52] at h
  refine z_iconst (pc := 52) (v := 0) X dX8_got_52 (by decide) ?_
  exact z_sub [0, 1, 2] rfl (zz8_got_53 X  _ _ _ _ h)
set_option maxRecDepth 100000 in
set_option maxHeartbeats 4000000 in
theorem zz8_got_30 {S' : St} {r : Int32} (X : zM p s m args meth c D cA σ shC tS RX8 cX8_got 4 (some .int)) : ∀ (S : St) (x1 : Int32) (x2 : Int32) (t0 : Int64) (t1 : Int64) (t2 : Int64), J8_got_30 S x1 x2 t0 t1 t2 = some (r, S') → Zj p l e rm8_got s m args below meth c D cA σ shC 4 (some (.int r)) S' 30 [(0, .ref (σ 0)), (1, .int x1), (2, .int x2)] [.long t0, .long t1, .long t2, .ref (σ 0)] S := by
  intro S x1 x2 t0 t1 t2 h
  rw [J8_got_30] at h
  refine z_callSi (pc := 30) (rm := rm8_fits) X [.long _, .long _, .long _] sX8_56 rfl rfl (Nat.le_of_ble_eq_true rfl) ⟨rfl, rfl, Nat.le_of_ble_eq_true rfl, Nat.le_of_ble_eq_true rfl⟩ dX8_got_30 h (fun _ _ q => cc8_fits q) (fun r1 S1 h => ?_)
  refine z_if_eq (pc := 33) (tgt := 52) X dX8_got_33 (by decide) h (fun h => ?_) (fun h => ?_)
  · exact z_sub [0, 1, 2] rfl (zz8_got_52 X  _ _ _ h)
  · refine z_iload_n (pc := 36) X dX8_got_36 rfl 2 rfl ?_
    refine z_i2l (pc := 37) X dX8_got_37 ?_
    refine z_lconst (pc := 38) (v := 0) X dX8_got_38 (by decide) ?_
    refine z_ldc2 (pc := 39) X dX8_got_39 mw_781 ?_
    refine z_callSi (pc := 42) (rm := rm8_fits) X [.long _, .long _, .long _] sX8_56 rfl rfl (Nat.le_of_ble_eq_true rfl) ⟨rfl, rfl, Nat.le_of_ble_eq_true rfl, Nat.le_of_ble_eq_true rfl⟩ dX8_got_42 h (fun _ _ q => cc8_fits q) (fun r2 S2 h => ?_)
    refine z_if_eq (pc := 45) (tgt := 52) X dX8_got_45 (by decide) h (fun h => ?_) (fun h => ?_)
    · exact z_sub [0, 1, 2] rfl (zz8_got_52 X  _ _ _ h)
    · refine z_iconst (pc := 48) (v := 1) X dX8_got_48 (by decide) ?_
      refine z_goto (pc := 49) (tgt := 53) X dX8_got_49 (by decide) ?_
      exact z_sub [0, 1, 2] rfl (zz8_got_53 X  _ _ _ _ h)
set_option maxRecDepth 100000 in
set_option maxHeartbeats 4000000 in
theorem zz8_got_0 {S' : St} {r : Int32} (X : zM p s m args meth c D cA σ shC tS RX8 cX8_got 4 (some .int)) : ∀ (S : St) (x1 : Int32) (x2 : Int32), J8_got S x1 x2 = some (r, S') → Zj p l e rm8_got s m args below meth c D cA σ shC 4 (some (.int r)) S' 0 [(0, .ref (σ 0)), (1, .int x1), (2, .int x2)] [] S := by
  intro S x1 x2 h
  rw [J8_got] at h
  refine z_aload_n (pc := 0) X dX8_got_0 rfl 0 rfl ?_
  refine z_iload_n (pc := 1) X dX8_got_1 rfl 1 rfl ?_
  refine z_i2l (pc := 2) X dX8_got_2 ?_
  refine z_lconst (pc := 3) (v := 0) X dX8_got_3 (by decide) ?_
  refine z_aload_n (pc := 4) X dX8_got_4 rfl 0 rfl ?_
  refine z_get (pc := 5) (v := .int _) X 0 fX8_39 rfl rfl dX8_got_5 rfl ?_
  refine z_if_eq (pc := 8) (tgt := 27) X dX8_got_8 (by decide) h (fun h => ?_) (fun h => ?_)
  · refine z_ldc2 (pc := 27) X dX8_got_27 mw_793 ?_
    exact z_sub [0, 1, 2] rfl (zz8_got_30 X  _ _ _ _ _ _ h)
  · refine z_aload_n (pc := 11) X dX8_got_11 rfl 0 rfl ?_
    refine z_get (pc := 12) (v := .ref (σ 17)) X 0 fX8_35 rfl rfl dX8_got_12 rfl ?_
    refine z_get (pc := 15) (v := .ref (σ 32)) X 17 fX8_191 rfl rfl dX8_got_15 rfl ?_
    refine z_get (pc := 18) (v := .int _) X 32 fX8_195 rfl rfl dX8_got_18 rfl ?_
    refine z_iconst (pc := 21) (v := 1) X dX8_got_21 (by decide) ?_
    refine z_isub (pc := 22) X dX8_got_22 ?_
    refine z_i2l (pc := 23) X dX8_got_23 ?_
    refine z_goto (pc := 24) (tgt := 30) X dX8_got_24 (by decide) ?_
    exact z_sub [0, 1, 2] rfl (zz8_got_30 X  _ _ _ _ _ _ h)
theorem cc8_got {l : Launch} {D : va_G} {cA : Nat → ClassId} {σ : Nat → Nat} {tS : Nat} {S S' : St} {x1 : Int32} {x2 : Int32} {r : Int32} (h : J8_got S x1 x2 = some (r, S')) : zMet l D cA σ shC tS yX8_got cX8_got 4 (some .int) rm8_got [.ref (σ 0), .int x1, .int x2] S (some (.int r)) S' := z_met [(0, .ref (σ 0)), (1, .int x1), (2, .int x2)] (by decide +kernel) (Nat.le_of_ble_eq_true rfl) rfl (fun _ _ _ _ _ _ _ _ X => zz8_got_0 X _ _ _ h)
set_option maxRecDepth 100000 in
set_option maxHeartbeats 4000000 in
theorem zz8_keep_0 {S' : St} {r : Int32} (X : zM p s m args meth c D cA σ shC tS RX8 cX8_keep 3 (some .boolean)) : ∀ (S : St) (x1 : Int32) (x2 : Int32), J8_keep S x1 x2 = some (r, S') → Zj p l e rm8_keep s m args below meth c D cA σ shC 3 (some (.int r)) S' 0 [(0, .ref (σ 0)), (1, .int x1), (2, .int x2)] [] S := by
  intro S x1 x2 h
  rw [J8_keep] at h
  refine z_aload_n (pc := 0) X dX8_keep_0 rfl 0 rfl ?_
  refine z_aload_n (pc := 1) X dX8_keep_1 rfl 0 rfl ?_
  refine z_iload_n (pc := 2) X dX8_keep_2 rfl 1 rfl ?_
  refine z_i2l (pc := 3) X dX8_keep_3 ?_
  refine z_lconst (pc := 4) (v := 0) X dX8_keep_4 (by decide) ?_
  refine z_ldc2 (pc := 5) X dX8_keep_5 mw_389 ?_
  refine z_callSi (pc := 8) (rm := rm8_fits) X [.long _, .long _, .long _] sX8_56 rfl rfl (Nat.le_of_ble_eq_true rfl) ⟨rfl, rfl, Nat.le_of_ble_eq_true rfl, Nat.le_of_ble_eq_true rfl⟩ dX8_keep_8 h (fun _ _ q => cc8_fits q) (fun r1 S1 h => ?_)
  refine z_callVi (pc := 11) (rm := rm8_runLack) X 0 [.int _] vX8_152 rfl rfl rfl (Nat.le_of_ble_eq_true rfl) ⟨rfl, rfl, Nat.le_of_ble_eq_true rfl, Nat.le_of_ble_eq_true rfl⟩ dX8_keep_11 h (fun _ _ q => cc8_runLack q) (fun r2 S2 h => ?_)
  refine z_callVi (pc := 14) (rm := rm8_passes) X 0 [.int _] vX8_62 rfl rfl rfl (Nat.le_of_ble_eq_true rfl) ⟨rfl, rfl, Nat.le_of_ble_eq_true rfl, Nat.le_of_ble_eq_true rfl⟩ dX8_keep_14 h (fun _ _ q => cc8_passes q) (fun r3 S3 h => ?_)
  refine z_if_ne (pc := 17) (tgt := 22) X dX8_keep_17 (by decide) h (fun h => ?_) (fun h => ?_)
  · refine z_aload_n (pc := 22) X dX8_keep_22 rfl 0 rfl ?_
    refine z_get (pc := 23) (v := .ref (σ 17)) X 0 fX8_35 rfl rfl dX8_keep_23 rfl ?_
    refine z_get (pc := 26) (v := .ref (σ 41)) X 17 fX8_159 rfl rfl dX8_keep_26 rfl ?_
    refine z_iload_n (pc := 29) X dX8_keep_29 rfl 1 rfl ?_
    refine z_iload_n (pc := 30) X dX8_keep_30 rfl 2 rfl ?_
    refine z_zast (pc := 31) X 41 rfl dX8_keep_31 h (fun h => ?_)
    refine z_let h (fun h => ?_)
    refine z_iconst (pc := 32) (v := 1) X dX8_keep_32 (by decide) ?_
    exact z_zret X rfl dX8_keep_33 h
  · refine z_iconst (pc := 20) (v := 0) X dX8_keep_20 (by decide) ?_
    exact z_zret X rfl dX8_keep_21 h
theorem cc8_keep {l : Launch} {D : va_G} {cA : Nat → ClassId} {σ : Nat → Nat} {tS : Nat} {S S' : St} {x1 : Int32} {x2 : Int32} {r : Int32} (h : J8_keep S x1 x2 = some (r, S')) : zMet l D cA σ shC tS yX8_keep cX8_keep 3 (some .boolean) rm8_keep [.ref (σ 0), .int x1, .int x2] S (some (.int r)) S' := z_met [(0, .ref (σ 0)), (1, .int x1), (2, .int x2)] (by decide +kernel) (Nat.le_of_ble_eq_true rfl) rfl (fun _ _ _ _ _ _ _ _ X => zz8_keep_0 X _ _ _ h)
set_option maxRecDepth 100000 in
set_option maxHeartbeats 4000000 in
theorem zz8_mending_0 {S' : St} {r : Int32} (X : zM p s m args meth c D cA σ shC tS RX8 cX8_mending 2 (some .boolean)) : ∀ (S : St) (x1 : Int32), J8_mending S x1 = some (r, S') → Zj p l e rm8_mending s m args below meth c D cA σ shC 2 (some (.int r)) S' 0 [(0, .ref (σ 0)), (1, .int x1)] [] S := by
  intro S x1 h
  rw [J8_mending] at h
  refine z_aload_n (pc := 0) X dX8_mending_0 rfl 0 rfl ?_
  refine z_aload_n (pc := 1) X dX8_mending_1 rfl 0 rfl ?_
  refine z_iconst (pc := 2) (v := 1) X dX8_mending_2 (by decide) ?_
  refine z_callVi (pc := 3) (rm := rm8_runLack) X 0 [.int _] vX8_152 rfl rfl rfl (Nat.le_of_ble_eq_true rfl) ⟨rfl, rfl, Nat.le_of_ble_eq_true rfl, Nat.le_of_ble_eq_true rfl⟩ dX8_mending_3 h (fun _ _ q => cc8_runLack q) (fun r1 S1 h => ?_)
  refine z_callVi (pc := 6) (rm := rm8_passes) X 0 [.int _] vX8_62 rfl rfl rfl (Nat.le_of_ble_eq_true rfl) ⟨rfl, rfl, Nat.le_of_ble_eq_true rfl, Nat.le_of_ble_eq_true rfl⟩ dX8_mending_6 h (fun _ _ q => cc8_passes q) (fun r2 S2 h => ?_)
  refine z_if_ne (pc := 9) (tgt := 14) X dX8_mending_9 (by decide) h (fun h => ?_) (fun h => ?_)
  · refine z_aload_n (pc := 14) X dX8_mending_14 rfl 0 rfl ?_
    refine z_get (pc := 15) (v := .ref (σ 17)) X 0 fX8_35 rfl rfl dX8_mending_15 rfl ?_
    refine z_iload_n (pc := 18) X dX8_mending_18 rfl 1 rfl ?_
    refine z_putZ (pc := 19) X 17 gX8_156 rfl rfl dX8_mending_19 h (fun h => ?_)
    refine z_let h (fun h => ?_)
    refine z_iconst (pc := 22) (v := 1) X dX8_mending_22 (by decide) ?_
    exact z_zret X rfl dX8_mending_23 h
  · refine z_iconst (pc := 12) (v := 0) X dX8_mending_12 (by decide) ?_
    exact z_zret X rfl dX8_mending_13 h
theorem cc8_mending {l : Launch} {D : va_G} {cA : Nat → ClassId} {σ : Nat → Nat} {tS : Nat} {S S' : St} {x1 : Int32} {r : Int32} (h : J8_mending S x1 = some (r, S')) : zMet l D cA σ shC tS yX8_mending cX8_mending 2 (some .boolean) rm8_mending [.ref (σ 0), .int x1] S (some (.int r)) S' := z_met [(0, .ref (σ 0)), (1, .int x1)] (by decide +kernel) (Nat.le_of_ble_eq_true rfl) rfl (fun _ _ _ _ _ _ _ _ X => zz8_mending_0 X _ _ h)
set_option maxRecDepth 100000 in
set_option maxHeartbeats 4000000 in
theorem zz8_none_0 {S' : St} {r : Int32} (X : zM p s m args meth c D cA σ shC tS RX8 cX8_none 1 (some .boolean)) : ∀ (S : St), J8_none S = some (r, S') → Zj p l e rm8_none s m args below meth c D cA σ shC 1 (some (.int r)) S' 0 [(0, .ref (σ 0))] [] S := by
  intro S h
  rw [J8_none] at h
  refine z_aload_n (pc := 0) X dX8_none_0 rfl 0 rfl ?_
  refine z_bipush (pc := 1) (v := 10) X dX8_none_1 (by decide) ?_
  refine z_callVi (pc := 3) (rm := rm8_passes) X 0 [.int _] vX8_62 rfl rfl rfl (Nat.le_of_ble_eq_true rfl) ⟨rfl, rfl, Nat.le_of_ble_eq_true rfl, Nat.le_of_ble_eq_true rfl⟩ dX8_none_3 h (fun _ _ q => cc8_passes q) (fun r1 S1 h => ?_)
  exact z_zret X rfl dX8_none_6 h
theorem cc8_none {l : Launch} {D : va_G} {cA : Nat → ClassId} {σ : Nat → Nat} {tS : Nat} {S S' : St} {r : Int32} (h : J8_none S = some (r, S')) : zMet l D cA σ shC tS yX8_none cX8_none 1 (some .boolean) rm8_none [.ref (σ 0)] S (some (.int r)) S' := z_met [(0, .ref (σ 0))] (by decide +kernel) (Nat.le_of_ble_eq_true rfl) rfl (fun _ _ _ _ _ _ _ _ X => zz8_none_0 X _ h)
set_option maxRecDepth 100000 in
set_option maxHeartbeats 4000000 in
theorem zz8_numbers_52 {S' : St} {r : Int32} (X : zM p s m args meth c D cA σ shC tS RX8 cX8_numbers 5 (some .boolean)) : ∀ (S : St) (x1 : Int32) (x2 : Int32) (x3 : Int32) (t0 : Int32), J8_numbers_52 S x1 x2 x3 t0 = some (r, S') → Zj p l e rm8_numbers s m args below meth c D cA σ shC 5 (some (.int r)) S' 52 [(0, .ref (σ 0)), (1, .int x1), (2, .int x2), (3, .int x3)] [.int t0, .ref (σ 0)] S := by
  intro S x1 x2 x3 t0 h
  rw [J8_numbers_52] at h
  refine z_callVi (pc := 52) (rm := rm8_passes) X 0 [.int _] vX8_62 rfl rfl rfl (Nat.le_of_ble_eq_true rfl) ⟨rfl, rfl, Nat.le_of_ble_eq_true rfl, Nat.le_of_ble_eq_true rfl⟩ dX8_numbers_52 h (fun _ _ q => cc8_passes q) (fun r1 S1 h => ?_)
  refine z_if_ne (pc := 55) (tgt := 60) X dX8_numbers_55 (by decide) h (fun h => ?_) (fun h => ?_)
  · refine z_aload_n (pc := 60) X dX8_numbers_60 rfl 0 rfl ?_
    refine z_get (pc := 61) (v := .ref (σ 5)) X 0 fX8_19 rfl rfl dX8_numbers_61 rfl ?_
    refine z_iload_n (pc := 64) X dX8_numbers_64 rfl 1 rfl ?_
    refine z_putI (pc := 65) X 5 gX8_98 rfl rfl dX8_numbers_65 ?_
    refine z_let h (fun h => ?_)
    refine z_aload_n (pc := 68) X dX8_numbers_68 rfl 0 rfl ?_
    refine z_get (pc := 69) (v := .ref (σ 5)) X 0 fX8_19 rfl rfl dX8_numbers_69 rfl ?_
    refine z_iload_n (pc := 72) X dX8_numbers_72 rfl 2 rfl ?_
    refine z_putI (pc := 73) X 5 gX8_101 rfl rfl dX8_numbers_73 ?_
    refine z_let h (fun h => ?_)
    refine z_aload_n (pc := 76) X dX8_numbers_76 rfl 0 rfl ?_
    refine z_get (pc := 77) (v := .ref (σ 5)) X 0 fX8_19 rfl rfl dX8_numbers_77 rfl ?_
    refine z_iload_n (pc := 80) X dX8_numbers_80 rfl 3 rfl ?_
    refine z_putI (pc := 81) X 5 gX8_104 rfl rfl dX8_numbers_81 ?_
    refine z_let h (fun h => ?_)
    refine z_iconst (pc := 84) (v := 1) X dX8_numbers_84 (by decide) ?_
    exact z_zret X rfl dX8_numbers_85 h
  · refine z_iconst (pc := 58) (v := 0) X dX8_numbers_58 (by decide) ?_
    exact z_zret X rfl dX8_numbers_59 h
set_option maxRecDepth 100000 in
set_option maxHeartbeats 4000000 in
theorem zz8_numbers_39 {S' : St} {r : Int32} (X : zM p s m args meth c D cA σ shC tS RX8 cX8_numbers 5 (some .boolean)) : ∀ (S : St) (x1 : Int32) (x2 : Int32) (x3 : Int32) (t0 : Int32), J8_numbers_39 S x1 x2 x3 t0 = some (r, S') → Zj p l e rm8_numbers s m args below meth c D cA σ shC 5 (some (.int r)) S' 39 [(0, .ref (σ 0)), (1, .int x1), (2, .int x2), (3, .int x3)] [.int t0] S := by
  intro S x1 x2 x3 t0 h
  rw [J8_numbers_39] at h
  refine z_istore (pc := 39) (L' := [(4, .int _), (0, .ref _), (1, .int _), (2, .int _), (3, .int _)]) X dX8_numbers_39 (by decide) rfl ?_
  refine z_aload_n (pc := 41) X dX8_numbers_41 rfl 1 rfl ?_
  refine z_iload (pc := 42) X dX8_numbers_42 0 rfl ?_
  refine z_if_eq (pc := 44) (tgt := 51) X dX8_numbers_44 (by decide) h (fun h => ?_) (fun h => ?_)
  · refine z_iconst (pc := 51) (v := 1) X dX8_numbers_51 (by decide) ?_
    exact z_sub [1, 2, 3, 4] rfl (zz8_numbers_52 X  _ _ _ _ _ h)
  · refine z_iconst (pc := 47) (v := 0) X dX8_numbers_47 (by decide) ?_
    refine z_goto (pc := 48) (tgt := 52) X dX8_numbers_48 (by decide) ?_
    exact z_sub [1, 2, 3, 4] rfl (zz8_numbers_52 X  _ _ _ _ _ h)
set_option maxRecDepth 100000 in
set_option maxHeartbeats 4000000 in
theorem zz8_numbers_38 {S' : St} {r : Int32} (X : zM p s m args meth c D cA σ shC tS RX8 cX8_numbers 5 (some .boolean)) : ∀ (S : St) (x1 : Int32) (x2 : Int32) (x3 : Int32), J8_numbers_38 S x1 x2 x3 = some (r, S') → Zj p l e rm8_numbers s m args below meth c D cA σ shC 5 (some (.int r)) S' 38 [(0, .ref (σ 0)), (1, .int x1), (2, .int x2), (3, .int x3)] [] S := by
  intro S x1 x2 x3 h
  rw [J8_numbers_38] at h
  refine z_iconst (pc := 38) (v := 0) X dX8_numbers_38 (by decide) ?_
  exact z_sub [0, 1, 2, 3] rfl (zz8_numbers_39 X  _ _ _ _ _ h)
set_option maxRecDepth 100000 in
set_option maxHeartbeats 4000000 in
theorem zz8_numbers_0 {S' : St} {r : Int32} (X : zM p s m args meth c D cA σ shC tS RX8 cX8_numbers 5 (some .boolean)) : ∀ (S : St) (x1 : Int32) (x2 : Int32) (x3 : Int32), J8_numbers S x1 x2 x3 = some (r, S') → Zj p l e rm8_numbers s m args below meth c D cA σ shC 5 (some (.int r)) S' 0 [(0, .ref (σ 0)), (1, .int x1), (2, .int x2), (3, .int x3)] [] S := by
  intro S x1 x2 x3 h
  rw [J8_numbers] at h
  refine z_iload_n (pc := 0) X dX8_numbers_0 rfl 1 rfl ?_
  refine z_i2l (pc := 1) X dX8_numbers_1 ?_
  refine z_lconst (pc := 2) (v := 1) X dX8_numbers_2 (by decide) ?_
  refine z_ldc2 (pc := 3) X dX8_numbers_3 mw_462 ?_
  refine z_callSi (pc := 6) (rm := rm8_fits) X [.long _, .long _, .long _] sX8_56 rfl rfl (Nat.le_of_ble_eq_true rfl) ⟨rfl, rfl, Nat.le_of_ble_eq_true rfl, Nat.le_of_ble_eq_true rfl⟩ dX8_numbers_6 h (fun _ _ q => cc8_fits q) (fun r1 S1 h => ?_)
  refine z_if_eq (pc := 9) (tgt := 38) X dX8_numbers_9 (by decide) h (fun h => ?_) (fun h => ?_)
  · exact z_sub [0, 1, 2, 3] rfl (zz8_numbers_38 X  _ _ _ _ h)
  · refine z_iload_n (pc := 12) X dX8_numbers_12 rfl 2 rfl ?_
    refine z_i2l (pc := 13) X dX8_numbers_13 ?_
    refine z_lconst (pc := 14) (v := 1) X dX8_numbers_14 (by decide) ?_
    refine z_iload_n (pc := 15) X dX8_numbers_15 rfl 1 rfl ?_
    refine z_i2l (pc := 16) X dX8_numbers_16 ?_
    refine z_callSi (pc := 17) (rm := rm8_fits) X [.long _, .long _, .long _] sX8_56 rfl rfl (Nat.le_of_ble_eq_true rfl) ⟨rfl, rfl, Nat.le_of_ble_eq_true rfl, Nat.le_of_ble_eq_true rfl⟩ dX8_numbers_17 h (fun _ _ q => cc8_fits q) (fun r2 S2 h => ?_)
    refine z_if_eq (pc := 20) (tgt := 38) X dX8_numbers_20 (by decide) h (fun h => ?_) (fun h => ?_)
    · exact z_sub [0, 1, 2, 3] rfl (zz8_numbers_38 X  _ _ _ _ h)
    · refine z_iload_n (pc := 23) X dX8_numbers_23 rfl 3 rfl ?_
      refine z_i2l (pc := 24) X dX8_numbers_24 ?_
      refine z_lconst (pc := 25) (v := 1) X dX8_numbers_25 (by decide) ?_
      refine z_iload_n (pc := 26) X dX8_numbers_26 rfl 1 rfl ?_
      refine z_i2l (pc := 27) X dX8_numbers_27 ?_
      refine z_callSi (pc := 28) (rm := rm8_fits) X [.long _, .long _, .long _] sX8_56 rfl rfl (Nat.le_of_ble_eq_true rfl) ⟨rfl, rfl, Nat.le_of_ble_eq_true rfl, Nat.le_of_ble_eq_true rfl⟩ dX8_numbers_28 h (fun _ _ q => cc8_fits q) (fun r3 S3 h => ?_)
      refine z_if_eq (pc := 31) (tgt := 38) X dX8_numbers_31 (by decide) h (fun h => ?_) (fun h => ?_)
      · exact z_sub [0, 1, 2, 3] rfl (zz8_numbers_38 X  _ _ _ _ h)
      · refine z_iconst (pc := 34) (v := 1) X dX8_numbers_34 (by decide) ?_
        refine z_goto (pc := 35) (tgt := 39) X dX8_numbers_35 (by decide) ?_
        exact z_sub [0, 1, 2, 3] rfl (zz8_numbers_39 X  _ _ _ _ _ h)
theorem cc8_numbers {l : Launch} {D : va_G} {cA : Nat → ClassId} {σ : Nat → Nat} {tS : Nat} {S S' : St} {x1 : Int32} {x2 : Int32} {x3 : Int32} {r : Int32} (h : J8_numbers S x1 x2 x3 = some (r, S')) : zMet l D cA σ shC tS yX8_numbers cX8_numbers 5 (some .boolean) rm8_numbers [.ref (σ 0), .int x1, .int x2, .int x3] S (some (.int r)) S' := z_met [(0, .ref (σ 0)), (1, .int x1), (2, .int x2), (3, .int x3)] (by decide +kernel) (Nat.le_of_ble_eq_true rfl) rfl (fun _ _ _ _ _ _ _ _ X => zz8_numbers_0 X _ _ _ _ h)
set_option maxRecDepth 100000 in
set_option maxHeartbeats 4000000 in
theorem zz8_odds_42 {S' : St} {r : Int32} (X : zM p s m args meth c D cA σ shC tS RX8 cX8_odds 5 (some .int)) : ∀ (S : St) (x1 : Int32) (x3 : Int32) (t0 : Int32), J8_odds_42 S x1 x3 t0 = some (r, S') → Zj p l e rm8_odds s m args below meth c D cA σ shC 5 (some (.int r)) S' 42 [(0, .ref (σ 0)), (1, .int x1), (3, .int x3)] [.int t0, .ref (σ 0)] S := by
  intro S x1 x3 t0 h
  rw [J8_odds_42] at h
  refine z_callVi (pc := 42) (rm := rm8_passes) X 0 [.int _] vX8_62 rfl rfl rfl (Nat.le_of_ble_eq_true rfl) ⟨rfl, rfl, Nat.le_of_ble_eq_true rfl, Nat.le_of_ble_eq_true rfl⟩ dX8_odds_42 h (fun _ _ q => cc8_passes q) (fun r1 S1 h => ?_)
  refine z_if_ne (pc := 45) (tgt := 50) X dX8_odds_45 (by decide) h (fun h => ?_) (fun h => ?_)
  · refine z_aload_n (pc := 50) X dX8_odds_50 rfl 0 rfl ?_
    refine z_get (pc := 51) (v := .ref (σ 8)) X 0 fX8_28 rfl rfl dX8_odds_51 rfl ?_
    refine z_iload_n (pc := 54) X dX8_odds_54 rfl 1 rfl ?_
    refine z_iload_n (pc := 55) X dX8_odds_55 rfl 2 rfl ?_
    refine z_callVv (pc := 56) (rm := rm2_ask) X 8 [.int _, .int _] vX8_133 rfl rfl rfl (Nat.le_of_ble_eq_true rfl) ⟨rfl, rfl, Nat.le_of_ble_eq_true rfl, Nat.le_of_ble_eq_true rfl⟩ dX8_odds_56 h (fun _ _ q => cc2_ask q) (fun _ S2 h => ?_)
    refine z_aload_n (pc := 59) X dX8_odds_59 rfl 0 rfl ?_
    refine z_get (pc := 60) (v := .ref (σ 8)) X 0 fX8_28 rfl rfl dX8_odds_60 rfl ?_
    refine z_callVi (pc := 63) (rm := rm2_tellAge) X 8 [] vX8_137 rfl rfl rfl (Nat.le_of_ble_eq_true rfl) ⟨rfl, rfl, Nat.le_of_ble_eq_true rfl, Nat.le_of_ble_eq_true rfl⟩ dX8_odds_63 h (fun _ _ q => cc2_tellAge q) (fun r3 S3 h => ?_)
    exact z_iret X rfl dX8_odds_66 h
  · refine z_iconst (pc := 48) (v := -1) X dX8_odds_48 (by decide) ?_
    exact z_iret X rfl dX8_odds_49 h
set_option maxRecDepth 100000 in
set_option maxHeartbeats 4000000 in
theorem zz8_odds_14 {S' : St} {r : Int32} (X : zM p s m args meth c D cA σ shC tS RX8 cX8_odds 5 (some .int)) : ∀ (S : St) (x1 : Int32) (x2 : Int32) (x3 : Int32) (t0 : Int32), J8_odds_14 S x1 x2 x3 t0 = some (r, S') → Zj p l e rm8_odds s m args below meth c D cA σ shC 5 (some (.int r)) S' 14 [(0, .ref (σ 0)), (1, .int x1), (2, .int x2), (3, .int x3)] [.int t0] S := by
  intro S x1 x2 x3 t0 h
  rw [J8_odds_14] at h
  refine z_istore (pc := 14) (L' := [(4, .int _), (0, .ref _), (1, .int _), (2, .int _), (3, .int _)]) X dX8_odds_14 (by decide) rfl ?_
  refine z_aload_n (pc := 16) X dX8_odds_16 rfl 1 rfl ?_
  refine z_iload (pc := 17) X dX8_odds_17 0 rfl ?_
  refine z_if_ne (pc := 19) (tgt := 40) X dX8_odds_19 (by decide) h (fun h => ?_) (fun h => ?_)
  · refine z_iload (pc := 40) X dX8_odds_40 0 rfl ?_
    exact z_sub [1, 2, 4] rfl (zz8_odds_42 X  _ _ _ _ h)
  · refine z_aload_n (pc := 22) X dX8_odds_22 rfl 1 rfl ?_
    refine z_get (pc := 23) (v := .ref (σ 5)) X 0 fX8_19 rfl rfl dX8_odds_23 rfl ?_
    refine z_aload_n (pc := 26) X dX8_odds_26 rfl 1 rfl ?_
    refine z_get (pc := 27) (v := .ref (σ 5)) X 0 fX8_19 rfl rfl dX8_odds_27 rfl ?_
    refine z_get (pc := 30) (v := .int _) X 5 fX8_98 rfl rfl dX8_odds_30 rfl ?_
    refine z_iload_n (pc := 33) X dX8_odds_33 rfl 3 rfl ?_
    refine z_callVi (pc := 34) (rm := rm0_greatness) X 5 [.int _, .int _] vX8_130 rfl rfl rfl (Nat.le_of_ble_eq_true rfl) ⟨rfl, rfl, Nat.le_of_ble_eq_true rfl, Nat.le_of_ble_eq_true rfl⟩ dX8_odds_34 h (fun _ _ q => cc0_greatness q) (fun r1 S1 h => ?_)
    refine z_goto (pc := 37) (tgt := 42) X dX8_odds_37 (by decide) ?_
    exact z_sub [1, 2, 4] rfl (zz8_odds_42 X  _ _ _ _ h)
set_option maxRecDepth 100000 in
set_option maxHeartbeats 4000000 in
theorem zz8_odds_0 {S' : St} {r : Int32} (X : zM p s m args meth c D cA σ shC tS RX8 cX8_odds 5 (some .int)) : ∀ (S : St) (x1 : Int32) (x2 : Int32) (x3 : Int32), J8_odds S x1 x2 x3 = some (r, S') → Zj p l e rm8_odds s m args below meth c D cA σ shC 5 (some (.int r)) S' 0 [(0, .ref (σ 0)), (1, .int x1), (2, .int x2), (3, .int x3)] [] S := by
  intro S x1 x2 x3 h
  rw [J8_odds] at h
  refine z_iload_n (pc := 0) X dX8_odds_0 rfl 1 rfl ?_
  refine z_iload_n (pc := 1) X dX8_odds_1 rfl 2 rfl ?_
  refine z_iload_n (pc := 2) X dX8_odds_2 rfl 3 rfl ?_
  refine z_callSi (pc := 3) (rm := rm8_fitsRead) X [.int _, .int _, .int _] sX8_126 rfl rfl (Nat.le_of_ble_eq_true rfl) ⟨rfl, rfl, Nat.le_of_ble_eq_true rfl, Nat.le_of_ble_eq_true rfl⟩ dX8_odds_3 h (fun _ _ q => cc8_fitsRead q) (fun r1 S1 h => ?_)
  refine z_if_eq (pc := 6) (tgt := 13) X dX8_odds_6 (by decide) h (fun h => ?_) (fun h => ?_)
  · refine z_iconst (pc := 13) (v := 1) X dX8_odds_13 (by decide) ?_
    exact z_sub [0, 1, 2, 3] rfl (zz8_odds_14 X  _ _ _ _ _ h)
  · refine z_iconst (pc := 9) (v := 0) X dX8_odds_9 (by decide) ?_
    refine z_goto (pc := 10) (tgt := 14) X dX8_odds_10 (by decide) ?_
    exact z_sub [0, 1, 2, 3] rfl (zz8_odds_14 X  _ _ _ _ _ h)
theorem cc8_odds {l : Launch} {D : va_G} {cA : Nat → ClassId} {σ : Nat → Nat} {tS : Nat} {S S' : St} {x1 : Int32} {x2 : Int32} {x3 : Int32} {r : Int32} (h : J8_odds S x1 x2 x3 = some (r, S')) : zMet l D cA σ shC tS yX8_odds cX8_odds 5 (some .int) rm8_odds [.ref (σ 0), .int x1, .int x2, .int x3] S (some (.int r)) S' := z_met [(0, .ref (σ 0)), (1, .int x1), (2, .int x2), (3, .int x3)] (by decide +kernel) (Nat.le_of_ble_eq_true rfl) rfl (fun _ _ _ _ _ _ _ _ X => zz8_odds_0 X _ _ _ _ h)
set_option maxRecDepth 100000 in
set_option maxHeartbeats 4000000 in
theorem zz8_of_97 {S' : St} {r : Int32} (X : zM p s m args meth c D cA σ shC tS RX8 cX8_of 3 (some .int)) : ∀ (S : St) (t0 : Int32), J8_of_97 S t0 = some (r, S') → Zj p l e rm8_of s m args below meth c D cA σ shC 3 (some (.int r)) S' 97 [] [.int t0] S := by
  intro S t0 h
  rw [J8_of_97] at h
  exact z_iret X rfl dX8_of_97 h
set_option maxRecDepth 100000 in
set_option maxHeartbeats 4000000 in
theorem zz8_of_27 {S' : St} {r : Int32} (X : zM p s m args meth c D cA σ shC tS RX8 cX8_of 3 (some .int)) : ∀ (S : St) (x1 : Int32) (x2 : Int32) (t0 : Int32), J8_of_27 S x1 x2 t0 = some (r, S') → Zj p l e rm8_of s m args below meth c D cA σ shC 3 (some (.int r)) S' 27 [(0, .ref (σ 0)), (1, .int x1), (2, .int x2)] [.int t0, .ref (σ 0), .ref (σ 0)] S := by
  intro S x1 x2 t0 h
  rw [J8_of_27] at h
  refine z_callVi (pc := 27) (rm := rm8_runLack) X 0 [.int _] vX8_152 rfl rfl rfl (Nat.le_of_ble_eq_true rfl) ⟨rfl, rfl, Nat.le_of_ble_eq_true rfl, Nat.le_of_ble_eq_true rfl⟩ dX8_of_27 h (fun _ _ q => cc8_runLack q) (fun r1 S1 h => ?_)
  refine z_callVi (pc := 30) (rm := rm8_passes) X 0 [.int _] vX8_62 rfl rfl rfl (Nat.le_of_ble_eq_true rfl) ⟨rfl, rfl, Nat.le_of_ble_eq_true rfl, Nat.le_of_ble_eq_true rfl⟩ dX8_of_30 h (fun _ _ q => cc8_passes q) (fun r2 S2 h => ?_)
  refine z_if_ne (pc := 33) (tgt := 38) X dX8_of_33 (by decide) h (fun h => ?_) (fun h => ?_)
  · refine z_iload_n (pc := 38) X dX8_of_38 rfl 2 rfl ?_
    refine z_arm h (fun hx h => ?_) (fun hx0 h => ?_)
    · refine z_ls (pc := 39) (off := 25) (tgt := 64) X dX8_of_39 (by decide) (by rw [hx]; first | done | rfl) (by decide) ?_
      refine z_aload_n (pc := 64) X dX8_of_64 rfl 0 rfl ?_
      refine z_get (pc := 65) (v := .ref (σ 17)) X 0 fX8_35 rfl rfl dX8_of_65 rfl ?_
      refine z_get (pc := 68) (v := .ref (σ 18)) X 17 fX8_206 rfl rfl dX8_of_68 rfl ?_
      refine z_get (pc := 71) (v := .ref (σ 19)) X 18 fX8_228 rfl rfl dX8_of_71 rfl ?_
      refine z_iload_n (pc := 74) X dX8_of_74 rfl 1 rfl ?_
      refine z_iald (pc := 75) X 19 rfl dX8_of_75 h (fun h => ?_)
      exact z_iret X rfl dX8_of_76 h
    · skip
      refine z_arm h (fun hx h => ?_) (fun hx1 h => ?_)
      · refine z_ls (pc := 39) (off := 38) (tgt := 77) X dX8_of_39 (by decide) (by rw [hx]; first | done | rfl) (by decide) ?_
        refine z_aload_n (pc := 77) X dX8_of_77 rfl 0 rfl ?_
        refine z_get (pc := 78) (v := .ref (σ 17)) X 0 fX8_35 rfl rfl dX8_of_78 rfl ?_
        refine z_get (pc := 81) (v := .ref (σ 18)) X 17 fX8_206 rfl rfl dX8_of_81 rfl ?_
        refine z_get (pc := 84) (v := .ref (σ 20)) X 18 fX8_232 rfl rfl dX8_of_84 rfl ?_
        refine z_iload_n (pc := 87) X dX8_of_87 rfl 1 rfl ?_
        refine z_zald (pc := 88) X 20 rfl dX8_of_88 h (fun h => ?_)
        refine z_if_eq (pc := 89) (tgt := 96) X dX8_of_89 (by decide) h (fun h => ?_) (fun h => ?_)
        · refine z_iconst (pc := 96) (v := 0) X dX8_of_96 (by decide) ?_
          exact z_sub [] rfl (zz8_of_97 X  _ _ h)
        · refine z_iconst (pc := 92) (v := 1) X dX8_of_92 (by decide) ?_
          refine z_goto (pc := 93) (tgt := 97) X dX8_of_93 (by decide) ?_
          exact z_sub [] rfl (zz8_of_97 X  _ _ h)
      · skip
        refine z_ls (pc := 39) (off := 59) (tgt := 98) X dX8_of_39 (by decide) (by simp only [lv_osw hx0 (a := 0) (by decide), lv_osw hx1 (a := 1) (by decide)]; rfl) (by decide) ?_
        refine z_aload_n (pc := 98) X dX8_of_98 rfl 0 rfl ?_
        refine z_get (pc := 99) (v := .ref (σ 17)) X 0 fX8_35 rfl rfl dX8_of_99 rfl ?_
        refine z_get (pc := 102) (v := .ref (σ 18)) X 17 fX8_206 rfl rfl dX8_of_102 rfl ?_
        refine z_iload_n (pc := 105) X dX8_of_105 rfl 1 rfl ?_
        refine z_callVi (pc := 106) (rm := rm1_keptBy) X 18 [.int _] vX8_235 rfl rfl rfl (Nat.le_of_ble_eq_true rfl) ⟨rfl, rfl, Nat.le_of_ble_eq_true rfl, Nat.le_of_ble_eq_true rfl⟩ dX8_of_106 h (fun _ _ q => cc1_keptBy q) (fun r3 S3 h => ?_)
        exact z_iret X rfl dX8_of_109 h
  · refine z_iconst (pc := 36) (v := -1) X dX8_of_36 (by decide) ?_
    exact z_iret X rfl dX8_of_37 h
set_option maxRecDepth 100000 in
set_option maxHeartbeats 4000000 in
theorem zz8_of_26 {S' : St} {r : Int32} (X : zM p s m args meth c D cA σ shC tS RX8 cX8_of 3 (some .int)) : ∀ (S : St) (x1 : Int32) (x2 : Int32), J8_of_26 S x1 x2 = some (r, S') → Zj p l e rm8_of s m args below meth c D cA σ shC 3 (some (.int r)) S' 26 [(0, .ref (σ 0)), (1, .int x1), (2, .int x2)] [.ref (σ 0), .ref (σ 0)] S := by
  intro S x1 x2 h
  rw [J8_of_26] at h
  refine z_iconst (pc := 26) (v := 0) X dX8_of_26 (by decide) ?_
  exact z_sub [0, 1, 2] rfl (zz8_of_27 X  _ _ _ _ h)
set_option maxRecDepth 100000 in
set_option maxHeartbeats 4000000 in
theorem zz8_of_0 {S' : St} {r : Int32} (X : zM p s m args meth c D cA σ shC tS RX8 cX8_of 3 (some .int)) : ∀ (S : St) (x1 : Int32) (x2 : Int32), J8_of S x1 x2 = some (r, S') → Zj p l e rm8_of s m args below meth c D cA σ shC 3 (some (.int r)) S' 0 [(0, .ref (σ 0)), (1, .int x1), (2, .int x2)] [] S := by
  intro S x1 x2 h
  rw [J8_of] at h
  refine z_aload_n (pc := 0) X dX8_of_0 rfl 0 rfl ?_
  refine z_aload_n (pc := 1) X dX8_of_1 rfl 0 rfl ?_
  refine z_aload_n (pc := 2) X dX8_of_2 rfl 0 rfl ?_
  refine z_iload_n (pc := 3) X dX8_of_3 rfl 1 rfl ?_
  refine z_callVi (pc := 4) (rm := rm8_isCopy) X 0 [.int _] vX8_223 rfl rfl rfl (Nat.le_of_ble_eq_true rfl) ⟨rfl, rfl, Nat.le_of_ble_eq_true rfl, Nat.le_of_ble_eq_true rfl⟩ dX8_of_4 h (fun _ _ q => cc8_isCopy q) (fun r1 S1 h => ?_)
  refine z_if_eq (pc := 7) (tgt := 26) X dX8_of_7 (by decide) h (fun h => ?_) (fun h => ?_)
  · exact z_sub [0, 1, 2] rfl (zz8_of_26 X  _ _ _ h)
  · refine z_iload_n (pc := 10) X dX8_of_10 rfl 2 rfl ?_
    refine z_i2l (pc := 11) X dX8_of_11 ?_
    refine z_lconst (pc := 12) (v := 0) X dX8_of_12 (by decide) ?_
    refine z_ldc2 (pc := 13) X dX8_of_13 mw_781 ?_
    refine z_callSi (pc := 16) (rm := rm8_fits) X [.long _, .long _, .long _] sX8_56 rfl rfl (Nat.le_of_ble_eq_true rfl) ⟨rfl, rfl, Nat.le_of_ble_eq_true rfl, Nat.le_of_ble_eq_true rfl⟩ dX8_of_16 h (fun _ _ q => cc8_fits q) (fun r2 S2 h => ?_)
    refine z_if_eq (pc := 19) (tgt := 26) X dX8_of_19 (by decide) h (fun h => ?_) (fun h => ?_)
    · exact z_sub [0, 1, 2] rfl (zz8_of_26 X  _ _ _ h)
    · refine z_iconst (pc := 22) (v := 1) X dX8_of_22 (by decide) ?_
      refine z_goto (pc := 23) (tgt := 27) X dX8_of_23 (by decide) ?_
      exact z_sub [0, 1, 2] rfl (zz8_of_27 X  _ _ _ _ h)
theorem cc8_of {l : Launch} {D : va_G} {cA : Nat → ClassId} {σ : Nat → Nat} {tS : Nat} {S S' : St} {x1 : Int32} {x2 : Int32} {r : Int32} (h : J8_of S x1 x2 = some (r, S')) : zMet l D cA σ shC tS yX8_of cX8_of 3 (some .int) rm8_of [.ref (σ 0), .int x1, .int x2] S (some (.int r)) S' := z_met [(0, .ref (σ 0)), (1, .int x1), (2, .int x2)] (by decide +kernel) (Nat.le_of_ble_eq_true rfl) rfl (fun _ _ _ _ _ _ _ _ X => zz8_of_0 X _ _ _ h)
set_option maxRecDepth 100000 in
set_option maxHeartbeats 4000000 in
theorem zz8_read_0 {S' : St} {r : Int64} (X : zM p s m args meth c D cA σ shC tS RX8 cX8_read 3 (some .long)) : ∀ (S : St) (x1 : Int32) (x2 : Int32), J8_read S x1 x2 = some (r, S') → Zj p l e rm8_read s m args below meth c D cA σ shC 3 (some (.long r)) S' 0 [(0, .ref (σ 0)), (1, .int x1), (2, .int x2)] [] S := by
  intro S x1 x2 h
  rw [J8_read] at h
  refine z_aload_n (pc := 0) X dX8_read_0 rfl 0 rfl ?_
  refine z_aload_n (pc := 1) X dX8_read_1 rfl 0 rfl ?_
  refine z_get (pc := 2) (v := .ref (σ 1)) X 0 fX8_10 rfl rfl dX8_read_2 rfl ?_
  refine z_iload_n (pc := 5) X dX8_read_5 rfl 1 rfl ?_
  refine z_iload_n (pc := 6) X dX8_read_6 rfl 2 rfl ?_
  refine z_iconst (pc := 7) (v := 1) X dX8_read_7 (by decide) ?_
  refine z_callVi (pc := 8) (rm := rm6_lack) X 1 [.int _, .int _, .int _] vX8_70 rfl rfl rfl (Nat.le_of_ble_eq_true rfl) ⟨rfl, rfl, Nat.le_of_ble_eq_true rfl, Nat.le_of_ble_eq_true rfl⟩ dX8_read_8 h (fun _ _ q => cc6_lack q) (fun r1 S1 h => ?_)
  refine z_callVi (pc := 11) (rm := rm8_passes) X 0 [.int _] vX8_62 rfl rfl rfl (Nat.le_of_ble_eq_true rfl) ⟨rfl, rfl, Nat.le_of_ble_eq_true rfl, Nat.le_of_ble_eq_true rfl⟩ dX8_read_11 h (fun _ _ q => cc8_passes q) (fun r2 S2 h => ?_)
  refine z_if_ne (pc := 14) (tgt := 21) X dX8_read_14 (by decide) h (fun h => ?_) (fun h => ?_)
  · refine z_aload_n (pc := 21) X dX8_read_21 rfl 0 rfl ?_
    refine z_get (pc := 22) (v := .ref (σ 1)) X 0 fX8_10 rfl rfl dX8_read_22 rfl ?_
    refine z_iload_n (pc := 25) X dX8_read_25 rfl 1 rfl ?_
    refine z_iload_n (pc := 26) X dX8_read_26 rfl 2 rfl ?_
    refine z_callVl (pc := 27) (rm := rm6_at) X 1 [.int _, .int _] vX8_80 rfl rfl rfl (Nat.le_of_ble_eq_true rfl) ⟨rfl, rfl, Nat.le_of_ble_eq_true rfl, Nat.le_of_ble_eq_true rfl⟩ dX8_read_27 h (fun _ _ q => cc6_at q) (fun r3 S3 h => ?_)
    exact z_lret X rfl dX8_read_30 h
  · refine z_ldc2 (pc := 17) X dX8_read_17 mw_423 ?_
    exact z_lret X rfl dX8_read_20 h
theorem cc8_read {l : Launch} {D : va_G} {cA : Nat → ClassId} {σ : Nat → Nat} {tS : Nat} {S S' : St} {x1 : Int32} {x2 : Int32} {r : Int64} (h : J8_read S x1 x2 = some (r, S')) : zMet l D cA σ shC tS yX8_read cX8_read 3 (some .long) rm8_read [.ref (σ 0), .int x1, .int x2] S (some (.long r)) S' := z_met [(0, .ref (σ 0)), (1, .int x1), (2, .int x2)] (by decide +kernel) (Nat.le_of_ble_eq_true rfl) rfl (fun _ _ _ _ _ _ _ _ X => zz8_read_0 X _ _ _ h)
set_option maxRecDepth 100000 in
set_option maxHeartbeats 4000000 in
theorem zz8_reads_0 {S' : St} {r : Int32} (X : zM p s m args meth c D cA σ shC tS RX8 cX8_reads 4 (some .int)) : ∀ (S : St) (x1 : Int32) (x2 : Int32), J8_reads S x1 x2 = some (r, S') → Zj p l e rm8_reads s m args below meth c D cA σ shC 4 (some (.int r)) S' 0 [(0, .ref (σ 0)), (1, .int x1), (2, .int x2)] [] S := by
  intro S x1 x2 h
  rw [J8_reads] at h
  refine z_aload_n (pc := 0) X dX8_reads_0 rfl 0 rfl ?_
  refine z_aload_n (pc := 1) X dX8_reads_1 rfl 0 rfl ?_
  refine z_iload_n (pc := 2) X dX8_reads_2 rfl 1 rfl ?_
  refine z_iload_n (pc := 3) X dX8_reads_3 rfl 2 rfl ?_
  refine z_i2l (pc := 4) X dX8_reads_4 ?_
  refine z_lconst (pc := 5) (v := 0) X dX8_reads_5 (by decide) ?_
  refine z_ldc2 (pc := 6) X dX8_reads_6 mw_389 ?_
  refine z_callSi (pc := 9) (rm := rm8_fits) X [.long _, .long _, .long _] sX8_56 rfl rfl (Nat.le_of_ble_eq_true rfl) ⟨rfl, rfl, Nat.le_of_ble_eq_true rfl, Nat.le_of_ble_eq_true rfl⟩ dX8_reads_9 h (fun _ _ q => cc8_fits q) (fun r1 S1 h => ?_)
  refine z_aload_n (pc := 12) X dX8_reads_12 rfl 0 rfl ?_
  refine z_get (pc := 13) (v := .ref (σ 17)) X 0 fX8_35 rfl rfl dX8_reads_13 rfl ?_
  refine z_get (pc := 16) (v := .ref (σ 32)) X 17 fX8_191 rfl rfl dX8_reads_16 rfl ?_
  refine z_get (pc := 19) (v := .int _) X 32 fX8_195 rfl rfl dX8_reads_19 rfl ?_
  refine z_callVi (pc := 22) (rm := rm8_actLack) X 0 [.int _, .int _, .int _] vX8_172 rfl rfl rfl (Nat.le_of_ble_eq_true rfl) ⟨rfl, rfl, Nat.le_of_ble_eq_true rfl, Nat.le_of_ble_eq_true rfl⟩ dX8_reads_22 h (fun _ _ q => cc8_actLack q) (fun r2 S2 h => ?_)
  refine z_callVi (pc := 25) (rm := rm8_passes) X 0 [.int _] vX8_62 rfl rfl rfl (Nat.le_of_ble_eq_true rfl) ⟨rfl, rfl, Nat.le_of_ble_eq_true rfl, Nat.le_of_ble_eq_true rfl⟩ dX8_reads_25 h (fun _ _ q => cc8_passes q) (fun r3 S3 h => ?_)
  refine z_if_ne (pc := 28) (tgt := 33) X dX8_reads_28 (by decide) h (fun h => ?_) (fun h => ?_)
  · refine z_aload_n (pc := 33) X dX8_reads_33 rfl 0 rfl ?_
    refine z_get (pc := 34) (v := .ref (σ 17)) X 0 fX8_35 rfl rfl dX8_reads_34 rfl ?_
    refine z_get (pc := 37) (v := .ref (σ 32)) X 17 fX8_191 rfl rfl dX8_reads_37 rfl ?_
    refine z_iload_n (pc := 40) X dX8_reads_40 rfl 2 rfl ?_
    refine z_aload_n (pc := 41) X dX8_reads_41 rfl 0 rfl ?_
    refine z_get (pc := 42) (v := .ref (σ 17)) X 0 fX8_35 rfl rfl dX8_reads_42 rfl ?_
    refine z_get (pc := 45) (v := .int _) X 17 fX8_185 rfl rfl dX8_reads_45 rfl ?_
    refine z_callVi (pc := 48) (rm := rm4_add) X 32 [.int _, .int _] vX8_198 rfl rfl rfl (Nat.le_of_ble_eq_true rfl) ⟨rfl, rfl, Nat.le_of_ble_eq_true rfl, Nat.le_of_ble_eq_true rfl⟩ dX8_reads_48 h (fun _ _ q => cc4_add q) (fun r4 S4 h => ?_)
    refine z_istore_n (pc := 51) (L' := [(3, .int _), (0, .ref _), (1, .int _), (2, .int _)]) X dX8_reads_51 rfl (by decide) rfl ?_
    refine z_aload_n (pc := 52) X dX8_reads_52 rfl 1 rfl ?_
    refine z_get (pc := 53) (v := .ref (σ 17)) X 0 fX8_35 rfl rfl dX8_reads_53 rfl ?_
    refine z_iconst (pc := 56) (v := 2) X dX8_reads_56 (by decide) ?_
    refine z_iload_n (pc := 57) X dX8_reads_57 rfl 0 rfl ?_
    refine z_aload_n (pc := 58) X dX8_reads_58 rfl 1 rfl ?_
    refine z_get (pc := 59) (v := .ref (σ 1)) X 0 fX8_10 rfl rfl dX8_reads_59 rfl ?_
    refine z_iload_n (pc := 62) X dX8_reads_62 rfl 2 rfl ?_
    refine z_callVv (pc := 63) (rm := rm5_sendAll) X 17 [.int _, .int _, .ref (σ 1), .int _] vX8_181 rfl rfl rfl (Nat.le_of_ble_eq_true rfl) ⟨rfl, rfl, Nat.le_of_ble_eq_true rfl, Nat.le_of_ble_eq_true rfl⟩ dX8_reads_63 h (fun _ _ q => cc5_sendAll_c1 q) (fun _ S5 h => ?_)
    refine z_aload_n (pc := 66) X dX8_reads_66 rfl 1 rfl ?_
    refine z_get (pc := 67) (v := .ref (σ 17)) X 0 fX8_35 rfl rfl dX8_reads_67 rfl ?_
    refine z_aload_n (pc := 70) X dX8_reads_70 rfl 1 rfl ?_
    refine z_get (pc := 71) (v := .ref (σ 17)) X 0 fX8_35 rfl rfl dX8_reads_71 rfl ?_
    refine z_get (pc := 74) (v := .int _) X 17 fX8_185 rfl rfl dX8_reads_74 rfl ?_
    refine z_callVv (pc := 77) (rm := rm5_workOff) X 17 [.int _] vX8_188 rfl rfl rfl (Nat.le_of_ble_eq_true rfl) ⟨rfl, rfl, Nat.le_of_ble_eq_true rfl, Nat.le_of_ble_eq_true rfl⟩ dX8_reads_77 h (fun _ _ q => cc5_workOff q) (fun _ S6 h => ?_)
    refine z_iload_n (pc := 80) X dX8_reads_80 rfl 0 rfl ?_
    exact z_iret X rfl dX8_reads_81 h
  · refine z_iconst (pc := 31) (v := -1) X dX8_reads_31 (by decide) ?_
    exact z_iret X rfl dX8_reads_32 h
theorem cc8_reads {l : Launch} {D : va_G} {cA : Nat → ClassId} {σ : Nat → Nat} {tS : Nat} {S S' : St} {x1 : Int32} {x2 : Int32} {r : Int32} (h : J8_reads S x1 x2 = some (r, S')) : zMet l D cA σ shC tS yX8_reads cX8_reads 4 (some .int) rm8_reads [.ref (σ 0), .int x1, .int x2] S (some (.int r)) S' := z_met [(0, .ref (σ 0)), (1, .int x1), (2, .int x2)] (by decide +kernel) (Nat.le_of_ble_eq_true rfl) rfl (fun _ _ _ _ _ _ _ _ X => zz8_reads_0 X _ _ _ h)
set_option maxRecDepth 100000 in
set_option maxHeartbeats 4000000 in
theorem zz8_sheet_54 {S' : St} {r : Int32} (X : zM p s m args meth c D cA σ shC tS RX8 cX8_sheet 5 (some .boolean)) : ∀ (S : St) (x1 : Int32) (x2 : Int32) (x3 : Int32) (t0 : Int32), J8_sheet_54 S x1 x2 x3 t0 = some (r, S') → Zj p l e rm8_sheet s m args below meth c D cA σ shC 5 (some (.int r)) S' 54 [(0, .ref (σ 0)), (1, .int x1), (2, .int x2), (3, .int x3)] [.int t0, .ref (σ 0)] S := by
  intro S x1 x2 x3 t0 h
  rw [J8_sheet_54] at h
  refine z_callVi (pc := 54) (rm := rm8_passes) X 0 [.int _] vX8_62 rfl rfl rfl (Nat.le_of_ble_eq_true rfl) ⟨rfl, rfl, Nat.le_of_ble_eq_true rfl, Nat.le_of_ble_eq_true rfl⟩ dX8_sheet_54 h (fun _ _ q => cc8_passes q) (fun r1 S1 h => ?_)
  refine z_if_ne (pc := 57) (tgt := 62) X dX8_sheet_57 (by decide) h (fun h => ?_) (fun h => ?_)
  · refine z_aload_n (pc := 62) X dX8_sheet_62 rfl 0 rfl ?_
    refine z_get (pc := 63) (v := .ref (σ 1)) X 0 fX8_10 rfl rfl dX8_sheet_63 rfl ?_
    refine z_iload_n (pc := 66) X dX8_sheet_66 rfl 1 rfl ?_
    refine z_iload_n (pc := 67) X dX8_sheet_67 rfl 2 rfl ?_
    refine z_iload_n (pc := 68) X dX8_sheet_68 rfl 3 rfl ?_
    refine z_callVv (pc := 69) (rm := rm6_lay) X 1 [.int _, .int _, .int _] vX8_66 rfl rfl rfl (Nat.le_of_ble_eq_true rfl) ⟨rfl, rfl, Nat.le_of_ble_eq_true rfl, Nat.le_of_ble_eq_true rfl⟩ dX8_sheet_69 h (fun _ _ q => cc6_lay q) (fun _ S2 h => ?_)
    refine z_iconst (pc := 72) (v := 1) X dX8_sheet_72 (by decide) ?_
    exact z_zret X rfl dX8_sheet_73 h
  · refine z_iconst (pc := 60) (v := 0) X dX8_sheet_60 (by decide) ?_
    exact z_zret X rfl dX8_sheet_61 h
set_option maxRecDepth 100000 in
set_option maxHeartbeats 4000000 in
theorem zz8_sheet_41 {S' : St} {r : Int32} (X : zM p s m args meth c D cA σ shC tS RX8 cX8_sheet 5 (some .boolean)) : ∀ (S : St) (x1 : Int32) (x2 : Int32) (x3 : Int32) (t0 : Int32), J8_sheet_41 S x1 x2 x3 t0 = some (r, S') → Zj p l e rm8_sheet s m args below meth c D cA σ shC 5 (some (.int r)) S' 41 [(0, .ref (σ 0)), (1, .int x1), (2, .int x2), (3, .int x3)] [.int t0] S := by
  intro S x1 x2 x3 t0 h
  rw [J8_sheet_41] at h
  refine z_istore (pc := 41) (L' := [(4, .int _), (0, .ref _), (1, .int _), (2, .int _), (3, .int _)]) X dX8_sheet_41 (by decide) rfl ?_
  refine z_aload_n (pc := 43) X dX8_sheet_43 rfl 1 rfl ?_
  refine z_iload (pc := 44) X dX8_sheet_44 0 rfl ?_
  refine z_if_eq (pc := 46) (tgt := 53) X dX8_sheet_46 (by decide) h (fun h => ?_) (fun h => ?_)
  · refine z_iconst (pc := 53) (v := 1) X dX8_sheet_53 (by decide) ?_
    exact z_sub [1, 2, 3, 4] rfl (zz8_sheet_54 X  _ _ _ _ _ h)
  · refine z_iconst (pc := 49) (v := 0) X dX8_sheet_49 (by decide) ?_
    refine z_goto (pc := 50) (tgt := 54) X dX8_sheet_50 (by decide) ?_
    exact z_sub [1, 2, 3, 4] rfl (zz8_sheet_54 X  _ _ _ _ _ h)
set_option maxRecDepth 100000 in
set_option maxHeartbeats 4000000 in
theorem zz8_sheet_40 {S' : St} {r : Int32} (X : zM p s m args meth c D cA σ shC tS RX8 cX8_sheet 5 (some .boolean)) : ∀ (S : St) (x1 : Int32) (x2 : Int32) (x3 : Int32), J8_sheet_40 S x1 x2 x3 = some (r, S') → Zj p l e rm8_sheet s m args below meth c D cA σ shC 5 (some (.int r)) S' 40 [(0, .ref (σ 0)), (1, .int x1), (2, .int x2), (3, .int x3)] [] S := by
  intro S x1 x2 x3 h
  rw [J8_sheet_40] at h
  refine z_iconst (pc := 40) (v := 0) X dX8_sheet_40 (by decide) ?_
  exact z_sub [0, 1, 2, 3] rfl (zz8_sheet_41 X  _ _ _ _ _ h)
set_option maxRecDepth 100000 in
set_option maxHeartbeats 4000000 in
theorem zz8_sheet_0 {S' : St} {r : Int32} (X : zM p s m args meth c D cA σ shC tS RX8 cX8_sheet 5 (some .boolean)) : ∀ (S : St) (x1 : Int32) (x2 : Int32) (x3 : Int32), J8_sheet S x1 x2 x3 = some (r, S') → Zj p l e rm8_sheet s m args below meth c D cA σ shC 5 (some (.int r)) S' 0 [(0, .ref (σ 0)), (1, .int x1), (2, .int x2), (3, .int x3)] [] S := by
  intro S x1 x2 x3 h
  rw [J8_sheet] at h
  refine z_iload_n (pc := 0) X dX8_sheet_0 rfl 1 rfl ?_
  refine z_i2l (pc := 1) X dX8_sheet_1 ?_
  refine z_lconst (pc := 2) (v := 0) X dX8_sheet_2 (by decide) ?_
  refine z_ldc2 (pc := 3) X dX8_sheet_3 mw_389 ?_
  refine z_callSi (pc := 6) (rm := rm8_fits) X [.long _, .long _, .long _] sX8_56 rfl rfl (Nat.le_of_ble_eq_true rfl) ⟨rfl, rfl, Nat.le_of_ble_eq_true rfl, Nat.le_of_ble_eq_true rfl⟩ dX8_sheet_6 h (fun _ _ q => cc8_fits q) (fun r1 S1 h => ?_)
  refine z_if_eq (pc := 9) (tgt := 40) X dX8_sheet_9 (by decide) h (fun h => ?_) (fun h => ?_)
  · exact z_sub [0, 1, 2, 3] rfl (zz8_sheet_40 X  _ _ _ _ h)
  · refine z_iload_n (pc := 12) X dX8_sheet_12 rfl 2 rfl ?_
    refine z_i2l (pc := 13) X dX8_sheet_13 ?_
    refine z_lconst (pc := 14) (v := 0) X dX8_sheet_14 (by decide) ?_
    refine z_ldc2 (pc := 15) X dX8_sheet_15 mw_389 ?_
    refine z_callSi (pc := 18) (rm := rm8_fits) X [.long _, .long _, .long _] sX8_56 rfl rfl (Nat.le_of_ble_eq_true rfl) ⟨rfl, rfl, Nat.le_of_ble_eq_true rfl, Nat.le_of_ble_eq_true rfl⟩ dX8_sheet_18 h (fun _ _ q => cc8_fits q) (fun r2 S2 h => ?_)
    refine z_if_eq (pc := 21) (tgt := 40) X dX8_sheet_21 (by decide) h (fun h => ?_) (fun h => ?_)
    · exact z_sub [0, 1, 2, 3] rfl (zz8_sheet_40 X  _ _ _ _ h)
    · refine z_iload_n (pc := 24) X dX8_sheet_24 rfl 3 rfl ?_
      refine z_i2l (pc := 25) X dX8_sheet_25 ?_
      refine z_lconst (pc := 26) (v := 0) X dX8_sheet_26 (by decide) ?_
      refine z_ldc2 (pc := 27) X dX8_sheet_27 mw_393 ?_
      refine z_callSi (pc := 30) (rm := rm8_fits) X [.long _, .long _, .long _] sX8_56 rfl rfl (Nat.le_of_ble_eq_true rfl) ⟨rfl, rfl, Nat.le_of_ble_eq_true rfl, Nat.le_of_ble_eq_true rfl⟩ dX8_sheet_30 h (fun _ _ q => cc8_fits q) (fun r3 S3 h => ?_)
      refine z_if_eq (pc := 33) (tgt := 40) X dX8_sheet_33 (by decide) h (fun h => ?_) (fun h => ?_)
      · exact z_sub [0, 1, 2, 3] rfl (zz8_sheet_40 X  _ _ _ _ h)
      · refine z_iconst (pc := 36) (v := 1) X dX8_sheet_36 (by decide) ?_
        refine z_goto (pc := 37) (tgt := 41) X dX8_sheet_37 (by decide) ?_
        exact z_sub [0, 1, 2, 3] rfl (zz8_sheet_41 X  _ _ _ _ _ h)
theorem cc8_sheet {l : Launch} {D : va_G} {cA : Nat → ClassId} {σ : Nat → Nat} {tS : Nat} {S S' : St} {x1 : Int32} {x2 : Int32} {x3 : Int32} {r : Int32} (h : J8_sheet S x1 x2 x3 = some (r, S')) : zMet l D cA σ shC tS yX8_sheet cX8_sheet 5 (some .boolean) rm8_sheet [.ref (σ 0), .int x1, .int x2, .int x3] S (some (.int r)) S' := z_met [(0, .ref (σ 0)), (1, .int x1), (2, .int x2), (3, .int x3)] (by decide +kernel) (Nat.le_of_ble_eq_true rfl) rfl (fun _ _ _ _ _ _ _ _ X => zz8_sheet_0 X _ _ _ _ h)
set_option maxRecDepth 100000 in
set_option maxHeartbeats 4000000 in
theorem zz8_status_0 {S' : St} {r : Int32} (X : zM p s m args meth c D cA σ shC tS RX8 cX8_status 1 (some .int)) : ∀ (S : St), J8_status S = some (r, S') → Zj p l e rm8_status s m args below meth c D cA σ shC 1 (some (.int r)) S' 0 [(0, .ref (σ 0))] [] S := by
  intro S h
  rw [J8_status] at h
  refine z_aload_n (pc := 0) X dX8_status_0 rfl 0 rfl ?_
  refine z_get (pc := 1) (v := .int _) X 0 fX8_43 rfl rfl dX8_status_1 rfl ?_
  exact z_iret X rfl dX8_status_4 h
theorem cc8_status {l : Launch} {D : va_G} {cA : Nat → ClassId} {σ : Nat → Nat} {tS : Nat} {S S' : St} {r : Int32} (h : J8_status S = some (r, S')) : zMet l D cA σ shC tS yX8_status cX8_status 1 (some .int) rm8_status [.ref (σ 0)] S (some (.int r)) S' := z_met [(0, .ref (σ 0))] (by decide +kernel) (Nat.le_of_ble_eq_true rfl) rfl (fun _ _ _ _ _ _ _ _ X => zz8_status_0 X _ h)
set_option maxRecDepth 100000 in
set_option maxHeartbeats 4000000 in
theorem zz8_sweep_10 {S' : St} {r : Int32} (X : zM p s m args meth c D cA σ shC tS RX8 cX8_sweep 4 (some .int)) : ∀ (S : St) (x1 : Int32) (x2 : Int32) (t0 : Int32), J8_sweep_10 S x1 x2 t0 = some (r, S') → Zj p l e rm8_sweep s m args below meth c D cA σ shC 4 (some (.int r)) S' 10 [(0, .ref (σ 0)), (1, .int x1), (2, .int x2)] [.int t0] S := by
  intro S x1 x2 t0 h
  rw [J8_sweep_10] at h
  refine z_istore_n (pc := 10) (L' := [(3, .int _), (0, .ref _), (1, .int _), (2, .int _)]) X dX8_sweep_10 rfl (by decide) rfl ?_
  refine z_aload_n (pc := 11) X dX8_sweep_11 rfl 1 rfl ?_
  refine z_iload_n (pc := 12) X dX8_sweep_12 rfl 0 rfl ?_
  refine z_aload_n (pc := 13) X dX8_sweep_13 rfl 1 rfl ?_
  refine z_iload_n (pc := 14) X dX8_sweep_14 rfl 2 rfl ?_
  refine z_iconst (pc := 15) (v := 1) X dX8_sweep_15 (by decide) ?_
  refine z_callVi (pc := 16) (rm := rm8_copyLack) X 0 [.int _, .int _] vX8_202 rfl rfl rfl (Nat.le_of_ble_eq_true rfl) ⟨rfl, rfl, Nat.le_of_ble_eq_true rfl, Nat.le_of_ble_eq_true rfl⟩ dX8_sweep_16 h (fun _ _ q => cc8_copyLack q) (fun r1 S1 h => ?_)
  refine z_aload_n (pc := 19) X dX8_sweep_19 rfl 1 rfl ?_
  refine z_iload_n (pc := 20) X dX8_sweep_20 rfl 3 rfl ?_
  refine z_iconst (pc := 21) (v := 1) X dX8_sweep_21 (by decide) ?_
  refine z_callVi (pc := 22) (rm := rm8_copyLack) X 0 [.int _, .int _] vX8_202 rfl rfl rfl (Nat.le_of_ble_eq_true rfl) ⟨rfl, rfl, Nat.le_of_ble_eq_true rfl, Nat.le_of_ble_eq_true rfl⟩ dX8_sweep_22 h (fun _ _ q => cc8_copyLack q) (fun r2 S2 h => ?_)
  refine z_callSi (pc := 25) (rm := rm8_first) X [.int _, .int _] sX8_84 rfl rfl (Nat.le_of_ble_eq_true rfl) ⟨rfl, rfl, Nat.le_of_ble_eq_true rfl, Nat.le_of_ble_eq_true rfl⟩ dX8_sweep_25 h (fun _ _ q => cc8_first q) (fun r3 S3 h => ?_)
  refine z_callSi (pc := 28) (rm := rm8_first) X [.int _, .int _] sX8_84 rfl rfl (Nat.le_of_ble_eq_true rfl) ⟨rfl, rfl, Nat.le_of_ble_eq_true rfl, Nat.le_of_ble_eq_true rfl⟩ dX8_sweep_28 h (fun _ _ q => cc8_first q) (fun r4 S4 h => ?_)
  refine z_callVi (pc := 31) (rm := rm8_passes) X 0 [.int _] vX8_62 rfl rfl rfl (Nat.le_of_ble_eq_true rfl) ⟨rfl, rfl, Nat.le_of_ble_eq_true rfl, Nat.le_of_ble_eq_true rfl⟩ dX8_sweep_31 h (fun _ _ q => cc8_passes q) (fun r5 S5 h => ?_)
  refine z_if_ne (pc := 34) (tgt := 39) X dX8_sweep_34 (by decide) h (fun h => ?_) (fun h => ?_)
  · refine z_aload_n (pc := 39) X dX8_sweep_39 rfl 1 rfl ?_
    refine z_get (pc := 40) (v := .ref (σ 17)) X 0 fX8_35 rfl rfl dX8_sweep_40 rfl ?_
    refine z_get (pc := 43) (v := .ref (σ 18)) X 17 fX8_206 rfl rfl dX8_sweep_43 rfl ?_
    refine z_iload_n (pc := 46) X dX8_sweep_46 rfl 2 rfl ?_
    refine z_iload_n (pc := 47) X dX8_sweep_47 rfl 3 rfl ?_
    refine z_callVi (pc := 48) (rm := rm1_level) X 18 [.int _, .int _] vX8_220 rfl rfl rfl (Nat.le_of_ble_eq_true rfl) ⟨rfl, rfl, Nat.le_of_ble_eq_true rfl, Nat.le_of_ble_eq_true rfl⟩ dX8_sweep_48 h (fun _ _ q => cc1_level q) (fun r6 S6 h => ?_)
    exact z_iret X rfl dX8_sweep_51 h
  · refine z_iconst (pc := 37) (v := -1) X dX8_sweep_37 (by decide) ?_
    exact z_iret X rfl dX8_sweep_38 h
set_option maxRecDepth 100000 in
set_option maxHeartbeats 4000000 in
theorem zz8_sweep_0 {S' : St} {r : Int32} (X : zM p s m args meth c D cA σ shC tS RX8 cX8_sweep 4 (some .int)) : ∀ (S : St) (x1 : Int32) (x2 : Int32), J8_sweep S x1 x2 = some (r, S') → Zj p l e rm8_sweep s m args below meth c D cA σ shC 4 (some (.int r)) S' 0 [(0, .ref (σ 0)), (1, .int x1), (2, .int x2)] [] S := by
  intro S x1 x2 h
  rw [J8_sweep] at h
  refine z_iload_n (pc := 0) X dX8_sweep_0 rfl 1 rfl ?_
  refine z_iload_n (pc := 1) X dX8_sweep_1 rfl 2 rfl ?_
  refine z_icmp_ne (pc := 2) (tgt := 9) X dX8_sweep_2 (by decide) h (fun h => ?_) (fun h => ?_)
  · refine z_iconst (pc := 9) (v := 0) X dX8_sweep_9 (by decide) ?_
    exact z_sub [0, 1, 2] rfl (zz8_sweep_10 X  _ _ _ _ h)
  · refine z_iconst (pc := 5) (v := 1) X dX8_sweep_5 (by decide) ?_
    refine z_goto (pc := 6) (tgt := 10) X dX8_sweep_6 (by decide) ?_
    exact z_sub [0, 1, 2] rfl (zz8_sweep_10 X  _ _ _ _ h)
theorem cc8_sweep {l : Launch} {D : va_G} {cA : Nat → ClassId} {σ : Nat → Nat} {tS : Nat} {S S' : St} {x1 : Int32} {x2 : Int32} {r : Int32} (h : J8_sweep S x1 x2 = some (r, S')) : zMet l D cA σ shC tS yX8_sweep cX8_sweep 4 (some .int) rm8_sweep [.ref (σ 0), .int x1, .int x2] S (some (.int r)) S' := z_met [(0, .ref (σ 0)), (1, .int x1), (2, .int x2)] (by decide +kernel) (Nat.le_of_ble_eq_true rfl) rfl (fun _ _ _ _ _ _ _ _ X => zz8_sweep_0 X _ _ _ h)
set_option maxRecDepth 100000 in
set_option maxHeartbeats 4000000 in
theorem zz8_weightsOf_64 {S' : St} {r : Int32} (X : zM p s m args meth c D cA σ shC tS RX8 cX8_weightsOf 8 (some .int)) : ∀ (S : St) (t0 : Int32), J8_weightsOf_64 S t0 = some (r, S') → Zj p l e rm8_weightsOf s m args below meth c D cA σ shC 8 (some (.int r)) S' 64 [] [.int t0] S := by
  intro S t0 h
  rw [J8_weightsOf_64] at h
  exact z_iret X rfl dX8_weightsOf_64 h
set_option maxRecDepth 100000 in
set_option maxHeartbeats 4000000 in
theorem zz8_weightsOf_5 {S' : St} {r : Int32} (X : zM p s m args meth c D cA σ shC tS RX8 cX8_weightsOf 8 (some .int)) : ∀ (n : Nat) (S : St) (x1 : Int32) (x2 : Int32) (x3 : Int64) (x5 : Int32), J8_weightsOf_5 n S x1 x2 x3 x5 = some (r, S') → Zj p l e rm8_weightsOf s m args below meth c D cA σ shC 8 (some (.int r)) S' 5 [(0, .ref (σ 0)), (1, .int x1), (2, .int x2), (3, .long x3), (5, .int x5)] [] S := by
  intro n
  induction n with
  | zero =>
    intro S x1 x2 x3 x5 h
    rw [J8_weightsOf_5] at h
    cases h
  | succ n ih =>
    intro S x1 x2 x3 x5 h
    rw [J8_weightsOf_5] at h
    refine z_iload (pc := 5) X dX8_weightsOf_5 4 rfl ?_
    refine z_iload_n (pc := 7) X dX8_weightsOf_7 rfl 2 rfl ?_
    refine z_icmp_ge (pc := 8) (tgt := 48) X dX8_weightsOf_8 (by decide) h (fun h => ?_) (fun h => ?_)
    · refine z_lload_n (pc := 48) X dX8_weightsOf_48 rfl 3 rfl ?_
      refine z_lconst (pc := 49) (v := 1) X dX8_weightsOf_49 (by decide) ?_
      refine z_ldc2 (pc := 50) X dX8_weightsOf_50 mw_472 ?_
      refine z_callSi (pc := 53) (rm := rm8_fits) X [.long _, .long _, .long _] sX8_56 rfl rfl (Nat.le_of_ble_eq_true rfl) ⟨rfl, rfl, Nat.le_of_ble_eq_true rfl, Nat.le_of_ble_eq_true rfl⟩ dX8_weightsOf_53 h (fun _ _ q => cc8_fits q) (fun r1 S1 h => ?_)
      refine z_if_eq (pc := 56) (tgt := 63) X dX8_weightsOf_56 (by decide) h (fun h => ?_) (fun h => ?_)
      · refine z_iconst (pc := 63) (v := 1) X dX8_weightsOf_63 (by decide) ?_
        exact z_sub [] rfl (zz8_weightsOf_64 X  _ _ h)
      · refine z_iconst (pc := 59) (v := 0) X dX8_weightsOf_59 (by decide) ?_
        refine z_goto (pc := 60) (tgt := 64) X dX8_weightsOf_60 (by decide) ?_
        exact z_sub [] rfl (zz8_weightsOf_64 X  _ _ h)
    · refine z_aload_n (pc := 11) X dX8_weightsOf_11 rfl 0 rfl ?_
      refine z_get (pc := 12) (v := .ref (σ 1)) X 0 fX8_10 rfl rfl dX8_weightsOf_12 rfl ?_
      refine z_iload_n (pc := 15) X dX8_weightsOf_15 rfl 1 rfl ?_
      refine z_iload (pc := 16) X dX8_weightsOf_16 4 rfl ?_
      refine z_callVl (pc := 18) (rm := rm6_at) X 1 [.int _, .int _] vX8_80 rfl rfl rfl (Nat.le_of_ble_eq_true rfl) ⟨rfl, rfl, Nat.le_of_ble_eq_true rfl, Nat.le_of_ble_eq_true rfl⟩ dX8_weightsOf_18 h (fun _ _ q => cc6_at q) (fun r2 S2 h => ?_)
      refine z_lstore (pc := 21) (L' := [(6, .long _), (0, .ref _), (1, .int _), (2, .int _), (3, .long _), (5, .int _)]) X dX8_weightsOf_21 (by decide) rfl ?_
      refine z_lload (pc := 23) X dX8_weightsOf_23 0 rfl ?_
      refine z_lconst (pc := 25) (v := 0) X dX8_weightsOf_25 (by decide) ?_
      refine z_ldc2 (pc := 26) X dX8_weightsOf_26 mw_472 ?_
      refine z_callSi (pc := 29) (rm := rm8_fits) X [.long _, .long _, .long _] sX8_56 rfl rfl (Nat.le_of_ble_eq_true rfl) ⟨rfl, rfl, Nat.le_of_ble_eq_true rfl, Nat.le_of_ble_eq_true rfl⟩ dX8_weightsOf_29 h (fun _ _ q => cc8_fits q) (fun r3 S3 h => ?_)
      refine z_if_ne (pc := 32) (tgt := 37) X dX8_weightsOf_32 (by decide) h (fun h => ?_) (fun h => ?_)
      · refine z_lload_n (pc := 37) X dX8_weightsOf_37 rfl 4 rfl ?_
        refine z_lload (pc := 38) X dX8_weightsOf_38 0 rfl ?_
        refine z_ladd (pc := 40) X dX8_weightsOf_40 ?_
        refine z_lstore_n (pc := 41) (L' := [(3, .long _), (6, .long _), (0, .ref _), (1, .int _), (2, .int _), (5, .int _)]) X dX8_weightsOf_41 rfl (by decide) rfl ?_
        refine z_let h (fun h => ?_)
        refine z_iinc (pc := 42) (k := 5) (v := 1) (L' := [(5, .int _), (3, .long _), (6, .long _), (0, .ref _), (1, .int _), (2, .int _)]) X dX8_weightsOf_42 rfl (by decide) (by decide) rfl ?_
        refine z_let h (fun h => ?_)
        refine z_goto (pc := 45) (tgt := 5) X dX8_weightsOf_45 (by decide) ?_
        exact z_sub [3, 4, 5, 1, 0] rfl (ih _ _ _ _ _ h)
      · refine z_iconst (pc := 35) (v := 1) X dX8_weightsOf_35 (by decide) ?_
        exact z_iret X rfl dX8_weightsOf_36 h
set_option maxRecDepth 100000 in
set_option maxHeartbeats 4000000 in
theorem zz8_weightsOf_0 {S' : St} {r : Int32} (X : zM p s m args meth c D cA σ shC tS RX8 cX8_weightsOf 8 (some .int)) : ∀ (S : St) (x1 : Int32) (x2 : Int32), J8_weightsOf S x1 x2 = some (r, S') → Zj p l e rm8_weightsOf s m args below meth c D cA σ shC 8 (some (.int r)) S' 0 [(0, .ref (σ 0)), (1, .int x1), (2, .int x2)] [] S := by
  intro S x1 x2 h
  rw [J8_weightsOf] at h
  refine z_lconst (pc := 0) (v := 0) X dX8_weightsOf_0 (by decide) ?_
  refine z_lstore_n (pc := 1) (L' := [(3, .long _), (0, .ref _), (1, .int _), (2, .int _)]) X dX8_weightsOf_1 rfl (by decide) rfl ?_
  refine z_iconst (pc := 2) (v := 0) X dX8_weightsOf_2 (by decide) ?_
  refine z_istore (pc := 3) (L' := [(5, .int _), (3, .long _), (0, .ref _), (1, .int _), (2, .int _)]) X dX8_weightsOf_3 (by decide) rfl ?_
  exact z_sub [2, 3, 4, 1, 0] rfl (zz8_weightsOf_5 X  fu _ _ _ _ _ h)
theorem cc8_weightsOf {l : Launch} {D : va_G} {cA : Nat → ClassId} {σ : Nat → Nat} {tS : Nat} {S S' : St} {x1 : Int32} {x2 : Int32} {r : Int32} (h : J8_weightsOf S x1 x2 = some (r, S')) : zMet l D cA σ shC tS yX8_weightsOf cX8_weightsOf 8 (some .int) rm8_weightsOf [.ref (σ 0), .int x1, .int x2] S (some (.int r)) S' := z_met [(0, .ref (σ 0)), (1, .int x1), (2, .int x2)] (by decide +kernel) (Nat.le_of_ble_eq_true rfl) rfl (fun _ _ _ _ _ _ _ _ X => zz8_weightsOf_0 X _ _ _ h)
set_option maxRecDepth 100000 in
set_option maxHeartbeats 4000000 in
theorem zz8_table_118 {S' : St} {r : Int32} (X : zM p s m args meth c D cA σ shC tS RX8 cX8_table 7 (some .boolean)) (k84 : St → Int32 → Int32 → Int32 → Int32 → Option (Int32 × St)) (hk84 : ∀ (S : St) (x1 : Int32) (x2 : Int32) (x3 : Int32) (x6 : Int32), k84 S x1 x2 x3 x6 = some (r, S') → Zj p l e rm8_table s m args below meth c D cA σ shC 7 (some (.int r)) S' 84 [(0, .ref (σ 0)), (1, .int x1), (2, .int x2), (3, .int x3), (6, .int x6)] [] S) : ∀ (S : St) (x1 : Int32) (x2 : Int32) (x3 : Int32) (x6 : Int32) (t0 : Int64) (t1 : Int32) (t2 : Int32), J8_table_118 k84 S x1 x2 x3 x6 t0 t1 t2 = some (r, S') → Zj p l e rm8_table s m args below meth c D cA σ shC 7 (some (.int r)) S' 118 [(0, .ref (σ 0)), (1, .int x1), (2, .int x2), (3, .int x3), (6, .int x6)] [.long t0, .int t1, .int t2, .ref (σ 5)] S := by
  intro S x1 x2 x3 x6 t0 t1 t2 h
  rw [J8_table_118] at h
  refine z_callVv (pc := 118) (rm := rm0_weigh) X 5 [.int _, .int _, .long _] vX8_117 rfl rfl rfl (Nat.le_of_ble_eq_true rfl) ⟨rfl, rfl, Nat.le_of_ble_eq_true rfl, Nat.le_of_ble_eq_true rfl⟩ dX8_table_118 h (fun _ _ q => cc0_weigh q) (fun _ S1 h => ?_)
  refine z_iinc (pc := 121) (k := 4) (v := 1) (L' := [(6, .int _), (0, .ref _), (1, .int _), (2, .int _), (3, .int _)]) X dX8_table_121 rfl (by decide) (by decide) rfl ?_
  refine z_let h (fun h => ?_)
  refine z_goto (pc := 124) (tgt := 84) X dX8_table_124 (by decide) ?_
  exact z_sub [1, 2, 3, 4, 0] rfl (hk84 _ _ _ _ _ h)
set_option maxRecDepth 100000 in
set_option maxHeartbeats 4000000 in
theorem zz8_table_84 {S' : St} {r : Int32} (X : zM p s m args meth c D cA σ shC tS RX8 cX8_table 7 (some .boolean)) : ∀ (n : Nat) (S : St) (x1 : Int32) (x2 : Int32) (x3 : Int32) (x6 : Int32), J8_table_84 n S x1 x2 x3 x6 = some (r, S') → Zj p l e rm8_table s m args below meth c D cA σ shC 7 (some (.int r)) S' 84 [(0, .ref (σ 0)), (1, .int x1), (2, .int x2), (3, .int x3), (6, .int x6)] [] S := by
  intro n
  induction n with
  | zero =>
    intro S x1 x2 x3 x6 h
    rw [J8_table_84] at h
    cases h
  | succ n ih =>
    intro S x1 x2 x3 x6 h
    rw [J8_table_84] at h
    refine z_iload (pc := 84) X dX8_table_84 4 rfl ?_
    refine z_bipush (pc := 86) (v := 8) X dX8_table_86 (by decide) ?_
    refine z_icmp_ge (pc := 88) (tgt := 127) X dX8_table_88 (by decide) h (fun h => ?_) (fun h => ?_)
    · refine z_iconst (pc := 127) (v := 1) X dX8_table_127 (by decide) ?_
      exact z_zret X rfl dX8_table_128 h
    · refine z_aload_n (pc := 91) X dX8_table_91 rfl 0 rfl ?_
      refine z_get (pc := 92) (v := .ref (σ 5)) X 0 fX8_19 rfl rfl dX8_table_92 rfl ?_
      refine z_iload_n (pc := 95) X dX8_table_95 rfl 1 rfl ?_
      refine z_iload (pc := 96) X dX8_table_96 4 rfl ?_
      refine z_iload (pc := 98) X dX8_table_98 4 rfl ?_
      refine z_iload_n (pc := 100) X dX8_table_100 rfl 3 rfl ?_
      refine z_icmp_ge (pc := 101) (tgt := 117) X dX8_table_101 (by decide) h (fun h => ?_) (fun h => ?_)
      · refine z_lconst (pc := 117) (v := 0) X dX8_table_117 (by decide) ?_
        exact z_sub [0, 1, 2, 3, 4] rfl (zz8_table_118 X _ ih _ _ _ _ _ _ _ _ h)
      · refine z_aload_n (pc := 104) X dX8_table_104 rfl 0 rfl ?_
        refine z_get (pc := 105) (v := .ref (σ 1)) X 0 fX8_10 rfl rfl dX8_table_105 rfl ?_
        refine z_iload_n (pc := 108) X dX8_table_108 rfl 2 rfl ?_
        refine z_iload (pc := 109) X dX8_table_109 4 rfl ?_
        refine z_callVl (pc := 111) (rm := rm6_at) X 1 [.int _, .int _] vX8_80 rfl rfl rfl (Nat.le_of_ble_eq_true rfl) ⟨rfl, rfl, Nat.le_of_ble_eq_true rfl, Nat.le_of_ble_eq_true rfl⟩ dX8_table_111 h (fun _ _ q => cc6_at q) (fun r1 S1 h => ?_)
        refine z_goto (pc := 114) (tgt := 118) X dX8_table_114 (by decide) ?_
        exact z_sub [0, 1, 2, 3, 4] rfl (zz8_table_118 X _ ih _ _ _ _ _ _ _ _ h)
set_option maxRecDepth 100000 in
set_option maxHeartbeats 4000000 in
theorem zz8_table_73 {S' : St} {r : Int32} (X : zM p s m args meth c D cA σ shC tS RX8 cX8_table 7 (some .boolean)) : ∀ (S : St) (x1 : Int32) (x2 : Int32) (x3 : Int32) (t0 : Int32), J8_table_73 S x1 x2 x3 t0 = some (r, S') → Zj p l e rm8_table s m args below meth c D cA σ shC 7 (some (.int r)) S' 73 [(0, .ref (σ 0)), (1, .int x1), (2, .int x2), (3, .int x3)] [.int t0, .ref (σ 0)] S := by
  intro S x1 x2 x3 t0 h
  rw [J8_table_73] at h
  refine z_callVi (pc := 73) (rm := rm8_passes) X 0 [.int _] vX8_62 rfl rfl rfl (Nat.le_of_ble_eq_true rfl) ⟨rfl, rfl, Nat.le_of_ble_eq_true rfl, Nat.le_of_ble_eq_true rfl⟩ dX8_table_73 h (fun _ _ q => cc8_passes q) (fun r1 S1 h => ?_)
  refine z_if_ne (pc := 76) (tgt := 81) X dX8_table_76 (by decide) h (fun h => ?_) (fun h => ?_)
  · refine z_iconst (pc := 81) (v := 0) X dX8_table_81 (by decide) ?_
    refine z_istore (pc := 82) (L' := [(6, .int _), (0, .ref _), (1, .int _), (2, .int _), (3, .int _)]) X dX8_table_82 (by decide) rfl ?_
    exact z_sub [1, 2, 3, 4, 0] rfl (zz8_table_84 X  fu _ _ _ _ _ h)
  · refine z_iconst (pc := 79) (v := 0) X dX8_table_79 (by decide) ?_
    exact z_zret X rfl dX8_table_80 h
set_option maxRecDepth 100000 in
set_option maxHeartbeats 4000000 in
theorem zz8_table_41 {S' : St} {r : Int32} (X : zM p s m args meth c D cA σ shC tS RX8 cX8_table 7 (some .boolean)) : ∀ (S : St) (x1 : Int32) (x2 : Int32) (x3 : Int32) (t0 : Int32), J8_table_41 S x1 x2 x3 t0 = some (r, S') → Zj p l e rm8_table s m args below meth c D cA σ shC 7 (some (.int r)) S' 41 [(0, .ref (σ 0)), (1, .int x1), (2, .int x2), (3, .int x3)] [.int t0] S := by
  intro S x1 x2 x3 t0 h
  rw [J8_table_41] at h
  refine z_aload_n (pc := 41) X dX8_table_41 rfl 0 rfl ?_
  refine z_get (pc := 42) (v := .ref (σ 1)) X 0 fX8_10 rfl rfl dX8_table_42 rfl ?_
  refine z_iload_n (pc := 45) X dX8_table_45 rfl 2 rfl ?_
  refine z_iconst (pc := 46) (v := 0) X dX8_table_46 (by decide) ?_
  refine z_iload_n (pc := 47) X dX8_table_47 rfl 3 rfl ?_
  refine z_callVi (pc := 48) (rm := rm6_lack) X 1 [.int _, .int _, .int _] vX8_70 rfl rfl rfl (Nat.le_of_ble_eq_true rfl) ⟨rfl, rfl, Nat.le_of_ble_eq_true rfl, Nat.le_of_ble_eq_true rfl⟩ dX8_table_48 h (fun _ _ q => cc6_lack q) (fun r1 S1 h => ?_)
  refine z_callSi (pc := 51) (rm := rm8_first) X [.int _, .int _] sX8_84 rfl rfl (Nat.le_of_ble_eq_true rfl) ⟨rfl, rfl, Nat.le_of_ble_eq_true rfl, Nat.le_of_ble_eq_true rfl⟩ dX8_table_51 h (fun _ _ q => cc8_first q) (fun r2 S2 h => ?_)
  refine z_istore (pc := 54) (L' := [(5, .int _), (0, .ref _), (1, .int _), (2, .int _), (3, .int _)]) X dX8_table_54 (by decide) rfl ?_
  refine z_aload_n (pc := 56) X dX8_table_56 rfl 1 rfl ?_
  refine z_iload (pc := 57) X dX8_table_57 0 rfl ?_
  refine z_if_ne (pc := 59) (tgt := 71) X dX8_table_59 (by decide) h (fun h => ?_) (fun h => ?_)
  · refine z_iload (pc := 71) X dX8_table_71 0 rfl ?_
    exact z_sub [1, 2, 3, 4] rfl (zz8_table_73 X  _ _ _ _ _ h)
  · refine z_aload_n (pc := 62) X dX8_table_62 rfl 1 rfl ?_
    refine z_iload_n (pc := 63) X dX8_table_63 rfl 3 rfl ?_
    refine z_iload_n (pc := 64) X dX8_table_64 rfl 4 rfl ?_
    refine z_callVi (pc := 65) (rm := rm8_weightsOf) X 0 [.int _, .int _] vX8_114 rfl rfl rfl (Nat.le_of_ble_eq_true rfl) ⟨rfl, rfl, Nat.le_of_ble_eq_true rfl, Nat.le_of_ble_eq_true rfl⟩ dX8_table_65 h (fun _ _ q => cc8_weightsOf q) (fun r3 S3 h => ?_)
    refine z_goto (pc := 68) (tgt := 73) X dX8_table_68 (by decide) ?_
    exact z_sub [1, 2, 3, 4] rfl (zz8_table_73 X  _ _ _ _ _ h)
set_option maxRecDepth 100000 in
set_option maxHeartbeats 4000000 in
theorem zz8_table_29 {S' : St} {r : Int32} (X : zM p s m args meth c D cA σ shC tS RX8 cX8_table 7 (some .boolean)) : ∀ (S : St) (x1 : Int32) (x2 : Int32) (x3 : Int32) (t0 : Int32), J8_table_29 S x1 x2 x3 t0 = some (r, S') → Zj p l e rm8_table s m args below meth c D cA σ shC 7 (some (.int r)) S' 29 [(0, .ref (σ 0)), (1, .int x1), (2, .int x2), (3, .int x3)] [.int t0] S := by
  intro S x1 x2 x3 t0 h
  rw [J8_table_29] at h
  refine z_istore (pc := 29) (L' := [(4, .int _), (0, .ref _), (1, .int _), (2, .int _), (3, .int _)]) X dX8_table_29 (by decide) rfl ?_
  refine z_iload (pc := 31) X dX8_table_31 0 rfl ?_
  refine z_if_eq (pc := 33) (tgt := 40) X dX8_table_33 (by decide) h (fun h => ?_) (fun h => ?_)
  · refine z_iconst (pc := 40) (v := 1) X dX8_table_40 (by decide) ?_
    exact z_sub [1, 2, 3, 4] rfl (zz8_table_41 X  _ _ _ _ _ h)
  · refine z_iconst (pc := 36) (v := 0) X dX8_table_36 (by decide) ?_
    refine z_goto (pc := 37) (tgt := 41) X dX8_table_37 (by decide) ?_
    exact z_sub [1, 2, 3, 4] rfl (zz8_table_41 X  _ _ _ _ _ h)
set_option maxRecDepth 100000 in
set_option maxHeartbeats 4000000 in
theorem zz8_table_28 {S' : St} {r : Int32} (X : zM p s m args meth c D cA σ shC tS RX8 cX8_table 7 (some .boolean)) : ∀ (S : St) (x1 : Int32) (x2 : Int32) (x3 : Int32), J8_table_28 S x1 x2 x3 = some (r, S') → Zj p l e rm8_table s m args below meth c D cA σ shC 7 (some (.int r)) S' 28 [(0, .ref (σ 0)), (1, .int x1), (2, .int x2), (3, .int x3)] [] S := by
  intro S x1 x2 x3 h
  rw [J8_table_28] at h
  refine z_iconst (pc := 28) (v := 0) X dX8_table_28 (by decide) ?_
  exact z_sub [0, 1, 2, 3] rfl (zz8_table_29 X  _ _ _ _ _ h)
set_option maxRecDepth 100000 in
set_option maxHeartbeats 4000000 in
theorem zz8_table_0 {S' : St} {r : Int32} (X : zM p s m args meth c D cA σ shC tS RX8 cX8_table 7 (some .boolean)) : ∀ (S : St) (x1 : Int32) (x2 : Int32) (x3 : Int32), J8_table S x1 x2 x3 = some (r, S') → Zj p l e rm8_table s m args below meth c D cA σ shC 7 (some (.int r)) S' 0 [(0, .ref (σ 0)), (1, .int x1), (2, .int x2), (3, .int x3)] [] S := by
  intro S x1 x2 x3 h
  rw [J8_table] at h
  refine z_iload_n (pc := 0) X dX8_table_0 rfl 1 rfl ?_
  refine z_i2l (pc := 1) X dX8_table_1 ?_
  refine z_lconst (pc := 2) (v := 0) X dX8_table_2 (by decide) ?_
  refine z_ldc2 (pc := 3) X dX8_table_3 mw_389 ?_
  refine z_callSi (pc := 6) (rm := rm8_fits) X [.long _, .long _, .long _] sX8_56 rfl rfl (Nat.le_of_ble_eq_true rfl) ⟨rfl, rfl, Nat.le_of_ble_eq_true rfl, Nat.le_of_ble_eq_true rfl⟩ dX8_table_6 h (fun _ _ q => cc8_fits q) (fun r1 S1 h => ?_)
  refine z_if_eq (pc := 9) (tgt := 28) X dX8_table_9 (by decide) h (fun h => ?_) (fun h => ?_)
  · exact z_sub [0, 1, 2, 3] rfl (zz8_table_28 X  _ _ _ _ h)
  · refine z_iload_n (pc := 12) X dX8_table_12 rfl 3 rfl ?_
    refine z_i2l (pc := 13) X dX8_table_13 ?_
    refine z_lconst (pc := 14) (v := 1) X dX8_table_14 (by decide) ?_
    refine z_ldc2 (pc := 15) X dX8_table_15 mw_472 ?_
    refine z_callSi (pc := 18) (rm := rm8_fits) X [.long _, .long _, .long _] sX8_56 rfl rfl (Nat.le_of_ble_eq_true rfl) ⟨rfl, rfl, Nat.le_of_ble_eq_true rfl, Nat.le_of_ble_eq_true rfl⟩ dX8_table_18 h (fun _ _ q => cc8_fits q) (fun r2 S2 h => ?_)
    refine z_if_eq (pc := 21) (tgt := 28) X dX8_table_21 (by decide) h (fun h => ?_) (fun h => ?_)
    · exact z_sub [0, 1, 2, 3] rfl (zz8_table_28 X  _ _ _ _ h)
    · refine z_iconst (pc := 24) (v := 1) X dX8_table_24 (by decide) ?_
      refine z_goto (pc := 25) (tgt := 29) X dX8_table_25 (by decide) ?_
      exact z_sub [0, 1, 2, 3] rfl (zz8_table_29 X  _ _ _ _ _ h)
theorem cc8_table {l : Launch} {D : va_G} {cA : Nat → ClassId} {σ : Nat → Nat} {tS : Nat} {S S' : St} {x1 : Int32} {x2 : Int32} {x3 : Int32} {r : Int32} (h : J8_table S x1 x2 x3 = some (r, S')) : zMet l D cA σ shC tS yX8_table cX8_table 7 (some .boolean) rm8_table [.ref (σ 0), .int x1, .int x2, .int x3] S (some (.int r)) S' := z_met [(0, .ref (σ 0)), (1, .int x1), (2, .int x2), (3, .int x3)] (by decide +kernel) (Nat.le_of_ble_eq_true rfl) rfl (fun _ _ _ _ _ _ _ _ X => zz8_table_0 X _ _ _ _ h)
set_option maxRecDepth 100000 in
set_option maxHeartbeats 4000000 in
theorem zz8_takes_18 {S' : St} {r : Int32} (X : zM p s m args meth c D cA σ shC tS RX8 cX8_takes 3 (some .int)) : ∀ (S : St) (x1 : Int32) (x2 : Int32) (t0 : Int32), J8_takes_18 S x1 x2 t0 = some (r, S') → Zj p l e rm8_takes s m args below meth c D cA σ shC 3 (some (.int r)) S' 18 [(0, .ref (σ 0)), (1, .int x1), (2, .int x2)] [.int t0, .ref (σ 0)] S := by
  intro S x1 x2 t0 h
  rw [J8_takes_18] at h
  refine z_callVi (pc := 18) (rm := rm8_passes) X 0 [.int _] vX8_62 rfl rfl rfl (Nat.le_of_ble_eq_true rfl) ⟨rfl, rfl, Nat.le_of_ble_eq_true rfl, Nat.le_of_ble_eq_true rfl⟩ dX8_takes_18 h (fun _ _ q => cc8_passes q) (fun r1 S1 h => ?_)
  refine z_if_ne (pc := 21) (tgt := 26) X dX8_takes_21 (by decide) h (fun h => ?_) (fun h => ?_)
  · refine z_aload_n (pc := 26) X dX8_takes_26 rfl 0 rfl ?_
    refine z_get (pc := 27) (v := .ref (σ 8)) X 0 fX8_28 rfl rfl dX8_takes_27 rfl ?_
    refine z_iload_n (pc := 30) X dX8_takes_30 rfl 1 rfl ?_
    refine z_iload_n (pc := 31) X dX8_takes_31 rfl 2 rfl ?_
    refine z_callVi (pc := 32) (rm := rm2_tellTakes) X 8 [.int _, .int _] vX8_122 rfl rfl rfl (Nat.le_of_ble_eq_true rfl) ⟨rfl, rfl, Nat.le_of_ble_eq_true rfl, Nat.le_of_ble_eq_true rfl⟩ dX8_takes_32 h (fun _ _ q => cc2_tellTakes q) (fun r2 S2 h => ?_)
    exact z_iret X rfl dX8_takes_35 h
  · refine z_iconst (pc := 24) (v := -1) X dX8_takes_24 (by decide) ?_
    exact z_iret X rfl dX8_takes_25 h
set_option maxRecDepth 100000 in
set_option maxHeartbeats 4000000 in
theorem zz8_takes_0 {S' : St} {r : Int32} (X : zM p s m args meth c D cA σ shC tS RX8 cX8_takes 3 (some .int)) : ∀ (S : St) (x1 : Int32) (x2 : Int32), J8_takes S x1 x2 = some (r, S') → Zj p l e rm8_takes s m args below meth c D cA σ shC 3 (some (.int r)) S' 0 [(0, .ref (σ 0)), (1, .int x1), (2, .int x2)] [] S := by
  intro S x1 x2 h
  rw [J8_takes] at h
  refine z_aload_n (pc := 0) X dX8_takes_0 rfl 0 rfl ?_
  refine z_iload_n (pc := 1) X dX8_takes_1 rfl 2 rfl ?_
  refine z_i2l (pc := 2) X dX8_takes_2 ?_
  refine z_lconst (pc := 3) (v := 0) X dX8_takes_3 (by decide) ?_
  refine z_ldc2 (pc := 4) X dX8_takes_4 mw_482 ?_
  refine z_callSi (pc := 7) (rm := rm8_fits) X [.long _, .long _, .long _] sX8_56 rfl rfl (Nat.le_of_ble_eq_true rfl) ⟨rfl, rfl, Nat.le_of_ble_eq_true rfl, Nat.le_of_ble_eq_true rfl⟩ dX8_takes_7 h (fun _ _ q => cc8_fits q) (fun r1 S1 h => ?_)
  refine z_if_eq (pc := 10) (tgt := 17) X dX8_takes_10 (by decide) h (fun h => ?_) (fun h => ?_)
  · refine z_iconst (pc := 17) (v := 1) X dX8_takes_17 (by decide) ?_
    exact z_sub [0, 1, 2] rfl (zz8_takes_18 X  _ _ _ _ h)
  · refine z_iconst (pc := 13) (v := 0) X dX8_takes_13 (by decide) ?_
    refine z_goto (pc := 14) (tgt := 18) X dX8_takes_14 (by decide) ?_
    exact z_sub [0, 1, 2] rfl (zz8_takes_18 X  _ _ _ _ h)
theorem cc8_takes {l : Launch} {D : va_G} {cA : Nat → ClassId} {σ : Nat → Nat} {tS : Nat} {S S' : St} {x1 : Int32} {x2 : Int32} {r : Int32} (h : J8_takes S x1 x2 = some (r, S')) : zMet l D cA σ shC tS yX8_takes cX8_takes 3 (some .int) rm8_takes [.ref (σ 0), .int x1, .int x2] S (some (.int r)) S' := z_met [(0, .ref (σ 0)), (1, .int x1), (2, .int x2)] (by decide +kernel) (Nat.le_of_ble_eq_true rfl) rfl (fun _ _ _ _ _ _ _ _ X => zz8_takes_0 X _ _ _ h)
set_option maxRecDepth 100000 in
set_option maxHeartbeats 4000000 in
theorem zz8_tell_0 {S' : St} {r : Int32} (X : zM p s m args meth c D cA σ shC tS RX8 cX8_tell 2 (some .int)) : ∀ (S : St) (x1 : Int32), J8_tell S x1 = some (r, S') → Zj p l e rm8_tell s m args below meth c D cA σ shC 2 (some (.int r)) S' 0 [(0, .ref (σ 0)), (1, .int x1)] [] S := by
  intro S x1 h
  rw [J8_tell] at h
  refine z_aload_n (pc := 0) X dX8_tell_0 rfl 0 rfl ?_
  refine z_aload_n (pc := 1) X dX8_tell_1 rfl 0 rfl ?_
  refine z_iload_n (pc := 2) X dX8_tell_2 rfl 1 rfl ?_
  refine z_i2l (pc := 3) X dX8_tell_3 ?_
  refine z_lconst (pc := 4) (v := 0) X dX8_tell_4 (by decide) ?_
  refine z_ldc2 (pc := 5) X dX8_tell_5 mw_802 ?_
  refine z_callSi (pc := 8) (rm := rm8_fits) X [.long _, .long _, .long _] sX8_56 rfl rfl (Nat.le_of_ble_eq_true rfl) ⟨rfl, rfl, Nat.le_of_ble_eq_true rfl, Nat.le_of_ble_eq_true rfl⟩ dX8_tell_8 h (fun _ _ q => cc8_fits q) (fun r1 S1 h => ?_)
  refine z_callVi (pc := 11) (rm := rm8_runLack) X 0 [.int _] vX8_152 rfl rfl rfl (Nat.le_of_ble_eq_true rfl) ⟨rfl, rfl, Nat.le_of_ble_eq_true rfl, Nat.le_of_ble_eq_true rfl⟩ dX8_tell_11 h (fun _ _ q => cc8_runLack q) (fun r2 S2 h => ?_)
  refine z_callVi (pc := 14) (rm := rm8_passes) X 0 [.int _] vX8_62 rfl rfl rfl (Nat.le_of_ble_eq_true rfl) ⟨rfl, rfl, Nat.le_of_ble_eq_true rfl, Nat.le_of_ble_eq_true rfl⟩ dX8_tell_14 h (fun _ _ q => cc8_passes q) (fun r3 S3 h => ?_)
  refine z_if_ne (pc := 17) (tgt := 22) X dX8_tell_17 (by decide) h (fun h => ?_) (fun h => ?_)
  · refine z_iload_n (pc := 22) X dX8_tell_22 rfl 1 rfl ?_
    refine z_arm h (fun hx h => ?_) (fun hx0 h => ?_)
    · refine z_tsIn (pc := 23) (tgt := 60) X 0 hx dX8_tell_23 (by decide) (by decide) rfl (by decide) ?_
      refine z_aload_n (pc := 60) X dX8_tell_60 rfl 0 rfl ?_
      refine z_get (pc := 61) (v := .ref (σ 17)) X 0 fX8_35 rfl rfl dX8_tell_61 rfl ?_
      refine z_get (pc := 64) (v := .int _) X 17 fX8_185 rfl rfl dX8_tell_64 rfl ?_
      exact z_iret X rfl dX8_tell_67 h
    · skip
      refine z_arm h (fun hx h => ?_) (fun hx1 h => ?_)
      · refine z_tsIn (pc := 23) (tgt := 68) X 1 hx dX8_tell_23 (by decide) (by decide) rfl (by decide) ?_
        refine z_aload_n (pc := 68) X dX8_tell_68 rfl 0 rfl ?_
        refine z_get (pc := 69) (v := .ref (σ 17)) X 0 fX8_35 rfl rfl dX8_tell_69 rfl ?_
        refine z_get (pc := 72) (v := .ref (σ 29)) X 17 fX8_163 rfl rfl dX8_tell_72 rfl ?_
        refine z_get (pc := 75) (v := .int _) X 29 fX8_167 rfl rfl dX8_tell_75 rfl ?_
        exact z_iret X rfl dX8_tell_78 h
      · skip
        refine z_arm h (fun hx h => ?_) (fun hx2 h => ?_)
        · refine z_tsIn (pc := 23) (tgt := 79) X 2 hx dX8_tell_23 (by decide) (by decide) rfl (by decide) ?_
          refine z_aload_n (pc := 79) X dX8_tell_79 rfl 0 rfl ?_
          refine z_get (pc := 80) (v := .ref (σ 17)) X 0 fX8_35 rfl rfl dX8_tell_80 rfl ?_
          refine z_get (pc := 83) (v := .ref (σ 32)) X 17 fX8_191 rfl rfl dX8_tell_83 rfl ?_
          refine z_get (pc := 86) (v := .int _) X 32 fX8_195 rfl rfl dX8_tell_86 rfl ?_
          exact z_iret X rfl dX8_tell_89 h
        · skip
          refine z_arm h (fun hx h => ?_) (fun hx3 h => ?_)
          · refine z_tsIn (pc := 23) (tgt := 90) X 3 hx dX8_tell_23 (by decide) (by decide) rfl (by decide) ?_
            refine z_aload_n (pc := 90) X dX8_tell_90 rfl 0 rfl ?_
            refine z_get (pc := 91) (v := .ref (σ 17)) X 0 fX8_35 rfl rfl dX8_tell_91 rfl ?_
            refine z_get (pc := 94) (v := .ref (σ 22)) X 17 fX8_258 rfl rfl dX8_tell_94 rfl ?_
            refine z_get (pc := 97) (v := .int _) X 22 fX8_262 rfl rfl dX8_tell_97 rfl ?_
            exact z_iret X rfl dX8_tell_100 h
          · skip
            refine z_arm h (fun hx h => ?_) (fun hx4 h => ?_)
            · refine z_tsIn (pc := 23) (tgt := 101) X 4 hx dX8_tell_23 (by decide) (by decide) rfl (by decide) ?_
              refine z_aload_n (pc := 101) X dX8_tell_101 rfl 0 rfl ?_
              refine z_get (pc := 102) (v := .ref (σ 17)) X 0 fX8_35 rfl rfl dX8_tell_102 rfl ?_
              refine z_get (pc := 105) (v := .ref (σ 18)) X 17 fX8_206 rfl rfl dX8_tell_105 rfl ?_
              refine z_get (pc := 108) (v := .int _) X 18 fX8_265 rfl rfl dX8_tell_108 rfl ?_
              exact z_iret X rfl dX8_tell_111 h
            · skip
              refine z_arm h (fun hx h => ?_) (fun hx5 h => ?_)
              · refine z_tsIn (pc := 23) (tgt := 112) X 5 hx dX8_tell_23 (by decide) (by decide) rfl (by decide) ?_
                refine z_aload_n (pc := 112) X dX8_tell_112 rfl 0 rfl ?_
                refine z_get (pc := 113) (v := .ref (σ 17)) X 0 fX8_35 rfl rfl dX8_tell_113 rfl ?_
                refine z_get (pc := 116) (v := .int _) X 17 fX8_268 rfl rfl dX8_tell_116 rfl ?_
                exact z_iret X rfl dX8_tell_119 h
              · skip
                have hs0 := lv_neT hx0 (a := 0) (by decide)
                have hs1 := lv_neT hx1 (a := 1) (by decide)
                have hs2 := lv_neT hx2 (a := 2) (by decide)
                have hs3 := lv_neT hx3 (a := 3) (by decide)
                have hs4 := lv_neT hx4 (a := 4) (by decide)
                have hs5 := lv_neT hx5 (a := 5) (by decide)
                refine z_tsOut (pc := 23) (tgt := 120) X dX8_tell_23 (by omega) (by decide) ?_
                refine z_aload_n (pc := 120) X dX8_tell_120 rfl 0 rfl ?_
                refine z_get (pc := 121) (v := .ref (σ 17)) X 0 fX8_35 rfl rfl dX8_tell_121 rfl ?_
                refine z_get (pc := 124) (v := .int _) X 17 fX8_271 rfl rfl dX8_tell_124 rfl ?_
                exact z_iret X rfl dX8_tell_127 h
  · refine z_iconst (pc := 20) (v := -1) X dX8_tell_20 (by decide) ?_
    exact z_iret X rfl dX8_tell_21 h
theorem cc8_tell {l : Launch} {D : va_G} {cA : Nat → ClassId} {σ : Nat → Nat} {tS : Nat} {S S' : St} {x1 : Int32} {r : Int32} (h : J8_tell S x1 = some (r, S')) : zMet l D cA σ shC tS yX8_tell cX8_tell 2 (some .int) rm8_tell [.ref (σ 0), .int x1] S (some (.int r)) S' := z_met [(0, .ref (σ 0)), (1, .int x1)] (by decide +kernel) (Nat.le_of_ble_eq_true rfl) rfl (fun _ _ _ _ _ _ _ _ X => zz8_tell_0 X _ _ h)
set_option maxRecDepth 100000 in
set_option maxHeartbeats 4000000 in
theorem zz8_top_0 {S' : St} {r : Int64} (X : zM p s m args meth c D cA σ shC tS RX8 cX8_top 1 (some .long)) : ∀ (S : St), J8_top S = some (r, S') → Zj p l e rm8_top s m args below meth c D cA σ shC 1 (some (.long r)) S' 0 [(0, .ref (σ 0))] [] S := by
  intro S h
  rw [J8_top] at h
  refine z_aload_n (pc := 0) X dX8_top_0 rfl 0 rfl ?_
  refine z_get (pc := 1) (v := .ref (σ 5)) X 0 fX8_19 rfl rfl dX8_top_1 rfl ?_
  refine z_get (pc := 4) (v := .long _) X 5 fX8_47 rfl rfl dX8_top_4 rfl ?_
  exact z_lret X rfl dX8_top_7 h
theorem cc8_top {l : Launch} {D : va_G} {cA : Nat → ClassId} {σ : Nat → Nat} {tS : Nat} {S S' : St} {r : Int64} (h : J8_top S = some (r, S')) : zMet l D cA σ shC tS yX8_top cX8_top 1 (some .long) rm8_top [.ref (σ 0)] S (some (.long r)) S' := z_met [(0, .ref (σ 0))] (by decide +kernel) (Nat.le_of_ble_eq_true rfl) rfl (fun _ _ _ _ _ _ _ _ X => zz8_top_0 X _ h)
set_option maxRecDepth 100000 in
set_option maxHeartbeats 4000000 in
theorem zz8_up_0 {S' : St} {r : Int32} (X : zM p s m args meth c D cA σ shC tS RX8 cX8_up 2 (some .int)) : ∀ (S : St) (x1 : Int32), J8_up S x1 = some (r, S') → Zj p l e rm8_up s m args below meth c D cA σ shC 2 (some (.int r)) S' 0 [(0, .ref (σ 0)), (1, .int x1)] [] S := by
  intro S x1 h
  rw [J8_up] at h
  refine z_aload_n (pc := 0) X dX8_up_0 rfl 0 rfl ?_
  refine z_aload_n (pc := 1) X dX8_up_1 rfl 0 rfl ?_
  refine z_iload_n (pc := 2) X dX8_up_2 rfl 1 rfl ?_
  refine z_iconst (pc := 3) (v := 0) X dX8_up_3 (by decide) ?_
  refine z_callVi (pc := 4) (rm := rm8_copyLack) X 0 [.int _, .int _] vX8_202 rfl rfl rfl (Nat.le_of_ble_eq_true rfl) ⟨rfl, rfl, Nat.le_of_ble_eq_true rfl, Nat.le_of_ble_eq_true rfl⟩ dX8_up_4 h (fun _ _ q => cc8_copyLack q) (fun r1 S1 h => ?_)
  refine z_callVi (pc := 7) (rm := rm8_passes) X 0 [.int _] vX8_62 rfl rfl rfl (Nat.le_of_ble_eq_true rfl) ⟨rfl, rfl, Nat.le_of_ble_eq_true rfl, Nat.le_of_ble_eq_true rfl⟩ dX8_up_7 h (fun _ _ q => cc8_passes q) (fun r2 S2 h => ?_)
  refine z_if_ne (pc := 10) (tgt := 15) X dX8_up_10 (by decide) h (fun h => ?_) (fun h => ?_)
  · refine z_aload_n (pc := 15) X dX8_up_15 rfl 0 rfl ?_
    refine z_get (pc := 16) (v := .ref (σ 17)) X 0 fX8_35 rfl rfl dX8_up_16 rfl ?_
    refine z_get (pc := 19) (v := .ref (σ 18)) X 17 fX8_206 rfl rfl dX8_up_19 rfl ?_
    refine z_iload_n (pc := 22) X dX8_up_22 rfl 1 rfl ?_
    refine z_callVi (pc := 23) (rm := rm1_rise) X 18 [.int _] vX8_216 rfl rfl rfl (Nat.le_of_ble_eq_true rfl) ⟨rfl, rfl, Nat.le_of_ble_eq_true rfl, Nat.le_of_ble_eq_true rfl⟩ dX8_up_23 h (fun _ _ q => cc1_rise q) (fun r3 S3 h => ?_)
    exact z_iret X rfl dX8_up_26 h
  · refine z_iconst (pc := 13) (v := -1) X dX8_up_13 (by decide) ?_
    exact z_iret X rfl dX8_up_14 h
theorem cc8_up {l : Launch} {D : va_G} {cA : Nat → ClassId} {σ : Nat → Nat} {tS : Nat} {S S' : St} {x1 : Int32} {r : Int32} (h : J8_up S x1 = some (r, S')) : zMet l D cA σ shC tS yX8_up cX8_up 2 (some .int) rm8_up [.ref (σ 0), .int x1] S (some (.int r)) S' := z_met [(0, .ref (σ 0)), (1, .int x1)] (by decide +kernel) (Nat.le_of_ble_eq_true rfl) rfl (fun _ _ _ _ _ _ _ _ X => zz8_up_0 X _ _ h)
set_option maxRecDepth 100000 in
set_option maxHeartbeats 4000000 in
theorem zz8_write_0 {S' : St} {r : Int32} (X : zM p s m args meth c D cA σ shC tS RX8 cX8_write 5 (some .boolean)) : ∀ (S : St) (x1 : Int32) (x2 : Int32) (x3 : Int64), J8_write S x1 x2 x3 = some (r, S') → Zj p l e rm8_write s m args below meth c D cA σ shC 5 (some (.int r)) S' 0 [(0, .ref (σ 0)), (1, .int x1), (2, .int x2), (3, .long x3)] [] S := by
  intro S x1 x2 x3 h
  rw [J8_write] at h
  refine z_aload_n (pc := 0) X dX8_write_0 rfl 0 rfl ?_
  refine z_aload_n (pc := 1) X dX8_write_1 rfl 0 rfl ?_
  refine z_get (pc := 2) (v := .ref (σ 1)) X 0 fX8_10 rfl rfl dX8_write_2 rfl ?_
  refine z_iload_n (pc := 5) X dX8_write_5 rfl 1 rfl ?_
  refine z_iload_n (pc := 6) X dX8_write_6 rfl 2 rfl ?_
  refine z_iconst (pc := 7) (v := 1) X dX8_write_7 (by decide) ?_
  refine z_callVi (pc := 8) (rm := rm6_lack) X 1 [.int _, .int _, .int _] vX8_70 rfl rfl rfl (Nat.le_of_ble_eq_true rfl) ⟨rfl, rfl, Nat.le_of_ble_eq_true rfl, Nat.le_of_ble_eq_true rfl⟩ dX8_write_8 h (fun _ _ q => cc6_lack q) (fun r1 S1 h => ?_)
  refine z_callVi (pc := 11) (rm := rm8_passes) X 0 [.int _] vX8_62 rfl rfl rfl (Nat.le_of_ble_eq_true rfl) ⟨rfl, rfl, Nat.le_of_ble_eq_true rfl, Nat.le_of_ble_eq_true rfl⟩ dX8_write_11 h (fun _ _ q => cc8_passes q) (fun r2 S2 h => ?_)
  refine z_if_ne (pc := 14) (tgt := 19) X dX8_write_14 (by decide) h (fun h => ?_) (fun h => ?_)
  · refine z_aload_n (pc := 19) X dX8_write_19 rfl 0 rfl ?_
    refine z_get (pc := 20) (v := .ref (σ 1)) X 0 fX8_10 rfl rfl dX8_write_20 rfl ?_
    refine z_iload_n (pc := 23) X dX8_write_23 rfl 1 rfl ?_
    refine z_iload_n (pc := 24) X dX8_write_24 rfl 2 rfl ?_
    refine z_lload_n (pc := 25) X dX8_write_25 rfl 3 rfl ?_
    refine z_callVv (pc := 26) (rm := rm6_put) X 1 [.int _, .int _, .long _] vX8_74 rfl rfl rfl (Nat.le_of_ble_eq_true rfl) ⟨rfl, rfl, Nat.le_of_ble_eq_true rfl, Nat.le_of_ble_eq_true rfl⟩ dX8_write_26 h (fun _ _ q => cc6_put q) (fun _ S3 h => ?_)
    refine z_iconst (pc := 29) (v := 1) X dX8_write_29 (by decide) ?_
    exact z_zret X rfl dX8_write_30 h
  · refine z_iconst (pc := 17) (v := 0) X dX8_write_17 (by decide) ?_
    exact z_zret X rfl dX8_write_18 h
theorem cc8_write {l : Launch} {D : va_G} {cA : Nat → ClassId} {σ : Nat → Nat} {tS : Nat} {S S' : St} {x1 : Int32} {x2 : Int32} {x3 : Int64} {r : Int32} (h : J8_write S x1 x2 x3 = some (r, S')) : zMet l D cA σ shC tS yX8_write cX8_write 5 (some .boolean) rm8_write [.ref (σ 0), .int x1, .int x2, .long x3] S (some (.int r)) S' := z_met [(0, .ref (σ 0)), (1, .int x1), (2, .int x2), (3, .long x3)] (by decide +kernel) (Nat.le_of_ble_eq_true rfl) rfl (fun _ _ _ _ _ _ _ _ X => zz8_write_0 X _ _ _ _ h)
set_option maxRecDepth 100000 in
set_option maxHeartbeats 4000000 in
theorem zz8_writes_0 {S' : St} {r : Int32} (X : zM p s m args meth c D cA σ shC tS RX8 cX8_writes 3 (some .int)) : ∀ (S : St) (x1 : Int32), J8_writes S x1 = some (r, S') → Zj p l e rm8_writes s m args below meth c D cA σ shC 3 (some (.int r)) S' 0 [(0, .ref (σ 0)), (1, .int x1)] [] S := by
  intro S x1 h
  rw [J8_writes] at h
  refine z_aload_n (pc := 0) X dX8_writes_0 rfl 0 rfl ?_
  refine z_aload_n (pc := 1) X dX8_writes_1 rfl 0 rfl ?_
  refine z_iload_n (pc := 2) X dX8_writes_2 rfl 1 rfl ?_
  refine z_iconst (pc := 3) (v := 1) X dX8_writes_3 (by decide) ?_
  refine z_aload_n (pc := 4) X dX8_writes_4 rfl 0 rfl ?_
  refine z_get (pc := 5) (v := .ref (σ 17)) X 0 fX8_35 rfl rfl dX8_writes_5 rfl ?_
  refine z_get (pc := 8) (v := .ref (σ 29)) X 17 fX8_163 rfl rfl dX8_writes_8 rfl ?_
  refine z_get (pc := 11) (v := .int _) X 29 fX8_167 rfl rfl dX8_writes_11 rfl ?_
  refine z_callVi (pc := 14) (rm := rm8_actLack) X 0 [.int _, .int _, .int _] vX8_172 rfl rfl rfl (Nat.le_of_ble_eq_true rfl) ⟨rfl, rfl, Nat.le_of_ble_eq_true rfl, Nat.le_of_ble_eq_true rfl⟩ dX8_writes_14 h (fun _ _ q => cc8_actLack q) (fun r1 S1 h => ?_)
  refine z_callVi (pc := 17) (rm := rm8_passes) X 0 [.int _] vX8_62 rfl rfl rfl (Nat.le_of_ble_eq_true rfl) ⟨rfl, rfl, Nat.le_of_ble_eq_true rfl, Nat.le_of_ble_eq_true rfl⟩ dX8_writes_17 h (fun _ _ q => cc8_passes q) (fun r2 S2 h => ?_)
  refine z_if_ne (pc := 20) (tgt := 25) X dX8_writes_20 (by decide) h (fun h => ?_) (fun h => ?_)
  · refine z_aload_n (pc := 25) X dX8_writes_25 rfl 0 rfl ?_
    refine z_get (pc := 26) (v := .ref (σ 17)) X 0 fX8_35 rfl rfl dX8_writes_26 rfl ?_
    refine z_get (pc := 29) (v := .ref (σ 29)) X 17 fX8_163 rfl rfl dX8_writes_29 rfl ?_
    refine z_callVi (pc := 32) (rm := rm7_add) X 29 [] vX8_176 rfl rfl rfl (Nat.le_of_ble_eq_true rfl) ⟨rfl, rfl, Nat.le_of_ble_eq_true rfl, Nat.le_of_ble_eq_true rfl⟩ dX8_writes_32 h (fun _ _ q => cc7_add q) (fun r3 S3 h => ?_)
    refine z_istore_n (pc := 35) (L' := [(2, .int _), (0, .ref _), (1, .int _)]) X dX8_writes_35 rfl (by decide) rfl ?_
    refine z_aload_n (pc := 36) X dX8_writes_36 rfl 1 rfl ?_
    refine z_get (pc := 37) (v := .ref (σ 17)) X 0 fX8_35 rfl rfl dX8_writes_37 rfl ?_
    refine z_iconst (pc := 40) (v := 0) X dX8_writes_40 (by decide) ?_
    refine z_iload_n (pc := 41) X dX8_writes_41 rfl 0 rfl ?_
    refine z_aload_n (pc := 42) X dX8_writes_42 rfl 1 rfl ?_
    refine z_get (pc := 43) (v := .ref (σ 1)) X 0 fX8_10 rfl rfl dX8_writes_43 rfl ?_
    refine z_iload_n (pc := 46) X dX8_writes_46 rfl 2 rfl ?_
    refine z_callVv (pc := 47) (rm := rm5_sendAll) X 17 [.int _, .int _, .ref (σ 1), .int _] vX8_181 rfl rfl rfl (Nat.le_of_ble_eq_true rfl) ⟨rfl, rfl, Nat.le_of_ble_eq_true rfl, Nat.le_of_ble_eq_true rfl⟩ dX8_writes_47 h (fun _ _ q => cc5_sendAll_c1 q) (fun _ S4 h => ?_)
    refine z_aload_n (pc := 50) X dX8_writes_50 rfl 1 rfl ?_
    refine z_get (pc := 51) (v := .ref (σ 17)) X 0 fX8_35 rfl rfl dX8_writes_51 rfl ?_
    refine z_aload_n (pc := 54) X dX8_writes_54 rfl 1 rfl ?_
    refine z_get (pc := 55) (v := .ref (σ 17)) X 0 fX8_35 rfl rfl dX8_writes_55 rfl ?_
    refine z_get (pc := 58) (v := .int _) X 17 fX8_185 rfl rfl dX8_writes_58 rfl ?_
    refine z_callVv (pc := 61) (rm := rm5_workOff) X 17 [.int _] vX8_188 rfl rfl rfl (Nat.le_of_ble_eq_true rfl) ⟨rfl, rfl, Nat.le_of_ble_eq_true rfl, Nat.le_of_ble_eq_true rfl⟩ dX8_writes_61 h (fun _ _ q => cc5_workOff q) (fun _ S5 h => ?_)
    refine z_iload_n (pc := 64) X dX8_writes_64 rfl 0 rfl ?_
    exact z_iret X rfl dX8_writes_65 h
  · refine z_iconst (pc := 23) (v := -1) X dX8_writes_23 (by decide) ?_
    exact z_iret X rfl dX8_writes_24 h
theorem cc8_writes {l : Launch} {D : va_G} {cA : Nat → ClassId} {σ : Nat → Nat} {tS : Nat} {S S' : St} {x1 : Int32} {r : Int32} (h : J8_writes S x1 = some (r, S')) : zMet l D cA σ shC tS yX8_writes cX8_writes 3 (some .int) rm8_writes [.ref (σ 0), .int x1] S (some (.int r)) S' := z_met [(0, .ref (σ 0)), (1, .int x1)] (by decide +kernel) (Nat.le_of_ble_eq_true rfl) rfl (fun _ _ _ _ _ _ _ _ X => zz8_writes_0 X _ _ h)
end ZZ
