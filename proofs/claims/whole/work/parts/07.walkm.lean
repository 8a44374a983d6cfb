section ZZ
variable {p : Program} {l : Launch} {e : Env} {s : State} {m : MethodId} {args : Array Value} {below : List Frame} {meth : Method} {c : Code} {D : va_G} {cA : Nat → ClassId} {σ : Nat → Nat} {tS : Nat}
set_option maxRecDepth 100000 in
set_option maxHeartbeats 4000000 in
theorem zz9_above_31 {S' : St} {r : Int64} (X : zM p s m args meth c D cA σ shM tS RX9 cX9_above 5 (some .long)) (k5 : St → Int32 → Int64 → Int32 → Option (Int64 × St)) (hk5 : ∀ (S : St) (x1 : Int32) (x2 : Int64) (x4 : Int32), k5 S x1 x2 x4 = some (r, S') → Zj p l e rm9_above s m args below meth c D cA σ shM 5 (some (.long r)) S' 5 [(0, .ref (σ 0)), (1, .int x1), (2, .long x2), (4, .int x4)] [] S) : ∀ (S : St) (x1 : Int32) (x4 : Int32) (t0 : Int64) (t1 : Int64), J9_above_31 k5 S x1 x4 t0 t1 = some (r, S') → Zj p l e rm9_above s m args below meth c D cA σ shM 5 (some (.long r)) S' 31 [(0, .ref (σ 0)), (1, .int x1), (4, .int x4)] [.long t0, .long t1] S := by
  intro S x1 x4 t0 t1 h
  rw [J9_above_31] at h
  refine z_ladd (pc := 31) X dX9_above_31 ?_
  refine z_lstore_n (pc := 32) (L' := [(2, .long _), (0, .ref _), (1, .int _), (4, .int _)]) X dX9_above_32 rfl (by decide) rfl ?_
  refine z_let h (fun h => ?_)
  refine z_iinc (pc := 33) (k := 3) (v := 1) (L' := [(4, .int _), (2, .long _), (0, .ref _), (1, .int _)]) X dX9_above_33 rfl (by decide) (by decide) rfl ?_
  refine z_let h (fun h => ?_)
  refine z_goto (pc := 36) (tgt := 5) X dX9_above_36 (by decide) ?_
  exact z_sub [2, 3, 1, 0] rfl (hk5 _ _ _ _ h)
set_option maxRecDepth 100000 in
set_option maxHeartbeats 4000000 in
theorem zz9_above_5 {S' : St} {r : Int64} (X : zM p s m args meth c D cA σ shM tS RX9 cX9_above 5 (some .long)) : ∀ (n : Nat) (S : St) (x1 : Int32) (x2 : Int64) (x4 : Int32), J9_above_5 n S x1 x2 x4 = some (r, S') → Zj p l e rm9_above s m args below meth c D cA σ shM 5 (some (.long r)) S' 5 [(0, .ref (σ 0)), (1, .int x1), (2, .long x2), (4, .int x4)] [] S := by
  intro n
  induction n with
  | zero =>
    intro S x1 x2 x4 h
    rw [J9_above_5] at h
    cases h
  | succ n ih =>
    intro S x1 x2 x4 h
    rw [J9_above_5] at h
    refine z_iload (pc := 5) X dX9_above_5 3 rfl ?_
    refine z_bipush (pc := 7) (v := 8) X dX9_above_7 (by decide) ?_
    refine z_icmp_ge (pc := 9) (tgt := 39) X dX9_above_9 (by decide) h (fun h => ?_) (fun h => ?_)
    · refine z_lload_n (pc := 39) X dX9_above_39 rfl 2 rfl ?_
      exact z_lret X rfl dX9_above_40 h
    · refine z_lload_n (pc := 12) X dX9_above_12 rfl 2 rfl ?_
      refine z_iload (pc := 13) X dX9_above_13 3 rfl ?_
      refine z_iload_n (pc := 15) X dX9_above_15 rfl 1 rfl ?_
      refine z_icmp_le (pc := 16) (tgt := 30) X dX9_above_16 (by decide) h (fun h => ?_) (fun h => ?_)
      · refine z_lconst (pc := 30) (v := 0) X dX9_above_30 (by decide) ?_
        exact z_sub [0, 1, 3] rfl (zz9_above_31 X _ ih _ _ _ _ _ h)
      · refine z_aload_n (pc := 19) X dX9_above_19 rfl 0 rfl ?_
        refine z_get (pc := 20) (v := .ref (σ 4)) X 0 fX9_60 rfl rfl dX9_above_20 rfl ?_
        refine z_iload (pc := 23) X dX9_above_23 3 rfl ?_
        refine z_iald (pc := 25) X 4 rfl dX9_above_25 h (fun h => ?_)
        refine z_i2l (pc := 26) X dX9_above_26 ?_
        refine z_goto (pc := 27) (tgt := 31) X dX9_above_27 (by decide) ?_
        exact z_sub [0, 1, 3] rfl (zz9_above_31 X _ ih _ _ _ _ _ h)
set_option maxRecDepth 100000 in
set_option maxHeartbeats 4000000 in
theorem zz9_above_0 {S' : St} {r : Int64} (X : zM p s m args meth c D cA σ shM tS RX9 cX9_above 5 (some .long)) : ∀ (S : St) (x1 : Int32), J9_above S x1 = some (r, S') → Zj p l e rm9_above s m args below meth c D cA σ shM 5 (some (.long r)) S' 0 [(0, .ref (σ 0)), (1, .int x1)] [] S := by
  intro S x1 h
  rw [J9_above] at h
  refine z_lconst (pc := 0) (v := 0) X dX9_above_0 (by decide) ?_
  refine z_lstore_n (pc := 1) (L' := [(2, .long _), (0, .ref _), (1, .int _)]) X dX9_above_1 rfl (by decide) rfl ?_
  refine z_iconst (pc := 2) (v := 0) X dX9_above_2 (by decide) ?_
  refine z_istore (pc := 3) (L' := [(4, .int _), (2, .long _), (0, .ref _), (1, .int _)]) X dX9_above_3 (by decide) rfl ?_
  exact z_sub [2, 3, 1, 0] rfl (zz9_above_5 X  fu _ _ _ _ h)
theorem cc9_above {l : Launch} {D : va_G} {cA : Nat → ClassId} {σ : Nat → Nat} {tS : Nat} {S S' : St} {x1 : Int32} {r : Int64} (h : J9_above S x1 = some (r, S')) : zMet l D cA σ shM tS yX9_above cX9_above 5 (some .long) rm9_above [.ref (σ 0), .int x1] S (some (.long r)) S' := z_met [(0, .ref (σ 0)), (1, .int x1)] (by decide +kernel) (Nat.le_of_ble_eq_true rfl) rfl (fun _ _ _ _ _ _ _ _ X => zz9_above_0 X _ _ h)
set_option maxRecDepth 100000 in
set_option maxHeartbeats 4000000 in
theorem zz9_allWays_38 {S' : St} {r : Int64} (X : zM p s m args meth c D cA σ shM tS RX9 cX9_allWays 8 (some .long)) (k5 : St → Int32 → Int32 → Int64 → Int32 → Option (Int64 × St)) (hk5 : ∀ (S : St) (x1 : Int32) (x2 : Int32) (x3 : Int64) (x5 : Int32), k5 S x1 x2 x3 x5 = some (r, S') → Zj p l e rm9_allWays s m args below meth c D cA σ shM 8 (some (.long r)) S' 5 [(0, .ref (σ 0)), (1, .int x1), (2, .int x2), (3, .long x3), (5, .int x5)] [] S) (k14 : St → Int32 → Int32 → Int64 → Int32 → Int32 → Option (Int64 × St)) (hk14 : ∀ (S : St) (x1 : Int32) (x2 : Int32) (x3 : Int64) (x5 : Int32) (x6 : Int32), k14 S x1 x2 x3 x5 x6 = some (r, S') → Zj p l e rm9_allWays s m args below meth c D cA σ shM 8 (some (.long r)) S' 14 [(0, .ref (σ 0)), (1, .int x1), (2, .int x2), (3, .long x3), (5, .int x5), (6, .int x6)] [] S) : ∀ (S : St) (x1 : Int32) (x2 : Int32) (x3 : Int64) (x5 : Int32) (x6 : Int32) (t0 : Int32), J9_allWays_38 k5 k14 S x1 x2 x3 x5 x6 t0 = some (r, S') → Zj p l e rm9_allWays s m args below meth c D cA σ shM 8 (some (.long r)) S' 38 [(0, .ref (σ 0)), (1, .int x1), (2, .int x2), (3, .long x3), (5, .int x5), (6, .int x6)] [.int t0, .ref (σ 5)] S := by
  intro S x1 x2 x3 x5 x6 t0 h
  rw [J9_allWays_38] at h
  refine z_iald (pc := 38) X 5 rfl dX9_allWays_38 h (fun h => ?_)
  refine z_istore (pc := 39) (L' := [(7, .int _), (0, .ref _), (1, .int _), (2, .int _), (3, .long _), (5, .int _), (6, .int _)]) X dX9_allWays_39 (by decide) rfl ?_
  refine z_let h (fun h => ?_)
  refine z_lload_n (pc := 41) X dX9_allWays_41 rfl 4 rfl ?_
  refine z_ldc2 (pc := 42) X dX9_allWays_42 mw_1060 ?_
  refine z_iload (pc := 45) X dX9_allWays_45 0 rfl ?_
  refine z_i2l (pc := 47) X dX9_allWays_47 ?_
  refine z_ldiv (pc := 48) X dX9_allWays_48 h (fun h => ?_)
  refine z_lcmp (pc := 49) X dX9_allWays_49 ?_
  refine z_if_le (pc := 50) (tgt := 57) X dX9_allWays_50 (by decide) h (fun h => ?_) (fun h => ?_)
  · refine z_lload_n (pc := 57) X dX9_allWays_57 rfl 4 rfl ?_
    refine z_iload (pc := 58) X dX9_allWays_58 0 rfl ?_
    refine z_i2l (pc := 60) X dX9_allWays_60 ?_
    refine z_lmul (pc := 61) X dX9_allWays_61 ?_
    refine z_lstore_n (pc := 62) (L' := [(3, .long _), (7, .int _), (0, .ref _), (1, .int _), (2, .int _), (5, .int _), (6, .int _)]) X dX9_allWays_62 rfl (by decide) rfl ?_
    refine z_let h (fun h => ?_)
    refine z_iinc (pc := 63) (k := 6) (v := 1) (L' := [(6, .int _), (3, .long _), (7, .int _), (0, .ref _), (1, .int _), (2, .int _), (5, .int _)]) X dX9_allWays_63 rfl (by decide) (by decide) rfl ?_
    refine z_let h (fun h => ?_)
    refine z_goto (pc := 66) (tgt := 14) X dX9_allWays_66 (by decide) ?_
    exact z_sub [3, 4, 5, 1, 6, 0] rfl (hk14 _ _ _ _ _ _ h)
  · refine z_ldc2 (pc := 53) X dX9_allWays_53 mw_842 ?_
    exact z_lret X rfl dX9_allWays_56 h
set_option maxRecDepth 100000 in
set_option maxHeartbeats 4000000 in
theorem zz9_allWays_14 {S' : St} {r : Int64} (X : zM p s m args meth c D cA σ shM tS RX9 cX9_allWays 8 (some .long)) (k5 : St → Int32 → Int32 → Int64 → Int32 → Option (Int64 × St)) (hk5 : ∀ (S : St) (x1 : Int32) (x2 : Int32) (x3 : Int64) (x5 : Int32), k5 S x1 x2 x3 x5 = some (r, S') → Zj p l e rm9_allWays s m args below meth c D cA σ shM 8 (some (.long r)) S' 5 [(0, .ref (σ 0)), (1, .int x1), (2, .int x2), (3, .long x3), (5, .int x5)] [] S) : ∀ (n : Nat) (S : St) (x1 : Int32) (x2 : Int32) (x3 : Int64) (x5 : Int32) (x6 : Int32), J9_allWays_14 k5 n S x1 x2 x3 x5 x6 = some (r, S') → Zj p l e rm9_allWays s m args below meth c D cA σ shM 8 (some (.long r)) S' 14 [(0, .ref (σ 0)), (1, .int x1), (2, .int x2), (3, .long x3), (5, .int x5), (6, .int x6)] [] S := by
  intro n
  induction n with
  | zero =>
    intro S x1 x2 x3 x5 x6 h
    rw [J9_allWays_14] at h
    cases h
  | succ n ih =>
    intro S x1 x2 x3 x5 x6 h
    rw [J9_allWays_14] at h
    refine z_iload (pc := 14) X dX9_allWays_14 5 rfl ?_
    refine z_iconst (pc := 16) (v := 4) X dX9_allWays_16 (by decide) ?_
    refine z_iload_n (pc := 17) X dX9_allWays_17 rfl 2 rfl ?_
    refine z_iadd (pc := 18) X dX9_allWays_18 ?_
    refine z_icmp_ge (pc := 19) (tgt := 69) X dX9_allWays_19 (by decide) h (fun h => ?_) (fun h => ?_)
    · refine z_iinc (pc := 69) (k := 4) (v := 1) (L' := [(5, .int _), (0, .ref _), (1, .int _), (2, .int _), (3, .long _), (6, .int _)]) X dX9_allWays_69 rfl (by decide) (by decide) rfl ?_
      refine z_let h (fun h => ?_)
      refine z_goto (pc := 72) (tgt := 5) X dX9_allWays_72 (by decide) ?_
      exact z_sub [1, 2, 3, 4, 0] rfl (hk5 _ _ _ _ _ h)
    · refine z_aload_n (pc := 22) X dX9_allWays_22 rfl 0 rfl ?_
      refine z_get (pc := 23) (v := .ref (σ 5)) X 0 fX9_63 rfl rfl dX9_allWays_23 rfl ?_
      refine z_iload (pc := 26) X dX9_allWays_26 5 rfl ?_
      refine z_iconst (pc := 28) (v := 4) X dX9_allWays_28 (by decide) ?_
      refine z_icmp_ge (pc := 29) (tgt := 37) X dX9_allWays_29 (by decide) h (fun h => ?_) (fun h => ?_)
      · refine z_iconst (pc := 37) (v := 0) X dX9_allWays_37 (by decide) ?_
        exact z_sub [0, 1, 2, 3, 4, 5] rfl (zz9_allWays_38 X _ hk5 _ ih _ _ _ _ _ _ _ h)
      · refine z_iload (pc := 32) X dX9_allWays_32 5 rfl ?_
        refine z_goto (pc := 34) (tgt := 38) X dX9_allWays_34 (by decide) ?_
        exact z_sub [0, 1, 2, 3, 4, 5] rfl (zz9_allWays_38 X _ hk5 _ ih _ _ _ _ _ _ _ h)
set_option maxRecDepth 100000 in
set_option maxHeartbeats 4000000 in
theorem zz9_allWays_5 {S' : St} {r : Int64} (X : zM p s m args meth c D cA σ shM tS RX9 cX9_allWays 8 (some .long)) : ∀ (n : Nat) (S : St) (x1 : Int32) (x2 : Int32) (x3 : Int64) (x5 : Int32), J9_allWays_5 n S x1 x2 x3 x5 = some (r, S') → Zj p l e rm9_allWays s m args below meth c D cA σ shM 8 (some (.long r)) S' 5 [(0, .ref (σ 0)), (1, .int x1), (2, .int x2), (3, .long x3), (5, .int x5)] [] S := by
  intro n
  induction n with
  | zero =>
    intro S x1 x2 x3 x5 h
    rw [J9_allWays_5] at h
    cases h
  | succ n ih =>
    intro S x1 x2 x3 x5 h
    rw [J9_allWays_5] at h
    refine z_iload (pc := 5) X dX9_allWays_5 4 rfl ?_
    refine z_iload_n (pc := 7) X dX9_allWays_7 rfl 1 rfl ?_
    refine z_icmp_ge (pc := 8) (tgt := 75) X dX9_allWays_8 (by decide) h (fun h => ?_) (fun h => ?_)
    · refine z_lload_n (pc := 75) X dX9_allWays_75 rfl 3 rfl ?_
      exact z_lret X rfl dX9_allWays_76 h
    · refine z_iconst (pc := 11) (v := 0) X dX9_allWays_11 (by decide) ?_
      refine z_istore (pc := 12) (L' := [(6, .int _), (0, .ref _), (1, .int _), (2, .int _), (3, .long _), (5, .int _)]) X dX9_allWays_12 (by decide) rfl ?_
      exact z_sub [1, 2, 3, 4, 5, 0] rfl (zz9_allWays_14 X _ ih fu _ _ _ _ _ _ h)
set_option maxRecDepth 100000 in
set_option maxHeartbeats 4000000 in
theorem zz9_allWays_0 {S' : St} {r : Int64} (X : zM p s m args meth c D cA σ shM tS RX9 cX9_allWays 8 (some .long)) : ∀ (S : St) (x1 : Int32) (x2 : Int32), J9_allWays S x1 x2 = some (r, S') → Zj p l e rm9_allWays s m args below meth c D cA σ shM 8 (some (.long r)) S' 0 [(0, .ref (σ 0)), (1, .int x1), (2, .int x2)] [] S := by
  intro S x1 x2 h
  rw [J9_allWays] at h
  refine z_lconst (pc := 0) (v := 1) X dX9_allWays_0 (by decide) ?_
  refine z_lstore_n (pc := 1) (L' := [(3, .long _), (0, .ref _), (1, .int _), (2, .int _)]) X dX9_allWays_1 rfl (by decide) rfl ?_
  refine z_iconst (pc := 2) (v := 0) X dX9_allWays_2 (by decide) ?_
  refine z_istore (pc := 3) (L' := [(5, .int _), (3, .long _), (0, .ref _), (1, .int _), (2, .int _)]) X dX9_allWays_3 (by decide) rfl ?_
  exact z_sub [2, 3, 4, 1, 0] rfl (zz9_allWays_5 X  fu _ _ _ _ _ h)
theorem cc9_allWays {l : Launch} {D : va_G} {cA : Nat → ClassId} {σ : Nat → Nat} {tS : Nat} {S S' : St} {x1 : Int32} {x2 : Int32} {r : Int64} (h : J9_allWays S x1 x2 = some (r, S')) : zMet l D cA σ shM tS yX9_allWays cX9_allWays 8 (some .long) rm9_allWays [.ref (σ 0), .int x1, .int x2] S (some (.long r)) S' := z_met [(0, .ref (σ 0)), (1, .int x1), (2, .int x2)] (by decide +kernel) (Nat.le_of_ble_eq_true rfl) rfl (fun _ _ _ _ _ _ _ _ X => zz9_allWays_0 X _ _ _ h)
set_option maxRecDepth 100000 in
set_option maxHeartbeats 4000000 in
theorem zz9_send_0 {S' : St} (X : zM p s m args meth c D cA σ shM tS RX9 cX9_send 7 none) : ∀ (S : St) (x1 : Int32) (x2 : Int32) (x3 : Int32) (x4 : Int32) (x5 : Int32) (x6 : Int32), J9_send S x1 x2 x3 x4 x5 x6 = some ((), S') → Zj p l e rm9_send s m args below meth c D cA σ shM 7 none S' 0 [(0, .ref (σ 0)), (1, .int x1), (2, .int x2), (3, .int x3), (4, .int x4), (5, .int x5), (6, .int x6)] [] S := by
  intro S x1 x2 x3 x4 x5 x6 h
  rw [J9_send] at h
  refine z_aload_n (pc := 0) X dX9_send_0 rfl 0 rfl ?_
  refine z_get (pc := 1) (v := .ref (σ 15)) X 0 fX9_94 rfl rfl dX9_send_1 rfl ?_
  refine z_aload_n (pc := 4) X dX9_send_4 rfl 0 rfl ?_
  refine z_get (pc := 5) (v := .int _) X 0 fX9_242 rfl rfl dX9_send_5 rfl ?_
  refine z_aload_n (pc := 8) X dX9_send_8 rfl 0 rfl ?_
  refine z_get (pc := 9) (v := .int _) X 0 fX9_224 rfl rfl dX9_send_9 rfl ?_
  refine z_iload_n (pc := 12) X dX9_send_12 rfl 1 rfl ?_
  refine z_iadd (pc := 13) X dX9_send_13 ?_
  refine z_iast (pc := 14) X 15 rfl dX9_send_14 h (fun h => ?_)
  refine z_let h (fun h => ?_)
  refine z_aload_n (pc := 15) X dX9_send_15 rfl 0 rfl ?_
  refine z_get (pc := 16) (v := .ref (σ 16)) X 0 fX9_97 rfl rfl dX9_send_16 rfl ?_
  refine z_aload_n (pc := 19) X dX9_send_19 rfl 0 rfl ?_
  refine z_get (pc := 20) (v := .int _) X 0 fX9_242 rfl rfl dX9_send_20 rfl ?_
  refine z_aload_n (pc := 23) X dX9_send_23 rfl 0 rfl ?_
  refine z_get (pc := 24) (v := .int _) X 0 fX9_227 rfl rfl dX9_send_24 rfl ?_
  refine z_iast (pc := 27) X 16 rfl dX9_send_27 h (fun h => ?_)
  refine z_let h (fun h => ?_)
  refine z_aload_n (pc := 28) X dX9_send_28 rfl 0 rfl ?_
  refine z_get (pc := 29) (v := .ref (σ 17)) X 0 fX9_100 rfl rfl dX9_send_29 rfl ?_
  refine z_aload_n (pc := 32) X dX9_send_32 rfl 0 rfl ?_
  refine z_get (pc := 33) (v := .int _) X 0 fX9_242 rfl rfl dX9_send_33 rfl ?_
  refine z_iload_n (pc := 36) X dX9_send_36 rfl 2 rfl ?_
  refine z_iast (pc := 37) X 17 rfl dX9_send_37 h (fun h => ?_)
  refine z_let h (fun h => ?_)
  refine z_aload_n (pc := 38) X dX9_send_38 rfl 0 rfl ?_
  refine z_get (pc := 39) (v := .ref (σ 18)) X 0 fX9_103 rfl rfl dX9_send_39 rfl ?_
  refine z_aload_n (pc := 42) X dX9_send_42 rfl 0 rfl ?_
  refine z_get (pc := 43) (v := .int _) X 0 fX9_242 rfl rfl dX9_send_43 rfl ?_
  refine z_iload_n (pc := 46) X dX9_send_46 rfl 3 rfl ?_
  refine z_iast (pc := 47) X 18 rfl dX9_send_47 h (fun h => ?_)
  refine z_let h (fun h => ?_)
  refine z_aload_n (pc := 48) X dX9_send_48 rfl 0 rfl ?_
  refine z_get (pc := 49) (v := .ref (σ 19)) X 0 fX9_106 rfl rfl dX9_send_49 rfl ?_
  refine z_aload_n (pc := 52) X dX9_send_52 rfl 0 rfl ?_
  refine z_get (pc := 53) (v := .int _) X 0 fX9_242 rfl rfl dX9_send_53 rfl ?_
  refine z_iload (pc := 56) X dX9_send_56 4 rfl ?_
  refine z_iast (pc := 58) X 19 rfl dX9_send_58 h (fun h => ?_)
  refine z_let h (fun h => ?_)
  refine z_aload_n (pc := 59) X dX9_send_59 rfl 0 rfl ?_
  refine z_get (pc := 60) (v := .ref (σ 20)) X 0 fX9_109 rfl rfl dX9_send_60 rfl ?_
  refine z_aload_n (pc := 63) X dX9_send_63 rfl 0 rfl ?_
  refine z_get (pc := 64) (v := .int _) X 0 fX9_242 rfl rfl dX9_send_64 rfl ?_
  refine z_iload (pc := 67) X dX9_send_67 5 rfl ?_
  refine z_iast (pc := 69) X 20 rfl dX9_send_69 h (fun h => ?_)
  refine z_let h (fun h => ?_)
  refine z_aload_n (pc := 70) X dX9_send_70 rfl 0 rfl ?_
  refine z_get (pc := 71) (v := .ref (σ 21)) X 0 fX9_112 rfl rfl dX9_send_71 rfl ?_
  refine z_aload_n (pc := 74) X dX9_send_74 rfl 0 rfl ?_
  refine z_get (pc := 75) (v := .int _) X 0 fX9_242 rfl rfl dX9_send_75 rfl ?_
  refine z_iload (pc := 78) X dX9_send_78 6 rfl ?_
  refine z_iast (pc := 80) X 21 rfl dX9_send_80 h (fun h => ?_)
  refine z_let h (fun h => ?_)
  refine z_aload_n (pc := 81) X dX9_send_81 rfl 0 rfl ?_
  refine z_dup (pc := 82) X dX9_send_82 rfl ?_
  refine z_get (pc := 83) (v := .int _) X 0 fX9_227 rfl rfl dX9_send_83 rfl ?_
  refine z_iconst (pc := 86) (v := 1) X dX9_send_86 (by decide) ?_
  refine z_iadd (pc := 87) X dX9_send_87 ?_
  refine z_putI (pc := 88) X 0 gX9_227 rfl rfl dX9_send_88 ?_
  refine z_let h (fun h => ?_)
  refine z_aload_n (pc := 91) X dX9_send_91 rfl 0 rfl ?_
  refine z_dup (pc := 92) X dX9_send_92 rfl ?_
  refine z_get (pc := 93) (v := .int _) X 0 fX9_242 rfl rfl dX9_send_93 rfl ?_
  refine z_iconst (pc := 96) (v := 1) X dX9_send_96 (by decide) ?_
  refine z_iadd (pc := 97) X dX9_send_97 ?_
  refine z_putI (pc := 98) X 0 gX9_242 rfl rfl dX9_send_98 ?_
  refine z_let h (fun h => ?_)
  exact z_vret X rfl dX9_send_101 h
theorem cc9_send {l : Launch} {D : va_G} {cA : Nat → ClassId} {σ : Nat → Nat} {tS : Nat} {S S' : St} {x1 : Int32} {x2 : Int32} {x3 : Int32} {x4 : Int32} {x5 : Int32} {x6 : Int32} (h : J9_send S x1 x2 x3 x4 x5 x6 = some ((), S')) : zMet l D cA σ shM tS yX9_send cX9_send 7 none rm9_send [.ref (σ 0), .int x1, .int x2, .int x3, .int x4, .int x5, .int x6] S none S' := z_met [(0, .ref (σ 0)), (1, .int x1), (2, .int x2), (3, .int x3), (4, .int x4), (5, .int x5), (6, .int x6)] (by decide +kernel) (Nat.le_of_ble_eq_true rfl) rfl (fun _ _ _ _ _ _ _ _ X => zz9_send_0 X _ _ _ _ _ _ _ h)
set_option maxRecDepth 100000 in
set_option maxHeartbeats 4000000 in
theorem zz9_answer_272 {S' : St} (X : zM p s m args meth c D cA σ shM tS RX9 cX9_answer 8 none) (k200 : St → Int32 → Int32 → Int32 → Option (Unit × St)) (hk200 : ∀ (S : St) (x1 : Int32) (x4 : Int32) (x6 : Int32), k200 S x1 x4 x6 = some ((), S') → Zj p l e rm9_answer s m args below meth c D cA σ shM 8 none S' 200 [(0, .ref (σ 0)), (1, .int x1), (4, .int x4), (6, .int x6)] [] S) (k219 : St → Int32 → Int32 → Int32 → Int32 → Option (Unit × St)) (hk219 : ∀ (S : St) (x1 : Int32) (x4 : Int32) (x6 : Int32) (x7 : Int32), k219 S x1 x4 x6 x7 = some ((), S') → Zj p l e rm9_answer s m args below meth c D cA σ shM 8 none S' 219 [(0, .ref (σ 0)), (1, .int x1), (4, .int x4), (6, .int x6), (7, .int x7)] [] S) : ∀ (S : St) (x1 : Int32) (x4 : Int32) (x6 : Int32) (x7 : Int32), J9_answer_272 k200 k219 S x1 x4 x6 x7 = some ((), S') → Zj p l e rm9_answer s m args below meth c D cA σ shM 8 none S' 272 [(0, .ref (σ 0)), (1, .int x1), (4, .int x4), (6, .int x6), (7, .int x7)] [] S := by
  intro S x1 x4 x6 x7 h
  rw [J9_answer_272] at h
  refine z_iinc (pc := 272) (k := 4) (v := 1) (L' := [(7, .int _), (0, .ref _), (1, .int _), (4, .int _), (6, .int _)]) X dX9_answer_272 rfl (by decide) (by decide) rfl ?_
  refine z_let h (fun h => ?_)
  refine z_goto (pc := 275) (tgt := 219) X dX9_answer_275 (by decide) ?_
  exact z_sub [1, 2, 3, 4, 0] rfl (hk219 _ _ _ _ _ h)
set_option maxRecDepth 100000 in
set_option maxHeartbeats 4000000 in
theorem zz9_answer_219 {S' : St} (X : zM p s m args meth c D cA σ shM tS RX9 cX9_answer 8 none) (k200 : St → Int32 → Int32 → Int32 → Option (Unit × St)) (hk200 : ∀ (S : St) (x1 : Int32) (x4 : Int32) (x6 : Int32), k200 S x1 x4 x6 = some ((), S') → Zj p l e rm9_answer s m args below meth c D cA σ shM 8 none S' 200 [(0, .ref (σ 0)), (1, .int x1), (4, .int x4), (6, .int x6)] [] S) : ∀ (n : Nat) (S : St) (x1 : Int32) (x4 : Int32) (x6 : Int32) (x7 : Int32), J9_answer_219 k200 n S x1 x4 x6 x7 = some ((), S') → Zj p l e rm9_answer s m args below meth c D cA σ shM 8 none S' 219 [(0, .ref (σ 0)), (1, .int x1), (4, .int x4), (6, .int x6), (7, .int x7)] [] S := by
  intro n
  induction n with
  | zero =>
    intro S x1 x4 x6 x7 h
    rw [J9_answer_219] at h
    cases h
  | succ n ih =>
    intro S x1 x4 x6 x7 h
    rw [J9_answer_219] at h
    refine z_iload (pc := 219) X dX9_answer_219 4 rfl ?_
    refine z_aload_n (pc := 221) X dX9_answer_221 rfl 0 rfl ?_
    refine z_get (pc := 222) (v := .int _) X 0 fX9_221 rfl rfl dX9_answer_222 rfl ?_
    refine z_icmp_ge (pc := 225) (tgt := 278) X dX9_answer_225 (by decide) h (fun h => ?_) (fun h => ?_)
    · refine z_iinc (pc := 278) (k := 3) (v := 1) (L' := [(6, .int _), (0, .ref _), (1, .int _), (4, .int _), (7, .int _)]) X dX9_answer_278 rfl (by decide) (by decide) rfl ?_
      refine z_let h (fun h => ?_)
      refine z_goto (pc := 281) (tgt := 200) X dX9_answer_281 (by decide) ?_
      exact z_sub [1, 2, 3, 0] rfl (hk200 _ _ _ _ h)
    · refine z_aload_n (pc := 228) X dX9_answer_228 rfl 0 rfl ?_
      refine z_get (pc := 229) (v := .ref (σ 31)) X 0 fX9_142 rfl rfl dX9_answer_229 rfl ?_
      refine z_iconst (pc := 232) (v := 5) X dX9_answer_232 (by decide) ?_
      refine z_iload_n (pc := 233) X dX9_answer_233 rfl 1 rfl ?_
      refine z_imul (pc := 234) X dX9_answer_234 ?_
      refine z_iload (pc := 235) X dX9_answer_235 4 rfl ?_
      refine z_iadd (pc := 237) X dX9_answer_237 ?_
      refine z_iald (pc := 238) X 31 rfl dX9_answer_238 h (fun h => ?_)
      refine z_iload (pc := 239) X dX9_answer_239 3 rfl ?_
      refine z_icmp_ne (pc := 241) (tgt := 272) X dX9_answer_241 (by decide) h (fun h => ?_) (fun h => ?_)
      · exact z_sub [0, 1, 2, 3, 4] rfl (zz9_answer_272 X _ hk200 _ ih _ _ _ _ _ h)
      · refine z_aload_n (pc := 244) X dX9_answer_244 rfl 0 rfl ?_
        refine z_get (pc := 245) (v := .ref (σ 30)) X 0 fX9_139 rfl rfl dX9_answer_245 rfl ?_
        refine z_iconst (pc := 248) (v := 5) X dX9_answer_248 (by decide) ?_
        refine z_iload_n (pc := 249) X dX9_answer_249 rfl 1 rfl ?_
        refine z_imul (pc := 250) X dX9_answer_250 ?_
        refine z_iload (pc := 251) X dX9_answer_251 4 rfl ?_
        refine z_iadd (pc := 253) X dX9_answer_253 ?_
        refine z_iald (pc := 254) X 30 rfl dX9_answer_254 h (fun h => ?_)
        refine z_iload (pc := 255) X dX9_answer_255 2 rfl ?_
        refine z_icmp_ge (pc := 257) (tgt := 272) X dX9_answer_257 (by decide) h (fun h => ?_) (fun h => ?_)
        · exact z_sub [0, 1, 2, 3, 4] rfl (zz9_answer_272 X _ hk200 _ ih _ _ _ _ _ h)
        · refine z_aload_n (pc := 260) X dX9_answer_260 rfl 0 rfl ?_
          refine z_iconst (pc := 261) (v := 1) X dX9_answer_261 (by decide) ?_
          refine z_iconst (pc := 262) (v := 4) X dX9_answer_262 (by decide) ?_
          refine z_iload_n (pc := 263) X dX9_answer_263 rfl 1 rfl ?_
          refine z_iload (pc := 264) X dX9_answer_264 3 rfl ?_
          refine z_iload (pc := 266) X dX9_answer_266 2 rfl ?_
          refine z_iconst (pc := 268) (v := 0) X dX9_answer_268 (by decide) ?_
          refine z_callVv (pc := 269) (rm := rm9_send) X 0 [.int _, .int _, .int _, .int _, .int _, .int _] vX9_256 rfl rfl rfl (Nat.le_of_ble_eq_true rfl) ⟨rfl, rfl, Nat.le_of_ble_eq_true rfl, Nat.le_of_ble_eq_true rfl⟩ dX9_answer_269 h (fun _ _ q => cc9_send q) (fun _ S2 h => ?_)
          exact z_sub [0, 1, 2, 3, 4] rfl (zz9_answer_272 X _ hk200 _ ih _ _ _ _ _ h)
set_option maxRecDepth 100000 in
set_option maxHeartbeats 4000000 in
theorem zz9_answer_284 {S' : St} (X : zM p s m args meth c D cA σ shM tS RX9 cX9_answer 8 none) : ∀ (S : St), J9_answer_284 S = some ((), S') → Zj p l e rm9_answer s m args below meth c D cA σ shM 8 none S' 284 [] [] S := by
  intro S h
  rw [J9_answer_284] at h
  exact z_vret X rfl dX9_answer_284 h
set_option maxRecDepth 100000 in
set_option maxHeartbeats 4000000 in
theorem zz9_answer_200 {S' : St} (X : zM p s m args meth c D cA σ shM tS RX9 cX9_answer 8 none) : ∀ (n : Nat) (S : St) (x1 : Int32) (x4 : Int32) (x6 : Int32), J9_answer_200 n S x1 x4 x6 = some ((), S') → Zj p l e rm9_answer s m args below meth c D cA σ shM 8 none S' 200 [(0, .ref (σ 0)), (1, .int x1), (4, .int x4), (6, .int x6)] [] S := by
  intro n
  induction n with
  | zero =>
    intro S x1 x4 x6 h
    rw [J9_answer_200] at h
    cases h
  | succ n ih =>
    intro S x1 x4 x6 h
    rw [J9_answer_200] at h
    refine z_iload (pc := 200) X dX9_answer_200 3 rfl ?_
    refine z_aload_n (pc := 202) X dX9_answer_202 rfl 0 rfl ?_
    refine z_get (pc := 203) (v := .int _) X 0 fX9_215 rfl rfl dX9_answer_203 rfl ?_
    refine z_icmp_ge (pc := 206) (tgt := 284) X dX9_answer_206 (by decide) h (fun h => ?_) (fun h => ?_)
    · exact z_sub [] rfl (zz9_answer_284 X  _ h)
    · refine z_aload_n (pc := 209) X dX9_answer_209 rfl 0 rfl ?_
      refine z_get (pc := 210) (v := .int _) X 0 fX9_212 rfl rfl dX9_answer_210 rfl ?_
      refine z_if_eq (pc := 213) (tgt := 284) X dX9_answer_213 (by decide) h (fun h => ?_) (fun h => ?_)
      · exact z_sub [] rfl (zz9_answer_284 X  _ h)
      · refine z_iconst (pc := 216) (v := 0) X dX9_answer_216 (by decide) ?_
        refine z_istore (pc := 217) (L' := [(7, .int _), (0, .ref _), (1, .int _), (4, .int _), (6, .int _)]) X dX9_answer_217 (by decide) rfl ?_
        exact z_sub [1, 2, 3, 4, 0] rfl (zz9_answer_219 X _ ih fu _ _ _ _ _ h)
set_option maxRecDepth 100000 in
set_option maxHeartbeats 4000000 in
theorem zz9_answer_174 {S' : St} (X : zM p s m args meth c D cA σ shM tS RX9 cX9_answer 8 none) : ∀ (S : St) (x1 : Int32) (x4 : Int32) (x5 : Int32), J9_answer_174 S x1 x4 x5 = some ((), S') → Zj p l e rm9_answer s m args below meth c D cA σ shM 8 none S' 174 [(0, .ref (σ 0)), (1, .int x1), (4, .int x4), (5, .int x5)] [] S := by
  intro S x1 x4 x5 h
  rw [J9_answer_174] at h
  refine z_aload_n (pc := 174) X dX9_answer_174 rfl 0 rfl ?_
  refine z_get (pc := 175) (v := .ref (σ 14)) X 0 fX9_91 rfl rfl dX9_answer_175 rfl ?_
  refine z_iload (pc := 178) X dX9_answer_178 3 rfl ?_
  refine z_aload_n (pc := 180) X dX9_answer_180 rfl 0 rfl ?_
  refine z_get (pc := 181) (v := .ref (σ 14)) X 0 fX9_91 rfl rfl dX9_answer_181 rfl ?_
  refine z_iload (pc := 184) X dX9_answer_184 3 rfl ?_
  refine z_iald (pc := 186) X 14 rfl dX9_answer_186 h (fun h => ?_)
  refine z_aload_n (pc := 187) X dX9_answer_187 rfl 0 rfl ?_
  refine z_get (pc := 188) (v := .ref (σ 28)) X 0 fX9_133 rfl rfl dX9_answer_188 rfl ?_
  refine z_iload_n (pc := 191) X dX9_answer_191 rfl 1 rfl ?_
  refine z_iald (pc := 192) X 28 rfl dX9_answer_192 h (fun h => ?_)
  refine z_max (pc := 193) X hX9_270 ⟨Nat.le_of_ble_eq_true rfl, Nat.le_of_ble_eq_true rfl⟩ dX9_answer_193 ?_
  refine z_iast (pc := 196) X 14 rfl dX9_answer_196 h (fun h => ?_)
  refine z_let h (fun h => ?_)
  refine z_iconst (pc := 197) (v := 0) X dX9_answer_197 (by decide) ?_
  refine z_istore (pc := 198) (L' := [(6, .int _), (0, .ref _), (1, .int _), (4, .int _), (5, .int _)]) X dX9_answer_198 (by decide) rfl ?_
  exact z_sub [1, 2, 3, 0] rfl (zz9_answer_200 X  fu _ _ _ _ h)
set_option maxRecDepth 100000 in
set_option maxHeartbeats 4000000 in
theorem zz9_answer_62 {S' : St} (X : zM p s m args meth c D cA σ shM tS RX9 cX9_answer 8 none) : ∀ (n : Nat) (S : St) (x1 : Int32) (x4 : Int32) (x5 : Int32), J9_answer_62 n S x1 x4 x5 = some ((), S') → Zj p l e rm9_answer s m args below meth c D cA σ shM 8 none S' 62 [(0, .ref (σ 0)), (1, .int x1), (4, .int x4), (5, .int x5)] [] S := by
  intro n
  induction n with
  | zero =>
    intro S x1 x4 x5 h
    rw [J9_answer_62] at h
    cases h
  | succ n ih =>
    intro S x1 x4 x5 h
    rw [J9_answer_62] at h
    refine z_iload (pc := 62) X dX9_answer_62 3 rfl ?_
    refine z_aload_n (pc := 64) X dX9_answer_64 rfl 0 rfl ?_
    refine z_get (pc := 65) (v := .int _) X 0 fX9_221 rfl rfl dX9_answer_65 rfl ?_
    refine z_icmp_ge (pc := 68) (tgt := 95) X dX9_answer_68 (by decide) h (fun h => ?_) (fun h => ?_)
    · refine z_aload_n (pc := 95) X dX9_answer_95 rfl 0 rfl ?_
      refine z_get (pc := 96) (v := .ref (σ 29)) X 0 fX9_136 rfl rfl dX9_answer_96 rfl ?_
      refine z_iload_n (pc := 99) X dX9_answer_99 rfl 1 rfl ?_
      refine z_iload (pc := 100) X dX9_answer_100 2 rfl ?_
      refine z_iast (pc := 102) X 29 rfl dX9_answer_102 h (fun h => ?_)
      refine z_let h (fun h => ?_)
      refine z_aload_n (pc := 103) X dX9_answer_103 rfl 0 rfl ?_
      refine z_get (pc := 104) (v := .ref (σ 27)) X 0 fX9_130 rfl rfl dX9_answer_104 rfl ?_
      refine z_iload_n (pc := 107) X dX9_answer_107 rfl 1 rfl ?_
      refine z_aload_n (pc := 108) X dX9_answer_108 rfl 0 rfl ?_
      refine z_get (pc := 109) (v := .int _) X 0 fX9_224 rfl rfl dX9_answer_109 rfl ?_
      refine z_iast (pc := 112) X 27 rfl dX9_answer_112 h (fun h => ?_)
      refine z_let h (fun h => ?_)
      refine z_aload_n (pc := 113) X dX9_answer_113 rfl 0 rfl ?_
      refine z_get (pc := 114) (v := .ref (σ 25)) X 0 fX9_124 rfl rfl dX9_answer_114 rfl ?_
      refine z_iload_n (pc := 117) X dX9_answer_117 rfl 1 rfl ?_
      refine z_iald (pc := 118) X 25 rfl dX9_answer_118 h (fun h => ?_)
      refine z_istore (pc := 119) (L' := [(5, .int _), (0, .ref _), (1, .int _), (4, .int _)]) X dX9_answer_119 (by decide) rfl ?_
      refine z_let h (fun h => ?_)
      refine z_aload_n (pc := 121) X dX9_answer_121 rfl 1 rfl ?_
      refine z_get (pc := 122) (v := .ref (σ 28)) X 0 fX9_133 rfl rfl dX9_answer_122 rfl ?_
      refine z_iload_n (pc := 125) X dX9_answer_125 rfl 2 rfl ?_
      refine z_iload (pc := 126) X dX9_answer_126 3 rfl ?_
      refine z_iast (pc := 128) X 28 rfl dX9_answer_128 h (fun h => ?_)
      refine z_let h (fun h => ?_)
      refine z_aload_n (pc := 129) X dX9_answer_129 rfl 1 rfl ?_
      refine z_get (pc := 130) (v := .ref (σ 13)) X 0 fX9_88 rfl rfl dX9_answer_130 rfl ?_
      refine z_iload (pc := 133) X dX9_answer_133 0 rfl ?_
      refine z_zald (pc := 135) X 13 rfl dX9_answer_135 h (fun h => ?_)
      refine z_if_eq (pc := 136) (tgt := 174) X dX9_answer_136 (by decide) h (fun h => ?_) (fun h => ?_)
      · exact z_sub [1, 2, 3, 0] rfl (zz9_answer_174 X  _ _ _ _ h)
      · refine z_iload (pc := 139) X dX9_answer_139 3 rfl ?_
        refine z_aload_n (pc := 141) X dX9_answer_141 rfl 1 rfl ?_
        refine z_get (pc := 142) (v := .ref (σ 14)) X 0 fX9_91 rfl rfl dX9_answer_142 rfl ?_
        refine z_iload (pc := 145) X dX9_answer_145 0 rfl ?_
        refine z_iald (pc := 147) X 14 rfl dX9_answer_147 h (fun h => ?_)
        refine z_icmp_ge (pc := 148) (tgt := 174) X dX9_answer_148 (by decide) h (fun h => ?_) (fun h => ?_)
        · exact z_sub [1, 2, 3, 0] rfl (zz9_answer_174 X  _ _ _ _ h)
        · refine z_aload_n (pc := 151) X dX9_answer_151 rfl 1 rfl ?_
          refine z_get (pc := 152) (v := .ref (σ 28)) X 0 fX9_133 rfl rfl dX9_answer_152 rfl ?_
          refine z_iload_n (pc := 155) X dX9_answer_155 rfl 2 rfl ?_
          refine z_aload_n (pc := 156) X dX9_answer_156 rfl 1 rfl ?_
          refine z_get (pc := 157) (v := .ref (σ 14)) X 0 fX9_91 rfl rfl dX9_answer_157 rfl ?_
          refine z_iload (pc := 160) X dX9_answer_160 0 rfl ?_
          refine z_iald (pc := 162) X 14 rfl dX9_answer_162 h (fun h => ?_)
          refine z_iast (pc := 163) X 28 rfl dX9_answer_163 h (fun h => ?_)
          refine z_let h (fun h => ?_)
          refine z_aload_n (pc := 164) X dX9_answer_164 rfl 1 rfl ?_
          refine z_dup (pc := 165) X dX9_answer_165 rfl ?_
          refine z_get (pc := 166) (v := .int _) X 0 fX9_233 rfl rfl dX9_answer_166 rfl ?_
          refine z_iconst (pc := 169) (v := 1) X dX9_answer_169 (by decide) ?_
          refine z_iadd (pc := 170) X dX9_answer_170 ?_
          refine z_putI (pc := 171) X 0 gX9_233 rfl rfl dX9_answer_171 ?_
          refine z_let h (fun h => ?_)
          exact z_sub [1, 2, 3, 0] rfl (zz9_answer_174 X  _ _ _ _ h)
    · refine z_iload (pc := 71) X dX9_answer_71 2 rfl ?_
      refine z_aload_n (pc := 73) X dX9_answer_73 rfl 0 rfl ?_
      refine z_get (pc := 74) (v := .ref (σ 30)) X 0 fX9_139 rfl rfl dX9_answer_74 rfl ?_
      refine z_iconst (pc := 77) (v := 5) X dX9_answer_77 (by decide) ?_
      refine z_iload_n (pc := 78) X dX9_answer_78 rfl 1 rfl ?_
      refine z_imul (pc := 79) X dX9_answer_79 ?_
      refine z_iload (pc := 80) X dX9_answer_80 3 rfl ?_
      refine z_iadd (pc := 82) X dX9_answer_82 ?_
      refine z_iald (pc := 83) X 30 rfl dX9_answer_83 h (fun h => ?_)
      refine z_max (pc := 84) X hX9_270 ⟨Nat.le_of_ble_eq_true rfl, Nat.le_of_ble_eq_true rfl⟩ dX9_answer_84 ?_
      refine z_istore (pc := 87) (L' := [(4, .int _), (0, .ref _), (1, .int _), (5, .int _)]) X dX9_answer_87 (by decide) rfl ?_
      refine z_let h (fun h => ?_)
      refine z_iinc (pc := 89) (k := 3) (v := 1) (L' := [(5, .int _), (4, .int _), (0, .ref _), (1, .int _)]) X dX9_answer_89 rfl (by decide) (by decide) rfl ?_
      refine z_let h (fun h => ?_)
      refine z_goto (pc := 92) (tgt := 62) X dX9_answer_92 (by decide) ?_
      exact z_sub [2, 3, 1, 0] rfl (ih _ _ _ _ h)
set_option maxRecDepth 100000 in
set_option maxHeartbeats 4000000 in
theorem zz9_answer_0 {S' : St} (X : zM p s m args meth c D cA σ shM tS RX9 cX9_answer 8 none) : ∀ (S : St) (x1 : Int32) (x2 : Int32) (x3 : Int32), J9_answer S x1 x2 x3 = some ((), S') → Zj p l e rm9_answer s m args below meth c D cA σ shM 8 none S' 0 [(0, .ref (σ 0)), (1, .int x1), (2, .int x2), (3, .int x3)] [] S := by
  intro S x1 x2 x3 h
  rw [J9_answer] at h
  refine z_aload_n (pc := 0) X dX9_answer_0 rfl 0 rfl ?_
  refine z_get (pc := 1) (v := .ref (σ 30)) X 0 fX9_139 rfl rfl dX9_answer_1 rfl ?_
  refine z_iconst (pc := 4) (v := 5) X dX9_answer_4 (by decide) ?_
  refine z_iload_n (pc := 5) X dX9_answer_5 rfl 1 rfl ?_
  refine z_imul (pc := 6) X dX9_answer_6 ?_
  refine z_aload_n (pc := 7) X dX9_answer_7 rfl 0 rfl ?_
  refine z_get (pc := 8) (v := .ref (σ 26)) X 0 fX9_127 rfl rfl dX9_answer_8 rfl ?_
  refine z_iload_n (pc := 11) X dX9_answer_11 rfl 1 rfl ?_
  refine z_iald (pc := 12) X 26 rfl dX9_answer_12 h (fun h => ?_)
  refine z_iadd (pc := 13) X dX9_answer_13 ?_
  refine z_iload_n (pc := 14) X dX9_answer_14 rfl 3 rfl ?_
  refine z_iast (pc := 15) X 30 rfl dX9_answer_15 h (fun h => ?_)
  refine z_let h (fun h => ?_)
  refine z_aload_n (pc := 16) X dX9_answer_16 rfl 0 rfl ?_
  refine z_get (pc := 17) (v := .ref (σ 31)) X 0 fX9_142 rfl rfl dX9_answer_17 rfl ?_
  refine z_iconst (pc := 20) (v := 5) X dX9_answer_20 (by decide) ?_
  refine z_iload_n (pc := 21) X dX9_answer_21 rfl 1 rfl ?_
  refine z_imul (pc := 22) X dX9_answer_22 ?_
  refine z_aload_n (pc := 23) X dX9_answer_23 rfl 0 rfl ?_
  refine z_get (pc := 24) (v := .ref (σ 26)) X 0 fX9_127 rfl rfl dX9_answer_24 rfl ?_
  refine z_iload_n (pc := 27) X dX9_answer_27 rfl 1 rfl ?_
  refine z_iald (pc := 28) X 26 rfl dX9_answer_28 h (fun h => ?_)
  refine z_iadd (pc := 29) X dX9_answer_29 ?_
  refine z_iload_n (pc := 30) X dX9_answer_30 rfl 2 rfl ?_
  refine z_iast (pc := 31) X 31 rfl dX9_answer_31 h (fun h => ?_)
  refine z_let h (fun h => ?_)
  refine z_aload_n (pc := 32) X dX9_answer_32 rfl 0 rfl ?_
  refine z_get (pc := 33) (v := .ref (σ 26)) X 0 fX9_127 rfl rfl dX9_answer_33 rfl ?_
  refine z_iload_n (pc := 36) X dX9_answer_36 rfl 1 rfl ?_
  refine z_dup2_11 (pc := 37) X dX9_answer_37 rfl rfl ?_
  refine z_iald (pc := 38) X 26 rfl dX9_answer_38 h (fun h => ?_)
  refine z_iconst (pc := 39) (v := 1) X dX9_answer_39 (by decide) ?_
  refine z_iadd (pc := 40) X dX9_answer_40 ?_
  refine z_iast (pc := 41) X 26 rfl dX9_answer_41 h (fun h => ?_)
  refine z_let h (fun h => ?_)
  refine z_aload_n (pc := 42) X dX9_answer_42 rfl 0 rfl ?_
  refine z_get (pc := 43) (v := .ref (σ 26)) X 0 fX9_127 rfl rfl dX9_answer_43 rfl ?_
  refine z_iload_n (pc := 46) X dX9_answer_46 rfl 1 rfl ?_
  refine z_iald (pc := 47) X 26 rfl dX9_answer_47 h (fun h => ?_)
  refine z_aload_n (pc := 48) X dX9_answer_48 rfl 0 rfl ?_
  refine z_get (pc := 49) (v := .int _) X 0 fX9_221 rfl rfl dX9_answer_49 rfl ?_
  refine z_icmp_ge (pc := 52) (tgt := 56) X dX9_answer_52 (by decide) h (fun h => ?_) (fun h => ?_)
  · refine z_iconst (pc := 56) (v := 0) X dX9_answer_56 (by decide) ?_
    refine z_istore (pc := 57) (L' := [(4, .int _), (0, .ref _), (1, .int _), (2, .int _), (3, .int _)]) X dX9_answer_57 (by decide) rfl ?_
    refine z_iconst (pc := 59) (v := 0) X dX9_answer_59 (by decide) ?_
    refine z_istore (pc := 60) (L' := [(5, .int _), (4, .int _), (0, .ref _), (1, .int _), (2, .int _), (3, .int _)]) X dX9_answer_60 (by decide) rfl ?_
    exact z_sub [2, 3, 1, 0] rfl (zz9_answer_62 X  fu _ _ _ _ h)
  · exact z_vret X rfl dX9_answer_55 h
theorem cc9_answer {l : Launch} {D : va_G} {cA : Nat → ClassId} {σ : Nat → Nat} {tS : Nat} {S S' : St} {x1 : Int32} {x2 : Int32} {x3 : Int32} (h : J9_answer S x1 x2 x3 = some ((), S')) : zMet l D cA σ shM tS yX9_answer cX9_answer 8 none rm9_answer [.ref (σ 0), .int x1, .int x2, .int x3] S none S' := z_met [(0, .ref (σ 0)), (1, .int x1), (2, .int x2), (3, .int x3)] (by decide +kernel) (Nat.le_of_ble_eq_true rfl) rfl (fun _ _ _ _ _ _ _ _ X => zz9_answer_0 X _ _ _ _ h)
set_option maxRecDepth 100000 in
set_option maxHeartbeats 4000000 in
theorem zz9_is_14 {S' : St} {r : Int32} (X : zM p s m args meth c D cA σ shM tS RX9 cX9_is 2 (some .boolean)) : ∀ (S : St) (t0 : Int32), J9_is_14 S t0 = some (r, S') → Zj p l e rm9_is s m args below meth c D cA σ shM 2 (some (.int r)) S' 14 [] [.int t0] S := by
  intro S t0 h
  rw [J9_is_14] at h
  exact z_zret X rfl dX9_is_14 h
set_option maxRecDepth 100000 in
set_option maxHeartbeats 4000000 in
theorem zz9_is_0 {S' : St} {r : Int32} (X : zM p s m args meth c D cA σ shM tS RX9 cX9_is 2 (some .boolean)) : ∀ (S : St) (x1 : Int32), J9_is S x1 = some (r, S') → Zj p l e rm9_is s m args below meth c D cA σ shM 2 (some (.int r)) S' 0 [(0, .ref (σ 0)), (1, .int x1)] [] S := by
  intro S x1 h
  rw [J9_is] at h
  refine z_aload_n (pc := 0) X dX9_is_0 rfl 0 rfl ?_
  refine z_iload_n (pc := 1) X dX9_is_1 rfl 1 rfl ?_
  refine z_putI (pc := 2) X 0 gX9_1 rfl rfl dX9_is_2 ?_
  refine z_let h (fun h => ?_)
  refine z_iload_n (pc := 5) X dX9_is_5 rfl 1 rfl ?_
  refine z_if_ne (pc := 6) (tgt := 13) X dX9_is_6 (by decide) h (fun h => ?_) (fun h => ?_)
  · refine z_iconst (pc := 13) (v := 0) X dX9_is_13 (by decide) ?_
    exact z_sub [] rfl (zz9_is_14 X  _ _ h)
  · refine z_iconst (pc := 9) (v := 1) X dX9_is_9 (by decide) ?_
    refine z_goto (pc := 10) (tgt := 14) X dX9_is_10 (by decide) ?_
    exact z_sub [] rfl (zz9_is_14 X  _ _ h)
theorem cc9_is {l : Launch} {D : va_G} {cA : Nat → ClassId} {σ : Nat → Nat} {tS : Nat} {S S' : St} {x1 : Int32} {r : Int32} (h : J9_is S x1 = some (r, S')) : zMet l D cA σ shM tS yX9_is cX9_is 2 (some .boolean) rm9_is [.ref (σ 0), .int x1] S (some (.int r)) S' := z_met [(0, .ref (σ 0)), (1, .int x1)] (by decide +kernel) (Nat.le_of_ble_eq_true rfl) rfl (fun _ _ _ _ _ _ _ _ X => zz9_is_0 X _ _ h)
set_option maxRecDepth 100000 in
set_option maxHeartbeats 4000000 in
theorem zz9_begin_122 {S' : St} {r : Int32} (X : zM p s m args meth c D cA σ shM tS RX9 cX9_begin 2 (some .boolean)) : ∀ (n : Nat) (S : St) (x1 : Int32), J9_begin_122 n S x1 = some (r, S') → Zj p l e rm9_begin s m args below meth c D cA σ shM 2 (some (.int r)) S' 122 [(0, .ref (σ 0)), (1, .int x1)] [] S := by
  intro n
  induction n with
  | zero =>
    intro S x1 h
    rw [J9_begin_122] at h
    cases h
  | succ n ih =>
    intro S x1 h
    rw [J9_begin_122] at h
    refine z_iload_n (pc := 122) X dX9_begin_122 rfl 1 rfl ?_
    refine z_iconst (pc := 123) (v := 4) X dX9_begin_123 (by decide) ?_
    refine z_icmp_ge (pc := 124) (tgt := 147) X dX9_begin_124 (by decide) h (fun h => ?_) (fun h => ?_)
    · refine z_aload_n (pc := 147) X dX9_begin_147 rfl 0 rfl ?_
      refine z_iconst (pc := 148) (v := 0) X dX9_begin_148 (by decide) ?_
      refine z_callVi (pc := 149) (rm := rm9_is) X 0 [.int _] vX9_18 rfl rfl rfl (Nat.le_of_ble_eq_true rfl) ⟨rfl, rfl, Nat.le_of_ble_eq_true rfl, Nat.le_of_ble_eq_true rfl⟩ dX9_begin_149 h (fun _ _ q => cc9_is q) (fun r1 S1 h => ?_)
      exact z_zret X rfl dX9_begin_152 h
    · refine z_aload_n (pc := 127) X dX9_begin_127 rfl 0 rfl ?_
      refine z_get (pc := 128) (v := .ref (σ 13)) X 0 fX9_88 rfl rfl dX9_begin_128 rfl ?_
      refine z_iload_n (pc := 131) X dX9_begin_131 rfl 1 rfl ?_
      refine z_iconst (pc := 132) (v := 0) X dX9_begin_132 (by decide) ?_
      refine z_zast (pc := 133) X 13 rfl dX9_begin_133 h (fun h => ?_)
      refine z_let h (fun h => ?_)
      refine z_aload_n (pc := 134) X dX9_begin_134 rfl 0 rfl ?_
      refine z_get (pc := 135) (v := .ref (σ 14)) X 0 fX9_91 rfl rfl dX9_begin_135 rfl ?_
      refine z_iload_n (pc := 138) X dX9_begin_138 rfl 1 rfl ?_
      refine z_iconst (pc := 139) (v := 0) X dX9_begin_139 (by decide) ?_
      refine z_iast (pc := 140) X 14 rfl dX9_begin_140 h (fun h => ?_)
      refine z_let h (fun h => ?_)
      refine z_iinc (pc := 141) (k := 1) (v := 1) (L' := [(1, .int _), (0, .ref _)]) X dX9_begin_141 rfl (by decide) (by decide) rfl ?_
      refine z_let h (fun h => ?_)
      refine z_goto (pc := 144) (tgt := 122) X dX9_begin_144 (by decide) ?_
      exact z_sub [1, 0] rfl (ih _ _ h)
set_option maxRecDepth 100000 in
set_option maxHeartbeats 4000000 in
theorem zz9_begin_98 {S' : St} {r : Int32} (X : zM p s m args meth c D cA σ shM tS RX9 cX9_begin 2 (some .boolean)) : ∀ (n : Nat) (S : St) (x1 : Int32), J9_begin_98 n S x1 = some (r, S') → Zj p l e rm9_begin s m args below meth c D cA σ shM 2 (some (.int r)) S' 98 [(0, .ref (σ 0)), (1, .int x1)] [] S := by
  intro n
  induction n with
  | zero =>
    intro S x1 h
    rw [J9_begin_98] at h
    cases h
  | succ n ih =>
    intro S x1 h
    rw [J9_begin_98] at h
    refine z_iload_n (pc := 98) X dX9_begin_98 rfl 1 rfl ?_
    refine z_aload_n (pc := 99) X dX9_begin_99 rfl 0 rfl ?_
    refine z_get (pc := 100) (v := .ref (σ 11)) X 0 fX9_81 rfl rfl dX9_begin_100 rfl ?_
    refine z_alen (pc := 103) (v := 25) X 11 (by decide) rfl rfl dX9_begin_103 ?_
    refine z_icmp_ge (pc := 104) (tgt := 120) X dX9_begin_104 (by decide) h (fun h => ?_) (fun h => ?_)
    · refine z_iconst (pc := 120) (v := 0) X dX9_begin_120 (by decide) ?_
      refine z_istore_n (pc := 121) (L' := [(1, .int _), (0, .ref _)]) X dX9_begin_121 rfl (by decide) rfl ?_
      exact z_sub [1, 0] rfl (zz9_begin_122 X  fu _ _ h)
    · refine z_aload_n (pc := 107) X dX9_begin_107 rfl 0 rfl ?_
      refine z_get (pc := 108) (v := .ref (σ 11)) X 0 fX9_81 rfl rfl dX9_begin_108 rfl ?_
      refine z_iload_n (pc := 111) X dX9_begin_111 rfl 1 rfl ?_
      refine z_iconst (pc := 112) (v := 0) X dX9_begin_112 (by decide) ?_
      refine z_iast (pc := 113) X 11 rfl dX9_begin_113 h (fun h => ?_)
      refine z_let h (fun h => ?_)
      refine z_iinc (pc := 114) (k := 1) (v := 1) (L' := [(1, .int _), (0, .ref _)]) X dX9_begin_114 rfl (by decide) (by decide) rfl ?_
      refine z_let h (fun h => ?_)
      refine z_goto (pc := 117) (tgt := 98) X dX9_begin_117 (by decide) ?_
      exact z_sub [1, 0] rfl (ih _ _ h)
set_option maxRecDepth 100000 in
set_option maxHeartbeats 4000000 in
theorem zz9_begin_71 {S' : St} {r : Int32} (X : zM p s m args meth c D cA σ shM tS RX9 cX9_begin 2 (some .boolean)) : ∀ (n : Nat) (S : St) (x1 : Int32), J9_begin_71 n S x1 = some (r, S') → Zj p l e rm9_begin s m args below meth c D cA σ shM 2 (some (.int r)) S' 71 [(0, .ref (σ 0)), (1, .int x1)] [] S := by
  intro n
  induction n with
  | zero =>
    intro S x1 h
    rw [J9_begin_71] at h
    cases h
  | succ n ih =>
    intro S x1 h
    rw [J9_begin_71] at h
    refine z_iload_n (pc := 71) X dX9_begin_71 rfl 1 rfl ?_
    refine z_iconst (pc := 72) (v := 5) X dX9_begin_72 (by decide) ?_
    refine z_icmp_ge (pc := 73) (tgt := 96) X dX9_begin_73 (by decide) h (fun h => ?_) (fun h => ?_)
    · refine z_iconst (pc := 96) (v := 0) X dX9_begin_96 (by decide) ?_
      refine z_istore_n (pc := 97) (L' := [(1, .int _), (0, .ref _)]) X dX9_begin_97 rfl (by decide) rfl ?_
      exact z_sub [1, 0] rfl (zz9_begin_98 X  fu _ _ h)
    · refine z_aload_n (pc := 76) X dX9_begin_76 rfl 0 rfl ?_
      refine z_get (pc := 77) (v := .ref (σ 10)) X 0 fX9_78 rfl rfl dX9_begin_77 rfl ?_
      refine z_iload_n (pc := 80) X dX9_begin_80 rfl 1 rfl ?_
      refine z_iconst (pc := 81) (v := 0) X dX9_begin_81 (by decide) ?_
      refine z_iast (pc := 82) X 10 rfl dX9_begin_82 h (fun h => ?_)
      refine z_let h (fun h => ?_)
      refine z_aload_n (pc := 83) X dX9_begin_83 rfl 0 rfl ?_
      refine z_get (pc := 84) (v := .ref (σ 12)) X 0 fX9_84 rfl rfl dX9_begin_84 rfl ?_
      refine z_iload_n (pc := 87) X dX9_begin_87 rfl 1 rfl ?_
      refine z_iconst (pc := 88) (v := 1) X dX9_begin_88 (by decide) ?_
      refine z_zast (pc := 89) X 12 rfl dX9_begin_89 h (fun h => ?_)
      refine z_let h (fun h => ?_)
      refine z_iinc (pc := 90) (k := 1) (v := 1) (L' := [(1, .int _), (0, .ref _)]) X dX9_begin_90 rfl (by decide) (by decide) rfl ?_
      refine z_let h (fun h => ?_)
      refine z_goto (pc := 93) (tgt := 71) X dX9_begin_93 (by decide) ?_
      exact z_sub [1, 0] rfl (ih _ _ h)
set_option maxRecDepth 100000 in
set_option maxHeartbeats 4000000 in
theorem zz9_begin_0 {S' : St} {r : Int32} (X : zM p s m args meth c D cA σ shM tS RX9 cX9_begin 2 (some .boolean)) : ∀ (S : St), J9_begin S = some (r, S') → Zj p l e rm9_begin s m args below meth c D cA σ shM 2 (some (.int r)) S' 0 [(0, .ref (σ 0))] [] S := by
  intro S h
  rw [J9_begin] at h
  refine z_aload_n (pc := 0) X dX9_begin_0 rfl 0 rfl ?_
  refine z_iconst (pc := 1) (v := 1) X dX9_begin_1 (by decide) ?_
  refine z_putZ (pc := 2) X 0 gX9_208 rfl rfl dX9_begin_2 h (fun h => ?_)
  refine z_let h (fun h => ?_)
  refine z_aload_n (pc := 5) X dX9_begin_5 rfl 0 rfl ?_
  refine z_iconst (pc := 6) (v := 0) X dX9_begin_6 (by decide) ?_
  refine z_putZ (pc := 7) X 0 gX9_212 rfl rfl dX9_begin_7 h (fun h => ?_)
  refine z_let h (fun h => ?_)
  refine z_aload_n (pc := 10) X dX9_begin_10 rfl 0 rfl ?_
  refine z_aload_n (pc := 11) X dX9_begin_11 rfl 0 rfl ?_
  refine z_get (pc := 12) (v := .int _) X 0 fX9_48 rfl rfl dX9_begin_12 rfl ?_
  refine z_putI (pc := 15) X 0 gX9_215 rfl rfl dX9_begin_15 ?_
  refine z_let h (fun h => ?_)
  refine z_aload_n (pc := 18) X dX9_begin_18 rfl 0 rfl ?_
  refine z_aload_n (pc := 19) X dX9_begin_19 rfl 0 rfl ?_
  refine z_get (pc := 20) (v := .int _) X 0 fX9_51 rfl rfl dX9_begin_20 rfl ?_
  refine z_putI (pc := 23) X 0 gX9_218 rfl rfl dX9_begin_23 ?_
  refine z_let h (fun h => ?_)
  refine z_aload_n (pc := 26) X dX9_begin_26 rfl 0 rfl ?_
  refine z_aload_n (pc := 27) X dX9_begin_27 rfl 0 rfl ?_
  refine z_get (pc := 28) (v := .int _) X 0 fX9_54 rfl rfl dX9_begin_28 rfl ?_
  refine z_putI (pc := 31) X 0 gX9_221 rfl rfl dX9_begin_31 ?_
  refine z_let h (fun h => ?_)
  refine z_aload_n (pc := 34) X dX9_begin_34 rfl 0 rfl ?_
  refine z_iconst (pc := 35) (v := 0) X dX9_begin_35 (by decide) ?_
  refine z_putI (pc := 36) X 0 gX9_224 rfl rfl dX9_begin_36 ?_
  refine z_let h (fun h => ?_)
  refine z_aload_n (pc := 39) X dX9_begin_39 rfl 0 rfl ?_
  refine z_iconst (pc := 40) (v := 0) X dX9_begin_40 (by decide) ?_
  refine z_putI (pc := 41) X 0 gX9_227 rfl rfl dX9_begin_41 ?_
  refine z_let h (fun h => ?_)
  refine z_aload_n (pc := 44) X dX9_begin_44 rfl 0 rfl ?_
  refine z_iconst (pc := 45) (v := 0) X dX9_begin_45 (by decide) ?_
  refine z_putI (pc := 46) X 0 gX9_230 rfl rfl dX9_begin_46 ?_
  refine z_let h (fun h => ?_)
  refine z_aload_n (pc := 49) X dX9_begin_49 rfl 0 rfl ?_
  refine z_iconst (pc := 50) (v := 0) X dX9_begin_50 (by decide) ?_
  refine z_putI (pc := 51) X 0 gX9_233 rfl rfl dX9_begin_51 ?_
  refine z_let h (fun h => ?_)
  refine z_aload_n (pc := 54) X dX9_begin_54 rfl 0 rfl ?_
  refine z_iconst (pc := 55) (v := 0) X dX9_begin_55 (by decide) ?_
  refine z_putI (pc := 56) X 0 gX9_236 rfl rfl dX9_begin_56 ?_
  refine z_let h (fun h => ?_)
  refine z_aload_n (pc := 59) X dX9_begin_59 rfl 0 rfl ?_
  refine z_iconst (pc := 60) (v := 0) X dX9_begin_60 (by decide) ?_
  refine z_putI (pc := 61) X 0 gX9_239 rfl rfl dX9_begin_61 ?_
  refine z_let h (fun h => ?_)
  refine z_aload_n (pc := 64) X dX9_begin_64 rfl 0 rfl ?_
  refine z_iconst (pc := 65) (v := 0) X dX9_begin_65 (by decide) ?_
  refine z_putI (pc := 66) X 0 gX9_242 rfl rfl dX9_begin_66 ?_
  refine z_let h (fun h => ?_)
  refine z_iconst (pc := 69) (v := 0) X dX9_begin_69 (by decide) ?_
  refine z_istore_n (pc := 70) (L' := [(1, .int _), (0, .ref _)]) X dX9_begin_70 rfl (by decide) rfl ?_
  exact z_sub [1, 0] rfl (zz9_begin_71 X  fu _ _ h)
theorem cc9_begin {l : Launch} {D : va_G} {cA : Nat → ClassId} {σ : Nat → Nat} {tS : Nat} {S S' : St} {r : Int32} (h : J9_begin S = some (r, S')) : zMet l D cA σ shM tS yX9_begin cX9_begin 2 (some .boolean) rm9_begin [.ref (σ 0)] S (some (.int r)) S' := z_met [(0, .ref (σ 0))] (by decide +kernel) (Nat.le_of_ble_eq_true rfl) rfl (fun _ _ _ _ _ _ _ _ X => zz9_begin_0 X _ h)
set_option maxRecDepth 100000 in
set_option maxHeartbeats 4000000 in
theorem zz9_both_61 {S' : St} {r : Int32} (X : zM p s m args meth c D cA σ shM tS RX9 cX9_both 6 (some .int)) (k6 : St → Int32 → Int32 → Int32 → Int32 → Int32 → Option (Int32 × St)) (hk6 : ∀ (S : St) (x1 : Int32) (x2 : Int32) (x3 : Int32) (x4 : Int32) (x5 : Int32), k6 S x1 x2 x3 x4 x5 = some (r, S') → Zj p l e rm9_both s m args below meth c D cA σ shM 6 (some (.int r)) S' 6 [(0, .ref (σ 0)), (1, .int x1), (2, .int x2), (3, .int x3), (4, .int x4), (5, .int x5)] [] S) : ∀ (S : St) (x1 : Int32) (x2 : Int32) (x3 : Int32) (x4 : Int32) (x5 : Int32), J9_both_61 k6 S x1 x2 x3 x4 x5 = some (r, S') → Zj p l e rm9_both s m args below meth c D cA σ shM 6 (some (.int r)) S' 61 [(0, .ref (σ 0)), (1, .int x1), (2, .int x2), (3, .int x3), (4, .int x4), (5, .int x5)] [] S := by
  intro S x1 x2 x3 x4 x5 h
  rw [J9_both_61] at h
  refine z_iinc (pc := 61) (k := 5) (v := 1) (L' := [(5, .int _), (0, .ref _), (1, .int _), (2, .int _), (3, .int _), (4, .int _)]) X dX9_both_61 rfl (by decide) (by decide) rfl ?_
  refine z_let h (fun h => ?_)
  refine z_goto (pc := 64) (tgt := 6) X dX9_both_64 (by decide) ?_
  exact z_sub [1, 2, 3, 4, 5, 0] rfl (hk6 _ _ _ _ _ _ h)
set_option maxRecDepth 100000 in
set_option maxHeartbeats 4000000 in
theorem zz9_both_6 {S' : St} {r : Int32} (X : zM p s m args meth c D cA σ shM tS RX9 cX9_both 6 (some .int)) : ∀ (n : Nat) (S : St) (x1 : Int32) (x2 : Int32) (x3 : Int32) (x4 : Int32) (x5 : Int32), J9_both_6 n S x1 x2 x3 x4 x5 = some (r, S') → Zj p l e rm9_both s m args below meth c D cA σ shM 6 (some (.int r)) S' 6 [(0, .ref (σ 0)), (1, .int x1), (2, .int x2), (3, .int x3), (4, .int x4), (5, .int x5)] [] S := by
  intro n
  induction n with
  | zero =>
    intro S x1 x2 x3 x4 x5 h
    rw [J9_both_6] at h
    cases h
  | succ n ih =>
    intro S x1 x2 x3 x4 x5 h
    rw [J9_both_6] at h
    refine z_iload (pc := 6) X dX9_both_6 5 rfl ?_
    refine z_bipush (pc := 8) (v := 8) X dX9_both_8 (by decide) ?_
    refine z_icmp_ge (pc := 10) (tgt := 67) X dX9_both_10 (by decide) h (fun h => ?_) (fun h => ?_)
    · refine z_iload (pc := 67) X dX9_both_67 4 rfl ?_
      exact z_iret X rfl dX9_both_69 h
    · refine z_iload_n (pc := 13) X dX9_both_13 rfl 3 rfl ?_
      refine z_iload (pc := 14) X dX9_both_14 5 rfl ?_
      refine z_isub (pc := 16) X dX9_both_16 ?_
      refine z_if_lt (pc := 17) (tgt := 61) X dX9_both_17 (by decide) h (fun h => ?_) (fun h => ?_)
      · exact z_sub [0, 1, 2, 3, 4, 5] rfl (zz9_both_61 X _ ih _ _ _ _ _ _ h)
      · refine z_iload_n (pc := 20) X dX9_both_20 rfl 3 rfl ?_
        refine z_iload (pc := 21) X dX9_both_21 5 rfl ?_
        refine z_isub (pc := 23) X dX9_both_23 ?_
        refine z_bipush (pc := 24) (v := 8) X dX9_both_24 (by decide) ?_
        refine z_icmp_ge (pc := 26) (tgt := 61) X dX9_both_26 (by decide) h (fun h => ?_) (fun h => ?_)
        · exact z_sub [0, 1, 2, 3, 4, 5] rfl (zz9_both_61 X _ ih _ _ _ _ _ _ h)
        · refine z_iload (pc := 29) X dX9_both_29 4 rfl ?_
          refine z_aload_n (pc := 31) X dX9_both_31 rfl 0 rfl ?_
          refine z_get (pc := 32) (v := .ref (σ 4)) X 0 fX9_60 rfl rfl dX9_both_32 rfl ?_
          refine z_bipush (pc := 35) (v := 8) X dX9_both_35 (by decide) ?_
          refine z_iload_n (pc := 37) X dX9_both_37 rfl 1 rfl ?_
          refine z_imul (pc := 38) X dX9_both_38 ?_
          refine z_iload (pc := 39) X dX9_both_39 5 rfl ?_
          refine z_iadd (pc := 41) X dX9_both_41 ?_
          refine z_iald (pc := 42) X 4 rfl dX9_both_42 h (fun h => ?_)
          refine z_aload_n (pc := 43) X dX9_both_43 rfl 0 rfl ?_
          refine z_get (pc := 44) (v := .ref (σ 4)) X 0 fX9_60 rfl rfl dX9_both_44 rfl ?_
          refine z_bipush (pc := 47) (v := 8) X dX9_both_47 (by decide) ?_
          refine z_iload_n (pc := 49) X dX9_both_49 rfl 2 rfl ?_
          refine z_imul (pc := 50) X dX9_both_50 ?_
          refine z_iload_n (pc := 51) X dX9_both_51 rfl 3 rfl ?_
          refine z_iadd (pc := 52) X dX9_both_52 ?_
          refine z_iload (pc := 53) X dX9_both_53 5 rfl ?_
          refine z_isub (pc := 55) X dX9_both_55 ?_
          refine z_iald (pc := 56) X 4 rfl dX9_both_56 h (fun h => ?_)
          refine z_imul (pc := 57) X dX9_both_57 ?_
          refine z_iadd (pc := 58) X dX9_both_58 ?_
          refine z_istore (pc := 59) (L' := [(4, .int _), (0, .ref _), (1, .int _), (2, .int _), (3, .int _), (5, .int _)]) X dX9_both_59 (by decide) rfl ?_
          refine z_let h (fun h => ?_)
          exact z_sub [1, 2, 3, 4, 0, 5] rfl (zz9_both_61 X _ ih _ _ _ _ _ _ h)
set_option maxRecDepth 100000 in
set_option maxHeartbeats 4000000 in
theorem zz9_both_0 {S' : St} {r : Int32} (X : zM p s m args meth c D cA σ shM tS RX9 cX9_both 6 (some .int)) : ∀ (S : St) (x1 : Int32) (x2 : Int32) (x3 : Int32), J9_both S x1 x2 x3 = some (r, S') → Zj p l e rm9_both s m args below meth c D cA σ shM 6 (some (.int r)) S' 0 [(0, .ref (σ 0)), (1, .int x1), (2, .int x2), (3, .int x3)] [] S := by
  intro S x1 x2 x3 h
  rw [J9_both] at h
  refine z_iconst (pc := 0) (v := 0) X dX9_both_0 (by decide) ?_
  refine z_istore (pc := 1) (L' := [(4, .int _), (0, .ref _), (1, .int _), (2, .int _), (3, .int _)]) X dX9_both_1 (by decide) rfl ?_
  refine z_iconst (pc := 3) (v := 0) X dX9_both_3 (by decide) ?_
  refine z_istore (pc := 4) (L' := [(5, .int _), (4, .int _), (0, .ref _), (1, .int _), (2, .int _), (3, .int _)]) X dX9_both_4 (by decide) rfl ?_
  exact z_sub [2, 3, 4, 5, 1, 0] rfl (zz9_both_6 X  fu _ _ _ _ _ _ h)
theorem cc9_both {l : Launch} {D : va_G} {cA : Nat → ClassId} {σ : Nat → Nat} {tS : Nat} {S S' : St} {x1 : Int32} {x2 : Int32} {x3 : Int32} {r : Int32} (h : J9_both S x1 x2 x3 = some (r, S')) : zMet l D cA σ shM tS yX9_both cX9_both 6 (some .int) rm9_both [.ref (σ 0), .int x1, .int x2, .int x3] S (some (.int r)) S' := z_met [(0, .ref (σ 0)), (1, .int x1), (2, .int x2), (3, .int x3)] (by decide +kernel) (Nat.le_of_ble_eq_true rfl) rfl (fun _ _ _ _ _ _ _ _ X => zz9_both_0 X _ _ _ _ h)
set_option maxRecDepth 100000 in
set_option maxHeartbeats 4000000 in
theorem zz9_bottom_0 {S' : St} {r : Int64} (X : zM p s m args meth c D cA σ shM tS RX9 cX9_bottom 1 (some .long)) : ∀ (S : St), J9_bottom S = some (r, S') → Zj p l e rm9_bottom s m args below meth c D cA σ shM 1 (some (.long r)) S' 0 [(0, .ref (σ 0))] [] S := by
  intro S h
  rw [J9_bottom] at h
  refine z_aload_n (pc := 0) X dX9_bottom_0 rfl 0 rfl ?_
  refine z_get (pc := 1) (v := .long _) X 0 fX9_11 rfl rfl dX9_bottom_1 rfl ?_
  exact z_lret X rfl dX9_bottom_4 h
theorem cc9_bottom {l : Launch} {D : va_G} {cA : Nat → ClassId} {σ : Nat → Nat} {tS : Nat} {S S' : St} {r : Int64} (h : J9_bottom S = some (r, S')) : zMet l D cA σ shM tS yX9_bottom cX9_bottom 1 (some .long) rm9_bottom [.ref (σ 0)] S (some (.long r)) S' := z_met [(0, .ref (σ 0))] (by decide +kernel) (Nat.le_of_ble_eq_true rfl) rfl (fun _ _ _ _ _ _ _ _ X => zz9_bottom_0 X _ h)
set_option maxRecDepth 100000 in
set_option maxHeartbeats 4000000 in
theorem zz9_isAbove_73 {S' : St} {r : Int32} (X : zM p s m args meth c D cA σ shM tS RX9 cX9_isAbove 24 (some .boolean)) : ∀ (S : St) (t0 : Int32), J9_isAbove_73 S t0 = some (r, S') → Zj p l e rm9_isAbove s m args below meth c D cA σ shM 24 (some (.int r)) S' 73 [] [.int t0] S := by
  intro S t0 h
  rw [J9_isAbove_73] at h
  exact z_zret X rfl dX9_isAbove_73 h
set_option maxRecDepth 100000 in
set_option maxHeartbeats 4000000 in
theorem zz9_isAbove_63 {S' : St} {r : Int32} (X : zM p s m args meth c D cA σ shM tS RX9 cX9_isAbove 24 (some .boolean)) : ∀ (S : St) (x16 : Int32) (t0 : Int32), J9_isAbove_63 S x16 t0 = some (r, S') → Zj p l e rm9_isAbove s m args below meth c D cA σ shM 24 (some (.int r)) S' 63 [(16, .int x16)] [.int t0] S := by
  intro S x16 t0 h
  rw [J9_isAbove_63] at h
  refine z_iload (pc := 63) X dX9_isAbove_63 0 rfl ?_
  refine z_icmp_eq (pc := 65) (tgt := 72) X dX9_isAbove_65 (by decide) h (fun h => ?_) (fun h => ?_)
  · refine z_iconst (pc := 72) (v := 0) X dX9_isAbove_72 (by decide) ?_
    exact z_sub [] rfl (zz9_isAbove_73 X  _ _ h)
  · refine z_iconst (pc := 68) (v := 1) X dX9_isAbove_68 (by decide) ?_
    refine z_goto (pc := 69) (tgt := 73) X dX9_isAbove_69 (by decide) ?_
    exact z_sub [] rfl (zz9_isAbove_73 X  _ _ h)
set_option maxRecDepth 100000 in
set_option maxHeartbeats 4000000 in
theorem zz9_isAbove_132 {S' : St} {r : Int32} (X : zM p s m args meth c D cA σ shM tS RX9 cX9_isAbove 24 (some .boolean)) : ∀ (S : St) (t0 : Int32), J9_isAbove_132 S t0 = some (r, S') → Zj p l e rm9_isAbove s m args below meth c D cA σ shM 24 (some (.int r)) S' 132 [] [.int t0] S := by
  intro S t0 h
  rw [J9_isAbove_132] at h
  exact z_zret X rfl dX9_isAbove_132 h
set_option maxRecDepth 100000 in
set_option maxHeartbeats 4000000 in
theorem zz9_isAbove_131 {S' : St} {r : Int32} (X : zM p s m args meth c D cA σ shM tS RX9 cX9_isAbove 24 (some .boolean)) : ∀ (S : St), J9_isAbove_131 S = some (r, S') → Zj p l e rm9_isAbove s m args below meth c D cA σ shM 24 (some (.int r)) S' 131 [] [] S := by
  intro S h
  rw [J9_isAbove_131] at h
  refine z_iconst (pc := 131) (v := 0) X dX9_isAbove_131 (by decide) ?_
  exact z_sub [] rfl (zz9_isAbove_132 X  _ _ h)
set_option maxRecDepth 100000 in
set_option maxHeartbeats 4000000 in
theorem zz9_isAbove_122 {S' : St} {r : Int32} (X : zM p s m args meth c D cA σ shM tS RX9 cX9_isAbove 24 (some .boolean)) : ∀ (S : St) (x16 : Int32) (t0 : Int32), J9_isAbove_122 S x16 t0 = some (r, S') → Zj p l e rm9_isAbove s m args below meth c D cA σ shM 24 (some (.int r)) S' 122 [(16, .int x16)] [.int t0] S := by
  intro S x16 t0 h
  rw [J9_isAbove_122] at h
  refine z_iload (pc := 122) X dX9_isAbove_122 0 rfl ?_
  refine z_icmp_eq (pc := 124) (tgt := 131) X dX9_isAbove_124 (by decide) h (fun h => ?_) (fun h => ?_)
  · exact z_sub [] rfl (zz9_isAbove_131 X  _ h)
  · refine z_iconst (pc := 127) (v := 1) X dX9_isAbove_127 (by decide) ?_
    refine z_goto (pc := 128) (tgt := 132) X dX9_isAbove_128 (by decide) ?_
    exact z_sub [] rfl (zz9_isAbove_132 X  _ _ h)
set_option maxRecDepth 100000 in
set_option maxHeartbeats 4000000 in
theorem zz9_isAbove_102 {S' : St} {r : Int32} (X : zM p s m args meth c D cA σ shM tS RX9 cX9_isAbove 24 (some .boolean)) : ∀ (S : St) (x8 : Int64) (x12 : Int64) (x16 : Int32), J9_isAbove_102 S x8 x12 x16 = some (r, S') → Zj p l e rm9_isAbove s m args below meth c D cA σ shM 24 (some (.int r)) S' 102 [(8, .long x8), (12, .long x12), (16, .int x16)] [] S := by
  intro S x8 x12 x16 h
  rw [J9_isAbove_102] at h
  refine z_lload (pc := 102) X dX9_isAbove_102 0 rfl ?_
  refine z_lload (pc := 104) X dX9_isAbove_104 1 rfl ?_
  refine z_lcmp (pc := 106) X dX9_isAbove_106 ?_
  refine z_if_eq (pc := 107) (tgt := 131) X dX9_isAbove_107 (by decide) h (fun h => ?_) (fun h => ?_)
  · exact z_sub [] rfl (zz9_isAbove_131 X  _ h)
  · refine z_lload (pc := 110) X dX9_isAbove_110 0 rfl ?_
    refine z_lconst (pc := 112) (v := 0) X dX9_isAbove_112 (by decide) ?_
    refine z_lcmp (pc := 113) X dX9_isAbove_113 ?_
    refine z_if_le (pc := 114) (tgt := 121) X dX9_isAbove_114 (by decide) h (fun h => ?_) (fun h => ?_)
    · refine z_iconst (pc := 121) (v := 0) X dX9_isAbove_121 (by decide) ?_
      exact z_sub [2] rfl (zz9_isAbove_122 X  _ _ _ h)
    · refine z_iconst (pc := 117) (v := 1) X dX9_isAbove_117 (by decide) ?_
      refine z_goto (pc := 118) (tgt := 122) X dX9_isAbove_118 (by decide) ?_
      exact z_sub [2] rfl (zz9_isAbove_122 X  _ _ _ h)
set_option maxRecDepth 100000 in
set_option maxHeartbeats 4000000 in
theorem zz9_isAbove_167 {S' : St} {r : Int32} (X : zM p s m args meth c D cA σ shM tS RX9 cX9_isAbove 24 (some .boolean)) (k20 : St → Int64 → Int64 → Int64 → Int64 → Int32 → Int32 → Option (Int32 × St)) (hk20 : ∀ (S : St) (x8 : Int64) (x10 : Int64) (x12 : Int64) (x14 : Int64) (x16 : Int32) (x17 : Int32), k20 S x8 x10 x12 x14 x16 x17 = some (r, S') → Zj p l e rm9_isAbove s m args below meth c D cA σ shM 24 (some (.int r)) S' 20 [(8, .long x8), (10, .long x10), (12, .long x12), (14, .long x14), (16, .int x16), (17, .int x17)] [] S) : ∀ (S : St) (x8 : Int64) (x10 : Int64) (x12 : Int64) (x14 : Int64) (x17 : Int32) (t0 : Int32), J9_isAbove_167 k20 S x8 x10 x12 x14 x17 t0 = some (r, S') → Zj p l e rm9_isAbove s m args below meth c D cA σ shM 24 (some (.int r)) S' 167 [(8, .long x8), (10, .long x10), (12, .long x12), (14, .long x14), (17, .int x17)] [.int t0] S := by
  intro S x8 x10 x12 x14 x17 t0 h
  rw [J9_isAbove_167] at h
  refine z_istore (pc := 167) (L' := [(16, .int _), (8, .long _), (10, .long _), (12, .long _), (14, .long _), (17, .int _)]) X dX9_isAbove_167 (by decide) rfl ?_
  refine z_iinc (pc := 169) (k := 5) (v := 1) (L' := [(17, .int _), (16, .int _), (8, .long _), (10, .long _), (12, .long _), (14, .long _)]) X dX9_isAbove_169 rfl (by decide) (by decide) rfl ?_
  refine z_let h (fun h => ?_)
  refine z_goto (pc := 172) (tgt := 20) X dX9_isAbove_172 (by decide) ?_
  exact z_sub [2, 3, 4, 5, 1, 0] rfl (hk20 _ _ _ _ _ _ _ h)
set_option maxRecDepth 100000 in
set_option maxHeartbeats 4000000 in
theorem zz9_isAbove_20 {S' : St} {r : Int32} (X : zM p s m args meth c D cA σ shM tS RX9 cX9_isAbove 24 (some .boolean)) : ∀ (n : Nat) (S : St) (x8 : Int64) (x10 : Int64) (x12 : Int64) (x14 : Int64) (x16 : Int32) (x17 : Int32), J9_isAbove_20 n S x8 x10 x12 x14 x16 x17 = some (r, S') → Zj p l e rm9_isAbove s m args below meth c D cA σ shM 24 (some (.int r)) S' 20 [(8, .long x8), (10, .long x10), (12, .long x12), (14, .long x14), (16, .int x16), (17, .int x17)] [] S := by
  intro n
  induction n with
  | zero =>
    intro S x8 x10 x12 x14 x16 x17 h
    rw [J9_isAbove_20] at h
    cases h
  | succ n ih =>
    intro S x8 x10 x12 x14 x16 x17 h
    rw [J9_isAbove_20] at h
    refine z_iload (pc := 20) X dX9_isAbove_20 5 rfl ?_
    refine z_sipush (pc := 22) (v := 200) X dX9_isAbove_22 (by decide) ?_
    refine z_icmp_ge (pc := 25) (tgt := 175) X dX9_isAbove_25 (by decide) h (fun h => ?_) (fun h => ?_)
    · refine z_iconst (pc := 175) (v := 0) X dX9_isAbove_175 (by decide) ?_
      exact z_zret X rfl dX9_isAbove_176 h
    · refine z_lload (pc := 28) X dX9_isAbove_28 0 rfl ?_
      refine z_lload (pc := 30) X dX9_isAbove_30 1 rfl ?_
      refine z_ldiv (pc := 32) X dX9_isAbove_32 h (fun h => ?_)
      refine z_lstore (pc := 33) (L' := [(18, .long _), (8, .long _), (10, .long _), (12, .long _), (14, .long _), (16, .int _), (17, .int _)]) X dX9_isAbove_33 (by decide) rfl ?_
      refine z_let h (fun h => ?_)
      refine z_lload (pc := 35) X dX9_isAbove_35 3 rfl ?_
      refine z_lload (pc := 37) X dX9_isAbove_37 4 rfl ?_
      refine z_ldiv (pc := 39) X dX9_isAbove_39 h (fun h => ?_)
      refine z_lstore (pc := 40) (L' := [(20, .long _), (18, .long _), (8, .long _), (10, .long _), (12, .long _), (14, .long _), (16, .int _), (17, .int _)]) X dX9_isAbove_40 (by decide) rfl ?_
      refine z_let h (fun h => ?_)
      refine z_lload (pc := 42) X dX9_isAbove_42 1 rfl ?_
      refine z_lload (pc := 44) X dX9_isAbove_44 0 rfl ?_
      refine z_lcmp (pc := 46) X dX9_isAbove_46 ?_
      refine z_if_eq (pc := 47) (tgt := 74) X dX9_isAbove_47 (by decide) h (fun h => ?_) (fun h => ?_)
      · refine z_lload (pc := 74) X dX9_isAbove_74 2 rfl ?_
        refine z_lload (pc := 76) X dX9_isAbove_76 3 rfl ?_
        refine z_lrem (pc := 78) X dX9_isAbove_78 h (fun h => ?_)
        refine z_lstore (pc := 79) (L' := [(8, .long _), (20, .long _), (18, .long _), (10, .long _), (12, .long _), (14, .long _), (16, .int _), (17, .int _)]) X dX9_isAbove_79 (by decide) rfl ?_
        refine z_let h (fun h => ?_)
        refine z_lload (pc := 81) X dX9_isAbove_81 4 rfl ?_
        refine z_lload (pc := 83) X dX9_isAbove_83 5 rfl ?_
        refine z_lrem (pc := 85) X dX9_isAbove_85 h (fun h => ?_)
        refine z_lstore (pc := 86) (L' := [(12, .long _), (8, .long _), (20, .long _), (18, .long _), (10, .long _), (14, .long _), (16, .int _), (17, .int _)]) X dX9_isAbove_86 (by decide) rfl ?_
        refine z_let h (fun h => ?_)
        refine z_lload (pc := 88) X dX9_isAbove_88 1 rfl ?_
        refine z_lconst (pc := 90) (v := 0) X dX9_isAbove_90 (by decide) ?_
        refine z_lcmp (pc := 91) X dX9_isAbove_91 ?_
        refine z_if_eq (pc := 92) (tgt := 102) X dX9_isAbove_92 (by decide) h (fun h => ?_) (fun h => ?_)
        · exact z_sub [1, 0, 6] rfl (zz9_isAbove_102 X  _ _ _ _ h)
        · refine z_lload (pc := 95) X dX9_isAbove_95 0 rfl ?_
          refine z_lconst (pc := 97) (v := 0) X dX9_isAbove_97 (by decide) ?_
          refine z_lcmp (pc := 98) X dX9_isAbove_98 ?_
          refine z_if_ne (pc := 99) (tgt := 133) X dX9_isAbove_99 (by decide) h (fun h => ?_) (fun h => ?_)
          · refine z_lload (pc := 133) X dX9_isAbove_133 1 rfl ?_
            refine z_lstore (pc := 135) (L' := [(22, .long _), (12, .long _), (8, .long _), (20, .long _), (18, .long _), (10, .long _), (14, .long _), (16, .int _), (17, .int _)]) X dX9_isAbove_135 (by decide) rfl ?_
            refine z_lload (pc := 137) X dX9_isAbove_137 5 rfl ?_
            refine z_lstore (pc := 139) (L' := [(8, .long _), (22, .long _), (12, .long _), (20, .long _), (18, .long _), (10, .long _), (14, .long _), (16, .int _), (17, .int _)]) X dX9_isAbove_139 (by decide) rfl ?_
            refine z_lload (pc := 141) X dX9_isAbove_141 1 rfl ?_
            refine z_lstore (pc := 143) (L' := [(10, .long _), (8, .long _), (22, .long _), (12, .long _), (20, .long _), (18, .long _), (14, .long _), (16, .int _), (17, .int _)]) X dX9_isAbove_143 (by decide) rfl ?_
            refine z_lload (pc := 145) X dX9_isAbove_145 3 rfl ?_
            refine z_lstore (pc := 147) (L' := [(22, .long _), (10, .long _), (8, .long _), (12, .long _), (20, .long _), (18, .long _), (14, .long _), (16, .int _), (17, .int _)]) X dX9_isAbove_147 (by decide) rfl ?_
            refine z_lload (pc := 149) X dX9_isAbove_149 6 rfl ?_
            refine z_lstore (pc := 151) (L' := [(12, .long _), (22, .long _), (10, .long _), (8, .long _), (20, .long _), (18, .long _), (14, .long _), (16, .int _), (17, .int _)]) X dX9_isAbove_151 (by decide) rfl ?_
            refine z_lload (pc := 153) X dX9_isAbove_153 1 rfl ?_
            refine z_lstore (pc := 155) (L' := [(14, .long _), (12, .long _), (22, .long _), (10, .long _), (8, .long _), (20, .long _), (18, .long _), (16, .int _), (17, .int _)]) X dX9_isAbove_155 (by decide) rfl ?_
            refine z_iload (pc := 157) X dX9_isAbove_157 7 rfl ?_
            refine z_if_ne (pc := 159) (tgt := 166) X dX9_isAbove_159 (by decide) h (fun h => ?_) (fun h => ?_)
            · refine z_iconst (pc := 166) (v := 0) X dX9_isAbove_166 (by decide) ?_
              exact z_sub [4, 3, 1, 0, 8] rfl (zz9_isAbove_167 X _ ih _ _ _ _ _ _ _ h)
            · refine z_iconst (pc := 162) (v := 1) X dX9_isAbove_162 (by decide) ?_
              refine z_goto (pc := 163) (tgt := 167) X dX9_isAbove_163 (by decide) ?_
              exact z_sub [4, 3, 1, 0, 8] rfl (zz9_isAbove_167 X _ ih _ _ _ _ _ _ _ h)
          · exact z_sub [1, 0, 6] rfl (zz9_isAbove_102 X  _ _ _ _ h)
      · refine z_lload (pc := 50) X dX9_isAbove_50 1 rfl ?_
        refine z_lload (pc := 52) X dX9_isAbove_52 0 rfl ?_
        refine z_lcmp (pc := 54) X dX9_isAbove_54 ?_
        refine z_if_le (pc := 55) (tgt := 62) X dX9_isAbove_55 (by decide) h (fun h => ?_) (fun h => ?_)
        · refine z_iconst (pc := 62) (v := 0) X dX9_isAbove_62 (by decide) ?_
          exact z_sub [6] rfl (zz9_isAbove_63 X  _ _ _ h)
        · refine z_iconst (pc := 58) (v := 1) X dX9_isAbove_58 (by decide) ?_
          refine z_goto (pc := 59) (tgt := 63) X dX9_isAbove_59 (by decide) ?_
          exact z_sub [6] rfl (zz9_isAbove_63 X  _ _ _ h)
set_option maxRecDepth 100000 in
set_option maxHeartbeats 4000000 in
theorem zz9_isAbove_0 {S' : St} {r : Int32} (X : zM p s m args meth c D cA σ shM tS RX9 cX9_isAbove 24 (some .boolean)) : ∀ (S : St) (x0 : Int64) (x2 : Int64) (x4 : Int64) (x6 : Int64), J9_isAbove S x0 x2 x4 x6 = some (r, S') → Zj p l e rm9_isAbove s m args below meth c D cA σ shM 24 (some (.int r)) S' 0 [(0, .long x0), (2, .long x2), (4, .long x4), (6, .long x6)] [] S := by
  intro S x0 x2 x4 x6 h
  rw [J9_isAbove] at h
  refine z_lload_n (pc := 0) X dX9_isAbove_0 rfl 0 rfl ?_
  refine z_lstore (pc := 1) (L' := [(8, .long _), (0, .long _), (2, .long _), (4, .long _), (6, .long _)]) X dX9_isAbove_1 (by decide) rfl ?_
  refine z_lload_n (pc := 3) X dX9_isAbove_3 rfl 2 rfl ?_
  refine z_lstore (pc := 4) (L' := [(10, .long _), (8, .long _), (0, .long _), (2, .long _), (4, .long _), (6, .long _)]) X dX9_isAbove_4 (by decide) rfl ?_
  refine z_lload (pc := 6) X dX9_isAbove_6 4 rfl ?_
  refine z_lstore (pc := 8) (L' := [(12, .long _), (10, .long _), (8, .long _), (0, .long _), (2, .long _), (4, .long _), (6, .long _)]) X dX9_isAbove_8 (by decide) rfl ?_
  refine z_lload (pc := 10) X dX9_isAbove_10 6 rfl ?_
  refine z_lstore (pc := 12) (L' := [(14, .long _), (12, .long _), (10, .long _), (8, .long _), (0, .long _), (2, .long _), (4, .long _), (6, .long _)]) X dX9_isAbove_12 (by decide) rfl ?_
  refine z_iconst (pc := 14) (v := 0) X dX9_isAbove_14 (by decide) ?_
  refine z_istore (pc := 15) (L' := [(16, .int _), (14, .long _), (12, .long _), (10, .long _), (8, .long _), (0, .long _), (2, .long _), (4, .long _), (6, .long _)]) X dX9_isAbove_15 (by decide) rfl ?_
  refine z_iconst (pc := 17) (v := 0) X dX9_isAbove_17 (by decide) ?_
  refine z_istore (pc := 18) (L' := [(17, .int _), (16, .int _), (14, .long _), (12, .long _), (10, .long _), (8, .long _), (0, .long _), (2, .long _), (4, .long _), (6, .long _)]) X dX9_isAbove_18 (by decide) rfl ?_
  exact z_sub [5, 4, 3, 2, 1, 0] rfl (zz9_isAbove_20 X  fu _ _ _ _ _ _ _ h)
theorem cc9_isAbove {l : Launch} {D : va_G} {cA : Nat → ClassId} {σ : Nat → Nat} {tS : Nat} {S S' : St} {x0 : Int64} {x2 : Int64} {x4 : Int64} {x6 : Int64} {r : Int32} (h : J9_isAbove S x0 x2 x4 x6 = some (r, S')) : zMet l D cA σ shM tS yX9_isAbove cX9_isAbove 24 (some .boolean) rm9_isAbove [.long x0, .long x2, .long x4, .long x6] S (some (.int r)) S' := z_met [(0, .long x0), (2, .long x2), (4, .long x4), (6, .long x6)] (by decide +kernel) (Nat.le_of_ble_eq_true rfl) rfl (fun _ _ _ _ _ _ _ _ X => zz9_isAbove_0 X _ _ _ _ _ h)
set_option maxRecDepth 100000 in
set_option maxHeartbeats 4000000 in
theorem zz9_isAsked_33 {S' : St} {r : Int32} (X : zM p s m args meth c D cA σ shM tS RX9 cX9_isAsked 3 (some .boolean)) : ∀ (S : St) (t0 : Int32), J9_isAsked_33 S t0 = some (r, S') → Zj p l e rm9_isAsked s m args below meth c D cA σ shM 3 (some (.int r)) S' 33 [] [.int t0] S := by
  intro S t0 h
  rw [J9_isAsked_33] at h
  exact z_zret X rfl dX9_isAsked_33 h
set_option maxRecDepth 100000 in
set_option maxHeartbeats 4000000 in
theorem zz9_isAsked_32 {S' : St} {r : Int32} (X : zM p s m args meth c D cA σ shM tS RX9 cX9_isAsked 3 (some .boolean)) : ∀ (S : St), J9_isAsked_32 S = some (r, S') → Zj p l e rm9_isAsked s m args below meth c D cA σ shM 3 (some (.int r)) S' 32 [] [] S := by
  intro S h
  rw [J9_isAsked_32] at h
  refine z_iconst (pc := 32) (v := 0) X dX9_isAsked_32 (by decide) ?_
  exact z_sub [] rfl (zz9_isAsked_33 X  _ _ h)
set_option maxRecDepth 100000 in
set_option maxHeartbeats 4000000 in
theorem zz9_isAsked_0 {S' : St} {r : Int32} (X : zM p s m args meth c D cA σ shM tS RX9 cX9_isAsked 3 (some .boolean)) : ∀ (S : St) (x0 : Int32) (x1 : Int32) (x2 : Int32), J9_isAsked S x0 x1 x2 = some (r, S') → Zj p l e rm9_isAsked s m args below meth c D cA σ shM 3 (some (.int r)) S' 0 [(0, .int x0), (1, .int x1), (2, .int x2)] [] S := by
  intro S x0 x1 x2 h
  rw [J9_isAsked] at h
  refine z_iload_n (pc := 0) X dX9_isAsked_0 rfl 0 rfl ?_
  refine z_if_lt (pc := 1) (tgt := 32) X dX9_isAsked_1 (by decide) h (fun h => ?_) (fun h => ?_)
  · exact z_sub [] rfl (zz9_isAsked_32 X  _ h)
  · refine z_iload_n (pc := 4) X dX9_isAsked_4 rfl 0 rfl ?_
    refine z_bipush (pc := 5) (v := 100) X dX9_isAsked_5 (by decide) ?_
    refine z_icmp_gt (pc := 7) (tgt := 32) X dX9_isAsked_7 (by decide) h (fun h => ?_) (fun h => ?_)
    · exact z_sub [] rfl (zz9_isAsked_32 X  _ h)
    · refine z_iload_n (pc := 10) X dX9_isAsked_10 rfl 1 rfl ?_
      refine z_if_lt (pc := 11) (tgt := 32) X dX9_isAsked_11 (by decide) h (fun h => ?_) (fun h => ?_)
      · exact z_sub [] rfl (zz9_isAsked_32 X  _ h)
      · refine z_iload_n (pc := 14) X dX9_isAsked_14 rfl 1 rfl ?_
        refine z_iconst (pc := 15) (v := 3) X dX9_isAsked_15 (by decide) ?_
        refine z_icmp_gt (pc := 16) (tgt := 32) X dX9_isAsked_16 (by decide) h (fun h => ?_) (fun h => ?_)
        · exact z_sub [] rfl (zz9_isAsked_32 X  _ h)
        · refine z_iload_n (pc := 19) X dX9_isAsked_19 rfl 2 rfl ?_
          refine z_if_lt (pc := 20) (tgt := 32) X dX9_isAsked_20 (by decide) h (fun h => ?_) (fun h => ?_)
          · exact z_sub [] rfl (zz9_isAsked_32 X  _ h)
          · refine z_iload_n (pc := 23) X dX9_isAsked_23 rfl 2 rfl ?_
            refine z_iload_n (pc := 24) X dX9_isAsked_24 rfl 1 rfl ?_
            refine z_icmp_gt (pc := 25) (tgt := 32) X dX9_isAsked_25 (by decide) h (fun h => ?_) (fun h => ?_)
            · exact z_sub [] rfl (zz9_isAsked_32 X  _ h)
            · refine z_iconst (pc := 28) (v := 1) X dX9_isAsked_28 (by decide) ?_
              refine z_goto (pc := 29) (tgt := 33) X dX9_isAsked_29 (by decide) ?_
              exact z_sub [] rfl (zz9_isAsked_33 X  _ _ h)
theorem cc9_isAsked {l : Launch} {D : va_G} {cA : Nat → ClassId} {σ : Nat → Nat} {tS : Nat} {S S' : St} {x0 : Int32} {x1 : Int32} {x2 : Int32} {r : Int32} (h : J9_isAsked S x0 x1 x2 = some (r, S')) : zMet l D cA σ shM tS yX9_isAsked cX9_isAsked 3 (some .boolean) rm9_isAsked [.int x0, .int x1, .int x2] S (some (.int r)) S' := z_met [(0, .int x0), (1, .int x1), (2, .int x2)] (by decide +kernel) (Nat.le_of_ble_eq_true rfl) rfl (fun _ _ _ _ _ _ _ _ X => zz9_isAsked_0 X _ _ _ _ h)
set_option maxRecDepth 100000 in
set_option maxHeartbeats 4000000 in
theorem zz9_look_182 {S' : St} (X : zM p s m args meth c D cA σ shM tS RX9 cX9_look 19 none) (k30 : St → Int32 → Int32 → Int32 → Int32 → Int32 → Option (Unit × St)) (hk30 : ∀ (S : St) (x1 : Int32) (x2 : Int32) (x3 : Int32) (x4 : Int32) (x5 : Int32), k30 S x1 x2 x3 x4 x5 = some ((), S') → Zj p l e rm9_look s m args below meth c D cA σ shM 19 none S' 30 [(0, .ref (σ 0)), (1, .int x1), (2, .int x2), (3, .int x3), (4, .int x4), (5, .int x5)] [] S) (k40 : St → Int32 → Int32 → Int32 → Int32 → Int32 → Int32 → Option (Unit × St)) (hk40 : ∀ (S : St) (x1 : Int32) (x2 : Int32) (x3 : Int32) (x4 : Int32) (x5 : Int32) (x6 : Int32), k40 S x1 x2 x3 x4 x5 x6 = some ((), S') → Zj p l e rm9_look s m args below meth c D cA σ shM 19 none S' 40 [(0, .ref (σ 0)), (1, .int x1), (2, .int x2), (3, .int x3), (4, .int x4), (5, .int x5), (6, .int x6)] [] S) (k101 : St → Int32 → Int32 → Int32 → Int32 → Int32 → Int32 → Int32 → Int64 → Int32 → Option (Unit × St)) (hk101 : ∀ (S : St) (x1 : Int32) (x2 : Int32) (x3 : Int32) (x4 : Int32) (x5 : Int32) (x6 : Int32) (x7 : Int32) (x8 : Int64) (x10 : Int32), k101 S x1 x2 x3 x4 x5 x6 x7 x8 x10 = some ((), S') → Zj p l e rm9_look s m args below meth c D cA σ shM 19 none S' 101 [(0, .ref (σ 0)), (1, .int x1), (2, .int x2), (3, .int x3), (4, .int x4), (5, .int x5), (6, .int x6), (7, .int x7), (8, .long x8), (10, .int x10)] [] S) (k143 : St → Int32 → Int32 → Int32 → Int32 → Int32 → Int32 → Int32 → Int64 → Int32 → Int32 → Int64 → Int64 → Int32 → Option (Unit × St)) (hk143 : ∀ (S : St) (x1 : Int32) (x2 : Int32) (x3 : Int32) (x4 : Int32) (x5 : Int32) (x6 : Int32) (x7 : Int32) (x8 : Int64) (x10 : Int32) (x11 : Int32) (x12 : Int64) (x14 : Int64) (x16 : Int32), k143 S x1 x2 x3 x4 x5 x6 x7 x8 x10 x11 x12 x14 x16 = some ((), S') → Zj p l e rm9_look s m args below meth c D cA σ shM 19 none S' 143 [(0, .ref (σ 0)), (1, .int x1), (2, .int x2), (3, .int x3), (4, .int x4), (5, .int x5), (6, .int x6), (7, .int x7), (8, .long x8), (10, .int x10), (11, .int x11), (12, .long x12), (14, .long x14), (16, .int x16)] [] S) : ∀ (S : St) (x1 : Int32) (x2 : Int32) (x3 : Int32) (x4 : Int32) (x5 : Int32) (x6 : Int32) (x7 : Int32) (x8 : Int64) (x10 : Int32) (x11 : Int32) (x14 : Int64) (x16 : Int32) (t0 : Int64) (t1 : Int64), J9_look_182 k30 k40 k101 k143 S x1 x2 x3 x4 x5 x6 x7 x8 x10 x11 x14 x16 t0 t1 = some ((), S') → Zj p l e rm9_look s m args below meth c D cA σ shM 19 none S' 182 [(0, .ref (σ 0)), (1, .int x1), (2, .int x2), (3, .int x3), (4, .int x4), (5, .int x5), (6, .int x6), (7, .int x7), (8, .long x8), (10, .int x10), (11, .int x11), (14, .long x14), (16, .int x16)] [.long t0, .long t1] S := by
  intro S x1 x2 x3 x4 x5 x6 x7 x8 x10 x11 x14 x16 t0 t1 h
  rw [J9_look_182] at h
  refine z_lmul (pc := 182) X dX9_look_182 ?_
  refine z_lstore (pc := 183) (L' := [(12, .long _), (0, .ref _), (1, .int _), (2, .int _), (3, .int _), (4, .int _), (5, .int _), (6, .int _), (7, .int _), (8, .long _), (10, .int _), (11, .int _), (14, .long _), (16, .int _)]) X dX9_look_183 (by decide) rfl ?_
  refine z_let h (fun h => ?_)
  refine z_lload (pc := 185) X dX9_look_185 12 rfl ?_
  refine z_aload_n (pc := 187) X dX9_look_187 rfl 1 rfl ?_
  refine z_get (pc := 188) (v := .ref (σ 5)) X 0 fX9_63 rfl rfl dX9_look_188 rfl ?_
  refine z_iconst (pc := 191) (v := 0) X dX9_look_191 (by decide) ?_
  refine z_iald (pc := 192) X 5 rfl dX9_look_192 h (fun h => ?_)
  refine z_i2l (pc := 193) X dX9_look_193 ?_
  refine z_lmul (pc := 194) X dX9_look_194 ?_
  refine z_lstore (pc := 195) (L' := [(14, .long _), (12, .long _), (0, .ref _), (1, .int _), (2, .int _), (3, .int _), (4, .int _), (5, .int _), (6, .int _), (7, .int _), (8, .long _), (10, .int _), (11, .int _), (16, .int _)]) X dX9_look_195 (by decide) rfl ?_
  refine z_let h (fun h => ?_)
  refine z_iinc (pc := 197) (k := 13) (v := 1) (L' := [(16, .int _), (14, .long _), (12, .long _), (0, .ref _), (1, .int _), (2, .int _), (3, .int _), (4, .int _), (5, .int _), (6, .int _), (7, .int _), (8, .long _), (10, .int _), (11, .int _)]) X dX9_look_197 rfl (by decide) (by decide) rfl ?_
  refine z_let h (fun h => ?_)
  refine z_goto (pc := 200) (tgt := 143) X dX9_look_200 (by decide) ?_
  exact z_sub [3, 4, 5, 6, 7, 8, 9, 10, 11, 12, 13, 2, 1, 0] rfl (hk143 _ _ _ _ _ _ _ _ _ _ _ _ _ _ h)
set_option maxRecDepth 100000 in
set_option maxHeartbeats 4000000 in
theorem zz9_look_206 {S' : St} (X : zM p s m args meth c D cA σ shM tS RX9 cX9_look 19 none) (k30 : St → Int32 → Int32 → Int32 → Int32 → Int32 → Option (Unit × St)) (hk30 : ∀ (S : St) (x1 : Int32) (x2 : Int32) (x3 : Int32) (x4 : Int32) (x5 : Int32), k30 S x1 x2 x3 x4 x5 = some ((), S') → Zj p l e rm9_look s m args below meth c D cA σ shM 19 none S' 30 [(0, .ref (σ 0)), (1, .int x1), (2, .int x2), (3, .int x3), (4, .int x4), (5, .int x5)] [] S) (k40 : St → Int32 → Int32 → Int32 → Int32 → Int32 → Int32 → Option (Unit × St)) (hk40 : ∀ (S : St) (x1 : Int32) (x2 : Int32) (x3 : Int32) (x4 : Int32) (x5 : Int32) (x6 : Int32), k40 S x1 x2 x3 x4 x5 x6 = some ((), S') → Zj p l e rm9_look s m args below meth c D cA σ shM 19 none S' 40 [(0, .ref (σ 0)), (1, .int x1), (2, .int x2), (3, .int x3), (4, .int x4), (5, .int x5), (6, .int x6)] [] S) (k101 : St → Int32 → Int32 → Int32 → Int32 → Int32 → Int32 → Int32 → Int64 → Int32 → Option (Unit × St)) (hk101 : ∀ (S : St) (x1 : Int32) (x2 : Int32) (x3 : Int32) (x4 : Int32) (x5 : Int32) (x6 : Int32) (x7 : Int32) (x8 : Int64) (x10 : Int32), k101 S x1 x2 x3 x4 x5 x6 x7 x8 x10 = some ((), S') → Zj p l e rm9_look s m args below meth c D cA σ shM 19 none S' 101 [(0, .ref (σ 0)), (1, .int x1), (2, .int x2), (3, .int x3), (4, .int x4), (5, .int x5), (6, .int x6), (7, .int x7), (8, .long x8), (10, .int x10)] [] S) : ∀ (n : Nat) (S : St) (x1 : Int32) (x2 : Int32) (x3 : Int32) (x4 : Int32) (x5 : Int32) (x6 : Int32) (x7 : Int32) (x8 : Int64) (x10 : Int32) (x12 : Int64) (x14 : Int64) (x16 : Int32), J9_look_206 k30 k40 k101 n S x1 x2 x3 x4 x5 x6 x7 x8 x10 x12 x14 x16 = some ((), S') → Zj p l e rm9_look s m args below meth c D cA σ shM 19 none S' 206 [(0, .ref (σ 0)), (1, .int x1), (2, .int x2), (3, .int x3), (4, .int x4), (5, .int x5), (6, .int x6), (7, .int x7), (8, .long x8), (10, .int x10), (12, .long x12), (14, .long x14), (16, .int x16)] [] S := by
  intro n
  induction n with
  | zero =>
    intro S x1 x2 x3 x4 x5 x6 x7 x8 x10 x12 x14 x16 h
    rw [J9_look_206] at h
    cases h
  | succ n ih =>
    intro S x1 x2 x3 x4 x5 x6 x7 x8 x10 x12 x14 x16 h
    rw [J9_look_206] at h
    refine z_iload (pc := 206) X dX9_look_206 12 rfl ?_
    refine z_bipush (pc := 208) (v := 8) X dX9_look_208 (by decide) ?_
    refine z_icmp_ge (pc := 210) (tgt := 301) X dX9_look_210 (by decide) h (fun h => ?_) (fun h => ?_)
    · refine z_iinc (pc := 301) (k := 9) (v := 1) (L' := [(10, .int _), (0, .ref _), (1, .int _), (2, .int _), (3, .int _), (4, .int _), (5, .int _), (6, .int _), (7, .int _), (8, .long _), (12, .long _), (14, .long _), (16, .int _)]) X dX9_look_301 rfl (by decide) (by decide) rfl ?_
      refine z_let h (fun h => ?_)
      refine z_goto (pc := 304) (tgt := 101) X dX9_look_304 (by decide) ?_
      exact z_sub [1, 2, 3, 4, 5, 6, 7, 8, 9, 0] rfl (hk101 _ _ _ _ _ _ _ _ _ _ h)
    · refine z_lload (pc := 213) X dX9_look_213 8 rfl ?_
      refine z_aload_n (pc := 215) X dX9_look_215 rfl 0 rfl ?_
      refine z_get (pc := 216) (v := .ref (σ 4)) X 0 fX9_60 rfl rfl dX9_look_216 rfl ?_
      refine z_bipush (pc := 219) (v := 16) X dX9_look_219 (by decide) ?_
      refine z_iload (pc := 221) X dX9_look_221 9 rfl ?_
      refine z_iadd (pc := 223) X dX9_look_223 ?_
      refine z_iald (pc := 224) X 4 rfl dX9_look_224 h (fun h => ?_)
      refine z_i2l (pc := 225) X dX9_look_225 ?_
      refine z_lmul (pc := 226) X dX9_look_226 ?_
      refine z_aload_n (pc := 227) X dX9_look_227 rfl 0 rfl ?_
      refine z_get (pc := 228) (v := .ref (σ 4)) X 0 fX9_60 rfl rfl dX9_look_228 rfl ?_
      refine z_bipush (pc := 231) (v := 24) X dX9_look_231 (by decide) ?_
      refine z_iload (pc := 233) X dX9_look_233 12 rfl ?_
      refine z_iadd (pc := 235) X dX9_look_235 ?_
      refine z_iald (pc := 236) X 4 rfl dX9_look_236 h (fun h => ?_)
      refine z_i2l (pc := 237) X dX9_look_237 ?_
      refine z_lmul (pc := 238) X dX9_look_238 ?_
      refine z_lstore (pc := 239) (L' := [(17, .long _), (0, .ref _), (1, .int _), (2, .int _), (3, .int _), (4, .int _), (5, .int _), (6, .int _), (7, .int _), (8, .long _), (10, .int _), (12, .long _), (14, .long _), (16, .int _)]) X dX9_look_239 (by decide) rfl ?_
      refine z_let h (fun h => ?_)
      refine z_aload_n (pc := 241) X dX9_look_241 rfl 1 rfl ?_
      refine z_get (pc := 242) (v := .ref (σ 6)) X 0 fX9_66 rfl rfl dX9_look_242 rfl ?_
      refine z_bipush (pc := 245) (v := 30) X dX9_look_245 (by decide) ?_
      refine z_iload (pc := 247) X dX9_look_247 8 rfl ?_
      refine z_imul (pc := 249) X dX9_look_249 ?_
      refine z_iconst (pc := 250) (v := 2) X dX9_look_250 (by decide) ?_
      refine z_iload (pc := 251) X dX9_look_251 10 rfl ?_
      refine z_iload (pc := 253) X dX9_look_253 13 rfl ?_
      refine z_iadd (pc := 255) X dX9_look_255 ?_
      refine z_imul (pc := 256) X dX9_look_256 ?_
      refine z_iadd (pc := 257) X dX9_look_257 ?_
      refine z_dup2_11 (pc := 258) X dX9_look_258 rfl rfl ?_
      refine z_lald (pc := 259) X 6 rfl dX9_look_259 h (fun h => ?_)
      refine z_lload (pc := 260) X dX9_look_260 0 rfl ?_
      refine z_lload (pc := 262) X dX9_look_262 11 rfl ?_
      refine z_lmul (pc := 264) X dX9_look_264 ?_
      refine z_ladd (pc := 265) X dX9_look_265 ?_
      refine z_last (pc := 266) X 6 rfl dX9_look_266 h (fun h => ?_)
      refine z_let h (fun h => ?_)
      refine z_aload_n (pc := 267) X dX9_look_267 rfl 1 rfl ?_
      refine z_get (pc := 268) (v := .ref (σ 6)) X 0 fX9_66 rfl rfl dX9_look_268 rfl ?_
      refine z_bipush (pc := 271) (v := 30) X dX9_look_271 (by decide) ?_
      refine z_iload (pc := 273) X dX9_look_273 8 rfl ?_
      refine z_imul (pc := 275) X dX9_look_275 ?_
      refine z_iconst (pc := 276) (v := 2) X dX9_look_276 (by decide) ?_
      refine z_iload (pc := 277) X dX9_look_277 10 rfl ?_
      refine z_iload (pc := 279) X dX9_look_279 13 rfl ?_
      refine z_iadd (pc := 281) X dX9_look_281 ?_
      refine z_imul (pc := 282) X dX9_look_282 ?_
      refine z_iadd (pc := 283) X dX9_look_283 ?_
      refine z_iconst (pc := 284) (v := 1) X dX9_look_284 (by decide) ?_
      refine z_iadd (pc := 285) X dX9_look_285 ?_
      refine z_dup2_11 (pc := 286) X dX9_look_286 rfl rfl ?_
      refine z_lald (pc := 287) X 6 rfl dX9_look_287 h (fun h => ?_)
      refine z_lload (pc := 288) X dX9_look_288 0 rfl ?_
      refine z_lload (pc := 290) X dX9_look_290 12 rfl ?_
      refine z_lmul (pc := 292) X dX9_look_292 ?_
      refine z_ladd (pc := 293) X dX9_look_293 ?_
      refine z_last (pc := 294) X 6 rfl dX9_look_294 h (fun h => ?_)
      refine z_let h (fun h => ?_)
      refine z_iinc (pc := 295) (k := 13) (v := 1) (L' := [(16, .int _), (17, .long _), (0, .ref _), (1, .int _), (2, .int _), (3, .int _), (4, .int _), (5, .int _), (6, .int _), (7, .int _), (8, .long _), (10, .int _), (12, .long _), (14, .long _)]) X dX9_look_295 rfl (by decide) (by decide) rfl ?_
      refine z_let h (fun h => ?_)
      refine z_goto (pc := 298) (tgt := 206) X dX9_look_298 (by decide) ?_
      exact z_sub [2, 3, 4, 5, 6, 7, 8, 9, 10, 11, 12, 13, 0] rfl (ih _ _ _ _ _ _ _ _ _ _ _ _ _ h)
set_option maxRecDepth 100000 in
set_option maxHeartbeats 4000000 in
theorem zz9_look_143 {S' : St} (X : zM p s m args meth c D cA σ shM tS RX9 cX9_look 19 none) (k30 : St → Int32 → Int32 → Int32 → Int32 → Int32 → Option (Unit × St)) (hk30 : ∀ (S : St) (x1 : Int32) (x2 : Int32) (x3 : Int32) (x4 : Int32) (x5 : Int32), k30 S x1 x2 x3 x4 x5 = some ((), S') → Zj p l e rm9_look s m args below meth c D cA σ shM 19 none S' 30 [(0, .ref (σ 0)), (1, .int x1), (2, .int x2), (3, .int x3), (4, .int x4), (5, .int x5)] [] S) (k40 : St → Int32 → Int32 → Int32 → Int32 → Int32 → Int32 → Option (Unit × St)) (hk40 : ∀ (S : St) (x1 : Int32) (x2 : Int32) (x3 : Int32) (x4 : Int32) (x5 : Int32) (x6 : Int32), k40 S x1 x2 x3 x4 x5 x6 = some ((), S') → Zj p l e rm9_look s m args below meth c D cA σ shM 19 none S' 40 [(0, .ref (σ 0)), (1, .int x1), (2, .int x2), (3, .int x3), (4, .int x4), (5, .int x5), (6, .int x6)] [] S) (k101 : St → Int32 → Int32 → Int32 → Int32 → Int32 → Int32 → Int32 → Int64 → Int32 → Option (Unit × St)) (hk101 : ∀ (S : St) (x1 : Int32) (x2 : Int32) (x3 : Int32) (x4 : Int32) (x5 : Int32) (x6 : Int32) (x7 : Int32) (x8 : Int64) (x10 : Int32), k101 S x1 x2 x3 x4 x5 x6 x7 x8 x10 = some ((), S') → Zj p l e rm9_look s m args below meth c D cA σ shM 19 none S' 101 [(0, .ref (σ 0)), (1, .int x1), (2, .int x2), (3, .int x3), (4, .int x4), (5, .int x5), (6, .int x6), (7, .int x7), (8, .long x8), (10, .int x10)] [] S) : ∀ (n : Nat) (S : St) (x1 : Int32) (x2 : Int32) (x3 : Int32) (x4 : Int32) (x5 : Int32) (x6 : Int32) (x7 : Int32) (x8 : Int64) (x10 : Int32) (x11 : Int32) (x12 : Int64) (x14 : Int64) (x16 : Int32), J9_look_143 k30 k40 k101 n S x1 x2 x3 x4 x5 x6 x7 x8 x10 x11 x12 x14 x16 = some ((), S') → Zj p l e rm9_look s m args below meth c D cA σ shM 19 none S' 143 [(0, .ref (σ 0)), (1, .int x1), (2, .int x2), (3, .int x3), (4, .int x4), (5, .int x5), (6, .int x6), (7, .int x7), (8, .long x8), (10, .int x10), (11, .int x11), (12, .long x12), (14, .long x14), (16, .int x16)] [] S := by
  intro n
  induction n with
  | zero =>
    intro S x1 x2 x3 x4 x5 x6 x7 x8 x10 x11 x12 x14 x16 h
    rw [J9_look_143] at h
    cases h
  | succ n ih =>
    intro S x1 x2 x3 x4 x5 x6 x7 x8 x10 x11 x12 x14 x16 h
    rw [J9_look_143] at h
    refine z_iload (pc := 143) X dX9_look_143 13 rfl ?_
    refine z_iload_n (pc := 145) X dX9_look_145 rfl 3 rfl ?_
    refine z_icmp_gt (pc := 146) (tgt := 203) X dX9_look_146 (by decide) h (fun h => ?_) (fun h => ?_)
    · refine z_iconst (pc := 203) (v := 0) X dX9_look_203 (by decide) ?_
      refine z_istore (pc := 204) (L' := [(16, .int _), (0, .ref _), (1, .int _), (2, .int _), (3, .int _), (4, .int _), (5, .int _), (6, .int _), (7, .int _), (8, .long _), (10, .int _), (11, .int _), (12, .long _), (14, .long _)]) X dX9_look_204 (by decide) rfl ?_
      exact z_sub [1, 2, 3, 4, 5, 6, 7, 8, 9, 10, 12, 13, 0] rfl (zz9_look_206 X _ hk30 _ hk40 _ hk101 fu _ _ _ _ _ _ _ _ _ _ _ _ _ h)
    · refine z_lload (pc := 149) X dX9_look_149 11 rfl ?_
      refine z_iload (pc := 151) X dX9_look_151 13 rfl ?_
      refine z_iload (pc := 153) X dX9_look_153 4 rfl ?_
      refine z_icmp_gt (pc := 155) (tgt := 175) X dX9_look_155 (by decide) h (fun h => ?_) (fun h => ?_)
      · refine z_aload_n (pc := 175) X dX9_look_175 rfl 0 rfl ?_
        refine z_get (pc := 176) (v := .ref (σ 5)) X 0 fX9_63 rfl rfl dX9_look_176 rfl ?_
        refine z_iconst (pc := 179) (v := 0) X dX9_look_179 (by decide) ?_
        refine z_iald (pc := 180) X 5 rfl dX9_look_180 h (fun h => ?_)
        refine z_i2l (pc := 181) X dX9_look_181 ?_
        exact z_sub [0, 1, 2, 3, 4, 5, 6, 7, 8, 9, 10, 12, 13] rfl (zz9_look_182 X _ hk30 _ hk40 _ hk101 _ ih _ _ _ _ _ _ _ _ _ _ _ _ _ _ _ h)
      · refine z_aload_n (pc := 158) X dX9_look_158 rfl 0 rfl ?_
        refine z_iload (pc := 159) X dX9_look_159 10 rfl ?_
        refine z_aload_n (pc := 161) X dX9_look_161 rfl 0 rfl ?_
        refine z_get (pc := 162) (v := .int _) X 0 fX9_57 rfl rfl dX9_look_162 rfl ?_
        refine z_iload (pc := 165) X dX9_look_165 13 rfl ?_
        refine z_imul (pc := 167) X dX9_look_167 ?_
        refine z_iadd (pc := 168) X dX9_look_168 ?_
        refine z_callVl (pc := 169) (rm := rm9_above) X 0 [.int _] vX9_172 rfl rfl rfl (Nat.le_of_ble_eq_true rfl) ⟨rfl, rfl, Nat.le_of_ble_eq_true rfl, Nat.le_of_ble_eq_true rfl⟩ dX9_look_169 h (fun _ _ q => cc9_above q) (fun r1 S1 h => ?_)
        refine z_goto (pc := 172) (tgt := 182) X dX9_look_172 (by decide) ?_
        exact z_sub [0, 1, 2, 3, 4, 5, 6, 7, 8, 9, 10, 12, 13] rfl (zz9_look_182 X _ hk30 _ hk40 _ hk101 _ ih _ _ _ _ _ _ _ _ _ _ _ _ _ _ _ h)
set_option maxRecDepth 100000 in
set_option maxHeartbeats 4000000 in
theorem zz9_look_135 {S' : St} (X : zM p s m args meth c D cA σ shM tS RX9 cX9_look 19 none) (k30 : St → Int32 → Int32 → Int32 → Int32 → Int32 → Option (Unit × St)) (hk30 : ∀ (S : St) (x1 : Int32) (x2 : Int32) (x3 : Int32) (x4 : Int32) (x5 : Int32), k30 S x1 x2 x3 x4 x5 = some ((), S') → Zj p l e rm9_look s m args below meth c D cA σ shM 19 none S' 30 [(0, .ref (σ 0)), (1, .int x1), (2, .int x2), (3, .int x3), (4, .int x4), (5, .int x5)] [] S) (k40 : St → Int32 → Int32 → Int32 → Int32 → Int32 → Int32 → Option (Unit × St)) (hk40 : ∀ (S : St) (x1 : Int32) (x2 : Int32) (x3 : Int32) (x4 : Int32) (x5 : Int32) (x6 : Int32), k40 S x1 x2 x3 x4 x5 x6 = some ((), S') → Zj p l e rm9_look s m args below meth c D cA σ shM 19 none S' 40 [(0, .ref (σ 0)), (1, .int x1), (2, .int x2), (3, .int x3), (4, .int x4), (5, .int x5), (6, .int x6)] [] S) (k101 : St → Int32 → Int32 → Int32 → Int32 → Int32 → Int32 → Int32 → Int64 → Int32 → Option (Unit × St)) (hk101 : ∀ (S : St) (x1 : Int32) (x2 : Int32) (x3 : Int32) (x4 : Int32) (x5 : Int32) (x6 : Int32) (x7 : Int32) (x8 : Int64) (x10 : Int32), k101 S x1 x2 x3 x4 x5 x6 x7 x8 x10 = some ((), S') → Zj p l e rm9_look s m args below meth c D cA σ shM 19 none S' 101 [(0, .ref (σ 0)), (1, .int x1), (2, .int x2), (3, .int x3), (4, .int x4), (5, .int x5), (6, .int x6), (7, .int x7), (8, .long x8), (10, .int x10)] [] S) : ∀ (S : St) (x1 : Int32) (x2 : Int32) (x3 : Int32) (x4 : Int32) (x5 : Int32) (x6 : Int32) (x7 : Int32) (x8 : Int64) (x10 : Int32) (x11 : Int32) (t0 : Int64), J9_look_135 k30 k40 k101 S x1 x2 x3 x4 x5 x6 x7 x8 x10 x11 t0 = some ((), S') → Zj p l e rm9_look s m args below meth c D cA σ shM 19 none S' 135 [(0, .ref (σ 0)), (1, .int x1), (2, .int x2), (3, .int x3), (4, .int x4), (5, .int x5), (6, .int x6), (7, .int x7), (8, .long x8), (10, .int x10), (11, .int x11)] [.long t0] S := by
  intro S x1 x2 x3 x4 x5 x6 x7 x8 x10 x11 t0 h
  rw [J9_look_135] at h
  refine z_lstore (pc := 135) (L' := [(12, .long _), (0, .ref _), (1, .int _), (2, .int _), (3, .int _), (4, .int _), (5, .int _), (6, .int _), (7, .int _), (8, .long _), (10, .int _), (11, .int _)]) X dX9_look_135 (by decide) rfl ?_
  refine z_lconst (pc := 137) (v := 1) X dX9_look_137 (by decide) ?_
  refine z_lstore (pc := 138) (L' := [(14, .long _), (12, .long _), (0, .ref _), (1, .int _), (2, .int _), (3, .int _), (4, .int _), (5, .int _), (6, .int _), (7, .int _), (8, .long _), (10, .int _), (11, .int _)]) X dX9_look_138 (by decide) rfl ?_
  refine z_iconst (pc := 140) (v := 1) X dX9_look_140 (by decide) ?_
  refine z_istore (pc := 141) (L' := [(16, .int _), (14, .long _), (12, .long _), (0, .ref _), (1, .int _), (2, .int _), (3, .int _), (4, .int _), (5, .int _), (6, .int _), (7, .int _), (8, .long _), (10, .int _), (11, .int _)]) X dX9_look_141 (by decide) rfl ?_
  exact z_sub [3, 4, 5, 6, 7, 8, 9, 10, 11, 12, 13, 2, 1, 0] rfl (zz9_look_143 X _ hk30 _ hk40 _ hk101 fu _ _ _ _ _ _ _ _ _ _ _ _ _ _ h)
set_option maxRecDepth 100000 in
set_option maxHeartbeats 4000000 in
theorem zz9_look_307 {S' : St} (X : zM p s m args meth c D cA σ shM tS RX9 cX9_look 19 none) (k30 : St → Int32 → Int32 → Int32 → Int32 → Int32 → Option (Unit × St)) (hk30 : ∀ (S : St) (x1 : Int32) (x2 : Int32) (x3 : Int32) (x4 : Int32) (x5 : Int32), k30 S x1 x2 x3 x4 x5 = some ((), S') → Zj p l e rm9_look s m args below meth c D cA σ shM 19 none S' 30 [(0, .ref (σ 0)), (1, .int x1), (2, .int x2), (3, .int x3), (4, .int x4), (5, .int x5)] [] S) (k40 : St → Int32 → Int32 → Int32 → Int32 → Int32 → Int32 → Option (Unit × St)) (hk40 : ∀ (S : St) (x1 : Int32) (x2 : Int32) (x3 : Int32) (x4 : Int32) (x5 : Int32) (x6 : Int32), k40 S x1 x2 x3 x4 x5 x6 = some ((), S') → Zj p l e rm9_look s m args below meth c D cA σ shM 19 none S' 40 [(0, .ref (σ 0)), (1, .int x1), (2, .int x2), (3, .int x3), (4, .int x4), (5, .int x5), (6, .int x6)] [] S) : ∀ (S : St) (x1 : Int32) (x2 : Int32) (x3 : Int32) (x4 : Int32) (x5 : Int32) (x6 : Int32), J9_look_307 k30 k40 S x1 x2 x3 x4 x5 x6 = some ((), S') → Zj p l e rm9_look s m args below meth c D cA σ shM 19 none S' 307 [(0, .ref (σ 0)), (1, .int x1), (2, .int x2), (3, .int x3), (4, .int x4), (5, .int x5), (6, .int x6)] [] S := by
  intro S x1 x2 x3 x4 x5 x6 h
  rw [J9_look_307] at h
  refine z_iinc (pc := 307) (k := 6) (v := 1) (L' := [(6, .int _), (0, .ref _), (1, .int _), (2, .int _), (3, .int _), (4, .int _), (5, .int _)]) X dX9_look_307 rfl (by decide) (by decide) rfl ?_
  refine z_let h (fun h => ?_)
  refine z_goto (pc := 310) (tgt := 40) X dX9_look_310 (by decide) ?_
  exact z_sub [1, 2, 3, 4, 5, 6, 0] rfl (hk40 _ _ _ _ _ _ _ h)
set_option maxRecDepth 100000 in
set_option maxHeartbeats 4000000 in
theorem zz9_look_101 {S' : St} (X : zM p s m args meth c D cA σ shM tS RX9 cX9_look 19 none) (k30 : St → Int32 → Int32 → Int32 → Int32 → Int32 → Option (Unit × St)) (hk30 : ∀ (S : St) (x1 : Int32) (x2 : Int32) (x3 : Int32) (x4 : Int32) (x5 : Int32), k30 S x1 x2 x3 x4 x5 = some ((), S') → Zj p l e rm9_look s m args below meth c D cA σ shM 19 none S' 30 [(0, .ref (σ 0)), (1, .int x1), (2, .int x2), (3, .int x3), (4, .int x4), (5, .int x5)] [] S) (k40 : St → Int32 → Int32 → Int32 → Int32 → Int32 → Int32 → Option (Unit × St)) (hk40 : ∀ (S : St) (x1 : Int32) (x2 : Int32) (x3 : Int32) (x4 : Int32) (x5 : Int32) (x6 : Int32), k40 S x1 x2 x3 x4 x5 x6 = some ((), S') → Zj p l e rm9_look s m args below meth c D cA σ shM 19 none S' 40 [(0, .ref (σ 0)), (1, .int x1), (2, .int x2), (3, .int x3), (4, .int x4), (5, .int x5), (6, .int x6)] [] S) : ∀ (n : Nat) (S : St) (x1 : Int32) (x2 : Int32) (x3 : Int32) (x4 : Int32) (x5 : Int32) (x6 : Int32) (x7 : Int32) (x8 : Int64) (x10 : Int32), J9_look_101 k30 k40 n S x1 x2 x3 x4 x5 x6 x7 x8 x10 = some ((), S') → Zj p l e rm9_look s m args below meth c D cA σ shM 19 none S' 101 [(0, .ref (σ 0)), (1, .int x1), (2, .int x2), (3, .int x3), (4, .int x4), (5, .int x5), (6, .int x6), (7, .int x7), (8, .long x8), (10, .int x10)] [] S := by
  intro n
  induction n with
  | zero =>
    intro S x1 x2 x3 x4 x5 x6 x7 x8 x10 h
    rw [J9_look_101] at h
    cases h
  | succ n ih =>
    intro S x1 x2 x3 x4 x5 x6 x7 x8 x10 h
    rw [J9_look_101] at h
    refine z_iload (pc := 101) X dX9_look_101 9 rfl ?_
    refine z_bipush (pc := 103) (v := 8) X dX9_look_103 (by decide) ?_
    refine z_icmp_ge (pc := 105) (tgt := 307) X dX9_look_105 (by decide) h (fun h => ?_) (fun h => ?_)
    · exact z_sub [0, 1, 2, 3, 4, 5, 6] rfl (zz9_look_307 X _ hk30 _ hk40 _ _ _ _ _ _ _ h)
    · refine z_lload (pc := 108) X dX9_look_108 8 rfl ?_
      refine z_lconst (pc := 110) (v := 0) X dX9_look_110 (by decide) ?_
      refine z_lcmp (pc := 111) X dX9_look_111 ?_
      refine z_if_le (pc := 112) (tgt := 307) X dX9_look_112 (by decide) h (fun h => ?_) (fun h => ?_)
      · exact z_sub [0, 1, 2, 3, 4, 5, 6] rfl (zz9_look_307 X _ hk30 _ hk40 _ _ _ _ _ _ _ h)
      · refine z_iload_n (pc := 115) X dX9_look_115 rfl 1 rfl ?_
        refine z_iload_n (pc := 116) X dX9_look_116 rfl 2 rfl ?_
        refine z_iadd (pc := 117) X dX9_look_117 ?_
        refine z_iload (pc := 118) X dX9_look_118 9 rfl ?_
        refine z_iadd (pc := 120) X dX9_look_120 ?_
        refine z_istore (pc := 121) (L' := [(11, .int _), (0, .ref _), (1, .int _), (2, .int _), (3, .int _), (4, .int _), (5, .int _), (6, .int _), (7, .int _), (8, .long _), (10, .int _)]) X dX9_look_121 (by decide) rfl ?_
        refine z_let h (fun h => ?_)
        refine z_iload (pc := 123) X dX9_look_123 6 rfl ?_
        refine z_iload (pc := 125) X dX9_look_125 0 rfl ?_
        refine z_icmp_le (pc := 127) (tgt := 134) X dX9_look_127 (by decide) h (fun h => ?_) (fun h => ?_)
        · refine z_lconst (pc := 134) (v := 0) X dX9_look_134 (by decide) ?_
          exact z_sub [1, 2, 3, 4, 5, 6, 7, 8, 9, 10, 0] rfl (zz9_look_135 X _ hk30 _ hk40 _ ih _ _ _ _ _ _ _ _ _ _ _ _ h)
        · refine z_lconst (pc := 130) (v := 1) X dX9_look_130 (by decide) ?_
          refine z_goto (pc := 131) (tgt := 135) X dX9_look_131 (by decide) ?_
          exact z_sub [1, 2, 3, 4, 5, 6, 7, 8, 9, 10, 0] rfl (zz9_look_135 X _ hk30 _ hk40 _ ih _ _ _ _ _ _ _ _ _ _ _ _ h)
set_option maxRecDepth 100000 in
set_option maxHeartbeats 4000000 in
theorem zz9_look_74 {S' : St} (X : zM p s m args meth c D cA σ shM tS RX9 cX9_look 19 none) (k30 : St → Int32 → Int32 → Int32 → Int32 → Int32 → Option (Unit × St)) (hk30 : ∀ (S : St) (x1 : Int32) (x2 : Int32) (x3 : Int32) (x4 : Int32) (x5 : Int32), k30 S x1 x2 x3 x4 x5 = some ((), S') → Zj p l e rm9_look s m args below meth c D cA σ shM 19 none S' 30 [(0, .ref (σ 0)), (1, .int x1), (2, .int x2), (3, .int x3), (4, .int x4), (5, .int x5)] [] S) (k40 : St → Int32 → Int32 → Int32 → Int32 → Int32 → Int32 → Option (Unit × St)) (hk40 : ∀ (S : St) (x1 : Int32) (x2 : Int32) (x3 : Int32) (x4 : Int32) (x5 : Int32) (x6 : Int32), k40 S x1 x2 x3 x4 x5 x6 = some ((), S') → Zj p l e rm9_look s m args below meth c D cA σ shM 19 none S' 40 [(0, .ref (σ 0)), (1, .int x1), (2, .int x2), (3, .int x3), (4, .int x4), (5, .int x5), (6, .int x6)] [] S) : ∀ (S : St) (x1 : Int32) (x2 : Int32) (x3 : Int32) (x4 : Int32) (x5 : Int32) (x6 : Int32) (t0 : Int32), J9_look_74 k30 k40 S x1 x2 x3 x4 x5 x6 t0 = some ((), S') → Zj p l e rm9_look s m args below meth c D cA σ shM 19 none S' 74 [(0, .ref (σ 0)), (1, .int x1), (2, .int x2), (3, .int x3), (4, .int x4), (5, .int x5), (6, .int x6)] [.int t0] S := by
  intro S x1 x2 x3 x4 x5 x6 t0 h
  rw [J9_look_74] at h
  refine z_istore (pc := 74) (L' := [(7, .int _), (0, .ref _), (1, .int _), (2, .int _), (3, .int _), (4, .int _), (5, .int _), (6, .int _)]) X dX9_look_74 (by decide) rfl ?_
  refine z_aload_n (pc := 76) X dX9_look_76 rfl 1 rfl ?_
  refine z_get (pc := 77) (v := .ref (σ 4)) X 0 fX9_60 rfl rfl dX9_look_77 rfl ?_
  refine z_iload (pc := 80) X dX9_look_80 6 rfl ?_
  refine z_iald (pc := 82) X 4 rfl dX9_look_82 h (fun h => ?_)
  refine z_i2l (pc := 83) X dX9_look_83 ?_
  refine z_aload_n (pc := 84) X dX9_look_84 rfl 1 rfl ?_
  refine z_get (pc := 85) (v := .ref (σ 4)) X 0 fX9_60 rfl rfl dX9_look_85 rfl ?_
  refine z_bipush (pc := 88) (v := 8) X dX9_look_88 (by decide) ?_
  refine z_iload (pc := 90) X dX9_look_90 7 rfl ?_
  refine z_iadd (pc := 92) X dX9_look_92 ?_
  refine z_iald (pc := 93) X 4 rfl dX9_look_93 h (fun h => ?_)
  refine z_i2l (pc := 94) X dX9_look_94 ?_
  refine z_lmul (pc := 95) X dX9_look_95 ?_
  refine z_lstore (pc := 96) (L' := [(8, .long _), (7, .int _), (0, .ref _), (1, .int _), (2, .int _), (3, .int _), (4, .int _), (5, .int _), (6, .int _)]) X dX9_look_96 (by decide) rfl ?_
  refine z_let h (fun h => ?_)
  refine z_iconst (pc := 98) (v := 0) X dX9_look_98 (by decide) ?_
  refine z_istore (pc := 99) (L' := [(10, .int _), (8, .long _), (7, .int _), (0, .ref _), (1, .int _), (2, .int _), (3, .int _), (4, .int _), (5, .int _), (6, .int _)]) X dX9_look_99 (by decide) rfl ?_
  exact z_sub [3, 4, 5, 6, 7, 8, 9, 2, 1, 0] rfl (zz9_look_101 X _ hk30 _ hk40 fu _ _ _ _ _ _ _ _ _ _ h)
set_option maxRecDepth 100000 in
set_option maxHeartbeats 4000000 in
theorem zz9_look_40 {S' : St} (X : zM p s m args meth c D cA σ shM tS RX9 cX9_look 19 none) (k30 : St → Int32 → Int32 → Int32 → Int32 → Int32 → Option (Unit × St)) (hk30 : ∀ (S : St) (x1 : Int32) (x2 : Int32) (x3 : Int32) (x4 : Int32) (x5 : Int32), k30 S x1 x2 x3 x4 x5 = some ((), S') → Zj p l e rm9_look s m args below meth c D cA σ shM 19 none S' 30 [(0, .ref (σ 0)), (1, .int x1), (2, .int x2), (3, .int x3), (4, .int x4), (5, .int x5)] [] S) : ∀ (n : Nat) (S : St) (x1 : Int32) (x2 : Int32) (x3 : Int32) (x4 : Int32) (x5 : Int32) (x6 : Int32), J9_look_40 k30 n S x1 x2 x3 x4 x5 x6 = some ((), S') → Zj p l e rm9_look s m args below meth c D cA σ shM 19 none S' 40 [(0, .ref (σ 0)), (1, .int x1), (2, .int x2), (3, .int x3), (4, .int x4), (5, .int x5), (6, .int x6)] [] S := by
  intro n
  induction n with
  | zero =>
    intro S x1 x2 x3 x4 x5 x6 h
    rw [J9_look_40] at h
    cases h
  | succ n ih =>
    intro S x1 x2 x3 x4 x5 x6 h
    rw [J9_look_40] at h
    refine z_iload (pc := 40) X dX9_look_40 6 rfl ?_
    refine z_bipush (pc := 42) (v := 8) X dX9_look_42 (by decide) ?_
    refine z_icmp_ge (pc := 44) (tgt := 313) X dX9_look_44 (by decide) h (fun h => ?_) (fun h => ?_)
    · refine z_iinc (pc := 313) (k := 5) (v := 1) (L' := [(5, .int _), (0, .ref _), (1, .int _), (2, .int _), (3, .int _), (4, .int _), (6, .int _)]) X dX9_look_313 rfl (by decide) (by decide) rfl ?_
      refine z_let h (fun h => ?_)
      refine z_goto (pc := 316) (tgt := 30) X dX9_look_316 (by decide) ?_
      exact z_sub [1, 2, 3, 4, 5, 0] rfl (hk30 _ _ _ _ _ _ h)
    · refine z_iload (pc := 47) X dX9_look_47 5 rfl ?_
      refine z_iload (pc := 49) X dX9_look_49 6 rfl ?_
      refine z_iadd (pc := 51) X dX9_look_51 ?_
      refine z_iload_n (pc := 52) X dX9_look_52 rfl 1 rfl ?_
      refine z_icmp_ge (pc := 53) (tgt := 60) X dX9_look_53 (by decide) h (fun h => ?_) (fun h => ?_)
      · refine z_iload (pc := 60) X dX9_look_60 5 rfl ?_
        refine z_iload (pc := 62) X dX9_look_62 6 rfl ?_
        refine z_iadd (pc := 64) X dX9_look_64 ?_
        refine z_iload_n (pc := 65) X dX9_look_65 rfl 1 rfl ?_
        refine z_icmp_ne (pc := 66) (tgt := 73) X dX9_look_66 (by decide) h (fun h => ?_) (fun h => ?_)
        · refine z_iconst (pc := 73) (v := 2) X dX9_look_73 (by decide) ?_
          exact z_sub [0, 1, 2, 3, 4, 5, 6] rfl (zz9_look_74 X _ hk30 _ ih _ _ _ _ _ _ _ _ h)
        · refine z_iconst (pc := 69) (v := 1) X dX9_look_69 (by decide) ?_
          refine z_goto (pc := 70) (tgt := 74) X dX9_look_70 (by decide) ?_
          exact z_sub [0, 1, 2, 3, 4, 5, 6] rfl (zz9_look_74 X _ hk30 _ ih _ _ _ _ _ _ _ _ h)
      · refine z_iconst (pc := 56) (v := 0) X dX9_look_56 (by decide) ?_
        refine z_goto (pc := 57) (tgt := 74) X dX9_look_57 (by decide) ?_
        exact z_sub [0, 1, 2, 3, 4, 5, 6] rfl (zz9_look_74 X _ hk30 _ ih _ _ _ _ _ _ _ _ h)
set_option maxRecDepth 100000 in
set_option maxHeartbeats 4000000 in
theorem zz9_look_30 {S' : St} (X : zM p s m args meth c D cA σ shM tS RX9 cX9_look 19 none) : ∀ (n : Nat) (S : St) (x1 : Int32) (x2 : Int32) (x3 : Int32) (x4 : Int32) (x5 : Int32), J9_look_30 n S x1 x2 x3 x4 x5 = some ((), S') → Zj p l e rm9_look s m args below meth c D cA σ shM 19 none S' 30 [(0, .ref (σ 0)), (1, .int x1), (2, .int x2), (3, .int x3), (4, .int x4), (5, .int x5)] [] S := by
  intro n
  induction n with
  | zero =>
    intro S x1 x2 x3 x4 x5 h
    rw [J9_look_30] at h
    cases h
  | succ n ih =>
    intro S x1 x2 x3 x4 x5 h
    rw [J9_look_30] at h
    refine z_iload (pc := 30) X dX9_look_30 5 rfl ?_
    refine z_bipush (pc := 32) (v := 8) X dX9_look_32 (by decide) ?_
    refine z_icmp_ge (pc := 34) (tgt := 319) X dX9_look_34 (by decide) h (fun h => ?_) (fun h => ?_)
    · exact z_vret X rfl dX9_look_319 h
    · refine z_iconst (pc := 37) (v := 0) X dX9_look_37 (by decide) ?_
      refine z_istore (pc := 38) (L' := [(6, .int _), (0, .ref _), (1, .int _), (2, .int _), (3, .int _), (4, .int _), (5, .int _)]) X dX9_look_38 (by decide) rfl ?_
      exact z_sub [1, 2, 3, 4, 5, 6, 0] rfl (zz9_look_40 X _ ih fu _ _ _ _ _ _ _ h)
set_option maxRecDepth 100000 in
set_option maxHeartbeats 4000000 in
theorem zz9_look_3 {S' : St} (X : zM p s m args meth c D cA σ shM tS RX9 cX9_look 19 none) : ∀ (n : Nat) (S : St) (x1 : Int32) (x2 : Int32) (x3 : Int32) (x4 : Int32) (x5 : Int32), J9_look_3 n S x1 x2 x3 x4 x5 = some ((), S') → Zj p l e rm9_look s m args below meth c D cA σ shM 19 none S' 3 [(0, .ref (σ 0)), (1, .int x1), (2, .int x2), (3, .int x3), (4, .int x4), (5, .int x5)] [] S := by
  intro n
  induction n with
  | zero =>
    intro S x1 x2 x3 x4 x5 h
    rw [J9_look_3] at h
    cases h
  | succ n ih =>
    intro S x1 x2 x3 x4 x5 h
    rw [J9_look_3] at h
    refine z_iload (pc := 3) X dX9_look_3 5 rfl ?_
    refine z_aload_n (pc := 5) X dX9_look_5 rfl 0 rfl ?_
    refine z_get (pc := 6) (v := .ref (σ 6)) X 0 fX9_66 rfl rfl dX9_look_6 rfl ?_
    refine z_alen (pc := 9) (v := 90) X 6 (by decide) rfl rfl dX9_look_9 ?_
    refine z_icmp_ge (pc := 10) (tgt := 27) X dX9_look_10 (by decide) h (fun h => ?_) (fun h => ?_)
    · refine z_iconst (pc := 27) (v := 0) X dX9_look_27 (by decide) ?_
      refine z_istore (pc := 28) (L' := [(5, .int _), (0, .ref _), (1, .int _), (2, .int _), (3, .int _), (4, .int _)]) X dX9_look_28 (by decide) rfl ?_
      exact z_sub [1, 2, 3, 4, 5, 0] rfl (zz9_look_30 X  fu _ _ _ _ _ _ h)
    · refine z_aload_n (pc := 13) X dX9_look_13 rfl 0 rfl ?_
      refine z_get (pc := 14) (v := .ref (σ 6)) X 0 fX9_66 rfl rfl dX9_look_14 rfl ?_
      refine z_iload (pc := 17) X dX9_look_17 5 rfl ?_
      refine z_lconst (pc := 19) (v := 0) X dX9_look_19 (by decide) ?_
      refine z_last (pc := 20) X 6 rfl dX9_look_20 h (fun h => ?_)
      refine z_let h (fun h => ?_)
      refine z_iinc (pc := 21) (k := 5) (v := 1) (L' := [(5, .int _), (0, .ref _), (1, .int _), (2, .int _), (3, .int _), (4, .int _)]) X dX9_look_21 rfl (by decide) (by decide) rfl ?_
      refine z_let h (fun h => ?_)
      refine z_goto (pc := 24) (tgt := 3) X dX9_look_24 (by decide) ?_
      exact z_sub [1, 2, 3, 4, 5, 0] rfl (ih _ _ _ _ _ _ h)
set_option maxRecDepth 100000 in
set_option maxHeartbeats 4000000 in
theorem zz9_look_0 {S' : St} (X : zM p s m args meth c D cA σ shM tS RX9 cX9_look 19 none) : ∀ (S : St) (x1 : Int32) (x2 : Int32) (x3 : Int32) (x4 : Int32), J9_look S x1 x2 x3 x4 = some ((), S') → Zj p l e rm9_look s m args below meth c D cA σ shM 19 none S' 0 [(0, .ref (σ 0)), (1, .int x1), (2, .int x2), (3, .int x3), (4, .int x4)] [] S := by
  intro S x1 x2 x3 x4 h
  rw [J9_look] at h
  refine z_iconst (pc := 0) (v := 0) X dX9_look_0 (by decide) ?_
  refine z_istore (pc := 1) (L' := [(5, .int _), (0, .ref _), (1, .int _), (2, .int _), (3, .int _), (4, .int _)]) X dX9_look_1 (by decide) rfl ?_
  exact z_sub [1, 2, 3, 4, 5, 0] rfl (zz9_look_3 X  fu _ _ _ _ _ _ h)
theorem cc9_look {l : Launch} {D : va_G} {cA : Nat → ClassId} {σ : Nat → Nat} {tS : Nat} {S S' : St} {x1 : Int32} {x2 : Int32} {x3 : Int32} {x4 : Int32} (h : J9_look S x1 x2 x3 x4 = some ((), S')) : zMet l D cA σ shM tS yX9_look cX9_look 19 none rm9_look [.ref (σ 0), .int x1, .int x2, .int x3, .int x4] S none S' := z_met [(0, .ref (σ 0)), (1, .int x1), (2, .int x2), (3, .int x3), (4, .int x4)] (by decide +kernel) (Nat.le_of_ble_eq_true rfl) rfl (fun _ _ _ _ _ _ _ _ X => zz9_look_0 X _ _ _ _ _ h)
set_option maxRecDepth 100000 in
set_option maxHeartbeats 4000000 in
theorem zz9_mark_0 {S' : St} {r : Int32} (X : zM p s m args meth c D cA σ shM tS RX9 cX9_mark 4 (some .int)) : ∀ (S : St) (x0 : Int32) (x1 : Int32) (x2 : Int32) (x3 : Int32), J9_mark S x0 x1 x2 x3 = some (r, S') → Zj p l e rm9_mark s m args below meth c D cA σ shM 4 (some (.int r)) S' 0 [(0, .int x0), (1, .int x1), (2, .int x2), (3, .int x3)] [] S := by
  intro S x0 x1 x2 x3 h
  rw [J9_mark] at h
  refine z_bipush (pc := 0) (v := 6) X dX9_mark_0 (by decide) ?_
  refine z_iload_n (pc := 2) X dX9_mark_2 rfl 0 rfl ?_
  refine z_imul (pc := 3) X dX9_mark_3 ?_
  refine z_iload_n (pc := 4) X dX9_mark_4 rfl 1 rfl ?_
  refine z_iadd (pc := 5) X dX9_mark_5 ?_
  refine z_bipush (pc := 6) (v := 6) X dX9_mark_6 (by decide) ?_
  refine z_imul (pc := 8) X dX9_mark_8 ?_
  refine z_iload_n (pc := 9) X dX9_mark_9 rfl 2 rfl ?_
  refine z_iadd (pc := 10) X dX9_mark_10 ?_
  refine z_bipush (pc := 11) (v := 6) X dX9_mark_11 (by decide) ?_
  refine z_imul (pc := 13) X dX9_mark_13 ?_
  refine z_iload_n (pc := 14) X dX9_mark_14 rfl 3 rfl ?_
  refine z_iadd (pc := 15) X dX9_mark_15 ?_
  exact z_iret X rfl dX9_mark_16 h
theorem cc9_mark {l : Launch} {D : va_G} {cA : Nat → ClassId} {σ : Nat → Nat} {tS : Nat} {S S' : St} {x0 : Int32} {x1 : Int32} {x2 : Int32} {x3 : Int32} {r : Int32} (h : J9_mark S x0 x1 x2 x3 = some (r, S')) : zMet l D cA σ shM tS yX9_mark cX9_mark 4 (some .int) rm9_mark [.int x0, .int x1, .int x2, .int x3] S (some (.int r)) S' := z_met [(0, .int x0), (1, .int x1), (2, .int x2), (3, .int x3)] (by decide +kernel) (Nat.le_of_ble_eq_true rfl) rfl (fun _ _ _ _ _ _ _ _ X => zz9_mark_0 X _ _ _ _ _ h)
set_option maxRecDepth 100000 in
set_option maxHeartbeats 4000000 in
theorem zz9_spread_135 {S' : St} (X : zM p s m args meth c D cA σ shM tS RX9 cX9_spread 11 none) (k26 : St → Int32 → Int32 → Int32 → Int32 → Int32 → Int64 → Int32 → Option (Unit × St)) (hk26 : ∀ (S : St) (x1 : Int32) (x2 : Int32) (x3 : Int32) (x4 : Int32) (x5 : Int32) (x6 : Int64) (x8 : Int32), k26 S x1 x2 x3 x4 x5 x6 x8 = some ((), S') → Zj p l e rm9_spread s m args below meth c D cA σ shM 11 none S' 26 [(0, .ref (σ 0)), (1, .int x1), (2, .int x2), (3, .int x3), (4, .int x4), (5, .int x5), (6, .long x6), (8, .int x8)] [] S) : ∀ (S : St) (x1 : Int32) (x2 : Int32) (x3 : Int32) (x4 : Int32) (x5 : Int32) (x6 : Int64) (x8 : Int32) (x9 : Int32) (x10 : Int32) (t0 : Int32) (t1 : Int32) (t3 : Int64) (t4 : Int64) (t5 : Int32) (t6 : Int32), J9_spread_135 k26 S x1 x2 x3 x4 x5 x6 x8 x9 x10 t0 t1 t3 t4 t5 t6 = some ((), S') → Zj p l e rm9_spread s m args below meth c D cA σ shM 11 none S' 135 [(0, .ref (σ 0)), (1, .int x1), (2, .int x2), (3, .int x3), (4, .int x4), (5, .int x5), (6, .long x6), (8, .int x8), (9, .int x9), (10, .int x10)] [.int t0, .int t1, .ref (σ 9), .long t3, .long t4, .int t5, .ref (σ t6.toNatClampNeg)] S := by
  intro S x1 x2 x3 x4 x5 x6 x8 x9 x10 t0 t1 t3 t4 t5 t6 h
  rw [J9_spread_135] at h
  refine z_gd h (fun hg h => ?_)
  have ht6 := z_dyn hg
  refine z_iadd (pc := 135) X dX9_spread_135 ?_
  refine z_lald (pc := 136) X 9 rfl dX9_spread_136 h (fun h => ?_)
  refine z_lmul (pc := 137) X dX9_spread_137 ?_
  refine z_ladd (pc := 138) X dX9_spread_138 ?_
  refine z_last (pc := 139) X _ ht6 dX9_spread_139 h (fun h => ?_)
  refine z_let h (fun h => ?_)
  refine z_aload_n (pc := 140) X dX9_spread_140 rfl 0 rfl ?_
  refine z_get (pc := 141) (v := .ref (σ (Int32.toNatClampNeg _))) X 0 fX9_72 rfl rfl dX9_spread_141 rfl ?_
  refine z_gd h (fun hg h => ?_)
  have hq2 := z_dyn hg
  refine z_iload (pc := 144) X dX9_spread_144 8 rfl ?_
  refine z_iload (pc := 146) X dX9_spread_146 9 rfl ?_
  refine z_iload_n (pc := 148) X dX9_spread_148 rfl 3 rfl ?_
  refine z_iload (pc := 149) X dX9_spread_149 4 rfl ?_
  refine z_callSi (pc := 151) (rm := rm9_mark) X [.int _, .int _, .int _, .int _] sX9_180 rfl rfl (Nat.le_of_ble_eq_true rfl) ⟨rfl, rfl, Nat.le_of_ble_eq_true rfl, Nat.le_of_ble_eq_true rfl⟩ dX9_spread_151 h (fun _ _ q => cc9_mark q) (fun r3 S3 h => ?_)
  refine z_dup2_11 (pc := 154) X dX9_spread_154 rfl rfl ?_
  refine z_lald (pc := 155) X _ hq2 dX9_spread_155 h (fun h => ?_)
  refine z_lload (pc := 156) X dX9_spread_156 6 rfl ?_
  refine z_aload_n (pc := 158) X dX9_spread_158 rfl 0 rfl ?_
  refine z_get (pc := 159) (v := .ref (σ 9)) X 0 fX9_75 rfl rfl dX9_spread_159 rfl ?_
  refine z_bipush (pc := 162) (v := 6) X dX9_spread_162 (by decide) ?_
  refine z_iload (pc := 164) X dX9_spread_164 7 rfl ?_
  refine z_imul (pc := 166) X dX9_spread_166 ?_
  refine z_iconst (pc := 167) (v := 5) X dX9_spread_167 (by decide) ?_
  refine z_iadd (pc := 168) X dX9_spread_168 ?_
  refine z_lald (pc := 169) X 9 rfl dX9_spread_169 h (fun h => ?_)
  refine z_lmul (pc := 170) X dX9_spread_170 ?_
  refine z_ladd (pc := 171) X dX9_spread_171 ?_
  refine z_last (pc := 172) X _ hq2 dX9_spread_172 h (fun h => ?_)
  refine z_let h (fun h => ?_)
  refine z_iinc (pc := 173) (k := 7) (v := 1) (L' := [(8, .int _), (0, .ref _), (1, .int _), (2, .int _), (3, .int _), (4, .int _), (5, .int _), (6, .long _), (9, .int _), (10, .int _)]) X dX9_spread_173 rfl (by decide) (by decide) rfl ?_
  refine z_let h (fun h => ?_)
  refine z_goto (pc := 176) (tgt := 26) X dX9_spread_176 (by decide) ?_
  exact z_sub [1, 2, 3, 4, 5, 6, 7, 0] rfl (hk26 _ _ _ _ _ _ _ _ h)
set_option maxRecDepth 100000 in
set_option maxHeartbeats 4000000 in
theorem zz9_spread_59 {S' : St} (X : zM p s m args meth c D cA σ shM tS RX9 cX9_spread 11 none) (k26 : St → Int32 → Int32 → Int32 → Int32 → Int32 → Int64 → Int32 → Option (Unit × St)) (hk26 : ∀ (S : St) (x1 : Int32) (x2 : Int32) (x3 : Int32) (x4 : Int32) (x5 : Int32) (x6 : Int64) (x8 : Int32), k26 S x1 x2 x3 x4 x5 x6 x8 = some ((), S') → Zj p l e rm9_spread s m args below meth c D cA σ shM 11 none S' 26 [(0, .ref (σ 0)), (1, .int x1), (2, .int x2), (3, .int x3), (4, .int x4), (5, .int x5), (6, .long x6), (8, .int x8)] [] S) : ∀ (S : St) (x1 : Int32) (x2 : Int32) (x3 : Int32) (x4 : Int32) (x5 : Int32) (x6 : Int64) (x8 : Int32) (x9 : Int32) (t0 : Int32), J9_spread_59 k26 S x1 x2 x3 x4 x5 x6 x8 x9 t0 = some ((), S') → Zj p l e rm9_spread s m args below meth c D cA σ shM 11 none S' 59 [(0, .ref (σ 0)), (1, .int x1), (2, .int x2), (3, .int x3), (4, .int x4), (5, .int x5), (6, .long x6), (8, .int x8), (9, .int x9)] [.int t0] S := by
  intro S x1 x2 x3 x4 x5 x6 x8 x9 t0 h
  rw [J9_spread_59] at h
  refine z_istore (pc := 59) (L' := [(10, .int _), (0, .ref _), (1, .int _), (2, .int _), (3, .int _), (4, .int _), (5, .int _), (6, .long _), (8, .int _), (9, .int _)]) X dX9_spread_59 (by decide) rfl ?_
  refine z_aload_n (pc := 61) X dX9_spread_61 rfl 1 rfl ?_
  refine z_get (pc := 62) (v := .ref (σ (Int32.toNatClampNeg _))) X 0 fX9_72 rfl rfl dX9_spread_62 rfl ?_
  refine z_gd h (fun hg h => ?_)
  have hq1 := z_dyn hg
  refine z_iload (pc := 65) X dX9_spread_65 9 rfl ?_
  refine z_iload (pc := 67) X dX9_spread_67 0 rfl ?_
  refine z_iload_n (pc := 69) X dX9_spread_69 rfl 4 rfl ?_
  refine z_iconst (pc := 70) (v := 1) X dX9_spread_70 (by decide) ?_
  refine z_iadd (pc := 71) X dX9_spread_71 ?_
  refine z_iload (pc := 72) X dX9_spread_72 5 rfl ?_
  refine z_callSi (pc := 74) (rm := rm9_mark) X [.int _, .int _, .int _, .int _] sX9_180 rfl rfl (Nat.le_of_ble_eq_true rfl) ⟨rfl, rfl, Nat.le_of_ble_eq_true rfl, Nat.le_of_ble_eq_true rfl⟩ dX9_spread_74 h (fun _ _ q => cc9_mark q) (fun r2 S2 h => ?_)
  refine z_dup2_11 (pc := 77) X dX9_spread_77 rfl rfl ?_
  refine z_lald (pc := 78) X _ hq1 dX9_spread_78 h (fun h => ?_)
  refine z_lload (pc := 79) X dX9_spread_79 7 rfl ?_
  refine z_aload_n (pc := 81) X dX9_spread_81 rfl 1 rfl ?_
  refine z_get (pc := 82) (v := .ref (σ 9)) X 0 fX9_75 rfl rfl dX9_spread_82 rfl ?_
  refine z_bipush (pc := 85) (v := 6) X dX9_spread_85 (by decide) ?_
  refine z_iload (pc := 87) X dX9_spread_87 8 rfl ?_
  refine z_imul (pc := 89) X dX9_spread_89 ?_
  refine z_lald (pc := 90) X 9 rfl dX9_spread_90 h (fun h => ?_)
  refine z_lmul (pc := 91) X dX9_spread_91 ?_
  refine z_ladd (pc := 92) X dX9_spread_92 ?_
  refine z_last (pc := 93) X _ hq1 dX9_spread_93 h (fun h => ?_)
  refine z_let h (fun h => ?_)
  refine z_aload_n (pc := 94) X dX9_spread_94 rfl 1 rfl ?_
  refine z_get (pc := 95) (v := .ref (σ (Int32.toNatClampNeg _))) X 0 fX9_72 rfl rfl dX9_spread_95 rfl ?_
  refine z_gd h (fun hg h => ?_)
  have hq4 := z_dyn hg
  refine z_iload (pc := 98) X dX9_spread_98 9 rfl ?_
  refine z_iload (pc := 100) X dX9_spread_100 0 rfl ?_
  refine z_iload_n (pc := 102) X dX9_spread_102 rfl 4 rfl ?_
  refine z_iload (pc := 103) X dX9_spread_103 5 rfl ?_
  refine z_iconst (pc := 105) (v := 1) X dX9_spread_105 (by decide) ?_
  refine z_iadd (pc := 106) X dX9_spread_106 ?_
  refine z_callSi (pc := 107) (rm := rm9_mark) X [.int _, .int _, .int _, .int _] sX9_180 rfl rfl (Nat.le_of_ble_eq_true rfl) ⟨rfl, rfl, Nat.le_of_ble_eq_true rfl, Nat.le_of_ble_eq_true rfl⟩ dX9_spread_107 h (fun _ _ q => cc9_mark q) (fun r5 S5 h => ?_)
  refine z_dup2_11 (pc := 110) X dX9_spread_110 rfl rfl ?_
  refine z_lald (pc := 111) X _ hq4 dX9_spread_111 h (fun h => ?_)
  refine z_lload (pc := 112) X dX9_spread_112 7 rfl ?_
  refine z_aload_n (pc := 114) X dX9_spread_114 rfl 1 rfl ?_
  refine z_get (pc := 115) (v := .ref (σ 9)) X 0 fX9_75 rfl rfl dX9_spread_115 rfl ?_
  refine z_bipush (pc := 118) (v := 6) X dX9_spread_118 (by decide) ?_
  refine z_iload (pc := 120) X dX9_spread_120 8 rfl ?_
  refine z_imul (pc := 122) X dX9_spread_122 ?_
  refine z_iload (pc := 123) X dX9_spread_123 5 rfl ?_
  refine z_iload (pc := 125) X dX9_spread_125 6 rfl ?_
  refine z_icmp_ge (pc := 127) (tgt := 134) X dX9_spread_127 (by decide) h (fun h => ?_) (fun h => ?_)
  · refine z_iconst (pc := 134) (v := 3) X dX9_spread_134 (by decide) ?_
    exact z_sub [1, 2, 3, 4, 5, 6, 7, 8, 9, 0] rfl (zz9_spread_135 X _ hk26 _ _ _ _ _ _ _ _ _ _ _ _ _ _ _ _ h)
  · refine z_iconst (pc := 130) (v := 2) X dX9_spread_130 (by decide) ?_
    refine z_goto (pc := 131) (tgt := 135) X dX9_spread_131 (by decide) ?_
    exact z_sub [1, 2, 3, 4, 5, 6, 7, 8, 9, 0] rfl (zz9_spread_135 X _ hk26 _ _ _ _ _ _ _ _ _ _ _ _ _ _ _ _ h)
set_option maxRecDepth 100000 in
set_option maxHeartbeats 4000000 in
theorem zz9_spread_44 {S' : St} (X : zM p s m args meth c D cA σ shM tS RX9 cX9_spread 11 none) (k26 : St → Int32 → Int32 → Int32 → Int32 → Int32 → Int64 → Int32 → Option (Unit × St)) (hk26 : ∀ (S : St) (x1 : Int32) (x2 : Int32) (x3 : Int32) (x4 : Int32) (x5 : Int32) (x6 : Int64) (x8 : Int32), k26 S x1 x2 x3 x4 x5 x6 x8 = some ((), S') → Zj p l e rm9_spread s m args below meth c D cA σ shM 11 none S' 26 [(0, .ref (σ 0)), (1, .int x1), (2, .int x2), (3, .int x3), (4, .int x4), (5, .int x5), (6, .long x6), (8, .int x8)] [] S) : ∀ (S : St) (x1 : Int32) (x2 : Int32) (x3 : Int32) (x4 : Int32) (x5 : Int32) (x6 : Int64) (x8 : Int32) (t0 : Int32), J9_spread_44 k26 S x1 x2 x3 x4 x5 x6 x8 t0 = some ((), S') → Zj p l e rm9_spread s m args below meth c D cA σ shM 11 none S' 44 [(0, .ref (σ 0)), (1, .int x1), (2, .int x2), (3, .int x3), (4, .int x4), (5, .int x5), (6, .long x6), (8, .int x8)] [.int t0] S := by
  intro S x1 x2 x3 x4 x5 x6 x8 t0 h
  rw [J9_spread_44] at h
  refine z_istore (pc := 44) (L' := [(9, .int _), (0, .ref _), (1, .int _), (2, .int _), (3, .int _), (4, .int _), (5, .int _), (6, .long _), (8, .int _)]) X dX9_spread_44 (by decide) rfl ?_
  refine z_iload (pc := 46) X dX9_spread_46 8 rfl ?_
  refine z_iconst (pc := 48) (v := 1) X dX9_spread_48 (by decide) ?_
  refine z_icmp_ne (pc := 49) (tgt := 58) X dX9_spread_49 (by decide) h (fun h => ?_) (fun h => ?_)
  · refine z_iload_n (pc := 58) X dX9_spread_58 rfl 3 rfl ?_
    exact z_sub [1, 2, 3, 4, 5, 6, 7, 8, 0] rfl (zz9_spread_59 X _ hk26 _ _ _ _ _ _ _ _ _ _ h)
  · refine z_iload_n (pc := 52) X dX9_spread_52 rfl 3 rfl ?_
    refine z_iconst (pc := 53) (v := 1) X dX9_spread_53 (by decide) ?_
    refine z_iadd (pc := 54) X dX9_spread_54 ?_
    refine z_goto (pc := 55) (tgt := 59) X dX9_spread_55 (by decide) ?_
    exact z_sub [1, 2, 3, 4, 5, 6, 7, 8, 0] rfl (zz9_spread_59 X _ hk26 _ _ _ _ _ _ _ _ _ _ h)
set_option maxRecDepth 100000 in
set_option maxHeartbeats 4000000 in
theorem zz9_spread_26 {S' : St} (X : zM p s m args meth c D cA σ shM tS RX9 cX9_spread 11 none) : ∀ (n : Nat) (S : St) (x1 : Int32) (x2 : Int32) (x3 : Int32) (x4 : Int32) (x5 : Int32) (x6 : Int64) (x8 : Int32), J9_spread_26 n S x1 x2 x3 x4 x5 x6 x8 = some ((), S') → Zj p l e rm9_spread s m args below meth c D cA σ shM 11 none S' 26 [(0, .ref (σ 0)), (1, .int x1), (2, .int x2), (3, .int x3), (4, .int x4), (5, .int x5), (6, .long x6), (8, .int x8)] [] S := by
  intro n
  induction n with
  | zero =>
    intro S x1 x2 x3 x4 x5 x6 x8 h
    rw [J9_spread_26] at h
    cases h
  | succ n ih =>
    intro S x1 x2 x3 x4 x5 x6 x8 h
    rw [J9_spread_26] at h
    refine z_iload (pc := 26) X dX9_spread_26 7 rfl ?_
    refine z_iconst (pc := 28) (v := 3) X dX9_spread_28 (by decide) ?_
    refine z_icmp_ge (pc := 29) (tgt := 179) X dX9_spread_29 (by decide) h (fun h => ?_) (fun h => ?_)
    · exact z_vret X rfl dX9_spread_179 h
    · refine z_iload (pc := 32) X dX9_spread_32 7 rfl ?_
      refine z_if_ne (pc := 34) (tgt := 43) X dX9_spread_34 (by decide) h (fun h => ?_) (fun h => ?_)
      · refine z_iload_n (pc := 43) X dX9_spread_43 rfl 1 rfl ?_
        exact z_sub [0, 1, 2, 3, 4, 5, 6, 7] rfl (zz9_spread_44 X _ ih _ _ _ _ _ _ _ _ _ h)
      · refine z_iload_n (pc := 37) X dX9_spread_37 rfl 1 rfl ?_
        refine z_iconst (pc := 38) (v := 1) X dX9_spread_38 (by decide) ?_
        refine z_iadd (pc := 39) X dX9_spread_39 ?_
        refine z_goto (pc := 40) (tgt := 44) X dX9_spread_40 (by decide) ?_
        exact z_sub [0, 1, 2, 3, 4, 5, 6, 7] rfl (zz9_spread_44 X _ ih _ _ _ _ _ _ _ _ _ h)
set_option maxRecDepth 100000 in
set_option maxHeartbeats 4000000 in
theorem zz9_spread_0 {S' : St} (X : zM p s m args meth c D cA σ shM tS RX9 cX9_spread 11 none) : ∀ (S : St) (x1 : Int32) (x2 : Int32) (x3 : Int32) (x4 : Int32) (x5 : Int32), J9_spread S x1 x2 x3 x4 x5 = some ((), S') → Zj p l e rm9_spread s m args below meth c D cA σ shM 11 none S' 0 [(0, .ref (σ 0)), (1, .int x1), (2, .int x2), (3, .int x3), (4, .int x4), (5, .int x5)] [] S := by
  intro S x1 x2 x3 x4 x5 h
  rw [J9_spread] at h
  refine z_aload_n (pc := 0) X dX9_spread_0 rfl 0 rfl ?_
  refine z_get (pc := 1) (v := .ref (σ (Int32.toNatClampNeg _))) X 0 fX9_69 rfl rfl dX9_spread_1 rfl ?_
  refine z_gd h (fun hg h => ?_)
  have hq1 := z_dyn hg
  refine z_iload_n (pc := 4) X dX9_spread_4 rfl 1 rfl ?_
  refine z_iload_n (pc := 5) X dX9_spread_5 rfl 2 rfl ?_
  refine z_iload_n (pc := 6) X dX9_spread_6 rfl 3 rfl ?_
  refine z_iload (pc := 7) X dX9_spread_7 4 rfl ?_
  refine z_callSi (pc := 9) (rm := rm9_mark) X [.int _, .int _, .int _, .int _] sX9_180 rfl rfl (Nat.le_of_ble_eq_true rfl) ⟨rfl, rfl, Nat.le_of_ble_eq_true rfl, Nat.le_of_ble_eq_true rfl⟩ dX9_spread_9 h (fun _ _ q => cc9_mark q) (fun r2 S2 h => ?_)
  refine z_lald (pc := 12) X _ hq1 dX9_spread_12 h (fun h => ?_)
  refine z_lstore (pc := 13) (L' := [(6, .long _), (0, .ref _), (1, .int _), (2, .int _), (3, .int _), (4, .int _), (5, .int _)]) X dX9_spread_13 (by decide) rfl ?_
  refine z_let h (fun h => ?_)
  refine z_lload (pc := 15) X dX9_spread_15 0 rfl ?_
  refine z_lconst (pc := 17) (v := 0) X dX9_spread_17 (by decide) ?_
  refine z_lcmp (pc := 18) X dX9_spread_18 ?_
  refine z_if_ne (pc := 19) (tgt := 23) X dX9_spread_19 (by decide) h (fun h => ?_) (fun h => ?_)
  · refine z_iconst (pc := 23) (v := 0) X dX9_spread_23 (by decide) ?_
    refine z_istore (pc := 24) (L' := [(8, .int _), (6, .long _), (0, .ref _), (1, .int _), (2, .int _), (3, .int _), (4, .int _), (5, .int _)]) X dX9_spread_24 (by decide) rfl ?_
    exact z_sub [2, 3, 4, 5, 6, 7, 1, 0] rfl (zz9_spread_26 X  fu _ _ _ _ _ _ _ _ h)
  · exact z_vret X rfl dX9_spread_22 h
theorem cc9_spread {l : Launch} {D : va_G} {cA : Nat → ClassId} {σ : Nat → Nat} {tS : Nat} {S S' : St} {x1 : Int32} {x2 : Int32} {x3 : Int32} {x4 : Int32} {x5 : Int32} (h : J9_spread S x1 x2 x3 x4 x5 = some ((), S')) : zMet l D cA σ shM tS yX9_spread cX9_spread 11 none rm9_spread [.ref (σ 0), .int x1, .int x2, .int x3, .int x4, .int x5] S none S' := z_met [(0, .ref (σ 0)), (1, .int x1), (2, .int x2), (3, .int x3), (4, .int x4), (5, .int x5)] (by decide +kernel) (Nat.le_of_ble_eq_true rfl) rfl (fun _ _ _ _ _ _ _ _ X => zz9_spread_0 X _ _ _ _ _ _ h)
set_option maxRecDepth 100000 in
set_option maxHeartbeats 4000000 in
theorem zz9_ways_113 {S' : St} {r : Int64} (X : zM p s m args meth c D cA σ shM tS RX9 cX9_ways 10 (some .long)) (k37 : St → Int32 → Int32 → Int32 → Int32 → Int32 → Option (Int64 × St)) (hk37 : ∀ (S : St) (x1 : Int32) (x2 : Int32) (x3 : Int32) (x4 : Int32) (x5 : Int32), k37 S x1 x2 x3 x4 x5 = some (r, S') → Zj p l e rm9_ways s m args below meth c D cA σ shM 10 (some (.long r)) S' 37 [(0, .ref (σ 0)), (1, .int x1), (2, .int x2), (3, .int x3), (4, .int x4), (5, .int x5)] [] S) (k73 : St → Int32 → Int32 → Int32 → Int32 → Int32 → Int32 → Option (Int64 × St)) (hk73 : ∀ (S : St) (x1 : Int32) (x2 : Int32) (x3 : Int32) (x4 : Int32) (x5 : Int32) (x6 : Int32), k73 S x1 x2 x3 x4 x5 x6 = some (r, S') → Zj p l e rm9_ways s m args below meth c D cA σ shM 10 (some (.long r)) S' 73 [(0, .ref (σ 0)), (1, .int x1), (2, .int x2), (3, .int x3), (4, .int x4), (5, .int x5), (6, .int x6)] [] S) (k83 : St → Int32 → Int32 → Int32 → Int32 → Int32 → Int32 → Int32 → Option (Int64 × St)) (hk83 : ∀ (S : St) (x1 : Int32) (x2 : Int32) (x3 : Int32) (x4 : Int32) (x5 : Int32) (x6 : Int32) (x7 : Int32), k83 S x1 x2 x3 x4 x5 x6 x7 = some (r, S') → Zj p l e rm9_ways s m args below meth c D cA σ shM 10 (some (.long r)) S' 83 [(0, .ref (σ 0)), (1, .int x1), (2, .int x2), (3, .int x3), (4, .int x4), (5, .int x5), (6, .int x6), (7, .int x7)] [] S) (k96 : St → Int32 → Int32 → Int32 → Int32 → Int32 → Int32 → Int32 → Int32 → Option (Int64 × St)) (hk96 : ∀ (S : St) (x1 : Int32) (x2 : Int32) (x3 : Int32) (x4 : Int32) (x5 : Int32) (x6 : Int32) (x7 : Int32) (x8 : Int32), k96 S x1 x2 x3 x4 x5 x6 x7 x8 = some (r, S') → Zj p l e rm9_ways s m args below meth c D cA σ shM 10 (some (.long r)) S' 96 [(0, .ref (σ 0)), (1, .int x1), (2, .int x2), (3, .int x3), (4, .int x4), (5, .int x5), (6, .int x6), (7, .int x7), (8, .int x8)] [] S) : ∀ (n : Nat) (S : St) (x1 : Int32) (x2 : Int32) (x3 : Int32) (x4 : Int32) (x5 : Int32) (x6 : Int32) (x7 : Int32) (x8 : Int32) (x9 : Int32), J9_ways_113 k37 k73 k83 k96 n S x1 x2 x3 x4 x5 x6 x7 x8 x9 = some (r, S') → Zj p l e rm9_ways s m args below meth c D cA σ shM 10 (some (.long r)) S' 113 [(0, .ref (σ 0)), (1, .int x1), (2, .int x2), (3, .int x3), (4, .int x4), (5, .int x5), (6, .int x6), (7, .int x7), (8, .int x8), (9, .int x9)] [] S := by
  intro n
  induction n with
  | zero =>
    intro S x1 x2 x3 x4 x5 x6 x7 x8 x9 h
    rw [J9_ways_113] at h
    cases h
  | succ n ih =>
    intro S x1 x2 x3 x4 x5 x6 x7 x8 x9 h
    rw [J9_ways_113] at h
    refine z_iload (pc := 113) X dX9_ways_113 8 rfl ?_
    refine z_iload (pc := 115) X dX9_ways_115 9 rfl ?_
    refine z_iadd (pc := 117) X dX9_ways_117 ?_
    refine z_iload (pc := 118) X dX9_ways_118 5 rfl ?_
    refine z_icmp_gt (pc := 120) (tgt := 145) X dX9_ways_120 (by decide) h (fun h => ?_) (fun h => ?_)
    · refine z_iinc (pc := 145) (k := 8) (v := 1) (L' := [(8, .int _), (0, .ref _), (1, .int _), (2, .int _), (3, .int _), (4, .int _), (5, .int _), (6, .int _), (7, .int _), (9, .int _)]) X dX9_ways_145 rfl (by decide) (by decide) rfl ?_
      refine z_let h (fun h => ?_)
      refine z_goto (pc := 148) (tgt := 96) X dX9_ways_148 (by decide) ?_
      exact z_sub [1, 2, 3, 4, 5, 6, 7, 8, 0] rfl (hk96 _ _ _ _ _ _ _ _ _ h)
    · refine z_aload_n (pc := 123) X dX9_ways_123 rfl 0 rfl ?_
      refine z_iload (pc := 124) X dX9_ways_124 6 rfl ?_
      refine z_iload (pc := 126) X dX9_ways_126 7 rfl ?_
      refine z_iload (pc := 128) X dX9_ways_128 8 rfl ?_
      refine z_iload (pc := 130) X dX9_ways_130 9 rfl ?_
      refine z_iload_n (pc := 132) X dX9_ways_132 rfl 3 rfl ?_
      refine z_iload (pc := 133) X dX9_ways_133 4 rfl ?_
      refine z_isub (pc := 135) X dX9_ways_135 ?_
      refine z_callVv (pc := 136) (rm := rm9_spread) X 0 [.int _, .int _, .int _, .int _, .int _] vX9_176 rfl rfl rfl (Nat.le_of_ble_eq_true rfl) ⟨rfl, rfl, Nat.le_of_ble_eq_true rfl, Nat.le_of_ble_eq_true rfl⟩ dX9_ways_136 h (fun _ _ q => cc9_spread q) (fun _ S2 h => ?_)
      refine z_iinc (pc := 139) (k := 9) (v := 1) (L' := [(9, .int _), (0, .ref _), (1, .int _), (2, .int _), (3, .int _), (4, .int _), (5, .int _), (6, .int _), (7, .int _), (8, .int _)]) X dX9_ways_139 rfl (by decide) (by decide) rfl ?_
      refine z_let h (fun h => ?_)
      refine z_goto (pc := 142) (tgt := 113) X dX9_ways_142 (by decide) ?_
      exact z_sub [1, 2, 3, 4, 5, 6, 7, 8, 9, 0] rfl (ih _ _ _ _ _ _ _ _ _ _ h)
set_option maxRecDepth 100000 in
set_option maxHeartbeats 4000000 in
theorem zz9_ways_151 {S' : St} {r : Int64} (X : zM p s m args meth c D cA σ shM tS RX9 cX9_ways 10 (some .long)) (k37 : St → Int32 → Int32 → Int32 → Int32 → Int32 → Option (Int64 × St)) (hk37 : ∀ (S : St) (x1 : Int32) (x2 : Int32) (x3 : Int32) (x4 : Int32) (x5 : Int32), k37 S x1 x2 x3 x4 x5 = some (r, S') → Zj p l e rm9_ways s m args below meth c D cA σ shM 10 (some (.long r)) S' 37 [(0, .ref (σ 0)), (1, .int x1), (2, .int x2), (3, .int x3), (4, .int x4), (5, .int x5)] [] S) (k73 : St → Int32 → Int32 → Int32 → Int32 → Int32 → Int32 → Option (Int64 × St)) (hk73 : ∀ (S : St) (x1 : Int32) (x2 : Int32) (x3 : Int32) (x4 : Int32) (x5 : Int32) (x6 : Int32), k73 S x1 x2 x3 x4 x5 x6 = some (r, S') → Zj p l e rm9_ways s m args below meth c D cA σ shM 10 (some (.long r)) S' 73 [(0, .ref (σ 0)), (1, .int x1), (2, .int x2), (3, .int x3), (4, .int x4), (5, .int x5), (6, .int x6)] [] S) (k83 : St → Int32 → Int32 → Int32 → Int32 → Int32 → Int32 → Int32 → Option (Int64 × St)) (hk83 : ∀ (S : St) (x1 : Int32) (x2 : Int32) (x3 : Int32) (x4 : Int32) (x5 : Int32) (x6 : Int32) (x7 : Int32), k83 S x1 x2 x3 x4 x5 x6 x7 = some (r, S') → Zj p l e rm9_ways s m args below meth c D cA σ shM 10 (some (.long r)) S' 83 [(0, .ref (σ 0)), (1, .int x1), (2, .int x2), (3, .int x3), (4, .int x4), (5, .int x5), (6, .int x6), (7, .int x7)] [] S) : ∀ (S : St) (x1 : Int32) (x2 : Int32) (x3 : Int32) (x4 : Int32) (x5 : Int32) (x6 : Int32) (x7 : Int32), J9_ways_151 k37 k73 k83 S x1 x2 x3 x4 x5 x6 x7 = some (r, S') → Zj p l e rm9_ways s m args below meth c D cA σ shM 10 (some (.long r)) S' 151 [(0, .ref (σ 0)), (1, .int x1), (2, .int x2), (3, .int x3), (4, .int x4), (5, .int x5), (6, .int x6), (7, .int x7)] [] S := by
  intro S x1 x2 x3 x4 x5 x6 x7 h
  rw [J9_ways_151] at h
  refine z_iinc (pc := 151) (k := 7) (v := 1) (L' := [(7, .int _), (0, .ref _), (1, .int _), (2, .int _), (3, .int _), (4, .int _), (5, .int _), (6, .int _)]) X dX9_ways_151 rfl (by decide) (by decide) rfl ?_
  refine z_let h (fun h => ?_)
  refine z_goto (pc := 154) (tgt := 83) X dX9_ways_154 (by decide) ?_
  exact z_sub [1, 2, 3, 4, 5, 6, 7, 0] rfl (hk83 _ _ _ _ _ _ _ _ h)
set_option maxRecDepth 100000 in
set_option maxHeartbeats 4000000 in
theorem zz9_ways_96 {S' : St} {r : Int64} (X : zM p s m args meth c D cA σ shM tS RX9 cX9_ways 10 (some .long)) (k37 : St → Int32 → Int32 → Int32 → Int32 → Int32 → Option (Int64 × St)) (hk37 : ∀ (S : St) (x1 : Int32) (x2 : Int32) (x3 : Int32) (x4 : Int32) (x5 : Int32), k37 S x1 x2 x3 x4 x5 = some (r, S') → Zj p l e rm9_ways s m args below meth c D cA σ shM 10 (some (.long r)) S' 37 [(0, .ref (σ 0)), (1, .int x1), (2, .int x2), (3, .int x3), (4, .int x4), (5, .int x5)] [] S) (k73 : St → Int32 → Int32 → Int32 → Int32 → Int32 → Int32 → Option (Int64 × St)) (hk73 : ∀ (S : St) (x1 : Int32) (x2 : Int32) (x3 : Int32) (x4 : Int32) (x5 : Int32) (x6 : Int32), k73 S x1 x2 x3 x4 x5 x6 = some (r, S') → Zj p l e rm9_ways s m args below meth c D cA σ shM 10 (some (.long r)) S' 73 [(0, .ref (σ 0)), (1, .int x1), (2, .int x2), (3, .int x3), (4, .int x4), (5, .int x5), (6, .int x6)] [] S) (k83 : St → Int32 → Int32 → Int32 → Int32 → Int32 → Int32 → Int32 → Option (Int64 × St)) (hk83 : ∀ (S : St) (x1 : Int32) (x2 : Int32) (x3 : Int32) (x4 : Int32) (x5 : Int32) (x6 : Int32) (x7 : Int32), k83 S x1 x2 x3 x4 x5 x6 x7 = some (r, S') → Zj p l e rm9_ways s m args below meth c D cA σ shM 10 (some (.long r)) S' 83 [(0, .ref (σ 0)), (1, .int x1), (2, .int x2), (3, .int x3), (4, .int x4), (5, .int x5), (6, .int x6), (7, .int x7)] [] S) : ∀ (n : Nat) (S : St) (x1 : Int32) (x2 : Int32) (x3 : Int32) (x4 : Int32) (x5 : Int32) (x6 : Int32) (x7 : Int32) (x8 : Int32), J9_ways_96 k37 k73 k83 n S x1 x2 x3 x4 x5 x6 x7 x8 = some (r, S') → Zj p l e rm9_ways s m args below meth c D cA σ shM 10 (some (.long r)) S' 96 [(0, .ref (σ 0)), (1, .int x1), (2, .int x2), (3, .int x3), (4, .int x4), (5, .int x5), (6, .int x6), (7, .int x7), (8, .int x8)] [] S := by
  intro n
  induction n with
  | zero =>
    intro S x1 x2 x3 x4 x5 x6 x7 x8 h
    rw [J9_ways_96] at h
    cases h
  | succ n ih =>
    intro S x1 x2 x3 x4 x5 x6 x7 x8 h
    rw [J9_ways_96] at h
    refine z_iload (pc := 96) X dX9_ways_96 8 rfl ?_
    refine z_iload (pc := 98) X dX9_ways_98 5 rfl ?_
    refine z_icmp_gt (pc := 100) (tgt := 151) X dX9_ways_100 (by decide) h (fun h => ?_) (fun h => ?_)
    · exact z_sub [0, 1, 2, 3, 4, 5, 6, 7] rfl (zz9_ways_151 X _ hk37 _ hk73 _ hk83 _ _ _ _ _ _ _ _ h)
    · refine z_iload (pc := 103) X dX9_ways_103 8 rfl ?_
      refine z_iload (pc := 105) X dX9_ways_105 4 rfl ?_
      refine z_icmp_gt (pc := 107) (tgt := 151) X dX9_ways_107 (by decide) h (fun h => ?_) (fun h => ?_)
      · exact z_sub [0, 1, 2, 3, 4, 5, 6, 7] rfl (zz9_ways_151 X _ hk37 _ hk73 _ hk83 _ _ _ _ _ _ _ _ h)
      · refine z_iconst (pc := 110) (v := 0) X dX9_ways_110 (by decide) ?_
        refine z_istore (pc := 111) (L' := [(9, .int _), (0, .ref _), (1, .int _), (2, .int _), (3, .int _), (4, .int _), (5, .int _), (6, .int _), (7, .int _), (8, .int _)]) X dX9_ways_111 (by decide) rfl ?_
        exact z_sub [1, 2, 3, 4, 5, 6, 7, 8, 9, 0] rfl (zz9_ways_113 X _ hk37 _ hk73 _ hk83 _ ih fu _ _ _ _ _ _ _ _ _ _ h)
set_option maxRecDepth 100000 in
set_option maxHeartbeats 4000000 in
theorem zz9_ways_83 {S' : St} {r : Int64} (X : zM p s m args meth c D cA σ shM tS RX9 cX9_ways 10 (some .long)) (k37 : St → Int32 → Int32 → Int32 → Int32 → Int32 → Option (Int64 × St)) (hk37 : ∀ (S : St) (x1 : Int32) (x2 : Int32) (x3 : Int32) (x4 : Int32) (x5 : Int32), k37 S x1 x2 x3 x4 x5 = some (r, S') → Zj p l e rm9_ways s m args below meth c D cA σ shM 10 (some (.long r)) S' 37 [(0, .ref (σ 0)), (1, .int x1), (2, .int x2), (3, .int x3), (4, .int x4), (5, .int x5)] [] S) (k73 : St → Int32 → Int32 → Int32 → Int32 → Int32 → Int32 → Option (Int64 × St)) (hk73 : ∀ (S : St) (x1 : Int32) (x2 : Int32) (x3 : Int32) (x4 : Int32) (x5 : Int32) (x6 : Int32), k73 S x1 x2 x3 x4 x5 x6 = some (r, S') → Zj p l e rm9_ways s m args below meth c D cA σ shM 10 (some (.long r)) S' 73 [(0, .ref (σ 0)), (1, .int x1), (2, .int x2), (3, .int x3), (4, .int x4), (5, .int x5), (6, .int x6)] [] S) : ∀ (n : Nat) (S : St) (x1 : Int32) (x2 : Int32) (x3 : Int32) (x4 : Int32) (x5 : Int32) (x6 : Int32) (x7 : Int32), J9_ways_83 k37 k73 n S x1 x2 x3 x4 x5 x6 x7 = some (r, S') → Zj p l e rm9_ways s m args below meth c D cA σ shM 10 (some (.long r)) S' 83 [(0, .ref (σ 0)), (1, .int x1), (2, .int x2), (3, .int x3), (4, .int x4), (5, .int x5), (6, .int x6), (7, .int x7)] [] S := by
  intro n
  induction n with
  | zero =>
    intro S x1 x2 x3 x4 x5 x6 x7 h
    rw [J9_ways_83] at h
    cases h
  | succ n ih =>
    intro S x1 x2 x3 x4 x5 x6 x7 h
    rw [J9_ways_83] at h
    refine z_iload (pc := 83) X dX9_ways_83 6 rfl ?_
    refine z_iload (pc := 85) X dX9_ways_85 7 rfl ?_
    refine z_iadd (pc := 87) X dX9_ways_87 ?_
    refine z_iload (pc := 88) X dX9_ways_88 5 rfl ?_
    refine z_icmp_gt (pc := 90) (tgt := 157) X dX9_ways_90 (by decide) h (fun h => ?_) (fun h => ?_)
    · refine z_iinc (pc := 157) (k := 6) (v := 1) (L' := [(6, .int _), (0, .ref _), (1, .int _), (2, .int _), (3, .int _), (4, .int _), (5, .int _), (7, .int _)]) X dX9_ways_157 rfl (by decide) (by decide) rfl ?_
      refine z_let h (fun h => ?_)
      refine z_goto (pc := 160) (tgt := 73) X dX9_ways_160 (by decide) ?_
      exact z_sub [1, 2, 3, 4, 5, 6, 0] rfl (hk73 _ _ _ _ _ _ _ h)
    · refine z_iconst (pc := 93) (v := 0) X dX9_ways_93 (by decide) ?_
      refine z_istore (pc := 94) (L' := [(8, .int _), (0, .ref _), (1, .int _), (2, .int _), (3, .int _), (4, .int _), (5, .int _), (6, .int _), (7, .int _)]) X dX9_ways_94 (by decide) rfl ?_
      exact z_sub [1, 2, 3, 4, 5, 6, 7, 8, 0] rfl (zz9_ways_96 X _ hk37 _ hk73 _ ih fu _ _ _ _ _ _ _ _ _ h)
set_option maxRecDepth 100000 in
set_option maxHeartbeats 4000000 in
theorem zz9_ways_73 {S' : St} {r : Int64} (X : zM p s m args meth c D cA σ shM tS RX9 cX9_ways 10 (some .long)) (k37 : St → Int32 → Int32 → Int32 → Int32 → Int32 → Option (Int64 × St)) (hk37 : ∀ (S : St) (x1 : Int32) (x2 : Int32) (x3 : Int32) (x4 : Int32) (x5 : Int32), k37 S x1 x2 x3 x4 x5 = some (r, S') → Zj p l e rm9_ways s m args below meth c D cA σ shM 10 (some (.long r)) S' 37 [(0, .ref (σ 0)), (1, .int x1), (2, .int x2), (3, .int x3), (4, .int x4), (5, .int x5)] [] S) : ∀ (n : Nat) (S : St) (x1 : Int32) (x2 : Int32) (x3 : Int32) (x4 : Int32) (x5 : Int32) (x6 : Int32), J9_ways_73 k37 n S x1 x2 x3 x4 x5 x6 = some (r, S') → Zj p l e rm9_ways s m args below meth c D cA σ shM 10 (some (.long r)) S' 73 [(0, .ref (σ 0)), (1, .int x1), (2, .int x2), (3, .int x3), (4, .int x4), (5, .int x5), (6, .int x6)] [] S := by
  intro n
  induction n with
  | zero =>
    intro S x1 x2 x3 x4 x5 x6 h
    rw [J9_ways_73] at h
    cases h
  | succ n ih =>
    intro S x1 x2 x3 x4 x5 x6 h
    rw [J9_ways_73] at h
    refine z_iload (pc := 73) X dX9_ways_73 6 rfl ?_
    refine z_iload (pc := 75) X dX9_ways_75 5 rfl ?_
    refine z_icmp_gt (pc := 77) (tgt := 163) X dX9_ways_77 (by decide) h (fun h => ?_) (fun h => ?_)
    · refine z_aload_n (pc := 163) X dX9_ways_163 rfl 0 rfl ?_
      refine z_get (pc := 164) (v := .ref (σ (Int32.toNatClampNeg _))) X 0 fX9_69 rfl rfl dX9_ways_164 rfl ?_
      refine z_gd h (fun hg h => ?_)
      have hq1 := z_dyn hg
      refine z_astore (pc := 167) (L' := [(6, .ref _), (0, .ref _), (1, .int _), (2, .int _), (3, .int _), (4, .int _), (5, .int _)]) X dX9_ways_167 (by decide) rfl ?_
      refine z_aload_n (pc := 169) X dX9_ways_169 rfl 1 rfl ?_
      refine z_aload_n (pc := 170) X dX9_ways_170 rfl 1 rfl ?_
      refine z_get (pc := 171) (v := .ref (σ (Int32.toNatClampNeg _))) X 0 fX9_72 rfl rfl dX9_ways_171 rfl ?_
      refine z_gd h (fun hg h => ?_)
      have hq2 := z_dyn hg
      refine z_putR (pc := 174) X 0 gX9_69 rfl rfl dX9_ways_174 ?_
      refine z_let h (fun h => ?_)
      refine z_aload_n (pc := 177) X dX9_ways_177 rfl 1 rfl ?_
      refine z_aload (pc := 178) X dX9_ways_178 0 rfl ?_
      refine z_putR (pc := 180) X 0 gX9_72 rfl rfl dX9_ways_180 ?_
      refine z_let h (fun h => ?_)
      refine z_iinc (pc := 183) (k := 6) (v := 1) (L' := [(5, .int _), (6, .ref _), (0, .ref _), (1, .int _), (2, .int _), (3, .int _), (4, .int _)]) X dX9_ways_183 rfl (by decide) (by decide) rfl ?_
      refine z_let h (fun h => ?_)
      refine z_goto (pc := 186) (tgt := 37) X dX9_ways_186 (by decide) ?_
      exact z_sub [2, 3, 4, 5, 6, 0] rfl (hk37 _ _ _ _ _ _ h)
    · refine z_iconst (pc := 80) (v := 0) X dX9_ways_80 (by decide) ?_
      refine z_istore (pc := 81) (L' := [(7, .int _), (0, .ref _), (1, .int _), (2, .int _), (3, .int _), (4, .int _), (5, .int _), (6, .int _)]) X dX9_ways_81 (by decide) rfl ?_
      exact z_sub [1, 2, 3, 4, 5, 6, 7, 0] rfl (zz9_ways_83 X _ hk37 _ ih fu _ _ _ _ _ _ _ _ h)
set_option maxRecDepth 100000 in
set_option maxHeartbeats 4000000 in
theorem zz9_ways_46 {S' : St} {r : Int64} (X : zM p s m args meth c D cA σ shM tS RX9 cX9_ways 10 (some .long)) (k37 : St → Int32 → Int32 → Int32 → Int32 → Int32 → Option (Int64 × St)) (hk37 : ∀ (S : St) (x1 : Int32) (x2 : Int32) (x3 : Int32) (x4 : Int32) (x5 : Int32), k37 S x1 x2 x3 x4 x5 = some (r, S') → Zj p l e rm9_ways s m args below meth c D cA σ shM 10 (some (.long r)) S' 37 [(0, .ref (σ 0)), (1, .int x1), (2, .int x2), (3, .int x3), (4, .int x4), (5, .int x5)] [] S) : ∀ (n : Nat) (S : St) (x1 : Int32) (x2 : Int32) (x3 : Int32) (x4 : Int32) (x5 : Int32) (x6 : Int32), J9_ways_46 k37 n S x1 x2 x3 x4 x5 x6 = some (r, S') → Zj p l e rm9_ways s m args below meth c D cA σ shM 10 (some (.long r)) S' 46 [(0, .ref (σ 0)), (1, .int x1), (2, .int x2), (3, .int x3), (4, .int x4), (5, .int x5), (6, .int x6)] [] S := by
  intro n
  induction n with
  | zero =>
    intro S x1 x2 x3 x4 x5 x6 h
    rw [J9_ways_46] at h
    cases h
  | succ n ih =>
    intro S x1 x2 x3 x4 x5 x6 h
    rw [J9_ways_46] at h
    refine z_iload (pc := 46) X dX9_ways_46 6 rfl ?_
    refine z_aload_n (pc := 48) X dX9_ways_48 rfl 0 rfl ?_
    refine z_get (pc := 49) (v := .ref (σ (Int32.toNatClampNeg _))) X 0 fX9_72 rfl rfl dX9_ways_49 rfl ?_
    refine z_gd h (fun hg h => ?_)
    have hq1 := z_dyn hg
    refine z_alen (pc := 52) (v := 1296) X _ (by decide) hq1 rfl dX9_ways_52 ?_
    refine z_icmp_ge (pc := 53) (tgt := 70) X dX9_ways_53 (by decide) h (fun h => ?_) (fun h => ?_)
    · refine z_iconst (pc := 70) (v := 0) X dX9_ways_70 (by decide) ?_
      refine z_istore (pc := 71) (L' := [(6, .int _), (0, .ref _), (1, .int _), (2, .int _), (3, .int _), (4, .int _), (5, .int _)]) X dX9_ways_71 (by decide) rfl ?_
      exact z_sub [1, 2, 3, 4, 5, 6, 0] rfl (zz9_ways_73 X _ hk37 fu _ _ _ _ _ _ _ h)
    · refine z_aload_n (pc := 56) X dX9_ways_56 rfl 0 rfl ?_
      refine z_get (pc := 57) (v := .ref (σ (Int32.toNatClampNeg _))) X 0 fX9_72 rfl rfl dX9_ways_57 rfl ?_
      refine z_gd h (fun hg h => ?_)
      have hq2 := z_dyn hg
      refine z_iload (pc := 60) X dX9_ways_60 6 rfl ?_
      refine z_lconst (pc := 62) (v := 0) X dX9_ways_62 (by decide) ?_
      refine z_last (pc := 63) X _ hq2 dX9_ways_63 h (fun h => ?_)
      refine z_let h (fun h => ?_)
      refine z_iinc (pc := 64) (k := 6) (v := 1) (L' := [(6, .int _), (0, .ref _), (1, .int _), (2, .int _), (3, .int _), (4, .int _), (5, .int _)]) X dX9_ways_64 rfl (by decide) (by decide) rfl ?_
      refine z_let h (fun h => ?_)
      refine z_goto (pc := 67) (tgt := 46) X dX9_ways_67 (by decide) ?_
      exact z_sub [1, 2, 3, 4, 5, 6, 0] rfl (ih _ _ _ _ _ _ _ h)
set_option maxRecDepth 100000 in
set_option maxHeartbeats 4000000 in
theorem zz9_ways_222 {S' : St} {r : Int64} (X : zM p s m args meth c D cA σ shM tS RX9 cX9_ways 10 (some .long)) (k195 : St → Int32 → Int32 → Int32 → Int32 → Int64 → Int32 → Option (Int64 × St)) (hk195 : ∀ (S : St) (x1 : Int32) (x2 : Int32) (x3 : Int32) (x4 : Int32) (x5 : Int64) (x7 : Int32), k195 S x1 x2 x3 x4 x5 x7 = some (r, S') → Zj p l e rm9_ways s m args below meth c D cA σ shM 10 (some (.long r)) S' 195 [(0, .ref (σ 0)), (1, .int x1), (2, .int x2), (3, .int x3), (4, .int x4), (5, .long x5), (7, .int x7)] [] S) (k207 : St → Int32 → Int32 → Int32 → Int32 → Int64 → Int32 → Int32 → Option (Int64 × St)) (hk207 : ∀ (S : St) (x1 : Int32) (x2 : Int32) (x3 : Int32) (x4 : Int32) (x5 : Int64) (x7 : Int32) (x8 : Int32), k207 S x1 x2 x3 x4 x5 x7 x8 = some (r, S') → Zj p l e rm9_ways s m args below meth c D cA σ shM 10 (some (.long r)) S' 207 [(0, .ref (σ 0)), (1, .int x1), (2, .int x2), (3, .int x3), (4, .int x4), (5, .long x5), (7, .int x7), (8, .int x8)] [] S) : ∀ (n : Nat) (S : St) (x1 : Int32) (x2 : Int32) (x3 : Int32) (x4 : Int32) (x5 : Int64) (x7 : Int32) (x8 : Int32) (x9 : Int32), J9_ways_222 k195 k207 n S x1 x2 x3 x4 x5 x7 x8 x9 = some (r, S') → Zj p l e rm9_ways s m args below meth c D cA σ shM 10 (some (.long r)) S' 222 [(0, .ref (σ 0)), (1, .int x1), (2, .int x2), (3, .int x3), (4, .int x4), (5, .long x5), (7, .int x7), (8, .int x8), (9, .int x9)] [] S := by
  intro n
  induction n with
  | zero =>
    intro S x1 x2 x3 x4 x5 x7 x8 x9 h
    rw [J9_ways_222] at h
    cases h
  | succ n ih =>
    intro S x1 x2 x3 x4 x5 x7 x8 x9 h
    rw [J9_ways_222] at h
    refine z_iload (pc := 222) X dX9_ways_222 4 rfl ?_
    refine z_iload (pc := 224) X dX9_ways_224 8 rfl ?_
    refine z_iadd (pc := 226) X dX9_ways_226 ?_
    refine z_iload_n (pc := 227) X dX9_ways_227 rfl 1 rfl ?_
    refine z_icmp_gt (pc := 228) (tgt := 258) X dX9_ways_228 (by decide) h (fun h => ?_) (fun h => ?_)
    · refine z_iinc (pc := 258) (k := 7) (v := 1) (L' := [(8, .int _), (0, .ref _), (1, .int _), (2, .int _), (3, .int _), (4, .int _), (5, .long _), (7, .int _), (9, .int _)]) X dX9_ways_258 rfl (by decide) (by decide) rfl ?_
      refine z_let h (fun h => ?_)
      refine z_goto (pc := 261) (tgt := 207) X dX9_ways_261 (by decide) ?_
      exact z_sub [1, 2, 3, 4, 5, 6, 7, 0] rfl (hk207 _ _ _ _ _ _ _ _ h)
    · refine z_lload (pc := 231) X dX9_ways_231 5 rfl ?_
      refine z_aload_n (pc := 233) X dX9_ways_233 rfl 0 rfl ?_
      refine z_get (pc := 234) (v := .ref (σ (Int32.toNatClampNeg _))) X 0 fX9_69 rfl rfl dX9_ways_234 rfl ?_
      refine z_gd h (fun hg h => ?_)
      have hq2 := z_dyn hg
      refine z_iload (pc := 237) X dX9_ways_237 6 rfl ?_
      refine z_iload (pc := 239) X dX9_ways_239 7 rfl ?_
      refine z_iload (pc := 241) X dX9_ways_241 4 rfl ?_
      refine z_iload (pc := 243) X dX9_ways_243 8 rfl ?_
      refine z_callSi (pc := 245) (rm := rm9_mark) X [.int _, .int _, .int _, .int _] sX9_180 rfl rfl (Nat.le_of_ble_eq_true rfl) ⟨rfl, rfl, Nat.le_of_ble_eq_true rfl, Nat.le_of_ble_eq_true rfl⟩ dX9_ways_245 h (fun _ _ q => cc9_mark q) (fun r3 S3 h => ?_)
      refine z_lald (pc := 248) X _ hq2 dX9_ways_248 h (fun h => ?_)
      refine z_ladd (pc := 249) X dX9_ways_249 ?_
      refine z_lstore (pc := 250) (L' := [(5, .long _), (0, .ref _), (1, .int _), (2, .int _), (3, .int _), (4, .int _), (7, .int _), (8, .int _), (9, .int _)]) X dX9_ways_250 (by decide) rfl ?_
      refine z_let h (fun h => ?_)
      refine z_iinc (pc := 252) (k := 8) (v := 1) (L' := [(9, .int _), (5, .long _), (0, .ref _), (1, .int _), (2, .int _), (3, .int _), (4, .int _), (7, .int _), (8, .int _)]) X dX9_ways_252 rfl (by decide) (by decide) rfl ?_
      refine z_let h (fun h => ?_)
      refine z_goto (pc := 255) (tgt := 222) X dX9_ways_255 (by decide) ?_
      exact z_sub [2, 3, 4, 5, 6, 1, 7, 8, 0] rfl (ih _ _ _ _ _ _ _ _ _ h)
set_option maxRecDepth 100000 in
set_option maxHeartbeats 4000000 in
theorem zz9_ways_207 {S' : St} {r : Int64} (X : zM p s m args meth c D cA σ shM tS RX9 cX9_ways 10 (some .long)) (k195 : St → Int32 → Int32 → Int32 → Int32 → Int64 → Int32 → Option (Int64 × St)) (hk195 : ∀ (S : St) (x1 : Int32) (x2 : Int32) (x3 : Int32) (x4 : Int32) (x5 : Int64) (x7 : Int32), k195 S x1 x2 x3 x4 x5 x7 = some (r, S') → Zj p l e rm9_ways s m args below meth c D cA σ shM 10 (some (.long r)) S' 195 [(0, .ref (σ 0)), (1, .int x1), (2, .int x2), (3, .int x3), (4, .int x4), (5, .long x5), (7, .int x7)] [] S) : ∀ (n : Nat) (S : St) (x1 : Int32) (x2 : Int32) (x3 : Int32) (x4 : Int32) (x5 : Int64) (x7 : Int32) (x8 : Int32), J9_ways_207 k195 n S x1 x2 x3 x4 x5 x7 x8 = some (r, S') → Zj p l e rm9_ways s m args below meth c D cA σ shM 10 (some (.long r)) S' 207 [(0, .ref (σ 0)), (1, .int x1), (2, .int x2), (3, .int x3), (4, .int x4), (5, .long x5), (7, .int x7), (8, .int x8)] [] S := by
  intro n
  induction n with
  | zero =>
    intro S x1 x2 x3 x4 x5 x7 x8 h
    rw [J9_ways_207] at h
    cases h
  | succ n ih =>
    intro S x1 x2 x3 x4 x5 x7 x8 h
    rw [J9_ways_207] at h
    refine z_iload (pc := 207) X dX9_ways_207 6 rfl ?_
    refine z_iload (pc := 209) X dX9_ways_209 7 rfl ?_
    refine z_iadd (pc := 211) X dX9_ways_211 ?_
    refine z_iload_n (pc := 212) X dX9_ways_212 rfl 1 rfl ?_
    refine z_icmp_gt (pc := 213) (tgt := 264) X dX9_ways_213 (by decide) h (fun h => ?_) (fun h => ?_)
    · refine z_iinc (pc := 264) (k := 6) (v := 1) (L' := [(7, .int _), (0, .ref _), (1, .int _), (2, .int _), (3, .int _), (4, .int _), (5, .long _), (8, .int _)]) X dX9_ways_264 rfl (by decide) (by decide) rfl ?_
      refine z_let h (fun h => ?_)
      refine z_goto (pc := 267) (tgt := 195) X dX9_ways_267 (by decide) ?_
      exact z_sub [1, 2, 3, 4, 5, 6, 0] rfl (hk195 _ _ _ _ _ _ _ h)
    · refine z_iload_n (pc := 216) X dX9_ways_216 rfl 3 rfl ?_
      refine z_iload (pc := 217) X dX9_ways_217 4 rfl ?_
      refine z_isub (pc := 219) X dX9_ways_219 ?_
      refine z_istore (pc := 220) (L' := [(9, .int _), (0, .ref _), (1, .int _), (2, .int _), (3, .int _), (4, .int _), (5, .long _), (7, .int _), (8, .int _)]) X dX9_ways_220 (by decide) rfl ?_
      refine z_let h (fun h => ?_)
      exact z_sub [1, 2, 3, 4, 5, 6, 7, 8, 0] rfl (zz9_ways_222 X _ hk195 _ ih fu _ _ _ _ _ _ _ _ _ h)
set_option maxRecDepth 100000 in
set_option maxHeartbeats 4000000 in
theorem zz9_ways_195 {S' : St} {r : Int64} (X : zM p s m args meth c D cA σ shM tS RX9 cX9_ways 10 (some .long)) : ∀ (n : Nat) (S : St) (x1 : Int32) (x2 : Int32) (x3 : Int32) (x4 : Int32) (x5 : Int64) (x7 : Int32), J9_ways_195 n S x1 x2 x3 x4 x5 x7 = some (r, S') → Zj p l e rm9_ways s m args below meth c D cA σ shM 10 (some (.long r)) S' 195 [(0, .ref (σ 0)), (1, .int x1), (2, .int x2), (3, .int x3), (4, .int x4), (5, .long x5), (7, .int x7)] [] S := by
  intro n
  induction n with
  | zero =>
    intro S x1 x2 x3 x4 x5 x7 h
    rw [J9_ways_195] at h
    cases h
  | succ n ih =>
    intro S x1 x2 x3 x4 x5 x7 h
    rw [J9_ways_195] at h
    refine z_iload (pc := 195) X dX9_ways_195 6 rfl ?_
    refine z_iload_n (pc := 197) X dX9_ways_197 rfl 2 rfl ?_
    refine z_icmp_ge (pc := 198) (tgt := 270) X dX9_ways_198 (by decide) h (fun h => ?_) (fun h => ?_)
    · refine z_lload (pc := 270) X dX9_ways_270 5 rfl ?_
      exact z_lret X rfl dX9_ways_272 h
    · refine z_iload_n (pc := 201) X dX9_ways_201 rfl 2 rfl ?_
      refine z_iload (pc := 202) X dX9_ways_202 6 rfl ?_
      refine z_isub (pc := 204) X dX9_ways_204 ?_
      refine z_istore (pc := 205) (L' := [(8, .int _), (0, .ref _), (1, .int _), (2, .int _), (3, .int _), (4, .int _), (5, .long _), (7, .int _)]) X dX9_ways_205 (by decide) rfl ?_
      refine z_let h (fun h => ?_)
      exact z_sub [1, 2, 3, 4, 5, 6, 7, 0] rfl (zz9_ways_207 X _ ih fu _ _ _ _ _ _ _ _ h)
set_option maxRecDepth 100000 in
set_option maxHeartbeats 4000000 in
theorem zz9_ways_37 {S' : St} {r : Int64} (X : zM p s m args meth c D cA σ shM tS RX9 cX9_ways 10 (some .long)) : ∀ (n : Nat) (S : St) (x1 : Int32) (x2 : Int32) (x3 : Int32) (x4 : Int32) (x5 : Int32), J9_ways_37 n S x1 x2 x3 x4 x5 = some (r, S') → Zj p l e rm9_ways s m args below meth c D cA σ shM 10 (some (.long r)) S' 37 [(0, .ref (σ 0)), (1, .int x1), (2, .int x2), (3, .int x3), (4, .int x4), (5, .int x5)] [] S := by
  intro n
  induction n with
  | zero =>
    intro S x1 x2 x3 x4 x5 h
    rw [J9_ways_37] at h
    cases h
  | succ n ih =>
    intro S x1 x2 x3 x4 x5 h
    rw [J9_ways_37] at h
    refine z_iload (pc := 37) X dX9_ways_37 5 rfl ?_
    refine z_iload_n (pc := 39) X dX9_ways_39 rfl 1 rfl ?_
    refine z_icmp_ge (pc := 40) (tgt := 189) X dX9_ways_40 (by decide) h (fun h => ?_) (fun h => ?_)
    · refine z_lconst (pc := 189) (v := 0) X dX9_ways_189 (by decide) ?_
      refine z_lstore (pc := 190) (L' := [(5, .long _), (0, .ref _), (1, .int _), (2, .int _), (3, .int _), (4, .int _)]) X dX9_ways_190 (by decide) rfl ?_
      refine z_iconst (pc := 192) (v := 0) X dX9_ways_192 (by decide) ?_
      refine z_istore (pc := 193) (L' := [(7, .int _), (5, .long _), (0, .ref _), (1, .int _), (2, .int _), (3, .int _), (4, .int _)]) X dX9_ways_193 (by decide) rfl ?_
      exact z_sub [2, 3, 4, 5, 6, 1, 0] rfl (zz9_ways_195 X  fu _ _ _ _ _ _ _ h)
    · refine z_iconst (pc := 43) (v := 0) X dX9_ways_43 (by decide) ?_
      refine z_istore (pc := 44) (L' := [(6, .int _), (0, .ref _), (1, .int _), (2, .int _), (3, .int _), (4, .int _), (5, .int _)]) X dX9_ways_44 (by decide) rfl ?_
      exact z_sub [1, 2, 3, 4, 5, 6, 0] rfl (zz9_ways_46 X _ ih fu _ _ _ _ _ _ _ h)
set_option maxRecDepth 100000 in
set_option maxHeartbeats 4000000 in
theorem zz9_ways_3 {S' : St} {r : Int64} (X : zM p s m args meth c D cA σ shM tS RX9 cX9_ways 10 (some .long)) : ∀ (n : Nat) (S : St) (x1 : Int32) (x2 : Int32) (x3 : Int32) (x4 : Int32) (x5 : Int32), J9_ways_3 n S x1 x2 x3 x4 x5 = some (r, S') → Zj p l e rm9_ways s m args below meth c D cA σ shM 10 (some (.long r)) S' 3 [(0, .ref (σ 0)), (1, .int x1), (2, .int x2), (3, .int x3), (4, .int x4), (5, .int x5)] [] S := by
  intro n
  induction n with
  | zero =>
    intro S x1 x2 x3 x4 x5 h
    rw [J9_ways_3] at h
    cases h
  | succ n ih =>
    intro S x1 x2 x3 x4 x5 h
    rw [J9_ways_3] at h
    refine z_iload (pc := 3) X dX9_ways_3 5 rfl ?_
    refine z_aload_n (pc := 5) X dX9_ways_5 rfl 0 rfl ?_
    refine z_get (pc := 6) (v := .ref (σ (Int32.toNatClampNeg _))) X 0 fX9_69 rfl rfl dX9_ways_6 rfl ?_
    refine z_gd h (fun hg h => ?_)
    have hq1 := z_dyn hg
    refine z_alen (pc := 9) (v := 1296) X _ (by decide) hq1 rfl dX9_ways_9 ?_
    refine z_icmp_ge (pc := 10) (tgt := 27) X dX9_ways_10 (by decide) h (fun h => ?_) (fun h => ?_)
    · refine z_aload_n (pc := 27) X dX9_ways_27 rfl 0 rfl ?_
      refine z_get (pc := 28) (v := .ref (σ (Int32.toNatClampNeg _))) X 0 fX9_69 rfl rfl dX9_ways_28 rfl ?_
      refine z_gd h (fun hg h => ?_)
      have hq2 := z_dyn hg
      refine z_iconst (pc := 31) (v := 0) X dX9_ways_31 (by decide) ?_
      refine z_lconst (pc := 32) (v := 1) X dX9_ways_32 (by decide) ?_
      refine z_last (pc := 33) X _ hq2 dX9_ways_33 h (fun h => ?_)
      refine z_let h (fun h => ?_)
      refine z_iconst (pc := 34) (v := 0) X dX9_ways_34 (by decide) ?_
      refine z_istore (pc := 35) (L' := [(5, .int _), (0, .ref _), (1, .int _), (2, .int _), (3, .int _), (4, .int _)]) X dX9_ways_35 (by decide) rfl ?_
      exact z_sub [1, 2, 3, 4, 5, 0] rfl (zz9_ways_37 X  fu _ _ _ _ _ _ h)
    · refine z_aload_n (pc := 13) X dX9_ways_13 rfl 0 rfl ?_
      refine z_get (pc := 14) (v := .ref (σ (Int32.toNatClampNeg _))) X 0 fX9_69 rfl rfl dX9_ways_14 rfl ?_
      refine z_gd h (fun hg h => ?_)
      have hq4 := z_dyn hg
      refine z_iload (pc := 17) X dX9_ways_17 5 rfl ?_
      refine z_lconst (pc := 19) (v := 0) X dX9_ways_19 (by decide) ?_
      refine z_last (pc := 20) X _ hq4 dX9_ways_20 h (fun h => ?_)
      refine z_let h (fun h => ?_)
      refine z_iinc (pc := 21) (k := 5) (v := 1) (L' := [(5, .int _), (0, .ref _), (1, .int _), (2, .int _), (3, .int _), (4, .int _)]) X dX9_ways_21 rfl (by decide) (by decide) rfl ?_
      refine z_let h (fun h => ?_)
      refine z_goto (pc := 24) (tgt := 3) X dX9_ways_24 (by decide) ?_
      exact z_sub [1, 2, 3, 4, 5, 0] rfl (ih _ _ _ _ _ _ h)
set_option maxRecDepth 100000 in
set_option maxHeartbeats 4000000 in
theorem zz9_ways_0 {S' : St} {r : Int64} (X : zM p s m args meth c D cA σ shM tS RX9 cX9_ways 10 (some .long)) : ∀ (S : St) (x1 : Int32) (x2 : Int32) (x3 : Int32) (x4 : Int32), J9_ways S x1 x2 x3 x4 = some (r, S') → Zj p l e rm9_ways s m args below meth c D cA σ shM 10 (some (.long r)) S' 0 [(0, .ref (σ 0)), (1, .int x1), (2, .int x2), (3, .int x3), (4, .int x4)] [] S := by
  intro S x1 x2 x3 x4 h
  rw [J9_ways] at h
  refine z_iconst (pc := 0) (v := 0) X dX9_ways_0 (by decide) ?_
  refine z_istore (pc := 1) (L' := [(5, .int _), (0, .ref _), (1, .int _), (2, .int _), (3, .int _), (4, .int _)]) X dX9_ways_1 (by decide) rfl ?_
  exact z_sub [1, 2, 3, 4, 5, 0] rfl (zz9_ways_3 X  fu _ _ _ _ _ _ h)
theorem cc9_ways {l : Launch} {D : va_G} {cA : Nat → ClassId} {σ : Nat → Nat} {tS : Nat} {S S' : St} {x1 : Int32} {x2 : Int32} {x3 : Int32} {x4 : Int32} {r : Int64} (h : J9_ways S x1 x2 x3 x4 = some (r, S')) : zMet l D cA σ shM tS yX9_ways cX9_ways 10 (some .long) rm9_ways [.ref (σ 0), .int x1, .int x2, .int x3, .int x4] S (some (.long r)) S' := z_met [(0, .ref (σ 0)), (1, .int x1), (2, .int x2), (3, .int x3), (4, .int x4)] (by decide +kernel) (Nat.le_of_ble_eq_true rfl) rfl (fun _ _ _ _ _ _ _ _ X => zz9_ways_0 X _ _ _ _ _ h)
set_option maxRecDepth 100000 in
set_option maxHeartbeats 4000000 in
theorem zz9_oldWays_107 {S' : St} {r : Int64} (X : zM p s m args meth c D cA σ shM tS RX9 cX9_oldWays 14 (some .long)) (k6 : St → Int32 → Int32 → Int32 → Int32 → Int32 → Int32 → Int64 → Int32 → Option (Int64 × St)) (hk6 : ∀ (S : St) (x1 : Int32) (x2 : Int32) (x3 : Int32) (x4 : Int32) (x5 : Int32) (x6 : Int32) (x7 : Int64) (x9 : Int32), k6 S x1 x2 x3 x4 x5 x6 x7 x9 = some (r, S') → Zj p l e rm9_oldWays s m args below meth c D cA σ shM 14 (some (.long r)) S' 6 [(0, .ref (σ 0)), (1, .int x1), (2, .int x2), (3, .int x3), (4, .int x4), (5, .int x5), (6, .int x6), (7, .long x7), (9, .int x9)] [] S) (k28 : St → Int32 → Int32 → Int32 → Int32 → Int32 → Int32 → Int64 → Int32 → Int32 → Option (Int64 × St)) (hk28 : ∀ (S : St) (x1 : Int32) (x2 : Int32) (x3 : Int32) (x4 : Int32) (x5 : Int32) (x6 : Int32) (x7 : Int64) (x9 : Int32) (x10 : Int32), k28 S x1 x2 x3 x4 x5 x6 x7 x9 x10 = some (r, S') → Zj p l e rm9_oldWays s m args below meth c D cA σ shM 14 (some (.long r)) S' 28 [(0, .ref (σ 0)), (1, .int x1), (2, .int x2), (3, .int x3), (4, .int x4), (5, .int x5), (6, .int x6), (7, .long x7), (9, .int x9), (10, .int x10)] [] S) (k38 : St → Int32 → Int32 → Int32 → Int32 → Int32 → Int32 → Int64 → Int32 → Int32 → Int32 → Option (Int64 × St)) (hk38 : ∀ (S : St) (x1 : Int32) (x2 : Int32) (x3 : Int32) (x4 : Int32) (x5 : Int32) (x6 : Int32) (x7 : Int64) (x9 : Int32) (x10 : Int32) (x11 : Int32), k38 S x1 x2 x3 x4 x5 x6 x7 x9 x10 x11 = some (r, S') → Zj p l e rm9_oldWays s m args below meth c D cA σ shM 14 (some (.long r)) S' 38 [(0, .ref (σ 0)), (1, .int x1), (2, .int x2), (3, .int x3), (4, .int x4), (5, .int x5), (6, .int x6), (7, .long x7), (9, .int x9), (10, .int x10), (11, .int x11)] [] S) (k77 : St → Int32 → Int32 → Int32 → Int32 → Int32 → Int32 → Int64 → Int32 → Int32 → Int32 → Int32 → Option (Int64 × St)) (hk77 : ∀ (S : St) (x1 : Int32) (x2 : Int32) (x3 : Int32) (x4 : Int32) (x5 : Int32) (x6 : Int32) (x7 : Int64) (x9 : Int32) (x10 : Int32) (x11 : Int32) (x12 : Int32), k77 S x1 x2 x3 x4 x5 x6 x7 x9 x10 x11 x12 = some (r, S') → Zj p l e rm9_oldWays s m args below meth c D cA σ shM 14 (some (.long r)) S' 77 [(0, .ref (σ 0)), (1, .int x1), (2, .int x2), (3, .int x3), (4, .int x4), (5, .int x5), (6, .int x6), (7, .long x7), (9, .int x9), (10, .int x10), (11, .int x11), (12, .int x12)] [] S) : ∀ (S : St) (x1 : Int32) (x2 : Int32) (x3 : Int32) (x4 : Int32) (x5 : Int32) (x6 : Int32) (x7 : Int64) (x9 : Int32) (x10 : Int32) (x11 : Int32) (x12 : Int32) (t0 : Int32), J9_oldWays_107 k6 k28 k38 k77 S x1 x2 x3 x4 x5 x6 x7 x9 x10 x11 x12 t0 = some (r, S') → Zj p l e rm9_oldWays s m args below meth c D cA σ shM 14 (some (.long r)) S' 107 [(0, .ref (σ 0)), (1, .int x1), (2, .int x2), (3, .int x3), (4, .int x4), (5, .int x5), (6, .int x6), (7, .long x7), (9, .int x9), (10, .int x10), (11, .int x11), (12, .int x12)] [.int t0] S := by
  intro S x1 x2 x3 x4 x5 x6 x7 x9 x10 x11 x12 t0 h
  rw [J9_oldWays_107] at h
  refine z_istore (pc := 107) (L' := [(13, .int _), (0, .ref _), (1, .int _), (2, .int _), (3, .int _), (4, .int _), (5, .int _), (6, .int _), (7, .long _), (9, .int _), (10, .int _), (11, .int _), (12, .int _)]) X dX9_oldWays_107 (by decide) rfl ?_
  refine z_aload_n (pc := 109) X dX9_oldWays_109 rfl 1 rfl ?_
  refine z_get (pc := 110) (v := .ref (σ 9)) X 0 fX9_75 rfl rfl dX9_oldWays_110 rfl ?_
  refine z_bipush (pc := 113) (v := 6) X dX9_oldWays_113 (by decide) ?_
  refine z_iload (pc := 115) X dX9_oldWays_115 11 rfl ?_
  refine z_imul (pc := 117) X dX9_oldWays_117 ?_
  refine z_iload (pc := 118) X dX9_oldWays_118 0 rfl ?_
  refine z_iadd (pc := 120) X dX9_oldWays_120 ?_
  refine z_dup2_11 (pc := 121) X dX9_oldWays_121 rfl rfl ?_
  refine z_lald (pc := 122) X 9 rfl dX9_oldWays_122 h (fun h => ?_)
  refine z_aload_n (pc := 123) X dX9_oldWays_123 rfl 1 rfl ?_
  refine z_get (pc := 124) (v := .ref (σ 6)) X 0 fX9_66 rfl rfl dX9_oldWays_124 rfl ?_
  refine z_bipush (pc := 127) (v := 30) X dX9_oldWays_127 (by decide) ?_
  refine z_iload (pc := 129) X dX9_oldWays_129 11 rfl ?_
  refine z_imul (pc := 131) X dX9_oldWays_131 ?_
  refine z_iconst (pc := 132) (v := 2) X dX9_oldWays_132 (by decide) ?_
  refine z_iload (pc := 133) X dX9_oldWays_133 12 rfl ?_
  refine z_imul (pc := 135) X dX9_oldWays_135 ?_
  refine z_iadd (pc := 136) X dX9_oldWays_136 ?_
  refine z_lald (pc := 137) X 6 rfl dX9_oldWays_137 h (fun h => ?_)
  refine z_ladd (pc := 138) X dX9_oldWays_138 ?_
  refine z_last (pc := 139) X 9 rfl dX9_oldWays_139 h (fun h => ?_)
  refine z_let h (fun h => ?_)
  refine z_aload_n (pc := 140) X dX9_oldWays_140 rfl 1 rfl ?_
  refine z_get (pc := 141) (v := .ref (σ 9)) X 0 fX9_75 rfl rfl dX9_oldWays_141 rfl ?_
  refine z_bipush (pc := 144) (v := 6) X dX9_oldWays_144 (by decide) ?_
  refine z_iload (pc := 146) X dX9_oldWays_146 11 rfl ?_
  refine z_imul (pc := 148) X dX9_oldWays_148 ?_
  refine z_iload (pc := 149) X dX9_oldWays_149 0 rfl ?_
  refine z_iadd (pc := 151) X dX9_oldWays_151 ?_
  refine z_iconst (pc := 152) (v := 1) X dX9_oldWays_152 (by decide) ?_
  refine z_iadd (pc := 153) X dX9_oldWays_153 ?_
  refine z_dup2_11 (pc := 154) X dX9_oldWays_154 rfl rfl ?_
  refine z_lald (pc := 155) X 9 rfl dX9_oldWays_155 h (fun h => ?_)
  refine z_aload_n (pc := 156) X dX9_oldWays_156 rfl 1 rfl ?_
  refine z_get (pc := 157) (v := .ref (σ 6)) X 0 fX9_66 rfl rfl dX9_oldWays_157 rfl ?_
  refine z_bipush (pc := 160) (v := 30) X dX9_oldWays_160 (by decide) ?_
  refine z_iload (pc := 162) X dX9_oldWays_162 11 rfl ?_
  refine z_imul (pc := 164) X dX9_oldWays_164 ?_
  refine z_iconst (pc := 165) (v := 2) X dX9_oldWays_165 (by decide) ?_
  refine z_iload (pc := 166) X dX9_oldWays_166 12 rfl ?_
  refine z_imul (pc := 168) X dX9_oldWays_168 ?_
  refine z_iadd (pc := 169) X dX9_oldWays_169 ?_
  refine z_iconst (pc := 170) (v := 1) X dX9_oldWays_170 (by decide) ?_
  refine z_iadd (pc := 171) X dX9_oldWays_171 ?_
  refine z_lald (pc := 172) X 6 rfl dX9_oldWays_172 h (fun h => ?_)
  refine z_ladd (pc := 173) X dX9_oldWays_173 ?_
  refine z_last (pc := 174) X 9 rfl dX9_oldWays_174 h (fun h => ?_)
  refine z_let h (fun h => ?_)
  refine z_iinc (pc := 175) (k := 12) (v := 1) (L' := [(12, .int _), (13, .int _), (0, .ref _), (1, .int _), (2, .int _), (3, .int _), (4, .int _), (5, .int _), (6, .int _), (7, .long _), (9, .int _), (10, .int _), (11, .int _)]) X dX9_oldWays_175 rfl (by decide) (by decide) rfl ?_
  refine z_let h (fun h => ?_)
  refine z_goto (pc := 178) (tgt := 77) X dX9_oldWays_178 (by decide) ?_
  exact z_sub [2, 3, 4, 5, 6, 7, 8, 9, 10, 11, 12, 0] rfl (hk77 _ _ _ _ _ _ _ _ _ _ _ _ h)
set_option maxRecDepth 100000 in
set_option maxHeartbeats 4000000 in
theorem zz9_oldWays_77 {S' : St} {r : Int64} (X : zM p s m args meth c D cA σ shM tS RX9 cX9_oldWays 14 (some .long)) (k6 : St → Int32 → Int32 → Int32 → Int32 → Int32 → Int32 → Int64 → Int32 → Option (Int64 × St)) (hk6 : ∀ (S : St) (x1 : Int32) (x2 : Int32) (x3 : Int32) (x4 : Int32) (x5 : Int32) (x6 : Int32) (x7 : Int64) (x9 : Int32), k6 S x1 x2 x3 x4 x5 x6 x7 x9 = some (r, S') → Zj p l e rm9_oldWays s m args below meth c D cA σ shM 14 (some (.long r)) S' 6 [(0, .ref (σ 0)), (1, .int x1), (2, .int x2), (3, .int x3), (4, .int x4), (5, .int x5), (6, .int x6), (7, .long x7), (9, .int x9)] [] S) (k28 : St → Int32 → Int32 → Int32 → Int32 → Int32 → Int32 → Int64 → Int32 → Int32 → Option (Int64 × St)) (hk28 : ∀ (S : St) (x1 : Int32) (x2 : Int32) (x3 : Int32) (x4 : Int32) (x5 : Int32) (x6 : Int32) (x7 : Int64) (x9 : Int32) (x10 : Int32), k28 S x1 x2 x3 x4 x5 x6 x7 x9 x10 = some (r, S') → Zj p l e rm9_oldWays s m args below meth c D cA σ shM 14 (some (.long r)) S' 28 [(0, .ref (σ 0)), (1, .int x1), (2, .int x2), (3, .int x3), (4, .int x4), (5, .int x5), (6, .int x6), (7, .long x7), (9, .int x9), (10, .int x10)] [] S) (k38 : St → Int32 → Int32 → Int32 → Int32 → Int32 → Int32 → Int64 → Int32 → Int32 → Int32 → Option (Int64 × St)) (hk38 : ∀ (S : St) (x1 : Int32) (x2 : Int32) (x3 : Int32) (x4 : Int32) (x5 : Int32) (x6 : Int32) (x7 : Int64) (x9 : Int32) (x10 : Int32) (x11 : Int32), k38 S x1 x2 x3 x4 x5 x6 x7 x9 x10 x11 = some (r, S') → Zj p l e rm9_oldWays s m args below meth c D cA σ shM 14 (some (.long r)) S' 38 [(0, .ref (σ 0)), (1, .int x1), (2, .int x2), (3, .int x3), (4, .int x4), (5, .int x5), (6, .int x6), (7, .long x7), (9, .int x9), (10, .int x10), (11, .int x11)] [] S) : ∀ (n : Nat) (S : St) (x1 : Int32) (x2 : Int32) (x3 : Int32) (x4 : Int32) (x5 : Int32) (x6 : Int32) (x7 : Int64) (x9 : Int32) (x10 : Int32) (x11 : Int32) (x12 : Int32), J9_oldWays_77 k6 k28 k38 n S x1 x2 x3 x4 x5 x6 x7 x9 x10 x11 x12 = some (r, S') → Zj p l e rm9_oldWays s m args below meth c D cA σ shM 14 (some (.long r)) S' 77 [(0, .ref (σ 0)), (1, .int x1), (2, .int x2), (3, .int x3), (4, .int x4), (5, .int x5), (6, .int x6), (7, .long x7), (9, .int x9), (10, .int x10), (11, .int x11), (12, .int x12)] [] S := by
  intro n
  induction n with
  | zero =>
    intro S x1 x2 x3 x4 x5 x6 x7 x9 x10 x11 x12 h
    rw [J9_oldWays_77] at h
    cases h
  | succ n ih =>
    intro S x1 x2 x3 x4 x5 x6 x7 x9 x10 x11 x12 h
    rw [J9_oldWays_77] at h
    refine z_iload (pc := 77) X dX9_oldWays_77 11 rfl ?_
    refine z_bipush (pc := 79) (v := 15) X dX9_oldWays_79 (by decide) ?_
    refine z_icmp_ge (pc := 81) (tgt := 181) X dX9_oldWays_81 (by decide) h (fun h => ?_) (fun h => ?_)
    · refine z_iinc (pc := 181) (k := 10) (v := 1) (L' := [(11, .int _), (0, .ref _), (1, .int _), (2, .int _), (3, .int _), (4, .int _), (5, .int _), (6, .int _), (7, .long _), (9, .int _), (10, .int _), (12, .int _)]) X dX9_oldWays_181 rfl (by decide) (by decide) rfl ?_
      refine z_let h (fun h => ?_)
      refine z_goto (pc := 184) (tgt := 38) X dX9_oldWays_184 (by decide) ?_
      exact z_sub [1, 2, 3, 4, 5, 6, 7, 8, 9, 10, 0] rfl (hk38 _ _ _ _ _ _ _ _ _ _ _ h)
    · refine z_iload (pc := 84) X dX9_oldWays_84 11 rfl ?_
      refine z_iload (pc := 86) X dX9_oldWays_86 9 rfl ?_
      refine z_icmp_ge (pc := 88) (tgt := 95) X dX9_oldWays_88 (by decide) h (fun h => ?_) (fun h => ?_)
      · refine z_iload (pc := 95) X dX9_oldWays_95 11 rfl ?_
        refine z_iload (pc := 97) X dX9_oldWays_97 9 rfl ?_
        refine z_icmp_ne (pc := 99) (tgt := 106) X dX9_oldWays_99 (by decide) h (fun h => ?_) (fun h => ?_)
        · refine z_iconst (pc := 106) (v := 4) X dX9_oldWays_106 (by decide) ?_
          exact z_sub [0, 1, 2, 3, 4, 5, 6, 7, 8, 9, 10, 11] rfl (zz9_oldWays_107 X _ hk6 _ hk28 _ hk38 _ ih _ _ _ _ _ _ _ _ _ _ _ _ _ h)
        · refine z_iconst (pc := 102) (v := 2) X dX9_oldWays_102 (by decide) ?_
          refine z_goto (pc := 103) (tgt := 107) X dX9_oldWays_103 (by decide) ?_
          exact z_sub [0, 1, 2, 3, 4, 5, 6, 7, 8, 9, 10, 11] rfl (zz9_oldWays_107 X _ hk6 _ hk28 _ hk38 _ ih _ _ _ _ _ _ _ _ _ _ _ _ _ h)
      · refine z_iconst (pc := 91) (v := 0) X dX9_oldWays_91 (by decide) ?_
        refine z_goto (pc := 92) (tgt := 107) X dX9_oldWays_92 (by decide) ?_
        exact z_sub [0, 1, 2, 3, 4, 5, 6, 7, 8, 9, 10, 11] rfl (zz9_oldWays_107 X _ hk6 _ hk28 _ hk38 _ ih _ _ _ _ _ _ _ _ _ _ _ _ _ h)
set_option maxRecDepth 100000 in
set_option maxHeartbeats 4000000 in
theorem zz9_oldWays_47 {S' : St} {r : Int64} (X : zM p s m args meth c D cA σ shM tS RX9 cX9_oldWays 14 (some .long)) (k6 : St → Int32 → Int32 → Int32 → Int32 → Int32 → Int32 → Int64 → Int32 → Option (Int64 × St)) (hk6 : ∀ (S : St) (x1 : Int32) (x2 : Int32) (x3 : Int32) (x4 : Int32) (x5 : Int32) (x6 : Int32) (x7 : Int64) (x9 : Int32), k6 S x1 x2 x3 x4 x5 x6 x7 x9 = some (r, S') → Zj p l e rm9_oldWays s m args below meth c D cA σ shM 14 (some (.long r)) S' 6 [(0, .ref (σ 0)), (1, .int x1), (2, .int x2), (3, .int x3), (4, .int x4), (5, .int x5), (6, .int x6), (7, .long x7), (9, .int x9)] [] S) (k28 : St → Int32 → Int32 → Int32 → Int32 → Int32 → Int32 → Int64 → Int32 → Int32 → Option (Int64 × St)) (hk28 : ∀ (S : St) (x1 : Int32) (x2 : Int32) (x3 : Int32) (x4 : Int32) (x5 : Int32) (x6 : Int32) (x7 : Int64) (x9 : Int32) (x10 : Int32), k28 S x1 x2 x3 x4 x5 x6 x7 x9 x10 = some (r, S') → Zj p l e rm9_oldWays s m args below meth c D cA σ shM 14 (some (.long r)) S' 28 [(0, .ref (σ 0)), (1, .int x1), (2, .int x2), (3, .int x3), (4, .int x4), (5, .int x5), (6, .int x6), (7, .long x7), (9, .int x9), (10, .int x10)] [] S) (k38 : St → Int32 → Int32 → Int32 → Int32 → Int32 → Int32 → Int64 → Int32 → Int32 → Int32 → Option (Int64 × St)) (hk38 : ∀ (S : St) (x1 : Int32) (x2 : Int32) (x3 : Int32) (x4 : Int32) (x5 : Int32) (x6 : Int32) (x7 : Int64) (x9 : Int32) (x10 : Int32) (x11 : Int32), k38 S x1 x2 x3 x4 x5 x6 x7 x9 x10 x11 = some (r, S') → Zj p l e rm9_oldWays s m args below meth c D cA σ shM 14 (some (.long r)) S' 38 [(0, .ref (σ 0)), (1, .int x1), (2, .int x2), (3, .int x3), (4, .int x4), (5, .int x5), (6, .int x6), (7, .long x7), (9, .int x9), (10, .int x10), (11, .int x11)] [] S) : ∀ (n : Nat) (S : St) (x1 : Int32) (x2 : Int32) (x3 : Int32) (x4 : Int32) (x5 : Int32) (x6 : Int32) (x7 : Int64) (x9 : Int32) (x10 : Int32) (x11 : Int32) (x12 : Int32), J9_oldWays_47 k6 k28 k38 n S x1 x2 x3 x4 x5 x6 x7 x9 x10 x11 x12 = some (r, S') → Zj p l e rm9_oldWays s m args below meth c D cA σ shM 14 (some (.long r)) S' 47 [(0, .ref (σ 0)), (1, .int x1), (2, .int x2), (3, .int x3), (4, .int x4), (5, .int x5), (6, .int x6), (7, .long x7), (9, .int x9), (10, .int x10), (11, .int x11), (12, .int x12)] [] S := by
  intro n
  induction n with
  | zero =>
    intro S x1 x2 x3 x4 x5 x6 x7 x9 x10 x11 x12 h
    rw [J9_oldWays_47] at h
    cases h
  | succ n ih =>
    intro S x1 x2 x3 x4 x5 x6 x7 x9 x10 x11 x12 h
    rw [J9_oldWays_47] at h
    refine z_iload (pc := 47) X dX9_oldWays_47 11 rfl ?_
    refine z_bipush (pc := 49) (v := 6) X dX9_oldWays_49 (by decide) ?_
    refine z_icmp_ge (pc := 51) (tgt := 74) X dX9_oldWays_51 (by decide) h (fun h => ?_) (fun h => ?_)
    · refine z_iconst (pc := 74) (v := 0) X dX9_oldWays_74 (by decide) ?_
      refine z_istore (pc := 75) (L' := [(12, .int _), (0, .ref _), (1, .int _), (2, .int _), (3, .int _), (4, .int _), (5, .int _), (6, .int _), (7, .long _), (9, .int _), (10, .int _), (11, .int _)]) X dX9_oldWays_75 (by decide) rfl ?_
      exact z_sub [1, 2, 3, 4, 5, 6, 7, 8, 9, 10, 11, 0] rfl (zz9_oldWays_77 X _ hk6 _ hk28 _ hk38 fu _ _ _ _ _ _ _ _ _ _ _ _ h)
    · refine z_aload_n (pc := 54) X dX9_oldWays_54 rfl 0 rfl ?_
      refine z_get (pc := 55) (v := .ref (σ 9)) X 0 fX9_75 rfl rfl dX9_oldWays_55 rfl ?_
      refine z_bipush (pc := 58) (v := 6) X dX9_oldWays_58 (by decide) ?_
      refine z_iload (pc := 60) X dX9_oldWays_60 10 rfl ?_
      refine z_imul (pc := 62) X dX9_oldWays_62 ?_
      refine z_iload (pc := 63) X dX9_oldWays_63 11 rfl ?_
      refine z_iadd (pc := 65) X dX9_oldWays_65 ?_
      refine z_lconst (pc := 66) (v := 0) X dX9_oldWays_66 (by decide) ?_
      refine z_last (pc := 67) X 9 rfl dX9_oldWays_67 h (fun h => ?_)
      refine z_let h (fun h => ?_)
      refine z_iinc (pc := 68) (k := 11) (v := 1) (L' := [(12, .int _), (0, .ref _), (1, .int _), (2, .int _), (3, .int _), (4, .int _), (5, .int _), (6, .int _), (7, .long _), (9, .int _), (10, .int _), (11, .int _)]) X dX9_oldWays_68 rfl (by decide) (by decide) rfl ?_
      refine z_let h (fun h => ?_)
      refine z_goto (pc := 71) (tgt := 47) X dX9_oldWays_71 (by decide) ?_
      exact z_sub [1, 2, 3, 4, 5, 6, 7, 8, 9, 10, 11, 0] rfl (ih _ _ _ _ _ _ _ _ _ _ _ _ h)
set_option maxRecDepth 100000 in
set_option maxHeartbeats 4000000 in
theorem zz9_oldWays_190 {S' : St} {r : Int64} (X : zM p s m args meth c D cA σ shM tS RX9 cX9_oldWays 14 (some .long)) (k6 : St → Int32 → Int32 → Int32 → Int32 → Int32 → Int32 → Int64 → Int32 → Option (Int64 × St)) (hk6 : ∀ (S : St) (x1 : Int32) (x2 : Int32) (x3 : Int32) (x4 : Int32) (x5 : Int32) (x6 : Int32) (x7 : Int64) (x9 : Int32), k6 S x1 x2 x3 x4 x5 x6 x7 x9 = some (r, S') → Zj p l e rm9_oldWays s m args below meth c D cA σ shM 14 (some (.long r)) S' 6 [(0, .ref (σ 0)), (1, .int x1), (2, .int x2), (3, .int x3), (4, .int x4), (5, .int x5), (6, .int x6), (7, .long x7), (9, .int x9)] [] S) (k28 : St → Int32 → Int32 → Int32 → Int32 → Int32 → Int32 → Int64 → Int32 → Int32 → Option (Int64 × St)) (hk28 : ∀ (S : St) (x1 : Int32) (x2 : Int32) (x3 : Int32) (x4 : Int32) (x5 : Int32) (x6 : Int32) (x7 : Int64) (x9 : Int32) (x10 : Int32), k28 S x1 x2 x3 x4 x5 x6 x7 x9 x10 = some (r, S') → Zj p l e rm9_oldWays s m args below meth c D cA σ shM 14 (some (.long r)) S' 28 [(0, .ref (σ 0)), (1, .int x1), (2, .int x2), (3, .int x3), (4, .int x4), (5, .int x5), (6, .int x6), (7, .long x7), (9, .int x9), (10, .int x10)] [] S) : ∀ (n : Nat) (S : St) (x1 : Int32) (x2 : Int32) (x3 : Int32) (x4 : Int32) (x5 : Int32) (x6 : Int32) (x7 : Int64) (x9 : Int32) (x10 : Int32) (x11 : Int32), J9_oldWays_190 k6 k28 n S x1 x2 x3 x4 x5 x6 x7 x9 x10 x11 = some (r, S') → Zj p l e rm9_oldWays s m args below meth c D cA σ shM 14 (some (.long r)) S' 190 [(0, .ref (σ 0)), (1, .int x1), (2, .int x2), (3, .int x3), (4, .int x4), (5, .int x5), (6, .int x6), (7, .long x7), (9, .int x9), (10, .int x10), (11, .int x11)] [] S := by
  intro n
  induction n with
  | zero =>
    intro S x1 x2 x3 x4 x5 x6 x7 x9 x10 x11 h
    rw [J9_oldWays_190] at h
    cases h
  | succ n ih =>
    intro S x1 x2 x3 x4 x5 x6 x7 x9 x10 x11 h
    rw [J9_oldWays_190] at h
    refine z_iload (pc := 190) X dX9_oldWays_190 10 rfl ?_
    refine z_iload_n (pc := 192) X dX9_oldWays_192 rfl 3 rfl ?_
    refine z_icmp_ge (pc := 193) (tgt := 216) X dX9_oldWays_193 (by decide) h (fun h => ?_) (fun h => ?_)
    · refine z_iinc (pc := 216) (k := 9) (v := 1) (L' := [(10, .int _), (0, .ref _), (1, .int _), (2, .int _), (3, .int _), (4, .int _), (5, .int _), (6, .int _), (7, .long _), (9, .int _), (11, .int _)]) X dX9_oldWays_216 rfl (by decide) (by decide) rfl ?_
      refine z_let h (fun h => ?_)
      refine z_goto (pc := 219) (tgt := 28) X dX9_oldWays_219 (by decide) ?_
      exact z_sub [1, 2, 3, 4, 5, 6, 7, 8, 9, 0] rfl (hk28 _ _ _ _ _ _ _ _ _ _ h)
    · refine z_lload (pc := 196) X dX9_oldWays_196 7 rfl ?_
      refine z_aload_n (pc := 198) X dX9_oldWays_198 rfl 0 rfl ?_
      refine z_iload_n (pc := 199) X dX9_oldWays_199 rfl 1 rfl ?_
      refine z_iload_n (pc := 200) X dX9_oldWays_200 rfl 2 rfl ?_
      refine z_iload_n (pc := 201) X dX9_oldWays_201 rfl 3 rfl ?_
      refine z_iload (pc := 202) X dX9_oldWays_202 10 rfl ?_
      refine z_callVl (pc := 204) (rm := rm9_ways) X 0 [.int _, .int _, .int _, .int _] vX9_188 rfl rfl rfl (Nat.le_of_ble_eq_true rfl) ⟨rfl, rfl, Nat.le_of_ble_eq_true rfl, Nat.le_of_ble_eq_true rfl⟩ dX9_oldWays_204 h (fun _ _ q => cc9_ways q) (fun r2 S2 h => ?_)
      refine z_ladd (pc := 207) X dX9_oldWays_207 ?_
      refine z_lstore (pc := 208) (L' := [(7, .long _), (0, .ref _), (1, .int _), (2, .int _), (3, .int _), (4, .int _), (5, .int _), (6, .int _), (9, .int _), (10, .int _), (11, .int _)]) X dX9_oldWays_208 (by decide) rfl ?_
      refine z_let h (fun h => ?_)
      refine z_iinc (pc := 210) (k := 10) (v := 1) (L' := [(11, .int _), (7, .long _), (0, .ref _), (1, .int _), (2, .int _), (3, .int _), (4, .int _), (5, .int _), (6, .int _), (9, .int _), (10, .int _)]) X dX9_oldWays_210 rfl (by decide) (by decide) rfl ?_
      refine z_let h (fun h => ?_)
      refine z_goto (pc := 213) (tgt := 190) X dX9_oldWays_213 (by decide) ?_
      exact z_sub [2, 3, 4, 5, 6, 7, 8, 1, 9, 10, 0] rfl (ih _ _ _ _ _ _ _ _ _ _ _ h)
set_option maxRecDepth 100000 in
set_option maxHeartbeats 4000000 in
theorem zz9_oldWays_38 {S' : St} {r : Int64} (X : zM p s m args meth c D cA σ shM tS RX9 cX9_oldWays 14 (some .long)) (k6 : St → Int32 → Int32 → Int32 → Int32 → Int32 → Int32 → Int64 → Int32 → Option (Int64 × St)) (hk6 : ∀ (S : St) (x1 : Int32) (x2 : Int32) (x3 : Int32) (x4 : Int32) (x5 : Int32) (x6 : Int32) (x7 : Int64) (x9 : Int32), k6 S x1 x2 x3 x4 x5 x6 x7 x9 = some (r, S') → Zj p l e rm9_oldWays s m args below meth c D cA σ shM 14 (some (.long r)) S' 6 [(0, .ref (σ 0)), (1, .int x1), (2, .int x2), (3, .int x3), (4, .int x4), (5, .int x5), (6, .int x6), (7, .long x7), (9, .int x9)] [] S) (k28 : St → Int32 → Int32 → Int32 → Int32 → Int32 → Int32 → Int64 → Int32 → Int32 → Option (Int64 × St)) (hk28 : ∀ (S : St) (x1 : Int32) (x2 : Int32) (x3 : Int32) (x4 : Int32) (x5 : Int32) (x6 : Int32) (x7 : Int64) (x9 : Int32) (x10 : Int32), k28 S x1 x2 x3 x4 x5 x6 x7 x9 x10 = some (r, S') → Zj p l e rm9_oldWays s m args below meth c D cA σ shM 14 (some (.long r)) S' 28 [(0, .ref (σ 0)), (1, .int x1), (2, .int x2), (3, .int x3), (4, .int x4), (5, .int x5), (6, .int x6), (7, .long x7), (9, .int x9), (10, .int x10)] [] S) : ∀ (n : Nat) (S : St) (x1 : Int32) (x2 : Int32) (x3 : Int32) (x4 : Int32) (x5 : Int32) (x6 : Int32) (x7 : Int64) (x9 : Int32) (x10 : Int32) (x11 : Int32), J9_oldWays_38 k6 k28 n S x1 x2 x3 x4 x5 x6 x7 x9 x10 x11 = some (r, S') → Zj p l e rm9_oldWays s m args below meth c D cA σ shM 14 (some (.long r)) S' 38 [(0, .ref (σ 0)), (1, .int x1), (2, .int x2), (3, .int x3), (4, .int x4), (5, .int x5), (6, .int x6), (7, .long x7), (9, .int x9), (10, .int x10), (11, .int x11)] [] S := by
  intro n
  induction n with
  | zero =>
    intro S x1 x2 x3 x4 x5 x6 x7 x9 x10 x11 h
    rw [J9_oldWays_38] at h
    cases h
  | succ n ih =>
    intro S x1 x2 x3 x4 x5 x6 x7 x9 x10 x11 h
    rw [J9_oldWays_38] at h
    refine z_iload (pc := 38) X dX9_oldWays_38 10 rfl ?_
    refine z_iconst (pc := 40) (v := 3) X dX9_oldWays_40 (by decide) ?_
    refine z_icmp_ge (pc := 41) (tgt := 187) X dX9_oldWays_41 (by decide) h (fun h => ?_) (fun h => ?_)
    · refine z_iconst (pc := 187) (v := 0) X dX9_oldWays_187 (by decide) ?_
      refine z_istore (pc := 188) (L' := [(11, .int _), (0, .ref _), (1, .int _), (2, .int _), (3, .int _), (4, .int _), (5, .int _), (6, .int _), (7, .long _), (9, .int _), (10, .int _)]) X dX9_oldWays_188 (by decide) rfl ?_
      exact z_sub [1, 2, 3, 4, 5, 6, 7, 8, 9, 10, 0] rfl (zz9_oldWays_190 X _ hk6 _ hk28 fu _ _ _ _ _ _ _ _ _ _ _ h)
    · refine z_iconst (pc := 44) (v := 0) X dX9_oldWays_44 (by decide) ?_
      refine z_istore (pc := 45) (L' := [(12, .int _), (0, .ref _), (1, .int _), (2, .int _), (3, .int _), (4, .int _), (5, .int _), (6, .int _), (7, .long _), (9, .int _), (10, .int _), (11, .int _)]) X dX9_oldWays_45 (by decide) rfl ?_
      exact z_sub [1, 2, 3, 4, 5, 6, 7, 8, 9, 10, 11, 0] rfl (zz9_oldWays_47 X _ hk6 _ hk28 _ ih fu _ _ _ _ _ _ _ _ _ _ _ _ h)
set_option maxRecDepth 100000 in
set_option maxHeartbeats 4000000 in
theorem zz9_oldWays_28 {S' : St} {r : Int64} (X : zM p s m args meth c D cA σ shM tS RX9 cX9_oldWays 14 (some .long)) (k6 : St → Int32 → Int32 → Int32 → Int32 → Int32 → Int32 → Int64 → Int32 → Option (Int64 × St)) (hk6 : ∀ (S : St) (x1 : Int32) (x2 : Int32) (x3 : Int32) (x4 : Int32) (x5 : Int32) (x6 : Int32) (x7 : Int64) (x9 : Int32), k6 S x1 x2 x3 x4 x5 x6 x7 x9 = some (r, S') → Zj p l e rm9_oldWays s m args below meth c D cA σ shM 14 (some (.long r)) S' 6 [(0, .ref (σ 0)), (1, .int x1), (2, .int x2), (3, .int x3), (4, .int x4), (5, .int x5), (6, .int x6), (7, .long x7), (9, .int x9)] [] S) : ∀ (n : Nat) (S : St) (x1 : Int32) (x2 : Int32) (x3 : Int32) (x4 : Int32) (x5 : Int32) (x6 : Int32) (x7 : Int64) (x9 : Int32) (x10 : Int32), J9_oldWays_28 k6 n S x1 x2 x3 x4 x5 x6 x7 x9 x10 = some (r, S') → Zj p l e rm9_oldWays s m args below meth c D cA σ shM 14 (some (.long r)) S' 28 [(0, .ref (σ 0)), (1, .int x1), (2, .int x2), (3, .int x3), (4, .int x4), (5, .int x5), (6, .int x6), (7, .long x7), (9, .int x9), (10, .int x10)] [] S := by
  intro n
  induction n with
  | zero =>
    intro S x1 x2 x3 x4 x5 x6 x7 x9 x10 h
    rw [J9_oldWays_28] at h
    cases h
  | succ n ih =>
    intro S x1 x2 x3 x4 x5 x6 x7 x9 x10 h
    rw [J9_oldWays_28] at h
    refine z_iload (pc := 28) X dX9_oldWays_28 9 rfl ?_
    refine z_bipush (pc := 30) (v := 15) X dX9_oldWays_30 (by decide) ?_
    refine z_icmp_ge (pc := 32) (tgt := 222) X dX9_oldWays_32 (by decide) h (fun h => ?_) (fun h => ?_)
    · refine z_iinc (pc := 222) (k := 8) (v := 1) (L' := [(9, .int _), (0, .ref _), (1, .int _), (2, .int _), (3, .int _), (4, .int _), (5, .int _), (6, .int _), (7, .long _), (10, .int _)]) X dX9_oldWays_222 rfl (by decide) (by decide) rfl ?_
      refine z_let h (fun h => ?_)
      refine z_goto (pc := 225) (tgt := 6) X dX9_oldWays_225 (by decide) ?_
      exact z_sub [1, 2, 3, 4, 5, 6, 7, 8, 0] rfl (hk6 _ _ _ _ _ _ _ _ _ h)
    · refine z_iconst (pc := 35) (v := 0) X dX9_oldWays_35 (by decide) ?_
      refine z_istore (pc := 36) (L' := [(11, .int _), (0, .ref _), (1, .int _), (2, .int _), (3, .int _), (4, .int _), (5, .int _), (6, .int _), (7, .long _), (9, .int _), (10, .int _)]) X dX9_oldWays_36 (by decide) rfl ?_
      exact z_sub [1, 2, 3, 4, 5, 6, 7, 8, 9, 10, 0] rfl (zz9_oldWays_38 X _ hk6 _ ih fu _ _ _ _ _ _ _ _ _ _ _ h)
set_option maxRecDepth 100000 in
set_option maxHeartbeats 4000000 in
theorem zz9_oldWays_6 {S' : St} {r : Int64} (X : zM p s m args meth c D cA σ shM tS RX9 cX9_oldWays 14 (some .long)) : ∀ (n : Nat) (S : St) (x1 : Int32) (x2 : Int32) (x3 : Int32) (x4 : Int32) (x5 : Int32) (x6 : Int32) (x7 : Int64) (x9 : Int32), J9_oldWays_6 n S x1 x2 x3 x4 x5 x6 x7 x9 = some (r, S') → Zj p l e rm9_oldWays s m args below meth c D cA σ shM 14 (some (.long r)) S' 6 [(0, .ref (σ 0)), (1, .int x1), (2, .int x2), (3, .int x3), (4, .int x4), (5, .int x5), (6, .int x6), (7, .long x7), (9, .int x9)] [] S := by
  intro n
  induction n with
  | zero =>
    intro S x1 x2 x3 x4 x5 x6 x7 x9 h
    rw [J9_oldWays_6] at h
    cases h
  | succ n ih =>
    intro S x1 x2 x3 x4 x5 x6 x7 x9 h
    rw [J9_oldWays_6] at h
    refine z_iload (pc := 6) X dX9_oldWays_6 8 rfl ?_
    refine z_bipush (pc := 8) (v := 15) X dX9_oldWays_8 (by decide) ?_
    refine z_icmp_ge (pc := 10) (tgt := 228) X dX9_oldWays_10 (by decide) h (fun h => ?_) (fun h => ?_)
    · refine z_lload (pc := 228) X dX9_oldWays_228 7 rfl ?_
      exact z_lret X rfl dX9_oldWays_230 h
    · refine z_aload_n (pc := 13) X dX9_oldWays_13 rfl 0 rfl ?_
      refine z_iload (pc := 14) X dX9_oldWays_14 8 rfl ?_
      refine z_iload (pc := 16) X dX9_oldWays_16 4 rfl ?_
      refine z_iload (pc := 18) X dX9_oldWays_18 5 rfl ?_
      refine z_iload (pc := 20) X dX9_oldWays_20 6 rfl ?_
      refine z_callVv (pc := 22) (rm := rm9_look) X 0 [.int _, .int _, .int _, .int _] vX9_184 rfl rfl rfl (Nat.le_of_ble_eq_true rfl) ⟨rfl, rfl, Nat.le_of_ble_eq_true rfl, Nat.le_of_ble_eq_true rfl⟩ dX9_oldWays_22 h (fun _ _ q => cc9_look q) (fun _ S1 h => ?_)
      refine z_iconst (pc := 25) (v := 0) X dX9_oldWays_25 (by decide) ?_
      refine z_istore (pc := 26) (L' := [(10, .int _), (0, .ref _), (1, .int _), (2, .int _), (3, .int _), (4, .int _), (5, .int _), (6, .int _), (7, .long _), (9, .int _)]) X dX9_oldWays_26 (by decide) rfl ?_
      exact z_sub [1, 2, 3, 4, 5, 6, 7, 8, 9, 0] rfl (zz9_oldWays_28 X _ ih fu _ _ _ _ _ _ _ _ _ _ h)
set_option maxRecDepth 100000 in
set_option maxHeartbeats 4000000 in
theorem zz9_oldWays_0 {S' : St} {r : Int64} (X : zM p s m args meth c D cA σ shM tS RX9 cX9_oldWays 14 (some .long)) : ∀ (S : St) (x1 : Int32) (x2 : Int32) (x3 : Int32) (x4 : Int32) (x5 : Int32) (x6 : Int32), J9_oldWays S x1 x2 x3 x4 x5 x6 = some (r, S') → Zj p l e rm9_oldWays s m args below meth c D cA σ shM 14 (some (.long r)) S' 0 [(0, .ref (σ 0)), (1, .int x1), (2, .int x2), (3, .int x3), (4, .int x4), (5, .int x5), (6, .int x6)] [] S := by
  intro S x1 x2 x3 x4 x5 x6 h
  rw [J9_oldWays] at h
  refine z_lconst (pc := 0) (v := 0) X dX9_oldWays_0 (by decide) ?_
  refine z_lstore (pc := 1) (L' := [(7, .long _), (0, .ref _), (1, .int _), (2, .int _), (3, .int _), (4, .int _), (5, .int _), (6, .int _)]) X dX9_oldWays_1 (by decide) rfl ?_
  refine z_iconst (pc := 3) (v := 0) X dX9_oldWays_3 (by decide) ?_
  refine z_istore (pc := 4) (L' := [(9, .int _), (7, .long _), (0, .ref _), (1, .int _), (2, .int _), (3, .int _), (4, .int _), (5, .int _), (6, .int _)]) X dX9_oldWays_4 (by decide) rfl ?_
  exact z_sub [2, 3, 4, 5, 6, 7, 8, 1, 0] rfl (zz9_oldWays_6 X  fu _ _ _ _ _ _ _ _ _ h)
theorem cc9_oldWays {l : Launch} {D : va_G} {cA : Nat → ClassId} {σ : Nat → Nat} {tS : Nat} {S S' : St} {x1 : Int32} {x2 : Int32} {x3 : Int32} {x4 : Int32} {x5 : Int32} {x6 : Int32} {r : Int64} (h : J9_oldWays S x1 x2 x3 x4 x5 x6 = some (r, S')) : zMet l D cA σ shM tS yX9_oldWays cX9_oldWays 14 (some .long) rm9_oldWays [.ref (σ 0), .int x1, .int x2, .int x3, .int x4, .int x5, .int x6] S (some (.long r)) S' := z_met [(0, .ref (σ 0)), (1, .int x1), (2, .int x2), (3, .int x3), (4, .int x4), (5, .int x5), (6, .int x6)] (by decide +kernel) (Nat.le_of_ble_eq_true rfl) rfl (fun _ _ _ _ _ _ _ _ X => zz9_oldWays_0 X _ _ _ _ _ _ _ h)
set_option maxRecDepth 100000 in
set_option maxHeartbeats 4000000 in
theorem zz9_refuse_0 {S' : St} {r : Int32} (X : zM p s m args meth c D cA σ shM tS RX9 cX9_refuse 2 (some .int)) : ∀ (S : St) (x1 : Int32), J9_refuse S x1 = some (r, S') → Zj p l e rm9_refuse s m args below meth c D cA σ shM 2 (some (.int r)) S' 0 [(0, .ref (σ 0)), (1, .int x1)] [] S := by
  intro S x1 h
  rw [J9_refuse] at h
  refine z_aload_n (pc := 0) X dX9_refuse_0 rfl 0 rfl ?_
  refine z_iload_n (pc := 1) X dX9_refuse_1 rfl 1 rfl ?_
  refine z_putI (pc := 2) X 0 gX9_1 rfl rfl dX9_refuse_2 ?_
  refine z_let h (fun h => ?_)
  refine z_iconst (pc := 5) (v := -1) X dX9_refuse_5 (by decide) ?_
  exact z_iret X rfl dX9_refuse_6 h
theorem cc9_refuse {l : Launch} {D : va_G} {cA : Nat → ClassId} {σ : Nat → Nat} {tS : Nat} {S S' : St} {x1 : Int32} {r : Int32} (h : J9_refuse S x1 = some (r, S')) : zMet l D cA σ shM tS yX9_refuse cX9_refuse 2 (some .int) rm9_refuse [.ref (σ 0), .int x1] S (some (.int r)) S' := z_met [(0, .ref (σ 0)), (1, .int x1)] (by decide +kernel) (Nat.le_of_ble_eq_true rfl) rfl (fun _ _ _ _ _ _ _ _ X => zz9_refuse_0 X _ _ h)
set_option maxRecDepth 100000 in
set_option maxHeartbeats 4000000 in
theorem zz9_choose_261 {S' : St} {r : Int32} (X : zM p s m args meth c D cA σ shM tS RX9 cX9_choose 19 (some .int)) (k143 : St → Int32 → Int32 → Int32 → Int32 → Int32 → Int32 → Int32 → Int32 → Int32 → Int32 → Int32 → Int32 → Option (Int32 × St)) (hk143 : ∀ (S : St) (x1 : Int32) (x2 : Int32) (x3 : Int32) (x4 : Int32) (x5 : Int32) (x6 : Int32) (x7 : Int32) (x8 : Int32) (x9 : Int32) (x11 : Int32) (x12 : Int32) (x13 : Int32), k143 S x1 x2 x3 x4 x5 x6 x7 x8 x9 x11 x12 x13 = some (r, S') → Zj p l e rm9_choose s m args below meth c D cA σ shM 19 (some (.int r)) S' 143 [(0, .ref (σ 0)), (1, .int x1), (2, .int x2), (3, .int x3), (4, .int x4), (5, .int x5), (6, .int x6), (7, .int x7), (8, .int x8), (9, .int x9), (11, .int x11), (12, .int x12), (13, .int x13)] [] S) (k161 : St → Int32 → Int32 → Int32 → Int32 → Int32 → Int32 → Int32 → Int32 → Int32 → Int32 → Int32 → Int32 → Int64 → Int32 → Option (Int32 × St)) (hk161 : ∀ (S : St) (x1 : Int32) (x2 : Int32) (x3 : Int32) (x4 : Int32) (x5 : Int32) (x6 : Int32) (x7 : Int32) (x8 : Int32) (x9 : Int32) (x11 : Int32) (x12 : Int32) (x13 : Int32) (x14 : Int64) (x16 : Int32), k161 S x1 x2 x3 x4 x5 x6 x7 x8 x9 x11 x12 x13 x14 x16 = some (r, S') → Zj p l e rm9_choose s m args below meth c D cA σ shM 19 (some (.int r)) S' 161 [(0, .ref (σ 0)), (1, .int x1), (2, .int x2), (3, .int x3), (4, .int x4), (5, .int x5), (6, .int x6), (7, .int x7), (8, .int x8), (9, .int x9), (11, .int x11), (12, .int x12), (13, .int x13), (14, .long x14), (16, .int x16)] [] S) (k171 : St → Int32 → Int32 → Int32 → Int32 → Int32 → Int32 → Int32 → Int32 → Int32 → Int32 → Int32 → Int32 → Int64 → Int32 → Int32 → Option (Int32 × St)) (hk171 : ∀ (S : St) (x1 : Int32) (x2 : Int32) (x3 : Int32) (x4 : Int32) (x5 : Int32) (x6 : Int32) (x7 : Int32) (x8 : Int32) (x9 : Int32) (x11 : Int32) (x12 : Int32) (x13 : Int32) (x14 : Int64) (x16 : Int32) (x17 : Int32), k171 S x1 x2 x3 x4 x5 x6 x7 x8 x9 x11 x12 x13 x14 x16 x17 = some (r, S') → Zj p l e rm9_choose s m args below meth c D cA σ shM 19 (some (.int r)) S' 171 [(0, .ref (σ 0)), (1, .int x1), (2, .int x2), (3, .int x3), (4, .int x4), (5, .int x5), (6, .int x6), (7, .int x7), (8, .int x8), (9, .int x9), (11, .int x11), (12, .int x12), (13, .int x13), (14, .long x14), (16, .int x16), (17, .int x17)] [] S) : ∀ (S : St) (x1 : Int32) (x2 : Int32) (x3 : Int32) (x4 : Int32) (x5 : Int32) (x6 : Int32) (x7 : Int32) (x8 : Int32) (x9 : Int32) (x11 : Int32) (x12 : Int32) (x13 : Int32) (x14 : Int64) (x16 : Int32) (x17 : Int32), J9_choose_261 k143 k161 k171 S x1 x2 x3 x4 x5 x6 x7 x8 x9 x11 x12 x13 x14 x16 x17 = some (r, S') → Zj p l e rm9_choose s m args below meth c D cA σ shM 19 (some (.int r)) S' 261 [(0, .ref (σ 0)), (1, .int x1), (2, .int x2), (3, .int x3), (4, .int x4), (5, .int x5), (6, .int x6), (7, .int x7), (8, .int x8), (9, .int x9), (11, .int x11), (12, .int x12), (13, .int x13), (14, .long x14), (16, .int x16), (17, .int x17)] [] S := by
  intro S x1 x2 x3 x4 x5 x6 x7 x8 x9 x11 x12 x13 x14 x16 x17 h
  rw [J9_choose_261] at h
  refine z_iinc (pc := 261) (k := 15) (v := 1) (L' := [(17, .int _), (0, .ref _), (1, .int _), (2, .int _), (3, .int _), (4, .int _), (5, .int _), (6, .int _), (7, .int _), (8, .int _), (9, .int _), (11, .int _), (12, .int _), (13, .int _), (14, .long _), (16, .int _)]) X dX9_choose_261 rfl (by decide) (by decide) rfl ?_
  refine z_let h (fun h => ?_)
  refine z_goto (pc := 264) (tgt := 171) X dX9_choose_264 (by decide) ?_
  exact z_sub [1, 2, 3, 4, 5, 6, 7, 8, 9, 10, 11, 12, 13, 14, 15, 0] rfl (hk171 _ _ _ _ _ _ _ _ _ _ _ _ _ _ _ _ h)
set_option maxRecDepth 100000 in
set_option maxHeartbeats 4000000 in
theorem zz9_choose_210 {S' : St} {r : Int32} (X : zM p s m args meth c D cA σ shM tS RX9 cX9_choose 19 (some .int)) (k143 : St → Int32 → Int32 → Int32 → Int32 → Int32 → Int32 → Int32 → Int32 → Int32 → Int32 → Int32 → Int32 → Option (Int32 × St)) (hk143 : ∀ (S : St) (x1 : Int32) (x2 : Int32) (x3 : Int32) (x4 : Int32) (x5 : Int32) (x6 : Int32) (x7 : Int32) (x8 : Int32) (x9 : Int32) (x11 : Int32) (x12 : Int32) (x13 : Int32), k143 S x1 x2 x3 x4 x5 x6 x7 x8 x9 x11 x12 x13 = some (r, S') → Zj p l e rm9_choose s m args below meth c D cA σ shM 19 (some (.int r)) S' 143 [(0, .ref (σ 0)), (1, .int x1), (2, .int x2), (3, .int x3), (4, .int x4), (5, .int x5), (6, .int x6), (7, .int x7), (8, .int x8), (9, .int x9), (11, .int x11), (12, .int x12), (13, .int x13)] [] S) (k161 : St → Int32 → Int32 → Int32 → Int32 → Int32 → Int32 → Int32 → Int32 → Int32 → Int32 → Int32 → Int32 → Int64 → Int32 → Option (Int32 × St)) (hk161 : ∀ (S : St) (x1 : Int32) (x2 : Int32) (x3 : Int32) (x4 : Int32) (x5 : Int32) (x6 : Int32) (x7 : Int32) (x8 : Int32) (x9 : Int32) (x11 : Int32) (x12 : Int32) (x13 : Int32) (x14 : Int64) (x16 : Int32), k161 S x1 x2 x3 x4 x5 x6 x7 x8 x9 x11 x12 x13 x14 x16 = some (r, S') → Zj p l e rm9_choose s m args below meth c D cA σ shM 19 (some (.int r)) S' 161 [(0, .ref (σ 0)), (1, .int x1), (2, .int x2), (3, .int x3), (4, .int x4), (5, .int x5), (6, .int x6), (7, .int x7), (8, .int x8), (9, .int x9), (11, .int x11), (12, .int x12), (13, .int x13), (14, .long x14), (16, .int x16)] [] S) (k171 : St → Int32 → Int32 → Int32 → Int32 → Int32 → Int32 → Int32 → Int32 → Int32 → Int32 → Int32 → Int32 → Int64 → Int32 → Int32 → Option (Int32 × St)) (hk171 : ∀ (S : St) (x1 : Int32) (x2 : Int32) (x3 : Int32) (x4 : Int32) (x5 : Int32) (x6 : Int32) (x7 : Int32) (x8 : Int32) (x9 : Int32) (x11 : Int32) (x12 : Int32) (x13 : Int32) (x14 : Int64) (x16 : Int32) (x17 : Int32), k171 S x1 x2 x3 x4 x5 x6 x7 x8 x9 x11 x12 x13 x14 x16 x17 = some (r, S') → Zj p l e rm9_choose s m args below meth c D cA σ shM 19 (some (.int r)) S' 171 [(0, .ref (σ 0)), (1, .int x1), (2, .int x2), (3, .int x3), (4, .int x4), (5, .int x5), (6, .int x6), (7, .int x7), (8, .int x8), (9, .int x9), (11, .int x11), (12, .int x12), (13, .int x13), (14, .long x14), (16, .int x16), (17, .int x17)] [] S) : ∀ (S : St) (x1 : Int32) (x2 : Int32) (x3 : Int32) (x4 : Int32) (x5 : Int32) (x6 : Int32) (x7 : Int32) (x8 : Int32) (x9 : Int32) (x11 : Int32) (x12 : Int32) (x13 : Int32) (x14 : Int64) (x16 : Int32) (x17 : Int32) (x18 : Int32), J9_choose_210 k143 k161 k171 S x1 x2 x3 x4 x5 x6 x7 x8 x9 x11 x12 x13 x14 x16 x17 x18 = some (r, S') → Zj p l e rm9_choose s m args below meth c D cA σ shM 19 (some (.int r)) S' 210 [(0, .ref (σ 0)), (1, .int x1), (2, .int x2), (3, .int x3), (4, .int x4), (5, .int x5), (6, .int x6), (7, .int x7), (8, .int x8), (9, .int x9), (11, .int x11), (12, .int x12), (13, .int x13), (14, .long x14), (16, .int x16), (17, .int x17), (18, .int x18)] [] S := by
  intro S x1 x2 x3 x4 x5 x6 x7 x8 x9 x11 x12 x13 x14 x16 x17 x18 h
  rw [J9_choose_210] at h
  refine z_aload_n (pc := 210) X dX9_choose_210 rfl 0 rfl ?_
  refine z_iload (pc := 211) X dX9_choose_211 12 rfl ?_
  refine z_iload (pc := 213) X dX9_choose_213 14 rfl ?_
  refine z_iload (pc := 215) X dX9_choose_215 15 rfl ?_
  refine z_iload_n (pc := 217) X dX9_choose_217 rfl 2 rfl ?_
  refine z_iload_n (pc := 218) X dX9_choose_218 rfl 3 rfl ?_
  refine z_iload (pc := 219) X dX9_choose_219 4 rfl ?_
  refine z_callVl (pc := 221) (rm := rm9_oldWays) X 0 [.int _, .int _, .int _, .int _, .int _, .int _] vX9_199 rfl rfl rfl (Nat.le_of_ble_eq_true rfl) ⟨rfl, rfl, Nat.le_of_ble_eq_true rfl, Nat.le_of_ble_eq_true rfl⟩ dX9_choose_221 h (fun _ _ q => cc9_oldWays q) (fun r1 S1 h => ?_)
  refine z_lload (pc := 224) X dX9_choose_224 13 rfl ?_
  refine z_iload (pc := 226) X dX9_choose_226 5 rfl ?_
  refine z_i2l (pc := 228) X dX9_choose_228 ?_
  refine z_iload (pc := 229) X dX9_choose_229 6 rfl ?_
  refine z_i2l (pc := 231) X dX9_choose_231 ?_
  refine z_callSi (pc := 232) (rm := rm9_isAbove) X [.long _, .long _, .long _, .long _] sX9_204 rfl rfl (Nat.le_of_ble_eq_true rfl) ⟨rfl, rfl, Nat.le_of_ble_eq_true rfl, Nat.le_of_ble_eq_true rfl⟩ dX9_choose_232 h (fun _ _ q => cc9_isAbove q) (fun r2 S2 h => ?_)
  refine z_if_eq (pc := 235) (tgt := 241) X dX9_choose_235 (by decide) h (fun h => ?_) (fun h => ?_)
  · refine z_bipush (pc := 241) (v := 100) X dX9_choose_241 (by decide) ?_
    refine z_iload (pc := 243) X dX9_choose_243 12 rfl ?_
    refine z_imul (pc := 245) X dX9_choose_245 ?_
    refine z_bipush (pc := 246) (v := 10) X dX9_choose_246 (by decide) ?_
    refine z_iload (pc := 248) X dX9_choose_248 14 rfl ?_
    refine z_imul (pc := 250) X dX9_choose_250 ?_
    refine z_iadd (pc := 251) X dX9_choose_251 ?_
    refine z_iload (pc := 252) X dX9_choose_252 15 rfl ?_
    refine z_iadd (pc := 254) X dX9_choose_254 ?_
    refine z_istore (pc := 255) (L' := [(11, .int _), (0, .ref _), (1, .int _), (2, .int _), (3, .int _), (4, .int _), (5, .int _), (6, .int _), (7, .int _), (8, .int _), (9, .int _), (12, .int _), (13, .int _), (14, .long _), (16, .int _), (17, .int _), (18, .int _)]) X dX9_choose_255 (by decide) rfl ?_
    refine z_let h (fun h => ?_)
    refine z_iload (pc := 257) X dX9_choose_257 16 rfl ?_
    refine z_istore (pc := 259) (L' := [(12, .int _), (11, .int _), (0, .ref _), (1, .int _), (2, .int _), (3, .int _), (4, .int _), (5, .int _), (6, .int _), (7, .int _), (8, .int _), (9, .int _), (13, .int _), (14, .long _), (16, .int _), (17, .int _), (18, .int _)]) X dX9_choose_259 (by decide) rfl ?_
    exact z_sub [2, 3, 4, 5, 6, 7, 8, 9, 10, 11, 1, 0, 12, 13, 14, 15] rfl (zz9_choose_261 X _ hk143 _ hk161 _ hk171 _ _ _ _ _ _ _ _ _ _ _ _ _ _ _ _ h)
  · refine z_goto (pc := 238) (tgt := 261) X dX9_choose_238 (by decide) ?_
    exact z_sub [0, 1, 2, 3, 4, 5, 6, 7, 8, 9, 10, 11, 12, 13, 14, 15] rfl (zz9_choose_261 X _ hk143 _ hk161 _ hk171 _ _ _ _ _ _ _ _ _ _ _ _ _ _ _ _ h)
set_option maxRecDepth 100000 in
set_option maxHeartbeats 4000000 in
theorem zz9_choose_171 {S' : St} {r : Int32} (X : zM p s m args meth c D cA σ shM tS RX9 cX9_choose 19 (some .int)) (k143 : St → Int32 → Int32 → Int32 → Int32 → Int32 → Int32 → Int32 → Int32 → Int32 → Int32 → Int32 → Int32 → Option (Int32 × St)) (hk143 : ∀ (S : St) (x1 : Int32) (x2 : Int32) (x3 : Int32) (x4 : Int32) (x5 : Int32) (x6 : Int32) (x7 : Int32) (x8 : Int32) (x9 : Int32) (x11 : Int32) (x12 : Int32) (x13 : Int32), k143 S x1 x2 x3 x4 x5 x6 x7 x8 x9 x11 x12 x13 = some (r, S') → Zj p l e rm9_choose s m args below meth c D cA σ shM 19 (some (.int r)) S' 143 [(0, .ref (σ 0)), (1, .int x1), (2, .int x2), (3, .int x3), (4, .int x4), (5, .int x5), (6, .int x6), (7, .int x7), (8, .int x8), (9, .int x9), (11, .int x11), (12, .int x12), (13, .int x13)] [] S) (k161 : St → Int32 → Int32 → Int32 → Int32 → Int32 → Int32 → Int32 → Int32 → Int32 → Int32 → Int32 → Int32 → Int64 → Int32 → Option (Int32 × St)) (hk161 : ∀ (S : St) (x1 : Int32) (x2 : Int32) (x3 : Int32) (x4 : Int32) (x5 : Int32) (x6 : Int32) (x7 : Int32) (x8 : Int32) (x9 : Int32) (x11 : Int32) (x12 : Int32) (x13 : Int32) (x14 : Int64) (x16 : Int32), k161 S x1 x2 x3 x4 x5 x6 x7 x8 x9 x11 x12 x13 x14 x16 = some (r, S') → Zj p l e rm9_choose s m args below meth c D cA σ shM 19 (some (.int r)) S' 161 [(0, .ref (σ 0)), (1, .int x1), (2, .int x2), (3, .int x3), (4, .int x4), (5, .int x5), (6, .int x6), (7, .int x7), (8, .int x8), (9, .int x9), (11, .int x11), (12, .int x12), (13, .int x13), (14, .long x14), (16, .int x16)] [] S) : ∀ (n : Nat) (S : St) (x1 : Int32) (x2 : Int32) (x3 : Int32) (x4 : Int32) (x5 : Int32) (x6 : Int32) (x7 : Int32) (x8 : Int32) (x9 : Int32) (x11 : Int32) (x12 : Int32) (x13 : Int32) (x14 : Int64) (x16 : Int32) (x17 : Int32), J9_choose_171 k143 k161 n S x1 x2 x3 x4 x5 x6 x7 x8 x9 x11 x12 x13 x14 x16 x17 = some (r, S') → Zj p l e rm9_choose s m args below meth c D cA σ shM 19 (some (.int r)) S' 171 [(0, .ref (σ 0)), (1, .int x1), (2, .int x2), (3, .int x3), (4, .int x4), (5, .int x5), (6, .int x6), (7, .int x7), (8, .int x8), (9, .int x9), (11, .int x11), (12, .int x12), (13, .int x13), (14, .long x14), (16, .int x16), (17, .int x17)] [] S := by
  intro n
  induction n with
  | zero =>
    intro S x1 x2 x3 x4 x5 x6 x7 x8 x9 x11 x12 x13 x14 x16 x17 h
    rw [J9_choose_171] at h
    cases h
  | succ n ih =>
    intro S x1 x2 x3 x4 x5 x6 x7 x8 x9 x11 x12 x13 x14 x16 x17 h
    rw [J9_choose_171] at h
    refine z_iload (pc := 171) X dX9_choose_171 15 rfl ?_
    refine z_iload (pc := 173) X dX9_choose_173 12 rfl ?_
    refine z_icmp_gt (pc := 175) (tgt := 267) X dX9_choose_175 (by decide) h (fun h => ?_) (fun h => ?_)
    · refine z_iinc (pc := 267) (k := 14) (v := 1) (L' := [(16, .int _), (0, .ref _), (1, .int _), (2, .int _), (3, .int _), (4, .int _), (5, .int _), (6, .int _), (7, .int _), (8, .int _), (9, .int _), (11, .int _), (12, .int _), (13, .int _), (14, .long _), (17, .int _)]) X dX9_choose_267 rfl (by decide) (by decide) rfl ?_
      refine z_let h (fun h => ?_)
      refine z_goto (pc := 270) (tgt := 161) X dX9_choose_270 (by decide) ?_
      exact z_sub [1, 2, 3, 4, 5, 6, 7, 8, 9, 10, 11, 12, 13, 14, 0] rfl (hk161 _ _ _ _ _ _ _ _ _ _ _ _ _ _ _ h)
    · refine z_iload (pc := 178) X dX9_choose_178 12 rfl ?_
      refine z_iload (pc := 180) X dX9_choose_180 7 rfl ?_
      refine z_imul (pc := 182) X dX9_choose_182 ?_
      refine z_iload (pc := 183) X dX9_choose_183 14 rfl ?_
      refine z_iload (pc := 185) X dX9_choose_185 8 rfl ?_
      refine z_imul (pc := 187) X dX9_choose_187 ?_
      refine z_iadd (pc := 188) X dX9_choose_188 ?_
      refine z_iload (pc := 189) X dX9_choose_189 15 rfl ?_
      refine z_iload (pc := 191) X dX9_choose_191 9 rfl ?_
      refine z_imul (pc := 193) X dX9_choose_193 ?_
      refine z_iadd (pc := 194) X dX9_choose_194 ?_
      refine z_istore (pc := 195) (L' := [(18, .int _), (0, .ref _), (1, .int _), (2, .int _), (3, .int _), (4, .int _), (5, .int _), (6, .int _), (7, .int _), (8, .int _), (9, .int _), (11, .int _), (12, .int _), (13, .int _), (14, .long _), (16, .int _), (17, .int _)]) X dX9_choose_195 (by decide) rfl ?_
      refine z_let h (fun h => ?_)
      refine z_iload (pc := 197) X dX9_choose_197 11 rfl ?_
      refine z_iconst (pc := 199) (v := -1) X dX9_choose_199 (by decide) ?_
      refine z_icmp_eq (pc := 200) (tgt := 210) X dX9_choose_200 (by decide) h (fun h => ?_) (fun h => ?_)
      · exact z_sub [1, 2, 3, 4, 5, 6, 7, 8, 9, 10, 11, 12, 13, 14, 15, 16, 0] rfl (zz9_choose_210 X _ hk143 _ hk161 _ ih _ _ _ _ _ _ _ _ _ _ _ _ _ _ _ _ _ h)
      · refine z_iload (pc := 203) X dX9_choose_203 0 rfl ?_
        refine z_iload (pc := 205) X dX9_choose_205 12 rfl ?_
        refine z_icmp_ge (pc := 207) (tgt := 261) X dX9_choose_207 (by decide) h (fun h => ?_) (fun h => ?_)
        · exact z_sub [1, 2, 3, 4, 5, 6, 7, 8, 9, 10, 11, 12, 13, 14, 15, 16] rfl (zz9_choose_261 X _ hk143 _ hk161 _ ih _ _ _ _ _ _ _ _ _ _ _ _ _ _ _ _ h)
        · exact z_sub [1, 2, 3, 4, 5, 6, 7, 8, 9, 10, 11, 12, 13, 14, 15, 16, 0] rfl (zz9_choose_210 X _ hk143 _ hk161 _ ih _ _ _ _ _ _ _ _ _ _ _ _ _ _ _ _ _ h)
set_option maxRecDepth 100000 in
set_option maxHeartbeats 4000000 in
theorem zz9_choose_161 {S' : St} {r : Int32} (X : zM p s m args meth c D cA σ shM tS RX9 cX9_choose 19 (some .int)) (k143 : St → Int32 → Int32 → Int32 → Int32 → Int32 → Int32 → Int32 → Int32 → Int32 → Int32 → Int32 → Int32 → Option (Int32 × St)) (hk143 : ∀ (S : St) (x1 : Int32) (x2 : Int32) (x3 : Int32) (x4 : Int32) (x5 : Int32) (x6 : Int32) (x7 : Int32) (x8 : Int32) (x9 : Int32) (x11 : Int32) (x12 : Int32) (x13 : Int32), k143 S x1 x2 x3 x4 x5 x6 x7 x8 x9 x11 x12 x13 = some (r, S') → Zj p l e rm9_choose s m args below meth c D cA σ shM 19 (some (.int r)) S' 143 [(0, .ref (σ 0)), (1, .int x1), (2, .int x2), (3, .int x3), (4, .int x4), (5, .int x5), (6, .int x6), (7, .int x7), (8, .int x8), (9, .int x9), (11, .int x11), (12, .int x12), (13, .int x13)] [] S) : ∀ (n : Nat) (S : St) (x1 : Int32) (x2 : Int32) (x3 : Int32) (x4 : Int32) (x5 : Int32) (x6 : Int32) (x7 : Int32) (x8 : Int32) (x9 : Int32) (x11 : Int32) (x12 : Int32) (x13 : Int32) (x14 : Int64) (x16 : Int32), J9_choose_161 k143 n S x1 x2 x3 x4 x5 x6 x7 x8 x9 x11 x12 x13 x14 x16 = some (r, S') → Zj p l e rm9_choose s m args below meth c D cA σ shM 19 (some (.int r)) S' 161 [(0, .ref (σ 0)), (1, .int x1), (2, .int x2), (3, .int x3), (4, .int x4), (5, .int x5), (6, .int x6), (7, .int x7), (8, .int x8), (9, .int x9), (11, .int x11), (12, .int x12), (13, .int x13), (14, .long x14), (16, .int x16)] [] S := by
  intro n
  induction n with
  | zero =>
    intro S x1 x2 x3 x4 x5 x6 x7 x8 x9 x11 x12 x13 x14 x16 h
    rw [J9_choose_161] at h
    cases h
  | succ n ih =>
    intro S x1 x2 x3 x4 x5 x6 x7 x8 x9 x11 x12 x13 x14 x16 h
    rw [J9_choose_161] at h
    refine z_iload (pc := 161) X dX9_choose_161 14 rfl ?_
    refine z_iload (pc := 163) X dX9_choose_163 12 rfl ?_
    refine z_icmp_gt (pc := 165) (tgt := 273) X dX9_choose_165 (by decide) h (fun h => ?_) (fun h => ?_)
    · refine z_iinc (pc := 273) (k := 12) (v := 1) (L' := [(13, .int _), (0, .ref _), (1, .int _), (2, .int _), (3, .int _), (4, .int _), (5, .int _), (6, .int _), (7, .int _), (8, .int _), (9, .int _), (11, .int _), (12, .int _), (14, .long _), (16, .int _)]) X dX9_choose_273 rfl (by decide) (by decide) rfl ?_
      refine z_let h (fun h => ?_)
      refine z_goto (pc := 276) (tgt := 143) X dX9_choose_276 (by decide) ?_
      exact z_sub [1, 2, 3, 4, 5, 6, 7, 8, 9, 10, 11, 12, 0] rfl (hk143 _ _ _ _ _ _ _ _ _ _ _ _ _ h)
    · refine z_iconst (pc := 168) (v := 1) X dX9_choose_168 (by decide) ?_
      refine z_istore (pc := 169) (L' := [(17, .int _), (0, .ref _), (1, .int _), (2, .int _), (3, .int _), (4, .int _), (5, .int _), (6, .int _), (7, .int _), (8, .int _), (9, .int _), (11, .int _), (12, .int _), (13, .int _), (14, .long _), (16, .int _)]) X dX9_choose_169 (by decide) rfl ?_
      exact z_sub [1, 2, 3, 4, 5, 6, 7, 8, 9, 10, 11, 12, 13, 14, 15, 0] rfl (zz9_choose_171 X _ hk143 _ ih fu _ _ _ _ _ _ _ _ _ _ _ _ _ _ _ _ h)
set_option maxRecDepth 100000 in
set_option maxHeartbeats 4000000 in
theorem zz9_choose_143 {S' : St} {r : Int32} (X : zM p s m args meth c D cA σ shM tS RX9 cX9_choose 19 (some .int)) : ∀ (n : Nat) (S : St) (x1 : Int32) (x2 : Int32) (x3 : Int32) (x4 : Int32) (x5 : Int32) (x6 : Int32) (x7 : Int32) (x8 : Int32) (x9 : Int32) (x11 : Int32) (x12 : Int32) (x13 : Int32), J9_choose_143 n S x1 x2 x3 x4 x5 x6 x7 x8 x9 x11 x12 x13 = some (r, S') → Zj p l e rm9_choose s m args below meth c D cA σ shM 19 (some (.int r)) S' 143 [(0, .ref (σ 0)), (1, .int x1), (2, .int x2), (3, .int x3), (4, .int x4), (5, .int x5), (6, .int x6), (7, .int x7), (8, .int x8), (9, .int x9), (11, .int x11), (12, .int x12), (13, .int x13)] [] S := by
  intro n
  induction n with
  | zero =>
    intro S x1 x2 x3 x4 x5 x6 x7 x8 x9 x11 x12 x13 h
    rw [J9_choose_143] at h
    cases h
  | succ n ih =>
    intro S x1 x2 x3 x4 x5 x6 x7 x8 x9 x11 x12 x13 h
    rw [J9_choose_143] at h
    refine z_iload (pc := 143) X dX9_choose_143 12 rfl ?_
    refine z_iload_n (pc := 145) X dX9_choose_145 rfl 1 rfl ?_
    refine z_icmp_gt (pc := 146) (tgt := 279) X dX9_choose_146 (by decide) h (fun h => ?_) (fun h => ?_)
    · refine z_iload (pc := 279) X dX9_choose_279 10 rfl ?_
      refine z_iconst (pc := 281) (v := -1) X dX9_choose_281 (by decide) ?_
      refine z_icmp_ne (pc := 282) (tgt := 292) X dX9_choose_282 (by decide) h (fun h => ?_) (fun h => ?_)
      · refine z_aload_n (pc := 292) X dX9_choose_292 rfl 0 rfl ?_
        refine z_iconst (pc := 293) (v := 0) X dX9_choose_293 (by decide) ?_
        refine z_putI (pc := 294) X 0 gX9_1 rfl rfl dX9_choose_294 ?_
        refine z_let h (fun h => ?_)
        refine z_iload (pc := 297) X dX9_choose_297 10 rfl ?_
        exact z_iret X rfl dX9_choose_299 h
      · refine z_aload_n (pc := 285) X dX9_choose_285 rfl 0 rfl ?_
        refine z_bipush (pc := 286) (v := 8) X dX9_choose_286 (by decide) ?_
        refine z_callVi (pc := 288) (rm := rm9_refuse) X 0 [.int _] vX9_154 rfl rfl rfl (Nat.le_of_ble_eq_true rfl) ⟨rfl, rfl, Nat.le_of_ble_eq_true rfl, Nat.le_of_ble_eq_true rfl⟩ dX9_choose_288 h (fun _ _ q => cc9_refuse q) (fun r2 S2 h => ?_)
        exact z_iret X rfl dX9_choose_291 h
    · refine z_aload_n (pc := 149) X dX9_choose_149 rfl 0 rfl ?_
      refine z_iload (pc := 150) X dX9_choose_150 12 rfl ?_
      refine z_iload_n (pc := 152) X dX9_choose_152 rfl 3 rfl ?_
      refine z_callVl (pc := 153) (rm := rm9_allWays) X 0 [.int _, .int _] vX9_196 rfl rfl rfl (Nat.le_of_ble_eq_true rfl) ⟨rfl, rfl, Nat.le_of_ble_eq_true rfl, Nat.le_of_ble_eq_true rfl⟩ dX9_choose_153 h (fun _ _ q => cc9_allWays q) (fun r3 S3 h => ?_)
      refine z_lstore (pc := 156) (L' := [(14, .long _), (0, .ref _), (1, .int _), (2, .int _), (3, .int _), (4, .int _), (5, .int _), (6, .int _), (7, .int _), (8, .int _), (9, .int _), (11, .int _), (12, .int _), (13, .int _)]) X dX9_choose_156 (by decide) rfl ?_
      refine z_iconst (pc := 158) (v := 1) X dX9_choose_158 (by decide) ?_
      refine z_istore (pc := 159) (L' := [(16, .int _), (14, .long _), (0, .ref _), (1, .int _), (2, .int _), (3, .int _), (4, .int _), (5, .int _), (6, .int _), (7, .int _), (8, .int _), (9, .int _), (11, .int _), (12, .int _), (13, .int _)]) X dX9_choose_159 (by decide) rfl ?_
      exact z_sub [2, 3, 4, 5, 6, 7, 8, 9, 10, 11, 12, 13, 14, 1, 0] rfl (zz9_choose_161 X _ ih fu _ _ _ _ _ _ _ _ _ _ _ _ _ _ _ h)
set_option maxRecDepth 100000 in
set_option maxHeartbeats 4000000 in
theorem zz9_choose_101 {S' : St} {r : Int32} (X : zM p s m args meth c D cA σ shM tS RX9 cX9_choose 19 (some .int)) : ∀ (S : St) (x1 : Int32) (x2 : Int32) (x3 : Int32) (x4 : Int32) (x5 : Int32) (x6 : Int32) (x7 : Int32) (x8 : Int32) (x9 : Int32) (t0 : Int32), J9_choose_101 S x1 x2 x3 x4 x5 x6 x7 x8 x9 t0 = some (r, S') → Zj p l e rm9_choose s m args below meth c D cA σ shM 19 (some (.int r)) S' 101 [(0, .ref (σ 0)), (1, .int x1), (2, .int x2), (3, .int x3), (4, .int x4), (5, .int x5), (6, .int x6), (7, .int x7), (8, .int x8), (9, .int x9)] [.int t0] S := by
  intro S x1 x2 x3 x4 x5 x6 x7 x8 x9 t0 h
  rw [J9_choose_101] at h
  refine z_istore (pc := 101) (L' := [(10, .int _), (0, .ref _), (1, .int _), (2, .int _), (3, .int _), (4, .int _), (5, .int _), (6, .int _), (7, .int _), (8, .int _), (9, .int _)]) X dX9_choose_101 (by decide) rfl ?_
  refine z_iload (pc := 103) X dX9_choose_103 0 rfl ?_
  refine z_if_ne (pc := 105) (tgt := 114) X dX9_choose_105 (by decide) h (fun h => ?_) (fun h => ?_)
  · refine z_aload_n (pc := 114) X dX9_choose_114 rfl 1 rfl ?_
    refine z_iload_n (pc := 115) X dX9_choose_115 rfl 2 rfl ?_
    refine z_iload_n (pc := 116) X dX9_choose_116 rfl 4 rfl ?_
    refine z_callVl (pc := 117) (rm := rm9_allWays) X 0 [.int _, .int _] vX9_196 rfl rfl rfl (Nat.le_of_ble_eq_true rfl) ⟨rfl, rfl, Nat.le_of_ble_eq_true rfl, Nat.le_of_ble_eq_true rfl⟩ dX9_choose_117 h (fun _ _ q => cc9_allWays q) (fun r1 S1 h => ?_)
    refine z_ldc2 (pc := 120) X dX9_choose_120 mw_842 ?_
    refine z_lcmp (pc := 123) X dX9_choose_123 ?_
    refine z_if_ne (pc := 124) (tgt := 134) X dX9_choose_124 (by decide) h (fun h => ?_) (fun h => ?_)
    · refine z_iconst (pc := 134) (v := -1) X dX9_choose_134 (by decide) ?_
      refine z_istore (pc := 135) (L' := [(11, .int _), (10, .int _), (0, .ref _), (1, .int _), (2, .int _), (3, .int _), (4, .int _), (5, .int _), (6, .int _), (7, .int _), (8, .int _), (9, .int _)]) X dX9_choose_135 (by decide) rfl ?_
      refine z_iconst (pc := 137) (v := 0) X dX9_choose_137 (by decide) ?_
      refine z_istore (pc := 138) (L' := [(12, .int _), (11, .int _), (10, .int _), (0, .ref _), (1, .int _), (2, .int _), (3, .int _), (4, .int _), (5, .int _), (6, .int _), (7, .int _), (8, .int _), (9, .int _)]) X dX9_choose_138 (by decide) rfl ?_
      refine z_iconst (pc := 140) (v := 1) X dX9_choose_140 (by decide) ?_
      refine z_istore (pc := 141) (L' := [(13, .int _), (12, .int _), (11, .int _), (10, .int _), (0, .ref _), (1, .int _), (2, .int _), (3, .int _), (4, .int _), (5, .int _), (6, .int _), (7, .int _), (8, .int _), (9, .int _)]) X dX9_choose_141 (by decide) rfl ?_
      exact z_sub [4, 5, 6, 7, 8, 9, 10, 11, 12, 13, 2, 1, 0] rfl (zz9_choose_143 X  fu _ _ _ _ _ _ _ _ _ _ _ _ _ h)
    · refine z_aload_n (pc := 127) X dX9_choose_127 rfl 1 rfl ?_
      refine z_bipush (pc := 128) (v := 9) X dX9_choose_128 (by decide) ?_
      refine z_callVi (pc := 130) (rm := rm9_refuse) X 0 [.int _] vX9_154 rfl rfl rfl (Nat.le_of_ble_eq_true rfl) ⟨rfl, rfl, Nat.le_of_ble_eq_true rfl, Nat.le_of_ble_eq_true rfl⟩ dX9_choose_130 h (fun _ _ q => cc9_refuse q) (fun r2 S2 h => ?_)
      exact z_iret X rfl dX9_choose_133 h
  · refine z_aload_n (pc := 108) X dX9_choose_108 rfl 1 rfl ?_
    refine z_iconst (pc := 109) (v := 1) X dX9_choose_109 (by decide) ?_
    refine z_callVi (pc := 110) (rm := rm9_refuse) X 0 [.int _] vX9_154 rfl rfl rfl (Nat.le_of_ble_eq_true rfl) ⟨rfl, rfl, Nat.le_of_ble_eq_true rfl, Nat.le_of_ble_eq_true rfl⟩ dX9_choose_110 h (fun _ _ q => cc9_refuse q) (fun r3 S3 h => ?_)
    exact z_iret X rfl dX9_choose_113 h
set_option maxRecDepth 100000 in
set_option maxHeartbeats 4000000 in
theorem zz9_choose_100 {S' : St} {r : Int32} (X : zM p s m args meth c D cA σ shM tS RX9 cX9_choose 19 (some .int)) : ∀ (S : St) (x1 : Int32) (x2 : Int32) (x3 : Int32) (x4 : Int32) (x5 : Int32) (x6 : Int32) (x7 : Int32) (x8 : Int32) (x9 : Int32), J9_choose_100 S x1 x2 x3 x4 x5 x6 x7 x8 x9 = some (r, S') → Zj p l e rm9_choose s m args below meth c D cA σ shM 19 (some (.int r)) S' 100 [(0, .ref (σ 0)), (1, .int x1), (2, .int x2), (3, .int x3), (4, .int x4), (5, .int x5), (6, .int x6), (7, .int x7), (8, .int x8), (9, .int x9)] [] S := by
  intro S x1 x2 x3 x4 x5 x6 x7 x8 x9 h
  rw [J9_choose_100] at h
  refine z_iconst (pc := 100) (v := 0) X dX9_choose_100 (by decide) ?_
  exact z_sub [0, 1, 2, 3, 4, 5, 6, 7, 8, 9] rfl (zz9_choose_101 X  _ _ _ _ _ _ _ _ _ _ _ h)
set_option maxRecDepth 100000 in
set_option maxHeartbeats 4000000 in
theorem zz9_choose_50 {S' : St} {r : Int32} (X : zM p s m args meth c D cA σ shM tS RX9 cX9_choose 19 (some .int)) : ∀ (S : St) (x1 : Int32) (x2 : Int32) (x3 : Int32) (x4 : Int32) (x5 : Int32) (x6 : Int32) (x7 : Int32) (x8 : Int32) (x9 : Int32) (t0 : Int32), J9_choose_50 S x1 x2 x3 x4 x5 x6 x7 x8 x9 t0 = some (r, S') → Zj p l e rm9_choose s m args below meth c D cA σ shM 19 (some (.int r)) S' 50 [(0, .ref (σ 0)), (1, .int x1), (2, .int x2), (3, .int x3), (4, .int x4), (5, .int x5), (6, .int x6), (7, .int x7), (8, .int x8), (9, .int x9)] [.int t0] S := by
  intro S x1 x2 x3 x4 x5 x6 x7 x8 x9 t0 h
  rw [J9_choose_50] at h
  refine z_istore (pc := 50) (L' := [(10, .int _), (0, .ref _), (1, .int _), (2, .int _), (3, .int _), (4, .int _), (5, .int _), (6, .int _), (7, .int _), (8, .int _), (9, .int _)]) X dX9_choose_50 (by decide) rfl ?_
  refine z_iload (pc := 52) X dX9_choose_52 0 rfl ?_
  refine z_if_eq (pc := 54) (tgt := 100) X dX9_choose_54 (by decide) h (fun h => ?_) (fun h => ?_)
  · exact z_sub [1, 2, 3, 4, 5, 6, 7, 8, 9, 10] rfl (zz9_choose_100 X  _ _ _ _ _ _ _ _ _ _ h)
  · refine z_iload (pc := 57) X dX9_choose_57 8 rfl ?_
    refine z_if_lt (pc := 59) (tgt := 100) X dX9_choose_59 (by decide) h (fun h => ?_) (fun h => ?_)
    · exact z_sub [1, 2, 3, 4, 5, 6, 7, 8, 9, 10] rfl (zz9_choose_100 X  _ _ _ _ _ _ _ _ _ _ h)
    · refine z_iload (pc := 62) X dX9_choose_62 8 rfl ?_
      refine z_sipush (pc := 64) (v := 1000) X dX9_choose_64 (by decide) ?_
      refine z_icmp_gt (pc := 67) (tgt := 100) X dX9_choose_67 (by decide) h (fun h => ?_) (fun h => ?_)
      · exact z_sub [1, 2, 3, 4, 5, 6, 7, 8, 9, 10] rfl (zz9_choose_100 X  _ _ _ _ _ _ _ _ _ _ h)
      · refine z_iload (pc := 70) X dX9_choose_70 9 rfl ?_
        refine z_if_lt (pc := 72) (tgt := 100) X dX9_choose_72 (by decide) h (fun h => ?_) (fun h => ?_)
        · exact z_sub [1, 2, 3, 4, 5, 6, 7, 8, 9, 10] rfl (zz9_choose_100 X  _ _ _ _ _ _ _ _ _ _ h)
        · refine z_iload (pc := 75) X dX9_choose_75 9 rfl ?_
          refine z_sipush (pc := 77) (v := 1000) X dX9_choose_77 (by decide) ?_
          refine z_icmp_gt (pc := 80) (tgt := 100) X dX9_choose_80 (by decide) h (fun h => ?_) (fun h => ?_)
          · exact z_sub [1, 2, 3, 4, 5, 6, 7, 8, 9, 10] rfl (zz9_choose_100 X  _ _ _ _ _ _ _ _ _ _ h)
          · refine z_iload (pc := 83) X dX9_choose_83 10 rfl ?_
            refine z_if_lt (pc := 85) (tgt := 100) X dX9_choose_85 (by decide) h (fun h => ?_) (fun h => ?_)
            · exact z_sub [1, 2, 3, 4, 5, 6, 7, 8, 9, 10] rfl (zz9_choose_100 X  _ _ _ _ _ _ _ _ _ _ h)
            · refine z_iload (pc := 88) X dX9_choose_88 10 rfl ?_
              refine z_sipush (pc := 90) (v := 1000) X dX9_choose_90 (by decide) ?_
              refine z_icmp_gt (pc := 93) (tgt := 100) X dX9_choose_93 (by decide) h (fun h => ?_) (fun h => ?_)
              · exact z_sub [1, 2, 3, 4, 5, 6, 7, 8, 9, 10] rfl (zz9_choose_100 X  _ _ _ _ _ _ _ _ _ _ h)
              · refine z_iconst (pc := 96) (v := 1) X dX9_choose_96 (by decide) ?_
                refine z_goto (pc := 97) (tgt := 101) X dX9_choose_97 (by decide) ?_
                exact z_sub [1, 2, 3, 4, 5, 6, 7, 8, 9, 10] rfl (zz9_choose_101 X  _ _ _ _ _ _ _ _ _ _ _ h)
set_option maxRecDepth 100000 in
set_option maxHeartbeats 4000000 in
theorem zz9_choose_49 {S' : St} {r : Int32} (X : zM p s m args meth c D cA σ shM tS RX9 cX9_choose 19 (some .int)) : ∀ (S : St) (x1 : Int32) (x2 : Int32) (x3 : Int32) (x4 : Int32) (x5 : Int32) (x6 : Int32) (x7 : Int32) (x8 : Int32) (x9 : Int32), J9_choose_49 S x1 x2 x3 x4 x5 x6 x7 x8 x9 = some (r, S') → Zj p l e rm9_choose s m args below meth c D cA σ shM 19 (some (.int r)) S' 49 [(0, .ref (σ 0)), (1, .int x1), (2, .int x2), (3, .int x3), (4, .int x4), (5, .int x5), (6, .int x6), (7, .int x7), (8, .int x8), (9, .int x9)] [] S := by
  intro S x1 x2 x3 x4 x5 x6 x7 x8 x9 h
  rw [J9_choose_49] at h
  refine z_iconst (pc := 49) (v := 0) X dX9_choose_49 (by decide) ?_
  exact z_sub [0, 1, 2, 3, 4, 5, 6, 7, 8, 9] rfl (zz9_choose_50 X  _ _ _ _ _ _ _ _ _ _ _ h)
set_option maxRecDepth 100000 in
set_option maxHeartbeats 4000000 in
theorem zz9_choose_0 {S' : St} {r : Int32} (X : zM p s m args meth c D cA σ shM tS RX9 cX9_choose 19 (some .int)) : ∀ (S : St) (x1 : Int32) (x2 : Int32) (x3 : Int32) (x4 : Int32) (x5 : Int32) (x6 : Int32) (x7 : Int32) (x8 : Int32) (x9 : Int32), J9_choose S x1 x2 x3 x4 x5 x6 x7 x8 x9 = some (r, S') → Zj p l e rm9_choose s m args below meth c D cA σ shM 19 (some (.int r)) S' 0 [(0, .ref (σ 0)), (1, .int x1), (2, .int x2), (3, .int x3), (4, .int x4), (5, .int x5), (6, .int x6), (7, .int x7), (8, .int x8), (9, .int x9)] [] S := by
  intro S x1 x2 x3 x4 x5 x6 x7 x8 x9 h
  rw [J9_choose] at h
  refine z_iload_n (pc := 0) X dX9_choose_0 rfl 1 rfl ?_
  refine z_iconst (pc := 1) (v := 1) X dX9_choose_1 (by decide) ?_
  refine z_icmp_lt (pc := 2) (tgt := 49) X dX9_choose_2 (by decide) h (fun h => ?_) (fun h => ?_)
  · exact z_sub [0, 1, 2, 3, 4, 5, 6, 7, 8, 9] rfl (zz9_choose_49 X  _ _ _ _ _ _ _ _ _ _ h)
  · refine z_iload_n (pc := 5) X dX9_choose_5 rfl 1 rfl ?_
    refine z_iconst (pc := 6) (v := 5) X dX9_choose_6 (by decide) ?_
    refine z_icmp_gt (pc := 7) (tgt := 49) X dX9_choose_7 (by decide) h (fun h => ?_) (fun h => ?_)
    · exact z_sub [0, 1, 2, 3, 4, 5, 6, 7, 8, 9] rfl (zz9_choose_49 X  _ _ _ _ _ _ _ _ _ _ h)
    · refine z_iload_n (pc := 10) X dX9_choose_10 rfl 2 rfl ?_
      refine z_iload_n (pc := 11) X dX9_choose_11 rfl 3 rfl ?_
      refine z_iload (pc := 12) X dX9_choose_12 4 rfl ?_
      refine z_callSi (pc := 14) (rm := rm9_isAsked) X [.int _, .int _, .int _] sX9_192 rfl rfl (Nat.le_of_ble_eq_true rfl) ⟨rfl, rfl, Nat.le_of_ble_eq_true rfl, Nat.le_of_ble_eq_true rfl⟩ dX9_choose_14 h (fun _ _ q => cc9_isAsked q) (fun r1 S1 h => ?_)
      refine z_if_eq (pc := 17) (tgt := 49) X dX9_choose_17 (by decide) h (fun h => ?_) (fun h => ?_)
      · exact z_sub [0, 1, 2, 3, 4, 5, 6, 7, 8, 9] rfl (zz9_choose_49 X  _ _ _ _ _ _ _ _ _ _ h)
      · refine z_iload (pc := 20) X dX9_choose_20 5 rfl ?_
        refine z_if_lt (pc := 22) (tgt := 49) X dX9_choose_22 (by decide) h (fun h => ?_) (fun h => ?_)
        · exact z_sub [0, 1, 2, 3, 4, 5, 6, 7, 8, 9] rfl (zz9_choose_49 X  _ _ _ _ _ _ _ _ _ _ h)
        · refine z_iload (pc := 25) X dX9_choose_25 6 rfl ?_
          refine z_iconst (pc := 27) (v := 1) X dX9_choose_27 (by decide) ?_
          refine z_icmp_lt (pc := 28) (tgt := 49) X dX9_choose_28 (by decide) h (fun h => ?_) (fun h => ?_)
          · exact z_sub [0, 1, 2, 3, 4, 5, 6, 7, 8, 9] rfl (zz9_choose_49 X  _ _ _ _ _ _ _ _ _ _ h)
          · refine z_iload (pc := 31) X dX9_choose_31 6 rfl ?_
            refine z_ldc (pc := 33) X dX9_choose_33 mw_1088 ?_
            refine z_icmp_gt (pc := 35) (tgt := 49) X dX9_choose_35 (by decide) h (fun h => ?_) (fun h => ?_)
            · exact z_sub [0, 1, 2, 3, 4, 5, 6, 7, 8, 9] rfl (zz9_choose_49 X  _ _ _ _ _ _ _ _ _ _ h)
            · refine z_iload (pc := 38) X dX9_choose_38 5 rfl ?_
              refine z_iload (pc := 40) X dX9_choose_40 6 rfl ?_
              refine z_icmp_gt (pc := 42) (tgt := 49) X dX9_choose_42 (by decide) h (fun h => ?_) (fun h => ?_)
              · exact z_sub [0, 1, 2, 3, 4, 5, 6, 7, 8, 9] rfl (zz9_choose_49 X  _ _ _ _ _ _ _ _ _ _ h)
              · refine z_iconst (pc := 45) (v := 1) X dX9_choose_45 (by decide) ?_
                refine z_goto (pc := 46) (tgt := 50) X dX9_choose_46 (by decide) ?_
                exact z_sub [0, 1, 2, 3, 4, 5, 6, 7, 8, 9] rfl (zz9_choose_50 X  _ _ _ _ _ _ _ _ _ _ _ h)
theorem cc9_choose {l : Launch} {D : va_G} {cA : Nat → ClassId} {σ : Nat → Nat} {tS : Nat} {S S' : St} {x1 : Int32} {x2 : Int32} {x3 : Int32} {x4 : Int32} {x5 : Int32} {x6 : Int32} {x7 : Int32} {x8 : Int32} {x9 : Int32} {r : Int32} (h : J9_choose S x1 x2 x3 x4 x5 x6 x7 x8 x9 = some (r, S')) : zMet l D cA σ shM tS yX9_choose cX9_choose 19 (some .int) rm9_choose [.ref (σ 0), .int x1, .int x2, .int x3, .int x4, .int x5, .int x6, .int x7, .int x8, .int x9] S (some (.int r)) S' := z_met [(0, .ref (σ 0)), (1, .int x1), (2, .int x2), (3, .int x3), (4, .int x4), (5, .int x5), (6, .int x6), (7, .int x7), (8, .int x8), (9, .int x9)] (by decide +kernel) (Nat.le_of_ble_eq_true rfl) rfl (fun _ _ _ _ _ _ _ _ X => zz9_choose_0 X _ _ _ _ _ _ _ _ _ _ h)
set_option maxRecDepth 100000 in
set_option maxHeartbeats 4000000 in
theorem zz9_hand_2 {S' : St} (X : zM p s m args meth c D cA σ shM tS RX9 cX9_hand 4 none) : ∀ (n : Nat) (S : St) (x1 : Int32) (x2 : Int32) (x3 : Int32), J9_hand_2 n S x1 x2 x3 = some ((), S') → Zj p l e rm9_hand s m args below meth c D cA σ shM 4 none S' 2 [(0, .ref (σ 0)), (1, .int x1), (2, .int x2), (3, .int x3)] [] S := by
  intro n
  induction n with
  | zero =>
    intro S x1 x2 x3 h
    rw [J9_hand_2] at h
    cases h
  | succ n ih =>
    intro S x1 x2 x3 h
    rw [J9_hand_2] at h
    refine z_iload_n (pc := 2) X dX9_hand_2 rfl 3 rfl ?_
    refine z_aload_n (pc := 3) X dX9_hand_3 rfl 0 rfl ?_
    refine z_get (pc := 4) (v := .int _) X 0 fX9_215 rfl rfl dX9_hand_4 rfl ?_
    refine z_icmp_ge (pc := 7) (tgt := 53) X dX9_hand_7 (by decide) h (fun h => ?_) (fun h => ?_)
    · refine z_aload_n (pc := 53) X dX9_hand_53 rfl 0 rfl ?_
      refine z_dup (pc := 54) X dX9_hand_54 rfl ?_
      refine z_get (pc := 55) (v := .int _) X 0 fX9_230 rfl rfl dX9_hand_55 rfl ?_
      refine z_iconst (pc := 58) (v := 1) X dX9_hand_58 (by decide) ?_
      refine z_iadd (pc := 59) X dX9_hand_59 ?_
      refine z_putI (pc := 60) X 0 gX9_230 rfl rfl dX9_hand_60 ?_
      refine z_let h (fun h => ?_)
      exact z_vret X rfl dX9_hand_63 h
    · refine z_aload_n (pc := 10) X dX9_hand_10 rfl 0 rfl ?_
      refine z_get (pc := 11) (v := .ref (σ 12)) X 0 fX9_84 rfl rfl dX9_hand_11 rfl ?_
      refine z_iload_n (pc := 14) X dX9_hand_14 rfl 3 rfl ?_
      refine z_zald (pc := 15) X 12 rfl dX9_hand_15 h (fun h => ?_)
      refine z_if_ne (pc := 16) (tgt := 22) X dX9_hand_16 (by decide) h (fun h => ?_) (fun h => ?_)
      · refine z_aload_n (pc := 22) X dX9_hand_22 rfl 0 rfl ?_
        refine z_get (pc := 23) (v := .ref (σ 11)) X 0 fX9_81 rfl rfl dX9_hand_23 rfl ?_
        refine z_iconst (pc := 26) (v := 5) X dX9_hand_26 (by decide) ?_
        refine z_iload_n (pc := 27) X dX9_hand_27 rfl 3 rfl ?_
        refine z_imul (pc := 28) X dX9_hand_28 ?_
        refine z_iload_n (pc := 29) X dX9_hand_29 rfl 1 rfl ?_
        refine z_iadd (pc := 30) X dX9_hand_30 ?_
        refine z_aload_n (pc := 31) X dX9_hand_31 rfl 0 rfl ?_
        refine z_get (pc := 32) (v := .ref (σ 11)) X 0 fX9_81 rfl rfl dX9_hand_32 rfl ?_
        refine z_iconst (pc := 35) (v := 5) X dX9_hand_35 (by decide) ?_
        refine z_iload_n (pc := 36) X dX9_hand_36 rfl 3 rfl ?_
        refine z_imul (pc := 37) X dX9_hand_37 ?_
        refine z_iload_n (pc := 38) X dX9_hand_38 rfl 1 rfl ?_
        refine z_iadd (pc := 39) X dX9_hand_39 ?_
        refine z_iald (pc := 40) X 11 rfl dX9_hand_40 h (fun h => ?_)
        refine z_iload_n (pc := 41) X dX9_hand_41 rfl 2 rfl ?_
        refine z_max (pc := 42) X hX9_270 ⟨Nat.le_of_ble_eq_true rfl, Nat.le_of_ble_eq_true rfl⟩ dX9_hand_42 ?_
        refine z_iast (pc := 45) X 11 rfl dX9_hand_45 h (fun h => ?_)
        refine z_let h (fun h => ?_)
        exact z_vret X rfl dX9_hand_46 h
      · refine z_goto (pc := 19) (tgt := 47) X dX9_hand_19 (by decide) ?_
        refine z_iinc (pc := 47) (k := 3) (v := 1) (L' := [(3, .int _), (0, .ref _), (1, .int _), (2, .int _)]) X dX9_hand_47 rfl (by decide) (by decide) rfl ?_
        refine z_let h (fun h => ?_)
        refine z_goto (pc := 50) (tgt := 2) X dX9_hand_50 (by decide) ?_
        exact z_sub [1, 2, 3, 0] rfl (ih _ _ _ _ h)
set_option maxRecDepth 100000 in
set_option maxHeartbeats 4000000 in
theorem zz9_hand_0 {S' : St} (X : zM p s m args meth c D cA σ shM tS RX9 cX9_hand 4 none) : ∀ (S : St) (x1 : Int32) (x2 : Int32), J9_hand S x1 x2 = some ((), S') → Zj p l e rm9_hand s m args below meth c D cA σ shM 4 none S' 0 [(0, .ref (σ 0)), (1, .int x1), (2, .int x2)] [] S := by
  intro S x1 x2 h
  rw [J9_hand] at h
  refine z_iconst (pc := 0) (v := 0) X dX9_hand_0 (by decide) ?_
  refine z_istore_n (pc := 1) (L' := [(3, .int _), (0, .ref _), (1, .int _), (2, .int _)]) X dX9_hand_1 rfl (by decide) rfl ?_
  exact z_sub [1, 2, 3, 0] rfl (zz9_hand_2 X  fu _ _ _ _ h)
theorem cc9_hand {l : Launch} {D : va_G} {cA : Nat → ClassId} {σ : Nat → Nat} {tS : Nat} {S S' : St} {x1 : Int32} {x2 : Int32} (h : J9_hand S x1 x2 = some ((), S')) : zMet l D cA σ shM tS yX9_hand cX9_hand 4 none rm9_hand [.ref (σ 0), .int x1, .int x2] S none S' := z_met [(0, .ref (σ 0)), (1, .int x1), (2, .int x2)] (by decide +kernel) (Nat.le_of_ble_eq_true rfl) rfl (fun _ _ _ _ _ _ _ _ X => zz9_hand_0 X _ _ _ h)
set_option maxRecDepth 100000 in
set_option maxHeartbeats 4000000 in
theorem zz9_comes_175 {S' : St} (X : zM p s m args meth c D cA σ shM tS RX9 cX9_comes 6 none) : ∀ (S : St), J9_comes_175 S = some ((), S') → Zj p l e rm9_comes s m args below meth c D cA σ shM 6 none S' 175 [] [] S := by
  intro S h
  rw [J9_comes_175] at h
  exact z_vret X rfl dX9_comes_175 h
set_option maxRecDepth 100000 in
set_option maxHeartbeats 4000000 in
theorem zz9_comes_36 {S' : St} (X : zM p s m args meth c D cA σ shM tS RX9 cX9_comes 6 none) : ∀ (S : St) (x1 : Int32) (x2 : Int32) (x3 : Int32) (x4 : Int32) (x5 : Int32), J9_comes_36 S x1 x2 x3 x4 x5 = some ((), S') → Zj p l e rm9_comes s m args below meth c D cA σ shM 6 none S' 36 [(0, .ref (σ 0)), (1, .int x1), (2, .int x2), (3, .int x3), (4, .int x4), (5, .int x5)] [] S := by
  intro S x1 x2 x3 x4 x5 h
  rw [J9_comes_36] at h
  refine z_aload_n (pc := 36) X dX9_comes_36 rfl 0 rfl ?_
  refine z_get (pc := 37) (v := .ref (σ 12)) X 0 fX9_84 rfl rfl dX9_comes_37 rfl ?_
  refine z_iload_n (pc := 40) X dX9_comes_40 rfl 3 rfl ?_
  refine z_zald (pc := 41) X 12 rfl dX9_comes_41 h (fun h => ?_)
  refine z_if_eq (pc := 42) (tgt := 80) X dX9_comes_42 (by decide) h (fun h => ?_) (fun h => ?_)
  · refine z_aload_n (pc := 80) X dX9_comes_80 rfl 0 rfl ?_
    refine z_iload_n (pc := 81) X dX9_comes_81 rfl 3 rfl ?_
    refine z_iload (pc := 82) X dX9_comes_82 4 rfl ?_
    refine z_callVv (pc := 84) (rm := rm9_hand) X 0 [.int _, .int _] vX9_275 rfl rfl rfl (Nat.le_of_ble_eq_true rfl) ⟨rfl, rfl, Nat.le_of_ble_eq_true rfl, Nat.le_of_ble_eq_true rfl⟩ dX9_comes_84 h (fun _ _ q => cc9_hand q) (fun _ S1 h => ?_)
    refine z_goto (pc := 87) (tgt := 175) X dX9_comes_87 (by decide) ?_
    exact z_sub [] rfl (zz9_comes_175 X  _ h)
  · refine z_aload_n (pc := 45) X dX9_comes_45 rfl 0 rfl ?_
    refine z_get (pc := 46) (v := .ref (σ 10)) X 0 fX9_78 rfl rfl dX9_comes_46 rfl ?_
    refine z_iload_n (pc := 49) X dX9_comes_49 rfl 3 rfl ?_
    refine z_aload_n (pc := 50) X dX9_comes_50 rfl 0 rfl ?_
    refine z_get (pc := 51) (v := .ref (σ 10)) X 0 fX9_78 rfl rfl dX9_comes_51 rfl ?_
    refine z_iload_n (pc := 54) X dX9_comes_54 rfl 3 rfl ?_
    refine z_iald (pc := 55) X 10 rfl dX9_comes_55 h (fun h => ?_)
    refine z_iload (pc := 56) X dX9_comes_56 4 rfl ?_
    refine z_max (pc := 58) X hX9_270 ⟨Nat.le_of_ble_eq_true rfl, Nat.le_of_ble_eq_true rfl⟩ dX9_comes_58 ?_
    refine z_iast (pc := 61) X 10 rfl dX9_comes_61 h (fun h => ?_)
    refine z_let h (fun h => ?_)
    refine z_iload_n (pc := 62) X dX9_comes_62 rfl 1 rfl ?_
    refine z_if_ne (pc := 63) (tgt := 175) X dX9_comes_63 (by decide) h (fun h => ?_) (fun h => ?_)
    · exact z_sub [] rfl (zz9_comes_175 X  _ h)
    · refine z_aload_n (pc := 66) X dX9_comes_66 rfl 0 rfl ?_
      refine z_iload (pc := 67) X dX9_comes_67 5 rfl ?_
      refine z_iconst (pc := 69) (v := 1) X dX9_comes_69 (by decide) ?_
      refine z_iload_n (pc := 70) X dX9_comes_70 rfl 2 rfl ?_
      refine z_iload_n (pc := 71) X dX9_comes_71 rfl 3 rfl ?_
      refine z_iconst (pc := 72) (v := 0) X dX9_comes_72 (by decide) ?_
      refine z_iconst (pc := 73) (v := 0) X dX9_comes_73 (by decide) ?_
      refine z_callVv (pc := 74) (rm := rm9_send) X 0 [.int _, .int _, .int _, .int _, .int _, .int _] vX9_256 rfl rfl rfl (Nat.le_of_ble_eq_true rfl) ⟨rfl, rfl, Nat.le_of_ble_eq_true rfl, Nat.le_of_ble_eq_true rfl⟩ dX9_comes_74 h (fun _ _ q => cc9_send q) (fun _ S3 h => ?_)
      refine z_goto (pc := 77) (tgt := 175) X dX9_comes_77 (by decide) ?_
      exact z_sub [] rfl (zz9_comes_175 X  _ h)
set_option maxRecDepth 100000 in
set_option maxHeartbeats 4000000 in
theorem zz9_comes_154 {S' : St} (X : zM p s m args meth c D cA σ shM tS RX9 cX9_comes 6 none) : ∀ (S : St) (x2 : Int32) (x3 : Int32) (x4 : Int32), J9_comes_154 S x2 x3 x4 = some ((), S') → Zj p l e rm9_comes s m args below meth c D cA σ shM 6 none S' 154 [(0, .ref (σ 0)), (2, .int x2), (3, .int x3), (4, .int x4)] [] S := by
  intro S x2 x3 x4 h
  rw [J9_comes_154] at h
  refine z_aload_n (pc := 154) X dX9_comes_154 rfl 0 rfl ?_
  refine z_get (pc := 155) (v := .ref (σ 26)) X 0 fX9_127 rfl rfl dX9_comes_155 rfl ?_
  refine z_iload_n (pc := 158) X dX9_comes_158 rfl 1 rfl ?_
  refine z_iald (pc := 159) X 26 rfl dX9_comes_159 h (fun h => ?_)
  refine z_aload_n (pc := 160) X dX9_comes_160 rfl 0 rfl ?_
  refine z_get (pc := 161) (v := .int _) X 0 fX9_221 rfl rfl dX9_comes_161 rfl ?_
  refine z_icmp_ge (pc := 164) (tgt := 175) X dX9_comes_164 (by decide) h (fun h => ?_) (fun h => ?_)
  · exact z_sub [] rfl (zz9_comes_175 X  _ h)
  · refine z_aload_n (pc := 167) X dX9_comes_167 rfl 0 rfl ?_
    refine z_iload_n (pc := 168) X dX9_comes_168 rfl 1 rfl ?_
    refine z_iload_n (pc := 169) X dX9_comes_169 rfl 2 rfl ?_
    refine z_iload (pc := 170) X dX9_comes_170 3 rfl ?_
    refine z_callVv (pc := 172) (rm := rm9_answer) X 0 [.int _, .int _, .int _] vX9_279 rfl rfl rfl (Nat.le_of_ble_eq_true rfl) ⟨rfl, rfl, Nat.le_of_ble_eq_true rfl, Nat.le_of_ble_eq_true rfl⟩ dX9_comes_172 h (fun _ _ q => cc9_answer q) (fun _ S1 h => ?_)
    exact z_sub [] rfl (zz9_comes_175 X  _ h)
set_option maxRecDepth 100000 in
set_option maxHeartbeats 4000000 in
theorem zz9_comes_0 {S' : St} (X : zM p s m args meth c D cA σ shM tS RX9 cX9_comes 6 none) : ∀ (S : St) (x1 : Int32) (x2 : Int32) (x3 : Int32) (x4 : Int32) (x5 : Int32), J9_comes S x1 x2 x3 x4 x5 = some ((), S') → Zj p l e rm9_comes s m args below meth c D cA σ shM 6 none S' 0 [(0, .ref (σ 0)), (1, .int x1), (2, .int x2), (3, .int x3), (4, .int x4), (5, .int x5)] [] S := by
  intro S x1 x2 x3 x4 x5 h
  rw [J9_comes] at h
  refine z_iload_n (pc := 0) X dX9_comes_0 rfl 1 rfl ?_
  refine z_arm h (fun hx h => ?_) (fun hx0 h => ?_)
  · refine z_tsIn (pc := 1) (tgt := 36) X 0 hx dX9_comes_1 (by decide) (by decide) rfl (by decide) ?_
    exact z_sub [0, 1, 2, 3, 4, 5] rfl (zz9_comes_36 X  _ _ _ _ _ _ h)
  · skip
    refine z_arm h (fun hx h => ?_) (fun hx1 h => ?_)
    · refine z_tsIn (pc := 1) (tgt := 90) X 1 hx dX9_comes_1 (by decide) (by decide) rfl (by decide) ?_
      refine z_aload_n (pc := 90) X dX9_comes_90 rfl 0 rfl ?_
      refine z_get (pc := 91) (v := .ref (σ 22)) X 0 fX9_115 rfl rfl dX9_comes_91 rfl ?_
      refine z_iload_n (pc := 94) X dX9_comes_94 rfl 2 rfl ?_
      refine z_dup2_11 (pc := 95) X dX9_comes_95 rfl rfl ?_
      refine z_iald (pc := 96) X 22 rfl dX9_comes_96 h (fun h => ?_)
      refine z_iconst (pc := 97) (v := 1) X dX9_comes_97 (by decide) ?_
      refine z_iadd (pc := 98) X dX9_comes_98 ?_
      refine z_iast (pc := 99) X 22 rfl dX9_comes_99 h (fun h => ?_)
      refine z_let h (fun h => ?_)
      refine z_aload_n (pc := 100) X dX9_comes_100 rfl 0 rfl ?_
      refine z_get (pc := 101) (v := .ref (σ 22)) X 0 fX9_115 rfl rfl dX9_comes_101 rfl ?_
      refine z_iload_n (pc := 104) X dX9_comes_104 rfl 2 rfl ?_
      refine z_iald (pc := 105) X 22 rfl dX9_comes_105 h (fun h => ?_)
      refine z_aload_n (pc := 106) X dX9_comes_106 rfl 0 rfl ?_
      refine z_get (pc := 107) (v := .int _) X 0 fX9_218 rfl rfl dX9_comes_107 rfl ?_
      refine z_icmp_ne (pc := 110) (tgt := 175) X dX9_comes_110 (by decide) h (fun h => ?_) (fun h => ?_)
      · exact z_sub [] rfl (zz9_comes_175 X  _ h)
      · refine z_aload_n (pc := 113) X dX9_comes_113 rfl 0 rfl ?_
        refine z_get (pc := 114) (v := .ref (σ 23)) X 0 fX9_118 rfl rfl dX9_comes_114 rfl ?_
        refine z_iload_n (pc := 117) X dX9_comes_117 rfl 2 rfl ?_
        refine z_aload_n (pc := 118) X dX9_comes_118 rfl 0 rfl ?_
        refine z_get (pc := 119) (v := .int _) X 0 fX9_224 rfl rfl dX9_comes_119 rfl ?_
        refine z_iast (pc := 122) X 23 rfl dX9_comes_122 h (fun h => ?_)
        refine z_let h (fun h => ?_)
        refine z_goto (pc := 123) (tgt := 175) X dX9_comes_123 (by decide) ?_
        exact z_sub [] rfl (zz9_comes_175 X  _ h)
    · skip
      refine z_arm h (fun hx h => ?_) (fun hx2 h => ?_)
      · refine z_tsIn (pc := 1) (tgt := 126) X 2 hx dX9_comes_1 (by decide) (by decide) rfl (by decide) ?_
        refine z_aload_n (pc := 126) X dX9_comes_126 rfl 0 rfl ?_
        refine z_get (pc := 127) (v := .ref (σ 12)) X 0 fX9_84 rfl rfl dX9_comes_127 rfl ?_
        refine z_iload_n (pc := 130) X dX9_comes_130 rfl 3 rfl ?_
        refine z_zald (pc := 131) X 12 rfl dX9_comes_131 h (fun h => ?_)
        refine z_if_eq (pc := 132) (tgt := 175) X dX9_comes_132 (by decide) h (fun h => ?_) (fun h => ?_)
        · exact z_sub [] rfl (zz9_comes_175 X  _ h)
        · refine z_aload_n (pc := 135) X dX9_comes_135 rfl 0 rfl ?_
          refine z_iload (pc := 136) X dX9_comes_136 5 rfl ?_
          refine z_iconst (pc := 138) (v := 3) X dX9_comes_138 (by decide) ?_
          refine z_iload_n (pc := 139) X dX9_comes_139 rfl 2 rfl ?_
          refine z_iload_n (pc := 140) X dX9_comes_140 rfl 3 rfl ?_
          refine z_aload_n (pc := 141) X dX9_comes_141 rfl 0 rfl ?_
          refine z_get (pc := 142) (v := .ref (σ 10)) X 0 fX9_78 rfl rfl dX9_comes_142 rfl ?_
          refine z_iload_n (pc := 145) X dX9_comes_145 rfl 3 rfl ?_
          refine z_iald (pc := 146) X 10 rfl dX9_comes_146 h (fun h => ?_)
          refine z_iconst (pc := 147) (v := 0) X dX9_comes_147 (by decide) ?_
          refine z_callVv (pc := 148) (rm := rm9_send) X 0 [.int _, .int _, .int _, .int _, .int _, .int _] vX9_256 rfl rfl rfl (Nat.le_of_ble_eq_true rfl) ⟨rfl, rfl, Nat.le_of_ble_eq_true rfl, Nat.le_of_ble_eq_true rfl⟩ dX9_comes_148 h (fun _ _ q => cc9_send q) (fun _ S3 h => ?_)
          refine z_goto (pc := 151) (tgt := 175) X dX9_comes_151 (by decide) ?_
          exact z_sub [] rfl (zz9_comes_175 X  _ h)
      · skip
        refine z_arm h (fun hx h => ?_) (fun hx3 h => ?_)
        · refine z_tsIn (pc := 1) (tgt := 154) X 3 hx dX9_comes_1 (by decide) (by decide) rfl (by decide) ?_
          exact z_sub [0, 2, 3, 4] rfl (zz9_comes_154 X  _ _ _ _ h)
        · skip
          refine z_arm h (fun hx h => ?_) (fun hx4 h => ?_)
          · refine z_tsIn (pc := 1) (tgt := 36) X 4 hx dX9_comes_1 (by decide) (by decide) rfl (by decide) ?_
            exact z_sub [0, 1, 2, 3, 4, 5] rfl (zz9_comes_36 X  _ _ _ _ _ _ h)
          · skip
            have hs0 := lv_neT hx0 (a := 0) (by decide)
            have hs1 := lv_neT hx1 (a := 1) (by decide)
            have hs2 := lv_neT hx2 (a := 2) (by decide)
            have hs3 := lv_neT hx3 (a := 3) (by decide)
            have hs4 := lv_neT hx4 (a := 4) (by decide)
            refine z_tsOut (pc := 1) (tgt := 154) X dX9_comes_1 (by omega) (by decide) ?_
            exact z_sub [0, 2, 3, 4] rfl (zz9_comes_154 X  _ _ _ _ h)
theorem cc9_comes {l : Launch} {D : va_G} {cA : Nat → ClassId} {σ : Nat → Nat} {tS : Nat} {S S' : St} {x1 : Int32} {x2 : Int32} {x3 : Int32} {x4 : Int32} {x5 : Int32} (h : J9_comes S x1 x2 x3 x4 x5 = some ((), S')) : zMet l D cA σ shM tS yX9_comes cX9_comes 6 none rm9_comes [.ref (σ 0), .int x1, .int x2, .int x3, .int x4, .int x5] S none S' := z_met [(0, .ref (σ 0)), (1, .int x1), (2, .int x2), (3, .int x3), (4, .int x4), (5, .int x5)] (by decide +kernel) (Nat.le_of_ble_eq_true rfl) rfl (fun _ _ _ _ _ _ _ _ X => zz9_comes_0 X _ _ _ _ _ _ h)
set_option maxRecDepth 100000 in
set_option maxHeartbeats 4000000 in
theorem zz9_cut_35 {S' : St} {r : Int64} (X : zM p s m args meth c D cA σ shM tS RX9 cX9_cut 3 (some .long)) : ∀ (S : St) (t0 : Int64), J9_cut_35 S t0 = some (r, S') → Zj p l e rm9_cut s m args below meth c D cA σ shM 3 (some (.long r)) S' 35 [] [.long t0] S := by
  intro S t0 h
  rw [J9_cut_35] at h
  exact z_lret X rfl dX9_cut_35 h
set_option maxRecDepth 100000 in
set_option maxHeartbeats 4000000 in
theorem zz9_cut_0 {S' : St} {r : Int64} (X : zM p s m args meth c D cA σ shM tS RX9 cX9_cut 3 (some .long)) : ∀ (S : St) (x0 : Int64) (x2 : Int32), J9_cut S x0 x2 = some (r, S') → Zj p l e rm9_cut s m args below meth c D cA σ shM 3 (some (.long r)) S' 0 [(0, .long x0), (2, .int x2)] [] S := by
  intro S x0 x2 h
  rw [J9_cut] at h
  refine z_iload_n (pc := 0) X dX9_cut_0 rfl 1 rfl ?_
  refine z_if_ne (pc := 1) (tgt := 11) X dX9_cut_1 (by decide) h (fun h => ?_) (fun h => ?_)
  · refine z_iload_n (pc := 11) X dX9_cut_11 rfl 1 rfl ?_
    refine z_iconst (pc := 12) (v := 1) X dX9_cut_12 (by decide) ?_
    refine z_icmp_ne (pc := 13) (tgt := 23) X dX9_cut_13 (by decide) h (fun h => ?_) (fun h => ?_)
    · refine z_iload_n (pc := 23) X dX9_cut_23 rfl 1 rfl ?_
      refine z_iconst (pc := 24) (v := 2) X dX9_cut_24 (by decide) ?_
      refine z_icmp_ne (pc := 25) (tgt := 34) X dX9_cut_25 (by decide) h (fun h => ?_) (fun h => ?_)
      · refine z_lload_n (pc := 34) X dX9_cut_34 rfl 0 rfl ?_
        exact z_sub [] rfl (zz9_cut_35 X  _ _ h)
      · refine z_lload_n (pc := 28) X dX9_cut_28 rfl 0 rfl ?_
        refine z_l2i (pc := 29) X dX9_cut_29 ?_
        refine z_i2l (pc := 30) X dX9_cut_30 ?_
        refine z_goto (pc := 31) (tgt := 35) X dX9_cut_31 (by decide) ?_
        exact z_sub [] rfl (zz9_cut_35 X  _ _ h)
    · refine z_lload_n (pc := 16) X dX9_cut_16 rfl 0 rfl ?_
      refine z_l2i (pc := 17) X dX9_cut_17 ?_
      refine z_i2s (pc := 18) X dX9_cut_18 ?_
      refine z_i2l (pc := 19) X dX9_cut_19 ?_
      refine z_goto (pc := 20) (tgt := 35) X dX9_cut_20 (by decide) ?_
      exact z_sub [] rfl (zz9_cut_35 X  _ _ h)
  · refine z_lload_n (pc := 4) X dX9_cut_4 rfl 0 rfl ?_
    refine z_l2i (pc := 5) X dX9_cut_5 ?_
    refine z_i2b (pc := 6) X dX9_cut_6 ?_
    refine z_i2l (pc := 7) X dX9_cut_7 ?_
    refine z_goto (pc := 8) (tgt := 35) X dX9_cut_8 (by decide) ?_
    exact z_sub [] rfl (zz9_cut_35 X  _ _ h)
theorem cc9_cut {l : Launch} {D : va_G} {cA : Nat → ClassId} {σ : Nat → Nat} {tS : Nat} {S S' : St} {x0 : Int64} {x2 : Int32} {r : Int64} (h : J9_cut S x0 x2 = some (r, S')) : zMet l D cA σ shM tS yX9_cut cX9_cut 3 (some .long) rm9_cut [.long x0, .int x2] S (some (.long r)) S' := z_met [(0, .long x0), (2, .int x2)] (by decide +kernel) (Nat.le_of_ble_eq_true rfl) rfl (fun _ _ _ _ _ _ _ _ X => zz9_cut_0 X _ _ _ h)
set_option maxRecDepth 100000 in
set_option maxHeartbeats 4000000 in
theorem zz9_isSheet_14 {S' : St} {r : Int32} (X : zM p s m args meth c D cA σ shM tS RX9 cX9_isSheet 1 (some .boolean)) : ∀ (S : St) (t0 : Int32), J9_isSheet_14 S t0 = some (r, S') → Zj p l e rm9_isSheet s m args below meth c D cA σ shM 1 (some (.int r)) S' 14 [] [.int t0] S := by
  intro S t0 h
  rw [J9_isSheet_14] at h
  exact z_zret X rfl dX9_isSheet_14 h
set_option maxRecDepth 100000 in
set_option maxHeartbeats 4000000 in
theorem zz9_isSheet_13 {S' : St} {r : Int32} (X : zM p s m args meth c D cA σ shM tS RX9 cX9_isSheet 1 (some .boolean)) : ∀ (S : St), J9_isSheet_13 S = some (r, S') → Zj p l e rm9_isSheet s m args below meth c D cA σ shM 1 (some (.int r)) S' 13 [] [] S := by
  intro S h
  rw [J9_isSheet_13] at h
  refine z_iconst (pc := 13) (v := 0) X dX9_isSheet_13 (by decide) ?_
  exact z_sub [] rfl (zz9_isSheet_14 X  _ _ h)
set_option maxRecDepth 100000 in
set_option maxHeartbeats 4000000 in
theorem zz9_isSheet_0 {S' : St} {r : Int32} (X : zM p s m args meth c D cA σ shM tS RX9 cX9_isSheet 1 (some .boolean)) : ∀ (S : St) (x0 : Int32), J9_isSheet S x0 = some (r, S') → Zj p l e rm9_isSheet s m args below meth c D cA σ shM 1 (some (.int r)) S' 0 [(0, .int x0)] [] S := by
  intro S x0 h
  rw [J9_isSheet] at h
  refine z_iload_n (pc := 0) X dX9_isSheet_0 rfl 0 rfl ?_
  refine z_if_lt (pc := 1) (tgt := 13) X dX9_isSheet_1 (by decide) h (fun h => ?_) (fun h => ?_)
  · exact z_sub [] rfl (zz9_isSheet_13 X  _ h)
  · refine z_iload_n (pc := 4) X dX9_isSheet_4 rfl 0 rfl ?_
    refine z_iconst (pc := 5) (v := 4) X dX9_isSheet_5 (by decide) ?_
    refine z_icmp_ge (pc := 6) (tgt := 13) X dX9_isSheet_6 (by decide) h (fun h => ?_) (fun h => ?_)
    · exact z_sub [] rfl (zz9_isSheet_13 X  _ h)
    · refine z_iconst (pc := 9) (v := 1) X dX9_isSheet_9 (by decide) ?_
      refine z_goto (pc := 10) (tgt := 14) X dX9_isSheet_10 (by decide) ?_
      exact z_sub [] rfl (zz9_isSheet_14 X  _ _ h)
theorem cc9_isSheet {l : Launch} {D : va_G} {cA : Nat → ClassId} {σ : Nat → Nat} {tS : Nat} {S S' : St} {x0 : Int32} {r : Int32} (h : J9_isSheet S x0 = some (r, S')) : zMet l D cA σ shM tS yX9_isSheet cX9_isSheet 1 (some .boolean) rm9_isSheet [.int x0] S (some (.int r)) S' := z_met [(0, .int x0)] (by decide +kernel) (Nat.le_of_ble_eq_true rfl) rfl (fun _ _ _ _ _ _ _ _ X => zz9_isSheet_0 X _ _ h)
set_option maxRecDepth 100000 in
set_option maxHeartbeats 4000000 in
theorem zz9_copy_28 {S' : St} {r : Int32} (X : zM p s m args meth c D cA σ shM tS RX9 cX9_copy 8 (some .boolean)) : ∀ (S : St), J9_copy_28 S = some (r, S') → Zj p l e rm9_copy s m args below meth c D cA σ shM 8 (some (.int r)) S' 28 [(0, .ref (σ 0))] [] S := by
  intro S h
  rw [J9_copy_28] at h
  refine z_aload_n (pc := 28) X dX9_copy_28 rfl 0 rfl ?_
  refine z_iconst (pc := 29) (v := 1) X dX9_copy_29 (by decide) ?_
  refine z_callVi (pc := 30) (rm := rm9_is) X 0 [.int _] vX9_18 rfl rfl rfl (Nat.le_of_ble_eq_true rfl) ⟨rfl, rfl, Nat.le_of_ble_eq_true rfl, Nat.le_of_ble_eq_true rfl⟩ dX9_copy_30 h (fun _ _ q => cc9_is q) (fun r1 S1 h => ?_)
  exact z_zret X rfl dX9_copy_33 h
set_option maxRecDepth 100000 in
set_option maxHeartbeats 4000000 in
theorem zz9_copy_54 {S' : St} {r : Int32} (X : zM p s m args meth c D cA σ shM tS RX9 cX9_copy 8 (some .boolean)) : ∀ (S : St), J9_copy_54 S = some (r, S') → Zj p l e rm9_copy s m args below meth c D cA σ shM 8 (some (.int r)) S' 54 [(0, .ref (σ 0))] [] S := by
  intro S h
  rw [J9_copy_54] at h
  refine z_aload_n (pc := 54) X dX9_copy_54 rfl 0 rfl ?_
  refine z_iconst (pc := 55) (v := 2) X dX9_copy_55 (by decide) ?_
  refine z_callVi (pc := 56) (rm := rm9_is) X 0 [.int _] vX9_18 rfl rfl rfl (Nat.le_of_ble_eq_true rfl) ⟨rfl, rfl, Nat.le_of_ble_eq_true rfl, Nat.le_of_ble_eq_true rfl⟩ dX9_copy_56 h (fun _ _ q => cc9_is q) (fun r1 S1 h => ?_)
  exact z_zret X rfl dX9_copy_59 h
set_option maxRecDepth 100000 in
set_option maxHeartbeats 4000000 in
theorem zz9_copy_87 {S' : St} {r : Int32} (X : zM p s m args meth c D cA σ shM tS RX9 cX9_copy 8 (some .boolean)) : ∀ (S : St), J9_copy_87 S = some (r, S') → Zj p l e rm9_copy s m args below meth c D cA σ shM 8 (some (.int r)) S' 87 [(0, .ref (σ 0))] [] S := by
  intro S h
  rw [J9_copy_87] at h
  refine z_aload_n (pc := 87) X dX9_copy_87 rfl 0 rfl ?_
  refine z_iconst (pc := 88) (v := 3) X dX9_copy_88 (by decide) ?_
  refine z_callVi (pc := 89) (rm := rm9_is) X 0 [.int _] vX9_18 rfl rfl rfl (Nat.le_of_ble_eq_true rfl) ⟨rfl, rfl, Nat.le_of_ble_eq_true rfl, Nat.le_of_ble_eq_true rfl⟩ dX9_copy_89 h (fun _ _ q => cc9_is q) (fun r1 S1 h => ?_)
  exact z_zret X rfl dX9_copy_92 h
set_option maxRecDepth 100000 in
set_option maxHeartbeats 4000000 in
theorem zz9_copy_121 {S' : St} {r : Int32} (X : zM p s m args meth c D cA σ shM tS RX9 cX9_copy 8 (some .boolean)) (k96 : St → Int32 → Int32 → Int32 → Int32 → Int32 → Int32 → Option (Int32 × St)) (hk96 : ∀ (S : St) (x1 : Int32) (x2 : Int32) (x3 : Int32) (x4 : Int32) (x5 : Int32) (x6 : Int32), k96 S x1 x2 x3 x4 x5 x6 = some (r, S') → Zj p l e rm9_copy s m args below meth c D cA σ shM 8 (some (.int r)) S' 96 [(0, .ref (σ 0)), (1, .int x1), (2, .int x2), (3, .int x3), (4, .int x4), (5, .int x5), (6, .int x6)] [] S) : ∀ (S : St) (x1 : Int32) (x2 : Int32) (x3 : Int32) (x4 : Int32) (x5 : Int32) (x6 : Int32) (t0 : Int32), J9_copy_121 k96 S x1 x2 x3 x4 x5 x6 t0 = some (r, S') → Zj p l e rm9_copy s m args below meth c D cA σ shM 8 (some (.int r)) S' 121 [(0, .ref (σ 0)), (1, .int x1), (2, .int x2), (3, .int x3), (4, .int x4), (5, .int x5), (6, .int x6)] [.int t0] S := by
  intro S x1 x2 x3 x4 x5 x6 t0 h
  rw [J9_copy_121] at h
  refine z_istore (pc := 121) (L' := [(7, .int _), (0, .ref _), (1, .int _), (2, .int _), (3, .int _), (4, .int _), (5, .int _), (6, .int _)]) X dX9_copy_121 (by decide) rfl ?_
  refine z_aload_n (pc := 123) X dX9_copy_123 rfl 1 rfl ?_
  refine z_get (pc := 124) (v := .ref (σ 3)) X 0 fX9_28 rfl rfl dX9_copy_124 rfl ?_
  refine z_bipush (pc := 127) (v := 16) X dX9_copy_127 (by decide) ?_
  refine z_iload_n (pc := 129) X dX9_copy_129 rfl 4 rfl ?_
  refine z_imul (pc := 130) X dX9_copy_130 ?_
  refine z_iload (pc := 131) X dX9_copy_131 5 rfl ?_
  refine z_iadd (pc := 133) X dX9_copy_133 ?_
  refine z_iload (pc := 134) X dX9_copy_134 0 rfl ?_
  refine z_iadd (pc := 136) X dX9_copy_136 ?_
  refine z_aload_n (pc := 137) X dX9_copy_137 rfl 1 rfl ?_
  refine z_get (pc := 138) (v := .ref (σ 3)) X 0 fX9_28 rfl rfl dX9_copy_138 rfl ?_
  refine z_bipush (pc := 141) (v := 16) X dX9_copy_141 (by decide) ?_
  refine z_iload_n (pc := 143) X dX9_copy_143 rfl 2 rfl ?_
  refine z_imul (pc := 144) X dX9_copy_144 ?_
  refine z_iload_n (pc := 145) X dX9_copy_145 rfl 3 rfl ?_
  refine z_iadd (pc := 146) X dX9_copy_146 ?_
  refine z_iload (pc := 147) X dX9_copy_147 0 rfl ?_
  refine z_iadd (pc := 149) X dX9_copy_149 ?_
  refine z_lald (pc := 150) X 3 rfl dX9_copy_150 h (fun h => ?_)
  refine z_aload_n (pc := 151) X dX9_copy_151 rfl 1 rfl ?_
  refine z_get (pc := 152) (v := .ref (σ 1)) X 0 fX9_21 rfl rfl dX9_copy_152 rfl ?_
  refine z_iload_n (pc := 155) X dX9_copy_155 rfl 4 rfl ?_
  refine z_iald (pc := 156) X 1 rfl dX9_copy_156 h (fun h => ?_)
  refine z_callSl (pc := 157) (rm := rm9_cut) X [.long _, .int _] sX9_36 rfl rfl (Nat.le_of_ble_eq_true rfl) ⟨rfl, rfl, Nat.le_of_ble_eq_true rfl, Nat.le_of_ble_eq_true rfl⟩ dX9_copy_157 h (fun _ _ q => cc9_cut q) (fun r1 S1 h => ?_)
  refine z_last (pc := 160) X 3 rfl dX9_copy_160 h (fun h => ?_)
  refine z_let h (fun h => ?_)
  refine z_iinc (pc := 161) (k := 7) (v := 1) (L' := [(6, .int _), (7, .int _), (0, .ref _), (1, .int _), (2, .int _), (3, .int _), (4, .int _), (5, .int _)]) X dX9_copy_161 rfl (by decide) (by decide) rfl ?_
  refine z_let h (fun h => ?_)
  refine z_goto (pc := 164) (tgt := 96) X dX9_copy_164 (by decide) ?_
  exact z_sub [2, 3, 4, 5, 6, 7, 0] rfl (hk96 _ _ _ _ _ _ _ h)
set_option maxRecDepth 100000 in
set_option maxHeartbeats 4000000 in
theorem zz9_copy_96 {S' : St} {r : Int32} (X : zM p s m args meth c D cA σ shM tS RX9 cX9_copy 8 (some .boolean)) : ∀ (n : Nat) (S : St) (x1 : Int32) (x2 : Int32) (x3 : Int32) (x4 : Int32) (x5 : Int32) (x6 : Int32), J9_copy_96 n S x1 x2 x3 x4 x5 x6 = some (r, S') → Zj p l e rm9_copy s m args below meth c D cA σ shM 8 (some (.int r)) S' 96 [(0, .ref (σ 0)), (1, .int x1), (2, .int x2), (3, .int x3), (4, .int x4), (5, .int x5), (6, .int x6)] [] S := by
  intro n
  induction n with
  | zero =>
    intro S x1 x2 x3 x4 x5 x6 h
    rw [J9_copy_96] at h
    cases h
  | succ n ih =>
    intro S x1 x2 x3 x4 x5 x6 h
    rw [J9_copy_96] at h
    refine z_iload (pc := 96) X dX9_copy_96 6 rfl ?_
    refine z_iload (pc := 98) X dX9_copy_98 5 rfl ?_
    refine z_icmp_ge (pc := 100) (tgt := 167) X dX9_copy_100 (by decide) h (fun h => ?_) (fun h => ?_)
    · refine z_aload_n (pc := 167) X dX9_copy_167 rfl 0 rfl ?_
      refine z_iconst (pc := 168) (v := 0) X dX9_copy_168 (by decide) ?_
      refine z_callVi (pc := 169) (rm := rm9_is) X 0 [.int _] vX9_18 rfl rfl rfl (Nat.le_of_ble_eq_true rfl) ⟨rfl, rfl, Nat.le_of_ble_eq_true rfl, Nat.le_of_ble_eq_true rfl⟩ dX9_copy_169 h (fun _ _ q => cc9_is q) (fun r1 S1 h => ?_)
      exact z_zret X rfl dX9_copy_172 h
    · refine z_iload_n (pc := 103) X dX9_copy_103 rfl 2 rfl ?_
      refine z_iload (pc := 104) X dX9_copy_104 4 rfl ?_
      refine z_icmp_ge (pc := 106) (tgt := 119) X dX9_copy_106 (by decide) h (fun h => ?_) (fun h => ?_)
      · refine z_iload (pc := 119) X dX9_copy_119 6 rfl ?_
        exact z_sub [0, 1, 2, 3, 4, 5, 6] rfl (zz9_copy_121 X _ ih _ _ _ _ _ _ _ _ h)
      · refine z_iload (pc := 109) X dX9_copy_109 5 rfl ?_
        refine z_iconst (pc := 111) (v := 1) X dX9_copy_111 (by decide) ?_
        refine z_isub (pc := 112) X dX9_copy_112 ?_
        refine z_iload (pc := 113) X dX9_copy_113 6 rfl ?_
        refine z_isub (pc := 115) X dX9_copy_115 ?_
        refine z_goto (pc := 116) (tgt := 121) X dX9_copy_116 (by decide) ?_
        exact z_sub [0, 1, 2, 3, 4, 5, 6] rfl (zz9_copy_121 X _ ih _ _ _ _ _ _ _ _ h)
set_option maxRecDepth 100000 in
set_option maxHeartbeats 4000000 in
theorem zz9_copy_0 {S' : St} {r : Int32} (X : zM p s m args meth c D cA σ shM tS RX9 cX9_copy 8 (some .boolean)) : ∀ (S : St) (x1 : Int32) (x2 : Int32) (x3 : Int32) (x4 : Int32) (x5 : Int32), J9_copy S x1 x2 x3 x4 x5 = some (r, S') → Zj p l e rm9_copy s m args below meth c D cA σ shM 8 (some (.int r)) S' 0 [(0, .ref (σ 0)), (1, .int x1), (2, .int x2), (3, .int x3), (4, .int x4), (5, .int x5)] [] S := by
  intro S x1 x2 x3 x4 x5 h
  rw [J9_copy] at h
  refine z_iload_n (pc := 0) X dX9_copy_0 rfl 1 rfl ?_
  refine z_callSi (pc := 1) (rm := rm9_isSheet) X [.int _] sX9_14 rfl rfl (Nat.le_of_ble_eq_true rfl) ⟨rfl, rfl, Nat.le_of_ble_eq_true rfl, Nat.le_of_ble_eq_true rfl⟩ dX9_copy_1 h (fun _ _ q => cc9_isSheet q) (fun r1 S1 h => ?_)
  refine z_if_eq (pc := 4) (tgt := 28) X dX9_copy_4 (by decide) h (fun h => ?_) (fun h => ?_)
  · exact z_sub [0] rfl (zz9_copy_28 X  _ h)
  · refine z_iload_n (pc := 7) X dX9_copy_7 rfl 3 rfl ?_
    refine z_callSi (pc := 8) (rm := rm9_isSheet) X [.int _] sX9_14 rfl rfl (Nat.le_of_ble_eq_true rfl) ⟨rfl, rfl, Nat.le_of_ble_eq_true rfl, Nat.le_of_ble_eq_true rfl⟩ dX9_copy_8 h (fun _ _ q => cc9_isSheet q) (fun r2 S2 h => ?_)
    refine z_if_eq (pc := 11) (tgt := 28) X dX9_copy_11 (by decide) h (fun h => ?_) (fun h => ?_)
    · exact z_sub [0] rfl (zz9_copy_28 X  _ h)
    · refine z_iload_n (pc := 14) X dX9_copy_14 rfl 2 rfl ?_
      refine z_if_lt (pc := 15) (tgt := 28) X dX9_copy_15 (by decide) h (fun h => ?_) (fun h => ?_)
      · exact z_sub [0] rfl (zz9_copy_28 X  _ h)
      · refine z_iload (pc := 18) X dX9_copy_18 4 rfl ?_
        refine z_if_lt (pc := 20) (tgt := 28) X dX9_copy_20 (by decide) h (fun h => ?_) (fun h => ?_)
        · exact z_sub [0] rfl (zz9_copy_28 X  _ h)
        · refine z_iload (pc := 23) X dX9_copy_23 5 rfl ?_
          refine z_if_ge (pc := 25) (tgt := 34) X dX9_copy_25 (by decide) h (fun h => ?_) (fun h => ?_)
          · refine z_aload_n (pc := 34) X dX9_copy_34 rfl 0 rfl ?_
            refine z_get (pc := 35) (v := .ref (σ 2)) X 0 fX9_25 rfl rfl dX9_copy_35 rfl ?_
            refine z_iload_n (pc := 38) X dX9_copy_38 rfl 1 rfl ?_
            refine z_iald (pc := 39) X 2 rfl dX9_copy_39 h (fun h => ?_)
            refine z_iconst (pc := 40) (v := -1) X dX9_copy_40 (by decide) ?_
            refine z_icmp_eq (pc := 41) (tgt := 54) X dX9_copy_41 (by decide) h (fun h => ?_) (fun h => ?_)
            · exact z_sub [0] rfl (zz9_copy_54 X  _ h)
            · refine z_aload_n (pc := 44) X dX9_copy_44 rfl 0 rfl ?_
              refine z_get (pc := 45) (v := .ref (σ 2)) X 0 fX9_25 rfl rfl dX9_copy_45 rfl ?_
              refine z_iload_n (pc := 48) X dX9_copy_48 rfl 3 rfl ?_
              refine z_iald (pc := 49) X 2 rfl dX9_copy_49 h (fun h => ?_)
              refine z_iconst (pc := 50) (v := -1) X dX9_copy_50 (by decide) ?_
              refine z_icmp_ne (pc := 51) (tgt := 60) X dX9_copy_51 (by decide) h (fun h => ?_) (fun h => ?_)
              · refine z_iload (pc := 60) X dX9_copy_60 5 rfl ?_
                refine z_aload_n (pc := 62) X dX9_copy_62 rfl 0 rfl ?_
                refine z_get (pc := 63) (v := .ref (σ 2)) X 0 fX9_25 rfl rfl dX9_copy_63 rfl ?_
                refine z_iload_n (pc := 66) X dX9_copy_66 rfl 1 rfl ?_
                refine z_iald (pc := 67) X 2 rfl dX9_copy_67 h (fun h => ?_)
                refine z_iload_n (pc := 68) X dX9_copy_68 rfl 2 rfl ?_
                refine z_isub (pc := 69) X dX9_copy_69 ?_
                refine z_icmp_gt (pc := 70) (tgt := 87) X dX9_copy_70 (by decide) h (fun h => ?_) (fun h => ?_)
                · exact z_sub [0] rfl (zz9_copy_87 X  _ h)
                · refine z_iload (pc := 73) X dX9_copy_73 5 rfl ?_
                  refine z_aload_n (pc := 75) X dX9_copy_75 rfl 0 rfl ?_
                  refine z_get (pc := 76) (v := .ref (σ 2)) X 0 fX9_25 rfl rfl dX9_copy_76 rfl ?_
                  refine z_iload_n (pc := 79) X dX9_copy_79 rfl 3 rfl ?_
                  refine z_iald (pc := 80) X 2 rfl dX9_copy_80 h (fun h => ?_)
                  refine z_iload (pc := 81) X dX9_copy_81 4 rfl ?_
                  refine z_isub (pc := 83) X dX9_copy_83 ?_
                  refine z_icmp_le (pc := 84) (tgt := 93) X dX9_copy_84 (by decide) h (fun h => ?_) (fun h => ?_)
                  · refine z_iconst (pc := 93) (v := 0) X dX9_copy_93 (by decide) ?_
                    refine z_istore (pc := 94) (L' := [(6, .int _), (0, .ref _), (1, .int _), (2, .int _), (3, .int _), (4, .int _), (5, .int _)]) X dX9_copy_94 (by decide) rfl ?_
                    exact z_sub [1, 2, 3, 4, 5, 6, 0] rfl (zz9_copy_96 X  fu _ _ _ _ _ _ _ h)
                  · exact z_sub [0] rfl (zz9_copy_87 X  _ h)
              · exact z_sub [0] rfl (zz9_copy_54 X  _ h)
          · exact z_sub [0] rfl (zz9_copy_28 X  _ h)
theorem cc9_copy {l : Launch} {D : va_G} {cA : Nat → ClassId} {σ : Nat → Nat} {tS : Nat} {S S' : St} {x1 : Int32} {x2 : Int32} {x3 : Int32} {x4 : Int32} {x5 : Int32} {r : Int32} (h : J9_copy S x1 x2 x3 x4 x5 = some (r, S')) : zMet l D cA σ shM tS yX9_copy cX9_copy 8 (some .boolean) rm9_copy [.ref (σ 0), .int x1, .int x2, .int x3, .int x4, .int x5] S (some (.int r)) S' := z_met [(0, .ref (σ 0)), (1, .int x1), (2, .int x2), (3, .int x3), (4, .int x4), (5, .int x5)] (by decide +kernel) (Nat.le_of_ble_eq_true rfl) rfl (fun _ _ _ _ _ _ _ _ X => zz9_copy_0 X _ _ _ _ _ _ h)
set_option maxRecDepth 100000 in
set_option maxHeartbeats 4000000 in
theorem zz9_delay_0 {S' : St} {r : Int32} (X : zM p s m args meth c D cA σ shM tS RX9 cX9_delay 3 (some .int)) : ∀ (S : St) (x1 : Int32) (x2 : Int32), J9_delay S x1 x2 = some (r, S') → Zj p l e rm9_delay s m args below meth c D cA σ shM 3 (some (.int r)) S' 0 [(0, .ref (σ 0)), (1, .int x1), (2, .int x2)] [] S := by
  intro S x1 x2 h
  rw [J9_delay] at h
  refine z_aload_n (pc := 0) X dX9_delay_0 rfl 0 rfl ?_
  refine z_get (pc := 1) (v := .ref (σ 3)) X 0 fX9_28 rfl rfl dX9_delay_1 rfl ?_
  refine z_bipush (pc := 4) (v := 16) X dX9_delay_4 (by decide) ?_
  refine z_iload_n (pc := 6) X dX9_delay_6 rfl 1 rfl ?_
  refine z_imul (pc := 7) X dX9_delay_7 ?_
  refine z_iload_n (pc := 8) X dX9_delay_8 rfl 2 rfl ?_
  refine z_iadd (pc := 9) X dX9_delay_9 ?_
  refine z_lald (pc := 10) X 3 rfl dX9_delay_10 h (fun h => ?_)
  refine z_l2i (pc := 11) X dX9_delay_11 ?_
  exact z_iret X rfl dX9_delay_12 h
theorem cc9_delay {l : Launch} {D : va_G} {cA : Nat → ClassId} {σ : Nat → Nat} {tS : Nat} {S S' : St} {x1 : Int32} {x2 : Int32} {r : Int32} (h : J9_delay S x1 x2 = some (r, S')) : zMet l D cA σ shM tS yX9_delay cX9_delay 3 (some .int) rm9_delay [.ref (σ 0), .int x1, .int x2] S (some (.int r)) S' := z_met [(0, .ref (σ 0)), (1, .int x1), (2, .int x2)] (by decide +kernel) (Nat.le_of_ble_eq_true rfl) rfl (fun _ _ _ _ _ _ _ _ X => zz9_delay_0 X _ _ _ h)
set_option maxRecDepth 100000 in
set_option maxHeartbeats 4000000 in
theorem zz9_done_54 {S' : St} {r : Int32} (X : zM p s m args meth c D cA σ shM tS RX9 cX9_done 3 (some .int)) : ∀ (S : St) (x1 : Int32) (t0 : Int32), J9_done_54 S x1 t0 = some (r, S') → Zj p l e rm9_done s m args below meth c D cA σ shM 3 (some (.int r)) S' 54 [(0, .ref (σ 0)), (1, .int x1)] [.int t0] S := by
  intro S x1 t0 h
  rw [J9_done_54] at h
  refine z_istore_n (pc := 54) (L' := [(2, .int _), (0, .ref _), (1, .int _)]) X dX9_done_54 rfl (by decide) rfl ?_
  refine z_iload_n (pc := 55) X dX9_done_55 rfl 0 rfl ?_
  refine z_if_le (pc := 56) (tgt := 65) X dX9_done_56 (by decide) h (fun h => ?_) (fun h => ?_)
  · refine z_aload_n (pc := 65) X dX9_done_65 rfl 1 rfl ?_
    refine z_iconst (pc := 66) (v := 0) X dX9_done_66 (by decide) ?_
    refine z_putI (pc := 67) X 0 gX9_1 rfl rfl dX9_done_67 ?_
    refine z_let h (fun h => ?_)
    refine z_aload_n (pc := 70) X dX9_done_70 rfl 1 rfl ?_
    refine z_get (pc := 71) (v := .ref (σ 23)) X 0 fX9_118 rfl rfl dX9_done_71 rfl ?_
    refine z_iload_n (pc := 74) X dX9_done_74 rfl 2 rfl ?_
    refine z_iald (pc := 75) X 23 rfl dX9_done_75 h (fun h => ?_)
    exact z_iret X rfl dX9_done_76 h
  · refine z_aload_n (pc := 59) X dX9_done_59 rfl 1 rfl ?_
    refine z_iload_n (pc := 60) X dX9_done_60 rfl 0 rfl ?_
    refine z_callVi (pc := 61) (rm := rm9_refuse) X 0 [.int _] vX9_154 rfl rfl rfl (Nat.le_of_ble_eq_true rfl) ⟨rfl, rfl, Nat.le_of_ble_eq_true rfl, Nat.le_of_ble_eq_true rfl⟩ dX9_done_61 h (fun _ _ q => cc9_refuse q) (fun r2 S2 h => ?_)
    exact z_iret X rfl dX9_done_64 h
set_option maxRecDepth 100000 in
set_option maxHeartbeats 4000000 in
theorem zz9_done_11 {S' : St} {r : Int32} (X : zM p s m args meth c D cA σ shM tS RX9 cX9_done 3 (some .int)) : ∀ (S : St) (x1 : Int32), J9_done_11 S x1 = some (r, S') → Zj p l e rm9_done s m args below meth c D cA σ shM 3 (some (.int r)) S' 11 [(0, .ref (σ 0)), (1, .int x1)] [] S := by
  intro S x1 h
  rw [J9_done_11] at h
  refine z_iconst (pc := 11) (v := 1) X dX9_done_11 (by decide) ?_
  refine z_goto (pc := 12) (tgt := 54) X dX9_done_12 (by decide) ?_
  exact z_sub [0, 1] rfl (zz9_done_54 X  _ _ _ h)
set_option maxRecDepth 100000 in
set_option maxHeartbeats 4000000 in
theorem zz9_done_0 {S' : St} {r : Int32} (X : zM p s m args meth c D cA σ shM tS RX9 cX9_done 3 (some .int)) : ∀ (S : St) (x1 : Int32), J9_done S x1 = some (r, S') → Zj p l e rm9_done s m args below meth c D cA σ shM 3 (some (.int r)) S' 0 [(0, .ref (σ 0)), (1, .int x1)] [] S := by
  intro S x1 h
  rw [J9_done] at h
  refine z_iload_n (pc := 0) X dX9_done_0 rfl 1 rfl ?_
  refine z_iconst (pc := 1) (v := 1) X dX9_done_1 (by decide) ?_
  refine z_icmp_lt (pc := 2) (tgt := 11) X dX9_done_2 (by decide) h (fun h => ?_) (fun h => ?_)
  · exact z_sub [0, 1] rfl (zz9_done_11 X  _ _ h)
  · refine z_iload_n (pc := 5) X dX9_done_5 rfl 1 rfl ?_
    refine z_bipush (pc := 6) (v := 40) X dX9_done_6 (by decide) ?_
    refine z_icmp_le (pc := 8) (tgt := 15) X dX9_done_8 (by decide) h (fun h => ?_) (fun h => ?_)
    · refine z_aload_n (pc := 15) X dX9_done_15 rfl 0 rfl ?_
      refine z_get (pc := 16) (v := .int _) X 0 fX9_208 rfl rfl dX9_done_16 rfl ?_
      refine z_if_ne (pc := 19) (tgt := 26) X dX9_done_19 (by decide) h (fun h => ?_) (fun h => ?_)
      · refine z_iload_n (pc := 26) X dX9_done_26 rfl 1 rfl ?_
        refine z_aload_n (pc := 27) X dX9_done_27 rfl 0 rfl ?_
        refine z_get (pc := 28) (v := .int _) X 0 fX9_236 rfl rfl dX9_done_28 rfl ?_
        refine z_icmp_le (pc := 31) (tgt := 38) X dX9_done_31 (by decide) h (fun h => ?_) (fun h => ?_)
        · refine z_aload_n (pc := 38) X dX9_done_38 rfl 0 rfl ?_
          refine z_get (pc := 39) (v := .ref (σ 23)) X 0 fX9_118 rfl rfl dX9_done_39 rfl ?_
          refine z_iload_n (pc := 42) X dX9_done_42 rfl 1 rfl ?_
          refine z_iald (pc := 43) X 23 rfl dX9_done_43 h (fun h => ?_)
          refine z_iconst (pc := 44) (v := -1) X dX9_done_44 (by decide) ?_
          refine z_icmp_ne (pc := 45) (tgt := 53) X dX9_done_45 (by decide) h (fun h => ?_) (fun h => ?_)
          · refine z_iconst (pc := 53) (v := 0) X dX9_done_53 (by decide) ?_
            exact z_sub [0, 1] rfl (zz9_done_54 X  _ _ _ h)
          · refine z_bipush (pc := 48) (v := 7) X dX9_done_48 (by decide) ?_
            refine z_goto (pc := 50) (tgt := 54) X dX9_done_50 (by decide) ?_
            exact z_sub [0, 1] rfl (zz9_done_54 X  _ _ _ h)
        · refine z_iconst (pc := 34) (v := 1) X dX9_done_34 (by decide) ?_
          refine z_goto (pc := 35) (tgt := 54) X dX9_done_35 (by decide) ?_
          exact z_sub [0, 1] rfl (zz9_done_54 X  _ _ _ h)
      · refine z_iconst (pc := 22) (v := 4) X dX9_done_22 (by decide) ?_
        refine z_goto (pc := 23) (tgt := 54) X dX9_done_23 (by decide) ?_
        exact z_sub [0, 1] rfl (zz9_done_54 X  _ _ _ h)
    · exact z_sub [0, 1] rfl (zz9_done_11 X  _ _ h)
theorem cc9_done {l : Launch} {D : va_G} {cA : Nat → ClassId} {σ : Nat → Nat} {tS : Nat} {S S' : St} {x1 : Int32} {r : Int32} (h : J9_done S x1 = some (r, S')) : zMet l D cA σ shM tS yX9_done cX9_done 3 (some .int) rm9_done [.ref (σ 0), .int x1] S (some (.int r)) S' := z_met [(0, .ref (σ 0)), (1, .int x1)] (by decide +kernel) (Nat.le_of_ble_eq_true rfl) rfl (fun _ _ _ _ _ _ _ _ X => zz9_done_0 X _ _ h)
set_option maxRecDepth 100000 in
set_option maxHeartbeats 4000000 in
theorem zz9_wrongCopy_37 {S' : St} {r : Int32} (X : zM p s m args meth c D cA σ shM tS RX9 cX9_wrongCopy 2 (some .int)) : ∀ (S : St) (t0 : Int32), J9_wrongCopy_37 S t0 = some (r, S') → Zj p l e rm9_wrongCopy s m args below meth c D cA σ shM 2 (some (.int r)) S' 37 [] [.int t0] S := by
  intro S t0 h
  rw [J9_wrongCopy_37] at h
  exact z_iret X rfl dX9_wrongCopy_37 h
set_option maxRecDepth 100000 in
set_option maxHeartbeats 4000000 in
theorem zz9_wrongCopy_9 {S' : St} {r : Int32} (X : zM p s m args meth c D cA σ shM tS RX9 cX9_wrongCopy 2 (some .int)) : ∀ (S : St), J9_wrongCopy_9 S = some (r, S') → Zj p l e rm9_wrongCopy s m args below meth c D cA σ shM 2 (some (.int r)) S' 9 [] [] S := by
  intro S h
  rw [J9_wrongCopy_9] at h
  refine z_iconst (pc := 9) (v := 1) X dX9_wrongCopy_9 (by decide) ?_
  refine z_goto (pc := 10) (tgt := 37) X dX9_wrongCopy_10 (by decide) ?_
  exact z_sub [] rfl (zz9_wrongCopy_37 X  _ _ h)
set_option maxRecDepth 100000 in
set_option maxHeartbeats 4000000 in
theorem zz9_wrongCopy_0 {S' : St} {r : Int32} (X : zM p s m args meth c D cA σ shM tS RX9 cX9_wrongCopy 2 (some .int)) : ∀ (S : St) (x1 : Int32), J9_wrongCopy S x1 = some (r, S') → Zj p l e rm9_wrongCopy s m args below meth c D cA σ shM 2 (some (.int r)) S' 0 [(0, .ref (σ 0)), (1, .int x1)] [] S := by
  intro S x1 h
  rw [J9_wrongCopy] at h
  refine z_iload_n (pc := 0) X dX9_wrongCopy_0 rfl 1 rfl ?_
  refine z_if_lt (pc := 1) (tgt := 9) X dX9_wrongCopy_1 (by decide) h (fun h => ?_) (fun h => ?_)
  · exact z_sub [] rfl (zz9_wrongCopy_9 X  _ h)
  · refine z_iload_n (pc := 4) X dX9_wrongCopy_4 rfl 1 rfl ?_
    refine z_iconst (pc := 5) (v := 5) X dX9_wrongCopy_5 (by decide) ?_
    refine z_icmp_lt (pc := 6) (tgt := 13) X dX9_wrongCopy_6 (by decide) h (fun h => ?_) (fun h => ?_)
    · refine z_aload_n (pc := 13) X dX9_wrongCopy_13 rfl 0 rfl ?_
      refine z_get (pc := 14) (v := .int _) X 0 fX9_208 rfl rfl dX9_wrongCopy_14 rfl ?_
      refine z_if_ne (pc := 17) (tgt := 24) X dX9_wrongCopy_17 (by decide) h (fun h => ?_) (fun h => ?_)
      · refine z_iload_n (pc := 24) X dX9_wrongCopy_24 rfl 1 rfl ?_
        refine z_aload_n (pc := 25) X dX9_wrongCopy_25 rfl 0 rfl ?_
        refine z_get (pc := 26) (v := .int _) X 0 fX9_215 rfl rfl dX9_wrongCopy_26 rfl ?_
        refine z_icmp_lt (pc := 29) (tgt := 36) X dX9_wrongCopy_29 (by decide) h (fun h => ?_) (fun h => ?_)
        · refine z_iconst (pc := 36) (v := 0) X dX9_wrongCopy_36 (by decide) ?_
          exact z_sub [] rfl (zz9_wrongCopy_37 X  _ _ h)
        · refine z_iconst (pc := 32) (v := 1) X dX9_wrongCopy_32 (by decide) ?_
          refine z_goto (pc := 33) (tgt := 37) X dX9_wrongCopy_33 (by decide) ?_
          exact z_sub [] rfl (zz9_wrongCopy_37 X  _ _ h)
      · refine z_iconst (pc := 20) (v := 4) X dX9_wrongCopy_20 (by decide) ?_
        refine z_goto (pc := 21) (tgt := 37) X dX9_wrongCopy_21 (by decide) ?_
        exact z_sub [] rfl (zz9_wrongCopy_37 X  _ _ h)
    · exact z_sub [] rfl (zz9_wrongCopy_9 X  _ h)
theorem cc9_wrongCopy {l : Launch} {D : va_G} {cA : Nat → ClassId} {σ : Nat → Nat} {tS : Nat} {S S' : St} {x1 : Int32} {r : Int32} (h : J9_wrongCopy S x1 = some (r, S')) : zMet l D cA σ shM tS yX9_wrongCopy cX9_wrongCopy 2 (some .int) rm9_wrongCopy [.ref (σ 0), .int x1] S (some (.int r)) S' := z_met [(0, .ref (σ 0)), (1, .int x1)] (by decide +kernel) (Nat.le_of_ble_eq_true rfl) rfl (fun _ _ _ _ _ _ _ _ X => zz9_wrongCopy_0 X _ _ h)
set_option maxRecDepth 100000 in
set_option maxHeartbeats 4000000 in
theorem zz9_down_82 {S' : St} {r : Int32} (X : zM p s m args meth c D cA σ shM tS RX9 cX9_down 5 (some .boolean)) (k52 : St → Int32 → Int32 → Option (Int32 × St)) (hk52 : ∀ (S : St) (x1 : Int32) (x4 : Int32), k52 S x1 x4 = some (r, S') → Zj p l e rm9_down s m args below meth c D cA σ shM 5 (some (.int r)) S' 52 [(0, .ref (σ 0)), (1, .int x1), (4, .int x4)] [] S) : ∀ (S : St) (x1 : Int32) (x4 : Int32) (t0 : Int32) (t1 : Int32), J9_down_82 k52 S x1 x4 t0 t1 = some (r, S') → Zj p l e rm9_down s m args below meth c D cA σ shM 5 (some (.int r)) S' 82 [(0, .ref (σ 0)), (1, .int x1), (4, .int x4)] [.int t0, .int t1, .ref (σ 0)] S := by
  intro S x1 x4 t0 t1 h
  rw [J9_down_82] at h
  refine z_iadd (pc := 82) X dX9_down_82 ?_
  refine z_putI (pc := 83) X 0 gX9_230 rfl rfl dX9_down_83 ?_
  refine z_let h (fun h => ?_)
  refine z_aload_n (pc := 86) X dX9_down_86 rfl 0 rfl ?_
  refine z_get (pc := 87) (v := .ref (σ 11)) X 0 fX9_81 rfl rfl dX9_down_87 rfl ?_
  refine z_iconst (pc := 90) (v := 5) X dX9_down_90 (by decide) ?_
  refine z_iload_n (pc := 91) X dX9_down_91 rfl 1 rfl ?_
  refine z_imul (pc := 92) X dX9_down_92 ?_
  refine z_iload (pc := 93) X dX9_down_93 2 rfl ?_
  refine z_iadd (pc := 95) X dX9_down_95 ?_
  refine z_iconst (pc := 96) (v := 0) X dX9_down_96 (by decide) ?_
  refine z_iast (pc := 97) X 11 rfl dX9_down_97 h (fun h => ?_)
  refine z_let h (fun h => ?_)
  refine z_iinc (pc := 98) (k := 2) (v := 1) (L' := [(4, .int _), (0, .ref _), (1, .int _)]) X dX9_down_98 rfl (by decide) (by decide) rfl ?_
  refine z_let h (fun h => ?_)
  refine z_goto (pc := 101) (tgt := 52) X dX9_down_101 (by decide) ?_
  exact z_sub [1, 2, 0] rfl (hk52 _ _ _ h)
set_option maxRecDepth 100000 in
set_option maxHeartbeats 4000000 in
theorem zz9_down_104 {S' : St} {r : Int32} (X : zM p s m args meth c D cA σ shM tS RX9 cX9_down 5 (some .boolean)) : ∀ (S : St), J9_down_104 S = some (r, S') → Zj p l e rm9_down s m args below meth c D cA σ shM 5 (some (.int r)) S' 104 [(0, .ref (σ 0))] [] S := by
  intro S h
  rw [J9_down_104] at h
  refine z_aload_n (pc := 104) X dX9_down_104 rfl 0 rfl ?_
  refine z_iconst (pc := 105) (v := 0) X dX9_down_105 (by decide) ?_
  refine z_callVi (pc := 106) (rm := rm9_is) X 0 [.int _] vX9_18 rfl rfl rfl (Nat.le_of_ble_eq_true rfl) ⟨rfl, rfl, Nat.le_of_ble_eq_true rfl, Nat.le_of_ble_eq_true rfl⟩ dX9_down_106 h (fun _ _ q => cc9_is q) (fun r1 S1 h => ?_)
  exact z_zret X rfl dX9_down_109 h
set_option maxRecDepth 100000 in
set_option maxHeartbeats 4000000 in
theorem zz9_down_52 {S' : St} {r : Int32} (X : zM p s m args meth c D cA σ shM tS RX9 cX9_down 5 (some .boolean)) : ∀ (n : Nat) (S : St) (x1 : Int32) (x4 : Int32), J9_down_52 n S x1 x4 = some (r, S') → Zj p l e rm9_down s m args below meth c D cA σ shM 5 (some (.int r)) S' 52 [(0, .ref (σ 0)), (1, .int x1), (4, .int x4)] [] S := by
  intro n
  induction n with
  | zero =>
    intro S x1 x4 h
    rw [J9_down_52] at h
    cases h
  | succ n ih =>
    intro S x1 x4 h
    rw [J9_down_52] at h
    refine z_iload (pc := 52) X dX9_down_52 2 rfl ?_
    refine z_iconst (pc := 54) (v := 5) X dX9_down_54 (by decide) ?_
    refine z_icmp_ge (pc := 55) (tgt := 104) X dX9_down_55 (by decide) h (fun h => ?_) (fun h => ?_)
    · exact z_sub [0] rfl (zz9_down_104 X  _ h)
    · refine z_aload_n (pc := 58) X dX9_down_58 rfl 0 rfl ?_
      refine z_dup (pc := 59) X dX9_down_59 rfl ?_
      refine z_get (pc := 60) (v := .int _) X 0 fX9_230 rfl rfl dX9_down_60 rfl ?_
      refine z_aload_n (pc := 63) X dX9_down_63 rfl 0 rfl ?_
      refine z_get (pc := 64) (v := .ref (σ 11)) X 0 fX9_81 rfl rfl dX9_down_64 rfl ?_
      refine z_iconst (pc := 67) (v := 5) X dX9_down_67 (by decide) ?_
      refine z_iload_n (pc := 68) X dX9_down_68 rfl 1 rfl ?_
      refine z_imul (pc := 69) X dX9_down_69 ?_
      refine z_iload (pc := 70) X dX9_down_70 2 rfl ?_
      refine z_iadd (pc := 72) X dX9_down_72 ?_
      refine z_iald (pc := 73) X 11 rfl dX9_down_73 h (fun h => ?_)
      refine z_if_le (pc := 74) (tgt := 81) X dX9_down_74 (by decide) h (fun h => ?_) (fun h => ?_)
      · refine z_iconst (pc := 81) (v := 0) X dX9_down_81 (by decide) ?_
        exact z_sub [0, 1, 2] rfl (zz9_down_82 X _ ih _ _ _ _ _ h)
      · refine z_iconst (pc := 77) (v := 1) X dX9_down_77 (by decide) ?_
        refine z_goto (pc := 78) (tgt := 82) X dX9_down_78 (by decide) ?_
        exact z_sub [0, 1, 2] rfl (zz9_down_82 X _ ih _ _ _ _ _ h)
set_option maxRecDepth 100000 in
set_option maxHeartbeats 4000000 in
theorem zz9_down_21 {S' : St} {r : Int32} (X : zM p s m args meth c D cA σ shM tS RX9 cX9_down 5 (some .boolean)) : ∀ (S : St) (x1 : Int32) (x2 : Int32) (x3 : Int32), J9_down_21 S x1 x2 x3 = some (r, S') → Zj p l e rm9_down s m args below meth c D cA σ shM 5 (some (.int r)) S' 21 [(0, .ref (σ 0)), (1, .int x1), (2, .int x2), (3, .int x3)] [] S := by
  intro S x1 x2 x3 h
  rw [J9_down_21] at h
  refine z_iload_n (pc := 21) X dX9_down_21 rfl 3 rfl ?_
  refine z_if_le (pc := 22) (tgt := 31) X dX9_down_22 (by decide) h (fun h => ?_) (fun h => ?_)
  · refine z_aload_n (pc := 31) X dX9_down_31 rfl 0 rfl ?_
    refine z_get (pc := 32) (v := .ref (σ 12)) X 0 fX9_84 rfl rfl dX9_down_32 rfl ?_
    refine z_iload_n (pc := 35) X dX9_down_35 rfl 1 rfl ?_
    refine z_iconst (pc := 36) (v := 0) X dX9_down_36 (by decide) ?_
    refine z_zast (pc := 37) X 12 rfl dX9_down_37 h (fun h => ?_)
    refine z_let h (fun h => ?_)
    refine z_iload_n (pc := 38) X dX9_down_38 rfl 2 rfl ?_
    refine z_if_eq (pc := 39) (tgt := 104) X dX9_down_39 (by decide) h (fun h => ?_) (fun h => ?_)
    · exact z_sub [0] rfl (zz9_down_104 X  _ h)
    · refine z_aload_n (pc := 42) X dX9_down_42 rfl 0 rfl ?_
      refine z_get (pc := 43) (v := .ref (σ 10)) X 0 fX9_78 rfl rfl dX9_down_43 rfl ?_
      refine z_iload_n (pc := 46) X dX9_down_46 rfl 1 rfl ?_
      refine z_iconst (pc := 47) (v := 0) X dX9_down_47 (by decide) ?_
      refine z_iast (pc := 48) X 10 rfl dX9_down_48 h (fun h => ?_)
      refine z_let h (fun h => ?_)
      refine z_iconst (pc := 49) (v := 0) X dX9_down_49 (by decide) ?_
      refine z_istore (pc := 50) (L' := [(4, .int _), (0, .ref _), (1, .int _), (2, .int _), (3, .int _)]) X dX9_down_50 (by decide) rfl ?_
      exact z_sub [1, 2, 0] rfl (zz9_down_52 X  fu _ _ _ h)
  · refine z_aload_n (pc := 25) X dX9_down_25 rfl 0 rfl ?_
    refine z_iload_n (pc := 26) X dX9_down_26 rfl 3 rfl ?_
    refine z_callVi (pc := 27) (rm := rm9_is) X 0 [.int _] vX9_18 rfl rfl rfl (Nat.le_of_ble_eq_true rfl) ⟨rfl, rfl, Nat.le_of_ble_eq_true rfl, Nat.le_of_ble_eq_true rfl⟩ dX9_down_27 h (fun _ _ q => cc9_is q) (fun r3 S3 h => ?_)
    exact z_zret X rfl dX9_down_30 h
set_option maxRecDepth 100000 in
set_option maxHeartbeats 4000000 in
theorem zz9_down_0 {S' : St} {r : Int32} (X : zM p s m args meth c D cA σ shM tS RX9 cX9_down 5 (some .boolean)) : ∀ (S : St) (x1 : Int32) (x2 : Int32), J9_down S x1 x2 = some (r, S') → Zj p l e rm9_down s m args below meth c D cA σ shM 5 (some (.int r)) S' 0 [(0, .ref (σ 0)), (1, .int x1), (2, .int x2)] [] S := by
  intro S x1 x2 h
  rw [J9_down] at h
  refine z_aload_n (pc := 0) X dX9_down_0 rfl 0 rfl ?_
  refine z_iload_n (pc := 1) X dX9_down_1 rfl 1 rfl ?_
  refine z_callVi (pc := 2) (rm := rm9_wrongCopy) X 0 [.int _] vX9_283 rfl rfl rfl (Nat.le_of_ble_eq_true rfl) ⟨rfl, rfl, Nat.le_of_ble_eq_true rfl, Nat.le_of_ble_eq_true rfl⟩ dX9_down_2 h (fun _ _ q => cc9_wrongCopy q) (fun r1 S1 h => ?_)
  refine z_istore_n (pc := 5) (L' := [(3, .int _), (0, .ref _), (1, .int _), (2, .int _)]) X dX9_down_5 rfl (by decide) rfl ?_
  refine z_iload_n (pc := 6) X dX9_down_6 rfl 0 rfl ?_
  refine z_if_ne (pc := 7) (tgt := 21) X dX9_down_7 (by decide) h (fun h => ?_) (fun h => ?_)
  · exact z_sub [1, 2, 3, 0] rfl (zz9_down_21 X  _ _ _ _ h)
  · refine z_aload_n (pc := 10) X dX9_down_10 rfl 1 rfl ?_
    refine z_get (pc := 11) (v := .ref (σ 12)) X 0 fX9_84 rfl rfl dX9_down_11 rfl ?_
    refine z_iload_n (pc := 14) X dX9_down_14 rfl 2 rfl ?_
    refine z_zald (pc := 15) X 12 rfl dX9_down_15 h (fun h => ?_)
    refine z_if_ne (pc := 16) (tgt := 21) X dX9_down_16 (by decide) h (fun h => ?_) (fun h => ?_)
    · exact z_sub [1, 2, 3, 0] rfl (zz9_down_21 X  _ _ _ _ h)
    · refine z_iconst (pc := 19) (v := 5) X dX9_down_19 (by decide) ?_
      refine z_istore_n (pc := 20) (L' := [(3, .int _), (0, .ref _), (1, .int _), (2, .int _)]) X dX9_down_20 rfl (by decide) rfl ?_
      exact z_sub [1, 2, 3, 0] rfl (zz9_down_21 X  _ _ _ _ h)
theorem cc9_down {l : Launch} {D : va_G} {cA : Nat → ClassId} {σ : Nat → Nat} {tS : Nat} {S S' : St} {x1 : Int32} {x2 : Int32} {r : Int32} (h : J9_down S x1 x2 = some (r, S')) : zMet l D cA σ shM tS yX9_down cX9_down 5 (some .boolean) rm9_down [.ref (σ 0), .int x1, .int x2] S (some (.int r)) S' := z_met [(0, .ref (σ 0)), (1, .int x1), (2, .int x2)] (by decide +kernel) (Nat.le_of_ble_eq_true rfl) rfl (fun _ _ _ _ _ _ _ _ X => zz9_down_0 X _ _ _ h)
set_option maxRecDepth 100000 in
set_option maxHeartbeats 4000000 in
theorem zz9_drop_0 {S' : St} {r : Int32} (X : zM p s m args meth c D cA σ shM tS RX9 cX9_drop 2 (some .boolean)) : ∀ (S : St) (x1 : Int32), J9_drop S x1 = some (r, S') → Zj p l e rm9_drop s m args below meth c D cA σ shM 2 (some (.int r)) S' 0 [(0, .ref (σ 0)), (1, .int x1)] [] S := by
  intro S x1 h
  rw [J9_drop] at h
  refine z_iload_n (pc := 0) X dX9_drop_0 rfl 1 rfl ?_
  refine z_callSi (pc := 1) (rm := rm9_isSheet) X [.int _] sX9_14 rfl rfl (Nat.le_of_ble_eq_true rfl) ⟨rfl, rfl, Nat.le_of_ble_eq_true rfl, Nat.le_of_ble_eq_true rfl⟩ dX9_drop_1 h (fun _ _ q => cc9_isSheet q) (fun r1 S1 h => ?_)
  refine z_if_ne (pc := 4) (tgt := 13) X dX9_drop_4 (by decide) h (fun h => ?_) (fun h => ?_)
  · refine z_aload_n (pc := 13) X dX9_drop_13 rfl 0 rfl ?_
    refine z_get (pc := 14) (v := .ref (σ 2)) X 0 fX9_25 rfl rfl dX9_drop_14 rfl ?_
    refine z_iload_n (pc := 17) X dX9_drop_17 rfl 1 rfl ?_
    refine z_iald (pc := 18) X 2 rfl dX9_drop_18 h (fun h => ?_)
    refine z_iconst (pc := 19) (v := -1) X dX9_drop_19 (by decide) ?_
    refine z_icmp_ne (pc := 20) (tgt := 29) X dX9_drop_20 (by decide) h (fun h => ?_) (fun h => ?_)
    · refine z_aload_n (pc := 29) X dX9_drop_29 rfl 0 rfl ?_
      refine z_get (pc := 30) (v := .ref (σ 2)) X 0 fX9_25 rfl rfl dX9_drop_30 rfl ?_
      refine z_iload_n (pc := 33) X dX9_drop_33 rfl 1 rfl ?_
      refine z_iconst (pc := 34) (v := -1) X dX9_drop_34 (by decide) ?_
      refine z_iast (pc := 35) X 2 rfl dX9_drop_35 h (fun h => ?_)
      refine z_let h (fun h => ?_)
      refine z_aload_n (pc := 36) X dX9_drop_36 rfl 0 rfl ?_
      refine z_iconst (pc := 37) (v := 0) X dX9_drop_37 (by decide) ?_
      refine z_callVi (pc := 38) (rm := rm9_is) X 0 [.int _] vX9_18 rfl rfl rfl (Nat.le_of_ble_eq_true rfl) ⟨rfl, rfl, Nat.le_of_ble_eq_true rfl, Nat.le_of_ble_eq_true rfl⟩ dX9_drop_38 h (fun _ _ q => cc9_is q) (fun r3 S3 h => ?_)
      exact z_zret X rfl dX9_drop_41 h
    · refine z_aload_n (pc := 23) X dX9_drop_23 rfl 0 rfl ?_
      refine z_iconst (pc := 24) (v := 2) X dX9_drop_24 (by decide) ?_
      refine z_callVi (pc := 25) (rm := rm9_is) X 0 [.int _] vX9_18 rfl rfl rfl (Nat.le_of_ble_eq_true rfl) ⟨rfl, rfl, Nat.le_of_ble_eq_true rfl, Nat.le_of_ble_eq_true rfl⟩ dX9_drop_25 h (fun _ _ q => cc9_is q) (fun r4 S4 h => ?_)
      exact z_zret X rfl dX9_drop_28 h
  · refine z_aload_n (pc := 7) X dX9_drop_7 rfl 0 rfl ?_
    refine z_iconst (pc := 8) (v := 1) X dX9_drop_8 (by decide) ?_
    refine z_callVi (pc := 9) (rm := rm9_is) X 0 [.int _] vX9_18 rfl rfl rfl (Nat.le_of_ble_eq_true rfl) ⟨rfl, rfl, Nat.le_of_ble_eq_true rfl, Nat.le_of_ble_eq_true rfl⟩ dX9_drop_9 h (fun _ _ q => cc9_is q) (fun r5 S5 h => ?_)
    exact z_zret X rfl dX9_drop_12 h
theorem cc9_drop {l : Launch} {D : va_G} {cA : Nat → ClassId} {σ : Nat → Nat} {tS : Nat} {S S' : St} {x1 : Int32} {r : Int32} (h : J9_drop S x1 = some (r, S')) : zMet l D cA σ shM tS yX9_drop cX9_drop 2 (some .boolean) rm9_drop [.ref (σ 0), .int x1] S (some (.int r)) S' := z_met [(0, .ref (σ 0)), (1, .int x1)] (by decide +kernel) (Nat.le_of_ble_eq_true rfl) rfl (fun _ _ _ _ _ _ _ _ X => zz9_drop_0 X _ _ h)
set_option maxRecDepth 100000 in
set_option maxHeartbeats 4000000 in
theorem zz9_due_80 {S' : St} {r : Int32} (X : zM p s m args meth c D cA σ shM tS RX9 cX9_due 3 (some .int)) (k4 : St → Int32 → Int32 → Option (Int32 × St)) (hk4 : ∀ (S : St) (x1 : Int32) (x2 : Int32), k4 S x1 x2 = some (r, S') → Zj p l e rm9_due s m args below meth c D cA σ shM 3 (some (.int r)) S' 4 [(0, .ref (σ 0)), (1, .int x1), (2, .int x2)] [] S) : ∀ (S : St) (x1 : Int32) (x2 : Int32), J9_due_80 k4 S x1 x2 = some (r, S') → Zj p l e rm9_due s m args below meth c D cA σ shM 3 (some (.int r)) S' 80 [(0, .ref (σ 0)), (1, .int x1), (2, .int x2)] [] S := by
  intro S x1 x2 h
  rw [J9_due_80] at h
  refine z_iinc (pc := 80) (k := 2) (v := 1) (L' := [(2, .int _), (0, .ref _), (1, .int _)]) X dX9_due_80 rfl (by decide) (by decide) rfl ?_
  refine z_let h (fun h => ?_)
  refine z_goto (pc := 83) (tgt := 4) X dX9_due_83 (by decide) ?_
  exact z_sub [1, 2, 0] rfl (hk4 _ _ _ h)
set_option maxRecDepth 100000 in
set_option maxHeartbeats 4000000 in
theorem zz9_due_78 {S' : St} {r : Int32} (X : zM p s m args meth c D cA σ shM tS RX9 cX9_due 3 (some .int)) (k4 : St → Int32 → Int32 → Option (Int32 × St)) (hk4 : ∀ (S : St) (x1 : Int32) (x2 : Int32), k4 S x1 x2 = some (r, S') → Zj p l e rm9_due s m args below meth c D cA σ shM 3 (some (.int r)) S' 4 [(0, .ref (σ 0)), (1, .int x1), (2, .int x2)] [] S) : ∀ (S : St) (x2 : Int32), J9_due_78 k4 S x2 = some (r, S') → Zj p l e rm9_due s m args below meth c D cA σ shM 3 (some (.int r)) S' 78 [(0, .ref (σ 0)), (2, .int x2)] [] S := by
  intro S x2 h
  rw [J9_due_78] at h
  refine z_iload_n (pc := 78) X dX9_due_78 rfl 1 rfl ?_
  refine z_istore_n (pc := 79) (L' := [(1, .int _), (0, .ref _), (2, .int _)]) X dX9_due_79 rfl (by decide) rfl ?_
  exact z_sub [1, 0, 2] rfl (zz9_due_80 X _ hk4 _ _ _ h)
set_option maxRecDepth 100000 in
set_option maxHeartbeats 4000000 in
theorem zz9_due_4 {S' : St} {r : Int32} (X : zM p s m args meth c D cA σ shM tS RX9 cX9_due 3 (some .int)) : ∀ (n : Nat) (S : St) (x1 : Int32) (x2 : Int32), J9_due_4 n S x1 x2 = some (r, S') → Zj p l e rm9_due s m args below meth c D cA σ shM 3 (some (.int r)) S' 4 [(0, .ref (σ 0)), (1, .int x1), (2, .int x2)] [] S := by
  intro n
  induction n with
  | zero =>
    intro S x1 x2 h
    rw [J9_due_4] at h
    cases h
  | succ n ih =>
    intro S x1 x2 h
    rw [J9_due_4] at h
    refine z_iload_n (pc := 4) X dX9_due_4 rfl 2 rfl ?_
    refine z_aload_n (pc := 5) X dX9_due_5 rfl 0 rfl ?_
    refine z_get (pc := 6) (v := .int _) X 0 fX9_242 rfl rfl dX9_due_6 rfl ?_
    refine z_icmp_ge (pc := 9) (tgt := 86) X dX9_due_9 (by decide) h (fun h => ?_) (fun h => ?_)
    · refine z_iload_n (pc := 86) X dX9_due_86 rfl 1 rfl ?_
      exact z_iret X rfl dX9_due_87 h
    · refine z_aload_n (pc := 12) X dX9_due_12 rfl 0 rfl ?_
      refine z_get (pc := 13) (v := .ref (σ 15)) X 0 fX9_94 rfl rfl dX9_due_13 rfl ?_
      refine z_iload_n (pc := 16) X dX9_due_16 rfl 2 rfl ?_
      refine z_iald (pc := 17) X 15 rfl dX9_due_17 h (fun h => ?_)
      refine z_aload_n (pc := 18) X dX9_due_18 rfl 0 rfl ?_
      refine z_get (pc := 19) (v := .int _) X 0 fX9_224 rfl rfl dX9_due_19 rfl ?_
      refine z_icmp_le (pc := 22) (tgt := 28) X dX9_due_22 (by decide) h (fun h => ?_) (fun h => ?_)
      · refine z_iload_n (pc := 28) X dX9_due_28 rfl 1 rfl ?_
        refine z_iconst (pc := 29) (v := -1) X dX9_due_29 (by decide) ?_
        refine z_icmp_eq (pc := 30) (tgt := 78) X dX9_due_30 (by decide) h (fun h => ?_) (fun h => ?_)
        · exact z_sub [0, 2] rfl (zz9_due_78 X _ ih _ _ h)
        · refine z_aload_n (pc := 33) X dX9_due_33 rfl 0 rfl ?_
          refine z_get (pc := 34) (v := .ref (σ 15)) X 0 fX9_94 rfl rfl dX9_due_34 rfl ?_
          refine z_iload_n (pc := 37) X dX9_due_37 rfl 2 rfl ?_
          refine z_iald (pc := 38) X 15 rfl dX9_due_38 h (fun h => ?_)
          refine z_aload_n (pc := 39) X dX9_due_39 rfl 0 rfl ?_
          refine z_get (pc := 40) (v := .ref (σ 15)) X 0 fX9_94 rfl rfl dX9_due_40 rfl ?_
          refine z_iload_n (pc := 43) X dX9_due_43 rfl 1 rfl ?_
          refine z_iald (pc := 44) X 15 rfl dX9_due_44 h (fun h => ?_)
          refine z_icmp_lt (pc := 45) (tgt := 78) X dX9_due_45 (by decide) h (fun h => ?_) (fun h => ?_)
          · exact z_sub [0, 2] rfl (zz9_due_78 X _ ih _ _ h)
          · refine z_aload_n (pc := 48) X dX9_due_48 rfl 0 rfl ?_
            refine z_get (pc := 49) (v := .ref (σ 15)) X 0 fX9_94 rfl rfl dX9_due_49 rfl ?_
            refine z_iload_n (pc := 52) X dX9_due_52 rfl 2 rfl ?_
            refine z_iald (pc := 53) X 15 rfl dX9_due_53 h (fun h => ?_)
            refine z_aload_n (pc := 54) X dX9_due_54 rfl 0 rfl ?_
            refine z_get (pc := 55) (v := .ref (σ 15)) X 0 fX9_94 rfl rfl dX9_due_55 rfl ?_
            refine z_iload_n (pc := 58) X dX9_due_58 rfl 1 rfl ?_
            refine z_iald (pc := 59) X 15 rfl dX9_due_59 h (fun h => ?_)
            refine z_icmp_ne (pc := 60) (tgt := 80) X dX9_due_60 (by decide) h (fun h => ?_) (fun h => ?_)
            · exact z_sub [0, 1, 2] rfl (zz9_due_80 X _ ih _ _ _ h)
            · refine z_aload_n (pc := 63) X dX9_due_63 rfl 0 rfl ?_
              refine z_get (pc := 64) (v := .ref (σ 16)) X 0 fX9_97 rfl rfl dX9_due_64 rfl ?_
              refine z_iload_n (pc := 67) X dX9_due_67 rfl 2 rfl ?_
              refine z_iald (pc := 68) X 16 rfl dX9_due_68 h (fun h => ?_)
              refine z_aload_n (pc := 69) X dX9_due_69 rfl 0 rfl ?_
              refine z_get (pc := 70) (v := .ref (σ 16)) X 0 fX9_97 rfl rfl dX9_due_70 rfl ?_
              refine z_iload_n (pc := 73) X dX9_due_73 rfl 1 rfl ?_
              refine z_iald (pc := 74) X 16 rfl dX9_due_74 h (fun h => ?_)
              refine z_icmp_ge (pc := 75) (tgt := 80) X dX9_due_75 (by decide) h (fun h => ?_) (fun h => ?_)
              · exact z_sub [0, 1, 2] rfl (zz9_due_80 X _ ih _ _ _ h)
              · exact z_sub [0, 2] rfl (zz9_due_78 X _ ih _ _ h)
      · refine z_goto (pc := 25) (tgt := 80) X dX9_due_25 (by decide) ?_
        exact z_sub [0, 1, 2] rfl (zz9_due_80 X _ ih _ _ _ h)
set_option maxRecDepth 100000 in
set_option maxHeartbeats 4000000 in
theorem zz9_due_0 {S' : St} {r : Int32} (X : zM p s m args meth c D cA σ shM tS RX9 cX9_due 3 (some .int)) : ∀ (S : St), J9_due S = some (r, S') → Zj p l e rm9_due s m args below meth c D cA σ shM 3 (some (.int r)) S' 0 [(0, .ref (σ 0))] [] S := by
  intro S h
  rw [J9_due] at h
  refine z_iconst (pc := 0) (v := -1) X dX9_due_0 (by decide) ?_
  refine z_istore_n (pc := 1) (L' := [(1, .int _), (0, .ref _)]) X dX9_due_1 rfl (by decide) rfl ?_
  refine z_iconst (pc := 2) (v := 0) X dX9_due_2 (by decide) ?_
  refine z_istore_n (pc := 3) (L' := [(2, .int _), (1, .int _), (0, .ref _)]) X dX9_due_3 rfl (by decide) rfl ?_
  exact z_sub [2, 1, 0] rfl (zz9_due_4 X  fu _ _ _ h)
theorem cc9_due {l : Launch} {D : va_G} {cA : Nat → ClassId} {σ : Nat → Nat} {tS : Nat} {S S' : St} {r : Int32} (h : J9_due S = some (r, S')) : zMet l D cA σ shM tS yX9_due cX9_due 3 (some .int) rm9_due [.ref (σ 0)] S (some (.int r)) S' := z_met [(0, .ref (σ 0))] (by decide +kernel) (Nat.le_of_ble_eq_true rfl) rfl (fun _ _ _ _ _ _ _ _ X => zz9_due_0 X _ h)
set_option maxRecDepth 100000 in
set_option maxHeartbeats 4000000 in
theorem zz9_gap_10 {S' : St} {r : Int32} (X : zM p s m args meth c D cA σ shM tS RX9 cX9_gap 2 (some .boolean)) : ∀ (S : St), J9_gap_10 S = some (r, S') → Zj p l e rm9_gap s m args below meth c D cA σ shM 2 (some (.int r)) S' 10 [(0, .ref (σ 0))] [] S := by
  intro S h
  rw [J9_gap_10] at h
  refine z_aload_n (pc := 10) X dX9_gap_10 rfl 0 rfl ?_
  refine z_iconst (pc := 11) (v := 1) X dX9_gap_11 (by decide) ?_
  refine z_callVi (pc := 12) (rm := rm9_is) X 0 [.int _] vX9_18 rfl rfl rfl (Nat.le_of_ble_eq_true rfl) ⟨rfl, rfl, Nat.le_of_ble_eq_true rfl, Nat.le_of_ble_eq_true rfl⟩ dX9_gap_12 h (fun _ _ q => cc9_is q) (fun r1 S1 h => ?_)
  exact z_zret X rfl dX9_gap_15 h
set_option maxRecDepth 100000 in
set_option maxHeartbeats 4000000 in
theorem zz9_gap_0 {S' : St} {r : Int32} (X : zM p s m args meth c D cA σ shM tS RX9 cX9_gap 2 (some .boolean)) : ∀ (S : St) (x1 : Int32), J9_gap S x1 = some (r, S') → Zj p l e rm9_gap s m args below meth c D cA σ shM 2 (some (.int r)) S' 0 [(0, .ref (σ 0)), (1, .int x1)] [] S := by
  intro S x1 h
  rw [J9_gap] at h
  refine z_iload_n (pc := 0) X dX9_gap_0 rfl 1 rfl ?_
  refine z_if_lt (pc := 1) (tgt := 10) X dX9_gap_1 (by decide) h (fun h => ?_) (fun h => ?_)
  · exact z_sub [0] rfl (zz9_gap_10 X  _ h)
  · refine z_iload_n (pc := 4) X dX9_gap_4 rfl 1 rfl ?_
    refine z_bipush (pc := 5) (v := 100) X dX9_gap_5 (by decide) ?_
    refine z_icmp_le (pc := 7) (tgt := 16) X dX9_gap_7 (by decide) h (fun h => ?_) (fun h => ?_)
    · refine z_aload_n (pc := 16) X dX9_gap_16 rfl 0 rfl ?_
      refine z_iload_n (pc := 17) X dX9_gap_17 rfl 1 rfl ?_
      refine z_putI (pc := 18) X 0 gX9_57 rfl rfl dX9_gap_18 ?_
      refine z_let h (fun h => ?_)
      refine z_aload_n (pc := 21) X dX9_gap_21 rfl 0 rfl ?_
      refine z_iconst (pc := 22) (v := 0) X dX9_gap_22 (by decide) ?_
      refine z_callVi (pc := 23) (rm := rm9_is) X 0 [.int _] vX9_18 rfl rfl rfl (Nat.le_of_ble_eq_true rfl) ⟨rfl, rfl, Nat.le_of_ble_eq_true rfl, Nat.le_of_ble_eq_true rfl⟩ dX9_gap_23 h (fun _ _ q => cc9_is q) (fun r2 S2 h => ?_)
      exact z_zret X rfl dX9_gap_26 h
    · exact z_sub [0] rfl (zz9_gap_10 X  _ h)
theorem cc9_gap {l : Launch} {D : va_G} {cA : Nat → ClassId} {σ : Nat → Nat} {tS : Nat} {S S' : St} {x1 : Int32} {r : Int32} (h : J9_gap S x1 = some (r, S')) : zMet l D cA σ shM tS yX9_gap cX9_gap 2 (some .boolean) rm9_gap [.ref (σ 0), .int x1] S (some (.int r)) S' := z_met [(0, .ref (σ 0)), (1, .int x1)] (by decide +kernel) (Nat.le_of_ble_eq_true rfl) rfl (fun _ _ _ _ _ _ _ _ X => zz9_gap_0 X _ _ h)
set_option maxRecDepth 100000 in
set_option maxHeartbeats 4000000 in
theorem zz9_gives_47 {S' : St} {r : Int32} (X : zM p s m args meth c D cA σ shM tS RX9 cX9_gives 4 (some .int)) : ∀ (S : St) (t0 : Int32), J9_gives_47 S t0 = some (r, S') → Zj p l e rm9_gives s m args below meth c D cA σ shM 4 (some (.int r)) S' 47 [] [.int t0] S := by
  intro S t0 h
  rw [J9_gives_47] at h
  exact z_iret X rfl dX9_gives_47 h
set_option maxRecDepth 100000 in
set_option maxHeartbeats 4000000 in
theorem zz9_gives_0 {S' : St} {r : Int32} (X : zM p s m args meth c D cA σ shM tS RX9 cX9_gives 4 (some .int)) : ∀ (S : St) (x1 : Int32) (x2 : Int32), J9_gives S x1 x2 = some (r, S') → Zj p l e rm9_gives s m args below meth c D cA σ shM 4 (some (.int r)) S' 0 [(0, .ref (σ 0)), (1, .int x1), (2, .int x2)] [] S := by
  intro S x1 x2 h
  rw [J9_gives] at h
  refine z_aload_n (pc := 0) X dX9_gives_0 rfl 0 rfl ?_
  refine z_get (pc := 1) (v := .ref (σ 11)) X 0 fX9_81 rfl rfl dX9_gives_1 rfl ?_
  refine z_iconst (pc := 4) (v := 5) X dX9_gives_4 (by decide) ?_
  refine z_iload_n (pc := 5) X dX9_gives_5 rfl 1 rfl ?_
  refine z_imul (pc := 6) X dX9_gives_6 ?_
  refine z_iload_n (pc := 7) X dX9_gives_7 rfl 2 rfl ?_
  refine z_iadd (pc := 8) X dX9_gives_8 ?_
  refine z_iald (pc := 9) X 11 rfl dX9_gives_9 h (fun h => ?_)
  refine z_istore_n (pc := 10) (L' := [(3, .int _), (0, .ref _), (1, .int _), (2, .int _)]) X dX9_gives_10 rfl (by decide) rfl ?_
  refine z_let h (fun h => ?_)
  refine z_aload_n (pc := 11) X dX9_gives_11 rfl 1 rfl ?_
  refine z_get (pc := 12) (v := .ref (σ 11)) X 0 fX9_81 rfl rfl dX9_gives_12 rfl ?_
  refine z_iconst (pc := 15) (v := 5) X dX9_gives_15 (by decide) ?_
  refine z_iload_n (pc := 16) X dX9_gives_16 rfl 2 rfl ?_
  refine z_imul (pc := 17) X dX9_gives_17 ?_
  refine z_iload_n (pc := 18) X dX9_gives_18 rfl 3 rfl ?_
  refine z_iadd (pc := 19) X dX9_gives_19 ?_
  refine z_iconst (pc := 20) (v := 0) X dX9_gives_20 (by decide) ?_
  refine z_iast (pc := 21) X 11 rfl dX9_gives_21 h (fun h => ?_)
  refine z_let h (fun h => ?_)
  refine z_aload_n (pc := 22) X dX9_gives_22 rfl 1 rfl ?_
  refine z_get (pc := 23) (v := .ref (σ 10)) X 0 fX9_78 rfl rfl dX9_gives_23 rfl ?_
  refine z_iload_n (pc := 26) X dX9_gives_26 rfl 3 rfl ?_
  refine z_aload_n (pc := 27) X dX9_gives_27 rfl 1 rfl ?_
  refine z_get (pc := 28) (v := .ref (σ 10)) X 0 fX9_78 rfl rfl dX9_gives_28 rfl ?_
  refine z_iload_n (pc := 31) X dX9_gives_31 rfl 3 rfl ?_
  refine z_iald (pc := 32) X 10 rfl dX9_gives_32 h (fun h => ?_)
  refine z_iload_n (pc := 33) X dX9_gives_33 rfl 0 rfl ?_
  refine z_max (pc := 34) X hX9_270 ⟨Nat.le_of_ble_eq_true rfl, Nat.le_of_ble_eq_true rfl⟩ dX9_gives_34 ?_
  refine z_iast (pc := 37) X 10 rfl dX9_gives_37 h (fun h => ?_)
  refine z_let h (fun h => ?_)
  refine z_iload_n (pc := 38) X dX9_gives_38 rfl 0 rfl ?_
  refine z_if_le (pc := 39) (tgt := 46) X dX9_gives_39 (by decide) h (fun h => ?_) (fun h => ?_)
  · refine z_iconst (pc := 46) (v := 0) X dX9_gives_46 (by decide) ?_
    exact z_sub [] rfl (zz9_gives_47 X  _ _ h)
  · refine z_iconst (pc := 42) (v := 1) X dX9_gives_42 (by decide) ?_
    refine z_goto (pc := 43) (tgt := 47) X dX9_gives_43 (by decide) ?_
    exact z_sub [] rfl (zz9_gives_47 X  _ _ h)
theorem cc9_gives {l : Launch} {D : va_G} {cA : Nat → ClassId} {σ : Nat → Nat} {tS : Nat} {S S' : St} {x1 : Int32} {x2 : Int32} {r : Int32} (h : J9_gives S x1 x2 = some (r, S')) : zMet l D cA σ shM tS yX9_gives cX9_gives 4 (some .int) rm9_gives [.ref (σ 0), .int x1, .int x2] S (some (.int r)) S' := z_met [(0, .ref (σ 0)), (1, .int x1), (2, .int x2)] (by decide +kernel) (Nat.le_of_ble_eq_true rfl) rfl (fun _ _ _ _ _ _ _ _ X => zz9_gives_0 X _ _ _ h)
set_option maxRecDepth 100000 in
set_option maxHeartbeats 4000000 in
theorem zz9_workOff_5 {S' : St} (X : zM p s m args meth c D cA σ shM tS RX9 cX9_workOff 7 none) : ∀ (n : Nat) (S : St) (x1 : Int32), J9_workOff_5 n S x1 = some ((), S') → Zj p l e rm9_workOff s m args below meth c D cA σ shM 7 none S' 5 [(0, .ref (σ 0)), (1, .int x1)] [] S := by
  intro n
  induction n with
  | zero =>
    intro S x1 h
    rw [J9_workOff_5] at h
    cases h
  | succ n ih =>
    intro S x1 h
    rw [J9_workOff_5] at h
    refine z_iload_n (pc := 5) X dX9_workOff_5 rfl 1 rfl ?_
    refine z_iconst (pc := 6) (v := -1) X dX9_workOff_6 (by decide) ?_
    refine z_icmp_eq (pc := 7) (tgt := 183) X dX9_workOff_7 (by decide) h (fun h => ?_) (fun h => ?_)
    · exact z_vret X rfl dX9_workOff_183 h
    · refine z_aload_n (pc := 10) X dX9_workOff_10 rfl 0 rfl ?_
      refine z_get (pc := 11) (v := .ref (σ 17)) X 0 fX9_100 rfl rfl dX9_workOff_11 rfl ?_
      refine z_iload_n (pc := 14) X dX9_workOff_14 rfl 1 rfl ?_
      refine z_iald (pc := 15) X 17 rfl dX9_workOff_15 h (fun h => ?_)
      refine z_istore_n (pc := 16) (L' := [(2, .int _), (0, .ref _), (1, .int _)]) X dX9_workOff_16 rfl (by decide) rfl ?_
      refine z_let h (fun h => ?_)
      refine z_aload_n (pc := 17) X dX9_workOff_17 rfl 1 rfl ?_
      refine z_get (pc := 18) (v := .ref (σ 18)) X 0 fX9_103 rfl rfl dX9_workOff_18 rfl ?_
      refine z_iload_n (pc := 21) X dX9_workOff_21 rfl 2 rfl ?_
      refine z_iald (pc := 22) X 18 rfl dX9_workOff_22 h (fun h => ?_)
      refine z_istore_n (pc := 23) (L' := [(3, .int _), (2, .int _), (0, .ref _), (1, .int _)]) X dX9_workOff_23 rfl (by decide) rfl ?_
      refine z_let h (fun h => ?_)
      refine z_aload_n (pc := 24) X dX9_workOff_24 rfl 2 rfl ?_
      refine z_get (pc := 25) (v := .ref (σ 19)) X 0 fX9_106 rfl rfl dX9_workOff_25 rfl ?_
      refine z_iload_n (pc := 28) X dX9_workOff_28 rfl 3 rfl ?_
      refine z_iald (pc := 29) X 19 rfl dX9_workOff_29 h (fun h => ?_)
      refine z_istore (pc := 30) (L' := [(4, .int _), (3, .int _), (2, .int _), (0, .ref _), (1, .int _)]) X dX9_workOff_30 (by decide) rfl ?_
      refine z_let h (fun h => ?_)
      refine z_aload_n (pc := 32) X dX9_workOff_32 rfl 3 rfl ?_
      refine z_get (pc := 33) (v := .ref (σ 20)) X 0 fX9_109 rfl rfl dX9_workOff_33 rfl ?_
      refine z_iload_n (pc := 36) X dX9_workOff_36 rfl 4 rfl ?_
      refine z_iald (pc := 37) X 20 rfl dX9_workOff_37 h (fun h => ?_)
      refine z_istore (pc := 38) (L' := [(5, .int _), (4, .int _), (3, .int _), (2, .int _), (0, .ref _), (1, .int _)]) X dX9_workOff_38 (by decide) rfl ?_
      refine z_let h (fun h => ?_)
      refine z_aload_n (pc := 40) X dX9_workOff_40 rfl 4 rfl ?_
      refine z_get (pc := 41) (v := .ref (σ 21)) X 0 fX9_112 rfl rfl dX9_workOff_41 rfl ?_
      refine z_iload_n (pc := 44) X dX9_workOff_44 rfl 5 rfl ?_
      refine z_iald (pc := 45) X 21 rfl dX9_workOff_45 h (fun h => ?_)
      refine z_istore (pc := 46) (L' := [(6, .int _), (5, .int _), (4, .int _), (3, .int _), (2, .int _), (0, .ref _), (1, .int _)]) X dX9_workOff_46 (by decide) rfl ?_
      refine z_let h (fun h => ?_)
      refine z_aload_n (pc := 48) X dX9_workOff_48 rfl 5 rfl ?_
      refine z_dup (pc := 49) X dX9_workOff_49 rfl ?_
      refine z_get (pc := 50) (v := .int _) X 0 fX9_242 rfl rfl dX9_workOff_50 rfl ?_
      refine z_iconst (pc := 53) (v := 1) X dX9_workOff_53 (by decide) ?_
      refine z_isub (pc := 54) X dX9_workOff_54 ?_
      refine z_putI (pc := 55) X 0 gX9_242 rfl rfl dX9_workOff_55 ?_
      refine z_let h (fun h => ?_)
      refine z_aload_n (pc := 58) X dX9_workOff_58 rfl 5 rfl ?_
      refine z_get (pc := 59) (v := .ref (σ 15)) X 0 fX9_94 rfl rfl dX9_workOff_59 rfl ?_
      refine z_iload_n (pc := 62) X dX9_workOff_62 rfl 6 rfl ?_
      refine z_aload_n (pc := 63) X dX9_workOff_63 rfl 5 rfl ?_
      refine z_get (pc := 64) (v := .ref (σ 15)) X 0 fX9_94 rfl rfl dX9_workOff_64 rfl ?_
      refine z_aload_n (pc := 67) X dX9_workOff_67 rfl 5 rfl ?_
      refine z_get (pc := 68) (v := .int _) X 0 fX9_242 rfl rfl dX9_workOff_68 rfl ?_
      refine z_iald (pc := 71) X 15 rfl dX9_workOff_71 h (fun h => ?_)
      refine z_iast (pc := 72) X 15 rfl dX9_workOff_72 h (fun h => ?_)
      refine z_let h (fun h => ?_)
      refine z_aload_n (pc := 73) X dX9_workOff_73 rfl 5 rfl ?_
      refine z_get (pc := 74) (v := .ref (σ 16)) X 0 fX9_97 rfl rfl dX9_workOff_74 rfl ?_
      refine z_iload_n (pc := 77) X dX9_workOff_77 rfl 6 rfl ?_
      refine z_aload_n (pc := 78) X dX9_workOff_78 rfl 5 rfl ?_
      refine z_get (pc := 79) (v := .ref (σ 16)) X 0 fX9_97 rfl rfl dX9_workOff_79 rfl ?_
      refine z_aload_n (pc := 82) X dX9_workOff_82 rfl 5 rfl ?_
      refine z_get (pc := 83) (v := .int _) X 0 fX9_242 rfl rfl dX9_workOff_83 rfl ?_
      refine z_iald (pc := 86) X 16 rfl dX9_workOff_86 h (fun h => ?_)
      refine z_iast (pc := 87) X 16 rfl dX9_workOff_87 h (fun h => ?_)
      refine z_let h (fun h => ?_)
      refine z_aload_n (pc := 88) X dX9_workOff_88 rfl 5 rfl ?_
      refine z_get (pc := 89) (v := .ref (σ 17)) X 0 fX9_100 rfl rfl dX9_workOff_89 rfl ?_
      refine z_iload_n (pc := 92) X dX9_workOff_92 rfl 6 rfl ?_
      refine z_aload_n (pc := 93) X dX9_workOff_93 rfl 5 rfl ?_
      refine z_get (pc := 94) (v := .ref (σ 17)) X 0 fX9_100 rfl rfl dX9_workOff_94 rfl ?_
      refine z_aload_n (pc := 97) X dX9_workOff_97 rfl 5 rfl ?_
      refine z_get (pc := 98) (v := .int _) X 0 fX9_242 rfl rfl dX9_workOff_98 rfl ?_
      refine z_iald (pc := 101) X 17 rfl dX9_workOff_101 h (fun h => ?_)
      refine z_iast (pc := 102) X 17 rfl dX9_workOff_102 h (fun h => ?_)
      refine z_let h (fun h => ?_)
      refine z_aload_n (pc := 103) X dX9_workOff_103 rfl 5 rfl ?_
      refine z_get (pc := 104) (v := .ref (σ 18)) X 0 fX9_103 rfl rfl dX9_workOff_104 rfl ?_
      refine z_iload_n (pc := 107) X dX9_workOff_107 rfl 6 rfl ?_
      refine z_aload_n (pc := 108) X dX9_workOff_108 rfl 5 rfl ?_
      refine z_get (pc := 109) (v := .ref (σ 18)) X 0 fX9_103 rfl rfl dX9_workOff_109 rfl ?_
      refine z_aload_n (pc := 112) X dX9_workOff_112 rfl 5 rfl ?_
      refine z_get (pc := 113) (v := .int _) X 0 fX9_242 rfl rfl dX9_workOff_113 rfl ?_
      refine z_iald (pc := 116) X 18 rfl dX9_workOff_116 h (fun h => ?_)
      refine z_iast (pc := 117) X 18 rfl dX9_workOff_117 h (fun h => ?_)
      refine z_let h (fun h => ?_)
      refine z_aload_n (pc := 118) X dX9_workOff_118 rfl 5 rfl ?_
      refine z_get (pc := 119) (v := .ref (σ 19)) X 0 fX9_106 rfl rfl dX9_workOff_119 rfl ?_
      refine z_iload_n (pc := 122) X dX9_workOff_122 rfl 6 rfl ?_
      refine z_aload_n (pc := 123) X dX9_workOff_123 rfl 5 rfl ?_
      refine z_get (pc := 124) (v := .ref (σ 19)) X 0 fX9_106 rfl rfl dX9_workOff_124 rfl ?_
      refine z_aload_n (pc := 127) X dX9_workOff_127 rfl 5 rfl ?_
      refine z_get (pc := 128) (v := .int _) X 0 fX9_242 rfl rfl dX9_workOff_128 rfl ?_
      refine z_iald (pc := 131) X 19 rfl dX9_workOff_131 h (fun h => ?_)
      refine z_iast (pc := 132) X 19 rfl dX9_workOff_132 h (fun h => ?_)
      refine z_let h (fun h => ?_)
      refine z_aload_n (pc := 133) X dX9_workOff_133 rfl 5 rfl ?_
      refine z_get (pc := 134) (v := .ref (σ 20)) X 0 fX9_109 rfl rfl dX9_workOff_134 rfl ?_
      refine z_iload_n (pc := 137) X dX9_workOff_137 rfl 6 rfl ?_
      refine z_aload_n (pc := 138) X dX9_workOff_138 rfl 5 rfl ?_
      refine z_get (pc := 139) (v := .ref (σ 20)) X 0 fX9_109 rfl rfl dX9_workOff_139 rfl ?_
      refine z_aload_n (pc := 142) X dX9_workOff_142 rfl 5 rfl ?_
      refine z_get (pc := 143) (v := .int _) X 0 fX9_242 rfl rfl dX9_workOff_143 rfl ?_
      refine z_iald (pc := 146) X 20 rfl dX9_workOff_146 h (fun h => ?_)
      refine z_iast (pc := 147) X 20 rfl dX9_workOff_147 h (fun h => ?_)
      refine z_let h (fun h => ?_)
      refine z_aload_n (pc := 148) X dX9_workOff_148 rfl 5 rfl ?_
      refine z_get (pc := 149) (v := .ref (σ 21)) X 0 fX9_112 rfl rfl dX9_workOff_149 rfl ?_
      refine z_iload_n (pc := 152) X dX9_workOff_152 rfl 6 rfl ?_
      refine z_aload_n (pc := 153) X dX9_workOff_153 rfl 5 rfl ?_
      refine z_get (pc := 154) (v := .ref (σ 21)) X 0 fX9_112 rfl rfl dX9_workOff_154 rfl ?_
      refine z_aload_n (pc := 157) X dX9_workOff_157 rfl 5 rfl ?_
      refine z_get (pc := 158) (v := .int _) X 0 fX9_242 rfl rfl dX9_workOff_158 rfl ?_
      refine z_iald (pc := 161) X 21 rfl dX9_workOff_161 h (fun h => ?_)
      refine z_iast (pc := 162) X 21 rfl dX9_workOff_162 h (fun h => ?_)
      refine z_let h (fun h => ?_)
      refine z_aload_n (pc := 163) X dX9_workOff_163 rfl 5 rfl ?_
      refine z_iload_n (pc := 164) X dX9_workOff_164 rfl 4 rfl ?_
      refine z_iload_n (pc := 165) X dX9_workOff_165 rfl 3 rfl ?_
      refine z_iload (pc := 166) X dX9_workOff_166 2 rfl ?_
      refine z_iload (pc := 168) X dX9_workOff_168 1 rfl ?_
      refine z_iload (pc := 170) X dX9_workOff_170 0 rfl ?_
      refine z_callVv (pc := 172) (rm := rm9_comes) X 0 [.int _, .int _, .int _, .int _, .int _] vX9_267 rfl rfl rfl (Nat.le_of_ble_eq_true rfl) ⟨rfl, rfl, Nat.le_of_ble_eq_true rfl, Nat.le_of_ble_eq_true rfl⟩ dX9_workOff_172 h (fun _ _ q => cc9_comes q) (fun _ S14 h => ?_)
      refine z_aload_n (pc := 175) X dX9_workOff_175 rfl 5 rfl ?_
      refine z_callVi (pc := 176) (rm := rm9_due) X 0 [] vX9_263 rfl rfl rfl (Nat.le_of_ble_eq_true rfl) ⟨rfl, rfl, Nat.le_of_ble_eq_true rfl, Nat.le_of_ble_eq_true rfl⟩ dX9_workOff_176 h (fun _ _ q => cc9_due q) (fun r15 S15 h => ?_)
      refine z_istore_n (pc := 179) (L' := [(1, .int _), (6, .int _), (5, .int _), (4, .int _), (3, .int _), (2, .int _), (0, .ref _)]) X dX9_workOff_179 rfl (by decide) rfl ?_
      refine z_goto (pc := 180) (tgt := 5) X dX9_workOff_180 (by decide) ?_
      exact z_sub [6, 0] rfl (ih _ _ h)
set_option maxRecDepth 100000 in
set_option maxHeartbeats 4000000 in
theorem zz9_workOff_0 {S' : St} (X : zM p s m args meth c D cA σ shM tS RX9 cX9_workOff 7 none) : ∀ (S : St), J9_workOff S = some ((), S') → Zj p l e rm9_workOff s m args below meth c D cA σ shM 7 none S' 0 [(0, .ref (σ 0))] [] S := by
  intro S h
  rw [J9_workOff] at h
  refine z_aload_n (pc := 0) X dX9_workOff_0 rfl 0 rfl ?_
  refine z_callVi (pc := 1) (rm := rm9_due) X 0 [] vX9_263 rfl rfl rfl (Nat.le_of_ble_eq_true rfl) ⟨rfl, rfl, Nat.le_of_ble_eq_true rfl, Nat.le_of_ble_eq_true rfl⟩ dX9_workOff_1 h (fun _ _ q => cc9_due q) (fun r1 S1 h => ?_)
  refine z_istore_n (pc := 4) (L' := [(1, .int _), (0, .ref _)]) X dX9_workOff_4 rfl (by decide) rfl ?_
  exact z_sub [1, 0] rfl (zz9_workOff_5 X  fu _ _ h)
theorem cc9_workOff {l : Launch} {D : va_G} {cA : Nat → ClassId} {σ : Nat → Nat} {tS : Nat} {S S' : St} (h : J9_workOff S = some ((), S')) : zMet l D cA σ shM tS yX9_workOff cX9_workOff 7 none rm9_workOff [.ref (σ 0)] S none S' := z_met [(0, .ref (σ 0))] (by decide +kernel) (Nat.le_of_ble_eq_true rfl) rfl (fun _ _ _ _ _ _ _ _ X => zz9_workOff_0 X _ h)
set_option maxRecDepth 100000 in
set_option maxHeartbeats 4000000 in
theorem zz9_go_11 {S' : St} {r : Int32} (X : zM p s m args meth c D cA σ shM tS RX9 cX9_go 3 (some .int)) : ∀ (S : St), J9_go_11 S = some (r, S') → Zj p l e rm9_go s m args below meth c D cA σ shM 3 (some (.int r)) S' 11 [(0, .ref (σ 0))] [] S := by
  intro S h
  rw [J9_go_11] at h
  refine z_aload_n (pc := 11) X dX9_go_11 rfl 0 rfl ?_
  refine z_iconst (pc := 12) (v := 1) X dX9_go_12 (by decide) ?_
  refine z_callVi (pc := 13) (rm := rm9_refuse) X 0 [.int _] vX9_154 rfl rfl rfl (Nat.le_of_ble_eq_true rfl) ⟨rfl, rfl, Nat.le_of_ble_eq_true rfl, Nat.le_of_ble_eq_true rfl⟩ dX9_go_13 h (fun _ _ q => cc9_refuse q) (fun r1 S1 h => ?_)
  exact z_iret X rfl dX9_go_16 h
set_option maxRecDepth 100000 in
set_option maxHeartbeats 4000000 in
theorem zz9_go_58 {S' : St} {r : Int32} (X : zM p s m args meth c D cA σ shM tS RX9 cX9_go 3 (some .int)) (k32 : St → Int32 → Int32 → Option (Int32 × St)) (hk32 : ∀ (S : St) (x1 : Int32) (x2 : Int32), k32 S x1 x2 = some (r, S') → Zj p l e rm9_go s m args below meth c D cA σ shM 3 (some (.int r)) S' 32 [(0, .ref (σ 0)), (1, .int x1), (2, .int x2)] [] S) : ∀ (S : St) (x1 : Int32) (x2 : Int32), J9_go_58 k32 S x1 x2 = some (r, S') → Zj p l e rm9_go s m args below meth c D cA σ shM 3 (some (.int r)) S' 58 [(0, .ref (σ 0)), (1, .int x1), (2, .int x2)] [] S := by
  intro S x1 x2 h
  rw [J9_go_58] at h
  refine z_iinc (pc := 58) (k := 2) (v := 1) (L' := [(2, .int _), (0, .ref _), (1, .int _)]) X dX9_go_58 rfl (by decide) (by decide) rfl ?_
  refine z_let h (fun h => ?_)
  refine z_goto (pc := 61) (tgt := 32) X dX9_go_61 (by decide) ?_
  exact z_sub [1, 2, 0] rfl (hk32 _ _ _ h)
set_option maxRecDepth 100000 in
set_option maxHeartbeats 4000000 in
theorem zz9_go_32 {S' : St} {r : Int32} (X : zM p s m args meth c D cA σ shM tS RX9 cX9_go 3 (some .int)) : ∀ (n : Nat) (S : St) (x1 : Int32) (x2 : Int32), J9_go_32 n S x1 x2 = some (r, S') → Zj p l e rm9_go s m args below meth c D cA σ shM 3 (some (.int r)) S' 32 [(0, .ref (σ 0)), (1, .int x1), (2, .int x2)] [] S := by
  intro n
  induction n with
  | zero =>
    intro S x1 x2 h
    rw [J9_go_32] at h
    cases h
  | succ n ih =>
    intro S x1 x2 h
    rw [J9_go_32] at h
    refine z_iload_n (pc := 32) X dX9_go_32 rfl 2 rfl ?_
    refine z_iload_n (pc := 33) X dX9_go_33 rfl 1 rfl ?_
    refine z_icmp_ge (pc := 34) (tgt := 64) X dX9_go_34 (by decide) h (fun h => ?_) (fun h => ?_)
    · refine z_aload_n (pc := 64) X dX9_go_64 rfl 0 rfl ?_
      refine z_iconst (pc := 65) (v := 0) X dX9_go_65 (by decide) ?_
      refine z_putI (pc := 66) X 0 gX9_1 rfl rfl dX9_go_66 ?_
      refine z_let h (fun h => ?_)
      refine z_aload_n (pc := 69) X dX9_go_69 rfl 0 rfl ?_
      refine z_get (pc := 70) (v := .int _) X 0 fX9_224 rfl rfl dX9_go_70 rfl ?_
      exact z_iret X rfl dX9_go_73 h
    · refine z_aload_n (pc := 37) X dX9_go_37 rfl 0 rfl ?_
      refine z_dup (pc := 38) X dX9_go_38 rfl ?_
      refine z_get (pc := 39) (v := .int _) X 0 fX9_224 rfl rfl dX9_go_39 rfl ?_
      refine z_iconst (pc := 42) (v := 1) X dX9_go_42 (by decide) ?_
      refine z_iadd (pc := 43) X dX9_go_43 ?_
      refine z_putI (pc := 44) X 0 gX9_224 rfl rfl dX9_go_44 ?_
      refine z_let h (fun h => ?_)
      refine z_aload_n (pc := 47) X dX9_go_47 rfl 0 rfl ?_
      refine z_get (pc := 48) (v := .int _) X 0 fX9_242 rfl rfl dX9_go_48 rfl ?_
      refine z_if_le (pc := 51) (tgt := 58) X dX9_go_51 (by decide) h (fun h => ?_) (fun h => ?_)
      · exact z_sub [0, 1, 2] rfl (zz9_go_58 X _ ih _ _ _ h)
      · refine z_aload_n (pc := 54) X dX9_go_54 rfl 0 rfl ?_
        refine z_callVv (pc := 55) (rm := rm9_workOff) X 0 [] vX9_260 rfl rfl rfl (Nat.le_of_ble_eq_true rfl) ⟨rfl, rfl, Nat.le_of_ble_eq_true rfl, Nat.le_of_ble_eq_true rfl⟩ dX9_go_55 h (fun _ _ q => cc9_workOff q) (fun _ S3 h => ?_)
        exact z_sub [0, 1, 2] rfl (zz9_go_58 X _ ih _ _ _ h)
set_option maxRecDepth 100000 in
set_option maxHeartbeats 4000000 in
theorem zz9_go_0 {S' : St} {r : Int32} (X : zM p s m args meth c D cA σ shM tS RX9 cX9_go 3 (some .int)) : ∀ (S : St) (x1 : Int32), J9_go S x1 = some (r, S') → Zj p l e rm9_go s m args below meth c D cA σ shM 3 (some (.int r)) S' 0 [(0, .ref (σ 0)), (1, .int x1)] [] S := by
  intro S x1 h
  rw [J9_go] at h
  refine z_iload_n (pc := 0) X dX9_go_0 rfl 1 rfl ?_
  refine z_if_lt (pc := 1) (tgt := 11) X dX9_go_1 (by decide) h (fun h => ?_) (fun h => ?_)
  · exact z_sub [0] rfl (zz9_go_11 X  _ h)
  · refine z_iload_n (pc := 4) X dX9_go_4 rfl 1 rfl ?_
    refine z_sipush (pc := 5) (v := 10000) X dX9_go_5 (by decide) ?_
    refine z_icmp_le (pc := 8) (tgt := 17) X dX9_go_8 (by decide) h (fun h => ?_) (fun h => ?_)
    · refine z_aload_n (pc := 17) X dX9_go_17 rfl 0 rfl ?_
      refine z_get (pc := 18) (v := .int _) X 0 fX9_208 rfl rfl dX9_go_18 rfl ?_
      refine z_if_ne (pc := 21) (tgt := 30) X dX9_go_21 (by decide) h (fun h => ?_) (fun h => ?_)
      · refine z_iconst (pc := 30) (v := 0) X dX9_go_30 (by decide) ?_
        refine z_istore_n (pc := 31) (L' := [(2, .int _), (0, .ref _), (1, .int _)]) X dX9_go_31 rfl (by decide) rfl ?_
        exact z_sub [1, 2, 0] rfl (zz9_go_32 X  fu _ _ _ h)
      · refine z_aload_n (pc := 24) X dX9_go_24 rfl 0 rfl ?_
        refine z_iconst (pc := 25) (v := 4) X dX9_go_25 (by decide) ?_
        refine z_callVi (pc := 26) (rm := rm9_refuse) X 0 [.int _] vX9_154 rfl rfl rfl (Nat.le_of_ble_eq_true rfl) ⟨rfl, rfl, Nat.le_of_ble_eq_true rfl, Nat.le_of_ble_eq_true rfl⟩ dX9_go_26 h (fun _ _ q => cc9_refuse q) (fun r1 S1 h => ?_)
        exact z_iret X rfl dX9_go_29 h
    · exact z_sub [0] rfl (zz9_go_11 X  _ h)
theorem cc9_go {l : Launch} {D : va_G} {cA : Nat → ClassId} {σ : Nat → Nat} {tS : Nat} {S S' : St} {x1 : Int32} {r : Int32} (h : J9_go S x1 = some (r, S')) : zMet l D cA σ shM tS yX9_go cX9_go 3 (some .int) rm9_go [.ref (σ 0), .int x1] S (some (.int r)) S' := z_met [(0, .ref (σ 0)), (1, .int x1)] (by decide +kernel) (Nat.le_of_ble_eq_true rfl) rfl (fun _ _ _ _ _ _ _ _ X => zz9_go_0 X _ _ h)
set_option maxRecDepth 100000 in
set_option maxHeartbeats 4000000 in
theorem zz9_missed_50 {S' : St} {r : Int32} (X : zM p s m args meth c D cA σ shM tS RX9 cX9_missed 4 (some .int)) (k11 : St → Int32 → Int32 → Int32 → Option (Int32 × St)) (hk11 : ∀ (S : St) (x1 : Int32) (x2 : Int32) (x3 : Int32), k11 S x1 x2 x3 = some (r, S') → Zj p l e rm9_missed s m args below meth c D cA σ shM 4 (some (.int r)) S' 11 [(0, .ref (σ 0)), (1, .int x1), (2, .int x2), (3, .int x3)] [] S) : ∀ (S : St) (x1 : Int32) (x3 : Int32) (t0 : Int32) (t1 : Int32), J9_missed_50 k11 S x1 x3 t0 t1 = some (r, S') → Zj p l e rm9_missed s m args below meth c D cA σ shM 4 (some (.int r)) S' 50 [(0, .ref (σ 0)), (1, .int x1), (3, .int x3)] [.int t0, .int t1] S := by
  intro S x1 x3 t0 t1 h
  rw [J9_missed_50] at h
  refine z_iadd (pc := 50) X dX9_missed_50 ?_
  refine z_istore_n (pc := 51) (L' := [(2, .int _), (0, .ref _), (1, .int _), (3, .int _)]) X dX9_missed_51 rfl (by decide) rfl ?_
  refine z_let h (fun h => ?_)
  refine z_iinc (pc := 52) (k := 3) (v := 1) (L' := [(3, .int _), (2, .int _), (0, .ref _), (1, .int _)]) X dX9_missed_52 rfl (by decide) (by decide) rfl ?_
  refine z_let h (fun h => ?_)
  refine z_goto (pc := 55) (tgt := 11) X dX9_missed_55 (by decide) ?_
  exact z_sub [2, 3, 1, 0] rfl (hk11 _ _ _ _ h)
set_option maxRecDepth 100000 in
set_option maxHeartbeats 4000000 in
theorem zz9_missed_49 {S' : St} {r : Int32} (X : zM p s m args meth c D cA σ shM tS RX9 cX9_missed 4 (some .int)) (k11 : St → Int32 → Int32 → Int32 → Option (Int32 × St)) (hk11 : ∀ (S : St) (x1 : Int32) (x2 : Int32) (x3 : Int32), k11 S x1 x2 x3 = some (r, S') → Zj p l e rm9_missed s m args below meth c D cA σ shM 4 (some (.int r)) S' 11 [(0, .ref (σ 0)), (1, .int x1), (2, .int x2), (3, .int x3)] [] S) : ∀ (S : St) (x1 : Int32) (x3 : Int32) (t0 : Int32), J9_missed_49 k11 S x1 x3 t0 = some (r, S') → Zj p l e rm9_missed s m args below meth c D cA σ shM 4 (some (.int r)) S' 49 [(0, .ref (σ 0)), (1, .int x1), (3, .int x3)] [.int t0] S := by
  intro S x1 x3 t0 h
  rw [J9_missed_49] at h
  refine z_iconst (pc := 49) (v := 0) X dX9_missed_49 (by decide) ?_
  exact z_sub [0, 1, 2] rfl (zz9_missed_50 X _ hk11 _ _ _ _ _ h)
set_option maxRecDepth 100000 in
set_option maxHeartbeats 4000000 in
theorem zz9_missed_11 {S' : St} {r : Int32} (X : zM p s m args meth c D cA σ shM tS RX9 cX9_missed 4 (some .int)) : ∀ (n : Nat) (S : St) (x1 : Int32) (x2 : Int32) (x3 : Int32), J9_missed_11 n S x1 x2 x3 = some (r, S') → Zj p l e rm9_missed s m args below meth c D cA σ shM 4 (some (.int r)) S' 11 [(0, .ref (σ 0)), (1, .int x1), (2, .int x2), (3, .int x3)] [] S := by
  intro n
  induction n with
  | zero =>
    intro S x1 x2 x3 h
    rw [J9_missed_11] at h
    cases h
  | succ n ih =>
    intro S x1 x2 x3 h
    rw [J9_missed_11] at h
    refine z_iload_n (pc := 11) X dX9_missed_11 rfl 3 rfl ?_
    refine z_aload_n (pc := 12) X dX9_missed_12 rfl 0 rfl ?_
    refine z_get (pc := 13) (v := .int _) X 0 fX9_236 rfl rfl dX9_missed_13 rfl ?_
    refine z_icmp_gt (pc := 16) (tgt := 58) X dX9_missed_16 (by decide) h (fun h => ?_) (fun h => ?_)
    · refine z_iload_n (pc := 58) X dX9_missed_58 rfl 2 rfl ?_
      exact z_iret X rfl dX9_missed_59 h
    · refine z_iload_n (pc := 19) X dX9_missed_19 rfl 2 rfl ?_
      refine z_aload_n (pc := 20) X dX9_missed_20 rfl 0 rfl ?_
      refine z_get (pc := 21) (v := .ref (σ 23)) X 0 fX9_118 rfl rfl dX9_missed_21 rfl ?_
      refine z_iload_n (pc := 24) X dX9_missed_24 rfl 3 rfl ?_
      refine z_iald (pc := 25) X 23 rfl dX9_missed_25 h (fun h => ?_)
      refine z_iconst (pc := 26) (v := -1) X dX9_missed_26 (by decide) ?_
      refine z_icmp_eq (pc := 27) (tgt := 49) X dX9_missed_27 (by decide) h (fun h => ?_) (fun h => ?_)
      · exact z_sub [0, 1, 3] rfl (zz9_missed_49 X _ ih _ _ _ _ h)
      · refine z_aload_n (pc := 30) X dX9_missed_30 rfl 0 rfl ?_
        refine z_get (pc := 31) (v := .ref (σ 23)) X 0 fX9_118 rfl rfl dX9_missed_31 rfl ?_
        refine z_iload_n (pc := 34) X dX9_missed_34 rfl 3 rfl ?_
        refine z_iald (pc := 35) X 23 rfl dX9_missed_35 h (fun h => ?_)
        refine z_aload_n (pc := 36) X dX9_missed_36 rfl 0 rfl ?_
        refine z_get (pc := 37) (v := .ref (σ 24)) X 0 fX9_121 rfl rfl dX9_missed_37 rfl ?_
        refine z_iload_n (pc := 40) X dX9_missed_40 rfl 1 rfl ?_
        refine z_iald (pc := 41) X 24 rfl dX9_missed_41 h (fun h => ?_)
        refine z_icmp_ge (pc := 42) (tgt := 49) X dX9_missed_42 (by decide) h (fun h => ?_) (fun h => ?_)
        · exact z_sub [0, 1, 3] rfl (zz9_missed_49 X _ ih _ _ _ _ h)
        · refine z_iconst (pc := 45) (v := 1) X dX9_missed_45 (by decide) ?_
          refine z_goto (pc := 46) (tgt := 50) X dX9_missed_46 (by decide) ?_
          exact z_sub [0, 1, 3] rfl (zz9_missed_50 X _ ih _ _ _ _ _ h)
set_option maxRecDepth 100000 in
set_option maxHeartbeats 4000000 in
theorem zz9_missed_0 {S' : St} {r : Int32} (X : zM p s m args meth c D cA σ shM tS RX9 cX9_missed 4 (some .int)) : ∀ (S : St) (x1 : Int32), J9_missed S x1 = some (r, S') → Zj p l e rm9_missed s m args below meth c D cA σ shM 4 (some (.int r)) S' 0 [(0, .ref (σ 0)), (1, .int x1)] [] S := by
  intro S x1 h
  rw [J9_missed] at h
  refine z_iconst (pc := 0) (v := 0) X dX9_missed_0 (by decide) ?_
  refine z_istore_n (pc := 1) (L' := [(2, .int _), (0, .ref _), (1, .int _)]) X dX9_missed_1 rfl (by decide) rfl ?_
  refine z_aload_n (pc := 2) X dX9_missed_2 rfl 1 rfl ?_
  refine z_get (pc := 3) (v := .ref (σ 29)) X 0 fX9_136 rfl rfl dX9_missed_3 rfl ?_
  refine z_iload_n (pc := 6) X dX9_missed_6 rfl 2 rfl ?_
  refine z_iald (pc := 7) X 29 rfl dX9_missed_7 h (fun h => ?_)
  refine z_iconst (pc := 8) (v := 1) X dX9_missed_8 (by decide) ?_
  refine z_iadd (pc := 9) X dX9_missed_9 ?_
  refine z_istore_n (pc := 10) (L' := [(3, .int _), (2, .int _), (0, .ref _), (1, .int _)]) X dX9_missed_10 rfl (by decide) rfl ?_
  refine z_let h (fun h => ?_)
  exact z_sub [2, 3, 1, 0] rfl (zz9_missed_11 X  fu _ _ _ _ h)
theorem cc9_missed {l : Launch} {D : va_G} {cA : Nat → ClassId} {σ : Nat → Nat} {tS : Nat} {S S' : St} {x1 : Int32} {r : Int32} (h : J9_missed S x1 = some (r, S')) : zMet l D cA σ shM tS yX9_missed cX9_missed 4 (some .int) rm9_missed [.ref (σ 0), .int x1] S (some (.int r)) S' := z_met [(0, .ref (σ 0)), (1, .int x1)] (by decide +kernel) (Nat.le_of_ble_eq_true rfl) rfl (fun _ _ _ _ _ _ _ _ X => zz9_missed_0 X _ _ h)
set_option maxRecDepth 100000 in
set_option maxHeartbeats 4000000 in
theorem zz9_got_110 {S' : St} {r : Int32} (X : zM p s m args meth c D cA σ shM tS RX9 cX9_got 4 (some .int)) : ∀ (S : St) (t0 : Int32), J9_got_110 S t0 = some (r, S') → Zj p l e rm9_got s m args below meth c D cA σ shM 4 (some (.int r)) S' 110 [] [.int t0] S := by
  intro S t0 h
  rw [J9_got_110] at h
  exact z_iret X rfl dX9_got_110 h
set_option maxRecDepth 100000 in
set_option maxHeartbeats 4000000 in
theorem zz9_got_62 {S' : St} {r : Int32} (X : zM p s m args meth c D cA σ shM tS RX9 cX9_got 4 (some .int)) : ∀ (S : St) (x1 : Int32) (x2 : Int32) (t0 : Int32), J9_got_62 S x1 x2 t0 = some (r, S') → Zj p l e rm9_got s m args below meth c D cA σ shM 4 (some (.int r)) S' 62 [(0, .ref (σ 0)), (1, .int x1), (2, .int x2)] [.int t0] S := by
  intro S x1 x2 t0 h
  rw [J9_got_62] at h
  refine z_istore_n (pc := 62) (L' := [(3, .int _), (0, .ref _), (1, .int _), (2, .int _)]) X dX9_got_62 rfl (by decide) rfl ?_
  refine z_iload_n (pc := 63) X dX9_got_63 rfl 0 rfl ?_
  refine z_if_le (pc := 64) (tgt := 73) X dX9_got_64 (by decide) h (fun h => ?_) (fun h => ?_)
  · refine z_aload_n (pc := 73) X dX9_got_73 rfl 1 rfl ?_
    refine z_iconst (pc := 74) (v := 0) X dX9_got_74 (by decide) ?_
    refine z_putI (pc := 75) X 0 gX9_1 rfl rfl dX9_got_75 ?_
    refine z_let h (fun h => ?_)
    refine z_iload_n (pc := 78) X dX9_got_78 rfl 3 rfl ?_
    refine z_if_ne (pc := 79) (tgt := 91) X dX9_got_79 (by decide) h (fun h => ?_) (fun h => ?_)
    · refine z_iload_n (pc := 91) X dX9_got_91 rfl 3 rfl ?_
      refine z_iconst (pc := 92) (v := 1) X dX9_got_92 (by decide) ?_
      refine z_icmp_ne (pc := 93) (tgt := 105) X dX9_got_93 (by decide) h (fun h => ?_) (fun h => ?_)
      · refine z_aload_n (pc := 105) X dX9_got_105 rfl 1 rfl ?_
        refine z_iload_n (pc := 106) X dX9_got_106 rfl 2 rfl ?_
        refine z_callVi (pc := 107) (rm := rm9_missed) X 0 [.int _] vX9_289 rfl rfl rfl (Nat.le_of_ble_eq_true rfl) ⟨rfl, rfl, Nat.le_of_ble_eq_true rfl, Nat.le_of_ble_eq_true rfl⟩ dX9_got_107 h (fun _ _ q => cc9_missed q) (fun r2 S2 h => ?_)
        exact z_sub [] rfl (zz9_got_110 X  _ _ h)
      · refine z_aload_n (pc := 96) X dX9_got_96 rfl 1 rfl ?_
        refine z_get (pc := 97) (v := .ref (σ 28)) X 0 fX9_133 rfl rfl dX9_got_97 rfl ?_
        refine z_iload_n (pc := 100) X dX9_got_100 rfl 2 rfl ?_
        refine z_iald (pc := 101) X 28 rfl dX9_got_101 h (fun h => ?_)
        refine z_goto (pc := 102) (tgt := 110) X dX9_got_102 (by decide) ?_
        exact z_sub [] rfl (zz9_got_110 X  _ _ h)
    · refine z_aload_n (pc := 82) X dX9_got_82 rfl 1 rfl ?_
      refine z_get (pc := 83) (v := .ref (σ 27)) X 0 fX9_130 rfl rfl dX9_got_83 rfl ?_
      refine z_iload_n (pc := 86) X dX9_got_86 rfl 2 rfl ?_
      refine z_iald (pc := 87) X 27 rfl dX9_got_87 h (fun h => ?_)
      refine z_goto (pc := 88) (tgt := 110) X dX9_got_88 (by decide) ?_
      exact z_sub [] rfl (zz9_got_110 X  _ _ h)
  · refine z_aload_n (pc := 67) X dX9_got_67 rfl 1 rfl ?_
    refine z_iload_n (pc := 68) X dX9_got_68 rfl 0 rfl ?_
    refine z_callVi (pc := 69) (rm := rm9_refuse) X 0 [.int _] vX9_154 rfl rfl rfl (Nat.le_of_ble_eq_true rfl) ⟨rfl, rfl, Nat.le_of_ble_eq_true rfl, Nat.le_of_ble_eq_true rfl⟩ dX9_got_69 h (fun _ _ q => cc9_refuse q) (fun r3 S3 h => ?_)
    exact z_iret X rfl dX9_got_72 h
set_option maxRecDepth 100000 in
set_option maxHeartbeats 4000000 in
theorem zz9_got_19 {S' : St} {r : Int32} (X : zM p s m args meth c D cA σ shM tS RX9 cX9_got 4 (some .int)) : ∀ (S : St) (x1 : Int32) (x2 : Int32), J9_got_19 S x1 x2 = some (r, S') → Zj p l e rm9_got s m args below meth c D cA σ shM 4 (some (.int r)) S' 19 [(0, .ref (σ 0)), (1, .int x1), (2, .int x2)] [] S := by
  intro S x1 x2 h
  rw [J9_got_19] at h
  refine z_iconst (pc := 19) (v := 1) X dX9_got_19 (by decide) ?_
  refine z_goto (pc := 20) (tgt := 62) X dX9_got_20 (by decide) ?_
  exact z_sub [0, 1, 2] rfl (zz9_got_62 X  _ _ _ _ h)
set_option maxRecDepth 100000 in
set_option maxHeartbeats 4000000 in
theorem zz9_got_0 {S' : St} {r : Int32} (X : zM p s m args meth c D cA σ shM tS RX9 cX9_got 4 (some .int)) : ∀ (S : St) (x1 : Int32) (x2 : Int32), J9_got S x1 x2 = some (r, S') → Zj p l e rm9_got s m args below meth c D cA σ shM 4 (some (.int r)) S' 0 [(0, .ref (σ 0)), (1, .int x1), (2, .int x2)] [] S := by
  intro S x1 x2 h
  rw [J9_got] at h
  refine z_iload_n (pc := 0) X dX9_got_0 rfl 1 rfl ?_
  refine z_if_lt (pc := 1) (tgt := 19) X dX9_got_1 (by decide) h (fun h => ?_) (fun h => ?_)
  · exact z_sub [0, 1, 2] rfl (zz9_got_19 X  _ _ _ h)
  · refine z_iload_n (pc := 4) X dX9_got_4 rfl 1 rfl ?_
    refine z_bipush (pc := 5) (v := 40) X dX9_got_5 (by decide) ?_
    refine z_icmp_ge (pc := 7) (tgt := 19) X dX9_got_7 (by decide) h (fun h => ?_) (fun h => ?_)
    · exact z_sub [0, 1, 2] rfl (zz9_got_19 X  _ _ _ h)
    · refine z_iload_n (pc := 10) X dX9_got_10 rfl 2 rfl ?_
      refine z_if_lt (pc := 11) (tgt := 19) X dX9_got_11 (by decide) h (fun h => ?_) (fun h => ?_)
      · exact z_sub [0, 1, 2] rfl (zz9_got_19 X  _ _ _ h)
      · refine z_iload_n (pc := 14) X dX9_got_14 rfl 2 rfl ?_
        refine z_iconst (pc := 15) (v := 2) X dX9_got_15 (by decide) ?_
        refine z_icmp_le (pc := 16) (tgt := 23) X dX9_got_16 (by decide) h (fun h => ?_) (fun h => ?_)
        · refine z_aload_n (pc := 23) X dX9_got_23 rfl 0 rfl ?_
          refine z_get (pc := 24) (v := .int _) X 0 fX9_208 rfl rfl dX9_got_24 rfl ?_
          refine z_if_ne (pc := 27) (tgt := 34) X dX9_got_27 (by decide) h (fun h => ?_) (fun h => ?_)
          · refine z_iload_n (pc := 34) X dX9_got_34 rfl 1 rfl ?_
            refine z_aload_n (pc := 35) X dX9_got_35 rfl 0 rfl ?_
            refine z_get (pc := 36) (v := .int _) X 0 fX9_239 rfl rfl dX9_got_36 rfl ?_
            refine z_icmp_lt (pc := 39) (tgt := 46) X dX9_got_39 (by decide) h (fun h => ?_) (fun h => ?_)
            · refine z_aload_n (pc := 46) X dX9_got_46 rfl 0 rfl ?_
              refine z_get (pc := 47) (v := .ref (σ 27)) X 0 fX9_130 rfl rfl dX9_got_47 rfl ?_
              refine z_iload_n (pc := 50) X dX9_got_50 rfl 1 rfl ?_
              refine z_iald (pc := 51) X 27 rfl dX9_got_51 h (fun h => ?_)
              refine z_iconst (pc := 52) (v := -1) X dX9_got_52 (by decide) ?_
              refine z_icmp_ne (pc := 53) (tgt := 61) X dX9_got_53 (by decide) h (fun h => ?_) (fun h => ?_)
              · refine z_iconst (pc := 61) (v := 0) X dX9_got_61 (by decide) ?_
                exact z_sub [0, 1, 2] rfl (zz9_got_62 X  _ _ _ _ h)
              · refine z_bipush (pc := 56) (v := 7) X dX9_got_56 (by decide) ?_
                refine z_goto (pc := 58) (tgt := 62) X dX9_got_58 (by decide) ?_
                exact z_sub [0, 1, 2] rfl (zz9_got_62 X  _ _ _ _ h)
            · refine z_iconst (pc := 42) (v := 1) X dX9_got_42 (by decide) ?_
              refine z_goto (pc := 43) (tgt := 62) X dX9_got_43 (by decide) ?_
              exact z_sub [0, 1, 2] rfl (zz9_got_62 X  _ _ _ _ h)
          · refine z_iconst (pc := 30) (v := 4) X dX9_got_30 (by decide) ?_
            refine z_goto (pc := 31) (tgt := 62) X dX9_got_31 (by decide) ?_
            exact z_sub [0, 1, 2] rfl (zz9_got_62 X  _ _ _ _ h)
        · exact z_sub [0, 1, 2] rfl (zz9_got_19 X  _ _ _ h)
theorem cc9_got {l : Launch} {D : va_G} {cA : Nat → ClassId} {σ : Nat → Nat} {tS : Nat} {S S' : St} {x1 : Int32} {x2 : Int32} {r : Int32} (h : J9_got S x1 x2 = some (r, S')) : zMet l D cA σ shM tS yX9_got cX9_got 4 (some .int) rm9_got [.ref (σ 0), .int x1, .int x2] S (some (.int r)) S' := z_met [(0, .ref (σ 0)), (1, .int x1), (2, .int x2)] (by decide +kernel) (Nat.le_of_ble_eq_true rfl) rfl (fun _ _ _ _ _ _ _ _ X => zz9_got_0 X _ _ _ h)
set_option maxRecDepth 100000 in
set_option maxHeartbeats 4000000 in
theorem zz9_isReader_14 {S' : St} {r : Int32} (X : zM p s m args meth c D cA σ shM tS RX9 cX9_isReader 1 (some .boolean)) : ∀ (S : St) (t0 : Int32), J9_isReader_14 S t0 = some (r, S') → Zj p l e rm9_isReader s m args below meth c D cA σ shM 1 (some (.int r)) S' 14 [] [.int t0] S := by
  intro S t0 h
  rw [J9_isReader_14] at h
  exact z_zret X rfl dX9_isReader_14 h
set_option maxRecDepth 100000 in
set_option maxHeartbeats 4000000 in
theorem zz9_isReader_13 {S' : St} {r : Int32} (X : zM p s m args meth c D cA σ shM tS RX9 cX9_isReader 1 (some .boolean)) : ∀ (S : St), J9_isReader_13 S = some (r, S') → Zj p l e rm9_isReader s m args below meth c D cA σ shM 1 (some (.int r)) S' 13 [] [] S := by
  intro S h
  rw [J9_isReader_13] at h
  refine z_iconst (pc := 13) (v := 0) X dX9_isReader_13 (by decide) ?_
  exact z_sub [] rfl (zz9_isReader_14 X  _ _ h)
set_option maxRecDepth 100000 in
set_option maxHeartbeats 4000000 in
theorem zz9_isReader_0 {S' : St} {r : Int32} (X : zM p s m args meth c D cA σ shM tS RX9 cX9_isReader 1 (some .boolean)) : ∀ (S : St) (x0 : Int32), J9_isReader S x0 = some (r, S') → Zj p l e rm9_isReader s m args below meth c D cA σ shM 1 (some (.int r)) S' 0 [(0, .int x0)] [] S := by
  intro S x0 h
  rw [J9_isReader] at h
  refine z_iload_n (pc := 0) X dX9_isReader_0 rfl 0 rfl ?_
  refine z_if_lt (pc := 1) (tgt := 13) X dX9_isReader_1 (by decide) h (fun h => ?_) (fun h => ?_)
  · exact z_sub [] rfl (zz9_isReader_13 X  _ h)
  · refine z_iload_n (pc := 4) X dX9_isReader_4 rfl 0 rfl ?_
    refine z_iconst (pc := 5) (v := 4) X dX9_isReader_5 (by decide) ?_
    refine z_icmp_ge (pc := 6) (tgt := 13) X dX9_isReader_6 (by decide) h (fun h => ?_) (fun h => ?_)
    · exact z_sub [] rfl (zz9_isReader_13 X  _ h)
    · refine z_iconst (pc := 9) (v := 1) X dX9_isReader_9 (by decide) ?_
      refine z_goto (pc := 10) (tgt := 14) X dX9_isReader_10 (by decide) ?_
      exact z_sub [] rfl (zz9_isReader_14 X  _ _ h)
theorem cc9_isReader {l : Launch} {D : va_G} {cA : Nat → ClassId} {σ : Nat → Nat} {tS : Nat} {S S' : St} {x0 : Int32} {r : Int32} (h : J9_isReader S x0 = some (r, S')) : zMet l D cA σ shM tS yX9_isReader cX9_isReader 1 (some .boolean) rm9_isReader [.int x0] S (some (.int r)) S' := z_met [(0, .int x0)] (by decide +kernel) (Nat.le_of_ble_eq_true rfl) rfl (fun _ _ _ _ _ _ _ _ X => zz9_isReader_0 X _ _ h)
set_option maxRecDepth 100000 in
set_option maxHeartbeats 4000000 in
theorem zz9_keep_0 {S' : St} {r : Int32} (X : zM p s m args meth c D cA σ shM tS RX9 cX9_keep 3 (some .boolean)) : ∀ (S : St) (x1 : Int32) (x2 : Int32), J9_keep S x1 x2 = some (r, S') → Zj p l e rm9_keep s m args below meth c D cA σ shM 3 (some (.int r)) S' 0 [(0, .ref (σ 0)), (1, .int x1), (2, .int x2)] [] S := by
  intro S x1 x2 h
  rw [J9_keep] at h
  refine z_iload_n (pc := 0) X dX9_keep_0 rfl 1 rfl ?_
  refine z_callSi (pc := 1) (rm := rm9_isReader) X [.int _] sX9_245 rfl rfl (Nat.le_of_ble_eq_true rfl) ⟨rfl, rfl, Nat.le_of_ble_eq_true rfl, Nat.le_of_ble_eq_true rfl⟩ dX9_keep_1 h (fun _ _ q => cc9_isReader q) (fun r1 S1 h => ?_)
  refine z_if_ne (pc := 4) (tgt := 13) X dX9_keep_4 (by decide) h (fun h => ?_) (fun h => ?_)
  · refine z_aload_n (pc := 13) X dX9_keep_13 rfl 0 rfl ?_
    refine z_get (pc := 14) (v := .int _) X 0 fX9_208 rfl rfl dX9_keep_14 rfl ?_
    refine z_if_ne (pc := 17) (tgt := 26) X dX9_keep_17 (by decide) h (fun h => ?_) (fun h => ?_)
    · refine z_aload_n (pc := 26) X dX9_keep_26 rfl 0 rfl ?_
      refine z_get (pc := 27) (v := .ref (σ 13)) X 0 fX9_88 rfl rfl dX9_keep_27 rfl ?_
      refine z_iload_n (pc := 30) X dX9_keep_30 rfl 1 rfl ?_
      refine z_iload_n (pc := 31) X dX9_keep_31 rfl 2 rfl ?_
      refine z_zast (pc := 32) X 13 rfl dX9_keep_32 h (fun h => ?_)
      refine z_let h (fun h => ?_)
      refine z_aload_n (pc := 33) X dX9_keep_33 rfl 0 rfl ?_
      refine z_iconst (pc := 34) (v := 0) X dX9_keep_34 (by decide) ?_
      refine z_callVi (pc := 35) (rm := rm9_is) X 0 [.int _] vX9_18 rfl rfl rfl (Nat.le_of_ble_eq_true rfl) ⟨rfl, rfl, Nat.le_of_ble_eq_true rfl, Nat.le_of_ble_eq_true rfl⟩ dX9_keep_35 h (fun _ _ q => cc9_is q) (fun r3 S3 h => ?_)
      exact z_zret X rfl dX9_keep_38 h
    · refine z_aload_n (pc := 20) X dX9_keep_20 rfl 0 rfl ?_
      refine z_iconst (pc := 21) (v := 4) X dX9_keep_21 (by decide) ?_
      refine z_callVi (pc := 22) (rm := rm9_is) X 0 [.int _] vX9_18 rfl rfl rfl (Nat.le_of_ble_eq_true rfl) ⟨rfl, rfl, Nat.le_of_ble_eq_true rfl, Nat.le_of_ble_eq_true rfl⟩ dX9_keep_22 h (fun _ _ q => cc9_is q) (fun r4 S4 h => ?_)
      exact z_zret X rfl dX9_keep_25 h
  · refine z_aload_n (pc := 7) X dX9_keep_7 rfl 0 rfl ?_
    refine z_iconst (pc := 8) (v := 1) X dX9_keep_8 (by decide) ?_
    refine z_callVi (pc := 9) (rm := rm9_is) X 0 [.int _] vX9_18 rfl rfl rfl (Nat.le_of_ble_eq_true rfl) ⟨rfl, rfl, Nat.le_of_ble_eq_true rfl, Nat.le_of_ble_eq_true rfl⟩ dX9_keep_9 h (fun _ _ q => cc9_is q) (fun r5 S5 h => ?_)
    exact z_zret X rfl dX9_keep_12 h
theorem cc9_keep {l : Launch} {D : va_G} {cA : Nat → ClassId} {σ : Nat → Nat} {tS : Nat} {S S' : St} {x1 : Int32} {x2 : Int32} {r : Int32} (h : J9_keep S x1 x2 = some (r, S')) : zMet l D cA σ shM tS yX9_keep cX9_keep 3 (some .boolean) rm9_keep [.ref (σ 0), .int x1, .int x2] S (some (.int r)) S' := z_met [(0, .ref (σ 0)), (1, .int x1), (2, .int x2)] (by decide +kernel) (Nat.le_of_ble_eq_true rfl) rfl (fun _ _ _ _ _ _ _ _ X => zz9_keep_0 X _ _ _ h)
set_option maxRecDepth 100000 in
set_option maxHeartbeats 4000000 in
theorem zz9_mending_0 {S' : St} {r : Int32} (X : zM p s m args meth c D cA σ shM tS RX9 cX9_mending 2 (some .boolean)) : ∀ (S : St) (x1 : Int32), J9_mending S x1 = some (r, S') → Zj p l e rm9_mending s m args below meth c D cA σ shM 2 (some (.int r)) S' 0 [(0, .ref (σ 0)), (1, .int x1)] [] S := by
  intro S x1 h
  rw [J9_mending] at h
  refine z_aload_n (pc := 0) X dX9_mending_0 rfl 0 rfl ?_
  refine z_get (pc := 1) (v := .int _) X 0 fX9_208 rfl rfl dX9_mending_1 rfl ?_
  refine z_if_ne (pc := 4) (tgt := 13) X dX9_mending_4 (by decide) h (fun h => ?_) (fun h => ?_)
  · refine z_aload_n (pc := 13) X dX9_mending_13 rfl 0 rfl ?_
    refine z_iload_n (pc := 14) X dX9_mending_14 rfl 1 rfl ?_
    refine z_putZ (pc := 15) X 0 gX9_212 rfl rfl dX9_mending_15 h (fun h => ?_)
    refine z_let h (fun h => ?_)
    refine z_aload_n (pc := 18) X dX9_mending_18 rfl 0 rfl ?_
    refine z_iconst (pc := 19) (v := 0) X dX9_mending_19 (by decide) ?_
    refine z_callVi (pc := 20) (rm := rm9_is) X 0 [.int _] vX9_18 rfl rfl rfl (Nat.le_of_ble_eq_true rfl) ⟨rfl, rfl, Nat.le_of_ble_eq_true rfl, Nat.le_of_ble_eq_true rfl⟩ dX9_mending_20 h (fun _ _ q => cc9_is q) (fun r2 S2 h => ?_)
    exact z_zret X rfl dX9_mending_23 h
  · refine z_aload_n (pc := 7) X dX9_mending_7 rfl 0 rfl ?_
    refine z_iconst (pc := 8) (v := 4) X dX9_mending_8 (by decide) ?_
    refine z_callVi (pc := 9) (rm := rm9_is) X 0 [.int _] vX9_18 rfl rfl rfl (Nat.le_of_ble_eq_true rfl) ⟨rfl, rfl, Nat.le_of_ble_eq_true rfl, Nat.le_of_ble_eq_true rfl⟩ dX9_mending_9 h (fun _ _ q => cc9_is q) (fun r3 S3 h => ?_)
    exact z_zret X rfl dX9_mending_12 h
theorem cc9_mending {l : Launch} {D : va_G} {cA : Nat → ClassId} {σ : Nat → Nat} {tS : Nat} {S S' : St} {x1 : Int32} {r : Int32} (h : J9_mending S x1 = some (r, S')) : zMet l D cA σ shM tS yX9_mending cX9_mending 2 (some .boolean) rm9_mending [.ref (σ 0), .int x1] S (some (.int r)) S' := z_met [(0, .ref (σ 0)), (1, .int x1)] (by decide +kernel) (Nat.le_of_ble_eq_true rfl) rfl (fun _ _ _ _ _ _ _ _ X => zz9_mending_0 X _ _ h)
set_option maxRecDepth 100000 in
set_option maxHeartbeats 4000000 in
theorem zz9_none_0 {S' : St} {r : Int32} (X : zM p s m args meth c D cA σ shM tS RX9 cX9_none 1 (some .boolean)) : ∀ (S : St), J9_none S = some (r, S') → Zj p l e rm9_none s m args below meth c D cA σ shM 1 (some (.int r)) S' 0 [(0, .ref (σ 0))] [] S := by
  intro S h
  rw [J9_none] at h
  refine z_aload_n (pc := 0) X dX9_none_0 rfl 0 rfl ?_
  refine z_bipush (pc := 1) (v := 10) X dX9_none_1 (by decide) ?_
  refine z_callVi (pc := 3) (rm := rm9_is) X 0 [.int _] vX9_18 rfl rfl rfl (Nat.le_of_ble_eq_true rfl) ⟨rfl, rfl, Nat.le_of_ble_eq_true rfl, Nat.le_of_ble_eq_true rfl⟩ dX9_none_3 h (fun _ _ q => cc9_is q) (fun r1 S1 h => ?_)
  exact z_zret X rfl dX9_none_6 h
theorem cc9_none {l : Launch} {D : va_G} {cA : Nat → ClassId} {σ : Nat → Nat} {tS : Nat} {S S' : St} {r : Int32} (h : J9_none S = some (r, S')) : zMet l D cA σ shM tS yX9_none cX9_none 1 (some .boolean) rm9_none [.ref (σ 0)] S (some (.int r)) S' := z_met [(0, .ref (σ 0))] (by decide +kernel) (Nat.le_of_ble_eq_true rfl) rfl (fun _ _ _ _ _ _ _ _ X => zz9_none_0 X _ h)
set_option maxRecDepth 100000 in
set_option maxHeartbeats 4000000 in
theorem zz9_pick_5 {S' : St} {r : Int64} (X : zM p s m args meth c D cA σ shM tS RX9 cX9_pick 5 (some .long)) : ∀ (n : Nat) (S : St) (x0 : Int32) (x1 : Int32) (x2 : Int64) (x4 : Int32), J9_pick_5 n S x0 x1 x2 x4 = some (r, S') → Zj p l e rm9_pick s m args below meth c D cA σ shM 5 (some (.long r)) S' 5 [(0, .int x0), (1, .int x1), (2, .long x2), (4, .int x4)] [] S := by
  intro n
  induction n with
  | zero =>
    intro S x0 x1 x2 x4 h
    rw [J9_pick_5] at h
    cases h
  | succ n ih =>
    intro S x0 x1 x2 x4 h
    rw [J9_pick_5] at h
    refine z_iload (pc := 5) X dX9_pick_5 3 rfl ?_
    refine z_iload_n (pc := 7) X dX9_pick_7 rfl 1 rfl ?_
    refine z_icmp_ge (pc := 8) (tgt := 31) X dX9_pick_8 (by decide) h (fun h => ?_) (fun h => ?_)
    · refine z_lload_n (pc := 31) X dX9_pick_31 rfl 2 rfl ?_
      exact z_lret X rfl dX9_pick_32 h
    · refine z_lload_n (pc := 11) X dX9_pick_11 rfl 2 rfl ?_
      refine z_iload_n (pc := 12) X dX9_pick_12 rfl 0 rfl ?_
      refine z_iload (pc := 13) X dX9_pick_13 3 rfl ?_
      refine z_isub (pc := 15) X dX9_pick_15 ?_
      refine z_i2l (pc := 16) X dX9_pick_16 ?_
      refine z_lmul (pc := 17) X dX9_pick_17 ?_
      refine z_iload (pc := 18) X dX9_pick_18 3 rfl ?_
      refine z_iconst (pc := 20) (v := 1) X dX9_pick_20 (by decide) ?_
      refine z_iadd (pc := 21) X dX9_pick_21 ?_
      refine z_i2l (pc := 22) X dX9_pick_22 ?_
      refine z_ldiv (pc := 23) X dX9_pick_23 h (fun h => ?_)
      refine z_lstore_n (pc := 24) (L' := [(2, .long _), (0, .int _), (1, .int _), (4, .int _)]) X dX9_pick_24 rfl (by decide) rfl ?_
      refine z_let h (fun h => ?_)
      refine z_iinc (pc := 25) (k := 3) (v := 1) (L' := [(4, .int _), (2, .long _), (0, .int _), (1, .int _)]) X dX9_pick_25 rfl (by decide) (by decide) rfl ?_
      refine z_let h (fun h => ?_)
      refine z_goto (pc := 28) (tgt := 5) X dX9_pick_28 (by decide) ?_
      exact z_sub [2, 3, 1, 0] rfl (ih _ _ _ _ _ h)
set_option maxRecDepth 100000 in
set_option maxHeartbeats 4000000 in
theorem zz9_pick_0 {S' : St} {r : Int64} (X : zM p s m args meth c D cA σ shM tS RX9 cX9_pick 5 (some .long)) : ∀ (S : St) (x0 : Int32) (x1 : Int32), J9_pick S x0 x1 = some (r, S') → Zj p l e rm9_pick s m args below meth c D cA σ shM 5 (some (.long r)) S' 0 [(0, .int x0), (1, .int x1)] [] S := by
  intro S x0 x1 h
  rw [J9_pick] at h
  refine z_lconst (pc := 0) (v := 1) X dX9_pick_0 (by decide) ?_
  refine z_lstore_n (pc := 1) (L' := [(2, .long _), (0, .int _), (1, .int _)]) X dX9_pick_1 rfl (by decide) rfl ?_
  refine z_iconst (pc := 2) (v := 0) X dX9_pick_2 (by decide) ?_
  refine z_istore (pc := 3) (L' := [(4, .int _), (2, .long _), (0, .int _), (1, .int _)]) X dX9_pick_3 (by decide) rfl ?_
  exact z_sub [2, 3, 1, 0] rfl (zz9_pick_5 X  fu _ _ _ _ _ h)
theorem cc9_pick {l : Launch} {D : va_G} {cA : Nat → ClassId} {σ : Nat → Nat} {tS : Nat} {S S' : St} {x0 : Int32} {x1 : Int32} {r : Int64} (h : J9_pick S x0 x1 = some (r, S')) : zMet l D cA σ shM tS yX9_pick cX9_pick 5 (some .long) rm9_pick [.int x0, .int x1] S (some (.long r)) S' := z_met [(0, .int x0), (1, .int x1)] (by decide +kernel) (Nat.le_of_ble_eq_true rfl) rfl (fun _ _ _ _ _ _ _ _ X => zz9_pick_0 X _ _ _ h)
set_option maxRecDepth 100000 in
set_option maxHeartbeats 4000000 in
theorem zz9_power_5 {S' : St} {r : Int64} (X : zM p s m args meth c D cA σ shM tS RX9 cX9_power 6 (some .long)) : ∀ (n : Nat) (S : St) (x0 : Int64) (x2 : Int32) (x3 : Int64) (x5 : Int32), J9_power_5 n S x0 x2 x3 x5 = some (r, S') → Zj p l e rm9_power s m args below meth c D cA σ shM 6 (some (.long r)) S' 5 [(0, .long x0), (2, .int x2), (3, .long x3), (5, .int x5)] [] S := by
  intro n
  induction n with
  | zero =>
    intro S x0 x2 x3 x5 h
    rw [J9_power_5] at h
    cases h
  | succ n ih =>
    intro S x0 x2 x3 x5 h
    rw [J9_power_5] at h
    refine z_iload (pc := 5) X dX9_power_5 3 rfl ?_
    refine z_iload_n (pc := 7) X dX9_power_7 rfl 1 rfl ?_
    refine z_icmp_ge (pc := 8) (tgt := 21) X dX9_power_8 (by decide) h (fun h => ?_) (fun h => ?_)
    · refine z_lload_n (pc := 21) X dX9_power_21 rfl 2 rfl ?_
      exact z_lret X rfl dX9_power_22 h
    · refine z_lload_n (pc := 11) X dX9_power_11 rfl 2 rfl ?_
      refine z_lload_n (pc := 12) X dX9_power_12 rfl 0 rfl ?_
      refine z_lmul (pc := 13) X dX9_power_13 ?_
      refine z_lstore_n (pc := 14) (L' := [(3, .long _), (0, .long _), (2, .int _), (5, .int _)]) X dX9_power_14 rfl (by decide) rfl ?_
      refine z_let h (fun h => ?_)
      refine z_iinc (pc := 15) (k := 3) (v := 1) (L' := [(5, .int _), (3, .long _), (0, .long _), (2, .int _)]) X dX9_power_15 rfl (by decide) (by decide) rfl ?_
      refine z_let h (fun h => ?_)
      refine z_goto (pc := 18) (tgt := 5) X dX9_power_18 (by decide) ?_
      exact z_sub [2, 3, 1, 0] rfl (ih _ _ _ _ _ h)
set_option maxRecDepth 100000 in
set_option maxHeartbeats 4000000 in
theorem zz9_power_0 {S' : St} {r : Int64} (X : zM p s m args meth c D cA σ shM tS RX9 cX9_power 6 (some .long)) : ∀ (S : St) (x0 : Int64) (x2 : Int32), J9_power S x0 x2 = some (r, S') → Zj p l e rm9_power s m args below meth c D cA σ shM 6 (some (.long r)) S' 0 [(0, .long x0), (2, .int x2)] [] S := by
  intro S x0 x2 h
  rw [J9_power] at h
  refine z_lconst (pc := 0) (v := 1) X dX9_power_0 (by decide) ?_
  refine z_lstore_n (pc := 1) (L' := [(3, .long _), (0, .long _), (2, .int _)]) X dX9_power_1 rfl (by decide) rfl ?_
  refine z_iconst (pc := 2) (v := 0) X dX9_power_2 (by decide) ?_
  refine z_istore (pc := 3) (L' := [(5, .int _), (3, .long _), (0, .long _), (2, .int _)]) X dX9_power_3 (by decide) rfl ?_
  exact z_sub [2, 3, 1, 0] rfl (zz9_power_5 X  fu _ _ _ _ _ h)
theorem cc9_power {l : Launch} {D : va_G} {cA : Nat → ClassId} {σ : Nat → Nat} {tS : Nat} {S S' : St} {x0 : Int64} {x2 : Int32} {r : Int64} (h : J9_power S x0 x2 = some (r, S')) : zMet l D cA σ shM tS yX9_power cX9_power 6 (some .long) rm9_power [.long x0, .int x2] S (some (.long r)) S' := z_met [(0, .long x0), (2, .int x2)] (by decide +kernel) (Nat.le_of_ble_eq_true rfl) rfl (fun _ _ _ _ _ _ _ _ X => zz9_power_0 X _ _ _ h)
set_option maxRecDepth 100000 in
set_option maxHeartbeats 4000000 in
theorem zz9_nth_24 {S' : St} {r : Int64} (X : zM p s m args meth c D cA σ shM tS RX9 cX9_nth 12 (some .long)) (k6 : St → Int32 → Int32 → Int64 → Int64 → Int64 → Int64 → Int32 → Option (Int64 × St)) (hk6 : ∀ (S : St) (x0 : Int32) (x1 : Int32) (x2 : Int64) (x4 : Int64) (x6 : Int64) (x8 : Int64) (x10 : Int32), k6 S x0 x1 x2 x4 x6 x8 x10 = some (r, S') → Zj p l e rm9_nth s m args below meth c D cA σ shM 12 (some (.long r)) S' 6 [(0, .int x0), (1, .int x1), (2, .long x2), (4, .long x4), (6, .long x6), (8, .long x8), (10, .int x10)] [] S) : ∀ (n : Nat) (S : St) (x0 : Int32) (x1 : Int32) (x2 : Int64) (x4 : Int64) (x6 : Int64) (x8 : Int64) (x10 : Int32) (x11 : Int32), J9_nth_24 k6 n S x0 x1 x2 x4 x6 x8 x10 x11 = some (r, S') → Zj p l e rm9_nth s m args below meth c D cA σ shM 12 (some (.long r)) S' 24 [(0, .int x0), (1, .int x1), (2, .long x2), (4, .long x4), (6, .long x6), (8, .long x8), (10, .int x10), (11, .int x11)] [] S := by
  intro n
  induction n with
  | zero =>
    intro S x0 x1 x2 x4 x6 x8 x10 x11 h
    rw [J9_nth_24] at h
    cases h
  | succ n ih =>
    intro S x0 x1 x2 x4 x6 x8 x10 x11 h
    rw [J9_nth_24] at h
    refine z_iload (pc := 24) X dX9_nth_24 6 rfl ?_
    refine z_iload (pc := 26) X dX9_nth_26 7 rfl ?_
    refine z_iadd (pc := 28) X dX9_nth_28 ?_
    refine z_iload_n (pc := 29) X dX9_nth_29 rfl 0 rfl ?_
    refine z_icmp_gt (pc := 30) (tgt := 88) X dX9_nth_30 (by decide) h (fun h => ?_) (fun h => ?_)
    · refine z_iinc (pc := 88) (k := 6) (v := 1) (L' := [(10, .int _), (0, .int _), (1, .int _), (2, .long _), (4, .long _), (6, .long _), (8, .long _), (11, .int _)]) X dX9_nth_88 rfl (by decide) (by decide) rfl ?_
      refine z_let h (fun h => ?_)
      refine z_goto (pc := 91) (tgt := 6) X dX9_nth_91 (by decide) ?_
      exact z_sub [1, 2, 3, 4, 5, 6, 0] rfl (hk6 _ _ _ _ _ _ _ _ h)
    · refine z_lload (pc := 33) X dX9_nth_33 5 rfl ?_
      refine z_iload_n (pc := 35) X dX9_nth_35 rfl 0 rfl ?_
      refine z_iload (pc := 36) X dX9_nth_36 6 rfl ?_
      refine z_callSl (pc := 38) (rm := rm9_pick) X [.int _, .int _] sX9_147 rfl rfl (Nat.le_of_ble_eq_true rfl) ⟨rfl, rfl, Nat.le_of_ble_eq_true rfl, Nat.le_of_ble_eq_true rfl⟩ dX9_nth_38 h (fun _ _ q => cc9_pick q) (fun r2 S2 h => ?_)
      refine z_iload_n (pc := 41) X dX9_nth_41 rfl 0 rfl ?_
      refine z_iload (pc := 42) X dX9_nth_42 6 rfl ?_
      refine z_isub (pc := 44) X dX9_nth_44 ?_
      refine z_iload (pc := 45) X dX9_nth_45 7 rfl ?_
      refine z_callSl (pc := 47) (rm := rm9_pick) X [.int _, .int _] sX9_147 rfl rfl (Nat.le_of_ble_eq_true rfl) ⟨rfl, rfl, Nat.le_of_ble_eq_true rfl, Nat.le_of_ble_eq_true rfl⟩ dX9_nth_47 h (fun _ _ q => cc9_pick q) (fun r3 S3 h => ?_)
      refine z_lmul (pc := 50) X dX9_nth_50 ?_
      refine z_lload_n (pc := 51) X dX9_nth_51 rfl 2 rfl ?_
      refine z_iload (pc := 52) X dX9_nth_52 6 rfl ?_
      refine z_callSl (pc := 54) (rm := rm9_power) X [.long _, .int _] sX9_151 rfl rfl (Nat.le_of_ble_eq_true rfl) ⟨rfl, rfl, Nat.le_of_ble_eq_true rfl, Nat.le_of_ble_eq_true rfl⟩ dX9_nth_54 h (fun _ _ q => cc9_power q) (fun r4 S4 h => ?_)
      refine z_lmul (pc := 57) X dX9_nth_57 ?_
      refine z_lload (pc := 58) X dX9_nth_58 3 rfl ?_
      refine z_iload (pc := 60) X dX9_nth_60 7 rfl ?_
      refine z_callSl (pc := 62) (rm := rm9_power) X [.long _, .int _] sX9_151 rfl rfl (Nat.le_of_ble_eq_true rfl) ⟨rfl, rfl, Nat.le_of_ble_eq_true rfl, Nat.le_of_ble_eq_true rfl⟩ dX9_nth_62 h (fun _ _ q => cc9_power q) (fun r5 S5 h => ?_)
      refine z_lmul (pc := 65) X dX9_nth_65 ?_
      refine z_lload (pc := 66) X dX9_nth_66 4 rfl ?_
      refine z_iload_n (pc := 68) X dX9_nth_68 rfl 0 rfl ?_
      refine z_iload (pc := 69) X dX9_nth_69 6 rfl ?_
      refine z_isub (pc := 71) X dX9_nth_71 ?_
      refine z_iload (pc := 72) X dX9_nth_72 7 rfl ?_
      refine z_isub (pc := 74) X dX9_nth_74 ?_
      refine z_callSl (pc := 75) (rm := rm9_power) X [.long _, .int _] sX9_151 rfl rfl (Nat.le_of_ble_eq_true rfl) ⟨rfl, rfl, Nat.le_of_ble_eq_true rfl, Nat.le_of_ble_eq_true rfl⟩ dX9_nth_75 h (fun _ _ q => cc9_power q) (fun r6 S6 h => ?_)
      refine z_lmul (pc := 78) X dX9_nth_78 ?_
      refine z_ladd (pc := 79) X dX9_nth_79 ?_
      refine z_lstore (pc := 80) (L' := [(8, .long _), (0, .int _), (1, .int _), (2, .long _), (4, .long _), (6, .long _), (10, .int _), (11, .int _)]) X dX9_nth_80 (by decide) rfl ?_
      refine z_let h (fun h => ?_)
      refine z_iinc (pc := 82) (k := 7) (v := 1) (L' := [(11, .int _), (8, .long _), (0, .int _), (1, .int _), (2, .long _), (4, .long _), (6, .long _), (10, .int _)]) X dX9_nth_82 rfl (by decide) (by decide) rfl ?_
      refine z_let h (fun h => ?_)
      refine z_goto (pc := 85) (tgt := 24) X dX9_nth_85 (by decide) ?_
      exact z_sub [2, 3, 4, 5, 6, 1, 7, 0] rfl (ih _ _ _ _ _ _ _ _ _ h)
set_option maxRecDepth 100000 in
set_option maxHeartbeats 4000000 in
theorem zz9_nth_94 {S' : St} {r : Int64} (X : zM p s m args meth c D cA σ shM tS RX9 cX9_nth 12 (some .long)) : ∀ (S : St) (x8 : Int64), J9_nth_94 S x8 = some (r, S') → Zj p l e rm9_nth s m args below meth c D cA σ shM 12 (some (.long r)) S' 94 [(8, .long x8)] [] S := by
  intro S x8 h
  rw [J9_nth_94] at h
  refine z_lload (pc := 94) X dX9_nth_94 0 rfl ?_
  exact z_lret X rfl dX9_nth_96 h
set_option maxRecDepth 100000 in
set_option maxHeartbeats 4000000 in
theorem zz9_nth_6 {S' : St} {r : Int64} (X : zM p s m args meth c D cA σ shM tS RX9 cX9_nth 12 (some .long)) : ∀ (n : Nat) (S : St) (x0 : Int32) (x1 : Int32) (x2 : Int64) (x4 : Int64) (x6 : Int64) (x8 : Int64) (x10 : Int32), J9_nth_6 n S x0 x1 x2 x4 x6 x8 x10 = some (r, S') → Zj p l e rm9_nth s m args below meth c D cA σ shM 12 (some (.long r)) S' 6 [(0, .int x0), (1, .int x1), (2, .long x2), (4, .long x4), (6, .long x6), (8, .long x8), (10, .int x10)] [] S := by
  intro n
  induction n with
  | zero =>
    intro S x0 x1 x2 x4 x6 x8 x10 h
    rw [J9_nth_6] at h
    cases h
  | succ n ih =>
    intro S x0 x1 x2 x4 x6 x8 x10 h
    rw [J9_nth_6] at h
    refine z_iload (pc := 6) X dX9_nth_6 6 rfl ?_
    refine z_iload_n (pc := 8) X dX9_nth_8 rfl 1 rfl ?_
    refine z_icmp_ge (pc := 9) (tgt := 94) X dX9_nth_9 (by decide) h (fun h => ?_) (fun h => ?_)
    · exact z_sub [5] rfl (zz9_nth_94 X  _ _ h)
    · refine z_iload (pc := 12) X dX9_nth_12 6 rfl ?_
      refine z_iload_n (pc := 14) X dX9_nth_14 rfl 0 rfl ?_
      refine z_icmp_gt (pc := 15) (tgt := 94) X dX9_nth_15 (by decide) h (fun h => ?_) (fun h => ?_)
      · exact z_sub [5] rfl (zz9_nth_94 X  _ _ h)
      · refine z_iload_n (pc := 18) X dX9_nth_18 rfl 1 rfl ?_
        refine z_iload (pc := 19) X dX9_nth_19 6 rfl ?_
        refine z_isub (pc := 21) X dX9_nth_21 ?_
        refine z_istore (pc := 22) (L' := [(11, .int _), (0, .int _), (1, .int _), (2, .long _), (4, .long _), (6, .long _), (8, .long _), (10, .int _)]) X dX9_nth_22 (by decide) rfl ?_
        refine z_let h (fun h => ?_)
        exact z_sub [1, 2, 3, 4, 5, 6, 7, 0] rfl (zz9_nth_24 X _ ih fu _ _ _ _ _ _ _ _ _ h)
set_option maxRecDepth 100000 in
set_option maxHeartbeats 4000000 in
theorem zz9_nth_0 {S' : St} {r : Int64} (X : zM p s m args meth c D cA σ shM tS RX9 cX9_nth 12 (some .long)) : ∀ (S : St) (x0 : Int32) (x1 : Int32) (x2 : Int64) (x4 : Int64) (x6 : Int64), J9_nth S x0 x1 x2 x4 x6 = some (r, S') → Zj p l e rm9_nth s m args below meth c D cA σ shM 12 (some (.long r)) S' 0 [(0, .int x0), (1, .int x1), (2, .long x2), (4, .long x4), (6, .long x6)] [] S := by
  intro S x0 x1 x2 x4 x6 h
  rw [J9_nth] at h
  refine z_lconst (pc := 0) (v := 0) X dX9_nth_0 (by decide) ?_
  refine z_lstore (pc := 1) (L' := [(8, .long _), (0, .int _), (1, .int _), (2, .long _), (4, .long _), (6, .long _)]) X dX9_nth_1 (by decide) rfl ?_
  refine z_iconst (pc := 3) (v := 0) X dX9_nth_3 (by decide) ?_
  refine z_istore (pc := 4) (L' := [(10, .int _), (8, .long _), (0, .int _), (1, .int _), (2, .long _), (4, .long _), (6, .long _)]) X dX9_nth_4 (by decide) rfl ?_
  exact z_sub [2, 3, 4, 5, 6, 1, 0] rfl (zz9_nth_6 X  fu _ _ _ _ _ _ _ _ h)
theorem cc9_nth {l : Launch} {D : va_G} {cA : Nat → ClassId} {σ : Nat → Nat} {tS : Nat} {S S' : St} {x0 : Int32} {x1 : Int32} {x2 : Int64} {x4 : Int64} {x6 : Int64} {r : Int64} (h : J9_nth S x0 x1 x2 x4 x6 = some (r, S')) : zMet l D cA σ shM tS yX9_nth cX9_nth 12 (some .long) rm9_nth [.int x0, .int x1, .long x2, .long x4, .long x6] S (some (.long r)) S' := z_met [(0, .int x0), (1, .int x1), (2, .long x2), (4, .long x4), (6, .long x6)] (by decide +kernel) (Nat.le_of_ble_eq_true rfl) rfl (fun _ _ _ _ _ _ _ _ X => zz9_nth_0 X _ _ _ _ _ _ h)
set_option maxRecDepth 100000 in
set_option maxHeartbeats 4000000 in
theorem zz9_numbers_30 {S' : St} {r : Int32} (X : zM p s m args meth c D cA σ shM tS RX9 cX9_numbers 4 (some .boolean)) : ∀ (S : St), J9_numbers_30 S = some (r, S') → Zj p l e rm9_numbers s m args below meth c D cA σ shM 4 (some (.int r)) S' 30 [(0, .ref (σ 0))] [] S := by
  intro S h
  rw [J9_numbers_30] at h
  refine z_aload_n (pc := 30) X dX9_numbers_30 rfl 0 rfl ?_
  refine z_iconst (pc := 31) (v := 1) X dX9_numbers_31 (by decide) ?_
  refine z_callVi (pc := 32) (rm := rm9_is) X 0 [.int _] vX9_18 rfl rfl rfl (Nat.le_of_ble_eq_true rfl) ⟨rfl, rfl, Nat.le_of_ble_eq_true rfl, Nat.le_of_ble_eq_true rfl⟩ dX9_numbers_32 h (fun _ _ q => cc9_is q) (fun r1 S1 h => ?_)
  exact z_zret X rfl dX9_numbers_35 h
set_option maxRecDepth 100000 in
set_option maxHeartbeats 4000000 in
theorem zz9_numbers_0 {S' : St} {r : Int32} (X : zM p s m args meth c D cA σ shM tS RX9 cX9_numbers 4 (some .boolean)) : ∀ (S : St) (x1 : Int32) (x2 : Int32) (x3 : Int32), J9_numbers S x1 x2 x3 = some (r, S') → Zj p l e rm9_numbers s m args below meth c D cA σ shM 4 (some (.int r)) S' 0 [(0, .ref (σ 0)), (1, .int x1), (2, .int x2), (3, .int x3)] [] S := by
  intro S x1 x2 x3 h
  rw [J9_numbers] at h
  refine z_iload_n (pc := 0) X dX9_numbers_0 rfl 1 rfl ?_
  refine z_iconst (pc := 1) (v := 1) X dX9_numbers_1 (by decide) ?_
  refine z_icmp_lt (pc := 2) (tgt := 30) X dX9_numbers_2 (by decide) h (fun h => ?_) (fun h => ?_)
  · exact z_sub [0] rfl (zz9_numbers_30 X  _ h)
  · refine z_iload_n (pc := 5) X dX9_numbers_5 rfl 1 rfl ?_
    refine z_iconst (pc := 6) (v := 5) X dX9_numbers_6 (by decide) ?_
    refine z_icmp_gt (pc := 7) (tgt := 30) X dX9_numbers_7 (by decide) h (fun h => ?_) (fun h => ?_)
    · exact z_sub [0] rfl (zz9_numbers_30 X  _ h)
    · refine z_iload_n (pc := 10) X dX9_numbers_10 rfl 2 rfl ?_
      refine z_iconst (pc := 11) (v := 1) X dX9_numbers_11 (by decide) ?_
      refine z_icmp_lt (pc := 12) (tgt := 30) X dX9_numbers_12 (by decide) h (fun h => ?_) (fun h => ?_)
      · exact z_sub [0] rfl (zz9_numbers_30 X  _ h)
      · refine z_iload_n (pc := 15) X dX9_numbers_15 rfl 2 rfl ?_
        refine z_iload_n (pc := 16) X dX9_numbers_16 rfl 1 rfl ?_
        refine z_icmp_gt (pc := 17) (tgt := 30) X dX9_numbers_17 (by decide) h (fun h => ?_) (fun h => ?_)
        · exact z_sub [0] rfl (zz9_numbers_30 X  _ h)
        · refine z_iload_n (pc := 20) X dX9_numbers_20 rfl 3 rfl ?_
          refine z_iconst (pc := 21) (v := 1) X dX9_numbers_21 (by decide) ?_
          refine z_icmp_lt (pc := 22) (tgt := 30) X dX9_numbers_22 (by decide) h (fun h => ?_) (fun h => ?_)
          · exact z_sub [0] rfl (zz9_numbers_30 X  _ h)
          · refine z_iload_n (pc := 25) X dX9_numbers_25 rfl 3 rfl ?_
            refine z_iload_n (pc := 26) X dX9_numbers_26 rfl 1 rfl ?_
            refine z_icmp_le (pc := 27) (tgt := 36) X dX9_numbers_27 (by decide) h (fun h => ?_) (fun h => ?_)
            · refine z_aload_n (pc := 36) X dX9_numbers_36 rfl 0 rfl ?_
              refine z_iload_n (pc := 37) X dX9_numbers_37 rfl 1 rfl ?_
              refine z_putI (pc := 38) X 0 gX9_48 rfl rfl dX9_numbers_38 ?_
              refine z_let h (fun h => ?_)
              refine z_aload_n (pc := 41) X dX9_numbers_41 rfl 0 rfl ?_
              refine z_iload_n (pc := 42) X dX9_numbers_42 rfl 2 rfl ?_
              refine z_putI (pc := 43) X 0 gX9_51 rfl rfl dX9_numbers_43 ?_
              refine z_let h (fun h => ?_)
              refine z_aload_n (pc := 46) X dX9_numbers_46 rfl 0 rfl ?_
              refine z_iload_n (pc := 47) X dX9_numbers_47 rfl 3 rfl ?_
              refine z_putI (pc := 48) X 0 gX9_54 rfl rfl dX9_numbers_48 ?_
              refine z_let h (fun h => ?_)
              refine z_aload_n (pc := 51) X dX9_numbers_51 rfl 0 rfl ?_
              refine z_iconst (pc := 52) (v := 0) X dX9_numbers_52 (by decide) ?_
              refine z_callVi (pc := 53) (rm := rm9_is) X 0 [.int _] vX9_18 rfl rfl rfl (Nat.le_of_ble_eq_true rfl) ⟨rfl, rfl, Nat.le_of_ble_eq_true rfl, Nat.le_of_ble_eq_true rfl⟩ dX9_numbers_53 h (fun _ _ q => cc9_is q) (fun r4 S4 h => ?_)
              exact z_zret X rfl dX9_numbers_56 h
            · exact z_sub [0] rfl (zz9_numbers_30 X  _ h)
theorem cc9_numbers {l : Launch} {D : va_G} {cA : Nat → ClassId} {σ : Nat → Nat} {tS : Nat} {S S' : St} {x1 : Int32} {x2 : Int32} {x3 : Int32} {r : Int32} (h : J9_numbers S x1 x2 x3 = some (r, S')) : zMet l D cA σ shM tS yX9_numbers cX9_numbers 4 (some .boolean) rm9_numbers [.ref (σ 0), .int x1, .int x2, .int x3] S (some (.int r)) S' := z_met [(0, .ref (σ 0)), (1, .int x1), (2, .int x2), (3, .int x3)] (by decide +kernel) (Nat.le_of_ble_eq_true rfl) rfl (fun _ _ _ _ _ _ _ _ X => zz9_numbers_0 X _ _ _ _ h)
set_option maxRecDepth 100000 in
set_option maxHeartbeats 4000000 in
theorem zz9_tells_63 {S' : St} {r : Int32} (X : zM p s m args meth c D cA σ shM tS RX9 cX9_tells 11 (some .int)) : ∀ (S : St) (t0 : Int32), J9_tells_63 S t0 = some (r, S') → Zj p l e rm9_tells s m args below meth c D cA σ shM 11 (some (.int r)) S' 63 [] [.int t0] S := by
  intro S t0 h
  rw [J9_tells_63] at h
  exact z_iret X rfl dX9_tells_63 h
set_option maxRecDepth 100000 in
set_option maxHeartbeats 4000000 in
theorem zz9_tells_6 {S' : St} {r : Int32} (X : zM p s m args meth c D cA σ shM tS RX9 cX9_tells 11 (some .int)) : ∀ (n : Nat) (S : St) (x1 : Int64) (x3 : Int64) (x5 : Int64) (x7 : Int64), J9_tells_6 n S x1 x3 x5 x7 = some (r, S') → Zj p l e rm9_tells s m args below meth c D cA σ shM 11 (some (.int r)) S' 6 [(0, .ref (σ 0)), (1, .long x1), (3, .long x3), (5, .long x5), (7, .long x7)] [] S := by
  intro n
  induction n with
  | zero =>
    intro S x1 x3 x5 x7 h
    rw [J9_tells_6] at h
    cases h
  | succ n ih =>
    intro S x1 x3 x5 x7 h
    rw [J9_tells_6] at h
    refine z_lload (pc := 6) X dX9_tells_6 4 rfl ?_
    refine z_lconst (pc := 8) (v := 0) X dX9_tells_8 (by decide) ?_
    refine z_lcmp (pc := 9) X dX9_tells_9 ?_
    refine z_if_eq (pc := 10) (tgt := 31) X dX9_tells_10 (by decide) h (fun h => ?_) (fun h => ?_)
    · refine z_aload_n (pc := 31) X dX9_tells_31 rfl 0 rfl ?_
      refine z_lload_n (pc := 32) X dX9_tells_32 rfl 1 rfl ?_
      refine z_lload (pc := 33) X dX9_tells_33 3 rfl ?_
      refine z_ldiv (pc := 35) X dX9_tells_35 h (fun h => ?_)
      refine z_putL (pc := 36) X 0 gX9_7 rfl rfl dX9_tells_36 ?_
      refine z_let h (fun h => ?_)
      refine z_aload_n (pc := 39) X dX9_tells_39 rfl 0 rfl ?_
      refine z_lload_n (pc := 40) X dX9_tells_40 rfl 2 rfl ?_
      refine z_lload (pc := 41) X dX9_tells_41 3 rfl ?_
      refine z_ldiv (pc := 43) X dX9_tells_43 h (fun h => ?_)
      refine z_putL (pc := 44) X 0 gX9_11 rfl rfl dX9_tells_44 ?_
      refine z_let h (fun h => ?_)
      refine z_aload_n (pc := 47) X dX9_tells_47 rfl 0 rfl ?_
      refine z_iconst (pc := 48) (v := 0) X dX9_tells_48 (by decide) ?_
      refine z_putI (pc := 49) X 0 gX9_1 rfl rfl dX9_tells_49 ?_
      refine z_let h (fun h => ?_)
      refine z_lload_n (pc := 52) X dX9_tells_52 rfl 1 rfl ?_
      refine z_lconst (pc := 53) (v := 0) X dX9_tells_53 (by decide) ?_
      refine z_lcmp (pc := 54) X dX9_tells_54 ?_
      refine z_if_le (pc := 55) (tgt := 62) X dX9_tells_55 (by decide) h (fun h => ?_) (fun h => ?_)
      · refine z_iconst (pc := 62) (v := 0) X dX9_tells_62 (by decide) ?_
        exact z_sub [] rfl (zz9_tells_63 X  _ _ h)
      · refine z_iconst (pc := 58) (v := 1) X dX9_tells_58 (by decide) ?_
        refine z_goto (pc := 59) (tgt := 63) X dX9_tells_59 (by decide) ?_
        exact z_sub [] rfl (zz9_tells_63 X  _ _ h)
    · refine z_lload (pc := 13) X dX9_tells_13 3 rfl ?_
      refine z_lload (pc := 15) X dX9_tells_15 4 rfl ?_
      refine z_lrem (pc := 17) X dX9_tells_17 h (fun h => ?_)
      refine z_lstore (pc := 18) (L' := [(9, .long _), (0, .ref _), (1, .long _), (3, .long _), (5, .long _), (7, .long _)]) X dX9_tells_18 (by decide) rfl ?_
      refine z_let h (fun h => ?_)
      refine z_lload (pc := 20) X dX9_tells_20 5 rfl ?_
      refine z_lstore (pc := 22) (L' := [(5, .long _), (9, .long _), (0, .ref _), (1, .long _), (3, .long _), (7, .long _)]) X dX9_tells_22 (by decide) rfl ?_
      refine z_lload (pc := 24) X dX9_tells_24 1 rfl ?_
      refine z_lstore (pc := 26) (L' := [(7, .long _), (5, .long _), (9, .long _), (0, .ref _), (1, .long _), (3, .long _)]) X dX9_tells_26 (by decide) rfl ?_
      refine z_goto (pc := 28) (tgt := 6) X dX9_tells_28 (by decide) ?_
      exact z_sub [3, 4, 5, 1, 0] rfl (ih _ _ _ _ _ h)
set_option maxRecDepth 100000 in
set_option maxHeartbeats 4000000 in
theorem zz9_tells_0 {S' : St} {r : Int32} (X : zM p s m args meth c D cA σ shM tS RX9 cX9_tells 11 (some .int)) : ∀ (S : St) (x1 : Int64) (x3 : Int64), J9_tells S x1 x3 = some (r, S') → Zj p l e rm9_tells s m args below meth c D cA σ shM 11 (some (.int r)) S' 0 [(0, .ref (σ 0)), (1, .long x1), (3, .long x3)] [] S := by
  intro S x1 x3 h
  rw [J9_tells] at h
  refine z_lload_n (pc := 0) X dX9_tells_0 rfl 1 rfl ?_
  refine z_lstore (pc := 1) (L' := [(5, .long _), (0, .ref _), (1, .long _), (3, .long _)]) X dX9_tells_1 (by decide) rfl ?_
  refine z_lload_n (pc := 3) X dX9_tells_3 rfl 3 rfl ?_
  refine z_lstore (pc := 4) (L' := [(7, .long _), (5, .long _), (0, .ref _), (1, .long _), (3, .long _)]) X dX9_tells_4 (by decide) rfl ?_
  exact z_sub [2, 3, 4, 1, 0] rfl (zz9_tells_6 X  fu _ _ _ _ _ h)
theorem cc9_tells {l : Launch} {D : va_G} {cA : Nat → ClassId} {σ : Nat → Nat} {tS : Nat} {S S' : St} {x1 : Int64} {x3 : Int64} {r : Int32} (h : J9_tells S x1 x3 = some (r, S')) : zMet l D cA σ shM tS yX9_tells cX9_tells 11 (some .int) rm9_tells [.ref (σ 0), .long x1, .long x3] S (some (.int r)) S' := z_met [(0, .ref (σ 0)), (1, .long x1), (3, .long x3)] (by decide +kernel) (Nat.le_of_ble_eq_true rfl) rfl (fun _ _ _ _ _ _ _ _ X => zz9_tells_0 X _ _ _ h)
set_option maxRecDepth 100000 in
set_option maxHeartbeats 4000000 in
theorem zz9_odds_0 {S' : St} {r : Int32} (X : zM p s m args meth c D cA σ shM tS RX9 cX9_odds 6 (some .int)) : ∀ (S : St) (x1 : Int32) (x2 : Int32) (x3 : Int32), J9_odds S x1 x2 x3 = some (r, S') → Zj p l e rm9_odds s m args below meth c D cA σ shM 6 (some (.int r)) S' 0 [(0, .ref (σ 0)), (1, .int x1), (2, .int x2), (3, .int x3)] [] S := by
  intro S x1 x2 x3 h
  rw [J9_odds] at h
  refine z_iload_n (pc := 0) X dX9_odds_0 rfl 1 rfl ?_
  refine z_iload_n (pc := 1) X dX9_odds_1 rfl 2 rfl ?_
  refine z_iload_n (pc := 2) X dX9_odds_2 rfl 3 rfl ?_
  refine z_callSi (pc := 3) (rm := rm9_isAsked) X [.int _, .int _, .int _] sX9_192 rfl rfl (Nat.le_of_ble_eq_true rfl) ⟨rfl, rfl, Nat.le_of_ble_eq_true rfl, Nat.le_of_ble_eq_true rfl⟩ dX9_odds_3 h (fun _ _ q => cc9_isAsked q) (fun r1 S1 h => ?_)
  refine z_if_ne (pc := 6) (tgt := 15) X dX9_odds_6 (by decide) h (fun h => ?_) (fun h => ?_)
  · refine z_aload_n (pc := 15) X dX9_odds_15 rfl 0 rfl ?_
    refine z_aload_n (pc := 16) X dX9_odds_16 rfl 0 rfl ?_
    refine z_get (pc := 17) (v := .int _) X 0 fX9_48 rfl rfl dX9_odds_17 rfl ?_
    refine z_iload_n (pc := 20) X dX9_odds_20 rfl 2 rfl ?_
    refine z_callVl (pc := 21) (rm := rm9_allWays) X 0 [.int _, .int _] vX9_196 rfl rfl rfl (Nat.le_of_ble_eq_true rfl) ⟨rfl, rfl, Nat.le_of_ble_eq_true rfl, Nat.le_of_ble_eq_true rfl⟩ dX9_odds_21 h (fun _ _ q => cc9_allWays q) (fun r2 S2 h => ?_)
    refine z_lstore (pc := 24) (L' := [(4, .long _), (0, .ref _), (1, .int _), (2, .int _), (3, .int _)]) X dX9_odds_24 (by decide) rfl ?_
    refine z_lload (pc := 26) X dX9_odds_26 0 rfl ?_
    refine z_ldc2 (pc := 28) X dX9_odds_28 mw_842 ?_
    refine z_lcmp (pc := 31) X dX9_odds_31 ?_
    refine z_if_ne (pc := 32) (tgt := 42) X dX9_odds_32 (by decide) h (fun h => ?_) (fun h => ?_)
    · refine z_aload_n (pc := 42) X dX9_odds_42 rfl 1 rfl ?_
      refine z_aload_n (pc := 43) X dX9_odds_43 rfl 1 rfl ?_
      refine z_aload_n (pc := 44) X dX9_odds_44 rfl 1 rfl ?_
      refine z_get (pc := 45) (v := .int _) X 0 fX9_48 rfl rfl dX9_odds_45 rfl ?_
      refine z_aload_n (pc := 48) X dX9_odds_48 rfl 1 rfl ?_
      refine z_get (pc := 49) (v := .int _) X 0 fX9_51 rfl rfl dX9_odds_49 rfl ?_
      refine z_aload_n (pc := 52) X dX9_odds_52 rfl 1 rfl ?_
      refine z_get (pc := 53) (v := .int _) X 0 fX9_54 rfl rfl dX9_odds_53 rfl ?_
      refine z_iload_n (pc := 56) X dX9_odds_56 rfl 2 rfl ?_
      refine z_iload_n (pc := 57) X dX9_odds_57 rfl 3 rfl ?_
      refine z_iload_n (pc := 58) X dX9_odds_58 rfl 4 rfl ?_
      refine z_callVl (pc := 59) (rm := rm9_oldWays) X 0 [.int _, .int _, .int _, .int _, .int _, .int _] vX9_199 rfl rfl rfl (Nat.le_of_ble_eq_true rfl) ⟨rfl, rfl, Nat.le_of_ble_eq_true rfl, Nat.le_of_ble_eq_true rfl⟩ dX9_odds_59 h (fun _ _ q => cc9_oldWays q) (fun r3 S3 h => ?_)
      refine z_lload (pc := 62) X dX9_odds_62 0 rfl ?_
      refine z_callVi (pc := 64) (rm := rm9_tells) X 0 [.long _, .long _] vX9_166 rfl rfl rfl (Nat.le_of_ble_eq_true rfl) ⟨rfl, rfl, Nat.le_of_ble_eq_true rfl, Nat.le_of_ble_eq_true rfl⟩ dX9_odds_64 h (fun _ _ q => cc9_tells q) (fun r4 S4 h => ?_)
      exact z_iret X rfl dX9_odds_67 h
    · refine z_aload_n (pc := 35) X dX9_odds_35 rfl 1 rfl ?_
      refine z_bipush (pc := 36) (v := 9) X dX9_odds_36 (by decide) ?_
      refine z_callVi (pc := 38) (rm := rm9_refuse) X 0 [.int _] vX9_154 rfl rfl rfl (Nat.le_of_ble_eq_true rfl) ⟨rfl, rfl, Nat.le_of_ble_eq_true rfl, Nat.le_of_ble_eq_true rfl⟩ dX9_odds_38 h (fun _ _ q => cc9_refuse q) (fun r5 S5 h => ?_)
      exact z_iret X rfl dX9_odds_41 h
  · refine z_aload_n (pc := 9) X dX9_odds_9 rfl 0 rfl ?_
    refine z_iconst (pc := 10) (v := 1) X dX9_odds_10 (by decide) ?_
    refine z_callVi (pc := 11) (rm := rm9_refuse) X 0 [.int _] vX9_154 rfl rfl rfl (Nat.le_of_ble_eq_true rfl) ⟨rfl, rfl, Nat.le_of_ble_eq_true rfl, Nat.le_of_ble_eq_true rfl⟩ dX9_odds_11 h (fun _ _ q => cc9_refuse q) (fun r6 S6 h => ?_)
    exact z_iret X rfl dX9_odds_14 h
theorem cc9_odds {l : Launch} {D : va_G} {cA : Nat → ClassId} {σ : Nat → Nat} {tS : Nat} {S S' : St} {x1 : Int32} {x2 : Int32} {x3 : Int32} {r : Int32} (h : J9_odds S x1 x2 x3 = some (r, S')) : zMet l D cA σ shM tS yX9_odds cX9_odds 6 (some .int) rm9_odds [.ref (σ 0), .int x1, .int x2, .int x3] S (some (.int r)) S' := z_met [(0, .ref (σ 0)), (1, .int x1), (2, .int x2), (3, .int x3)] (by decide +kernel) (Nat.le_of_ble_eq_true rfl) rfl (fun _ _ _ _ _ _ _ _ X => zz9_odds_0 X _ _ _ _ h)
set_option maxRecDepth 100000 in
set_option maxHeartbeats 4000000 in
theorem zz9_of_64 {S' : St} {r : Int32} (X : zM p s m args meth c D cA σ shM tS RX9 cX9_of 6 (some .int)) : ∀ (S : St) (t0 : Int32), J9_of_64 S t0 = some (r, S') → Zj p l e rm9_of s m args below meth c D cA σ shM 6 (some (.int r)) S' 64 [] [.int t0] S := by
  intro S t0 h
  rw [J9_of_64] at h
  exact z_iret X rfl dX9_of_64 h
set_option maxRecDepth 100000 in
set_option maxHeartbeats 4000000 in
theorem zz9_of_98 {S' : St} {r : Int32} (X : zM p s m args meth c D cA σ shM tS RX9 cX9_of 6 (some .int)) (k71 : St → Int32 → Int32 → Int32 → Option (Int32 × St)) (hk71 : ∀ (S : St) (x1 : Int32) (x4 : Int32) (x5 : Int32), k71 S x1 x4 x5 = some (r, S') → Zj p l e rm9_of s m args below meth c D cA σ shM 6 (some (.int r)) S' 71 [(0, .ref (σ 0)), (1, .int x1), (4, .int x4), (5, .int x5)] [] S) : ∀ (S : St) (x1 : Int32) (x5 : Int32) (t0 : Int32) (t1 : Int32), J9_of_98 k71 S x1 x5 t0 t1 = some (r, S') → Zj p l e rm9_of s m args below meth c D cA σ shM 6 (some (.int r)) S' 98 [(0, .ref (σ 0)), (1, .int x1), (5, .int x5)] [.int t0, .int t1] S := by
  intro S x1 x5 t0 t1 h
  rw [J9_of_98] at h
  refine z_iadd (pc := 98) X dX9_of_98 ?_
  refine z_istore (pc := 99) (L' := [(4, .int _), (0, .ref _), (1, .int _), (5, .int _)]) X dX9_of_99 (by decide) rfl ?_
  refine z_let h (fun h => ?_)
  refine z_iinc (pc := 101) (k := 3) (v := 1) (L' := [(5, .int _), (4, .int _), (0, .ref _), (1, .int _)]) X dX9_of_101 rfl (by decide) (by decide) rfl ?_
  refine z_let h (fun h => ?_)
  refine z_goto (pc := 104) (tgt := 71) X dX9_of_104 (by decide) ?_
  exact z_sub [2, 3, 1, 0] rfl (hk71 _ _ _ _ h)
set_option maxRecDepth 100000 in
set_option maxHeartbeats 4000000 in
theorem zz9_of_71 {S' : St} {r : Int32} (X : zM p s m args meth c D cA σ shM tS RX9 cX9_of 6 (some .int)) : ∀ (n : Nat) (S : St) (x1 : Int32) (x4 : Int32) (x5 : Int32), J9_of_71 n S x1 x4 x5 = some (r, S') → Zj p l e rm9_of s m args below meth c D cA σ shM 6 (some (.int r)) S' 71 [(0, .ref (σ 0)), (1, .int x1), (4, .int x4), (5, .int x5)] [] S := by
  intro n
  induction n with
  | zero =>
    intro S x1 x4 x5 h
    rw [J9_of_71] at h
    cases h
  | succ n ih =>
    intro S x1 x4 x5 h
    rw [J9_of_71] at h
    refine z_iload (pc := 71) X dX9_of_71 3 rfl ?_
    refine z_iconst (pc := 73) (v := 5) X dX9_of_73 (by decide) ?_
    refine z_icmp_ge (pc := 74) (tgt := 107) X dX9_of_74 (by decide) h (fun h => ?_) (fun h => ?_)
    · refine z_iload (pc := 107) X dX9_of_107 2 rfl ?_
      exact z_iret X rfl dX9_of_109 h
    · refine z_iload (pc := 77) X dX9_of_77 2 rfl ?_
      refine z_aload_n (pc := 79) X dX9_of_79 rfl 0 rfl ?_
      refine z_get (pc := 80) (v := .ref (σ 11)) X 0 fX9_81 rfl rfl dX9_of_80 rfl ?_
      refine z_iconst (pc := 83) (v := 5) X dX9_of_83 (by decide) ?_
      refine z_iload_n (pc := 84) X dX9_of_84 rfl 1 rfl ?_
      refine z_imul (pc := 85) X dX9_of_85 ?_
      refine z_iload (pc := 86) X dX9_of_86 3 rfl ?_
      refine z_iadd (pc := 88) X dX9_of_88 ?_
      refine z_iald (pc := 89) X 11 rfl dX9_of_89 h (fun h => ?_)
      refine z_if_le (pc := 90) (tgt := 97) X dX9_of_90 (by decide) h (fun h => ?_) (fun h => ?_)
      · refine z_iconst (pc := 97) (v := 0) X dX9_of_97 (by decide) ?_
        exact z_sub [0, 1, 3] rfl (zz9_of_98 X _ ih _ _ _ _ _ h)
      · refine z_iconst (pc := 93) (v := 1) X dX9_of_93 (by decide) ?_
        refine z_goto (pc := 94) (tgt := 98) X dX9_of_94 (by decide) ?_
        exact z_sub [0, 1, 3] rfl (zz9_of_98 X _ ih _ _ _ _ _ h)
set_option maxRecDepth 100000 in
set_option maxHeartbeats 4000000 in
theorem zz9_of_18 {S' : St} {r : Int32} (X : zM p s m args meth c D cA σ shM tS RX9 cX9_of 6 (some .int)) : ∀ (S : St) (x1 : Int32) (x2 : Int32) (t0 : Int32), J9_of_18 S x1 x2 t0 = some (r, S') → Zj p l e rm9_of s m args below meth c D cA σ shM 6 (some (.int r)) S' 18 [(0, .ref (σ 0)), (1, .int x1), (2, .int x2)] [.int t0] S := by
  intro S x1 x2 t0 h
  rw [J9_of_18] at h
  refine z_istore_n (pc := 18) (L' := [(3, .int _), (0, .ref _), (1, .int _), (2, .int _)]) X dX9_of_18 rfl (by decide) rfl ?_
  refine z_iload_n (pc := 19) X dX9_of_19 rfl 0 rfl ?_
  refine z_if_le (pc := 20) (tgt := 29) X dX9_of_20 (by decide) h (fun h => ?_) (fun h => ?_)
  · refine z_aload_n (pc := 29) X dX9_of_29 rfl 1 rfl ?_
    refine z_iconst (pc := 30) (v := 0) X dX9_of_30 (by decide) ?_
    refine z_putI (pc := 31) X 0 gX9_1 rfl rfl dX9_of_31 ?_
    refine z_let h (fun h => ?_)
    refine z_iload_n (pc := 34) X dX9_of_34 rfl 3 rfl ?_
    refine z_if_ne (pc := 35) (tgt := 45) X dX9_of_35 (by decide) h (fun h => ?_) (fun h => ?_)
    · refine z_iload_n (pc := 45) X dX9_of_45 rfl 3 rfl ?_
      refine z_iconst (pc := 46) (v := 1) X dX9_of_46 (by decide) ?_
      refine z_icmp_ne (pc := 47) (tgt := 65) X dX9_of_47 (by decide) h (fun h => ?_) (fun h => ?_)
      · refine z_iconst (pc := 65) (v := 0) X dX9_of_65 (by decide) ?_
        refine z_istore (pc := 66) (L' := [(4, .int _), (3, .int _), (0, .ref _), (1, .int _), (2, .int _)]) X dX9_of_66 (by decide) rfl ?_
        refine z_iconst (pc := 68) (v := 0) X dX9_of_68 (by decide) ?_
        refine z_istore (pc := 69) (L' := [(5, .int _), (4, .int _), (3, .int _), (0, .ref _), (1, .int _), (2, .int _)]) X dX9_of_69 (by decide) rfl ?_
        exact z_sub [3, 4, 1, 0] rfl (zz9_of_71 X  fu _ _ _ _ h)
      · refine z_aload_n (pc := 50) X dX9_of_50 rfl 1 rfl ?_
        refine z_get (pc := 51) (v := .ref (σ 12)) X 0 fX9_84 rfl rfl dX9_of_51 rfl ?_
        refine z_iload_n (pc := 54) X dX9_of_54 rfl 2 rfl ?_
        refine z_zald (pc := 55) X 12 rfl dX9_of_55 h (fun h => ?_)
        refine z_if_eq (pc := 56) (tgt := 63) X dX9_of_56 (by decide) h (fun h => ?_) (fun h => ?_)
        · refine z_iconst (pc := 63) (v := 0) X dX9_of_63 (by decide) ?_
          exact z_sub [] rfl (zz9_of_64 X  _ _ h)
        · refine z_iconst (pc := 59) (v := 1) X dX9_of_59 (by decide) ?_
          refine z_goto (pc := 60) (tgt := 64) X dX9_of_60 (by decide) ?_
          exact z_sub [] rfl (zz9_of_64 X  _ _ h)
    · refine z_aload_n (pc := 38) X dX9_of_38 rfl 1 rfl ?_
      refine z_get (pc := 39) (v := .ref (σ 10)) X 0 fX9_78 rfl rfl dX9_of_39 rfl ?_
      refine z_iload_n (pc := 42) X dX9_of_42 rfl 2 rfl ?_
      refine z_iald (pc := 43) X 10 rfl dX9_of_43 h (fun h => ?_)
      exact z_iret X rfl dX9_of_44 h
  · refine z_aload_n (pc := 23) X dX9_of_23 rfl 1 rfl ?_
    refine z_iload_n (pc := 24) X dX9_of_24 rfl 0 rfl ?_
    refine z_callVi (pc := 25) (rm := rm9_refuse) X 0 [.int _] vX9_154 rfl rfl rfl (Nat.le_of_ble_eq_true rfl) ⟨rfl, rfl, Nat.le_of_ble_eq_true rfl, Nat.le_of_ble_eq_true rfl⟩ dX9_of_25 h (fun _ _ q => cc9_refuse q) (fun r2 S2 h => ?_)
    exact z_iret X rfl dX9_of_28 h
set_option maxRecDepth 100000 in
set_option maxHeartbeats 4000000 in
theorem zz9_of_9 {S' : St} {r : Int32} (X : zM p s m args meth c D cA σ shM tS RX9 cX9_of 6 (some .int)) : ∀ (S : St) (x1 : Int32) (x2 : Int32), J9_of_9 S x1 x2 = some (r, S') → Zj p l e rm9_of s m args below meth c D cA σ shM 6 (some (.int r)) S' 9 [(0, .ref (σ 0)), (1, .int x1), (2, .int x2)] [] S := by
  intro S x1 x2 h
  rw [J9_of_9] at h
  refine z_iconst (pc := 9) (v := 1) X dX9_of_9 (by decide) ?_
  refine z_goto (pc := 10) (tgt := 18) X dX9_of_10 (by decide) ?_
  exact z_sub [0, 1, 2] rfl (zz9_of_18 X  _ _ _ _ h)
set_option maxRecDepth 100000 in
set_option maxHeartbeats 4000000 in
theorem zz9_of_0 {S' : St} {r : Int32} (X : zM p s m args meth c D cA σ shM tS RX9 cX9_of 6 (some .int)) : ∀ (S : St) (x1 : Int32) (x2 : Int32), J9_of S x1 x2 = some (r, S') → Zj p l e rm9_of s m args below meth c D cA σ shM 6 (some (.int r)) S' 0 [(0, .ref (σ 0)), (1, .int x1), (2, .int x2)] [] S := by
  intro S x1 x2 h
  rw [J9_of] at h
  refine z_iload_n (pc := 0) X dX9_of_0 rfl 2 rfl ?_
  refine z_if_lt (pc := 1) (tgt := 9) X dX9_of_1 (by decide) h (fun h => ?_) (fun h => ?_)
  · exact z_sub [0, 1, 2] rfl (zz9_of_9 X  _ _ _ h)
  · refine z_iload_n (pc := 4) X dX9_of_4 rfl 2 rfl ?_
    refine z_iconst (pc := 5) (v := 2) X dX9_of_5 (by decide) ?_
    refine z_icmp_le (pc := 6) (tgt := 13) X dX9_of_6 (by decide) h (fun h => ?_) (fun h => ?_)
    · refine z_aload_n (pc := 13) X dX9_of_13 rfl 0 rfl ?_
      refine z_iload_n (pc := 14) X dX9_of_14 rfl 1 rfl ?_
      refine z_callVi (pc := 15) (rm := rm9_wrongCopy) X 0 [.int _] vX9_283 rfl rfl rfl (Nat.le_of_ble_eq_true rfl) ⟨rfl, rfl, Nat.le_of_ble_eq_true rfl, Nat.le_of_ble_eq_true rfl⟩ dX9_of_15 h (fun _ _ q => cc9_wrongCopy q) (fun r1 S1 h => ?_)
      exact z_sub [0, 1, 2] rfl (zz9_of_18 X  _ _ _ _ h)
    · exact z_sub [0, 1, 2] rfl (zz9_of_9 X  _ _ _ h)
theorem cc9_of {l : Launch} {D : va_G} {cA : Nat → ClassId} {σ : Nat → Nat} {tS : Nat} {S S' : St} {x1 : Int32} {x2 : Int32} {r : Int32} (h : J9_of S x1 x2 = some (r, S')) : zMet l D cA σ shM tS yX9_of cX9_of 6 (some .int) rm9_of [.ref (σ 0), .int x1, .int x2] S (some (.int r)) S' := z_met [(0, .ref (σ 0)), (1, .int x1), (2, .int x2)] (by decide +kernel) (Nat.le_of_ble_eq_true rfl) rfl (fun _ _ _ _ _ _ _ _ X => zz9_of_0 X _ _ _ h)
set_option maxRecDepth 100000 in
set_option maxHeartbeats 4000000 in
theorem zz9_wrong_44 {S' : St} {r : Int32} (X : zM p s m args meth c D cA σ shM tS RX9 cX9_wrong 3 (some .int)) : ∀ (S : St) (t0 : Int32), J9_wrong_44 S t0 = some (r, S') → Zj p l e rm9_wrong s m args below meth c D cA σ shM 3 (some (.int r)) S' 44 [] [.int t0] S := by
  intro S t0 h
  rw [J9_wrong_44] at h
  exact z_iret X rfl dX9_wrong_44 h
set_option maxRecDepth 100000 in
set_option maxHeartbeats 4000000 in
theorem zz9_wrong_39 {S' : St} {r : Int32} (X : zM p s m args meth c D cA σ shM tS RX9 cX9_wrong 3 (some .int)) : ∀ (S : St), J9_wrong_39 S = some (r, S') → Zj p l e rm9_wrong s m args below meth c D cA σ shM 3 (some (.int r)) S' 39 [] [] S := by
  intro S h
  rw [J9_wrong_39] at h
  refine z_iconst (pc := 39) (v := 3) X dX9_wrong_39 (by decide) ?_
  refine z_goto (pc := 40) (tgt := 44) X dX9_wrong_40 (by decide) ?_
  exact z_sub [] rfl (zz9_wrong_44 X  _ _ h)
set_option maxRecDepth 100000 in
set_option maxHeartbeats 4000000 in
theorem zz9_wrong_0 {S' : St} {r : Int32} (X : zM p s m args meth c D cA σ shM tS RX9 cX9_wrong 3 (some .int)) : ∀ (S : St) (x1 : Int32) (x2 : Int32), J9_wrong S x1 x2 = some (r, S') → Zj p l e rm9_wrong s m args below meth c D cA σ shM 3 (some (.int r)) S' 0 [(0, .ref (σ 0)), (1, .int x1), (2, .int x2)] [] S := by
  intro S x1 x2 h
  rw [J9_wrong] at h
  refine z_iload_n (pc := 0) X dX9_wrong_0 rfl 1 rfl ?_
  refine z_callSi (pc := 1) (rm := rm9_isSheet) X [.int _] sX9_14 rfl rfl (Nat.le_of_ble_eq_true rfl) ⟨rfl, rfl, Nat.le_of_ble_eq_true rfl, Nat.le_of_ble_eq_true rfl⟩ dX9_wrong_1 h (fun _ _ q => cc9_isSheet q) (fun r1 S1 h => ?_)
  refine z_if_ne (pc := 4) (tgt := 11) X dX9_wrong_4 (by decide) h (fun h => ?_) (fun h => ?_)
  · refine z_aload_n (pc := 11) X dX9_wrong_11 rfl 0 rfl ?_
    refine z_get (pc := 12) (v := .ref (σ 2)) X 0 fX9_25 rfl rfl dX9_wrong_12 rfl ?_
    refine z_iload_n (pc := 15) X dX9_wrong_15 rfl 1 rfl ?_
    refine z_iald (pc := 16) X 2 rfl dX9_wrong_16 h (fun h => ?_)
    refine z_iconst (pc := 17) (v := -1) X dX9_wrong_17 (by decide) ?_
    refine z_icmp_ne (pc := 18) (tgt := 25) X dX9_wrong_18 (by decide) h (fun h => ?_) (fun h => ?_)
    · refine z_iload_n (pc := 25) X dX9_wrong_25 rfl 2 rfl ?_
      refine z_if_lt (pc := 26) (tgt := 39) X dX9_wrong_26 (by decide) h (fun h => ?_) (fun h => ?_)
      · exact z_sub [] rfl (zz9_wrong_39 X  _ h)
      · refine z_iload_n (pc := 29) X dX9_wrong_29 rfl 2 rfl ?_
        refine z_aload_n (pc := 30) X dX9_wrong_30 rfl 0 rfl ?_
        refine z_get (pc := 31) (v := .ref (σ 2)) X 0 fX9_25 rfl rfl dX9_wrong_31 rfl ?_
        refine z_iload_n (pc := 34) X dX9_wrong_34 rfl 1 rfl ?_
        refine z_iald (pc := 35) X 2 rfl dX9_wrong_35 h (fun h => ?_)
        refine z_icmp_lt (pc := 36) (tgt := 43) X dX9_wrong_36 (by decide) h (fun h => ?_) (fun h => ?_)
        · refine z_iconst (pc := 43) (v := 0) X dX9_wrong_43 (by decide) ?_
          exact z_sub [] rfl (zz9_wrong_44 X  _ _ h)
        · exact z_sub [] rfl (zz9_wrong_39 X  _ h)
    · refine z_iconst (pc := 21) (v := 2) X dX9_wrong_21 (by decide) ?_
      refine z_goto (pc := 22) (tgt := 44) X dX9_wrong_22 (by decide) ?_
      exact z_sub [] rfl (zz9_wrong_44 X  _ _ h)
  · refine z_iconst (pc := 7) (v := 1) X dX9_wrong_7 (by decide) ?_
    refine z_goto (pc := 8) (tgt := 44) X dX9_wrong_8 (by decide) ?_
    exact z_sub [] rfl (zz9_wrong_44 X  _ _ h)
theorem cc9_wrong {l : Launch} {D : va_G} {cA : Nat → ClassId} {σ : Nat → Nat} {tS : Nat} {S S' : St} {x1 : Int32} {x2 : Int32} {r : Int32} (h : J9_wrong S x1 x2 = some (r, S')) : zMet l D cA σ shM tS yX9_wrong cX9_wrong 3 (some .int) rm9_wrong [.ref (σ 0), .int x1, .int x2] S (some (.int r)) S' := z_met [(0, .ref (σ 0)), (1, .int x1), (2, .int x2)] (by decide +kernel) (Nat.le_of_ble_eq_true rfl) rfl (fun _ _ _ _ _ _ _ _ X => zz9_wrong_0 X _ _ _ h)
set_option maxRecDepth 100000 in
set_option maxHeartbeats 4000000 in
theorem zz9_read_34 {S' : St} {r : Int64} (X : zM p s m args meth c D cA σ shM tS RX9 cX9_read 3 (some .long)) : ∀ (S : St) (t0 : Int64), J9_read_34 S t0 = some (r, S') → Zj p l e rm9_read s m args below meth c D cA σ shM 3 (some (.long r)) S' 34 [] [.long t0] S := by
  intro S t0 h
  rw [J9_read_34] at h
  exact z_lret X rfl dX9_read_34 h
set_option maxRecDepth 100000 in
set_option maxHeartbeats 4000000 in
theorem zz9_read_0 {S' : St} {r : Int64} (X : zM p s m args meth c D cA σ shM tS RX9 cX9_read 3 (some .long)) : ∀ (S : St) (x1 : Int32) (x2 : Int32), J9_read S x1 x2 = some (r, S') → Zj p l e rm9_read s m args below meth c D cA σ shM 3 (some (.long r)) S' 0 [(0, .ref (σ 0)), (1, .int x1), (2, .int x2)] [] S := by
  intro S x1 x2 h
  rw [J9_read] at h
  refine z_aload_n (pc := 0) X dX9_read_0 rfl 0 rfl ?_
  refine z_aload_n (pc := 1) X dX9_read_1 rfl 0 rfl ?_
  refine z_iload_n (pc := 2) X dX9_read_2 rfl 1 rfl ?_
  refine z_iload_n (pc := 3) X dX9_read_3 rfl 2 rfl ?_
  refine z_callVi (pc := 4) (rm := rm9_wrong) X 0 [.int _, .int _] vX9_32 rfl rfl rfl (Nat.le_of_ble_eq_true rfl) ⟨rfl, rfl, Nat.le_of_ble_eq_true rfl, Nat.le_of_ble_eq_true rfl⟩ dX9_read_4 h (fun _ _ q => cc9_wrong q) (fun r1 S1 h => ?_)
  refine z_putI (pc := 7) X 0 gX9_1 rfl rfl dX9_read_7 ?_
  refine z_let h (fun h => ?_)
  refine z_aload_n (pc := 10) X dX9_read_10 rfl 0 rfl ?_
  refine z_get (pc := 11) (v := .int _) X 0 fX9_1 rfl rfl dX9_read_11 rfl ?_
  refine z_if_le (pc := 14) (tgt := 23) X dX9_read_14 (by decide) h (fun h => ?_) (fun h => ?_)
  · refine z_aload_n (pc := 23) X dX9_read_23 rfl 0 rfl ?_
    refine z_get (pc := 24) (v := .ref (σ 3)) X 0 fX9_28 rfl rfl dX9_read_24 rfl ?_
    refine z_bipush (pc := 27) (v := 16) X dX9_read_27 (by decide) ?_
    refine z_iload_n (pc := 29) X dX9_read_29 rfl 1 rfl ?_
    refine z_imul (pc := 30) X dX9_read_30 ?_
    refine z_iload_n (pc := 31) X dX9_read_31 rfl 2 rfl ?_
    refine z_iadd (pc := 32) X dX9_read_32 ?_
    refine z_lald (pc := 33) X 3 rfl dX9_read_33 h (fun h => ?_)
    exact z_sub [] rfl (zz9_read_34 X  _ _ h)
  · refine z_ldc2 (pc := 17) X dX9_read_17 mw_842 ?_
    refine z_goto (pc := 20) (tgt := 34) X dX9_read_20 (by decide) ?_
    exact z_sub [] rfl (zz9_read_34 X  _ _ h)
theorem cc9_read {l : Launch} {D : va_G} {cA : Nat → ClassId} {σ : Nat → Nat} {tS : Nat} {S S' : St} {x1 : Int32} {x2 : Int32} {r : Int64} (h : J9_read S x1 x2 = some (r, S')) : zMet l D cA σ shM tS yX9_read cX9_read 3 (some .long) rm9_read [.ref (σ 0), .int x1, .int x2] S (some (.long r)) S' := z_met [(0, .ref (σ 0)), (1, .int x1), (2, .int x2)] (by decide +kernel) (Nat.le_of_ble_eq_true rfl) rfl (fun _ _ _ _ _ _ _ _ X => zz9_read_0 X _ _ _ h)
set_option maxRecDepth 100000 in
set_option maxHeartbeats 4000000 in
theorem zz9_wrongDelays_93 {S' : St} {r : Int32} (X : zM p s m args meth c D cA σ shM tS RX9 cX9_wrongDelays 3 (some .int)) : ∀ (S : St), J9_wrongDelays_93 S = some (r, S') → Zj p l e rm9_wrongDelays s m args below meth c D cA σ shM 3 (some (.int r)) S' 93 [] [] S := by
  intro S h
  rw [J9_wrongDelays_93] at h
  refine z_iconst (pc := 93) (v := 1) X dX9_wrongDelays_93 (by decide) ?_
  exact z_iret X rfl dX9_wrongDelays_94 h
set_option maxRecDepth 100000 in
set_option maxHeartbeats 4000000 in
theorem zz9_wrongDelays_49 {S' : St} {r : Int32} (X : zM p s m args meth c D cA σ shM tS RX9 cX9_wrongDelays 3 (some .int)) : ∀ (n : Nat) (S : St) (x1 : Int32) (x2 : Int32), J9_wrongDelays_49 n S x1 x2 = some (r, S') → Zj p l e rm9_wrongDelays s m args below meth c D cA σ shM 3 (some (.int r)) S' 49 [(0, .ref (σ 0)), (1, .int x1), (2, .int x2)] [] S := by
  intro n
  induction n with
  | zero =>
    intro S x1 x2 h
    rw [J9_wrongDelays_49] at h
    cases h
  | succ n ih =>
    intro S x1 x2 h
    rw [J9_wrongDelays_49] at h
    refine z_iload_n (pc := 49) X dX9_wrongDelays_49 rfl 2 rfl ?_
    refine z_iconst (pc := 50) (v := 2) X dX9_wrongDelays_50 (by decide) ?_
    refine z_aload_n (pc := 51) X dX9_wrongDelays_51 rfl 0 rfl ?_
    refine z_get (pc := 52) (v := .int _) X 0 fX9_215 rfl rfl dX9_wrongDelays_52 rfl ?_
    refine z_imul (pc := 55) X dX9_wrongDelays_55 ?_
    refine z_icmp_ge (pc := 56) (tgt := 101) X dX9_wrongDelays_56 (by decide) h (fun h => ?_) (fun h => ?_)
    · refine z_iconst (pc := 101) (v := 0) X dX9_wrongDelays_101 (by decide) ?_
      exact z_iret X rfl dX9_wrongDelays_102 h
    · refine z_aload_n (pc := 59) X dX9_wrongDelays_59 rfl 0 rfl ?_
      refine z_get (pc := 60) (v := .ref (σ 3)) X 0 fX9_28 rfl rfl dX9_wrongDelays_60 rfl ?_
      refine z_bipush (pc := 63) (v := 16) X dX9_wrongDelays_63 (by decide) ?_
      refine z_iload_n (pc := 65) X dX9_wrongDelays_65 rfl 1 rfl ?_
      refine z_imul (pc := 66) X dX9_wrongDelays_66 ?_
      refine z_iload_n (pc := 67) X dX9_wrongDelays_67 rfl 2 rfl ?_
      refine z_iadd (pc := 68) X dX9_wrongDelays_68 ?_
      refine z_lald (pc := 69) X 3 rfl dX9_wrongDelays_69 h (fun h => ?_)
      refine z_lconst (pc := 70) (v := 0) X dX9_wrongDelays_70 (by decide) ?_
      refine z_lcmp (pc := 71) X dX9_wrongDelays_71 ?_
      refine z_if_lt (pc := 72) (tgt := 93) X dX9_wrongDelays_72 (by decide) h (fun h => ?_) (fun h => ?_)
      · exact z_sub [] rfl (zz9_wrongDelays_93 X  _ h)
      · refine z_aload_n (pc := 75) X dX9_wrongDelays_75 rfl 0 rfl ?_
        refine z_get (pc := 76) (v := .ref (σ 3)) X 0 fX9_28 rfl rfl dX9_wrongDelays_76 rfl ?_
        refine z_bipush (pc := 79) (v := 16) X dX9_wrongDelays_79 (by decide) ?_
        refine z_iload_n (pc := 81) X dX9_wrongDelays_81 rfl 1 rfl ?_
        refine z_imul (pc := 82) X dX9_wrongDelays_82 ?_
        refine z_iload_n (pc := 83) X dX9_wrongDelays_83 rfl 2 rfl ?_
        refine z_iadd (pc := 84) X dX9_wrongDelays_84 ?_
        refine z_lald (pc := 85) X 3 rfl dX9_wrongDelays_85 h (fun h => ?_)
        refine z_ldc2 (pc := 86) X dX9_wrongDelays_86 mw_1115 ?_
        refine z_lcmp (pc := 89) X dX9_wrongDelays_89 ?_
        refine z_if_le (pc := 90) (tgt := 95) X dX9_wrongDelays_90 (by decide) h (fun h => ?_) (fun h => ?_)
        · refine z_iinc (pc := 95) (k := 2) (v := 1) (L' := [(2, .int _), (0, .ref _), (1, .int _)]) X dX9_wrongDelays_95 rfl (by decide) (by decide) rfl ?_
          refine z_let h (fun h => ?_)
          refine z_goto (pc := 98) (tgt := 49) X dX9_wrongDelays_98 (by decide) ?_
          exact z_sub [1, 2, 0] rfl (ih _ _ _ h)
        · exact z_sub [] rfl (zz9_wrongDelays_93 X  _ h)
set_option maxRecDepth 100000 in
set_option maxHeartbeats 4000000 in
theorem zz9_wrongDelays_0 {S' : St} {r : Int32} (X : zM p s m args meth c D cA σ shM tS RX9 cX9_wrongDelays 3 (some .int)) : ∀ (S : St) (x1 : Int32), J9_wrongDelays S x1 = some (r, S') → Zj p l e rm9_wrongDelays s m args below meth c D cA σ shM 3 (some (.int r)) S' 0 [(0, .ref (σ 0)), (1, .int x1)] [] S := by
  intro S x1 h
  rw [J9_wrongDelays] at h
  refine z_iload_n (pc := 0) X dX9_wrongDelays_0 rfl 1 rfl ?_
  refine z_callSi (pc := 1) (rm := rm9_isSheet) X [.int _] sX9_14 rfl rfl (Nat.le_of_ble_eq_true rfl) ⟨rfl, rfl, Nat.le_of_ble_eq_true rfl, Nat.le_of_ble_eq_true rfl⟩ dX9_wrongDelays_1 h (fun _ _ q => cc9_isSheet q) (fun r1 S1 h => ?_)
  refine z_if_ne (pc := 4) (tgt := 9) X dX9_wrongDelays_4 (by decide) h (fun h => ?_) (fun h => ?_)
  · refine z_aload_n (pc := 9) X dX9_wrongDelays_9 rfl 0 rfl ?_
    refine z_get (pc := 10) (v := .int _) X 0 fX9_208 rfl rfl dX9_wrongDelays_10 rfl ?_
    refine z_if_ne (pc := 13) (tgt := 18) X dX9_wrongDelays_13 (by decide) h (fun h => ?_) (fun h => ?_)
    · refine z_aload_n (pc := 18) X dX9_wrongDelays_18 rfl 0 rfl ?_
      refine z_get (pc := 19) (v := .ref (σ 2)) X 0 fX9_25 rfl rfl dX9_wrongDelays_19 rfl ?_
      refine z_iload_n (pc := 22) X dX9_wrongDelays_22 rfl 1 rfl ?_
      refine z_iald (pc := 23) X 2 rfl dX9_wrongDelays_23 h (fun h => ?_)
      refine z_iconst (pc := 24) (v := -1) X dX9_wrongDelays_24 (by decide) ?_
      refine z_icmp_ne (pc := 25) (tgt := 30) X dX9_wrongDelays_25 (by decide) h (fun h => ?_) (fun h => ?_)
      · refine z_aload_n (pc := 30) X dX9_wrongDelays_30 rfl 0 rfl ?_
        refine z_get (pc := 31) (v := .ref (σ 2)) X 0 fX9_25 rfl rfl dX9_wrongDelays_31 rfl ?_
        refine z_iload_n (pc := 34) X dX9_wrongDelays_34 rfl 1 rfl ?_
        refine z_iald (pc := 35) X 2 rfl dX9_wrongDelays_35 h (fun h => ?_)
        refine z_iconst (pc := 36) (v := 2) X dX9_wrongDelays_36 (by decide) ?_
        refine z_aload_n (pc := 37) X dX9_wrongDelays_37 rfl 0 rfl ?_
        refine z_get (pc := 38) (v := .int _) X 0 fX9_215 rfl rfl dX9_wrongDelays_38 rfl ?_
        refine z_imul (pc := 41) X dX9_wrongDelays_41 ?_
        refine z_icmp_ge (pc := 42) (tgt := 47) X dX9_wrongDelays_42 (by decide) h (fun h => ?_) (fun h => ?_)
        · refine z_iconst (pc := 47) (v := 0) X dX9_wrongDelays_47 (by decide) ?_
          refine z_istore_n (pc := 48) (L' := [(2, .int _), (0, .ref _), (1, .int _)]) X dX9_wrongDelays_48 rfl (by decide) rfl ?_
          exact z_sub [1, 2, 0] rfl (zz9_wrongDelays_49 X  fu _ _ _ h)
        · refine z_iconst (pc := 45) (v := 3) X dX9_wrongDelays_45 (by decide) ?_
          exact z_iret X rfl dX9_wrongDelays_46 h
      · refine z_iconst (pc := 28) (v := 2) X dX9_wrongDelays_28 (by decide) ?_
        exact z_iret X rfl dX9_wrongDelays_29 h
    · refine z_iconst (pc := 16) (v := 4) X dX9_wrongDelays_16 (by decide) ?_
      exact z_iret X rfl dX9_wrongDelays_17 h
  · refine z_iconst (pc := 7) (v := 1) X dX9_wrongDelays_7 (by decide) ?_
    exact z_iret X rfl dX9_wrongDelays_8 h
theorem cc9_wrongDelays {l : Launch} {D : va_G} {cA : Nat → ClassId} {σ : Nat → Nat} {tS : Nat} {S S' : St} {x1 : Int32} {r : Int32} (h : J9_wrongDelays S x1 = some (r, S')) : zMet l D cA σ shM tS yX9_wrongDelays cX9_wrongDelays 3 (some .int) rm9_wrongDelays [.ref (σ 0), .int x1] S (some (.int r)) S' := z_met [(0, .ref (σ 0)), (1, .int x1)] (by decide +kernel) (Nat.le_of_ble_eq_true rfl) rfl (fun _ _ _ _ _ _ _ _ X => zz9_wrongDelays_0 X _ _ h)
set_option maxRecDepth 100000 in
set_option maxHeartbeats 4000000 in
theorem zz9_reads_97 {S' : St} {r : Int32} (X : zM p s m args meth c D cA σ shM tS RX9 cX9_reads 6 (some .int)) : ∀ (n : Nat) (S : St) (x1 : Int32) (x4 : Int32) (x5 : Int32), J9_reads_97 n S x1 x4 x5 = some (r, S') → Zj p l e rm9_reads s m args below meth c D cA σ shM 6 (some (.int r)) S' 97 [(0, .ref (σ 0)), (1, .int x1), (4, .int x4), (5, .int x5)] [] S := by
  intro n
  induction n with
  | zero =>
    intro S x1 x4 x5 h
    rw [J9_reads_97] at h
    cases h
  | succ n ih =>
    intro S x1 x4 x5 h
    rw [J9_reads_97] at h
    refine z_iload (pc := 97) X dX9_reads_97 3 rfl ?_
    refine z_aload_n (pc := 99) X dX9_reads_99 rfl 0 rfl ?_
    refine z_get (pc := 100) (v := .int _) X 0 fX9_215 rfl rfl dX9_reads_100 rfl ?_
    refine z_icmp_ge (pc := 103) (tgt := 141) X dX9_reads_103 (by decide) h (fun h => ?_) (fun h => ?_)
    · refine z_aload_n (pc := 141) X dX9_reads_141 rfl 0 rfl ?_
      refine z_callVv (pc := 142) (rm := rm9_workOff) X 0 [] vX9_260 rfl rfl rfl (Nat.le_of_ble_eq_true rfl) ⟨rfl, rfl, Nat.le_of_ble_eq_true rfl, Nat.le_of_ble_eq_true rfl⟩ dX9_reads_142 h (fun _ _ q => cc9_workOff q) (fun _ S1 h => ?_)
      refine z_aload_n (pc := 145) X dX9_reads_145 rfl 0 rfl ?_
      refine z_iconst (pc := 146) (v := 0) X dX9_reads_146 (by decide) ?_
      refine z_putI (pc := 147) X 0 gX9_1 rfl rfl dX9_reads_147 ?_
      refine z_let h (fun h => ?_)
      refine z_iload (pc := 150) X dX9_reads_150 2 rfl ?_
      exact z_iret X rfl dX9_reads_152 h
    · refine z_aload_n (pc := 106) X dX9_reads_106 rfl 0 rfl ?_
      refine z_aload_n (pc := 107) X dX9_reads_107 rfl 0 rfl ?_
      refine z_iload_n (pc := 108) X dX9_reads_108 rfl 1 rfl ?_
      refine z_iload (pc := 109) X dX9_reads_109 3 rfl ?_
      refine z_callVi (pc := 111) (rm := rm9_delay) X 0 [.int _, .int _] vX9_253 rfl rfl rfl (Nat.le_of_ble_eq_true rfl) ⟨rfl, rfl, Nat.le_of_ble_eq_true rfl, Nat.le_of_ble_eq_true rfl⟩ dX9_reads_111 h (fun _ _ q => cc9_delay q) (fun r3 S3 h => ?_)
      refine z_iconst (pc := 114) (v := 2) X dX9_reads_114 (by decide) ?_
      refine z_iload (pc := 115) X dX9_reads_115 2 rfl ?_
      refine z_iload (pc := 117) X dX9_reads_117 3 rfl ?_
      refine z_iconst (pc := 119) (v := 0) X dX9_reads_119 (by decide) ?_
      refine z_aload_n (pc := 120) X dX9_reads_120 rfl 0 rfl ?_
      refine z_iload_n (pc := 121) X dX9_reads_121 rfl 1 rfl ?_
      refine z_aload_n (pc := 122) X dX9_reads_122 rfl 0 rfl ?_
      refine z_get (pc := 123) (v := .int _) X 0 fX9_215 rfl rfl dX9_reads_123 rfl ?_
      refine z_iload (pc := 126) X dX9_reads_126 3 rfl ?_
      refine z_iadd (pc := 128) X dX9_reads_128 ?_
      refine z_callVi (pc := 129) (rm := rm9_delay) X 0 [.int _, .int _] vX9_253 rfl rfl rfl (Nat.le_of_ble_eq_true rfl) ⟨rfl, rfl, Nat.le_of_ble_eq_true rfl, Nat.le_of_ble_eq_true rfl⟩ dX9_reads_129 h (fun _ _ q => cc9_delay q) (fun r4 S4 h => ?_)
      refine z_callVv (pc := 132) (rm := rm9_send) X 0 [.int _, .int _, .int _, .int _, .int _, .int _] vX9_256 rfl rfl rfl (Nat.le_of_ble_eq_true rfl) ⟨rfl, rfl, Nat.le_of_ble_eq_true rfl, Nat.le_of_ble_eq_true rfl⟩ dX9_reads_132 h (fun _ _ q => cc9_send q) (fun _ S5 h => ?_)
      refine z_iinc (pc := 135) (k := 3) (v := 1) (L' := [(5, .int _), (0, .ref _), (1, .int _), (4, .int _)]) X dX9_reads_135 rfl (by decide) (by decide) rfl ?_
      refine z_let h (fun h => ?_)
      refine z_goto (pc := 138) (tgt := 97) X dX9_reads_138 (by decide) ?_
      exact z_sub [1, 2, 3, 0] rfl (ih _ _ _ _ h)
set_option maxRecDepth 100000 in
set_option maxHeartbeats 4000000 in
theorem zz9_reads_33 {S' : St} {r : Int32} (X : zM p s m args meth c D cA σ shM tS RX9 cX9_reads 6 (some .int)) : ∀ (S : St) (x1 : Int32) (x2 : Int32) (x3 : Int32), J9_reads_33 S x1 x2 x3 = some (r, S') → Zj p l e rm9_reads s m args below meth c D cA σ shM 6 (some (.int r)) S' 33 [(0, .ref (σ 0)), (1, .int x1), (2, .int x2), (3, .int x3)] [] S := by
  intro S x1 x2 x3 h
  rw [J9_reads_33] at h
  refine z_iload_n (pc := 33) X dX9_reads_33 rfl 3 rfl ?_
  refine z_if_le (pc := 34) (tgt := 43) X dX9_reads_34 (by decide) h (fun h => ?_) (fun h => ?_)
  · refine z_aload_n (pc := 43) X dX9_reads_43 rfl 0 rfl ?_
    refine z_get (pc := 44) (v := .int _) X 0 fX9_239 rfl rfl dX9_reads_44 rfl ?_
    refine z_istore (pc := 47) (L' := [(4, .int _), (0, .ref _), (1, .int _), (2, .int _), (3, .int _)]) X dX9_reads_47 (by decide) rfl ?_
    refine z_let h (fun h => ?_)
    refine z_aload_n (pc := 49) X dX9_reads_49 rfl 1 rfl ?_
    refine z_dup (pc := 50) X dX9_reads_50 rfl ?_
    refine z_get (pc := 51) (v := .int _) X 0 fX9_239 rfl rfl dX9_reads_51 rfl ?_
    refine z_iconst (pc := 54) (v := 1) X dX9_reads_54 (by decide) ?_
    refine z_iadd (pc := 55) X dX9_reads_55 ?_
    refine z_putI (pc := 56) X 0 gX9_239 rfl rfl dX9_reads_56 ?_
    refine z_let h (fun h => ?_)
    refine z_aload_n (pc := 59) X dX9_reads_59 rfl 1 rfl ?_
    refine z_get (pc := 60) (v := .ref (σ 24)) X 0 fX9_121 rfl rfl dX9_reads_60 rfl ?_
    refine z_iload (pc := 63) X dX9_reads_63 0 rfl ?_
    refine z_aload_n (pc := 65) X dX9_reads_65 rfl 1 rfl ?_
    refine z_get (pc := 66) (v := .int _) X 0 fX9_224 rfl rfl dX9_reads_66 rfl ?_
    refine z_iast (pc := 69) X 24 rfl dX9_reads_69 h (fun h => ?_)
    refine z_let h (fun h => ?_)
    refine z_aload_n (pc := 70) X dX9_reads_70 rfl 1 rfl ?_
    refine z_get (pc := 71) (v := .ref (σ 25)) X 0 fX9_124 rfl rfl dX9_reads_71 rfl ?_
    refine z_iload (pc := 74) X dX9_reads_74 0 rfl ?_
    refine z_iload_n (pc := 76) X dX9_reads_76 rfl 3 rfl ?_
    refine z_iast (pc := 77) X 25 rfl dX9_reads_77 h (fun h => ?_)
    refine z_let h (fun h => ?_)
    refine z_aload_n (pc := 78) X dX9_reads_78 rfl 1 rfl ?_
    refine z_get (pc := 79) (v := .ref (σ 26)) X 0 fX9_127 rfl rfl dX9_reads_79 rfl ?_
    refine z_iload (pc := 82) X dX9_reads_82 0 rfl ?_
    refine z_iconst (pc := 84) (v := 0) X dX9_reads_84 (by decide) ?_
    refine z_iast (pc := 85) X 26 rfl dX9_reads_85 h (fun h => ?_)
    refine z_let h (fun h => ?_)
    refine z_aload_n (pc := 86) X dX9_reads_86 rfl 1 rfl ?_
    refine z_get (pc := 87) (v := .ref (σ 27)) X 0 fX9_130 rfl rfl dX9_reads_87 rfl ?_
    refine z_iload (pc := 90) X dX9_reads_90 0 rfl ?_
    refine z_iconst (pc := 92) (v := -1) X dX9_reads_92 (by decide) ?_
    refine z_iast (pc := 93) X 27 rfl dX9_reads_93 h (fun h => ?_)
    refine z_let h (fun h => ?_)
    refine z_iconst (pc := 94) (v := 0) X dX9_reads_94 (by decide) ?_
    refine z_istore (pc := 95) (L' := [(5, .int _), (4, .int _), (0, .ref _), (1, .int _), (2, .int _), (3, .int _)]) X dX9_reads_95 (by decide) rfl ?_
    exact z_sub [2, 3, 1, 0] rfl (zz9_reads_97 X  fu _ _ _ _ h)
  · refine z_aload_n (pc := 37) X dX9_reads_37 rfl 0 rfl ?_
    refine z_iload_n (pc := 38) X dX9_reads_38 rfl 3 rfl ?_
    refine z_callVi (pc := 39) (rm := rm9_refuse) X 0 [.int _] vX9_154 rfl rfl rfl (Nat.le_of_ble_eq_true rfl) ⟨rfl, rfl, Nat.le_of_ble_eq_true rfl, Nat.le_of_ble_eq_true rfl⟩ dX9_reads_39 h (fun _ _ q => cc9_refuse q) (fun r7 S7 h => ?_)
    exact z_iret X rfl dX9_reads_42 h
set_option maxRecDepth 100000 in
set_option maxHeartbeats 4000000 in
theorem zz9_reads_16 {S' : St} {r : Int32} (X : zM p s m args meth c D cA σ shM tS RX9 cX9_reads 6 (some .int)) : ∀ (S : St) (x1 : Int32) (x2 : Int32) (t0 : Int32), J9_reads_16 S x1 x2 t0 = some (r, S') → Zj p l e rm9_reads s m args below meth c D cA σ shM 6 (some (.int r)) S' 16 [(0, .ref (σ 0)), (1, .int x1), (2, .int x2)] [.int t0] S := by
  intro S x1 x2 t0 h
  rw [J9_reads_16] at h
  refine z_istore_n (pc := 16) (L' := [(3, .int _), (0, .ref _), (1, .int _), (2, .int _)]) X dX9_reads_16 rfl (by decide) rfl ?_
  refine z_iload_n (pc := 17) X dX9_reads_17 rfl 0 rfl ?_
  refine z_if_ne (pc := 18) (tgt := 33) X dX9_reads_18 (by decide) h (fun h => ?_) (fun h => ?_)
  · exact z_sub [1, 2, 3, 0] rfl (zz9_reads_33 X  _ _ _ _ h)
  · refine z_aload_n (pc := 21) X dX9_reads_21 rfl 1 rfl ?_
    refine z_get (pc := 22) (v := .int _) X 0 fX9_239 rfl rfl dX9_reads_22 rfl ?_
    refine z_bipush (pc := 25) (v := 40) X dX9_reads_25 (by decide) ?_
    refine z_icmp_ne (pc := 27) (tgt := 33) X dX9_reads_27 (by decide) h (fun h => ?_) (fun h => ?_)
    · exact z_sub [1, 2, 3, 0] rfl (zz9_reads_33 X  _ _ _ _ h)
    · refine z_bipush (pc := 30) (v := 6) X dX9_reads_30 (by decide) ?_
      refine z_istore_n (pc := 32) (L' := [(3, .int _), (0, .ref _), (1, .int _), (2, .int _)]) X dX9_reads_32 rfl (by decide) rfl ?_
      exact z_sub [1, 2, 3, 0] rfl (zz9_reads_33 X  _ _ _ _ h)
set_option maxRecDepth 100000 in
set_option maxHeartbeats 4000000 in
theorem zz9_reads_0 {S' : St} {r : Int32} (X : zM p s m args meth c D cA σ shM tS RX9 cX9_reads 6 (some .int)) : ∀ (S : St) (x1 : Int32) (x2 : Int32), J9_reads S x1 x2 = some (r, S') → Zj p l e rm9_reads s m args below meth c D cA σ shM 6 (some (.int r)) S' 0 [(0, .ref (σ 0)), (1, .int x1), (2, .int x2)] [] S := by
  intro S x1 x2 h
  rw [J9_reads] at h
  refine z_iload_n (pc := 0) X dX9_reads_0 rfl 2 rfl ?_
  refine z_callSi (pc := 1) (rm := rm9_isReader) X [.int _] sX9_245 rfl rfl (Nat.le_of_ble_eq_true rfl) ⟨rfl, rfl, Nat.le_of_ble_eq_true rfl, Nat.le_of_ble_eq_true rfl⟩ dX9_reads_1 h (fun _ _ q => cc9_isReader q) (fun r1 S1 h => ?_)
  refine z_if_ne (pc := 4) (tgt := 11) X dX9_reads_4 (by decide) h (fun h => ?_) (fun h => ?_)
  · refine z_aload_n (pc := 11) X dX9_reads_11 rfl 0 rfl ?_
    refine z_iload_n (pc := 12) X dX9_reads_12 rfl 1 rfl ?_
    refine z_callVi (pc := 13) (rm := rm9_wrongDelays) X 0 [.int _] vX9_250 rfl rfl rfl (Nat.le_of_ble_eq_true rfl) ⟨rfl, rfl, Nat.le_of_ble_eq_true rfl, Nat.le_of_ble_eq_true rfl⟩ dX9_reads_13 h (fun _ _ q => cc9_wrongDelays q) (fun r2 S2 h => ?_)
    exact z_sub [0, 1, 2] rfl (zz9_reads_16 X  _ _ _ _ h)
  · refine z_iconst (pc := 7) (v := 1) X dX9_reads_7 (by decide) ?_
    refine z_goto (pc := 8) (tgt := 16) X dX9_reads_8 (by decide) ?_
    exact z_sub [0, 1, 2] rfl (zz9_reads_16 X  _ _ _ _ h)
theorem cc9_reads {l : Launch} {D : va_G} {cA : Nat → ClassId} {σ : Nat → Nat} {tS : Nat} {S S' : St} {x1 : Int32} {x2 : Int32} {r : Int32} (h : J9_reads S x1 x2 = some (r, S')) : zMet l D cA σ shM tS yX9_reads cX9_reads 6 (some .int) rm9_reads [.ref (σ 0), .int x1, .int x2] S (some (.int r)) S' := z_met [(0, .ref (σ 0)), (1, .int x1), (2, .int x2)] (by decide +kernel) (Nat.le_of_ble_eq_true rfl) rfl (fun _ _ _ _ _ _ _ _ X => zz9_reads_0 X _ _ _ h)
set_option maxRecDepth 100000 in
set_option maxHeartbeats 4000000 in
theorem zz9_sheet_26 {S' : St} {r : Int32} (X : zM p s m args meth c D cA σ shM tS RX9 cX9_sheet 5 (some .boolean)) : ∀ (S : St), J9_sheet_26 S = some (r, S') → Zj p l e rm9_sheet s m args below meth c D cA σ shM 5 (some (.int r)) S' 26 [(0, .ref (σ 0))] [] S := by
  intro S h
  rw [J9_sheet_26] at h
  refine z_aload_n (pc := 26) X dX9_sheet_26 rfl 0 rfl ?_
  refine z_iconst (pc := 27) (v := 1) X dX9_sheet_27 (by decide) ?_
  refine z_callVi (pc := 28) (rm := rm9_is) X 0 [.int _] vX9_18 rfl rfl rfl (Nat.le_of_ble_eq_true rfl) ⟨rfl, rfl, Nat.le_of_ble_eq_true rfl, Nat.le_of_ble_eq_true rfl⟩ dX9_sheet_28 h (fun _ _ q => cc9_is q) (fun r1 S1 h => ?_)
  exact z_zret X rfl dX9_sheet_31 h
set_option maxRecDepth 100000 in
set_option maxHeartbeats 4000000 in
theorem zz9_sheet_49 {S' : St} {r : Int32} (X : zM p s m args meth c D cA σ shM tS RX9 cX9_sheet 5 (some .boolean)) : ∀ (n : Nat) (S : St) (x1 : Int32) (x3 : Int32) (x4 : Int32), J9_sheet_49 n S x1 x3 x4 = some (r, S') → Zj p l e rm9_sheet s m args below meth c D cA σ shM 5 (some (.int r)) S' 49 [(0, .ref (σ 0)), (1, .int x1), (3, .int x3), (4, .int x4)] [] S := by
  intro n
  induction n with
  | zero =>
    intro S x1 x3 x4 h
    rw [J9_sheet_49] at h
    cases h
  | succ n ih =>
    intro S x1 x3 x4 h
    rw [J9_sheet_49] at h
    refine z_iload (pc := 49) X dX9_sheet_49 3 rfl ?_
    refine z_iload_n (pc := 51) X dX9_sheet_51 rfl 2 rfl ?_
    refine z_icmp_ge (pc := 52) (tgt := 74) X dX9_sheet_52 (by decide) h (fun h => ?_) (fun h => ?_)
    · refine z_aload_n (pc := 74) X dX9_sheet_74 rfl 0 rfl ?_
      refine z_iconst (pc := 75) (v := 0) X dX9_sheet_75 (by decide) ?_
      refine z_callVi (pc := 76) (rm := rm9_is) X 0 [.int _] vX9_18 rfl rfl rfl (Nat.le_of_ble_eq_true rfl) ⟨rfl, rfl, Nat.le_of_ble_eq_true rfl, Nat.le_of_ble_eq_true rfl⟩ dX9_sheet_76 h (fun _ _ q => cc9_is q) (fun r1 S1 h => ?_)
      exact z_zret X rfl dX9_sheet_79 h
    · refine z_aload_n (pc := 55) X dX9_sheet_55 rfl 0 rfl ?_
      refine z_get (pc := 56) (v := .ref (σ 3)) X 0 fX9_28 rfl rfl dX9_sheet_56 rfl ?_
      refine z_bipush (pc := 59) (v := 16) X dX9_sheet_59 (by decide) ?_
      refine z_iload_n (pc := 61) X dX9_sheet_61 rfl 1 rfl ?_
      refine z_imul (pc := 62) X dX9_sheet_62 ?_
      refine z_iload (pc := 63) X dX9_sheet_63 3 rfl ?_
      refine z_iadd (pc := 65) X dX9_sheet_65 ?_
      refine z_lconst (pc := 66) (v := 0) X dX9_sheet_66 (by decide) ?_
      refine z_last (pc := 67) X 3 rfl dX9_sheet_67 h (fun h => ?_)
      refine z_let h (fun h => ?_)
      refine z_iinc (pc := 68) (k := 3) (v := 1) (L' := [(4, .int _), (0, .ref _), (1, .int _), (3, .int _)]) X dX9_sheet_68 rfl (by decide) (by decide) rfl ?_
      refine z_let h (fun h => ?_)
      refine z_goto (pc := 71) (tgt := 49) X dX9_sheet_71 (by decide) ?_
      exact z_sub [1, 2, 3, 0] rfl (ih _ _ _ _ h)
set_option maxRecDepth 100000 in
set_option maxHeartbeats 4000000 in
theorem zz9_sheet_0 {S' : St} {r : Int32} (X : zM p s m args meth c D cA σ shM tS RX9 cX9_sheet 5 (some .boolean)) : ∀ (S : St) (x1 : Int32) (x2 : Int32) (x3 : Int32), J9_sheet S x1 x2 x3 = some (r, S') → Zj p l e rm9_sheet s m args below meth c D cA σ shM 5 (some (.int r)) S' 0 [(0, .ref (σ 0)), (1, .int x1), (2, .int x2), (3, .int x3)] [] S := by
  intro S x1 x2 x3 h
  rw [J9_sheet] at h
  refine z_iload_n (pc := 0) X dX9_sheet_0 rfl 1 rfl ?_
  refine z_callSi (pc := 1) (rm := rm9_isSheet) X [.int _] sX9_14 rfl rfl (Nat.le_of_ble_eq_true rfl) ⟨rfl, rfl, Nat.le_of_ble_eq_true rfl, Nat.le_of_ble_eq_true rfl⟩ dX9_sheet_1 h (fun _ _ q => cc9_isSheet q) (fun r1 S1 h => ?_)
  refine z_if_eq (pc := 4) (tgt := 26) X dX9_sheet_4 (by decide) h (fun h => ?_) (fun h => ?_)
  · exact z_sub [0] rfl (zz9_sheet_26 X  _ h)
  · refine z_iload_n (pc := 7) X dX9_sheet_7 rfl 2 rfl ?_
    refine z_if_lt (pc := 8) (tgt := 26) X dX9_sheet_8 (by decide) h (fun h => ?_) (fun h => ?_)
    · exact z_sub [0] rfl (zz9_sheet_26 X  _ h)
    · refine z_iload_n (pc := 11) X dX9_sheet_11 rfl 2 rfl ?_
      refine z_iconst (pc := 12) (v := 3) X dX9_sheet_12 (by decide) ?_
      refine z_icmp_gt (pc := 13) (tgt := 26) X dX9_sheet_13 (by decide) h (fun h => ?_) (fun h => ?_)
      · exact z_sub [0] rfl (zz9_sheet_26 X  _ h)
      · refine z_iload_n (pc := 16) X dX9_sheet_16 rfl 3 rfl ?_
        refine z_if_lt (pc := 17) (tgt := 26) X dX9_sheet_17 (by decide) h (fun h => ?_) (fun h => ?_)
        · exact z_sub [0] rfl (zz9_sheet_26 X  _ h)
        · refine z_iload_n (pc := 20) X dX9_sheet_20 rfl 3 rfl ?_
          refine z_bipush (pc := 21) (v := 16) X dX9_sheet_21 (by decide) ?_
          refine z_icmp_le (pc := 23) (tgt := 32) X dX9_sheet_23 (by decide) h (fun h => ?_) (fun h => ?_)
          · refine z_aload_n (pc := 32) X dX9_sheet_32 rfl 0 rfl ?_
            refine z_get (pc := 33) (v := .ref (σ 1)) X 0 fX9_21 rfl rfl dX9_sheet_33 rfl ?_
            refine z_iload_n (pc := 36) X dX9_sheet_36 rfl 1 rfl ?_
            refine z_iload_n (pc := 37) X dX9_sheet_37 rfl 2 rfl ?_
            refine z_iast (pc := 38) X 1 rfl dX9_sheet_38 h (fun h => ?_)
            refine z_let h (fun h => ?_)
            refine z_aload_n (pc := 39) X dX9_sheet_39 rfl 0 rfl ?_
            refine z_get (pc := 40) (v := .ref (σ 2)) X 0 fX9_25 rfl rfl dX9_sheet_40 rfl ?_
            refine z_iload_n (pc := 43) X dX9_sheet_43 rfl 1 rfl ?_
            refine z_iload_n (pc := 44) X dX9_sheet_44 rfl 3 rfl ?_
            refine z_iast (pc := 45) X 2 rfl dX9_sheet_45 h (fun h => ?_)
            refine z_let h (fun h => ?_)
            refine z_iconst (pc := 46) (v := 0) X dX9_sheet_46 (by decide) ?_
            refine z_istore (pc := 47) (L' := [(4, .int _), (0, .ref _), (1, .int _), (2, .int _), (3, .int _)]) X dX9_sheet_47 (by decide) rfl ?_
            exact z_sub [1, 2, 4, 0] rfl (zz9_sheet_49 X  fu _ _ _ _ h)
          · exact z_sub [0] rfl (zz9_sheet_26 X  _ h)
theorem cc9_sheet {l : Launch} {D : va_G} {cA : Nat → ClassId} {σ : Nat → Nat} {tS : Nat} {S S' : St} {x1 : Int32} {x2 : Int32} {x3 : Int32} {r : Int32} (h : J9_sheet S x1 x2 x3 = some (r, S')) : zMet l D cA σ shM tS yX9_sheet cX9_sheet 5 (some .boolean) rm9_sheet [.ref (σ 0), .int x1, .int x2, .int x3] S (some (.int r)) S' := z_met [(0, .ref (σ 0)), (1, .int x1), (2, .int x2), (3, .int x3)] (by decide +kernel) (Nat.le_of_ble_eq_true rfl) rfl (fun _ _ _ _ _ _ _ _ X => zz9_sheet_0 X _ _ _ _ h)
set_option maxRecDepth 100000 in
set_option maxHeartbeats 4000000 in
theorem zz9_status_0 {S' : St} {r : Int32} (X : zM p s m args meth c D cA σ shM tS RX9 cX9_status 1 (some .int)) : ∀ (S : St), J9_status S = some (r, S') → Zj p l e rm9_status s m args below meth c D cA σ shM 1 (some (.int r)) S' 0 [(0, .ref (σ 0))] [] S := by
  intro S h
  rw [J9_status] at h
  refine z_aload_n (pc := 0) X dX9_status_0 rfl 0 rfl ?_
  refine z_get (pc := 1) (v := .int _) X 0 fX9_1 rfl rfl dX9_status_1 rfl ?_
  exact z_iret X rfl dX9_status_4 h
theorem cc9_status {l : Launch} {D : va_G} {cA : Nat → ClassId} {σ : Nat → Nat} {tS : Nat} {S S' : St} {r : Int32} (h : J9_status S = some (r, S')) : zMet l D cA σ shM tS yX9_status cX9_status 1 (some .int) rm9_status [.ref (σ 0)] S (some (.int r)) S' := z_met [(0, .ref (σ 0))] (by decide +kernel) (Nat.le_of_ble_eq_true rfl) rfl (fun _ _ _ _ _ _ _ _ X => zz9_status_0 X _ h)
set_option maxRecDepth 100000 in
set_option maxHeartbeats 4000000 in
theorem zz9_sweep_139 {S' : St} {r : Int32} (X : zM p s m args meth c D cA σ shM tS RX9 cX9_sweep 7 (some .int)) : ∀ (S : St) (t0 : Int32), J9_sweep_139 S t0 = some (r, S') → Zj p l e rm9_sweep s m args below meth c D cA σ shM 7 (some (.int r)) S' 139 [] [.int t0] S := by
  intro S t0 h
  rw [J9_sweep_139] at h
  exact z_iret X rfl dX9_sweep_139 h
set_option maxRecDepth 100000 in
set_option maxHeartbeats 4000000 in
theorem zz9_sweep_111 {S' : St} {r : Int32} (X : zM p s m args meth c D cA σ shM tS RX9 cX9_sweep 7 (some .int)) : ∀ (S : St) (x1 : Int32) (x2 : Int32) (x5 : Int32) (t0 : Int32), J9_sweep_111 S x1 x2 x5 t0 = some (r, S') → Zj p l e rm9_sweep s m args below meth c D cA σ shM 7 (some (.int r)) S' 111 [(0, .ref (σ 0)), (1, .int x1), (2, .int x2), (5, .int x5)] [.int t0] S := by
  intro S x1 x2 x5 t0 h
  rw [J9_sweep_111] at h
  refine z_istore (pc := 111) (L' := [(6, .int _), (0, .ref _), (1, .int _), (2, .int _), (5, .int _)]) X dX9_sweep_111 (by decide) rfl ?_
  refine z_aload_n (pc := 113) X dX9_sweep_113 rfl 1 rfl ?_
  refine z_get (pc := 114) (v := .ref (σ 10)) X 0 fX9_78 rfl rfl dX9_sweep_114 rfl ?_
  refine z_iload_n (pc := 117) X dX9_sweep_117 rfl 2 rfl ?_
  refine z_iload (pc := 118) X dX9_sweep_118 4 rfl ?_
  refine z_iast (pc := 120) X 10 rfl dX9_sweep_120 h (fun h => ?_)
  refine z_let h (fun h => ?_)
  refine z_aload_n (pc := 121) X dX9_sweep_121 rfl 1 rfl ?_
  refine z_get (pc := 122) (v := .ref (σ 10)) X 0 fX9_78 rfl rfl dX9_sweep_122 rfl ?_
  refine z_iload_n (pc := 125) X dX9_sweep_125 rfl 3 rfl ?_
  refine z_iload (pc := 126) X dX9_sweep_126 4 rfl ?_
  refine z_iast (pc := 128) X 10 rfl dX9_sweep_128 h (fun h => ?_)
  refine z_let h (fun h => ?_)
  refine z_iload (pc := 129) X dX9_sweep_129 0 rfl ?_
  refine z_if_eq (pc := 131) (tgt := 138) X dX9_sweep_131 (by decide) h (fun h => ?_) (fun h => ?_)
  · refine z_iconst (pc := 138) (v := 0) X dX9_sweep_138 (by decide) ?_
    exact z_sub [] rfl (zz9_sweep_139 X  _ _ h)
  · refine z_iconst (pc := 134) (v := 1) X dX9_sweep_134 (by decide) ?_
    refine z_goto (pc := 135) (tgt := 139) X dX9_sweep_135 (by decide) ?_
    exact z_sub [] rfl (zz9_sweep_139 X  _ _ h)
set_option maxRecDepth 100000 in
set_option maxHeartbeats 4000000 in
theorem zz9_sweep_59 {S' : St} {r : Int32} (X : zM p s m args meth c D cA σ shM tS RX9 cX9_sweep 7 (some .int)) : ∀ (S : St) (x1 : Int32) (x2 : Int32) (x3 : Int32), J9_sweep_59 S x1 x2 x3 = some (r, S') → Zj p l e rm9_sweep s m args below meth c D cA σ shM 7 (some (.int r)) S' 59 [(0, .ref (σ 0)), (1, .int x1), (2, .int x2), (3, .int x3)] [] S := by
  intro S x1 x2 x3 h
  rw [J9_sweep_59] at h
  refine z_iload_n (pc := 59) X dX9_sweep_59 rfl 3 rfl ?_
  refine z_if_le (pc := 60) (tgt := 69) X dX9_sweep_60 (by decide) h (fun h => ?_) (fun h => ?_)
  · refine z_aload_n (pc := 69) X dX9_sweep_69 rfl 0 rfl ?_
    refine z_iconst (pc := 70) (v := 0) X dX9_sweep_70 (by decide) ?_
    refine z_putI (pc := 71) X 0 gX9_1 rfl rfl dX9_sweep_71 ?_
    refine z_let h (fun h => ?_)
    refine z_aload_n (pc := 74) X dX9_sweep_74 rfl 0 rfl ?_
    refine z_get (pc := 75) (v := .ref (σ 10)) X 0 fX9_78 rfl rfl dX9_sweep_75 rfl ?_
    refine z_iload_n (pc := 78) X dX9_sweep_78 rfl 1 rfl ?_
    refine z_iald (pc := 79) X 10 rfl dX9_sweep_79 h (fun h => ?_)
    refine z_aload_n (pc := 80) X dX9_sweep_80 rfl 0 rfl ?_
    refine z_get (pc := 81) (v := .ref (σ 10)) X 0 fX9_78 rfl rfl dX9_sweep_81 rfl ?_
    refine z_iload_n (pc := 84) X dX9_sweep_84 rfl 2 rfl ?_
    refine z_iald (pc := 85) X 10 rfl dX9_sweep_85 h (fun h => ?_)
    refine z_max (pc := 86) X hX9_270 ⟨Nat.le_of_ble_eq_true rfl, Nat.le_of_ble_eq_true rfl⟩ dX9_sweep_86 ?_
    refine z_istore (pc := 89) (L' := [(5, .int _), (0, .ref _), (1, .int _), (2, .int _), (3, .int _)]) X dX9_sweep_89 (by decide) rfl ?_
    refine z_let h (fun h => ?_)
    refine z_aload_n (pc := 91) X dX9_sweep_91 rfl 1 rfl ?_
    refine z_get (pc := 92) (v := .ref (σ 10)) X 0 fX9_78 rfl rfl dX9_sweep_92 rfl ?_
    refine z_iload_n (pc := 95) X dX9_sweep_95 rfl 2 rfl ?_
    refine z_iald (pc := 96) X 10 rfl dX9_sweep_96 h (fun h => ?_)
    refine z_aload_n (pc := 97) X dX9_sweep_97 rfl 1 rfl ?_
    refine z_get (pc := 98) (v := .ref (σ 10)) X 0 fX9_78 rfl rfl dX9_sweep_98 rfl ?_
    refine z_iload_n (pc := 101) X dX9_sweep_101 rfl 3 rfl ?_
    refine z_iald (pc := 102) X 10 rfl dX9_sweep_102 h (fun h => ?_)
    refine z_icmp_eq (pc := 103) (tgt := 110) X dX9_sweep_103 (by decide) h (fun h => ?_) (fun h => ?_)
    · refine z_iconst (pc := 110) (v := 0) X dX9_sweep_110 (by decide) ?_
      exact z_sub [1, 2, 3, 0] rfl (zz9_sweep_111 X  _ _ _ _ _ h)
    · refine z_iconst (pc := 106) (v := 1) X dX9_sweep_106 (by decide) ?_
      refine z_goto (pc := 107) (tgt := 111) X dX9_sweep_107 (by decide) ?_
      exact z_sub [1, 2, 3, 0] rfl (zz9_sweep_111 X  _ _ _ _ _ h)
  · refine z_aload_n (pc := 63) X dX9_sweep_63 rfl 0 rfl ?_
    refine z_iload_n (pc := 64) X dX9_sweep_64 rfl 3 rfl ?_
    refine z_callVi (pc := 65) (rm := rm9_refuse) X 0 [.int _] vX9_154 rfl rfl rfl (Nat.le_of_ble_eq_true rfl) ⟨rfl, rfl, Nat.le_of_ble_eq_true rfl, Nat.le_of_ble_eq_true rfl⟩ dX9_sweep_65 h (fun _ _ q => cc9_refuse q) (fun r3 S3 h => ?_)
    exact z_iret X rfl dX9_sweep_68 h
set_option maxRecDepth 100000 in
set_option maxHeartbeats 4000000 in
theorem zz9_sweep_57 {S' : St} {r : Int32} (X : zM p s m args meth c D cA σ shM tS RX9 cX9_sweep 7 (some .int)) : ∀ (S : St) (x1 : Int32) (x2 : Int32), J9_sweep_57 S x1 x2 = some (r, S') → Zj p l e rm9_sweep s m args below meth c D cA σ shM 7 (some (.int r)) S' 57 [(0, .ref (σ 0)), (1, .int x1), (2, .int x2)] [] S := by
  intro S x1 x2 h
  rw [J9_sweep_57] at h
  refine z_iconst (pc := 57) (v := 5) X dX9_sweep_57 (by decide) ?_
  refine z_istore_n (pc := 58) (L' := [(3, .int _), (0, .ref _), (1, .int _), (2, .int _)]) X dX9_sweep_58 rfl (by decide) rfl ?_
  exact z_sub [1, 2, 3, 0] rfl (zz9_sweep_59 X  _ _ _ _ h)
set_option maxRecDepth 100000 in
set_option maxHeartbeats 4000000 in
theorem zz9_sweep_35 {S' : St} {r : Int32} (X : zM p s m args meth c D cA σ shM tS RX9 cX9_sweep 7 (some .int)) : ∀ (S : St) (x1 : Int32) (x2 : Int32) (x3 : Int32), J9_sweep_35 S x1 x2 x3 = some (r, S') → Zj p l e rm9_sweep s m args below meth c D cA σ shM 7 (some (.int r)) S' 35 [(0, .ref (σ 0)), (1, .int x1), (2, .int x2), (3, .int x3)] [] S := by
  intro S x1 x2 x3 h
  rw [J9_sweep_35] at h
  refine z_iload_n (pc := 35) X dX9_sweep_35 rfl 3 rfl ?_
  refine z_if_ne (pc := 36) (tgt := 59) X dX9_sweep_36 (by decide) h (fun h => ?_) (fun h => ?_)
  · exact z_sub [0, 1, 2, 3] rfl (zz9_sweep_59 X  _ _ _ _ h)
  · refine z_aload_n (pc := 39) X dX9_sweep_39 rfl 0 rfl ?_
    refine z_get (pc := 40) (v := .ref (σ 12)) X 0 fX9_84 rfl rfl dX9_sweep_40 rfl ?_
    refine z_iload_n (pc := 43) X dX9_sweep_43 rfl 1 rfl ?_
    refine z_zald (pc := 44) X 12 rfl dX9_sweep_44 h (fun h => ?_)
    refine z_if_eq (pc := 45) (tgt := 57) X dX9_sweep_45 (by decide) h (fun h => ?_) (fun h => ?_)
    · exact z_sub [0, 1, 2] rfl (zz9_sweep_57 X  _ _ _ h)
    · refine z_aload_n (pc := 48) X dX9_sweep_48 rfl 0 rfl ?_
      refine z_get (pc := 49) (v := .ref (σ 12)) X 0 fX9_84 rfl rfl dX9_sweep_49 rfl ?_
      refine z_iload_n (pc := 52) X dX9_sweep_52 rfl 2 rfl ?_
      refine z_zald (pc := 53) X 12 rfl dX9_sweep_53 h (fun h => ?_)
      refine z_if_ne (pc := 54) (tgt := 59) X dX9_sweep_54 (by decide) h (fun h => ?_) (fun h => ?_)
      · exact z_sub [0, 1, 2, 3] rfl (zz9_sweep_59 X  _ _ _ _ h)
      · exact z_sub [0, 1, 2] rfl (zz9_sweep_57 X  _ _ _ h)
set_option maxRecDepth 100000 in
set_option maxHeartbeats 4000000 in
theorem zz9_sweep_32 {S' : St} {r : Int32} (X : zM p s m args meth c D cA σ shM tS RX9 cX9_sweep 7 (some .int)) : ∀ (S : St) (x1 : Int32) (x2 : Int32) (x4 : Int32), J9_sweep_32 S x1 x2 x4 = some (r, S') → Zj p l e rm9_sweep s m args below meth c D cA σ shM 7 (some (.int r)) S' 32 [(0, .ref (σ 0)), (1, .int x1), (2, .int x2), (4, .int x4)] [] S := by
  intro S x1 x2 x4 h
  rw [J9_sweep_32] at h
  refine z_iload (pc := 32) X dX9_sweep_32 3 rfl ?_
  refine z_istore_n (pc := 34) (L' := [(3, .int _), (0, .ref _), (1, .int _), (2, .int _), (4, .int _)]) X dX9_sweep_34 rfl (by decide) rfl ?_
  exact z_sub [1, 2, 3, 0] rfl (zz9_sweep_35 X  _ _ _ _ h)
set_option maxRecDepth 100000 in
set_option maxHeartbeats 4000000 in
theorem zz9_sweep_14 {S' : St} {r : Int32} (X : zM p s m args meth c D cA σ shM tS RX9 cX9_sweep 7 (some .int)) : ∀ (S : St) (x1 : Int32) (x2 : Int32) (t0 : Int32), J9_sweep_14 S x1 x2 t0 = some (r, S') → Zj p l e rm9_sweep s m args below meth c D cA σ shM 7 (some (.int r)) S' 14 [(0, .ref (σ 0)), (1, .int x1), (2, .int x2)] [.int t0] S := by
  intro S x1 x2 t0 h
  rw [J9_sweep_14] at h
  refine z_istore_n (pc := 14) (L' := [(3, .int _), (0, .ref _), (1, .int _), (2, .int _)]) X dX9_sweep_14 rfl (by decide) rfl ?_
  refine z_aload_n (pc := 15) X dX9_sweep_15 rfl 1 rfl ?_
  refine z_iload_n (pc := 16) X dX9_sweep_16 rfl 3 rfl ?_
  refine z_callVi (pc := 17) (rm := rm9_wrongCopy) X 0 [.int _] vX9_283 rfl rfl rfl (Nat.le_of_ble_eq_true rfl) ⟨rfl, rfl, Nat.le_of_ble_eq_true rfl, Nat.le_of_ble_eq_true rfl⟩ dX9_sweep_17 h (fun _ _ q => cc9_wrongCopy q) (fun r1 S1 h => ?_)
  refine z_istore (pc := 20) (L' := [(4, .int _), (3, .int _), (0, .ref _), (1, .int _), (2, .int _)]) X dX9_sweep_20 (by decide) rfl ?_
  refine z_iload_n (pc := 22) X dX9_sweep_22 rfl 1 rfl ?_
  refine z_if_eq (pc := 23) (tgt := 32) X dX9_sweep_23 (by decide) h (fun h => ?_) (fun h => ?_)
  · exact z_sub [2, 3, 4, 0] rfl (zz9_sweep_32 X  _ _ _ _ h)
  · refine z_iload (pc := 26) X dX9_sweep_26 0 rfl ?_
    refine z_iconst (pc := 28) (v := 1) X dX9_sweep_28 (by decide) ?_
    refine z_icmp_ne (pc := 29) (tgt := 35) X dX9_sweep_29 (by decide) h (fun h => ?_) (fun h => ?_)
    · exact z_sub [2, 3, 4, 1] rfl (zz9_sweep_35 X  _ _ _ _ h)
    · exact z_sub [2, 3, 4, 0] rfl (zz9_sweep_32 X  _ _ _ _ h)
set_option maxRecDepth 100000 in
set_option maxHeartbeats 4000000 in
theorem zz9_sweep_0 {S' : St} {r : Int32} (X : zM p s m args meth c D cA σ shM tS RX9 cX9_sweep 7 (some .int)) : ∀ (S : St) (x1 : Int32) (x2 : Int32), J9_sweep S x1 x2 = some (r, S') → Zj p l e rm9_sweep s m args below meth c D cA σ shM 7 (some (.int r)) S' 0 [(0, .ref (σ 0)), (1, .int x1), (2, .int x2)] [] S := by
  intro S x1 x2 h
  rw [J9_sweep] at h
  refine z_iload_n (pc := 0) X dX9_sweep_0 rfl 1 rfl ?_
  refine z_iload_n (pc := 1) X dX9_sweep_1 rfl 2 rfl ?_
  refine z_icmp_ne (pc := 2) (tgt := 9) X dX9_sweep_2 (by decide) h (fun h => ?_) (fun h => ?_)
  · refine z_aload_n (pc := 9) X dX9_sweep_9 rfl 0 rfl ?_
    refine z_iload_n (pc := 10) X dX9_sweep_10 rfl 1 rfl ?_
    refine z_callVi (pc := 11) (rm := rm9_wrongCopy) X 0 [.int _] vX9_283 rfl rfl rfl (Nat.le_of_ble_eq_true rfl) ⟨rfl, rfl, Nat.le_of_ble_eq_true rfl, Nat.le_of_ble_eq_true rfl⟩ dX9_sweep_11 h (fun _ _ q => cc9_wrongCopy q) (fun r1 S1 h => ?_)
    exact z_sub [0, 1, 2] rfl (zz9_sweep_14 X  _ _ _ _ h)
  · refine z_iconst (pc := 5) (v := 1) X dX9_sweep_5 (by decide) ?_
    refine z_goto (pc := 6) (tgt := 14) X dX9_sweep_6 (by decide) ?_
    exact z_sub [0, 1, 2] rfl (zz9_sweep_14 X  _ _ _ _ h)
theorem cc9_sweep {l : Launch} {D : va_G} {cA : Nat → ClassId} {σ : Nat → Nat} {tS : Nat} {S S' : St} {x1 : Int32} {x2 : Int32} {r : Int32} (h : J9_sweep S x1 x2 = some (r, S')) : zMet l D cA σ shM tS yX9_sweep cX9_sweep 7 (some .int) rm9_sweep [.ref (σ 0), .int x1, .int x2] S (some (.int r)) S' := z_met [(0, .ref (σ 0)), (1, .int x1), (2, .int x2)] (by decide +kernel) (Nat.le_of_ble_eq_true rfl) rfl (fun _ _ _ _ _ _ _ _ X => zz9_sweep_0 X _ _ _ h)
set_option maxRecDepth 100000 in
set_option maxHeartbeats 4000000 in
theorem zz9_table_27 {S' : St} {r : Int32} (X : zM p s m args meth c D cA σ shM tS RX9 cX9_table 9 (some .boolean)) : ∀ (S : St), J9_table_27 S = some (r, S') → Zj p l e rm9_table s m args below meth c D cA σ shM 9 (some (.int r)) S' 27 [(0, .ref (σ 0))] [] S := by
  intro S h
  rw [J9_table_27] at h
  refine z_aload_n (pc := 27) X dX9_table_27 rfl 0 rfl ?_
  refine z_iconst (pc := 28) (v := 1) X dX9_table_28 (by decide) ?_
  refine z_callVi (pc := 29) (rm := rm9_is) X 0 [.int _] vX9_18 rfl rfl rfl (Nat.le_of_ble_eq_true rfl) ⟨rfl, rfl, Nat.le_of_ble_eq_true rfl, Nat.le_of_ble_eq_true rfl⟩ dX9_table_29 h (fun _ _ q => cc9_is q) (fun r1 S1 h => ?_)
  exact z_zret X rfl dX9_table_32 h
set_option maxRecDepth 100000 in
set_option maxHeartbeats 4000000 in
theorem zz9_table_107 {S' : St} {r : Int32} (X : zM p s m args meth c D cA σ shM tS RX9 cX9_table 9 (some .boolean)) : ∀ (S : St), J9_table_107 S = some (r, S') → Zj p l e rm9_table s m args below meth c D cA σ shM 9 (some (.int r)) S' 107 [(0, .ref (σ 0))] [] S := by
  intro S h
  rw [J9_table_107] at h
  refine z_aload_n (pc := 107) X dX9_table_107 rfl 0 rfl ?_
  refine z_iconst (pc := 108) (v := 1) X dX9_table_108 (by decide) ?_
  refine z_callVi (pc := 109) (rm := rm9_is) X 0 [.int _] vX9_18 rfl rfl rfl (Nat.le_of_ble_eq_true rfl) ⟨rfl, rfl, Nat.le_of_ble_eq_true rfl, Nat.le_of_ble_eq_true rfl⟩ dX9_table_109 h (fun _ _ q => cc9_is q) (fun r1 S1 h => ?_)
  exact z_zret X rfl dX9_table_112 h
set_option maxRecDepth 100000 in
set_option maxHeartbeats 4000000 in
theorem zz9_table_142 {S' : St} {r : Int32} (X : zM p s m args meth c D cA σ shM tS RX9 cX9_table 9 (some .boolean)) : ∀ (S : St), J9_table_142 S = some (r, S') → Zj p l e rm9_table s m args below meth c D cA σ shM 9 (some (.int r)) S' 142 [(0, .ref (σ 0))] [] S := by
  intro S h
  rw [J9_table_142] at h
  refine z_aload_n (pc := 142) X dX9_table_142 rfl 0 rfl ?_
  refine z_iconst (pc := 143) (v := 1) X dX9_table_143 (by decide) ?_
  refine z_callVi (pc := 144) (rm := rm9_is) X 0 [.int _] vX9_18 rfl rfl rfl (Nat.le_of_ble_eq_true rfl) ⟨rfl, rfl, Nat.le_of_ble_eq_true rfl, Nat.le_of_ble_eq_true rfl⟩ dX9_table_144 h (fun _ _ q => cc9_is q) (fun r1 S1 h => ?_)
  exact z_zret X rfl dX9_table_147 h
set_option maxRecDepth 100000 in
set_option maxHeartbeats 4000000 in
theorem zz9_table_192 {S' : St} {r : Int32} (X : zM p s m args meth c D cA σ shM tS RX9 cX9_table 9 (some .boolean)) (k151 : St → Int32 → Int32 → Int32 → Int64 → Int32 → Option (Int32 × St)) (hk151 : ∀ (S : St) (x1 : Int32) (x2 : Int32) (x3 : Int32) (x4 : Int64) (x6 : Int32), k151 S x1 x2 x3 x4 x6 = some (r, S') → Zj p l e rm9_table s m args below meth c D cA σ shM 9 (some (.int r)) S' 151 [(0, .ref (σ 0)), (1, .int x1), (2, .int x2), (3, .int x3), (4, .long x4), (6, .int x6)] [] S) : ∀ (S : St) (x1 : Int32) (x2 : Int32) (x3 : Int32) (x4 : Int64) (x6 : Int32) (t0 : Int32) (t1 : Int32), J9_table_192 k151 S x1 x2 x3 x4 x6 t0 t1 = some (r, S') → Zj p l e rm9_table s m args below meth c D cA σ shM 9 (some (.int r)) S' 192 [(0, .ref (σ 0)), (1, .int x1), (2, .int x2), (3, .int x3), (4, .long x4), (6, .int x6)] [.int t0, .int t1, .ref (σ 4)] S := by
  intro S x1 x2 x3 x4 x6 t0 t1 h
  rw [J9_table_192] at h
  refine z_iast (pc := 192) X 4 rfl dX9_table_192 h (fun h => ?_)
  refine z_let h (fun h => ?_)
  refine z_iinc (pc := 193) (k := 5) (v := 1) (L' := [(6, .int _), (0, .ref _), (1, .int _), (2, .int _), (3, .int _), (4, .long _)]) X dX9_table_193 rfl (by decide) (by decide) rfl ?_
  refine z_let h (fun h => ?_)
  refine z_goto (pc := 196) (tgt := 151) X dX9_table_196 (by decide) ?_
  exact z_sub [1, 2, 3, 4, 5, 0] rfl (hk151 _ _ _ _ _ _ h)
set_option maxRecDepth 100000 in
set_option maxHeartbeats 4000000 in
theorem zz9_table_151 {S' : St} {r : Int32} (X : zM p s m args meth c D cA σ shM tS RX9 cX9_table 9 (some .boolean)) : ∀ (n : Nat) (S : St) (x1 : Int32) (x2 : Int32) (x3 : Int32) (x4 : Int64) (x6 : Int32), J9_table_151 n S x1 x2 x3 x4 x6 = some (r, S') → Zj p l e rm9_table s m args below meth c D cA σ shM 9 (some (.int r)) S' 151 [(0, .ref (σ 0)), (1, .int x1), (2, .int x2), (3, .int x3), (4, .long x4), (6, .int x6)] [] S := by
  intro n
  induction n with
  | zero =>
    intro S x1 x2 x3 x4 x6 h
    rw [J9_table_151] at h
    cases h
  | succ n ih =>
    intro S x1 x2 x3 x4 x6 h
    rw [J9_table_151] at h
    refine z_iload (pc := 151) X dX9_table_151 5 rfl ?_
    refine z_bipush (pc := 153) (v := 8) X dX9_table_153 (by decide) ?_
    refine z_icmp_ge (pc := 155) (tgt := 199) X dX9_table_155 (by decide) h (fun h => ?_) (fun h => ?_)
    · refine z_aload_n (pc := 199) X dX9_table_199 rfl 0 rfl ?_
      refine z_get (pc := 200) (v := .ref (σ 5)) X 0 fX9_63 rfl rfl dX9_table_200 rfl ?_
      refine z_iload_n (pc := 203) X dX9_table_203 rfl 1 rfl ?_
      refine z_lload (pc := 204) X dX9_table_204 4 rfl ?_
      refine z_l2i (pc := 206) X dX9_table_206 ?_
      refine z_iast (pc := 207) X 5 rfl dX9_table_207 h (fun h => ?_)
      refine z_let h (fun h => ?_)
      refine z_aload_n (pc := 208) X dX9_table_208 rfl 0 rfl ?_
      refine z_iconst (pc := 209) (v := 0) X dX9_table_209 (by decide) ?_
      refine z_callVi (pc := 210) (rm := rm9_is) X 0 [.int _] vX9_18 rfl rfl rfl (Nat.le_of_ble_eq_true rfl) ⟨rfl, rfl, Nat.le_of_ble_eq_true rfl, Nat.le_of_ble_eq_true rfl⟩ dX9_table_210 h (fun _ _ q => cc9_is q) (fun r2 S2 h => ?_)
      exact z_zret X rfl dX9_table_213 h
    · refine z_aload_n (pc := 158) X dX9_table_158 rfl 0 rfl ?_
      refine z_get (pc := 159) (v := .ref (σ 4)) X 0 fX9_60 rfl rfl dX9_table_159 rfl ?_
      refine z_bipush (pc := 162) (v := 8) X dX9_table_162 (by decide) ?_
      refine z_iload_n (pc := 164) X dX9_table_164 rfl 1 rfl ?_
      refine z_imul (pc := 165) X dX9_table_165 ?_
      refine z_iload (pc := 166) X dX9_table_166 5 rfl ?_
      refine z_iadd (pc := 168) X dX9_table_168 ?_
      refine z_iload (pc := 169) X dX9_table_169 5 rfl ?_
      refine z_iload_n (pc := 171) X dX9_table_171 rfl 3 rfl ?_
      refine z_icmp_ge (pc := 172) (tgt := 191) X dX9_table_172 (by decide) h (fun h => ?_) (fun h => ?_)
      · refine z_iconst (pc := 191) (v := 0) X dX9_table_191 (by decide) ?_
        exact z_sub [0, 1, 2, 3, 4, 5] rfl (zz9_table_192 X _ ih _ _ _ _ _ _ _ _ h)
      · refine z_aload_n (pc := 175) X dX9_table_175 rfl 0 rfl ?_
        refine z_get (pc := 176) (v := .ref (σ 3)) X 0 fX9_28 rfl rfl dX9_table_176 rfl ?_
        refine z_bipush (pc := 179) (v := 16) X dX9_table_179 (by decide) ?_
        refine z_iload_n (pc := 181) X dX9_table_181 rfl 2 rfl ?_
        refine z_imul (pc := 182) X dX9_table_182 ?_
        refine z_iload (pc := 183) X dX9_table_183 5 rfl ?_
        refine z_iadd (pc := 185) X dX9_table_185 ?_
        refine z_lald (pc := 186) X 3 rfl dX9_table_186 h (fun h => ?_)
        refine z_l2i (pc := 187) X dX9_table_187 ?_
        refine z_goto (pc := 188) (tgt := 192) X dX9_table_188 (by decide) ?_
        exact z_sub [0, 1, 2, 3, 4, 5] rfl (zz9_table_192 X _ ih _ _ _ _ _ _ _ _ h)
set_option maxRecDepth 100000 in
set_option maxHeartbeats 4000000 in
theorem zz9_table_71 {S' : St} {r : Int32} (X : zM p s m args meth c D cA σ shM tS RX9 cX9_table 9 (some .boolean)) : ∀ (n : Nat) (S : St) (x1 : Int32) (x2 : Int32) (x3 : Int32) (x4 : Int64) (x6 : Int32), J9_table_71 n S x1 x2 x3 x4 x6 = some (r, S') → Zj p l e rm9_table s m args below meth c D cA σ shM 9 (some (.int r)) S' 71 [(0, .ref (σ 0)), (1, .int x1), (2, .int x2), (3, .int x3), (4, .long x4), (6, .int x6)] [] S := by
  intro n
  induction n with
  | zero =>
    intro S x1 x2 x3 x4 x6 h
    rw [J9_table_71] at h
    cases h
  | succ n ih =>
    intro S x1 x2 x3 x4 x6 h
    rw [J9_table_71] at h
    refine z_iload (pc := 71) X dX9_table_71 5 rfl ?_
    refine z_iload_n (pc := 73) X dX9_table_73 rfl 3 rfl ?_
    refine z_icmp_ge (pc := 74) (tgt := 126) X dX9_table_74 (by decide) h (fun h => ?_) (fun h => ?_)
    · refine z_lload (pc := 126) X dX9_table_126 4 rfl ?_
      refine z_lconst (pc := 128) (v := 1) X dX9_table_128 (by decide) ?_
      refine z_lcmp (pc := 129) X dX9_table_129 ?_
      refine z_if_lt (pc := 130) (tgt := 142) X dX9_table_130 (by decide) h (fun h => ?_) (fun h => ?_)
      · exact z_sub [0] rfl (zz9_table_142 X  _ h)
      · refine z_lload (pc := 133) X dX9_table_133 4 rfl ?_
        refine z_ldc2 (pc := 135) X dX9_table_135 mw_1023 ?_
        refine z_lcmp (pc := 138) X dX9_table_138 ?_
        refine z_if_le (pc := 139) (tgt := 148) X dX9_table_139 (by decide) h (fun h => ?_) (fun h => ?_)
        · refine z_iconst (pc := 148) (v := 0) X dX9_table_148 (by decide) ?_
          refine z_istore (pc := 149) (L' := [(6, .int _), (0, .ref _), (1, .int _), (2, .int _), (3, .int _), (4, .long _)]) X dX9_table_149 (by decide) rfl ?_
          exact z_sub [1, 2, 3, 4, 5, 0] rfl (zz9_table_151 X  fu _ _ _ _ _ _ h)
        · exact z_sub [0] rfl (zz9_table_142 X  _ h)
    · refine z_aload_n (pc := 77) X dX9_table_77 rfl 0 rfl ?_
      refine z_get (pc := 78) (v := .ref (σ 3)) X 0 fX9_28 rfl rfl dX9_table_78 rfl ?_
      refine z_bipush (pc := 81) (v := 16) X dX9_table_81 (by decide) ?_
      refine z_iload_n (pc := 83) X dX9_table_83 rfl 2 rfl ?_
      refine z_imul (pc := 84) X dX9_table_84 ?_
      refine z_iload (pc := 85) X dX9_table_85 5 rfl ?_
      refine z_iadd (pc := 87) X dX9_table_87 ?_
      refine z_lald (pc := 88) X 3 rfl dX9_table_88 h (fun h => ?_)
      refine z_lstore (pc := 89) (L' := [(7, .long _), (0, .ref _), (1, .int _), (2, .int _), (3, .int _), (4, .long _), (6, .int _)]) X dX9_table_89 (by decide) rfl ?_
      refine z_let h (fun h => ?_)
      refine z_lload (pc := 91) X dX9_table_91 0 rfl ?_
      refine z_lconst (pc := 93) (v := 0) X dX9_table_93 (by decide) ?_
      refine z_lcmp (pc := 94) X dX9_table_94 ?_
      refine z_if_lt (pc := 95) (tgt := 107) X dX9_table_95 (by decide) h (fun h => ?_) (fun h => ?_)
      · exact z_sub [1] rfl (zz9_table_107 X  _ h)
      · refine z_lload (pc := 98) X dX9_table_98 0 rfl ?_
        refine z_ldc2 (pc := 100) X dX9_table_100 mw_1023 ?_
        refine z_lcmp (pc := 103) X dX9_table_103 ?_
        refine z_if_le (pc := 104) (tgt := 113) X dX9_table_104 (by decide) h (fun h => ?_) (fun h => ?_)
        · refine z_lload (pc := 113) X dX9_table_113 5 rfl ?_
          refine z_lload (pc := 115) X dX9_table_115 0 rfl ?_
          refine z_ladd (pc := 117) X dX9_table_117 ?_
          refine z_lstore (pc := 118) (L' := [(4, .long _), (7, .long _), (0, .ref _), (1, .int _), (2, .int _), (3, .int _), (6, .int _)]) X dX9_table_118 (by decide) rfl ?_
          refine z_let h (fun h => ?_)
          refine z_iinc (pc := 120) (k := 6) (v := 1) (L' := [(6, .int _), (4, .long _), (7, .long _), (0, .ref _), (1, .int _), (2, .int _), (3, .int _)]) X dX9_table_120 rfl (by decide) (by decide) rfl ?_
          refine z_let h (fun h => ?_)
          refine z_goto (pc := 123) (tgt := 71) X dX9_table_123 (by decide) ?_
          exact z_sub [3, 4, 5, 6, 1, 0] rfl (ih _ _ _ _ _ _ h)
        · exact z_sub [1] rfl (zz9_table_107 X  _ h)
set_option maxRecDepth 100000 in
set_option maxHeartbeats 4000000 in
theorem zz9_table_0 {S' : St} {r : Int32} (X : zM p s m args meth c D cA σ shM tS RX9 cX9_table 9 (some .boolean)) : ∀ (S : St) (x1 : Int32) (x2 : Int32) (x3 : Int32), J9_table S x1 x2 x3 = some (r, S') → Zj p l e rm9_table s m args below meth c D cA σ shM 9 (some (.int r)) S' 0 [(0, .ref (σ 0)), (1, .int x1), (2, .int x2), (3, .int x3)] [] S := by
  intro S x1 x2 x3 h
  rw [J9_table] at h
  refine z_iload_n (pc := 0) X dX9_table_0 rfl 1 rfl ?_
  refine z_if_lt (pc := 1) (tgt := 27) X dX9_table_1 (by decide) h (fun h => ?_) (fun h => ?_)
  · exact z_sub [0] rfl (zz9_table_27 X  _ h)
  · refine z_iload_n (pc := 4) X dX9_table_4 rfl 1 rfl ?_
    refine z_iconst (pc := 5) (v := 3) X dX9_table_5 (by decide) ?_
    refine z_icmp_gt (pc := 6) (tgt := 27) X dX9_table_6 (by decide) h (fun h => ?_) (fun h => ?_)
    · exact z_sub [0] rfl (zz9_table_27 X  _ h)
    · refine z_iload_n (pc := 9) X dX9_table_9 rfl 2 rfl ?_
      refine z_callSi (pc := 10) (rm := rm9_isSheet) X [.int _] sX9_14 rfl rfl (Nat.le_of_ble_eq_true rfl) ⟨rfl, rfl, Nat.le_of_ble_eq_true rfl, Nat.le_of_ble_eq_true rfl⟩ dX9_table_10 h (fun _ _ q => cc9_isSheet q) (fun r1 S1 h => ?_)
      refine z_if_eq (pc := 13) (tgt := 27) X dX9_table_13 (by decide) h (fun h => ?_) (fun h => ?_)
      · exact z_sub [0] rfl (zz9_table_27 X  _ h)
      · refine z_iload_n (pc := 16) X dX9_table_16 rfl 3 rfl ?_
        refine z_iconst (pc := 17) (v := 1) X dX9_table_17 (by decide) ?_
        refine z_icmp_lt (pc := 18) (tgt := 27) X dX9_table_18 (by decide) h (fun h => ?_) (fun h => ?_)
        · exact z_sub [0] rfl (zz9_table_27 X  _ h)
        · refine z_iload_n (pc := 21) X dX9_table_21 rfl 3 rfl ?_
          refine z_bipush (pc := 22) (v := 8) X dX9_table_22 (by decide) ?_
          refine z_icmp_le (pc := 24) (tgt := 33) X dX9_table_24 (by decide) h (fun h => ?_) (fun h => ?_)
          · refine z_aload_n (pc := 33) X dX9_table_33 rfl 0 rfl ?_
            refine z_get (pc := 34) (v := .ref (σ 2)) X 0 fX9_25 rfl rfl dX9_table_34 rfl ?_
            refine z_iload_n (pc := 37) X dX9_table_37 rfl 2 rfl ?_
            refine z_iald (pc := 38) X 2 rfl dX9_table_38 h (fun h => ?_)
            refine z_iconst (pc := 39) (v := -1) X dX9_table_39 (by decide) ?_
            refine z_icmp_ne (pc := 40) (tgt := 49) X dX9_table_40 (by decide) h (fun h => ?_) (fun h => ?_)
            · refine z_iload_n (pc := 49) X dX9_table_49 rfl 3 rfl ?_
              refine z_aload_n (pc := 50) X dX9_table_50 rfl 0 rfl ?_
              refine z_get (pc := 51) (v := .ref (σ 2)) X 0 fX9_25 rfl rfl dX9_table_51 rfl ?_
              refine z_iload_n (pc := 54) X dX9_table_54 rfl 2 rfl ?_
              refine z_iald (pc := 55) X 2 rfl dX9_table_55 h (fun h => ?_)
              refine z_icmp_le (pc := 56) (tgt := 65) X dX9_table_56 (by decide) h (fun h => ?_) (fun h => ?_)
              · refine z_lconst (pc := 65) (v := 0) X dX9_table_65 (by decide) ?_
                refine z_lstore (pc := 66) (L' := [(4, .long _), (0, .ref _), (1, .int _), (2, .int _), (3, .int _)]) X dX9_table_66 (by decide) rfl ?_
                refine z_iconst (pc := 68) (v := 0) X dX9_table_68 (by decide) ?_
                refine z_istore (pc := 69) (L' := [(6, .int _), (4, .long _), (0, .ref _), (1, .int _), (2, .int _), (3, .int _)]) X dX9_table_69 (by decide) rfl ?_
                exact z_sub [2, 3, 4, 5, 1, 0] rfl (zz9_table_71 X  fu _ _ _ _ _ _ h)
              · refine z_aload_n (pc := 59) X dX9_table_59 rfl 0 rfl ?_
                refine z_iconst (pc := 60) (v := 3) X dX9_table_60 (by decide) ?_
                refine z_callVi (pc := 61) (rm := rm9_is) X 0 [.int _] vX9_18 rfl rfl rfl (Nat.le_of_ble_eq_true rfl) ⟨rfl, rfl, Nat.le_of_ble_eq_true rfl, Nat.le_of_ble_eq_true rfl⟩ dX9_table_61 h (fun _ _ q => cc9_is q) (fun r2 S2 h => ?_)
                exact z_zret X rfl dX9_table_64 h
            · refine z_aload_n (pc := 43) X dX9_table_43 rfl 0 rfl ?_
              refine z_iconst (pc := 44) (v := 2) X dX9_table_44 (by decide) ?_
              refine z_callVi (pc := 45) (rm := rm9_is) X 0 [.int _] vX9_18 rfl rfl rfl (Nat.le_of_ble_eq_true rfl) ⟨rfl, rfl, Nat.le_of_ble_eq_true rfl, Nat.le_of_ble_eq_true rfl⟩ dX9_table_45 h (fun _ _ q => cc9_is q) (fun r3 S3 h => ?_)
              exact z_zret X rfl dX9_table_48 h
          · exact z_sub [0] rfl (zz9_table_27 X  _ h)
theorem cc9_table {l : Launch} {D : va_G} {cA : Nat → ClassId} {σ : Nat → Nat} {tS : Nat} {S S' : St} {x1 : Int32} {x2 : Int32} {x3 : Int32} {r : Int32} (h : J9_table S x1 x2 x3 = some (r, S')) : zMet l D cA σ shM tS yX9_table cX9_table 9 (some .boolean) rm9_table [.ref (σ 0), .int x1, .int x2, .int x3] S (some (.int r)) S' := z_met [(0, .ref (σ 0)), (1, .int x1), (2, .int x2), (3, .int x3)] (by decide +kernel) (Nat.le_of_ble_eq_true rfl) rfl (fun _ _ _ _ _ _ _ _ X => zz9_table_0 X _ _ _ _ h)
set_option maxRecDepth 100000 in
set_option maxHeartbeats 4000000 in
theorem zz9_takes_10 {S' : St} {r : Int32} (X : zM p s m args meth c D cA σ shM tS RX9 cX9_takes 10 (some .int)) : ∀ (S : St), J9_takes_10 S = some (r, S') → Zj p l e rm9_takes s m args below meth c D cA σ shM 10 (some (.int r)) S' 10 [(0, .ref (σ 0))] [] S := by
  intro S h
  rw [J9_takes_10] at h
  refine z_aload_n (pc := 10) X dX9_takes_10 rfl 0 rfl ?_
  refine z_iconst (pc := 11) (v := 1) X dX9_takes_11 (by decide) ?_
  refine z_callVi (pc := 12) (rm := rm9_refuse) X 0 [.int _] vX9_154 rfl rfl rfl (Nat.le_of_ble_eq_true rfl) ⟨rfl, rfl, Nat.le_of_ble_eq_true rfl, Nat.le_of_ble_eq_true rfl⟩ dX9_takes_12 h (fun _ _ q => cc9_refuse q) (fun r1 S1 h => ?_)
  exact z_iret X rfl dX9_takes_15 h
set_option maxRecDepth 100000 in
set_option maxHeartbeats 4000000 in
theorem zz9_takes_111 {S' : St} {r : Int32} (X : zM p s m args meth c D cA σ shM tS RX9 cX9_takes 10 (some .int)) : ∀ (S : St) (x4 : Int64) (x6 : Int64) (x8 : Int64) (t0 : Int32) (t1 : Int32), J9_takes_111 S x4 x6 x8 t0 t1 = some (r, S') → Zj p l e rm9_takes s m args below meth c D cA σ shM 10 (some (.int r)) S' 111 [(0, .ref (σ 0)), (4, .long x4), (6, .long x6), (8, .long x8)] [.int t0, .int t1, .ref (σ 0)] S := by
  intro S x4 x6 x8 t0 t1 h
  rw [J9_takes_111] at h
  refine z_lload (pc := 111) X dX9_takes_111 1 rfl ?_
  refine z_lload (pc := 113) X dX9_takes_113 2 rfl ?_
  refine z_lload (pc := 115) X dX9_takes_115 3 rfl ?_
  refine z_lload (pc := 117) X dX9_takes_117 1 rfl ?_
  refine z_lsub (pc := 119) X dX9_takes_119 ?_
  refine z_lload (pc := 120) X dX9_takes_120 2 rfl ?_
  refine z_lsub (pc := 122) X dX9_takes_122 ?_
  refine z_callSl (pc := 123) (rm := rm9_nth) X [.int _, .int _, .long _, .long _, .long _] sX9_162 rfl rfl (Nat.le_of_ble_eq_true rfl) ⟨rfl, rfl, Nat.le_of_ble_eq_true rfl, Nat.le_of_ble_eq_true rfl⟩ dX9_takes_123 h (fun _ _ q => cc9_nth q) (fun r1 S1 h => ?_)
  refine z_lload (pc := 126) X dX9_takes_126 3 rfl ?_
  refine z_aload_n (pc := 128) X dX9_takes_128 rfl 0 rfl ?_
  refine z_get (pc := 129) (v := .int _) X 0 fX9_48 rfl rfl dX9_takes_129 rfl ?_
  refine z_callSl (pc := 132) (rm := rm9_power) X [.long _, .int _] sX9_151 rfl rfl (Nat.le_of_ble_eq_true rfl) ⟨rfl, rfl, Nat.le_of_ble_eq_true rfl, Nat.le_of_ble_eq_true rfl⟩ dX9_takes_132 h (fun _ _ q => cc9_power q) (fun r2 S2 h => ?_)
  refine z_callVi (pc := 135) (rm := rm9_tells) X 0 [.long _, .long _] vX9_166 rfl rfl rfl (Nat.le_of_ble_eq_true rfl) ⟨rfl, rfl, Nat.le_of_ble_eq_true rfl, Nat.le_of_ble_eq_true rfl⟩ dX9_takes_135 h (fun _ _ q => cc9_tells q) (fun r3 S3 h => ?_)
  exact z_iret X rfl dX9_takes_138 h
set_option maxRecDepth 100000 in
set_option maxHeartbeats 4000000 in
theorem zz9_takes_32 {S' : St} {r : Int32} (X : zM p s m args meth c D cA σ shM tS RX9 cX9_takes 10 (some .int)) : ∀ (n : Nat) (S : St) (x1 : Int32) (x2 : Int32) (x3 : Int32) (x4 : Int64) (x6 : Int32), J9_takes_32 n S x1 x2 x3 x4 x6 = some (r, S') → Zj p l e rm9_takes s m args below meth c D cA σ shM 10 (some (.int r)) S' 32 [(0, .ref (σ 0)), (1, .int x1), (2, .int x2), (3, .int x3), (4, .long x4), (6, .int x6)] [] S := by
  intro n
  induction n with
  | zero =>
    intro S x1 x2 x3 x4 x6 h
    rw [J9_takes_32] at h
    cases h
  | succ n ih =>
    intro S x1 x2 x3 x4 x6 h
    rw [J9_takes_32] at h
    refine z_iload (pc := 32) X dX9_takes_32 5 rfl ?_
    refine z_iload_n (pc := 34) X dX9_takes_34 rfl 2 rfl ?_
    refine z_icmp_ge (pc := 35) (tgt := 60) X dX9_takes_35 (by decide) h (fun h => ?_) (fun h => ?_)
    · refine z_aload_n (pc := 60) X dX9_takes_60 rfl 0 rfl ?_
      refine z_iload_n (pc := 61) X dX9_takes_61 rfl 3 rfl ?_
      refine z_iload_n (pc := 62) X dX9_takes_62 rfl 3 rfl ?_
      refine z_iconst (pc := 63) (v := 1) X dX9_takes_63 (by decide) ?_
      refine z_iadd (pc := 64) X dX9_takes_64 ?_
      refine z_iload_n (pc := 65) X dX9_takes_65 rfl 2 rfl ?_
      refine z_callVi (pc := 66) (rm := rm9_both) X 0 [.int _, .int _, .int _] vX9_158 rfl rfl rfl (Nat.le_of_ble_eq_true rfl) ⟨rfl, rfl, Nat.le_of_ble_eq_true rfl, Nat.le_of_ble_eq_true rfl⟩ dX9_takes_66 h (fun _ _ q => cc9_both q) (fun r1 S1 h => ?_)
      refine z_i2l (pc := 69) X dX9_takes_69 ?_
      refine z_lstore (pc := 70) (L' := [(6, .long _), (0, .ref _), (1, .int _), (2, .int _), (3, .int _), (4, .long _)]) X dX9_takes_70 (by decide) rfl ?_
      refine z_let h (fun h => ?_)
      refine z_aload_n (pc := 72) X dX9_takes_72 rfl 1 rfl ?_
      refine z_get (pc := 73) (v := .ref (σ 5)) X 0 fX9_63 rfl rfl dX9_takes_73 rfl ?_
      refine z_iload_n (pc := 76) X dX9_takes_76 rfl 4 rfl ?_
      refine z_iald (pc := 77) X 5 rfl dX9_takes_77 h (fun h => ?_)
      refine z_i2l (pc := 78) X dX9_takes_78 ?_
      refine z_aload_n (pc := 79) X dX9_takes_79 rfl 1 rfl ?_
      refine z_get (pc := 80) (v := .ref (σ 5)) X 0 fX9_63 rfl rfl dX9_takes_80 rfl ?_
      refine z_iload_n (pc := 83) X dX9_takes_83 rfl 4 rfl ?_
      refine z_iconst (pc := 84) (v := 1) X dX9_takes_84 (by decide) ?_
      refine z_iadd (pc := 85) X dX9_takes_85 ?_
      refine z_iald (pc := 86) X 5 rfl dX9_takes_86 h (fun h => ?_)
      refine z_i2l (pc := 87) X dX9_takes_87 ?_
      refine z_lmul (pc := 88) X dX9_takes_88 ?_
      refine z_lstore (pc := 89) (L' := [(8, .long _), (6, .long _), (0, .ref _), (1, .int _), (2, .int _), (3, .int _), (4, .long _)]) X dX9_takes_89 (by decide) rfl ?_
      refine z_let h (fun h => ?_)
      refine z_aload_n (pc := 91) X dX9_takes_91 rfl 2 rfl ?_
      refine z_aload_n (pc := 92) X dX9_takes_92 rfl 2 rfl ?_
      refine z_get (pc := 93) (v := .int _) X 0 fX9_48 rfl rfl dX9_takes_93 rfl ?_
      refine z_iload_n (pc := 96) X dX9_takes_96 rfl 3 rfl ?_
      refine z_if_eq (pc := 97) (tgt := 107) X dX9_takes_97 (by decide) h (fun h => ?_) (fun h => ?_)
      · refine z_aload_n (pc := 107) X dX9_takes_107 rfl 2 rfl ?_
        refine z_get (pc := 108) (v := .int _) X 0 fX9_54 rfl rfl dX9_takes_108 rfl ?_
        exact z_sub [2, 6, 1, 0] rfl (zz9_takes_111 X  _ _ _ _ _ _ h)
      · refine z_aload_n (pc := 100) X dX9_takes_100 rfl 2 rfl ?_
        refine z_get (pc := 101) (v := .int _) X 0 fX9_51 rfl rfl dX9_takes_101 rfl ?_
        refine z_goto (pc := 104) (tgt := 111) X dX9_takes_104 (by decide) ?_
        exact z_sub [2, 6, 1, 0] rfl (zz9_takes_111 X  _ _ _ _ _ _ h)
    · refine z_lload (pc := 38) X dX9_takes_38 4 rfl ?_
      refine z_aload_n (pc := 40) X dX9_takes_40 rfl 0 rfl ?_
      refine z_iload_n (pc := 41) X dX9_takes_41 rfl 3 rfl ?_
      refine z_iload_n (pc := 42) X dX9_takes_42 rfl 3 rfl ?_
      refine z_iconst (pc := 43) (v := 1) X dX9_takes_43 (by decide) ?_
      refine z_iadd (pc := 44) X dX9_takes_44 ?_
      refine z_iload (pc := 45) X dX9_takes_45 5 rfl ?_
      refine z_callVi (pc := 47) (rm := rm9_both) X 0 [.int _, .int _, .int _] vX9_158 rfl rfl rfl (Nat.le_of_ble_eq_true rfl) ⟨rfl, rfl, Nat.le_of_ble_eq_true rfl, Nat.le_of_ble_eq_true rfl⟩ dX9_takes_47 h (fun _ _ q => cc9_both q) (fun r4 S4 h => ?_)
      refine z_i2l (pc := 50) X dX9_takes_50 ?_
      refine z_ladd (pc := 51) X dX9_takes_51 ?_
      refine z_lstore (pc := 52) (L' := [(4, .long _), (0, .ref _), (1, .int _), (2, .int _), (3, .int _), (6, .int _)]) X dX9_takes_52 (by decide) rfl ?_
      refine z_let h (fun h => ?_)
      refine z_iinc (pc := 54) (k := 5) (v := 1) (L' := [(6, .int _), (4, .long _), (0, .ref _), (1, .int _), (2, .int _), (3, .int _)]) X dX9_takes_54 rfl (by decide) (by decide) rfl ?_
      refine z_let h (fun h => ?_)
      refine z_goto (pc := 57) (tgt := 32) X dX9_takes_57 (by decide) ?_
      exact z_sub [2, 3, 4, 5, 1, 0] rfl (ih _ _ _ _ _ _ h)
set_option maxRecDepth 100000 in
set_option maxHeartbeats 4000000 in
theorem zz9_takes_25 {S' : St} {r : Int32} (X : zM p s m args meth c D cA σ shM tS RX9 cX9_takes 10 (some .int)) : ∀ (S : St) (x1 : Int32) (x2 : Int32) (t0 : Int32), J9_takes_25 S x1 x2 t0 = some (r, S') → Zj p l e rm9_takes s m args below meth c D cA σ shM 10 (some (.int r)) S' 25 [(0, .ref (σ 0)), (1, .int x1), (2, .int x2)] [.int t0] S := by
  intro S x1 x2 t0 h
  rw [J9_takes_25] at h
  refine z_istore_n (pc := 25) (L' := [(3, .int _), (0, .ref _), (1, .int _), (2, .int _)]) X dX9_takes_25 rfl (by decide) rfl ?_
  refine z_lconst (pc := 26) (v := 0) X dX9_takes_26 (by decide) ?_
  refine z_lstore (pc := 27) (L' := [(4, .long _), (3, .int _), (0, .ref _), (1, .int _), (2, .int _)]) X dX9_takes_27 (by decide) rfl ?_
  refine z_iconst (pc := 29) (v := 0) X dX9_takes_29 (by decide) ?_
  refine z_istore (pc := 30) (L' := [(6, .int _), (4, .long _), (3, .int _), (0, .ref _), (1, .int _), (2, .int _)]) X dX9_takes_30 (by decide) rfl ?_
  exact z_sub [3, 4, 5, 2, 1, 0] rfl (zz9_takes_32 X  fu _ _ _ _ _ _ h)
set_option maxRecDepth 100000 in
set_option maxHeartbeats 4000000 in
theorem zz9_takes_0 {S' : St} {r : Int32} (X : zM p s m args meth c D cA σ shM tS RX9 cX9_takes 10 (some .int)) : ∀ (S : St) (x1 : Int32) (x2 : Int32), J9_takes S x1 x2 = some (r, S') → Zj p l e rm9_takes s m args below meth c D cA σ shM 10 (some (.int r)) S' 0 [(0, .ref (σ 0)), (1, .int x1), (2, .int x2)] [] S := by
  intro S x1 x2 h
  rw [J9_takes] at h
  refine z_iload_n (pc := 0) X dX9_takes_0 rfl 2 rfl ?_
  refine z_if_lt (pc := 1) (tgt := 10) X dX9_takes_1 (by decide) h (fun h => ?_) (fun h => ?_)
  · exact z_sub [0] rfl (zz9_takes_10 X  _ h)
  · refine z_iload_n (pc := 4) X dX9_takes_4 rfl 2 rfl ?_
    refine z_bipush (pc := 5) (v := 15) X dX9_takes_5 (by decide) ?_
    refine z_icmp_lt (pc := 7) (tgt := 16) X dX9_takes_7 (by decide) h (fun h => ?_) (fun h => ?_)
    · refine z_iload_n (pc := 16) X dX9_takes_16 rfl 1 rfl ?_
      refine z_if_eq (pc := 17) (tgt := 24) X dX9_takes_17 (by decide) h (fun h => ?_) (fun h => ?_)
      · refine z_iconst (pc := 24) (v := 2) X dX9_takes_24 (by decide) ?_
        exact z_sub [0, 1, 2] rfl (zz9_takes_25 X  _ _ _ _ h)
      · refine z_iconst (pc := 20) (v := 0) X dX9_takes_20 (by decide) ?_
        refine z_goto (pc := 21) (tgt := 25) X dX9_takes_21 (by decide) ?_
        exact z_sub [0, 1, 2] rfl (zz9_takes_25 X  _ _ _ _ h)
    · exact z_sub [0] rfl (zz9_takes_10 X  _ h)
theorem cc9_takes {l : Launch} {D : va_G} {cA : Nat → ClassId} {σ : Nat → Nat} {tS : Nat} {S S' : St} {x1 : Int32} {x2 : Int32} {r : Int32} (h : J9_takes S x1 x2 = some (r, S')) : zMet l D cA σ shM tS yX9_takes cX9_takes 10 (some .int) rm9_takes [.ref (σ 0), .int x1, .int x2] S (some (.int r)) S' := z_met [(0, .ref (σ 0)), (1, .int x1), (2, .int x2)] (by decide +kernel) (Nat.le_of_ble_eq_true rfl) rfl (fun _ _ _ _ _ _ _ _ X => zz9_takes_0 X _ _ _ h)
set_option maxRecDepth 100000 in
set_option maxHeartbeats 4000000 in
theorem zz9_tell_10 {S' : St} {r : Int32} (X : zM p s m args meth c D cA σ shM tS RX9 cX9_tell 4 (some .int)) : ∀ (S : St), J9_tell_10 S = some (r, S') → Zj p l e rm9_tell s m args below meth c D cA σ shM 4 (some (.int r)) S' 10 [(0, .ref (σ 0))] [] S := by
  intro S h
  rw [J9_tell_10] at h
  refine z_aload_n (pc := 10) X dX9_tell_10 rfl 0 rfl ?_
  refine z_iconst (pc := 11) (v := 1) X dX9_tell_11 (by decide) ?_
  refine z_callVi (pc := 12) (rm := rm9_refuse) X 0 [.int _] vX9_154 rfl rfl rfl (Nat.le_of_ble_eq_true rfl) ⟨rfl, rfl, Nat.le_of_ble_eq_true rfl, Nat.le_of_ble_eq_true rfl⟩ dX9_tell_12 h (fun _ _ q => cc9_refuse q) (fun r1 S1 h => ?_)
  exact z_iret X rfl dX9_tell_15 h
set_option maxRecDepth 100000 in
set_option maxHeartbeats 4000000 in
theorem zz9_tell_140 {S' : St} {r : Int32} (X : zM p s m args meth c D cA σ shM tS RX9 cX9_tell 4 (some .int)) (k108 : St → Int32 → Int32 → Option (Int32 × St)) (hk108 : ∀ (S : St) (x2 : Int32) (x3 : Int32), k108 S x2 x3 = some (r, S') → Zj p l e rm9_tell s m args below meth c D cA σ shM 4 (some (.int r)) S' 108 [(0, .ref (σ 0)), (2, .int x2), (3, .int x3)] [] S) : ∀ (S : St) (x3 : Int32) (t0 : Int32) (t1 : Int32), J9_tell_140 k108 S x3 t0 t1 = some (r, S') → Zj p l e rm9_tell s m args below meth c D cA σ shM 4 (some (.int r)) S' 140 [(0, .ref (σ 0)), (3, .int x3)] [.int t0, .int t1] S := by
  intro S x3 t0 t1 h
  rw [J9_tell_140] at h
  refine z_iadd (pc := 140) X dX9_tell_140 ?_
  refine z_istore_n (pc := 141) (L' := [(2, .int _), (0, .ref _), (3, .int _)]) X dX9_tell_141 rfl (by decide) rfl ?_
  refine z_let h (fun h => ?_)
  refine z_iinc (pc := 142) (k := 2) (v := 1) (L' := [(3, .int _), (2, .int _), (0, .ref _)]) X dX9_tell_142 rfl (by decide) (by decide) rfl ?_
  refine z_let h (fun h => ?_)
  refine z_goto (pc := 145) (tgt := 108) X dX9_tell_145 (by decide) ?_
  exact z_sub [2, 1, 0] rfl (hk108 _ _ _ h)
set_option maxRecDepth 100000 in
set_option maxHeartbeats 4000000 in
theorem zz9_tell_139 {S' : St} {r : Int32} (X : zM p s m args meth c D cA σ shM tS RX9 cX9_tell 4 (some .int)) (k108 : St → Int32 → Int32 → Option (Int32 × St)) (hk108 : ∀ (S : St) (x2 : Int32) (x3 : Int32), k108 S x2 x3 = some (r, S') → Zj p l e rm9_tell s m args below meth c D cA σ shM 4 (some (.int r)) S' 108 [(0, .ref (σ 0)), (2, .int x2), (3, .int x3)] [] S) : ∀ (S : St) (x3 : Int32) (t0 : Int32), J9_tell_139 k108 S x3 t0 = some (r, S') → Zj p l e rm9_tell s m args below meth c D cA σ shM 4 (some (.int r)) S' 139 [(0, .ref (σ 0)), (3, .int x3)] [.int t0] S := by
  intro S x3 t0 h
  rw [J9_tell_139] at h
  refine z_iconst (pc := 139) (v := 0) X dX9_tell_139 (by decide) ?_
  exact z_sub [0, 1] rfl (zz9_tell_140 X _ hk108 _ _ _ _ h)
set_option maxRecDepth 100000 in
set_option maxHeartbeats 4000000 in
theorem zz9_tell_108 {S' : St} {r : Int32} (X : zM p s m args meth c D cA σ shM tS RX9 cX9_tell 4 (some .int)) : ∀ (n : Nat) (S : St) (x2 : Int32) (x3 : Int32), J9_tell_108 n S x2 x3 = some (r, S') → Zj p l e rm9_tell s m args below meth c D cA σ shM 4 (some (.int r)) S' 108 [(0, .ref (σ 0)), (2, .int x2), (3, .int x3)] [] S := by
  intro n
  induction n with
  | zero =>
    intro S x2 x3 h
    rw [J9_tell_108] at h
    cases h
  | succ n ih =>
    intro S x2 x3 h
    rw [J9_tell_108] at h
    refine z_iload_n (pc := 108) X dX9_tell_108 rfl 2 rfl ?_
    refine z_aload_n (pc := 109) X dX9_tell_109 rfl 0 rfl ?_
    refine z_get (pc := 110) (v := .int _) X 0 fX9_239 rfl rfl dX9_tell_110 rfl ?_
    refine z_icmp_ge (pc := 113) (tgt := 148) X dX9_tell_113 (by decide) h (fun h => ?_) (fun h => ?_)
    · refine z_iload_n (pc := 148) X dX9_tell_148 rfl 1 rfl ?_
      exact z_iret X rfl dX9_tell_149 h
    · refine z_iload_n (pc := 116) X dX9_tell_116 rfl 1 rfl ?_
      refine z_aload_n (pc := 117) X dX9_tell_117 rfl 0 rfl ?_
      refine z_get (pc := 118) (v := .ref (σ 27)) X 0 fX9_130 rfl rfl dX9_tell_118 rfl ?_
      refine z_iload_n (pc := 121) X dX9_tell_121 rfl 2 rfl ?_
      refine z_iald (pc := 122) X 27 rfl dX9_tell_122 h (fun h => ?_)
      refine z_iconst (pc := 123) (v := -1) X dX9_tell_123 (by decide) ?_
      refine z_icmp_eq (pc := 124) (tgt := 139) X dX9_tell_124 (by decide) h (fun h => ?_) (fun h => ?_)
      · exact z_sub [0, 2] rfl (zz9_tell_139 X _ ih _ _ _ h)
      · refine z_aload_n (pc := 127) X dX9_tell_127 rfl 0 rfl ?_
        refine z_iload_n (pc := 128) X dX9_tell_128 rfl 2 rfl ?_
        refine z_callVi (pc := 129) (rm := rm9_missed) X 0 [.int _] vX9_289 rfl rfl rfl (Nat.le_of_ble_eq_true rfl) ⟨rfl, rfl, Nat.le_of_ble_eq_true rfl, Nat.le_of_ble_eq_true rfl⟩ dX9_tell_129 h (fun _ _ q => cc9_missed q) (fun r1 S1 h => ?_)
        refine z_if_le (pc := 132) (tgt := 139) X dX9_tell_132 (by decide) h (fun h => ?_) (fun h => ?_)
        · exact z_sub [0, 2] rfl (zz9_tell_139 X _ ih _ _ _ h)
        · refine z_iconst (pc := 135) (v := 1) X dX9_tell_135 (by decide) ?_
          refine z_goto (pc := 136) (tgt := 140) X dX9_tell_136 (by decide) ?_
          exact z_sub [0, 2] rfl (zz9_tell_140 X _ ih _ _ _ _ h)
set_option maxRecDepth 100000 in
set_option maxHeartbeats 4000000 in
theorem zz9_tell_0 {S' : St} {r : Int32} (X : zM p s m args meth c D cA σ shM tS RX9 cX9_tell 4 (some .int)) : ∀ (S : St) (x1 : Int32), J9_tell S x1 = some (r, S') → Zj p l e rm9_tell s m args below meth c D cA σ shM 4 (some (.int r)) S' 0 [(0, .ref (σ 0)), (1, .int x1)] [] S := by
  intro S x1 h
  rw [J9_tell] at h
  refine z_iload_n (pc := 0) X dX9_tell_0 rfl 1 rfl ?_
  refine z_if_lt (pc := 1) (tgt := 10) X dX9_tell_1 (by decide) h (fun h => ?_) (fun h => ?_)
  · exact z_sub [0] rfl (zz9_tell_10 X  _ h)
  · refine z_iload_n (pc := 4) X dX9_tell_4 rfl 1 rfl ?_
    refine z_bipush (pc := 5) (v := 6) X dX9_tell_5 (by decide) ?_
    refine z_icmp_le (pc := 7) (tgt := 16) X dX9_tell_7 (by decide) h (fun h => ?_) (fun h => ?_)
    · refine z_aload_n (pc := 16) X dX9_tell_16 rfl 0 rfl ?_
      refine z_get (pc := 17) (v := .int _) X 0 fX9_208 rfl rfl dX9_tell_17 rfl ?_
      refine z_if_ne (pc := 20) (tgt := 29) X dX9_tell_20 (by decide) h (fun h => ?_) (fun h => ?_)
      · refine z_aload_n (pc := 29) X dX9_tell_29 rfl 0 rfl ?_
        refine z_iconst (pc := 30) (v := 0) X dX9_tell_30 (by decide) ?_
        refine z_putI (pc := 31) X 0 gX9_1 rfl rfl dX9_tell_31 ?_
        refine z_let h (fun h => ?_)
        refine z_iconst (pc := 34) (v := 0) X dX9_tell_34 (by decide) ?_
        refine z_istore_n (pc := 35) (L' := [(2, .int _), (0, .ref _), (1, .int _)]) X dX9_tell_35 rfl (by decide) rfl ?_
        refine z_iload_n (pc := 36) X dX9_tell_36 rfl 2 rfl ?_
        refine z_arm h (fun hx h => ?_) (fun hx0 h => ?_)
        · refine z_tsIn (pc := 37) (tgt := 76) X 0 hx dX9_tell_37 (by decide) (by decide) rfl (by decide) ?_
          refine z_aload_n (pc := 76) X dX9_tell_76 rfl 1 rfl ?_
          refine z_get (pc := 77) (v := .int _) X 0 fX9_224 rfl rfl dX9_tell_77 rfl ?_
          exact z_iret X rfl dX9_tell_80 h
        · skip
          refine z_arm h (fun hx h => ?_) (fun hx1 h => ?_)
          · refine z_tsIn (pc := 37) (tgt := 81) X 1 hx dX9_tell_37 (by decide) (by decide) rfl (by decide) ?_
            refine z_aload_n (pc := 81) X dX9_tell_81 rfl 1 rfl ?_
            refine z_get (pc := 82) (v := .int _) X 0 fX9_236 rfl rfl dX9_tell_82 rfl ?_
            exact z_iret X rfl dX9_tell_85 h
          · skip
            refine z_arm h (fun hx h => ?_) (fun hx2 h => ?_)
            · refine z_tsIn (pc := 37) (tgt := 86) X 2 hx dX9_tell_37 (by decide) (by decide) rfl (by decide) ?_
              refine z_aload_n (pc := 86) X dX9_tell_86 rfl 1 rfl ?_
              refine z_get (pc := 87) (v := .int _) X 0 fX9_239 rfl rfl dX9_tell_87 rfl ?_
              exact z_iret X rfl dX9_tell_90 h
            · skip
              refine z_arm h (fun hx h => ?_) (fun hx3 h => ?_)
              · refine z_tsIn (pc := 37) (tgt := 91) X 3 hx dX9_tell_37 (by decide) (by decide) rfl (by decide) ?_
                refine z_aload_n (pc := 91) X dX9_tell_91 rfl 1 rfl ?_
                refine z_get (pc := 92) (v := .int _) X 0 fX9_242 rfl rfl dX9_tell_92 rfl ?_
                exact z_iret X rfl dX9_tell_95 h
              · skip
                refine z_arm h (fun hx h => ?_) (fun hx4 h => ?_)
                · refine z_tsIn (pc := 37) (tgt := 96) X 4 hx dX9_tell_37 (by decide) (by decide) rfl (by decide) ?_
                  refine z_aload_n (pc := 96) X dX9_tell_96 rfl 1 rfl ?_
                  refine z_get (pc := 97) (v := .int _) X 0 fX9_230 rfl rfl dX9_tell_97 rfl ?_
                  exact z_iret X rfl dX9_tell_100 h
                · skip
                  refine z_arm h (fun hx h => ?_) (fun hx5 h => ?_)
                  · refine z_tsIn (pc := 37) (tgt := 101) X 5 hx dX9_tell_37 (by decide) (by decide) rfl (by decide) ?_
                    refine z_aload_n (pc := 101) X dX9_tell_101 rfl 1 rfl ?_
                    refine z_get (pc := 102) (v := .int _) X 0 fX9_233 rfl rfl dX9_tell_102 rfl ?_
                    exact z_iret X rfl dX9_tell_105 h
                  · skip
                    have hs0 := lv_neT hx0 (a := 0) (by decide)
                    have hs1 := lv_neT hx1 (a := 1) (by decide)
                    have hs2 := lv_neT hx2 (a := 2) (by decide)
                    have hs3 := lv_neT hx3 (a := 3) (by decide)
                    have hs4 := lv_neT hx4 (a := 4) (by decide)
                    have hs5 := lv_neT hx5 (a := 5) (by decide)
                    refine z_tsOut (pc := 37) (tgt := 106) X dX9_tell_37 (by omega) (by decide) ?_
                    refine z_iconst (pc := 106) (v := 0) X dX9_tell_106 (by decide) ?_
                    refine z_istore_n (pc := 107) (L' := [(3, .int _), (2, .int _), (0, .ref _), (1, .int _)]) X dX9_tell_107 rfl (by decide) rfl ?_
                    exact z_sub [2, 1, 0] rfl (zz9_tell_108 X  fu _ _ _ h)
      · refine z_aload_n (pc := 23) X dX9_tell_23 rfl 0 rfl ?_
        refine z_iconst (pc := 24) (v := 4) X dX9_tell_24 (by decide) ?_
        refine z_callVi (pc := 25) (rm := rm9_refuse) X 0 [.int _] vX9_154 rfl rfl rfl (Nat.le_of_ble_eq_true rfl) ⟨rfl, rfl, Nat.le_of_ble_eq_true rfl, Nat.le_of_ble_eq_true rfl⟩ dX9_tell_25 h (fun _ _ q => cc9_refuse q) (fun r2 S2 h => ?_)
        exact z_iret X rfl dX9_tell_28 h
    · exact z_sub [0] rfl (zz9_tell_10 X  _ h)
theorem cc9_tell {l : Launch} {D : va_G} {cA : Nat → ClassId} {σ : Nat → Nat} {tS : Nat} {S S' : St} {x1 : Int32} {r : Int32} (h : J9_tell S x1 = some (r, S')) : zMet l D cA σ shM tS yX9_tell cX9_tell 4 (some .int) rm9_tell [.ref (σ 0), .int x1] S (some (.int r)) S' := z_met [(0, .ref (σ 0)), (1, .int x1)] (by decide +kernel) (Nat.le_of_ble_eq_true rfl) rfl (fun _ _ _ _ _ _ _ _ X => zz9_tell_0 X _ _ h)
set_option maxRecDepth 100000 in
set_option maxHeartbeats 4000000 in
theorem zz9_top_0 {S' : St} {r : Int64} (X : zM p s m args meth c D cA σ shM tS RX9 cX9_top 1 (some .long)) : ∀ (S : St), J9_top S = some (r, S') → Zj p l e rm9_top s m args below meth c D cA σ shM 1 (some (.long r)) S' 0 [(0, .ref (σ 0))] [] S := by
  intro S h
  rw [J9_top] at h
  refine z_aload_n (pc := 0) X dX9_top_0 rfl 0 rfl ?_
  refine z_get (pc := 1) (v := .long _) X 0 fX9_7 rfl rfl dX9_top_1 rfl ?_
  exact z_lret X rfl dX9_top_4 h
theorem cc9_top {l : Launch} {D : va_G} {cA : Nat → ClassId} {σ : Nat → Nat} {tS : Nat} {S S' : St} {r : Int64} (h : J9_top S = some (r, S')) : zMet l D cA σ shM tS yX9_top cX9_top 1 (some .long) rm9_top [.ref (σ 0)] S (some (.long r)) S' := z_met [(0, .ref (σ 0))] (by decide +kernel) (Nat.le_of_ble_eq_true rfl) rfl (fun _ _ _ _ _ _ _ _ X => zz9_top_0 X _ h)
set_option maxRecDepth 100000 in
set_option maxHeartbeats 4000000 in
theorem zz9_up_67 {S' : St} {r : Int32} (X : zM p s m args meth c D cA σ shM tS RX9 cX9_up 5 (some .int)) (k36 : St → Int32 → Int32 → Int32 → Option (Int32 × St)) (hk36 : ∀ (S : St) (x1 : Int32) (x3 : Int32) (x4 : Int32), k36 S x1 x3 x4 = some (r, S') → Zj p l e rm9_up s m args below meth c D cA σ shM 5 (some (.int r)) S' 36 [(0, .ref (σ 0)), (1, .int x1), (3, .int x3), (4, .int x4)] [] S) : ∀ (S : St) (x1 : Int32) (x4 : Int32) (t0 : Int32) (t1 : Int32), J9_up_67 k36 S x1 x4 t0 t1 = some (r, S') → Zj p l e rm9_up s m args below meth c D cA σ shM 5 (some (.int r)) S' 67 [(0, .ref (σ 0)), (1, .int x1), (4, .int x4)] [.int t0, .int t1] S := by
  intro S x1 x4 t0 t1 h
  rw [J9_up_67] at h
  refine z_iadd (pc := 67) X dX9_up_67 ?_
  refine z_istore_n (pc := 68) (L' := [(3, .int _), (0, .ref _), (1, .int _), (4, .int _)]) X dX9_up_68 rfl (by decide) rfl ?_
  refine z_let h (fun h => ?_)
  refine z_iinc (pc := 69) (k := 3) (v := 1) (L' := [(4, .int _), (3, .int _), (0, .ref _), (1, .int _)]) X dX9_up_69 rfl (by decide) (by decide) rfl ?_
  refine z_let h (fun h => ?_)
  refine z_goto (pc := 72) (tgt := 36) X dX9_up_72 (by decide) ?_
  exact z_sub [2, 3, 1, 0] rfl (hk36 _ _ _ _ h)
set_option maxRecDepth 100000 in
set_option maxHeartbeats 4000000 in
theorem zz9_up_122 {S' : St} {r : Int32} (X : zM p s m args meth c D cA σ shM tS RX9 cX9_up 5 (some .int)) (k85 : St → Int32 → Int32 → Int32 → Option (Int32 × St)) (hk85 : ∀ (S : St) (x1 : Int32) (x3 : Int32) (x4 : Int32), k85 S x1 x3 x4 = some (r, S') → Zj p l e rm9_up s m args below meth c D cA σ shM 5 (some (.int r)) S' 85 [(0, .ref (σ 0)), (1, .int x1), (3, .int x3), (4, .int x4)] [] S) : ∀ (S : St) (x1 : Int32) (x4 : Int32) (t0 : Int32) (t1 : Int32), J9_up_122 k85 S x1 x4 t0 t1 = some (r, S') → Zj p l e rm9_up s m args below meth c D cA σ shM 5 (some (.int r)) S' 122 [(0, .ref (σ 0)), (1, .int x1), (4, .int x4)] [.int t0, .int t1] S := by
  intro S x1 x4 t0 t1 h
  rw [J9_up_122] at h
  refine z_iadd (pc := 122) X dX9_up_122 ?_
  refine z_istore_n (pc := 123) (L' := [(3, .int _), (0, .ref _), (1, .int _), (4, .int _)]) X dX9_up_123 rfl (by decide) rfl ?_
  refine z_let h (fun h => ?_)
  refine z_iinc (pc := 124) (k := 3) (v := 1) (L' := [(4, .int _), (3, .int _), (0, .ref _), (1, .int _)]) X dX9_up_124 rfl (by decide) (by decide) rfl ?_
  refine z_let h (fun h => ?_)
  refine z_goto (pc := 127) (tgt := 85) X dX9_up_127 (by decide) ?_
  exact z_sub [2, 3, 1, 0] rfl (hk85 _ _ _ _ h)
set_option maxRecDepth 100000 in
set_option maxHeartbeats 4000000 in
theorem zz9_up_121 {S' : St} {r : Int32} (X : zM p s m args meth c D cA σ shM tS RX9 cX9_up 5 (some .int)) (k85 : St → Int32 → Int32 → Int32 → Option (Int32 × St)) (hk85 : ∀ (S : St) (x1 : Int32) (x3 : Int32) (x4 : Int32), k85 S x1 x3 x4 = some (r, S') → Zj p l e rm9_up s m args below meth c D cA σ shM 5 (some (.int r)) S' 85 [(0, .ref (σ 0)), (1, .int x1), (3, .int x3), (4, .int x4)] [] S) : ∀ (S : St) (x1 : Int32) (x4 : Int32) (t0 : Int32), J9_up_121 k85 S x1 x4 t0 = some (r, S') → Zj p l e rm9_up s m args below meth c D cA σ shM 5 (some (.int r)) S' 121 [(0, .ref (σ 0)), (1, .int x1), (4, .int x4)] [.int t0] S := by
  intro S x1 x4 t0 h
  rw [J9_up_121] at h
  refine z_iconst (pc := 121) (v := 0) X dX9_up_121 (by decide) ?_
  exact z_sub [0, 1, 2] rfl (zz9_up_122 X _ hk85 _ _ _ _ _ h)
set_option maxRecDepth 100000 in
set_option maxHeartbeats 4000000 in
theorem zz9_up_85 {S' : St} {r : Int32} (X : zM p s m args meth c D cA σ shM tS RX9 cX9_up 5 (some .int)) : ∀ (n : Nat) (S : St) (x1 : Int32) (x3 : Int32) (x4 : Int32), J9_up_85 n S x1 x3 x4 = some (r, S') → Zj p l e rm9_up s m args below meth c D cA σ shM 5 (some (.int r)) S' 85 [(0, .ref (σ 0)), (1, .int x1), (3, .int x3), (4, .int x4)] [] S := by
  intro n
  induction n with
  | zero =>
    intro S x1 x3 x4 h
    rw [J9_up_85] at h
    cases h
  | succ n ih =>
    intro S x1 x3 x4 h
    rw [J9_up_85] at h
    refine z_iload (pc := 85) X dX9_up_85 3 rfl ?_
    refine z_aload_n (pc := 87) X dX9_up_87 rfl 0 rfl ?_
    refine z_get (pc := 88) (v := .int _) X 0 fX9_215 rfl rfl dX9_up_88 rfl ?_
    refine z_icmp_ge (pc := 91) (tgt := 130) X dX9_up_91 (by decide) h (fun h => ?_) (fun h => ?_)
    · refine z_aload_n (pc := 130) X dX9_up_130 rfl 0 rfl ?_
      refine z_iconst (pc := 131) (v := 0) X dX9_up_131 (by decide) ?_
      refine z_putI (pc := 132) X 0 gX9_1 rfl rfl dX9_up_132 ?_
      refine z_let h (fun h => ?_)
      refine z_iload_n (pc := 135) X dX9_up_135 rfl 2 rfl ?_
      exact z_iret X rfl dX9_up_136 h
    · refine z_iload_n (pc := 94) X dX9_up_94 rfl 2 rfl ?_
      refine z_aload_n (pc := 95) X dX9_up_95 rfl 0 rfl ?_
      refine z_get (pc := 96) (v := .ref (σ 12)) X 0 fX9_84 rfl rfl dX9_up_96 rfl ?_
      refine z_iload (pc := 99) X dX9_up_99 3 rfl ?_
      refine z_zald (pc := 101) X 12 rfl dX9_up_101 h (fun h => ?_)
      refine z_if_eq (pc := 102) (tgt := 121) X dX9_up_102 (by decide) h (fun h => ?_) (fun h => ?_)
      · exact z_sub [0, 1, 3] rfl (zz9_up_121 X _ ih _ _ _ _ h)
      · refine z_iload (pc := 105) X dX9_up_105 3 rfl ?_
        refine z_iload_n (pc := 107) X dX9_up_107 rfl 1 rfl ?_
        refine z_icmp_eq (pc := 108) (tgt := 121) X dX9_up_108 (by decide) h (fun h => ?_) (fun h => ?_)
        · exact z_sub [0, 1, 3] rfl (zz9_up_121 X _ ih _ _ _ _ h)
        · refine z_aload_n (pc := 111) X dX9_up_111 rfl 0 rfl ?_
          refine z_iload_n (pc := 112) X dX9_up_112 rfl 1 rfl ?_
          refine z_iload (pc := 113) X dX9_up_113 3 rfl ?_
          refine z_callVi (pc := 115) (rm := rm9_gives) X 0 [.int _, .int _] vX9_286 rfl rfl rfl (Nat.le_of_ble_eq_true rfl) ⟨rfl, rfl, Nat.le_of_ble_eq_true rfl, Nat.le_of_ble_eq_true rfl⟩ dX9_up_115 h (fun _ _ q => cc9_gives q) (fun r2 S2 h => ?_)
          refine z_goto (pc := 118) (tgt := 122) X dX9_up_118 (by decide) ?_
          exact z_sub [0, 1, 3] rfl (zz9_up_122 X _ ih _ _ _ _ _ h)
set_option maxRecDepth 100000 in
set_option maxHeartbeats 4000000 in
theorem zz9_up_36 {S' : St} {r : Int32} (X : zM p s m args meth c D cA σ shM tS RX9 cX9_up 5 (some .int)) : ∀ (n : Nat) (S : St) (x1 : Int32) (x3 : Int32) (x4 : Int32), J9_up_36 n S x1 x3 x4 = some (r, S') → Zj p l e rm9_up s m args below meth c D cA σ shM 5 (some (.int r)) S' 36 [(0, .ref (σ 0)), (1, .int x1), (3, .int x3), (4, .int x4)] [] S := by
  intro n
  induction n with
  | zero =>
    intro S x1 x3 x4 h
    rw [J9_up_36] at h
    cases h
  | succ n ih =>
    intro S x1 x3 x4 h
    rw [J9_up_36] at h
    refine z_iload (pc := 36) X dX9_up_36 3 rfl ?_
    refine z_aload_n (pc := 38) X dX9_up_38 rfl 0 rfl ?_
    refine z_get (pc := 39) (v := .int _) X 0 fX9_215 rfl rfl dX9_up_39 rfl ?_
    refine z_icmp_ge (pc := 42) (tgt := 75) X dX9_up_42 (by decide) h (fun h => ?_) (fun h => ?_)
    · refine z_aload_n (pc := 75) X dX9_up_75 rfl 0 rfl ?_
      refine z_get (pc := 76) (v := .ref (σ 12)) X 0 fX9_84 rfl rfl dX9_up_76 rfl ?_
      refine z_iload_n (pc := 79) X dX9_up_79 rfl 1 rfl ?_
      refine z_iconst (pc := 80) (v := 1) X dX9_up_80 (by decide) ?_
      refine z_zast (pc := 81) X 12 rfl dX9_up_81 h (fun h => ?_)
      refine z_let h (fun h => ?_)
      refine z_iconst (pc := 82) (v := 0) X dX9_up_82 (by decide) ?_
      refine z_istore (pc := 83) (L' := [(4, .int _), (0, .ref _), (1, .int _), (3, .int _)]) X dX9_up_83 (by decide) rfl ?_
      exact z_sub [1, 2, 3, 0] rfl (zz9_up_85 X  fu _ _ _ _ h)
    · refine z_iload_n (pc := 45) X dX9_up_45 rfl 2 rfl ?_
      refine z_aload_n (pc := 46) X dX9_up_46 rfl 0 rfl ?_
      refine z_get (pc := 47) (v := .ref (σ 12)) X 0 fX9_84 rfl rfl dX9_up_47 rfl ?_
      refine z_iload (pc := 50) X dX9_up_50 3 rfl ?_
      refine z_zald (pc := 52) X 12 rfl dX9_up_52 h (fun h => ?_)
      refine z_if_eq (pc := 53) (tgt := 66) X dX9_up_53 (by decide) h (fun h => ?_) (fun h => ?_)
      · refine z_iconst (pc := 66) (v := 0) X dX9_up_66 (by decide) ?_
        exact z_sub [0, 1, 3] rfl (zz9_up_67 X _ ih _ _ _ _ _ h)
      · refine z_aload_n (pc := 56) X dX9_up_56 rfl 0 rfl ?_
        refine z_iload (pc := 57) X dX9_up_57 3 rfl ?_
        refine z_iload_n (pc := 59) X dX9_up_59 rfl 1 rfl ?_
        refine z_callVi (pc := 60) (rm := rm9_gives) X 0 [.int _, .int _] vX9_286 rfl rfl rfl (Nat.le_of_ble_eq_true rfl) ⟨rfl, rfl, Nat.le_of_ble_eq_true rfl, Nat.le_of_ble_eq_true rfl⟩ dX9_up_60 h (fun _ _ q => cc9_gives q) (fun r2 S2 h => ?_)
        refine z_goto (pc := 63) (tgt := 67) X dX9_up_63 (by decide) ?_
        exact z_sub [0, 1, 3] rfl (zz9_up_67 X _ ih _ _ _ _ _ h)
set_option maxRecDepth 100000 in
set_option maxHeartbeats 4000000 in
theorem zz9_up_21 {S' : St} {r : Int32} (X : zM p s m args meth c D cA σ shM tS RX9 cX9_up 5 (some .int)) : ∀ (S : St) (x1 : Int32) (x2 : Int32), J9_up_21 S x1 x2 = some (r, S') → Zj p l e rm9_up s m args below meth c D cA σ shM 5 (some (.int r)) S' 21 [(0, .ref (σ 0)), (1, .int x1), (2, .int x2)] [] S := by
  intro S x1 x2 h
  rw [J9_up_21] at h
  refine z_iload_n (pc := 21) X dX9_up_21 rfl 2 rfl ?_
  refine z_if_le (pc := 22) (tgt := 31) X dX9_up_22 (by decide) h (fun h => ?_) (fun h => ?_)
  · refine z_iconst (pc := 31) (v := 0) X dX9_up_31 (by decide) ?_
    refine z_istore_n (pc := 32) (L' := [(3, .int _), (0, .ref _), (1, .int _), (2, .int _)]) X dX9_up_32 rfl (by decide) rfl ?_
    refine z_iconst (pc := 33) (v := 0) X dX9_up_33 (by decide) ?_
    refine z_istore (pc := 34) (L' := [(4, .int _), (3, .int _), (0, .ref _), (1, .int _), (2, .int _)]) X dX9_up_34 (by decide) rfl ?_
    exact z_sub [2, 3, 1, 0] rfl (zz9_up_36 X  fu _ _ _ _ h)
  · refine z_aload_n (pc := 25) X dX9_up_25 rfl 0 rfl ?_
    refine z_iload_n (pc := 26) X dX9_up_26 rfl 2 rfl ?_
    refine z_callVi (pc := 27) (rm := rm9_refuse) X 0 [.int _] vX9_154 rfl rfl rfl (Nat.le_of_ble_eq_true rfl) ⟨rfl, rfl, Nat.le_of_ble_eq_true rfl, Nat.le_of_ble_eq_true rfl⟩ dX9_up_27 h (fun _ _ q => cc9_refuse q) (fun r1 S1 h => ?_)
    exact z_iret X rfl dX9_up_30 h
set_option maxRecDepth 100000 in
set_option maxHeartbeats 4000000 in
theorem zz9_up_0 {S' : St} {r : Int32} (X : zM p s m args meth c D cA σ shM tS RX9 cX9_up 5 (some .int)) : ∀ (S : St) (x1 : Int32), J9_up S x1 = some (r, S') → Zj p l e rm9_up s m args below meth c D cA σ shM 5 (some (.int r)) S' 0 [(0, .ref (σ 0)), (1, .int x1)] [] S := by
  intro S x1 h
  rw [J9_up] at h
  refine z_aload_n (pc := 0) X dX9_up_0 rfl 0 rfl ?_
  refine z_iload_n (pc := 1) X dX9_up_1 rfl 1 rfl ?_
  refine z_callVi (pc := 2) (rm := rm9_wrongCopy) X 0 [.int _] vX9_283 rfl rfl rfl (Nat.le_of_ble_eq_true rfl) ⟨rfl, rfl, Nat.le_of_ble_eq_true rfl, Nat.le_of_ble_eq_true rfl⟩ dX9_up_2 h (fun _ _ q => cc9_wrongCopy q) (fun r1 S1 h => ?_)
  refine z_istore_n (pc := 5) (L' := [(2, .int _), (0, .ref _), (1, .int _)]) X dX9_up_5 rfl (by decide) rfl ?_
  refine z_iload_n (pc := 6) X dX9_up_6 rfl 0 rfl ?_
  refine z_if_ne (pc := 7) (tgt := 21) X dX9_up_7 (by decide) h (fun h => ?_) (fun h => ?_)
  · exact z_sub [1, 2, 0] rfl (zz9_up_21 X  _ _ _ h)
  · refine z_aload_n (pc := 10) X dX9_up_10 rfl 1 rfl ?_
    refine z_get (pc := 11) (v := .ref (σ 12)) X 0 fX9_84 rfl rfl dX9_up_11 rfl ?_
    refine z_iload_n (pc := 14) X dX9_up_14 rfl 2 rfl ?_
    refine z_zald (pc := 15) X 12 rfl dX9_up_15 h (fun h => ?_)
    refine z_if_eq (pc := 16) (tgt := 21) X dX9_up_16 (by decide) h (fun h => ?_) (fun h => ?_)
    · exact z_sub [1, 2, 0] rfl (zz9_up_21 X  _ _ _ h)
    · refine z_iconst (pc := 19) (v := 5) X dX9_up_19 (by decide) ?_
      refine z_istore_n (pc := 20) (L' := [(2, .int _), (0, .ref _), (1, .int _)]) X dX9_up_20 rfl (by decide) rfl ?_
      exact z_sub [1, 2, 0] rfl (zz9_up_21 X  _ _ _ h)
theorem cc9_up {l : Launch} {D : va_G} {cA : Nat → ClassId} {σ : Nat → Nat} {tS : Nat} {S S' : St} {x1 : Int32} {r : Int32} (h : J9_up S x1 = some (r, S')) : zMet l D cA σ shM tS yX9_up cX9_up 5 (some .int) rm9_up [.ref (σ 0), .int x1] S (some (.int r)) S' := z_met [(0, .ref (σ 0)), (1, .int x1)] (by decide +kernel) (Nat.le_of_ble_eq_true rfl) rfl (fun _ _ _ _ _ _ _ _ X => zz9_up_0 X _ _ h)
set_option maxRecDepth 100000 in
set_option maxHeartbeats 4000000 in
theorem zz9_write_34 {S' : St} {r : Int32} (X : zM p s m args meth c D cA σ shM tS RX9 cX9_write 6 (some .boolean)) : ∀ (S : St) (x5 : Int32), J9_write_34 S x5 = some (r, S') → Zj p l e rm9_write s m args below meth c D cA σ shM 6 (some (.int r)) S' 34 [(0, .ref (σ 0)), (5, .int x5)] [] S := by
  intro S x5 h
  rw [J9_write_34] at h
  refine z_aload_n (pc := 34) X dX9_write_34 rfl 0 rfl ?_
  refine z_iload (pc := 35) X dX9_write_35 1 rfl ?_
  refine z_callVi (pc := 37) (rm := rm9_is) X 0 [.int _] vX9_18 rfl rfl rfl (Nat.le_of_ble_eq_true rfl) ⟨rfl, rfl, Nat.le_of_ble_eq_true rfl, Nat.le_of_ble_eq_true rfl⟩ dX9_write_37 h (fun _ _ q => cc9_is q) (fun r1 S1 h => ?_)
  exact z_zret X rfl dX9_write_40 h
set_option maxRecDepth 100000 in
set_option maxHeartbeats 4000000 in
theorem zz9_write_0 {S' : St} {r : Int32} (X : zM p s m args meth c D cA σ shM tS RX9 cX9_write 6 (some .boolean)) : ∀ (S : St) (x1 : Int32) (x2 : Int32) (x3 : Int64), J9_write S x1 x2 x3 = some (r, S') → Zj p l e rm9_write s m args below meth c D cA σ shM 6 (some (.int r)) S' 0 [(0, .ref (σ 0)), (1, .int x1), (2, .int x2), (3, .long x3)] [] S := by
  intro S x1 x2 x3 h
  rw [J9_write] at h
  refine z_aload_n (pc := 0) X dX9_write_0 rfl 0 rfl ?_
  refine z_iload_n (pc := 1) X dX9_write_1 rfl 1 rfl ?_
  refine z_iload_n (pc := 2) X dX9_write_2 rfl 2 rfl ?_
  refine z_callVi (pc := 3) (rm := rm9_wrong) X 0 [.int _, .int _] vX9_32 rfl rfl rfl (Nat.le_of_ble_eq_true rfl) ⟨rfl, rfl, Nat.le_of_ble_eq_true rfl, Nat.le_of_ble_eq_true rfl⟩ dX9_write_3 h (fun _ _ q => cc9_wrong q) (fun r1 S1 h => ?_)
  refine z_istore (pc := 6) (L' := [(5, .int _), (0, .ref _), (1, .int _), (2, .int _), (3, .long _)]) X dX9_write_6 (by decide) rfl ?_
  refine z_iload (pc := 8) X dX9_write_8 0 rfl ?_
  refine z_if_ne (pc := 10) (tgt := 34) X dX9_write_10 (by decide) h (fun h => ?_) (fun h => ?_)
  · exact z_sub [1, 0] rfl (zz9_write_34 X  _ _ h)
  · refine z_aload_n (pc := 13) X dX9_write_13 rfl 1 rfl ?_
    refine z_get (pc := 14) (v := .ref (σ 3)) X 0 fX9_28 rfl rfl dX9_write_14 rfl ?_
    refine z_bipush (pc := 17) (v := 16) X dX9_write_17 (by decide) ?_
    refine z_iload_n (pc := 19) X dX9_write_19 rfl 2 rfl ?_
    refine z_imul (pc := 20) X dX9_write_20 ?_
    refine z_iload_n (pc := 21) X dX9_write_21 rfl 3 rfl ?_
    refine z_iadd (pc := 22) X dX9_write_22 ?_
    refine z_lload_n (pc := 23) X dX9_write_23 rfl 4 rfl ?_
    refine z_aload_n (pc := 24) X dX9_write_24 rfl 1 rfl ?_
    refine z_get (pc := 25) (v := .ref (σ 1)) X 0 fX9_21 rfl rfl dX9_write_25 rfl ?_
    refine z_iload_n (pc := 28) X dX9_write_28 rfl 2 rfl ?_
    refine z_iald (pc := 29) X 1 rfl dX9_write_29 h (fun h => ?_)
    refine z_callSl (pc := 30) (rm := rm9_cut) X [.long _, .int _] sX9_36 rfl rfl (Nat.le_of_ble_eq_true rfl) ⟨rfl, rfl, Nat.le_of_ble_eq_true rfl, Nat.le_of_ble_eq_true rfl⟩ dX9_write_30 h (fun _ _ q => cc9_cut q) (fun r2 S2 h => ?_)
    refine z_last (pc := 33) X 3 rfl dX9_write_33 h (fun h => ?_)
    refine z_let h (fun h => ?_)
    exact z_sub [1, 0] rfl (zz9_write_34 X  _ _ h)
theorem cc9_write {l : Launch} {D : va_G} {cA : Nat → ClassId} {σ : Nat → Nat} {tS : Nat} {S S' : St} {x1 : Int32} {x2 : Int32} {x3 : Int64} {r : Int32} (h : J9_write S x1 x2 x3 = some (r, S')) : zMet l D cA σ shM tS yX9_write cX9_write 6 (some .boolean) rm9_write [.ref (σ 0), .int x1, .int x2, .long x3] S (some (.int r)) S' := z_met [(0, .ref (σ 0)), (1, .int x1), (2, .int x2), (3, .long x3)] (by decide +kernel) (Nat.le_of_ble_eq_true rfl) rfl (fun _ _ _ _ _ _ _ _ X => zz9_write_0 X _ _ _ _ h)
set_option maxRecDepth 100000 in
set_option maxHeartbeats 4000000 in
theorem zz9_writes_64 {S' : St} {r : Int32} (X : zM p s m args meth c D cA σ shM tS RX9 cX9_writes 4 (some .int)) : ∀ (n : Nat) (S : St) (x1 : Int32) (x3 : Int32), J9_writes_64 n S x1 x3 = some (r, S') → Zj p l e rm9_writes s m args below meth c D cA σ shM 4 (some (.int r)) S' 64 [(0, .ref (σ 0)), (1, .int x1), (3, .int x3)] [] S := by
  intro n
  induction n with
  | zero =>
    intro S x1 x3 h
    rw [J9_writes_64] at h
    cases h
  | succ n ih =>
    intro S x1 x3 h
    rw [J9_writes_64] at h
    refine z_iload_n (pc := 64) X dX9_writes_64 rfl 2 rfl ?_
    refine z_aload_n (pc := 65) X dX9_writes_65 rfl 0 rfl ?_
    refine z_get (pc := 66) (v := .int _) X 0 fX9_215 rfl rfl dX9_writes_66 rfl ?_
    refine z_icmp_ge (pc := 69) (tgt := 109) X dX9_writes_69 (by decide) h (fun h => ?_) (fun h => ?_)
    · refine z_aload_n (pc := 109) X dX9_writes_109 rfl 0 rfl ?_
      refine z_callVv (pc := 110) (rm := rm9_workOff) X 0 [] vX9_260 rfl rfl rfl (Nat.le_of_ble_eq_true rfl) ⟨rfl, rfl, Nat.le_of_ble_eq_true rfl, Nat.le_of_ble_eq_true rfl⟩ dX9_writes_110 h (fun _ _ q => cc9_workOff q) (fun _ S1 h => ?_)
      refine z_aload_n (pc := 113) X dX9_writes_113 rfl 0 rfl ?_
      refine z_iconst (pc := 114) (v := 0) X dX9_writes_114 (by decide) ?_
      refine z_putI (pc := 115) X 0 gX9_1 rfl rfl dX9_writes_115 ?_
      refine z_let h (fun h => ?_)
      refine z_aload_n (pc := 118) X dX9_writes_118 rfl 0 rfl ?_
      refine z_get (pc := 119) (v := .int _) X 0 fX9_236 rfl rfl dX9_writes_119 rfl ?_
      exact z_iret X rfl dX9_writes_122 h
    · refine z_aload_n (pc := 72) X dX9_writes_72 rfl 0 rfl ?_
      refine z_aload_n (pc := 73) X dX9_writes_73 rfl 0 rfl ?_
      refine z_iload_n (pc := 74) X dX9_writes_74 rfl 1 rfl ?_
      refine z_iload_n (pc := 75) X dX9_writes_75 rfl 2 rfl ?_
      refine z_callVi (pc := 76) (rm := rm9_delay) X 0 [.int _, .int _] vX9_253 rfl rfl rfl (Nat.le_of_ble_eq_true rfl) ⟨rfl, rfl, Nat.le_of_ble_eq_true rfl, Nat.le_of_ble_eq_true rfl⟩ dX9_writes_76 h (fun _ _ q => cc9_delay q) (fun r3 S3 h => ?_)
      refine z_iconst (pc := 79) (v := 0) X dX9_writes_79 (by decide) ?_
      refine z_aload_n (pc := 80) X dX9_writes_80 rfl 0 rfl ?_
      refine z_get (pc := 81) (v := .int _) X 0 fX9_236 rfl rfl dX9_writes_81 rfl ?_
      refine z_iload_n (pc := 84) X dX9_writes_84 rfl 2 rfl ?_
      refine z_aload_n (pc := 85) X dX9_writes_85 rfl 0 rfl ?_
      refine z_get (pc := 86) (v := .int _) X 0 fX9_236 rfl rfl dX9_writes_86 rfl ?_
      refine z_aload_n (pc := 89) X dX9_writes_89 rfl 0 rfl ?_
      refine z_iload_n (pc := 90) X dX9_writes_90 rfl 1 rfl ?_
      refine z_aload_n (pc := 91) X dX9_writes_91 rfl 0 rfl ?_
      refine z_get (pc := 92) (v := .int _) X 0 fX9_215 rfl rfl dX9_writes_92 rfl ?_
      refine z_iload_n (pc := 95) X dX9_writes_95 rfl 2 rfl ?_
      refine z_iadd (pc := 96) X dX9_writes_96 ?_
      refine z_callVi (pc := 97) (rm := rm9_delay) X 0 [.int _, .int _] vX9_253 rfl rfl rfl (Nat.le_of_ble_eq_true rfl) ⟨rfl, rfl, Nat.le_of_ble_eq_true rfl, Nat.le_of_ble_eq_true rfl⟩ dX9_writes_97 h (fun _ _ q => cc9_delay q) (fun r4 S4 h => ?_)
      refine z_callVv (pc := 100) (rm := rm9_send) X 0 [.int _, .int _, .int _, .int _, .int _, .int _] vX9_256 rfl rfl rfl (Nat.le_of_ble_eq_true rfl) ⟨rfl, rfl, Nat.le_of_ble_eq_true rfl, Nat.le_of_ble_eq_true rfl⟩ dX9_writes_100 h (fun _ _ q => cc9_send q) (fun _ S5 h => ?_)
      refine z_iinc (pc := 103) (k := 2) (v := 1) (L' := [(3, .int _), (0, .ref _), (1, .int _)]) X dX9_writes_103 rfl (by decide) (by decide) rfl ?_
      refine z_let h (fun h => ?_)
      refine z_goto (pc := 106) (tgt := 64) X dX9_writes_106 (by decide) ?_
      exact z_sub [1, 2, 0] rfl (ih _ _ _ h)
set_option maxRecDepth 100000 in
set_option maxHeartbeats 4000000 in
theorem zz9_writes_22 {S' : St} {r : Int32} (X : zM p s m args meth c D cA σ shM tS RX9 cX9_writes 4 (some .int)) : ∀ (S : St) (x1 : Int32) (x2 : Int32), J9_writes_22 S x1 x2 = some (r, S') → Zj p l e rm9_writes s m args below meth c D cA σ shM 4 (some (.int r)) S' 22 [(0, .ref (σ 0)), (1, .int x1), (2, .int x2)] [] S := by
  intro S x1 x2 h
  rw [J9_writes_22] at h
  refine z_iload_n (pc := 22) X dX9_writes_22 rfl 2 rfl ?_
  refine z_if_le (pc := 23) (tgt := 32) X dX9_writes_23 (by decide) h (fun h => ?_) (fun h => ?_)
  · refine z_aload_n (pc := 32) X dX9_writes_32 rfl 0 rfl ?_
    refine z_dup (pc := 33) X dX9_writes_33 rfl ?_
    refine z_get (pc := 34) (v := .int _) X 0 fX9_236 rfl rfl dX9_writes_34 rfl ?_
    refine z_iconst (pc := 37) (v := 1) X dX9_writes_37 (by decide) ?_
    refine z_iadd (pc := 38) X dX9_writes_38 ?_
    refine z_putI (pc := 39) X 0 gX9_236 rfl rfl dX9_writes_39 ?_
    refine z_let h (fun h => ?_)
    refine z_aload_n (pc := 42) X dX9_writes_42 rfl 0 rfl ?_
    refine z_get (pc := 43) (v := .ref (σ 22)) X 0 fX9_115 rfl rfl dX9_writes_43 rfl ?_
    refine z_aload_n (pc := 46) X dX9_writes_46 rfl 0 rfl ?_
    refine z_get (pc := 47) (v := .int _) X 0 fX9_236 rfl rfl dX9_writes_47 rfl ?_
    refine z_iconst (pc := 50) (v := 0) X dX9_writes_50 (by decide) ?_
    refine z_iast (pc := 51) X 22 rfl dX9_writes_51 h (fun h => ?_)
    refine z_let h (fun h => ?_)
    refine z_aload_n (pc := 52) X dX9_writes_52 rfl 0 rfl ?_
    refine z_get (pc := 53) (v := .ref (σ 23)) X 0 fX9_118 rfl rfl dX9_writes_53 rfl ?_
    refine z_aload_n (pc := 56) X dX9_writes_56 rfl 0 rfl ?_
    refine z_get (pc := 57) (v := .int _) X 0 fX9_236 rfl rfl dX9_writes_57 rfl ?_
    refine z_iconst (pc := 60) (v := -1) X dX9_writes_60 (by decide) ?_
    refine z_iast (pc := 61) X 23 rfl dX9_writes_61 h (fun h => ?_)
    refine z_let h (fun h => ?_)
    refine z_iconst (pc := 62) (v := 0) X dX9_writes_62 (by decide) ?_
    refine z_istore_n (pc := 63) (L' := [(3, .int _), (0, .ref _), (1, .int _), (2, .int _)]) X dX9_writes_63 rfl (by decide) rfl ?_
    exact z_sub [1, 2, 0] rfl (zz9_writes_64 X  fu _ _ _ h)
  · refine z_aload_n (pc := 26) X dX9_writes_26 rfl 0 rfl ?_
    refine z_iload_n (pc := 27) X dX9_writes_27 rfl 2 rfl ?_
    refine z_callVi (pc := 28) (rm := rm9_refuse) X 0 [.int _] vX9_154 rfl rfl rfl (Nat.le_of_ble_eq_true rfl) ⟨rfl, rfl, Nat.le_of_ble_eq_true rfl, Nat.le_of_ble_eq_true rfl⟩ dX9_writes_28 h (fun _ _ q => cc9_refuse q) (fun r4 S4 h => ?_)
    exact z_iret X rfl dX9_writes_31 h
set_option maxRecDepth 100000 in
set_option maxHeartbeats 4000000 in
theorem zz9_writes_0 {S' : St} {r : Int32} (X : zM p s m args meth c D cA σ shM tS RX9 cX9_writes 4 (some .int)) : ∀ (S : St) (x1 : Int32), J9_writes S x1 = some (r, S') → Zj p l e rm9_writes s m args below meth c D cA σ shM 4 (some (.int r)) S' 0 [(0, .ref (σ 0)), (1, .int x1)] [] S := by
  intro S x1 h
  rw [J9_writes] at h
  refine z_aload_n (pc := 0) X dX9_writes_0 rfl 0 rfl ?_
  refine z_iload_n (pc := 1) X dX9_writes_1 rfl 1 rfl ?_
  refine z_callVi (pc := 2) (rm := rm9_wrongDelays) X 0 [.int _] vX9_250 rfl rfl rfl (Nat.le_of_ble_eq_true rfl) ⟨rfl, rfl, Nat.le_of_ble_eq_true rfl, Nat.le_of_ble_eq_true rfl⟩ dX9_writes_2 h (fun _ _ q => cc9_wrongDelays q) (fun r1 S1 h => ?_)
  refine z_istore_n (pc := 5) (L' := [(2, .int _), (0, .ref _), (1, .int _)]) X dX9_writes_5 rfl (by decide) rfl ?_
  refine z_iload_n (pc := 6) X dX9_writes_6 rfl 0 rfl ?_
  refine z_if_ne (pc := 7) (tgt := 22) X dX9_writes_7 (by decide) h (fun h => ?_) (fun h => ?_)
  · exact z_sub [1, 2, 0] rfl (zz9_writes_22 X  _ _ _ h)
  · refine z_aload_n (pc := 10) X dX9_writes_10 rfl 1 rfl ?_
    refine z_get (pc := 11) (v := .int _) X 0 fX9_236 rfl rfl dX9_writes_11 rfl ?_
    refine z_bipush (pc := 14) (v := 40) X dX9_writes_14 (by decide) ?_
    refine z_icmp_ne (pc := 16) (tgt := 22) X dX9_writes_16 (by decide) h (fun h => ?_) (fun h => ?_)
    · exact z_sub [1, 2, 0] rfl (zz9_writes_22 X  _ _ _ h)
    · refine z_bipush (pc := 19) (v := 6) X dX9_writes_19 (by decide) ?_
      refine z_istore_n (pc := 21) (L' := [(2, .int _), (0, .ref _), (1, .int _)]) X dX9_writes_21 rfl (by decide) rfl ?_
      exact z_sub [1, 2, 0] rfl (zz9_writes_22 X  _ _ _ h)
theorem cc9_writes {l : Launch} {D : va_G} {cA : Nat → ClassId} {σ : Nat → Nat} {tS : Nat} {S S' : St} {x1 : Int32} {r : Int32} (h : J9_writes S x1 = some (r, S')) : zMet l D cA σ shM tS yX9_writes cX9_writes 4 (some .int) rm9_writes [.ref (σ 0), .int x1] S (some (.int r)) S' := z_met [(0, .ref (σ 0)), (1, .int x1)] (by decide +kernel) (Nat.le_of_ble_eq_true rfl) rfl (fun _ _ _ _ _ _ _ _ X => zz9_writes_0 X _ _ h)
end ZZ
