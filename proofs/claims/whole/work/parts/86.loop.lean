/-! THE LAW: its loop -/
section LC
variable {p : Program} {l : Launch} {e : Env} {s : State} {m : MethodId} {below : List Frame} {meth : Method} {c : Code} {D : va_G} {cA : Nat → ClassId} {σ1 σ2 : Nat → Nat} {tS b Ls : Nat} {xs : Nat → Int32}
theorem law_next (X : lX p s m meth c D cA σ1 σ2 tS b Ls xs) {SC SM : St} {kk : Nat} (K : Lj p l e s m below meth c D cA σ1 σ2 b 18 [(0, .ref b), (1, .ref (σ1 0)), (2, .ref (σ2 0)), (3, .int (nI (10 * (kk + 1))))] [] SC SM) : Lj p l e s m below meth c D cA σ1 σ2 b 1159 [(0, .ref b), (1, .ref (σ1 0)), (2, .ref (σ2 0)), (3, .int (nI (10 * kk)))] [] SC SM := by
  refine l_iinc (pc := 1159) (k := 3) (v := nI (10 * (kk + 1))) (L' := [(3, .int (nI (10 * (kk + 1)))), (0, .ref b), (1, .ref (σ1 0)), (2, .ref (σ2 0))]) X dL_law_1159 rfl ?_ (by decide) rfl ?_
  · rw [show 10 * (kk + 1) = 10 * kk + 10 by omega, ← nI_add]
    rfl
  · refine l_goto (pc := 1162) (tgt := 18) X dL_law_1162 (by decide) ?_
    exact l_locals [1, 2, 3, 0] rfl K
set_option maxRecDepth 100000 in
set_option maxHeartbeats 4000000 in
theorem law_loop (X : lX p s m meth c D cA σ1 σ2 tS b Ls xs) : ∀ (n kk : Nat) (SC SM : St), Ls ≤ 10 * kk + n → 10 * kk ≤ Ls → RB SC SM → Rru SC SM kk → Lj p l e s m below meth c D cA σ1 σ2 b 18 [(0, .ref b), (1, .ref (σ1 0)), (2, .ref (σ2 0)), (3, .int (nI (10 * kk)))] [] SC SM := by
  have hLs : Ls ≤ 5120 := X.2.2.2.2.2.2.2.2.2.2.2.2.2
  intro n
  induction n with
  | zero =>
    intro kk SC SM h1 h2 hB hR
    refine l_iload_n (pc := 18) X dL_law_18 rfl 3 rfl ?_
    refine l_aload_n (pc := 19) X dL_law_19 rfl 0 rfl ?_
    refine l_slen (pc := 20) X dL_law_20 ?_
    refine l_bipush (pc := 21) (v := 10) X dL_law_21 (by decide) ?_
    refine l_isub (pc := 23) X dL_law_23 ?_
    refine l_icmp_gt (pc := 24) (tgt := 1165) X dL_law_24 (by decide) (fun _ => l_end X dL_law_1165 dL_law_1166) (fun h => absurd ?_ h)
    rw [show Int32.ofNat Ls - 10 = nI Ls - nI 10 from rfl, ti_lt, nI_dif (by omega) (by omega), nI_toInt (by omega)]
    omega
  | succ n ih =>
    intro kk SC SM h1 h2 hB hR
    refine l_iload_n (pc := 18) X dL_law_18 rfl 3 rfl ?_
    refine l_aload_n (pc := 19) X dL_law_19 rfl 0 rfl ?_
    refine l_slen (pc := 20) X dL_law_20 ?_
    refine l_bipush (pc := 21) (v := 10) X dL_law_21 (by decide) ?_
    refine l_isub (pc := 23) X dL_law_23 ?_
    refine l_icmp_gt (pc := 24) (tgt := 1165) X dL_law_24 (by decide) (fun _ => l_end X dL_law_1165 dL_law_1166) (fun h => ?_)
    rw [show Int32.ofNat Ls - 10 = nI Ls - nI 10 from rfl, ti_lt, nI_dif (by omega) (by omega), nI_toInt (by omega)] at h
    have hl10 : 10 * kk + 10 ≤ Ls := by omega
    have hin : ∀ n : Nat, n < 10 → vp_in (nI (10 * kk) + nI n) Ls := fun n hn => by
      rw [nI_add]
      exact vp_in_nI (by omega) (by omega)
    have hk : kk < 999 := by omega
    have KK : ∀ SC' SM' : St, RB SC' SM' → Rru SC' SM' (kk + 1) → Lj p l e s m below meth c D cA σ1 σ2 b 1159 [(0, .ref b), (1, .ref (σ1 0)), (2, .ref (σ2 0)), (3, .int (nI (10 * kk)))] [] SC' SM' := fun SC' SM' q1 q2 => law_next X (ih (kk + 1) SC' SM' (by omega) (by omega) q1 q2)
    refine l_aload_n (pc := 27) X dL_law_27 rfl 0 rfl ?_
    refine l_iload_n (pc := 28) X dL_law_28 rfl 3 rfl ?_
    refine l_sld (pc := 29) X (vp_in_nI (by omega) (by omega)) dL_law_29 ?_
    refine l_bipush (pc := 30) (v := 31) X dL_law_30 (by decide) ?_
    refine l_iand (pc := 32) X dL_law_32 ?_
    generalize (xs (nI (10 * kk)).toNatClampNeg &&& 31) = v
    by_cases h0 : v = 0
    · exact l_tsIn (pc := 33) (tgt := 160) X 0 h0 dL_law_33 (by decide) (by decide) rfl (by decide) (law_0 X hB hR hk hin KK)
    by_cases h1 : v = 1
    · exact l_tsIn (pc := 33) (tgt := 173) X 1 h1 dL_law_33 (by decide) (by decide) rfl (by decide) (law_1 X hB hR hk hin KK)
    by_cases h2 : v = 2
    · exact l_tsIn (pc := 33) (tgt := 187) X 2 h2 dL_law_33 (by decide) (by decide) rfl (by decide) (law_2 X hB hR hk hin KK)
    by_cases h3 : v = 3
    · exact l_tsIn (pc := 33) (tgt := 201) X 3 h3 dL_law_33 (by decide) (by decide) rfl (by decide) (law_3 X hB hR hk hin KK)
    by_cases h4 : v = 4
    · exact l_tsIn (pc := 33) (tgt := 244) X 4 h4 dL_law_33 (by decide) (by decide) rfl (by decide) (law_4 X hB hR hk hin KK)
    by_cases h5 : v = 5
    · exact l_tsIn (pc := 33) (tgt := 317) X 5 h5 dL_law_33 (by decide) (by decide) rfl (by decide) (law_5 X hB hR hk hin KK)
    by_cases h6 : v = 6
    · exact l_tsIn (pc := 33) (tgt := 351) X 6 h6 dL_law_33 (by decide) (by decide) rfl (by decide) (law_6 X hB hR hk hin KK)
    by_cases h7 : v = 7
    · exact l_tsIn (pc := 33) (tgt := 414) X 7 h7 dL_law_33 (by decide) (by decide) rfl (by decide) (law_7 X hB hR hk hin KK)
    by_cases h8 : v = 8
    · exact l_tsIn (pc := 33) (tgt := 437) X 8 h8 dL_law_33 (by decide) (by decide) rfl (by decide) (law_8 X hB hR hk hin KK)
    by_cases h9 : v = 9
    · exact l_tsIn (pc := 33) (tgt := 450) X 9 h9 dL_law_33 (by decide) (by decide) rfl (by decide) (law_9 X hB hR hk hin KK)
    by_cases h10 : v = 10
    · exact l_tsIn (pc := 33) (tgt := 493) X 10 h10 dL_law_33 (by decide) (by decide) rfl (by decide) (law_10 X hB hR hk hin KK)
    by_cases h11 : v = 11
    · exact l_tsIn (pc := 33) (tgt := 516) X 11 h11 dL_law_33 (by decide) (by decide) rfl (by decide) (law_11 X hB hR hk hin KK)
    by_cases h12 : v = 12
    · exact l_tsIn (pc := 33) (tgt := 559) X 12 h12 dL_law_33 (by decide) (by decide) rfl (by decide) (law_12 X hB hR hk hin KK)
    by_cases h13 : v = 13
    · exact l_tsIn (pc := 33) (tgt := 608) X 13 h13 dL_law_33 (by decide) (by decide) rfl (by decide) (law_13 X hB hR hk hin KK)
    by_cases h14 : v = 14
    · exact l_tsIn (pc := 33) (tgt := 651) X 14 h14 dL_law_33 (by decide) (by decide) rfl (by decide) (law_14 X hB hR hk hin KK)
    by_cases h15 : v = 15
    · exact l_tsIn (pc := 33) (tgt := 762) X 15 h15 dL_law_33 (by decide) (by decide) rfl (by decide) (law_15 X hB hR hk hin KK)
    by_cases h16 : v = 16
    · exact l_tsIn (pc := 33) (tgt := 775) X 16 h16 dL_law_33 (by decide) (by decide) rfl (by decide) (law_16 X hB hR hk hin KK)
    by_cases h17 : v = 17
    · exact l_tsIn (pc := 33) (tgt := 814) X 17 h17 dL_law_33 (by decide) (by decide) rfl (by decide) (law_17 X hB hR hk hin KK)
    by_cases h18 : v = 18
    · exact l_tsIn (pc := 33) (tgt := 863) X 18 h18 dL_law_33 (by decide) (by decide) rfl (by decide) (law_18 X hB hR hk hin KK)
    by_cases h19 : v = 19
    · exact l_tsIn (pc := 33) (tgt := 886) X 19 h19 dL_law_33 (by decide) (by decide) rfl (by decide) (law_19 X hB hR hk hin KK)
    by_cases h20 : v = 20
    · exact l_tsIn (pc := 33) (tgt := 919) X 20 h20 dL_law_33 (by decide) (by decide) rfl (by decide) (law_20 X hB hR hk hin KK)
    by_cases h21 : v = 21
    · exact l_tsIn (pc := 33) (tgt := 942) X 21 h21 dL_law_33 (by decide) (by decide) rfl (by decide) (law_21 X hB hR hk hin KK)
    by_cases h22 : v = 22
    · exact l_tsIn (pc := 33) (tgt := 991) X 22 h22 dL_law_33 (by decide) (by decide) rfl (by decide) (law_22 X hB hR hk hin KK)
    by_cases h23 : v = 23
    · exact l_tsIn (pc := 33) (tgt := 1014) X 23 h23 dL_law_33 (by decide) (by decide) rfl (by decide) (law_23 X hB hR hk hin KK)
    by_cases h24 : v = 24
    · exact l_tsIn (pc := 33) (tgt := 1047) X 24 h24 dL_law_33 (by decide) (by decide) rfl (by decide) (law_24 X hB hR hk hin KK)
    by_cases h25 : v = 25
    · exact l_tsIn (pc := 33) (tgt := 1080) X 25 h25 dL_law_33 (by decide) (by decide) rfl (by decide) (law_25 X hB hR hk hin KK)
    by_cases h26 : v = 26
    · exact l_tsIn (pc := 33) (tgt := 1103) X 26 h26 dL_law_33 (by decide) (by decide) rfl (by decide) (law_26 X hB hR hk hin KK)
    by_cases h27 : v = 27
    · exact l_tsIn (pc := 33) (tgt := 1136) X 27 h27 dL_law_33 (by decide) (by decide) rfl (by decide) (law_27 X hB hR hk hin KK)
    refine l_tsOut (pc := 33) (tgt := 1159) X dL_law_33 ?_ (by decide) (KK SC SM hB (hR.kk (by omega) (kC.rf SC) (kM.rf SM)))
    by_cases z1 : v.toInt < 0
    · exact Or.inl z1
    · by_cases z2 : 27 < v.toInt
      · exact Or.inr z2
      · exfalso
        obtain ⟨k, hk1, hk2, hv⟩ := nI_ex (x := v) (n := 27) (by omega) (by omega)
        rcases (show k = 0 ∨ k = 1 ∨ k = 2 ∨ k = 3 ∨ k = 4 ∨ k = 5 ∨ k = 6 ∨ k = 7 ∨ k = 8 ∨ k = 9 ∨ k = 10 ∨ k = 11 ∨ k = 12 ∨ k = 13 ∨ k = 14 ∨ k = 15 ∨ k = 16 ∨ k = 17 ∨ k = 18 ∨ k = 19 ∨ k = 20 ∨ k = 21 ∨ k = 22 ∨ k = 23 ∨ k = 24 ∨ k = 25 ∨ k = 26 ∨ k = 27 by omega) with rfl | rfl | rfl | rfl | rfl | rfl | rfl | rfl | rfl | rfl | rfl | rfl | rfl | rfl | rfl | rfl | rfl | rfl | rfl | rfl | rfl | rfl | rfl | rfl | rfl | rfl | rfl | rfl
        · exact h0 hv
        · exact h1 hv
        · exact h2 hv
        · exact h3 hv
        · exact h4 hv
        · exact h5 hv
        · exact h6 hv
        · exact h7 hv
        · exact h8 hv
        · exact h9 hv
        · exact h10 hv
        · exact h11 hv
        · exact h12 hv
        · exact h13 hv
        · exact h14 hv
        · exact h15 hv
        · exact h16 hv
        · exact h17 hv
        · exact h18 hv
        · exact h19 hv
        · exact h20 hv
        · exact h21 hv
        · exact h22 hv
        · exact h23 hv
        · exact h24 hv
        · exact h25 hv
        · exact h26 hv
        · exact h27 hv
end LC
