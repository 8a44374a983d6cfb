noncomputable section
/-! the answers of each method, as functions of the state: written by program out of the bytecode -/
def J0_above_33 (S : St) (x2 : Int64) : Option (Int64 × St) :=
 some (x2, S)
def J0_above_6 : Nat → St → Int32 → Int64 → Int32 → Option (Int64 × St)
| 0, _, _, _, _ => none
| n + 1, S, x1, x2, x4 =>
 if x4 ≤ x1 then (
 J0_above_33 S x2)
 else (
 if x4 < 0 then (
 J0_above_33 S x2)
 else (
 zg (zin x4 32) (
 zlet ((x2 + (S.2 6 x4.toNatClampNeg))) fun x2_1 =>
 zlet (x4 + (-1 : Int32)) fun x4_2 =>
 J0_above_6 n S x1 x2_1 x4_2)))
def J0_above (S : St) (x1 : Int32) : Option (Int64 × St) :=
 J0_above_6 fu S x1 ((0 : Int64)) ((7 : Int32))
def J0_commonDivisor_45 (S : St) (x4 : Int64) : Option (Int64 × St) :=
 some (x4, S)
def J0_commonDivisor_9 : Nat → St → Int64 → Int64 → Int32 → Option (Int64 × St)
| 0, _, _, _, _ => none
| n + 1, S, x4, x6, x8 =>
 if (200 : Int32) ≤ x8 then (
 J0_commonDivisor_45 S x4)
 else (
 if (lg_cmp x6 (0 : Int64)) = 0 then (
 J0_commonDivisor_45 S x4)
 else (
 zg (decide (¬ x6 = 0)) (
 zlet ((x4 - x4 / x6 * x6)) fun x9_1 =>
 zlet (x8 + (1 : Int32)) fun x8_2 =>
 J0_commonDivisor_9 n S x6 x9_1 x8_2)))
def J0_commonDivisor (S : St) (x0 : Int64) (x2 : Int64) : Option (Int64 × St) :=
 J0_commonDivisor_9 fu S x0 x2 ((0 : Int32))
def J0_power_5 : Nat → St → Int64 → Int32 → Int64 → Int32 → Option (Int64 × St)
| 0, _, _, _, _, _ => none
| n + 1, S, x0, x2, x3, x5 =>
 if x2 ≤ x5 then (
 some (x3, S))
 else (
 zlet ((x3 * x0)) fun x3_1 =>
 zlet (x5 + (1 : Int32)) fun x5_2 =>
 J0_power_5 n S x0 x2 x3_1 x5_2)
def J0_power (S : St) (x0 : Int64) (x2 : Int32) : Option (Int64 × St) :=
 J0_power_5 fu S x0 x2 ((1 : Int64)) ((0 : Int32))
def J0_ofCopy (S : St) (x1 : Int32) : Option (Int64 × St) :=
 zg (zin (0 : Int32) 4) (
 zb (J0_power S ((S.2 7 ((0 : Int32)).toNatClampNeg)) ((x1 + (1 : Int32)))) fun r1 S1 =>
 zg (zin (1 : Int32) 4) (
 zg (zin (2 : Int32) 4) (
 zg (zin (3 : Int32) 4) (
 some ((((r1 * (S1.2 7 ((1 : Int32)).toNatClampNeg)) * (S1.2 7 ((2 : Int32)).toNatClampNeg)) * (S1.2 7 ((3 : Int32)).toNatClampNeg)), S1)))))
def J0_greatness_35 (S : St) : Option (Int32 × St) :=
 some ((9 : Int32), S)
def J0_greatness_12 : Nat → St → Int32 → Int64 → Int64 → Int32 → Option (Int32 × St)
| 0, _, _, _, _, _ => none
| n + 1, S, x1, x3, x5, x7 =>
 if x1 ≤ x7 then (
 some ((0 : Int32), S))
 else (
 if (lg_cmp x3 (1 : Int64)) < 0 then (
 J0_greatness_35 S)
 else (
 zg (decide (¬ x3 = 0)) (
 if (lg_cmp x5 ((4611686018427387903 : Int64) / x3)) ≤ 0 then (
 zlet ((x5 * x3)) fun x5_1 =>
 zlet (x7 + (1 : Int32)) fun x7_2 =>
 J0_greatness_12 n S x1 x3 x5_1 x7_2)
 else (
 J0_greatness_35 S))))
def J0_greatness (S : St) (x1 : Int32) (x2 : Int32) : Option (Int32 × St) :=
 zb (J0_ofCopy S x2) fun r1 S1 =>
 J0_greatness_12 fu S1 x1 r1 ((1 : Int64)) ((0 : Int32))
def J0_weight_25 (S : St) (t0 : Int64) : Option (Int64 × St) :=
 some (t0, S)
def J0_weight_24 (S : St) : Option (Int64 × St) :=
 J0_weight_25 S ((0 : Int64))
def J0_weight (S : St) (x1 : Int32) (x2 : Int32) : Option (Int64 × St) :=
 if x2 < 0 then (
 J0_weight_24 S)
 else (
 if (8 : Int32) ≤ x2 then (
 J0_weight_24 S)
 else (
 zg (zin ((x1 * (8 : Int32)) + x2) 32) (
 J0_weight_25 S ((S.2 6 (((x1 * (8 : Int32)) + x2)).toNatClampNeg)))))
def J0_spread_c9_23 (k3 : St → Int32 → Int32 → Int32 → Option (Unit × St)) : Nat → St → Int32 → Int32 → Int32 → Int64 → Int32 → Option (Unit × St)
| 0, _, _, _, _, _, _ => none
| n + 1, S, x1, x2, x4, x5, x7 =>
 if (8 : Int32) ≤ x7 then (
 zg (zin x4 15) (
 zlet (wL S 9 (x4.toNatClampNeg) x5) fun S_1 =>
 zlet (x4 + (1 : Int32)) fun x4_2 =>
 k3 S_1 x1 x2 x4_2))
 else (
 zb (J0_weight S x1 x7) fun r3 S3 =>
 zb (J0_weight S3 x2 ((x4 - x7))) fun r4 S4 =>
 zlet ((x5 + (r3 * r4))) fun x5_5 =>
 zlet (x7 + (1 : Int32)) fun x7_6 =>
 J0_spread_c9_23 k3 n S4 x1 x2 x4 x5_5 x7_6)
def J0_spread_c9_71 (S : St) : Option (Unit × St) :=
 some ((), S)
def J0_spread_c9_3 : Nat → St → Int32 → Int32 → Int32 → Option (Unit × St)
| 0, _, _, _, _ => none
| n + 1, S, x1, x2, x4 =>
 if (15 : Int32) ≤ x4 then (
 J0_spread_c9_71 S)
 else (
 if (15 : Int32) ≤ x4 then (
 J0_spread_c9_71 S)
 else (
 J0_spread_c9_23 (J0_spread_c9_3 n) fu S x1 x2 x4 ((0 : Int64)) ((0 : Int32))))
def J0_spread_c9 (S : St) (x1 : Int32) (x2 : Int32) : Option (Unit × St) :=
 J0_spread_c9_3 fu S x1 x2 ((0 : Int32))
def J0_spread_c10_23 (k3 : St → Int32 → Int32 → Int32 → Option (Unit × St)) : Nat → St → Int32 → Int32 → Int32 → Int64 → Int32 → Option (Unit × St)
| 0, _, _, _, _, _, _ => none
| n + 1, S, x1, x2, x4, x5, x7 =>
 if (8 : Int32) ≤ x7 then (
 zg (zin x4 15) (
 zlet (wL S 10 (x4.toNatClampNeg) x5) fun S_1 =>
 zlet (x4 + (1 : Int32)) fun x4_2 =>
 k3 S_1 x1 x2 x4_2))
 else (
 zb (J0_weight S x1 x7) fun r3 S3 =>
 zb (J0_weight S3 x2 ((x4 - x7))) fun r4 S4 =>
 zlet ((x5 + (r3 * r4))) fun x5_5 =>
 zlet (x7 + (1 : Int32)) fun x7_6 =>
 J0_spread_c10_23 k3 n S4 x1 x2 x4 x5_5 x7_6)
def J0_spread_c10_71 (S : St) : Option (Unit × St) :=
 some ((), S)
def J0_spread_c10_3 : Nat → St → Int32 → Int32 → Int32 → Option (Unit × St)
| 0, _, _, _, _ => none
| n + 1, S, x1, x2, x4 =>
 if (15 : Int32) ≤ x4 then (
 J0_spread_c10_71 S)
 else (
 if (15 : Int32) ≤ x4 then (
 J0_spread_c10_71 S)
 else (
 J0_spread_c10_23 (J0_spread_c10_3 n) fu S x1 x2 x4 ((0 : Int64)) ((0 : Int32))))
def J0_spread_c10 (S : St) (x1 : Int32) (x2 : Int32) : Option (Unit × St) :=
 J0_spread_c10_3 fu S x1 x2 ((0 : Int32))
def J0_sum (S : St) (x1 : Int32) : Option (Int64 × St) :=
 zg (zin x1 4) (
 some ((S.2 7 x1.toNatClampNeg), S))
def J0_tellFraction_43 (S : St) (t0 : Int32) : Option (Int32 × St) :=
 some (t0, S)
def J0_tellFraction (S : St) (x1 : Int64) (x3 : Int64) : Option (Int32 × St) :=
 zb (J0_commonDivisor S x1 x3) fun r1 S1 =>
 if 0 ≤ (lg_cmp r1 (1 : Int64)) then (
 zg (decide (¬ r1 = 0)) (
 zlet (wL S1 5 6 (x1 / r1)) fun S_2 =>
 zg (decide (¬ r1 = 0)) (
 zlet (wL S_2 5 7 (x3 / r1)) fun S_3 =>
 if (lg_cmp x1 (0 : Int64)) ≤ 0 then (
 J0_tellFraction_43 S_3 ((0 : Int32)))
 else (
 J0_tellFraction_43 S_3 ((1 : Int32))))))
 else (
 some ((-1 : Int32), S1))
def J0_weigh (S : St) (x1 : Int32) (x2 : Int32) (x3 : Int64) : Option (Unit × St) :=
 zlet (((x1 * (8 : Int32)) + x2)) fun x5_1 =>
 zg (zin x1 4) (
 zg (zin x5_1 32) (
 zg (zin x1 4) (
 zlet (wL S 7 (x1.toNatClampNeg) ((S.2 7 x1.toNatClampNeg) + (x3 - (S.2 6 x5_1.toNatClampNeg)))) fun S_2 =>
 zg (zin x5_1 32) (
 zlet (wL S_2 6 (x5_1.toNatClampNeg) x3) fun S_3 =>
 some ((), S_3)))))
def J1_forget_2 : Nat → St → Int32 → Int32 → Option (Unit × St)
| 0, _, _, _ => none
| n + 1, S, x1, x2 =>
 if (5 : Int32) ≤ x2 then (
 some ((), S))
 else (
 zg (zin ((x1 * (5 : Int32)) + x2) 25) (
 zlet (wI S 21 ((((x1 * (5 : Int32)) + x2)).toNatClampNeg) (0 : Int32)) fun S_1 =>
 zlet (x2 + (1 : Int32)) fun x2_2 =>
 J1_forget_2 n S_1 x1 x2_2))
def J1_forget (S : St) (x1 : Int32) : Option (Unit × St) :=
 J1_forget_2 fu S x1 ((0 : Int32))
def J1_keptBy_28 (k4 : St → Int32 → Int32 → Int32 → Option (Int32 × St)) (S : St) (x1 : Int32) (x2 : Int32) (x3 : Int32) : Option (Int32 × St) :=
 zlet (x3 + (1 : Int32)) fun x3_1 =>
 k4 S x1 x2 x3_1
def J1_keptBy_4 : Nat → St → Int32 → Int32 → Int32 → Option (Int32 × St)
| 0, _, _, _, _ => none
| n + 1, S, x1, x2, x3 =>
 if (S.1 18 3) ≤ x3 then (
 some (x2, S))
 else (
 zg (zin ((x1 * (5 : Int32)) + x3) 25) (
 if (S.1 21 (((x1 * (5 : Int32)) + x3)).toNatClampNeg) ≤ 0 then (
 J1_keptBy_28 (J1_keptBy_4 n) S x1 x2 x3)
 else (
 zlet (x2 + (1 : Int32)) fun x2_1 =>
 J1_keptBy_28 (J1_keptBy_4 n) S x1 x2_1 x3)))
def J1_keptBy (S : St) (x1 : Int32) : Option (Int32 × St) :=
 J1_keptBy_4 fu S x1 ((0 : Int32)) ((0 : Int32))
def J1_fall_37 (S : St) : Option (Unit × St) :=
 some ((), S)
def J1_fall (S : St) (x1 : Int32) (x2 : Int32) : Option (Unit × St) :=
 zg (zin x1 5) (
 zlet (wI S 20 (x1.toNatClampNeg) (vp_nar .boolean (0 : Int32))) fun S_1 =>
 if x2 = 0 then (
 J1_fall_37 S_1)
 else (
 zb (J1_keptBy S_1 x1) fun r2 S2 =>
 zlet (wI S2 18 4 ((S_1.1 18 4) + r2)) fun S_3 =>
 zg (zin x1 5) (
 zlet (wI S_3 19 (x1.toNatClampNeg) (0 : Int32)) fun S_4 =>
 zb (J1_forget S_4 x1) fun _ S5 =>
 J1_fall_37 S5)))
def J1_give_24 (S : St) : Option (Int32 × St) :=
 some ((0 : Int32), S)
def J1_give (S : St) (x1 : Int32) (x2 : Int32) : Option (Int32 × St) :=
 zlet (((x1 * (5 : Int32)) + x2)) fun x3_1 =>
 zg (zin x3_1 25) (
 if (S.1 21 x3_1.toNatClampNeg) = 0 then (
 J1_give_24 S)
 else (
 zg (zin x1 5) (
 if (S.1 20 x1.toNatClampNeg) = 0 then (
 J1_give_24 S)
 else (
 zg (zin x2 5) (
 zg (zin x3_1 25) (
 zg (zin x2 5) (
 zlet (wI S 19 (x2.toNatClampNeg) (if (S.1 19 x2.toNatClampNeg) < (S.1 21 x3_1.toNatClampNeg) then (S.1 21 x3_1.toNatClampNeg) else (S.1 19 x2.toNatClampNeg))) fun S_2 =>
 zg (zin x3_1 25) (
 zlet (wI S_2 21 (x3_1.toNatClampNeg) (0 : Int32)) fun S_3 =>
 some ((1 : Int32), S_3)))))))))
def J1_has_17 (S : St) (t0 : Int32) : Option (Int32 × St) :=
 zg (zbo t0) (some (t0, S))
def J1_has_16 (S : St) : Option (Int32 × St) :=
 J1_has_17 S ((0 : Int32))
def J1_has (S : St) (x1 : Int32) : Option (Int32 × St) :=
 if x1 < 0 then (
 J1_has_16 S)
 else (
 if (S.1 18 3) ≤ x1 then (
 J1_has_16 S)
 else (
 J1_has_17 S ((1 : Int32))))
def J1_leastUp_2 : Nat → St → Int32 → Option (Int32 × St)
| 0, _, _ => none
| n + 1, S, x1 =>
 if (S.1 18 3) ≤ x1 then (
 some ((-1 : Int32), S))
 else (
 zg (zin x1 5) (
 if (S.1 20 x1.toNatClampNeg) = 0 then (
 zlet (x1 + (1 : Int32)) fun x1_1 =>
 J1_leastUp_2 n S x1_1)
 else (
 some (x1, S))))
def J1_leastUp (S : St) : Option (Int32 × St) :=
 J1_leastUp_2 fu S ((0 : Int32))
def J1_level (S : St) (x1 : Int32) (x2 : Int32) : Option (Int32 × St) :=
 zg (zin x1 5) (
 zg (zin x2 5) (
 if (S.1 19 x1.toNatClampNeg) = (S.1 19 x2.toNatClampNeg) then (
 some ((0 : Int32), S))
 else (
 zg (zin x1 5) (
 zg (zin x2 5) (
 zlet ((if (S.1 19 x1.toNatClampNeg) < (S.1 19 x2.toNatClampNeg) then (S.1 19 x2.toNatClampNeg) else (S.1 19 x1.toNatClampNeg))) fun x3_1 =>
 zg (zin x1 5) (
 zlet (wI S 19 (x1.toNatClampNeg) x3_1) fun S_2 =>
 zg (zin x2 5) (
 zlet (wI S_2 19 (x2.toNatClampNeg) x3_1) fun S_3 =>
 some ((1 : Int32), S_3))))))))
def J1_renew_16 : Nat → St → Int32 → Option (Unit × St)
| 0, _, _ => none
| n + 1, S, x2 =>
 if (5 : Int32) ≤ x2 then (
 some ((), S))
 else (
 zg (zin x2 5) (
 zlet (wI S 19 (x2.toNatClampNeg) (0 : Int32)) fun S_1 =>
 zg (zin x2 5) (
 zlet (wI S_1 20 (x2.toNatClampNeg) (vp_nar .boolean (1 : Int32))) fun S_2 =>
 zb (J1_forget S_2 x2) fun _ S3 =>
 zlet (x2 + (1 : Int32)) fun x2_4 =>
 J1_renew_16 n S3 x2_4)))
def J1_renew (S : St) (x1 : Int32) : Option (Unit × St) :=
 zlet (wI S 18 3 (if (5 : Int32) < x1 then (5 : Int32) else x1)) fun S_1 =>
 zlet (wI S_1 18 4 (0 : Int32)) fun S_2 =>
 J1_renew_16 fu S_2 ((0 : Int32))
def J1_rise_62 (k36 : St → Int32 → Int32 → Int32 → Option (Int32 × St)) (S : St) (x1 : Int32) (x2 : Int32) (x3 : Int32) : Option (Int32 × St) :=
 zlet (x3 + (1 : Int32)) fun x3_1 =>
 k36 S x1 x2 x3_1
def J1_rise_36 : Nat → St → Int32 → Int32 → Int32 → Option (Int32 × St)
| 0, _, _, _, _ => none
| n + 1, S, x1, x2, x3 =>
 if (S.1 18 3) ≤ x3 then (
 some (x2, S))
 else (
 zg (zin x3 5) (
 if (S.1 20 x3.toNatClampNeg) = 0 then (
 J1_rise_62 (J1_rise_36 n) S x1 x2 x3)
 else (
 zb (J1_give S x1 x3) fun r1 S1 =>
 zlet ((x2 + r1)) fun x2_2 =>
 J1_rise_62 (J1_rise_36 n) S1 x1 x2_2 x3)))
def J1_rise_4 : Nat → St → Int32 → Int32 → Int32 → Option (Int32 × St)
| 0, _, _, _, _ => none
| n + 1, S, x1, x2, x3 =>
 if (S.1 18 3) ≤ x3 then (
 zg (zin x1 5) (
 zlet (wI S 20 (x1.toNatClampNeg) (vp_nar .boolean (1 : Int32))) fun S_1 =>
 J1_rise_36 fu S_1 x1 x2 ((0 : Int32))))
 else (
 zb (J1_give S x3 x1) fun r2 S2 =>
 zlet ((x2 + r2)) fun x2_3 =>
 zlet (x3 + (1 : Int32)) fun x3_4 =>
 J1_rise_4 n S2 x1 x2_3 x3_4)
def J1_rise (S : St) (x1 : Int32) : Option (Int32 × St) :=
 J1_rise_4 fu S x1 ((0 : Int32)) ((0 : Int32))
def J1_take_75 (S : St) : Option (Int32 × St) :=
 zg (zbo (0 : Int32)) (some ((0 : Int32), S))
def J1_take (S : St) (x1 : Int32) (x2 : Int32) : Option (Int32 × St) :=
 zg (zin x1 5) (
 if (S.1 20 x1.toNatClampNeg) = 0 then (
 zb (J1_leastUp S) fun r1 S1 =>
 if r1 = (-1 : Int32) then (
 zlet (wI S1 18 4 ((S1.1 18 4) + (1 : Int32))) fun S_4 =>
 J1_take_75 S_4)
 else (
 zlet (((r1 * (5 : Int32)) + x1)) fun x4_2 =>
 zg (zin x4_2 25) (
 zg (zin x4_2 25) (
 zlet (wI S1 21 (x4_2.toNatClampNeg) (if (S1.1 21 x4_2.toNatClampNeg) < x2 then x2 else (S1.1 21 x4_2.toNatClampNeg))) fun S_3 =>
 J1_take_75 S_3))))
 else (
 zg (zin x1 5) (
 zg (zin x1 5) (
 zlet (wI S 19 (x1.toNatClampNeg) (if (S.1 19 x1.toNatClampNeg) < x2 then x2 else (S.1 19 x1.toNatClampNeg))) fun S_5 =>
 zg (zbo (1 : Int32)) (some ((1 : Int32), S_5))))))
def J2_ask (S : St) (x1 : Int32) (x2 : Int32) : Option (Unit × St) :=
 zlet (wI S 8 9 x1) fun S_1 =>
 zlet (wI S_1 8 10 x2) fun S_2 =>
 zlet (wI S_2 8 11 (0 : Int32)) fun S_3 =>
 some ((), S_3)
def J2_picks_34 (S : St) (t0 : Int64) : Option (Int64 × St) :=
 some (t0, S)
def J2_picks_33 (S : St) : Option (Int64 × St) :=
 J2_picks_34 S ((0 : Int64))
def J2_picks (S : St) (x0 : Int32) (x1 : Int32) : Option (Int64 × St) :=
 if x0 < 0 then (
 J2_picks_33 S)
 else (
 if (6 : Int32) ≤ x0 then (
 J2_picks_33 S)
 else (
 if x1 < 0 then (
 J2_picks_33 S)
 else (
 if (6 : Int32) ≤ x1 then (
 J2_picks_33 S)
 else (
 zg (zin ((x0 * (6 : Int32)) + x1) 36) (
 J2_picks_34 S ((zpk (((x0 * (6 : Int32)) + x1)).toNatClampNeg)))))))
def J2_atLeast_6 : Nat → St → Int32 → Int64 → Int64 → Int64 → Int32 → Option (Int64 × St)
| 0, _, _, _, _, _, _ => none
| n + 1, S, x0, x2, x4, x6, x8 =>
 if x0 < x8 then (
 some (x6, S))
 else (
 zb (J2_picks S x0 x8) fun r1 S1 =>
 zb (J0_power S1 x2 x8) fun r2 S2 =>
 zb (J0_power S2 x4 ((x0 - x8))) fun r3 S3 =>
 zlet ((x6 + ((r1 * r2) * r3))) fun x6_4 =>
 zlet (x8 + (1 : Int32)) fun x8_5 =>
 J2_atLeast_6 n S3 x0 x2 x4 x6_4 x8_5)
def J2_atLeast (S : St) (x0 : Int32) (x1 : Int32) (x2 : Int64) (x4 : Int64) : Option (Int64 × St) :=
 J2_atLeast_6 fu S x0 x2 x4 ((0 : Int64)) x1
def J2_isAtMost_88 (S : St) (t0 : Int32) : Option (Int32 × St) :=
 zg (zbo t0) (some (t0, S))
def J2_isAtMost_83 (S : St) : Option (Int32 × St) :=
 J2_isAtMost_88 S ((1 : Int32))
def J2_isAtMost_87 (S : St) : Option (Int32 × St) :=
 J2_isAtMost_88 S ((0 : Int32))
def J2_isAtMost (S : St) (x0 : Int64) (x2 : Int64) (x4 : Int64) (x6 : Int64) : Option (Int32 × St) :=
 zlet (((x0 &&& (2147483647 : Int64)) * x6)) fun x10_1 =>
 zlet (((x2 &&& (2147483647 : Int64)) * x4)) fun x12_2 =>
 zlet ((((((x0).toUInt64 >>> (((31 : Int32)).toInt64.toUInt64 &&& Int64.toUInt64 63)).toInt64) * x6) + (((x10_1).toUInt64 >>> (((31 : Int32)).toInt64.toUInt64 &&& Int64.toUInt64 63)).toInt64))) fun x14_3 =>
 zlet ((((((x2).toUInt64 >>> (((31 : Int32)).toInt64.toUInt64 &&& Int64.toUInt64 63)).toInt64) * x4) + (((x12_2).toUInt64 >>> (((31 : Int32)).toInt64.toUInt64 &&& Int64.toUInt64 63)).toInt64))) fun x16_4 =>
 if (lg_cmp x14_3 x16_4) < 0 then (
 J2_isAtMost_83 S)
 else (
 if (lg_cmp x14_3 x16_4) = 0 then (
 if 0 < (lg_cmp (x10_1 &&& (2147483647 : Int64)) (x12_2 &&& (2147483647 : Int64))) then (
 J2_isAtMost_87 S)
 else (
 J2_isAtMost_83 S))
 else (
 J2_isAtMost_87 S))
def J2_endsAt_65 (S : St) (x1 : Int32) (x2 : Int32) (x4 : Int64) (x6 : Int64) (t0 : Int64) (t1 : Int64) : Option (Int64 × St) :=
 zlet ((t1 + t0)) fun x8_1 =>
 zb (J2_atLeast S x1 x2 x8_1 ((x4 - x8_1))) fun r2 S2 =>
 zb (J2_atLeast S2 x1 x2 x6 ((x4 - x6))) fun r3 S3 =>
 some ((r2 - r3), S3)
def J2_endsAt_64 (S : St) (x1 : Int32) (x2 : Int32) (x4 : Int64) (x6 : Int64) (t0 : Int64) : Option (Int64 × St) :=
 J2_endsAt_65 S x1 x2 x4 x6 ((0 : Int64)) t0
def J2_endsAt_40 (S : St) (x1 : Int32) (x2 : Int32) (x3 : Int32) (x4 : Int64) (x6 : Int64) : Option (Int64 × St) :=
 if x3 < 0 then (
 J2_endsAt_64 S x1 x2 x4 x6 x6)
 else (
 if (15 : Int32) ≤ x3 then (
 J2_endsAt_64 S x1 x2 x4 x6 x6)
 else (
 zg (zin x3 15) (
 J2_endsAt_65 S x1 x2 x4 x6 ((S.2 9 x3.toNatClampNeg)) x6)))
def J2_endsAt_6 : Nat → St → Int32 → Int32 → Int32 → Int64 → Int64 → Int32 → Option (Int64 × St)
| 0, _, _, _, _, _, _, _ => none
| n + 1, S, x1, x2, x3, x4, x6, x8 =>
 if x3 ≤ x8 then (
 J2_endsAt_40 S x1 x2 x3 x4 x6)
 else (
 if (15 : Int32) ≤ x8 then (
 J2_endsAt_40 S x1 x2 x3 x4 x6)
 else (
 zg (zin x8 15) (
 zlet ((x6 + (S.2 9 x8.toNatClampNeg))) fun x6_1 =>
 zlet (x8 + (1 : Int32)) fun x8_2 =>
 J2_endsAt_6 n S x1 x2 x3 x4 x6_1 x8_2)))
def J2_endsAt (S : St) (x1 : Int32) (x2 : Int32) (x3 : Int32) (x4 : Int64) : Option (Int64 × St) :=
 J2_endsAt_6 fu S x1 x2 x3 x4 ((0 : Int64)) ((0 : Int32))
def J2_place (S : St) (x0 : Int32) (x1 : Int32) : Option (Int32 × St) :=
 some (((x0 * (6 : Int32)) + x1), S)
def J2_fillPowers_c13_5 : Nat → St → Int64 → Int64 → Int32 → Option (Unit × St)
| 0, _, _, _, _ => none
| n + 1, S, x0, x3, x5 =>
 if (6 : Int32) ≤ x5 then (
 some ((), S))
 else (
 zg (zin x5 6) (
 zlet (wL S 13 (x5.toNatClampNeg) x3) fun S_1 =>
 zlet ((x3 * x0)) fun x3_2 =>
 zlet (x5 + (1 : Int32)) fun x5_3 =>
 J2_fillPowers_c13_5 n S_1 x0 x3_2 x5_3))
def J2_fillPowers_c13 (S : St) (x0 : Int64) : Option (Unit × St) :=
 J2_fillPowers_c13_5 fu S x0 ((1 : Int64)) ((0 : Int32))
def J2_fillPowers_c14_5 : Nat → St → Int64 → Int64 → Int32 → Option (Unit × St)
| 0, _, _, _, _ => none
| n + 1, S, x0, x3, x5 =>
 if (6 : Int32) ≤ x5 then (
 some ((), S))
 else (
 zg (zin x5 6) (
 zlet (wL S 14 (x5.toNatClampNeg) x3) fun S_1 =>
 zlet ((x3 * x0)) fun x3_2 =>
 zlet (x5 + (1 : Int32)) fun x5_3 =>
 J2_fillPowers_c14_5 n S_1 x0 x3_2 x5_3))
def J2_fillPowers_c14 (S : St) (x0 : Int64) : Option (Unit × St) :=
 J2_fillPowers_c14_5 fu S x0 ((1 : Int64)) ((0 : Int32))
def J2_fillPowers_c15_5 : Nat → St → Int64 → Int64 → Int32 → Option (Unit × St)
| 0, _, _, _, _ => none
| n + 1, S, x0, x3, x5 =>
 if (6 : Int32) ≤ x5 then (
 some ((), S))
 else (
 zg (zin x5 6) (
 zlet (wL S 15 (x5.toNatClampNeg) x3) fun S_1 =>
 zlet ((x3 * x0)) fun x3_2 =>
 zlet (x5 + (1 : Int32)) fun x5_3 =>
 J2_fillPowers_c15_5 n S_1 x0 x3_2 x5_3))
def J2_fillPowers_c15 (S : St) (x0 : Int64) : Option (Unit × St) :=
 J2_fillPowers_c15_5 fu S x0 ((1 : Int64)) ((0 : Int32))
def J2_fillPowers_c16_5 : Nat → St → Int64 → Int64 → Int32 → Option (Unit × St)
| 0, _, _, _, _ => none
| n + 1, S, x0, x3, x5 =>
 if (6 : Int32) ≤ x5 then (
 some ((), S))
 else (
 zg (zin x5 6) (
 zlet (wL S 16 (x5.toNatClampNeg) x3) fun S_1 =>
 zlet ((x3 * x0)) fun x3_2 =>
 zlet (x5 + (1 : Int32)) fun x5_3 =>
 J2_fillPowers_c16_5 n S_1 x0 x3_2 x5_3))
def J2_fillPowers_c16 (S : St) (x0 : Int64) : Option (Unit × St) :=
 J2_fillPowers_c16_5 fu S x0 ((1 : Int64)) ((0 : Int32))
def J2_staleAnswers_5 : Nat → St → Int32 → Int32 → Int64 → Int32 → Option (Int64 × St)
| 0, _, _, _, _, _ => none
| n + 1, S, x1, x2, x3, x5 =>
 if (7 : Int32) ≤ (x1 + x5) then (
 zb (J0_sum S ((1 : Int32))) fun r1 S1 =>
 some ((x3 * r1), S1))
 else (
 zb (J0_weight S ((2 : Int32)) x5) fun r2 S2 =>
 zb (J0_weight S2 ((3 : Int32)) ((x2 - x5))) fun r3 S3 =>
 zg (zin (x1 + x5) 7) (
 zlet ((x3 + ((r2 * r3) * (S3.2 11 ((x1 + x5)).toNatClampNeg)))) fun x3_4 =>
 zlet (x5 + (1 : Int32)) fun x5_5 =>
 J2_staleAnswers_5 n S3 x1 x2 x3_4 x5_5))
def J2_staleAnswers (S : St) (x1 : Int32) (x2 : Int32) : Option (Int64 × St) :=
 J2_staleAnswers_5 fu S x1 x2 ((0 : Int64)) ((0 : Int32))
def J2_staleReads_17 (k5 : St → Int32 → Int32 → Int64 → Int32 → Option (Int64 × St)) : Nat → St → Int32 → Int32 → Int64 → Int32 → Int64 → Int32 → Option (Int64 × St)
| 0, _, _, _, _, _, _, _ => none
| n + 1, S, x1, x2, x3, x5, x6, x8 =>
 if (x1 - x2) < x8 then (
 zb (J2_picks S x1 x5) fun r1 S1 =>
 zg (zin x5 6) (
 zg (zin (x2 - x5) 6) (
 zlet ((x3 + (((r1 * (S1.2 13 x5.toNatClampNeg)) * (S1.2 14 ((x2 - x5)).toNatClampNeg)) * x6))) fun x3_2 =>
 zlet (x5 + (1 : Int32)) fun x5_3 =>
 k5 S1 x1 x2 x3_2 x5_3)))
 else (
 zb (J2_picks S ((x1 - x5)) (((x2 - x5) + x8))) fun r4 S4 =>
 zg (zin x8 6) (
 zg (zin ((x1 - x2) - x8) 6) (
 zlet ((x6 + ((r4 * (S4.2 15 x8.toNatClampNeg)) * (S4.2 16 (((x1 - x2) - x8)).toNatClampNeg)))) fun x6_5 =>
 zlet (x8 + (1 : Int32)) fun x8_6 =>
 J2_staleReads_17 k5 n S4 x1 x2 x3 x5 x6_5 x8_6)))
def J2_staleReads_5 : Nat → St → Int32 → Int32 → Int64 → Int32 → Option (Int64 × St)
| 0, _, _, _, _, _ => none
| n + 1, S, x1, x2, x3, x5 =>
 if x2 ≤ x5 then (
 some (x3, S))
 else (
 J2_staleReads_17 (J2_staleReads_5 n) fu S x1 x2 x3 x5 ((0 : Int64)) ((0 : Int32)))
def J2_staleReads (S : St) (x1 : Int32) (x2 : Int32) : Option (Int64 × St) :=
 J2_staleReads_5 fu S x1 x2 ((0 : Int64)) ((0 : Int32))
def J2_prepareEnd_162 (k51 : St → Int32 → Int32 → Int64 → Int64 → Int32 → Option (Unit × St)) (S : St) (x1 : Int32) (x2 : Int32) (x3 : Int64) (x5 : Int64) (x7 : Int32) (x8 : Int64) : Option (Unit × St) :=
 zlet ((x3 + x8)) fun x3_1 =>
 zlet (x7 + (1 : Int32)) fun x7_2 =>
 k51 S x1 x2 x3_1 x5 x7_2
def J2_prepareEnd_129 (k51 : St → Int32 → Int32 → Int64 → Int64 → Int32 → Option (Unit × St)) : Nat → St → Int32 → Int32 → Int64 → Int64 → Int32 → Int64 → Int32 → Option (Unit × St)
| 0, _, _, _, _, _, _, _, _ => none
| n + 1, S, x1, x2, x3, x5, x7, x8, x10 =>
 if x2 ≤ x10 then (
 J2_prepareEnd_162 k51 S x1 x2 x3 x5 x7 x8)
 else (
 zb (J2_place S x1 x10) fun r1 S1 =>
 zg (zin r1 42) (
 zb (J2_staleReads S1 x2 x10) fun r2 S2 =>
 zg (zin r1 42) (
 zlet (wL S2 12 (r1.toNatClampNeg) ((S1.2 12 r1.toNatClampNeg) + r2)) fun S_3 =>
 zlet (x10 + (1 : Int32)) fun x10_4 =>
 J2_prepareEnd_129 k51 n S_3 x1 x2 x3 x5 x7 x8 x10_4)))
def J2_prepareEnd_51 : Nat → St → Int32 → Int32 → Int64 → Int64 → Int32 → Option (Unit × St)
| 0, _, _, _, _, _, _ => none
| n + 1, S, x1, x2, x3, x5, x7 =>
 if (15 : Int32) ≤ x7 then (
 some ((), S))
 else (
 zb (J2_staleAnswers S x1 x7) fun r1 S1 =>
 zg (zin x7 15) (
 zlet ((x5 - (S1.2 10 x7.toNatClampNeg))) fun x5_2 =>
 if (lg_cmp r1 (0 : Int64)) = 0 then (
 J2_prepareEnd_162 (J2_prepareEnd_51 n) S1 x1 x2 x3 x5_2 x7 r1)
 else (
 zb (J2_fillPowers_c13 S1 x3) fun _ S3 =>
 zb (J2_fillPowers_c14 S3 r1) fun _ S4 =>
 zg (zin x7 15) (
 zb (J2_fillPowers_c15 S4 ((S4.2 10 x7.toNatClampNeg))) fun _ S5 =>
 zb (J2_fillPowers_c16 S5 x5_2) fun _ S6 =>
 J2_prepareEnd_129 (J2_prepareEnd_51 n) fu S6 x1 x2 x3 x5_2 x7 r1 ((1 : Int32))))))
def J2_prepareEnd_24 : Nat → St → Int32 → Int32 → Int64 → Int64 → Int32 → Option (Unit × St)
| 0, _, _, _, _, _, _ => none
| n + 1, S, x1, x2, x3, x5, x7 =>
 if x2 ≤ x7 then (
 J2_prepareEnd_51 fu S x1 x2 x3 x5 ((0 : Int32)))
 else (
 zb (J2_place S x1 x7) fun r1 S1 =>
 zg (zin r1 42) (
 zlet (wL S1 12 (r1.toNatClampNeg) (0 : Int64)) fun S_2 =>
 zlet (x7 + (1 : Int32)) fun x7_3 =>
 J2_prepareEnd_24 n S_2 x1 x2 x3 x5 x7_3))
def J2_prepareEnd (S : St) (x1 : Int32) (x2 : Int32) : Option (Unit × St) :=
 zb (J0_sum S ((2 : Int32))) fun r1 S1 =>
 zb (J0_sum S1 ((3 : Int32))) fun r2 S2 =>
 zlet ((r1 * r2)) fun x5_3 =>
 J2_prepareEnd_24 fu S2 x1 x2 ((0 : Int64)) x5_3 ((1 : Int32))
def J2_prepare_43 (k28 : St → Int32 → Int32 → Option (Unit × St)) : Nat → St → Int32 → Int32 → Int32 → Option (Unit × St)
| 0, _, _, _, _ => none
| n + 1, S, x1, x2, x3 =>
 if (S.1 8 10) < x3 then (
 zlet (x2 + (1 : Int32)) fun x2_1 =>
 k28 S x1 x2_1)
 else (
 zg (zin x2 7) (
 zb (J0_above S ((((S.1 8 9) + x2) + (x3 * (S.1 5 5))))) fun r2 S2 =>
 zg (zin x2 7) (
 zlet (wL S2 11 (x2.toNatClampNeg) ((S.2 11 x2.toNatClampNeg) * r2)) fun S_3 =>
 zlet (x3 + (1 : Int32)) fun x3_4 =>
 J2_prepare_43 k28 n S_3 x1 x2 x3_4)))
def J2_prepare_97 : Nat → St → Int32 → Int32 → Option (Unit × St)
| 0, _, _, _ => none
| n + 1, S, x1, x2 =>
 if (7 : Int32) ≤ x2 then (
 zlet (wI S 8 11 x1) fun S_1 =>
 some ((), S_1))
 else (
 zb (J2_prepareEnd S x2 x1) fun _ S2 =>
 zlet (x2 + (1 : Int32)) fun x2_3 =>
 J2_prepare_97 n S2 x1 x2_3)
def J2_prepare_28 : Nat → St → Int32 → Int32 → Option (Unit × St)
| 0, _, _, _ => none
| n + 1, S, x1, x2 =>
 if (7 : Int32) ≤ x2 then (
 J2_prepare_97 fu S x1 ((0 : Int32)))
 else (
 zg (zin x2 7) (
 zlet (wL S 11 (x2.toNatClampNeg) (1 : Int64)) fun S_1 =>
 J2_prepare_43 (J2_prepare_28 n) fu S_1 x1 x2 ((0 : Int32))))
def J2_prepare (S : St) (x1 : Int32) : Option (Unit × St) :=
 zb (J0_spread_c9 S ((0 : Int32)) ((1 : Int32))) fun _ S1 =>
 zb (J0_spread_c10 S1 ((2 : Int32)) ((3 : Int32))) fun _ S2 =>
 J2_prepare_28 fu S2 x1 ((0 : Int32))
def J2_waysAbove_94 (k47 : St → Int32 → Int32 → Int32 → Int64 → Int64 → Int32 → Option (Int64 × St)) (S : St) (x1 : Int32) (x2 : Int32) (x3 : Int32) (x4 : Int64) (x6 : Int64) (x8 : Int32) : Option (Int64 × St) :=
 zlet (x8 + (1 : Int32)) fun x8_1 =>
 k47 S x1 x2 x3 x4 x6 x8_1
def J2_waysAbove_47 : Nat → St → Int32 → Int32 → Int32 → Int64 → Int64 → Int32 → Option (Int64 × St)
| 0, _, _, _, _, _, _, _ => none
| n + 1, S, x1, x2, x3, x4, x6, x8 =>
 if (7 : Int32) ≤ x8 then (
 zb (J0_sum S ((0 : Int32))) fun r1 S1 =>
 zb (J0_power S1 r1 (((S1.1 8 10) * (x1 - x3)))) fun r2 S2 =>
 some ((x6 * r2), S2))
 else (
 zb (J2_place S x8 x3) fun r3 S3 =>
 zg (zin r3 42) (
 zlet ((S3.2 12 r3.toNatClampNeg)) fun x9_4 =>
 if (lg_cmp x9_4 (0 : Int64)) = 0 then (
 J2_waysAbove_94 (J2_waysAbove_47 n) S3 x1 x2 x3 x4 x6 x8)
 else (
 zb (J2_endsAt S3 ((x1 - x3)) x2 x8 x4) fun r5 S5 =>
 zlet ((x6 + (x9_4 * r5))) fun x6_6 =>
 J2_waysAbove_94 (J2_waysAbove_47 n) S5 x1 x2 x3 x4 x6_6 x8)))
def J2_waysAbove_22 (S : St) (x1 : Int32) (x2 : Int32) (x3 : Int32) : Option (Int64 × St) :=
 zb (J0_sum S ((0 : Int32))) fun r1 S1 =>
 zb (J0_sum S1 ((1 : Int32))) fun r2 S2 =>
 zlet ((r1 * r2)) fun x4_3 =>
 J2_waysAbove_47 fu S2 x1 x2 x3 x4_3 ((0 : Int64)) ((0 : Int32))
def J2_waysAbove (S : St) (x1 : Int32) (x2 : Int32) (x3 : Int32) : Option (Int64 × St) :=
 if x2 ≤ (x1 - x3) then (
 if (S.1 8 11) = x1 then (
 J2_waysAbove_22 S x1 x2 x3)
 else (
 zb (J2_prepare S x1) fun _ S1 =>
 J2_waysAbove_22 S1 x1 x2 x3))
 else (
 some ((0 : Int64), S))
def J2_cheapest_127 (k9 : St → Int32 → Int32 → Int32 → Int32 → Int32 → Int32 → Int32 → Int32 → Int32 → Option (Int32 × St)) (k36 : St → Int32 → Int32 → Int32 → Int32 → Int32 → Int32 → Int32 → Int32 → Int32 → Int64 → Int32 → Option (Int32 × St)) (k46 : St → Int32 → Int32 → Int32 → Int32 → Int32 → Int32 → Int32 → Int32 → Int32 → Int64 → Int32 → Int32 → Option (Int32 × St)) (S : St) (x1 : Int32) (x2 : Int32) (x3 : Int32) (x4 : Int32) (x5 : Int32) (x6 : Int32) (x7 : Int32) (x8 : Int32) (x9 : Int32) (x10 : Int64) (x12 : Int32) (x13 : Int32) : Option (Int32 × St) :=
 zlet (x13 + (1 : Int32)) fun x13_1 =>
 k46 S x1 x2 x3 x4 x5 x6 x7 x8 x9 x10 x12 x13_1
def J2_cheapest_85 (k9 : St → Int32 → Int32 → Int32 → Int32 → Int32 → Int32 → Int32 → Int32 → Int32 → Option (Int32 × St)) (k36 : St → Int32 → Int32 → Int32 → Int32 → Int32 → Int32 → Int32 → Int32 → Int32 → Int64 → Int32 → Option (Int32 × St)) (k46 : St → Int32 → Int32 → Int32 → Int32 → Int32 → Int32 → Int32 → Int32 → Int32 → Int64 → Int32 → Int32 → Option (Int32 × St)) (S : St) (x1 : Int32) (x2 : Int32) (x3 : Int32) (x4 : Int32) (x5 : Int32) (x6 : Int32) (x7 : Int32) (x8 : Int32) (x9 : Int32) (x10 : Int64) (x12 : Int32) (x13 : Int32) (x14 : Int32) : Option (Int32 × St) :=
 zb (J2_waysAbove S x9 x12 x13) fun r1 S1 =>
 zb (J2_isAtMost S1 r1 x10 (x2.toInt64) (x3.toInt64)) fun r2 S2 =>
 if r2 = 0 then (
 J2_cheapest_127 k9 k36 k46 S2 x1 x2 x3 x4 x5 x6 x7 x8 x9 x10 x12 x13)
 else (
 zlet (((((100 : Int32) * x9) + ((10 : Int32) * x12)) + x13)) fun x7_3 =>
 J2_cheapest_127 k9 k36 k46 S2 x1 x2 x3 x4 x5 x6 x7_3 x14 x9 x10 x12 x13)
def J2_cheapest_46 (k9 : St → Int32 → Int32 → Int32 → Int32 → Int32 → Int32 → Int32 → Int32 → Int32 → Option (Int32 × St)) (k36 : St → Int32 → Int32 → Int32 → Int32 → Int32 → Int32 → Int32 → Int32 → Int32 → Int64 → Int32 → Option (Int32 × St)) : Nat → St → Int32 → Int32 → Int32 → Int32 → Int32 → Int32 → Int32 → Int32 → Int32 → Int64 → Int32 → Int32 → Option (Int32 × St)
| 0, _, _, _, _, _, _, _, _, _, _, _, _, _ => none
| n + 1, S, x1, x2, x3, x4, x5, x6, x7, x8, x9, x10, x12, x13 =>
 if x9 < x13 then (
 zlet (x12 + (1 : Int32)) fun x12_1 =>
 k36 S x1 x2 x3 x4 x5 x6 x7 x8 x9 x10 x12_1)
 else (
 zlet ((((x9 * x4) + (x12 * x5)) + (x13 * x6))) fun x14_2 =>
 if x7 = (-1 : Int32) then (
 J2_cheapest_85 k9 k36 (J2_cheapest_46 k9 k36 n) S x1 x2 x3 x4 x5 x6 x7 x8 x9 x10 x12 x13 x14_2)
 else (
 if x8 ≤ x14_2 then (
 J2_cheapest_127 k9 k36 (J2_cheapest_46 k9 k36 n) S x1 x2 x3 x4 x5 x6 x7 x8 x9 x10 x12 x13)
 else (
 J2_cheapest_85 k9 k36 (J2_cheapest_46 k9 k36 n) S x1 x2 x3 x4 x5 x6 x7 x8 x9 x10 x12 x13 x14_2)))
def J2_cheapest_36 (k9 : St → Int32 → Int32 → Int32 → Int32 → Int32 → Int32 → Int32 → Int32 → Int32 → Option (Int32 × St)) : Nat → St → Int32 → Int32 → Int32 → Int32 → Int32 → Int32 → Int32 → Int32 → Int32 → Int64 → Int32 → Option (Int32 × St)
| 0, _, _, _, _, _, _, _, _, _, _, _, _ => none
| n + 1, S, x1, x2, x3, x4, x5, x6, x7, x8, x9, x10, x12 =>
 if x9 < x12 then (
 zlet (x9 + (1 : Int32)) fun x9_1 =>
 k9 S x1 x2 x3 x4 x5 x6 x7 x8 x9_1)
 else (
 J2_cheapest_46 k9 (J2_cheapest_36 k9 n) fu S x1 x2 x3 x4 x5 x6 x7 x8 x9 x10 x12 ((1 : Int32)))
def J2_cheapest_9 : Nat → St → Int32 → Int32 → Int32 → Int32 → Int32 → Int32 → Int32 → Int32 → Int32 → Option (Int32 × St)
| 0, _, _, _, _, _, _, _, _, _, _ => none
| n + 1, S, x1, x2, x3, x4, x5, x6, x7, x8, x9 =>
 if x1 < x9 then (
 some (x7, S))
 else (
 zb (J0_ofCopy S ((S.1 8 10))) fun r1 S1 =>
 zb (J0_power S1 r1 x9) fun r2 S2 =>
 J2_cheapest_36 (J2_cheapest_9 n) fu S2 x1 x2 x3 x4 x5 x6 x7 x8 x9 r2 ((1 : Int32)))
def J2_cheapest (S : St) (x1 : Int32) (x2 : Int32) (x3 : Int32) (x4 : Int32) (x5 : Int32) (x6 : Int32) : Option (Int32 × St) :=
 J2_cheapest_9 fu S x1 x2 x3 x4 x5 x6 ((-1 : Int32)) ((0 : Int32)) ((1 : Int32))
def J2_tellAge (S : St) : Option (Int32 × St) :=
 zb (J2_waysAbove S ((S.1 5 2)) ((S.1 5 3)) ((S.1 5 4))) fun r1 S1 =>
 zb (J0_ofCopy S1 ((S1.1 8 10))) fun r2 S2 =>
 zb (J0_power S2 r2 ((S2.1 5 2))) fun r3 S3 =>
 zb (J0_tellFraction S3 r1 r3) fun r4 S4 =>
 some (r4, S4)
def J2_tellTakes_31 (S : St) (x2 : Int32) (x3 : Int32) (t0 : Int32) : Option (Int32 × St) :=
 zb (J0_spread_c9 S x3 ((x3 + (1 : Int32)))) fun _ S1 =>
 zb (J0_sum S1 x3) fun r2 S2 =>
 zb (J0_sum S2 ((x3 + (1 : Int32)))) fun r3 S3 =>
 zlet ((r2 * r3)) fun x5_4 =>
 zb (J2_endsAt S3 ((S3.1 5 2)) t0 x2 x5_4) fun r5 S5 =>
 zb (J0_power S5 x5_4 ((S5.1 5 2))) fun r6 S6 =>
 zb (J0_tellFraction S6 r5 r6) fun r7 S7 =>
 some (r7, S7)
def J2_tellTakes_9 (S : St) (x1 : Int32) (x2 : Int32) (t0 : Int32) : Option (Int32 × St) :=
 if x1 = 0 then (
 J2_tellTakes_31 S x2 t0 ((S.1 5 4)))
 else (
 J2_tellTakes_31 S x2 t0 ((S.1 5 3)))
def J2_tellTakes (S : St) (x1 : Int32) (x2 : Int32) : Option (Int32 × St) :=
 if x1 = 0 then (
 J2_tellTakes_9 S x1 x2 ((2 : Int32)))
 else (
 J2_tellTakes_9 S x1 x2 ((0 : Int32)))
def J3_isLetter_16 (S : St) (t0 : Int32) : Option (Int32 × St) :=
 zg (zbo t0) (some (t0, S))
def J3_isLetter_15 (S : St) : Option (Int32 × St) :=
 J3_isLetter_16 S ((0 : Int32))
def J3_isLetter (S : St) (x0 : Int32) : Option (Int32 × St) :=
 if x0 < 0 then (
 J3_isLetter_15 S)
 else (
 if (1000 : Int32) ≤ x0 then (
 J3_isLetter_15 S)
 else (
 J3_isLetter_16 S ((1 : Int32))))
def J3_link_84 (S : St) : Option (Unit × St) :=
 some ((), S)
def J3_link_55 (S : St) (x1 : Int32) (x2 : Int32) (x3 : Int32) : Option (Unit × St) :=
 zg (zin x1 1000) (
 zlet (wI S 24 (x1.toNatClampNeg) x3) fun S_1 =>
 zb (J3_isLetter S_1 x2) fun r2 S2 =>
 if r2 = 0 then (
 zlet (wI S2 22 7 x1) fun S_3 =>
 J3_link_84 S_3)
 else (
 zg (zin x2 1000) (
 zlet (wI S2 24 (x2.toNatClampNeg) x1) fun S_4 =>
 J3_link_84 S_4)))
def J3_link_10 : Nat → St → Int32 → Int32 → Int32 → Int32 → Option (Unit × St)
| 0, _, _, _, _, _ => none
| n + 1, S, x1, x2, x3, x4 =>
 if (1000 : Int32) ≤ x4 then (
 J3_link_55 S x1 x2 x3)
 else (
 zb (J3_isLetter S x3) fun r1 S1 =>
 if r1 = 0 then (
 J3_link_55 S1 x1 x2 x3)
 else (
 zg (zin x3 1000) (
 zg (zin x1 1000) (
 if (S1.1 23 x1.toNatClampNeg) < (S1.1 23 x3.toNatClampNeg) then (
 J3_link_55 S1 x1 x2 x3)
 else (
 zg (zin x3 1000) (
 zlet ((S1.1 24 x3.toNatClampNeg)) fun x3_2 =>
 zlet (x4 + (1 : Int32)) fun x4_3 =>
 J3_link_10 n S1 x1 x3 x3_2 x4_3))))))
def J3_link (S : St) (x1 : Int32) : Option (Unit × St) :=
 zlet ((S.1 22 7)) fun x3_1 =>
 J3_link_10 fu S x1 ((-1 : Int32)) x3_1 ((0 : Int32))
def J3_renew (S : St) : Option (Unit × St) :=
 zlet (wI S 22 6 (0 : Int32)) fun S_1 =>
 zlet (wI S_1 22 7 (-1 : Int32)) fun S_2 =>
 zlet (wI S_2 22 8 (0 : Int32)) fun S_3 =>
 some ((), S_3)
def J3_send (S : St) (x1 : Int32) (x2 : Int32) (x3 : Int32) (x4 : Int32) (x5 : Int32) : Option (Unit × St) :=
 if (S.1 22 6) < (1000 : Int32) then (
 zlet (wI S 22 6 ((S.1 22 6) + (1 : Int32))) fun S_1 =>
 zlet ((S.1 22 6)) fun x6_2 =>
 zlet (wI S_1 22 8 ((S_1.1 22 8) + (1 : Int32))) fun S_3 =>
 zg (zin x6_2 1000) (
 zlet (wI S_3 23 (x6_2.toNatClampNeg) x1) fun S_4 =>
 zg (zin x6_2 1000) (
 zlet (wI S_4 26 (x6_2.toNatClampNeg) x2) fun S_5 =>
 zg (zin x6_2 1000) (
 zlet (wI S_5 25 (x6_2.toNatClampNeg) x3) fun S_6 =>
 zg (zin x6_2 1000) (
 zlet (wI S_6 27 (x6_2.toNatClampNeg) x4) fun S_7 =>
 zg (zin x6_2 1000) (
 zlet (wI S_7 28 (x6_2.toNatClampNeg) x5) fun S_8 =>
 zb (J3_link S_8 x6_2) fun _ S9 =>
 some ((), S9)))))))
 else (
 some ((), S))
def J3_takeDue_23 (S : St) : Option (Int32 × St) :=
 some ((-1 : Int32), S)
def J3_takeDue (S : St) (x1 : Int32) : Option (Int32 × St) :=
 zb (J3_isLetter S ((S.1 22 7))) fun r1 S1 =>
 if r1 = 0 then (
 J3_takeDue_23 S1)
 else (
 zg (zin (S1.1 22 7) 1000) (
 if (S1.1 23 ((S1.1 22 7)).toNatClampNeg) ≤ x1 then (
 zlet ((S1.1 22 7)) fun x2_2 =>
 zg (zin x2_2 1000) (
 zlet (wI S1 22 7 (S1.1 24 x2_2.toNatClampNeg)) fun S_3 =>
 zlet (wI S_3 22 8 ((S_3.1 22 8) - (1 : Int32))) fun S_4 =>
 some (x2_2, S_4)))
 else (
 J3_takeDue_23 S1)))
def J3_tickOf (S : St) (x1 : Int32) : Option (Int32 × St) :=
 zg (zin x1 1000) (
 some ((S.1 23 x1.toNatClampNeg), S))
def J4_add_50 : Nat → St → Int32 → Int32 → Option (Int32 × St)
| 0, _, _, _ => none
| n + 1, S, x3, x4 =>
 if (5 : Int32) ≤ x4 then (
 some (x3, S))
 else (
 zg (zin ((x3 * (5 : Int32)) + x4) 200) (
 zlet (wI S 40 ((((x3 * (5 : Int32)) + x4)).toNatClampNeg) (-1 : Int32)) fun S_1 =>
 zlet (x4 + (1 : Int32)) fun x4_2 =>
 J4_add_50 n S_1 x3 x4_2))
def J4_add (S : St) (x1 : Int32) (x2 : Int32) : Option (Int32 × St) :=
 zlet (wI S 32 8 ((S.1 32 8) + (1 : Int32))) fun S_1 =>
 zlet ((S.1 32 8)) fun x3_2 =>
 zg (zin x3_2 40) (
 zlet (wI S_1 33 (x3_2.toNatClampNeg) x1) fun S_3 =>
 zg (zin x3_2 40) (
 zlet (wI S_3 34 (x3_2.toNatClampNeg) x2) fun S_4 =>
 zg (zin x3_2 40) (
 zlet (wI S_4 35 (x3_2.toNatClampNeg) (0 : Int32)) fun S_5 =>
 zg (zin x3_2 40) (
 zlet (wI S_5 36 (x3_2.toNatClampNeg) (-1 : Int32)) fun S_6 =>
 zg (zin x3_2 40) (
 zlet (wI S_6 39 (x3_2.toNatClampNeg) (0 : Int32)) fun S_7 =>
 J4_add_50 fu S_7 x3_2 ((0 : Int32)))))))
def J4_answeredLesser_31 (S : St) (t0 : Int32) : Option (Int32 × St) :=
 zg (zbo t0) (some (t0, S))
def J4_answeredLesser_30 (S : St) : Option (Int32 × St) :=
 J4_answeredLesser_31 S ((0 : Int32))
def J4_answeredLesser (S : St) (x1 : Int32) (x2 : Int32) : Option (Int32 × St) :=
 zg (zin ((x1 * (5 : Int32)) + x2) 200) (
 zlet ((S.1 40 (((x1 * (5 : Int32)) + x2)).toNatClampNeg)) fun x3_1 =>
 if x3_1 = (-1 : Int32) then (
 J4_answeredLesser_30 S)
 else (
 zg (zin x1 40) (
 if (S.1 35 x1.toNatClampNeg) ≤ x3_1 then (
 J4_answeredLesser_30 S)
 else (
 J4_answeredLesser_31 S ((1 : Int32))))))
def J4_has_17 (S : St) (t0 : Int32) : Option (Int32 × St) :=
 zg (zbo t0) (some (t0, S))
def J4_has_16 (S : St) : Option (Int32 × St) :=
 J4_has_17 S ((0 : Int32))
def J4_has (S : St) (x1 : Int32) : Option (Int32 × St) :=
 if x1 < 0 then (
 J4_has_16 S)
 else (
 if (S.1 32 8) ≤ x1 then (
 J4_has_16 S)
 else (
 J4_has_17 S ((1 : Int32))))
def J4_hear_18 (S : St) : Option (Int32 × St) :=
 zg (zbo (0 : Int32)) (some ((0 : Int32), S))
def J4_hear_73 (S : St) (t0 : Int32) : Option (Int32 × St) :=
 zg (zbo t0) (some (t0, S))
def J4_hear (S : St) (x1 : Int32) (x2 : Int32) (x3 : Int32) (x4 : Int32) : Option (Int32 × St) :=
 zb (J4_has S x1) fun r1 S1 =>
 if r1 = 0 then (
 J4_hear_18 S1)
 else (
 zg (zin x1 40) (
 if (S1.1 36 x1.toNatClampNeg) = (-1 : Int32) then (
 zg (zin ((x1 * (5 : Int32)) + x2) 200) (
 zlet (wI S1 40 ((((x1 * (5 : Int32)) + x2)).toNatClampNeg) x3) fun S_2 =>
 zg (zin x1 40) (
 zg (zin x1 40) (
 zlet (wI S_2 35 (x1.toNatClampNeg) (if (S_2.1 35 x1.toNatClampNeg) < x3 then x3 else (S_2.1 35 x1.toNatClampNeg))) fun S_3 =>
 zg (zin x1 40) (
 zg (zin x1 40) (
 zlet (wI S_3 39 (x1.toNatClampNeg) ((S_3.1 39 x1.toNatClampNeg) + (1 : Int32))) fun S_4 =>
 zg (zin x1 40) (
 if (S_4.1 39 x1.toNatClampNeg) = x4 then (
 J4_hear_73 S_4 ((1 : Int32)))
 else (
 J4_hear_73 S_4 ((0 : Int32))))))))))
 else (
 J4_hear_18 S1)))
def J4_isDone_23 (S : St) (t0 : Int32) : Option (Int32 × St) :=
 zg (zbo t0) (some (t0, S))
def J4_isDone_22 (S : St) : Option (Int32 × St) :=
 J4_isDone_23 S ((0 : Int32))
def J4_isDone (S : St) (x1 : Int32) : Option (Int32 × St) :=
 zb (J4_has S x1) fun r1 S1 =>
 if r1 = 0 then (
 J4_isDone_22 S1)
 else (
 zg (zin x1 40) (
 if (S1.1 36 x1.toNatClampNeg) = (-1 : Int32) then (
 J4_isDone_22 S1)
 else (
 J4_isDone_23 S1 ((1 : Int32)))))
def J7_has_18 (S : St) (t0 : Int32) : Option (Int32 × St) :=
 zg (zbo t0) (some (t0, S))
def J7_has_17 (S : St) : Option (Int32 × St) :=
 J7_has_18 S ((0 : Int32))
def J7_has (S : St) (x1 : Int32) : Option (Int32 × St) :=
 if x1 < (1 : Int32) then (
 J7_has_17 S)
 else (
 if (S.1 29 2) < x1 then (
 J7_has_17 S)
 else (
 J7_has_18 S ((1 : Int32))))
def J7_isDone_25 (S : St) (t0 : Int32) : Option (Int32 × St) :=
 zg (zbo t0) (some (t0, S))
def J7_isDone_24 (S : St) : Option (Int32 × St) :=
 J7_isDone_25 S ((0 : Int32))
def J7_isDone (S : St) (x1 : Int32) : Option (Int32 × St) :=
 zb (J7_has S x1) fun r1 S1 =>
 if r1 = 0 then (
 J7_isDone_24 S1)
 else (
 zg (zin (x1 - (1 : Int32)) 40) (
 if (S1.1 30 ((x1 - (1 : Int32))).toNatClampNeg) = (-1 : Int32) then (
 J7_isDone_24 S1)
 else (
 J7_isDone_25 S1 ((1 : Int32)))))
def J7_doneBefore_41 (k7 : St → Int32 → Int32 → Int32 → Option (Int32 × St)) (S : St) (x1 : Int32) (x3 : Int32) (x4 : Int32) : Option (Int32 × St) :=
 zlet (x4 + (1 : Int32)) fun x4_1 =>
 k7 S x1 x3 x4_1
def J7_doneBefore_7 : Nat → St → Int32 → Int32 → Int32 → Option (Int32 × St)
| 0, _, _, _, _ => none
| n + 1, S, x1, x3, x4 =>
 if (S.1 29 2) < x4 then (
 some (x3, S))
 else (
 zb (J7_isDone S x4) fun r1 S1 =>
 if r1 = 0 then (
 J7_doneBefore_41 (J7_doneBefore_7 n) S1 x1 x3 x4)
 else (
 zg (zin (x4 - (1 : Int32)) 40) (
 if x1 ≤ (S1.1 30 ((x4 - (1 : Int32))).toNatClampNeg) then (
 J7_doneBefore_41 (J7_doneBefore_7 n) S1 x1 x3 x4)
 else (
 zlet (x3 + (1 : Int32)) fun x3_2 =>
 J7_doneBefore_41 (J7_doneBefore_7 n) S1 x1 x3_2 x4))))
def J7_doneBefore (S : St) (x1 : Int32) (x2 : Int32) : Option (Int32 × St) :=
 zlet ((x2 + (1 : Int32))) fun x4_1 =>
 J7_doneBefore_7 fu S x1 ((0 : Int32)) x4_1
def J5_finish_117 (S : St) (x1 : Int32) (x2 : Int32) (x3 : Int32) : Option (Unit × St) :=
 zg (zin x3 4) (
 zg (zin x3 4) (
 zlet (wI S 42 (x3.toNatClampNeg) (if (S.1 42 x3.toNatClampNeg) < x2 then x2 else (S.1 42 x3.toNatClampNeg))) fun S_1 =>
 zg (zin x1 40) (
 zlet (wI S_1 37 (x1.toNatClampNeg) x2) fun S_2 =>
 some ((), S_2))))
def J5_finish_81 (S : St) (x1 : Int32) (x2 : Int32) (x3 : Int32) : Option (Unit × St) :=
 zg (zin x3 4) (
 if (S.1 41 x3.toNatClampNeg) = 0 then (
 J5_finish_117 S x1 x2 x3)
 else (
 zg (zin x3 4) (
 if (S.1 42 x3.toNatClampNeg) ≤ x2 then (
 J5_finish_117 S x1 x2 x3)
 else (
 zlet (wI S 17 10 ((S.1 17 10) + (1 : Int32))) fun S_1 =>
 zg (zin x3 4) (
 zlet ((S_1.1 42 x3.toNatClampNeg)) fun x2_2 =>
 J5_finish_117 S_1 x1 x2_2 x3)))))
def J5_finish (S : St) (x1 : Int32) : Option (Unit × St) :=
 zg (zin x1 40) (
 zlet ((S.1 35 x1.toNatClampNeg)) fun x2_1 =>
 zg (zin x1 40) (
 zlet ((S.1 33 x1.toNatClampNeg)) fun x3_2 =>
 zg (zin x1 40) (
 zlet (wI S 36 (x1.toNatClampNeg) (S.1 17 8)) fun S_3 =>
 zg (zin x1 40) (
 zb (J7_doneBefore S_3 ((S_3.1 34 x1.toNatClampNeg)) x2_1) fun r4 S4 =>
 zg (zin x1 40) (
 zlet (wI S4 38 (x1.toNatClampNeg) r4) fun S_5 =>
 zg (zin x1 40) (
 if (S_5.1 38 x1.toNatClampNeg) ≤ 0 then (
 J5_finish_81 S_5 x1 x2_1 x3_2)
 else (
 zlet (wI S_5 17 11 ((S_5.1 17 11) + (1 : Int32))) fun S_6 =>
 J5_finish_81 S_6 x1 x2_1 x3_2)))))))
def J5_mend_50 (k2 : St → Int32 → Int32 → Option (Unit × St)) (S : St) (x1 : Int32) (x2 : Int32) : Option (Unit × St) :=
 zlet (x2 + (1 : Int32)) fun x2_1 =>
 k2 S x1 x2_1
def J5_mend_2 : Nat → St → Int32 → Int32 → Option (Unit × St)
| 0, _, _, _ => none
| n + 1, S, x1, x2 =>
 if (S.1 18 3) ≤ x2 then (
 some ((), S))
 else (
 zb (J4_answeredLesser S x1 x2) fun r1 S1 =>
 if r1 = 0 then (
 J5_mend_50 (J5_mend_2 n) S1 x1 x2)
 else (
 zg (zin x1 40) (
 zb (J3_send S1 (((S1.1 17 8) + (1 : Int32))) ((4 : Int32)) ((S1.1 35 x1.toNatClampNeg)) x2 ((0 : Int32))) fun _ S2 =>
 J5_mend_50 (J5_mend_2 n) S2 x1 x2)))
def J5_mend (S : St) (x1 : Int32) : Option (Unit × St) :=
 J5_mend_2 fu S x1 ((0 : Int32))
def J7_hear_44 (S : St) : Option (Unit × St) :=
 some ((), S)
def J7_hear (S : St) (x1 : Int32) (x2 : Int32) (x3 : Int32) : Option (Unit × St) :=
 zb (J7_has S x1) fun r1 S1 =>
 if r1 = 0 then (
 some ((), S1))
 else (
 zlet ((x1 - (1 : Int32))) fun x4_2 =>
 zg (zin x4_2 40) (
 zg (zin x4_2 40) (
 zlet (wI S1 31 (x4_2.toNatClampNeg) ((S1.1 31 x4_2.toNatClampNeg) + (1 : Int32))) fun S_3 =>
 zg (zin x4_2 40) (
 if (S_3.1 31 x4_2.toNatClampNeg) = x2 then (
 zg (zin x4_2 40) (
 zlet (wI S_3 30 (x4_2.toNatClampNeg) x3) fun S_4 =>
 J7_hear_44 S_4))
 else (
 J7_hear_44 S_3)))))
def J5_come_225 (S : St) : Option (Unit × St) :=
 some ((), S)
def J5_come (S : St) (x1 : Int32) : Option (Unit × St) :=
 zg (zin x1 1000) (
 zlet ((S.1 25 x1.toNatClampNeg)) fun x2_1 =>
 zg (zin x1 1000) (
 zlet ((S.1 27 x1.toNatClampNeg)) fun x3_2 =>
 zg (zin x1 1000) (
 zlet ((S.1 28 x1.toNatClampNeg)) fun x4_3 =>
 zb (J1_has S x3_2) fun r4 S4 =>
 if r4 = 0 then (
 some ((), S4))
 else (
 zg (zin x1 1000) (
 if (S4.1 26 x1.toNatClampNeg) = 0 then (
 zb (J1_take S4 x3_2 x2_1) fun r5 S5 =>
 if r5 = 0 then (
 J5_come_225 S5)
 else (
 zb (J3_send S5 (((S5.1 17 8) + x4_3)) ((1 : Int32)) x2_1 x3_2 ((0 : Int32))) fun _ S6 =>
 J5_come_225 S6))
 else (
 if (S4.1 26 x1.toNatClampNeg) = 1 then (
 zb (J7_hear S4 x2_1 ((S4.1 17 6)) ((S4.1 17 8))) fun _ S7 =>
 J5_come_225 S7)
 else (
 if (S4.1 26 x1.toNatClampNeg) = 2 then (
 zg (zin x3_2 5) (
 if (S4.1 20 x3_2.toNatClampNeg) = 0 then (
 J5_come_225 S4)
 else (
 zg (zin x3_2 5) (
 zb (J3_send S4 (((S4.1 17 8) + x4_3)) ((3 : Int32)) x2_1 x3_2 ((S4.1 19 x3_2.toNatClampNeg))) fun _ S8 =>
 J5_come_225 S8))))
 else (
 if (S4.1 26 x1.toNatClampNeg) = 3 then (
 zb (J4_hear S4 x2_1 x3_2 x4_3 ((S4.1 17 7))) fun r9 S9 =>
 if r9 = 0 then (
 J5_come_225 S9)
 else (
 zb (J5_finish S9 x2_1) fun _ S10 =>
 if (S10.1 17 9) = 0 then (
 J5_come_225 S10)
 else (
 zb (J5_mend S10 x2_1) fun _ S11 =>
 J5_come_225 S11)))
 else (
 zb (J1_take S4 x3_2 x2_1) fun r12 S12 =>
 J5_come_225 S12)))))))))
def J5_renew_34 : Nat → St → Int32 → Int32 → Int32 → Option (Unit × St)
| 0, _, _, _, _ => none
| n + 1, S, x2, x3, x4 =>
 if (4 : Int32) ≤ x4 then (
 zlet (wI S 17 6 x2) fun S_1 =>
 zlet (wI S_1 17 7 x3) fun S_2 =>
 zlet (wI S_2 17 8 (0 : Int32)) fun S_3 =>
 zg (zbo (0 : Int32)) (
 zlet (wI S_3 17 9 (0 : Int32)) fun S_4 =>
 zlet (wI S_4 17 10 (0 : Int32)) fun S_5 =>
 zlet (wI S_5 17 11 (0 : Int32)) fun S_6 =>
 some ((), S_6)))
 else (
 zg (zin x4 4) (
 zlet (wI S 41 (x4.toNatClampNeg) (vp_nar .boolean (0 : Int32))) fun S_7 =>
 zg (zin x4 4) (
 zlet (wI S_7 42 (x4.toNatClampNeg) (0 : Int32)) fun S_8 =>
 zlet (x4 + (1 : Int32)) fun x4_9 =>
 J5_renew_34 n S_8 x2 x3 x4_9)))
def J5_renew (S : St) (x1 : Int32) (x2 : Int32) (x3 : Int32) : Option (Unit × St) :=
 zb (J1_renew S x1) fun _ S1 =>
 zb (J3_renew S1) fun _ S2 =>
 zlet (wI S2 29 2 (0 : Int32)) fun S_3 =>
 zlet (wI S_3 32 8 (0 : Int32)) fun S_4 =>
 J5_renew_34 fu S_4 x2 x3 ((0 : Int32))
def J8_fits_18 (S : St) (t0 : Int32) : Option (Int32 × St) :=
 zg (zbo t0) (some (t0, S))
def J8_fits_17 (S : St) : Option (Int32 × St) :=
 J8_fits_18 S ((0 : Int32))
def J8_fits (S : St) (x0 : Int64) (x2 : Int64) (x4 : Int64) : Option (Int32 × St) :=
 if (lg_cmp x0 x2) < 0 then (
 J8_fits_17 S)
 else (
 if 0 < (lg_cmp x0 x4) then (
 J8_fits_17 S)
 else (
 J8_fits_18 S ((1 : Int32))))
def J6_lack_16 (S : St) : Option (Int32 × St) :=
 some ((1 : Int32), S)
def J6_lack_51 (S : St) (t0 : Int32) : Option (Int32 × St) :=
 some (t0, S)
def J6_lack_46 (S : St) : Option (Int32 × St) :=
 J6_lack_51 S ((3 : Int32))
def J6_lack (S : St) (x1 : Int32) (x2 : Int32) (x3 : Int32) : Option (Int32 × St) :=
 zb (J8_fits S (x1.toInt64) ((0 : Int64)) ((3 : Int64))) fun r1 S1 =>
 if r1 = 0 then (
 J6_lack_16 S1)
 else (
 if 0 ≤ x3 then (
 zg (zin x1 4) (
 if (S1.1 4 x1.toNatClampNeg) = (-1 : Int32) then (
 some ((2 : Int32), S1))
 else (
 if x2 < 0 then (
 J6_lack_46 S1)
 else (
 zg (zin x1 4) (
 if x2 ≤ ((S1.1 4 x1.toNatClampNeg) - x3) then (
 J6_lack_51 S1 ((0 : Int32)))
 else (
 J6_lack_46 S1))))))
 else (
 J6_lack_16 S1))
def J6_at_25 (S : St) (t0 : Int64) : Option (Int64 × St) :=
 some (t0, S)
def J6_at (S : St) (x1 : Int32) (x2 : Int32) : Option (Int64 × St) :=
 zb (J6_lack S x1 x2 ((1 : Int32))) fun r1 S1 =>
 if r1 = 0 then (
 zg (zin ((x1 * (16 : Int32)) + x2) 64) (
 J6_at_25 S1 ((S1.2 2 (((x1 * (16 : Int32)) + x2)).toNatClampNeg))))
 else (
 J6_at_25 S1 ((0 : Int64)))
def J5_sendAll_c1_3 : Nat → St → Int32 → Int32 → Int32 → Int32 → Option (Unit × St)
| 0, _, _, _, _, _ => none
| n + 1, S, x1, x2, x4, x5 =>
 if (S.1 18 3) ≤ x5 then (
 some ((), S))
 else (
 zb (J6_at S x4 x5) fun r1 S1 =>
 zlet (r1.toInt32) fun x6_2 =>
 zb (J6_at S1 x4 (((S1.1 18 3) + x5))) fun r3 S3 =>
 zlet (r3.toInt32) fun x7_4 =>
 zb (J3_send S3 (((S3.1 17 8) + x6_2)) x1 x2 x5 x7_4) fun _ S5 =>
 zlet (x5 + (1 : Int32)) fun x5_6 =>
 J5_sendAll_c1_3 n S5 x1 x2 x4 x5_6)
def J5_sendAll_c1 (S : St) (x1 : Int32) (x2 : Int32) (x4 : Int32) : Option (Unit × St) :=
 J5_sendAll_c1_3 fu S x1 x2 x4 ((0 : Int32))
def J5_workOff_55 (S : St) (x1 : Int32) : Option (Unit × St) :=
 zlet (wI S 17 8 x1) fun S_1 =>
 some ((), S_1)
def J5_workOff_11 : Nat → St → Int32 → Int32 → Int32 → Option (Unit × St)
| 0, _, _, _, _ => none
| n + 1, S, x1, x2, x3 =>
 if (1000 : Int32) ≤ x3 then (
 J5_workOff_55 S x1)
 else (
 if x2 = (-1 : Int32) then (
 J5_workOff_55 S x1)
 else (
 zb (J3_tickOf S x2) fun r1 S1 =>
 zlet (wI S1 17 8 r1) fun S_2 =>
 zb (J5_come S_2 x2) fun _ S3 =>
 zb (J3_takeDue S3 x1) fun r4 S4 =>
 zlet (x3 + (1 : Int32)) fun x3_5 =>
 J5_workOff_11 n S4 x1 r4 x3_5))
def J5_workOff (S : St) (x1 : Int32) : Option (Unit × St) :=
 zb (J3_takeDue S x1) fun r1 S1 =>
 J5_workOff_11 fu S1 x1 r1 ((0 : Int32))
def J6_cut (S : St) (x0 : Int32) (x1 : Int64) : Option (Int64 × St) :=
 if x0 = 0 then (
 some (((x1.toInt32).toInt8.toInt32).toInt64, S))
 else (
 if x0 = 1 then (
 some (((x1.toInt32).toInt16.toInt32).toInt64, S))
 else (
 if x0 = 2 then (
 some ((x1.toInt32).toInt64, S))
 else (
 some (x1, S))))
def J6_lay_17 : Nat → St → Int32 → Int32 → Option (Unit × St)
| 0, _, _, _ => none
| n + 1, S, x1, x4 =>
 if (16 : Int32) ≤ x4 then (
 some ((), S))
 else (
 zg (zin ((x1 * (16 : Int32)) + x4) 64) (
 zlet (wL S 2 ((((x1 * (16 : Int32)) + x4)).toNatClampNeg) (0 : Int64)) fun S_1 =>
 zlet (x4 + (1 : Int32)) fun x4_2 =>
 J6_lay_17 n S_1 x1 x4_2))
def J6_lay (S : St) (x1 : Int32) (x2 : Int32) (x3 : Int32) : Option (Unit × St) :=
 zg (zin x1 4) (
 zlet (wI S 3 (x1.toNatClampNeg) x2) fun S_1 =>
 zg (zin x1 4) (
 zlet (wI S_1 4 (x1.toNatClampNeg) x3) fun S_2 =>
 J6_lay_17 fu S_2 x1 ((0 : Int32))))
def J6_move_34 : Nat → St → Int32 → Int32 → Int32 → Int32 → Option (Unit × St)
| 0, _, _, _, _, _ => none
| n + 1, S, x3, x5, x6, x7 =>
 if (x6 + x5) ≤ x7 then (
 some ((), S))
 else (
 zg (zin x3 4) (
 zg (zin x7 64) (
 zb (J6_cut S ((S.1 3 x3.toNatClampNeg)) ((S.2 2 x7.toNatClampNeg))) fun r1 S1 =>
 zg (zin x7 64) (
 zlet (wL S1 2 (x7.toNatClampNeg) r1) fun S_2 =>
 zlet (x7 + (1 : Int32)) fun x7_3 =>
 J6_move_34 n S_2 x3 x5 x6 x7_3))))
def J6_move (S : St) (x1 : Int32) (x2 : Int32) (x3 : Int32) (x4 : Int32) (x5 : Int32) : Option (Unit × St) :=
 zlet (((x3 * (16 : Int32)) + x4)) fun x6_1 =>
 zg (zcpk ((x1 * (16 : Int32)) + x2) x6_1 x5 64) (
 zlet (wC S 2 (va_cpy (S.2 2) (S.2 2) (((x1 * (16 : Int32)) + x2)).toNatClampNeg (x6_1).toNatClampNeg (x5).toNatClampNeg)) fun S_2 =>
 J6_move_34 fu S_2 x3 x5 x6_1 x6_1)
def J6_put (S : St) (x1 : Int32) (x2 : Int32) (x3 : Int64) : Option (Unit × St) :=
 zg (zin x1 4) (
 zb (J6_cut S ((S.1 3 x1.toNatClampNeg)) x3) fun r1 S1 =>
 zg (zin ((x1 * (16 : Int32)) + x2) 64) (
 zlet (wL S1 2 ((((x1 * (16 : Int32)) + x2)).toNatClampNeg) r1) fun S_2 =>
 some ((), S_2)))
def J6_takeAway (S : St) (x1 : Int32) : Option (Unit × St) :=
 zg (zin x1 4) (
 zlet (wI S 4 (x1.toNatClampNeg) (-1 : Int32)) fun S_1 =>
 some ((), S_1))
def J7_add (S : St) : Option (Int32 × St) :=
 zg (zin (S.1 29 2) 40) (
 zlet (wI S 31 (((S.1 29 2)).toNatClampNeg) (0 : Int32)) fun S_1 =>
 zg (zin (S_1.1 29 2) 40) (
 zlet (wI S_1 30 (((S_1.1 29 2)).toNatClampNeg) (-1 : Int32)) fun S_2 =>
 zlet (wI S_2 29 2 ((S_2.1 29 2) + (1 : Int32))) fun S_3 =>
 some ((S_3.1 29 2), S_3)))
def J8_runLack_18 (S : St) (t0 : Int32) : Option (Int32 × St) :=
 some (t0, S)
def J8_runLack (S : St) (x1 : Int32) : Option (Int32 × St) :=
 if x1 = 0 then (
 some ((1 : Int32), S))
 else (
 if (S.1 0 4) = 0 then (
 J8_runLack_18 S ((4 : Int32)))
 else (
 J8_runLack_18 S ((0 : Int32))))
def J8_actLack_120 (S : St) (t0 : Int32) : Option (Int32 × St) :=
 some (t0, S)
def J8_actLack_73 : Nat → St → Int32 → Int32 → Int32 → Int32 → Option (Int32 × St)
| 0, _, _, _, _, _ => none
| n + 1, S, x1, x3, x5, x6 =>
 if x5 ≤ x6 then (
 if (40 : Int32) ≤ x3 then (
 J8_actLack_120 S ((6 : Int32)))
 else (
 J8_actLack_120 S ((0 : Int32))))
 else (
 zb (J6_at S x1 x6) fun r1 S1 =>
 zb (J8_fits S1 r1 ((0 : Int64)) ((1000 : Int64))) fun r2 S2 =>
 if r2 = 0 then (
 some ((1 : Int32), S2))
 else (
 zlet (x6 + (1 : Int32)) fun x6_3 =>
 J8_actLack_73 n S2 x1 x3 x5 x6_3))
def J8_actLack_22 (S : St) (x1 : Int32) (x3 : Int32) (t0 : Int32) : Option (Int32 × St) :=
 zb (J8_runLack S t0) fun r1 S1 =>
 if r1 = 0 then (
 zlet (((2 : Int32) * (S1.1 18 3))) fun x5_2 =>
 zb (J6_lack S1 x1 ((0 : Int32)) x5_2) fun r3 S3 =>
 if r3 = 0 then (
 J8_actLack_73 fu S3 x1 x3 x5_2 ((0 : Int32)))
 else (
 some (r3, S3)))
 else (
 some (r1, S1))
def J8_actLack_21 (S : St) (x1 : Int32) (x3 : Int32) : Option (Int32 × St) :=
 J8_actLack_22 S x1 x3 ((0 : Int32))
def J8_actLack (S : St) (x1 : Int32) (x2 : Int32) (x3 : Int32) : Option (Int32 × St) :=
 if x2 = 0 then (
 J8_actLack_21 S x1 x3)
 else (
 zb (J8_fits S (x1.toInt64) ((0 : Int64)) ((3 : Int64))) fun r1 S1 =>
 if r1 = 0 then (
 J8_actLack_21 S1 x1 x3)
 else (
 J8_actLack_22 S1 x1 x3 ((1 : Int32))))
def J8_passes_14 (S : St) (t0 : Int32) : Option (Int32 × St) :=
 zg (zbo t0) (some (t0, S))
def J8_passes (S : St) (x1 : Int32) : Option (Int32 × St) :=
 zlet (wI S 0 5 x1) fun S_1 =>
 if x1 = 0 then (
 J8_passes_14 S_1 ((1 : Int32)))
 else (
 J8_passes_14 S_1 ((0 : Int32)))
def J8_begin (S : St) : Option (Int32 × St) :=
 zg (zbo (1 : Int32)) (
 zlet (wI S 0 4 (1 : Int32)) fun S_1 =>
 zb (J5_renew S_1 ((S_1.1 5 2)) ((S_1.1 5 3)) ((S_1.1 5 4))) fun _ S2 =>
 zb (J8_passes S2 ((0 : Int32))) fun r3 S3 =>
 zg (zbo r3) (some (r3, S3)))
def J8_bottom (S : St) : Option (Int64 × St) :=
 some ((S.2 5 7), S)
def J8_fitsRead_40 (S : St) (t0 : Int32) : Option (Int32 × St) :=
 zg (zbo t0) (some (t0, S))
def J8_fitsRead_39 (S : St) : Option (Int32 × St) :=
 J8_fitsRead_40 S ((0 : Int32))
def J8_fitsRead (S : St) (x0 : Int32) (x1 : Int32) (x2 : Int32) : Option (Int32 × St) :=
 zb (J8_fits S (x0.toInt64) ((0 : Int64)) ((100 : Int64))) fun r1 S1 =>
 if r1 = 0 then (
 J8_fitsRead_39 S1)
 else (
 zb (J8_fits S1 (x1.toInt64) ((0 : Int64)) ((3 : Int64))) fun r2 S2 =>
 if r2 = 0 then (
 J8_fitsRead_39 S2)
 else (
 zb (J8_fits S2 (x2.toInt64) ((0 : Int64)) (x1.toInt64)) fun r3 S3 =>
 if r3 = 0 then (
 J8_fitsRead_39 S3)
 else (
 J8_fitsRead_40 S3 ((1 : Int32)))))
def J8_choose_164 (S : St) (x11 : Int32) (t0 : Int32) : Option (Int32 × St) :=
 zb (J8_passes S t0) fun r1 S1 =>
 some (x11, S1)
def J8_choose_113 (S : St) (x1 : Int32) (x2 : Int32) (x4 : Int32) (x5 : Int32) (x6 : Int32) (x7 : Int32) (x8 : Int32) (x9 : Int32) (t0 : Int32) : Option (Int32 × St) :=
 zb (J8_passes S t0) fun r1 S1 =>
 if r1 = 0 then (
 some ((-1 : Int32), S1))
 else (
 zb (J2_ask S1 x2 x4) fun _ S2 =>
 zb (J2_cheapest S2 x1 x5 x6 x7 x8 x9) fun r3 S3 =>
 if r3 = (-1 : Int32) then (
 J8_choose_164 S3 r3 ((8 : Int32)))
 else (
 J8_choose_164 S3 r3 ((0 : Int32))))
def J8_choose_92 (S : St) (x1 : Int32) (x2 : Int32) (x3 : Int32) (x4 : Int32) (x5 : Int32) (x6 : Int32) (x7 : Int32) (x8 : Int32) (x9 : Int32) (t0 : Int32) : Option (Int32 × St) :=
 if t0 = 0 then (
 J8_choose_113 S x1 x2 x4 x5 x6 x7 x8 x9 ((1 : Int32)))
 else (
 zb (J0_greatness S x1 x3) fun r1 S1 =>
 J8_choose_113 S1 x1 x2 x4 x5 x6 x7 x8 x9 r1)
def J8_choose_91 (S : St) (x1 : Int32) (x2 : Int32) (x3 : Int32) (x4 : Int32) (x5 : Int32) (x6 : Int32) (x7 : Int32) (x8 : Int32) (x9 : Int32) : Option (Int32 × St) :=
 J8_choose_92 S x1 x2 x3 x4 x5 x6 x7 x8 x9 ((0 : Int32))
def J8_choose (S : St) (x1 : Int32) (x2 : Int32) (x3 : Int32) (x4 : Int32) (x5 : Int32) (x6 : Int32) (x7 : Int32) (x8 : Int32) (x9 : Int32) : Option (Int32 × St) :=
 zb (J8_fits S (x1.toInt64) ((1 : Int64)) ((5 : Int64))) fun r1 S1 =>
 if r1 = 0 then (
 J8_choose_91 S1 x1 x2 x3 x4 x5 x6 x7 x8 x9)
 else (
 zb (J8_fitsRead S1 x2 x3 x4) fun r2 S2 =>
 if r2 = 0 then (
 J8_choose_91 S2 x1 x2 x3 x4 x5 x6 x7 x8 x9)
 else (
 zb (J8_fits S2 (x6.toInt64) ((1 : Int64)) ((1000000 : Int64))) fun r3 S3 =>
 if r3 = 0 then (
 J8_choose_91 S3 x1 x2 x3 x4 x5 x6 x7 x8 x9)
 else (
 zb (J8_fits S3 (x5.toInt64) ((0 : Int64)) (x6.toInt64)) fun r4 S4 =>
 if r4 = 0 then (
 J8_choose_91 S4 x1 x2 x3 x4 x5 x6 x7 x8 x9)
 else (
 zb (J8_fits S4 (x7.toInt64) ((0 : Int64)) ((1000 : Int64))) fun r5 S5 =>
 if r5 = 0 then (
 J8_choose_91 S5 x1 x2 x3 x4 x5 x6 x7 x8 x9)
 else (
 zb (J8_fits S5 (x8.toInt64) ((0 : Int64)) ((1000 : Int64))) fun r6 S6 =>
 if r6 = 0 then (
 J8_choose_91 S6 x1 x2 x3 x4 x5 x6 x7 x8 x9)
 else (
 zb (J8_fits S6 (x9.toInt64) ((0 : Int64)) ((1000 : Int64))) fun r7 S7 =>
 if r7 = 0 then (
 J8_choose_91 S7 x1 x2 x3 x4 x5 x6 x7 x8 x9)
 else (
 J8_choose_92 S7 x1 x2 x3 x4 x5 x6 x7 x8 x9 ((1 : Int32)))))))))
def J8_first_19 (S : St) (t0 : Int32) : Option (Int32 × St) :=
 some (t0, S)
def J8_first (S : St) (x0 : Int32) (x1 : Int32) : Option (Int32 × St) :=
 if x0 = 0 then (
 some (x1, S))
 else (
 if x1 = 0 then (
 J8_first_19 S x0)
 else (
 J8_first_19 S ((if x1 < x0 then x1 else x0))))
def J8_copy_14 (S : St) (x1 : Int32) (x2 : Int32) (x3 : Int32) (x4 : Int32) (x5 : Int32) (t0 : Int32) : Option (Int32 × St) :=
 zb (J6_lack S x1 x2 x5) fun r1 S1 =>
 zb (J6_lack S1 x3 x4 x5) fun r2 S2 =>
 zb (J8_first S2 r1 r2) fun r3 S3 =>
 zb (J8_first S3 t0 r3) fun r4 S4 =>
 zb (J8_passes S4 r4) fun r5 S5 =>
 if r5 = 0 then (
 zg (zbo (0 : Int32)) (some ((0 : Int32), S5)))
 else (
 zb (J6_move S5 x1 x2 x3 x4 x5) fun _ S6 =>
 zg (zbo (1 : Int32)) (some ((1 : Int32), S6)))
def J8_copy_9 (S : St) (x1 : Int32) (x2 : Int32) (x3 : Int32) (x4 : Int32) (x5 : Int32) : Option (Int32 × St) :=
 J8_copy_14 S x1 x2 x3 x4 x5 ((1 : Int32))
def J8_copy (S : St) (x1 : Int32) (x2 : Int32) (x3 : Int32) (x4 : Int32) (x5 : Int32) : Option (Int32 × St) :=
 if x2 < 0 then (
 J8_copy_9 S x1 x2 x3 x4 x5)
 else (
 if 0 ≤ x4 then (
 J8_copy_14 S x1 x2 x3 x4 x5 ((0 : Int32)))
 else (
 J8_copy_9 S x1 x2 x3 x4 x5))
def J8_isCopy_30 (S : St) (t0 : Int32) : Option (Int32 × St) :=
 zg (zbo t0) (some (t0, S))
def J8_isCopy (S : St) (x1 : Int32) : Option (Int32 × St) :=
 if (S.1 0 4) = 0 then (
 zb (J8_fits S (x1.toInt64) ((0 : Int64)) ((4 : Int64))) fun r1 S1 =>
 J8_isCopy_30 S1 r1)
 else (
 zb (J1_has S x1) fun r2 S2 =>
 J8_isCopy_30 S2 r2)
def J8_copyLack_37 (S : St) (t0 : Int32) : Option (Int32 × St) :=
 some (t0, S)
def J8_copyLack (S : St) (x1 : Int32) (x2 : Int32) : Option (Int32 × St) :=
 zb (J8_isCopy S x1) fun r1 S1 =>
 zb (J8_runLack S1 r1) fun r2 S2 =>
 if r2 = 0 then (
 zg (zin x1 5) (
 if (S2.1 20 x1.toNatClampNeg) = x2 then (
 J8_copyLack_37 S2 ((0 : Int32)))
 else (
 J8_copyLack_37 S2 ((5 : Int32)))))
 else (
 some (r2, S2))
def J8_done_60 (S : St) (x1 : Int32) (t0 : Int32) : Option (Int32 × St) :=
 zb (J8_passes S t0) fun r1 S1 =>
 if r1 = 0 then (
 some ((-1 : Int32), S1))
 else (
 zg (zin (x1 - (1 : Int32)) 40) (
 some ((S1.1 30 ((x1 - (1 : Int32))).toNatClampNeg), S1)))
def J8_done_59 (S : St) (x1 : Int32) (x2 : Int32) : Option (Int32 × St) :=
 J8_done_60 S x1 x2
def J8_done_28 (S : St) (x1 : Int32) (t0 : Int64) (t1 : Int64) (t2 : Int64) : Option (Int32 × St) :=
 zb (J8_fits S t2 t1 t0) fun r1 S1 =>
 zb (J8_runLack S1 r1) fun r2 S2 =>
 if r2 = 0 then (
 zb (J7_isDone S2 x1) fun r3 S3 =>
 if r3 = 0 then (
 J8_done_60 S3 x1 ((7 : Int32)))
 else (
 J8_done_59 S3 x1 r2))
 else (
 J8_done_59 S2 x1 r2)
def J8_done (S : St) (x1 : Int32) : Option (Int32 × St) :=
 if (S.1 0 4) = 0 then (
 J8_done_28 S x1 ((40 : Int64)) ((1 : Int64)) (x1.toInt64))
 else (
 J8_done_28 S x1 (((S.1 29 2)).toInt64) ((1 : Int64)) (x1.toInt64))
def J8_down (S : St) (x1 : Int32) (x2 : Int32) : Option (Int32 × St) :=
 zb (J8_copyLack S x1 ((1 : Int32))) fun r1 S1 =>
 zb (J8_passes S1 r1) fun r2 S2 =>
 if r2 = 0 then (
 zg (zbo (0 : Int32)) (some ((0 : Int32), S2)))
 else (
 zb (J1_fall S2 x1 x2) fun _ S3 =>
 zg (zbo (1 : Int32)) (some ((1 : Int32), S3)))
def J8_drop (S : St) (x1 : Int32) : Option (Int32 × St) :=
 zb (J6_lack S x1 ((0 : Int32)) ((0 : Int32))) fun r1 S1 =>
 zb (J8_passes S1 r1) fun r2 S2 =>
 if r2 = 0 then (
 zg (zbo (0 : Int32)) (some ((0 : Int32), S2)))
 else (
 zb (J6_takeAway S2 x1) fun _ S3 =>
 zg (zbo (1 : Int32)) (some ((1 : Int32), S3)))
def J8_gap_18 (S : St) (x1 : Int32) (t0 : Int32) : Option (Int32 × St) :=
 zb (J8_passes S t0) fun r1 S1 =>
 if r1 = 0 then (
 zg (zbo (0 : Int32)) (some ((0 : Int32), S1)))
 else (
 zlet (wI S1 5 5 x1) fun S_2 =>
 zg (zbo (1 : Int32)) (some ((1 : Int32), S_2)))
def J8_gap (S : St) (x1 : Int32) : Option (Int32 × St) :=
 zb (J8_fits S (x1.toInt64) ((0 : Int64)) ((100 : Int64))) fun r1 S1 =>
 if r1 = 0 then (
 J8_gap_18 S1 x1 ((1 : Int32)))
 else (
 J8_gap_18 S1 x1 ((0 : Int32)))
def J8_go (S : St) (x1 : Int32) : Option (Int32 × St) :=
 zb (J8_fits S (x1.toInt64) ((0 : Int64)) ((10000 : Int64))) fun r1 S1 =>
 zb (J8_runLack S1 r1) fun r2 S2 =>
 zb (J8_passes S2 r2) fun r3 S3 =>
 if r3 = 0 then (
 some ((-1 : Int32), S3))
 else (
 zb (J5_workOff S3 (((S3.1 17 8) + x1))) fun _ S4 =>
 some ((S4.1 17 8), S4))
def J8_got_82 (S : St) (x1 : Int32) (x2 : Int32) (t0 : Int32) : Option (Int32 × St) :=
 zb (J8_passes S t0) fun r1 S1 =>
 if r1 = 0 then (
 some ((-1 : Int32), S1))
 else (
 if x2 = 0 then (
 zg (zin x1 40) (
 some ((S1.1 36 x1.toNatClampNeg), S1)))
 else (
 if x2 = 1 then (
 zg (zin x1 40) (
 some ((S1.1 37 x1.toNatClampNeg), S1)))
 else (
 zg (zin x1 40) (
 some ((S1.1 38 x1.toNatClampNeg), S1)))))
def J8_got_81 (S : St) (x1 : Int32) (x2 : Int32) (x3 : Int32) : Option (Int32 × St) :=
 J8_got_82 S x1 x2 x3
def J8_got_53 (S : St) (x1 : Int32) (x2 : Int32) (t0 : Int32) : Option (Int32 × St) :=
 zb (J8_runLack S t0) fun r1 S1 =>
 if r1 = 0 then (
 zb (J4_isDone S1 x1) fun r2 S2 =>
 if r2 = 0 then (
 J8_got_82 S2 x1 x2 ((7 : Int32)))
 else (
 J8_got_81 S2 x1 x2 r1))
 else (
 J8_got_81 S1 x1 x2 r1)
def J8_got_52 (S : St) (x1 : Int32) (x2 : Int32) : Option (Int32 × St) :=
 J8_got_53 S x1 x2 ((0 : Int32))
def J8_got_30 (S : St) (x1 : Int32) (x2 : Int32) (t0 : Int64) (t1 : Int64) (t2 : Int64) : Option (Int32 × St) :=
 zb (J8_fits S t2 t1 t0) fun r1 S1 =>
 if r1 = 0 then (
 J8_got_52 S1 x1 x2)
 else (
 zb (J8_fits S1 (x2.toInt64) ((0 : Int64)) ((2 : Int64))) fun r2 S2 =>
 if r2 = 0 then (
 J8_got_52 S2 x1 x2)
 else (
 J8_got_53 S2 x1 x2 ((1 : Int32))))
def J8_got (S : St) (x1 : Int32) (x2 : Int32) : Option (Int32 × St) :=
 if (S.1 0 4) = 0 then (
 J8_got_30 S x1 x2 ((39 : Int64)) ((0 : Int64)) (x1.toInt64))
 else (
 J8_got_30 S x1 x2 ((((S.1 32 8) - (1 : Int32))).toInt64) ((0 : Int64)) (x1.toInt64))
def J8_keep (S : St) (x1 : Int32) (x2 : Int32) : Option (Int32 × St) :=
 zb (J8_fits S (x1.toInt64) ((0 : Int64)) ((3 : Int64))) fun r1 S1 =>
 zb (J8_runLack S1 r1) fun r2 S2 =>
 zb (J8_passes S2 r2) fun r3 S3 =>
 if r3 = 0 then (
 zg (zbo (0 : Int32)) (some ((0 : Int32), S3)))
 else (
 zg (zin x1 4) (
 zlet (wI S3 41 (x1.toNatClampNeg) (vp_nar .boolean x2)) fun S_4 =>
 zg (zbo (1 : Int32)) (some ((1 : Int32), S_4))))
def J8_mending (S : St) (x1 : Int32) : Option (Int32 × St) :=
 zb (J8_runLack S ((1 : Int32))) fun r1 S1 =>
 zb (J8_passes S1 r1) fun r2 S2 =>
 if r2 = 0 then (
 zg (zbo (0 : Int32)) (some ((0 : Int32), S2)))
 else (
 zg (zbo x1) (
 zlet (wI S2 17 9 x1) fun S_3 =>
 zg (zbo (1 : Int32)) (some ((1 : Int32), S_3))))
def J8_none (S : St) : Option (Int32 × St) :=
 zb (J8_passes S ((10 : Int32))) fun r1 S1 =>
 zg (zbo r1) (some (r1, S1))
def J8_numbers_52 (S : St) (x1 : Int32) (x2 : Int32) (x3 : Int32) (t0 : Int32) : Option (Int32 × St) :=
 zb (J8_passes S t0) fun r1 S1 =>
 if r1 = 0 then (
 zg (zbo (0 : Int32)) (some ((0 : Int32), S1)))
 else (
 zlet (wI S1 5 2 x1) fun S_2 =>
 zlet (wI S_2 5 3 x2) fun S_3 =>
 zlet (wI S_3 5 4 x3) fun S_4 =>
 zg (zbo (1 : Int32)) (some ((1 : Int32), S_4)))
def J8_numbers_39 (S : St) (x1 : Int32) (x2 : Int32) (x3 : Int32) (t0 : Int32) : Option (Int32 × St) :=
 if t0 = 0 then (
 J8_numbers_52 S x1 x2 x3 ((1 : Int32)))
 else (
 J8_numbers_52 S x1 x2 x3 ((0 : Int32)))
def J8_numbers_38 (S : St) (x1 : Int32) (x2 : Int32) (x3 : Int32) : Option (Int32 × St) :=
 J8_numbers_39 S x1 x2 x3 ((0 : Int32))
def J8_numbers (S : St) (x1 : Int32) (x2 : Int32) (x3 : Int32) : Option (Int32 × St) :=
 zb (J8_fits S (x1.toInt64) ((1 : Int64)) ((5 : Int64))) fun r1 S1 =>
 if r1 = 0 then (
 J8_numbers_38 S1 x1 x2 x3)
 else (
 zb (J8_fits S1 (x2.toInt64) ((1 : Int64)) (x1.toInt64)) fun r2 S2 =>
 if r2 = 0 then (
 J8_numbers_38 S2 x1 x2 x3)
 else (
 zb (J8_fits S2 (x3.toInt64) ((1 : Int64)) (x1.toInt64)) fun r3 S3 =>
 if r3 = 0 then (
 J8_numbers_38 S3 x1 x2 x3)
 else (
 J8_numbers_39 S3 x1 x2 x3 ((1 : Int32)))))
def J8_odds_42 (S : St) (x1 : Int32) (x3 : Int32) (t0 : Int32) : Option (Int32 × St) :=
 zb (J8_passes S t0) fun r1 S1 =>
 if r1 = 0 then (
 some ((-1 : Int32), S1))
 else (
 zb (J2_ask S1 x1 x3) fun _ S2 =>
 zb (J2_tellAge S2) fun r3 S3 =>
 some (r3, S3))
def J8_odds_14 (S : St) (x1 : Int32) (x2 : Int32) (x3 : Int32) (t0 : Int32) : Option (Int32 × St) :=
 if t0 = 0 then (
 zb (J0_greatness S ((S.1 5 2)) x2) fun r1 S1 =>
 J8_odds_42 S1 x1 x3 r1)
 else (
 J8_odds_42 S x1 x3 t0)
def J8_odds (S : St) (x1 : Int32) (x2 : Int32) (x3 : Int32) : Option (Int32 × St) :=
 zb (J8_fitsRead S x1 x2 x3) fun r1 S1 =>
 if r1 = 0 then (
 J8_odds_14 S1 x1 x2 x3 ((1 : Int32)))
 else (
 J8_odds_14 S1 x1 x2 x3 ((0 : Int32)))
def J8_of_97 (S : St) (t0 : Int32) : Option (Int32 × St) :=
 some (t0, S)
def J8_of_27 (S : St) (x1 : Int32) (x2 : Int32) (t0 : Int32) : Option (Int32 × St) :=
 zb (J8_runLack S t0) fun r1 S1 =>
 zb (J8_passes S1 r1) fun r2 S2 =>
 if r2 = 0 then (
 some ((-1 : Int32), S2))
 else (
 if x2 = 0 then (
 zg (zin x1 5) (
 some ((S2.1 19 x1.toNatClampNeg), S2)))
 else (
 if x2 = 1 then (
 zg (zin x1 5) (
 if (S2.1 20 x1.toNatClampNeg) = 0 then (
 J8_of_97 S2 ((0 : Int32)))
 else (
 J8_of_97 S2 ((1 : Int32)))))
 else (
 zb (J1_keptBy S2 x1) fun r3 S3 =>
 some (r3, S3))))
def J8_of_26 (S : St) (x1 : Int32) (x2 : Int32) : Option (Int32 × St) :=
 J8_of_27 S x1 x2 ((0 : Int32))
def J8_of (S : St) (x1 : Int32) (x2 : Int32) : Option (Int32 × St) :=
 zb (J8_isCopy S x1) fun r1 S1 =>
 if r1 = 0 then (
 J8_of_26 S1 x1 x2)
 else (
 zb (J8_fits S1 (x2.toInt64) ((0 : Int64)) ((2 : Int64))) fun r2 S2 =>
 if r2 = 0 then (
 J8_of_26 S2 x1 x2)
 else (
 J8_of_27 S2 x1 x2 ((1 : Int32))))
def J8_read (S : St) (x1 : Int32) (x2 : Int32) : Option (Int64 × St) :=
 zb (J6_lack S x1 x2 ((1 : Int32))) fun r1 S1 =>
 zb (J8_passes S1 r1) fun r2 S2 =>
 if r2 = 0 then (
 some ((-1 : Int64), S2))
 else (
 zb (J6_at S2 x1 x2) fun r3 S3 =>
 some (r3, S3))
def J8_reads (S : St) (x1 : Int32) (x2 : Int32) : Option (Int32 × St) :=
 zb (J8_fits S (x2.toInt64) ((0 : Int64)) ((3 : Int64))) fun r1 S1 =>
 zb (J8_actLack S1 x1 r1 ((S1.1 32 8))) fun r2 S2 =>
 zb (J8_passes S2 r2) fun r3 S3 =>
 if r3 = 0 then (
 some ((-1 : Int32), S3))
 else (
 zb (J4_add S3 x2 ((S3.1 17 8))) fun r4 S4 =>
 zb (J5_sendAll_c1 S4 ((2 : Int32)) r4 x1) fun _ S5 =>
 zb (J5_workOff S5 ((S5.1 17 8))) fun _ S6 =>
 some (r4, S6))
def J8_sheet_54 (S : St) (x1 : Int32) (x2 : Int32) (x3 : Int32) (t0 : Int32) : Option (Int32 × St) :=
 zb (J8_passes S t0) fun r1 S1 =>
 if r1 = 0 then (
 zg (zbo (0 : Int32)) (some ((0 : Int32), S1)))
 else (
 zb (J6_lay S1 x1 x2 x3) fun _ S2 =>
 zg (zbo (1 : Int32)) (some ((1 : Int32), S2)))
def J8_sheet_41 (S : St) (x1 : Int32) (x2 : Int32) (x3 : Int32) (t0 : Int32) : Option (Int32 × St) :=
 if t0 = 0 then (
 J8_sheet_54 S x1 x2 x3 ((1 : Int32)))
 else (
 J8_sheet_54 S x1 x2 x3 ((0 : Int32)))
def J8_sheet_40 (S : St) (x1 : Int32) (x2 : Int32) (x3 : Int32) : Option (Int32 × St) :=
 J8_sheet_41 S x1 x2 x3 ((0 : Int32))
def J8_sheet (S : St) (x1 : Int32) (x2 : Int32) (x3 : Int32) : Option (Int32 × St) :=
 zb (J8_fits S (x1.toInt64) ((0 : Int64)) ((3 : Int64))) fun r1 S1 =>
 if r1 = 0 then (
 J8_sheet_40 S1 x1 x2 x3)
 else (
 zb (J8_fits S1 (x2.toInt64) ((0 : Int64)) ((3 : Int64))) fun r2 S2 =>
 if r2 = 0 then (
 J8_sheet_40 S2 x1 x2 x3)
 else (
 zb (J8_fits S2 (x3.toInt64) ((0 : Int64)) ((16 : Int64))) fun r3 S3 =>
 if r3 = 0 then (
 J8_sheet_40 S3 x1 x2 x3)
 else (
 J8_sheet_41 S3 x1 x2 x3 ((1 : Int32)))))
def J8_status (S : St) : Option (Int32 × St) :=
 some ((S.1 0 5), S)
def J8_sweep_10 (S : St) (x1 : Int32) (x2 : Int32) (t0 : Int32) : Option (Int32 × St) :=
 zb (J8_copyLack S x1 ((1 : Int32))) fun r1 S1 =>
 zb (J8_copyLack S1 x2 ((1 : Int32))) fun r2 S2 =>
 zb (J8_first S2 r1 r2) fun r3 S3 =>
 zb (J8_first S3 t0 r3) fun r4 S4 =>
 zb (J8_passes S4 r4) fun r5 S5 =>
 if r5 = 0 then (
 some ((-1 : Int32), S5))
 else (
 zb (J1_level S5 x1 x2) fun r6 S6 =>
 some (r6, S6))
def J8_sweep (S : St) (x1 : Int32) (x2 : Int32) : Option (Int32 × St) :=
 if x1 = x2 then (
 J8_sweep_10 S x1 x2 ((1 : Int32)))
 else (
 J8_sweep_10 S x1 x2 ((0 : Int32)))
def J8_weightsOf_64 (S : St) (t0 : Int32) : Option (Int32 × St) :=
 some (t0, S)
def J8_weightsOf_5 : Nat → St → Int32 → Int32 → Int64 → Int32 → Option (Int32 × St)
| 0, _, _, _, _, _ => none
| n + 1, S, x1, x2, x3, x5 =>
 if x2 ≤ x5 then (
 zb (J8_fits S x3 ((1 : Int64)) ((8 : Int64))) fun r1 S1 =>
 if r1 = 0 then (
 J8_weightsOf_64 S1 ((1 : Int32)))
 else (
 J8_weightsOf_64 S1 ((0 : Int32))))
 else (
 zb (J6_at S x1 x5) fun r2 S2 =>
 zb (J8_fits S2 r2 ((0 : Int64)) ((8 : Int64))) fun r3 S3 =>
 if r3 = 0 then (
 some ((1 : Int32), S3))
 else (
 zlet ((x3 + r2)) fun x3_4 =>
 zlet (x5 + (1 : Int32)) fun x5_5 =>
 J8_weightsOf_5 n S3 x1 x2 x3_4 x5_5))
def J8_weightsOf (S : St) (x1 : Int32) (x2 : Int32) : Option (Int32 × St) :=
 J8_weightsOf_5 fu S x1 x2 ((0 : Int64)) ((0 : Int32))
def J8_table_118 (k84 : St → Int32 → Int32 → Int32 → Int32 → Option (Int32 × St)) (S : St) (x1 : Int32) (x2 : Int32) (x3 : Int32) (x6 : Int32) (t0 : Int64) (t1 : Int32) (t2 : Int32) : Option (Int32 × St) :=
 zb (J0_weigh S t2 t1 t0) fun _ S1 =>
 zlet (x6 + (1 : Int32)) fun x6_2 =>
 k84 S1 x1 x2 x3 x6_2
def J8_table_84 : Nat → St → Int32 → Int32 → Int32 → Int32 → Option (Int32 × St)
| 0, _, _, _, _, _ => none
| n + 1, S, x1, x2, x3, x6 =>
 if (8 : Int32) ≤ x6 then (
 zg (zbo (1 : Int32)) (some ((1 : Int32), S)))
 else (
 if x3 ≤ x6 then (
 J8_table_118 (J8_table_84 n) S x1 x2 x3 x6 ((0 : Int64)) x6 x1)
 else (
 zb (J6_at S x2 x6) fun r1 S1 =>
 J8_table_118 (J8_table_84 n) S1 x1 x2 x3 x6 r1 x6 x1))
def J8_table_73 (S : St) (x1 : Int32) (x2 : Int32) (x3 : Int32) (t0 : Int32) : Option (Int32 × St) :=
 zb (J8_passes S t0) fun r1 S1 =>
 if r1 = 0 then (
 zg (zbo (0 : Int32)) (some ((0 : Int32), S1)))
 else (
 J8_table_84 fu S1 x1 x2 x3 ((0 : Int32)))
def J8_table_41 (S : St) (x1 : Int32) (x2 : Int32) (x3 : Int32) (t0 : Int32) : Option (Int32 × St) :=
 zb (J6_lack S x2 ((0 : Int32)) x3) fun r1 S1 =>
 zb (J8_first S1 t0 r1) fun r2 S2 =>
 if r2 = 0 then (
 zb (J8_weightsOf S2 x2 x3) fun r3 S3 =>
 J8_table_73 S3 x1 x2 x3 r3)
 else (
 J8_table_73 S2 x1 x2 x3 r2)
def J8_table_29 (S : St) (x1 : Int32) (x2 : Int32) (x3 : Int32) (t0 : Int32) : Option (Int32 × St) :=
 if t0 = 0 then (
 J8_table_41 S x1 x2 x3 ((1 : Int32)))
 else (
 J8_table_41 S x1 x2 x3 ((0 : Int32)))
def J8_table_28 (S : St) (x1 : Int32) (x2 : Int32) (x3 : Int32) : Option (Int32 × St) :=
 J8_table_29 S x1 x2 x3 ((0 : Int32))
def J8_table (S : St) (x1 : Int32) (x2 : Int32) (x3 : Int32) : Option (Int32 × St) :=
 zb (J8_fits S (x1.toInt64) ((0 : Int64)) ((3 : Int64))) fun r1 S1 =>
 if r1 = 0 then (
 J8_table_28 S1 x1 x2 x3)
 else (
 zb (J8_fits S1 (x3.toInt64) ((1 : Int64)) ((8 : Int64))) fun r2 S2 =>
 if r2 = 0 then (
 J8_table_28 S2 x1 x2 x3)
 else (
 J8_table_29 S2 x1 x2 x3 ((1 : Int32))))
def J8_takes_18 (S : St) (x1 : Int32) (x2 : Int32) (t0 : Int32) : Option (Int32 × St) :=
 zb (J8_passes S t0) fun r1 S1 =>
 if r1 = 0 then (
 some ((-1 : Int32), S1))
 else (
 zb (J2_tellTakes S1 x1 x2) fun r2 S2 =>
 some (r2, S2))
def J8_takes (S : St) (x1 : Int32) (x2 : Int32) : Option (Int32 × St) :=
 zb (J8_fits S (x2.toInt64) ((0 : Int64)) ((14 : Int64))) fun r1 S1 =>
 if r1 = 0 then (
 J8_takes_18 S1 x1 x2 ((1 : Int32)))
 else (
 J8_takes_18 S1 x1 x2 ((0 : Int32)))
def J8_tell (S : St) (x1 : Int32) : Option (Int32 × St) :=
 zb (J8_fits S (x1.toInt64) ((0 : Int64)) ((6 : Int64))) fun r1 S1 =>
 zb (J8_runLack S1 r1) fun r2 S2 =>
 zb (J8_passes S2 r2) fun r3 S3 =>
 if r3 = 0 then (
 some ((-1 : Int32), S3))
 else (
 if x1 = 0 then (
 some ((S3.1 17 8), S3))
 else (
 if x1 = 1 then (
 some ((S3.1 29 2), S3))
 else (
 if x1 = 2 then (
 some ((S3.1 32 8), S3))
 else (
 if x1 = 3 then (
 some ((S3.1 22 8), S3))
 else (
 if x1 = 4 then (
 some ((S3.1 18 4), S3))
 else (
 if x1 = 5 then (
 some ((S3.1 17 10), S3))
 else (
 some ((S3.1 17 11), S3))))))))
def J8_top (S : St) : Option (Int64 × St) :=
 some ((S.2 5 6), S)
def J8_up (S : St) (x1 : Int32) : Option (Int32 × St) :=
 zb (J8_copyLack S x1 ((0 : Int32))) fun r1 S1 =>
 zb (J8_passes S1 r1) fun r2 S2 =>
 if r2 = 0 then (
 some ((-1 : Int32), S2))
 else (
 zb (J1_rise S2 x1) fun r3 S3 =>
 some (r3, S3))
def J8_write (S : St) (x1 : Int32) (x2 : Int32) (x3 : Int64) : Option (Int32 × St) :=
 zb (J6_lack S x1 x2 ((1 : Int32))) fun r1 S1 =>
 zb (J8_passes S1 r1) fun r2 S2 =>
 if r2 = 0 then (
 zg (zbo (0 : Int32)) (some ((0 : Int32), S2)))
 else (
 zb (J6_put S2 x1 x2 x3) fun _ S3 =>
 zg (zbo (1 : Int32)) (some ((1 : Int32), S3)))
def J8_writes (S : St) (x1 : Int32) : Option (Int32 × St) :=
 zb (J8_actLack S x1 ((1 : Int32)) ((S.1 29 2))) fun r1 S1 =>
 zb (J8_passes S1 r1) fun r2 S2 =>
 if r2 = 0 then (
 some ((-1 : Int32), S2))
 else (
 zb (J7_add S2) fun r3 S3 =>
 zb (J5_sendAll_c1 S3 ((0 : Int32)) r3 x1) fun _ S4 =>
 zb (J5_workOff S4 ((S4.1 17 8))) fun _ S5 =>
 some (r3, S5))
def J9_above_31 (k5 : St → Int32 → Int64 → Int32 → Option (Int64 × St)) (S : St) (x1 : Int32) (x4 : Int32) (t0 : Int64) (t1 : Int64) : Option (Int64 × St) :=
 zlet ((t1 + t0)) fun x2_1 =>
 zlet (x4 + (1 : Int32)) fun x4_2 =>
 k5 S x1 x2_1 x4_2
def J9_above_5 : Nat → St → Int32 → Int64 → Int32 → Option (Int64 × St)
| 0, _, _, _, _ => none
| n + 1, S, x1, x2, x4 =>
 if (8 : Int32) ≤ x4 then (
 some (x2, S))
 else (
 if x4 ≤ x1 then (
 J9_above_31 (J9_above_5 n) S x1 x4 ((0 : Int64)) x2)
 else (
 zg (zin x4 32) (
 J9_above_31 (J9_above_5 n) S x1 x4 (((S.1 4 x4.toNatClampNeg)).toInt64) x2)))
def J9_above (S : St) (x1 : Int32) : Option (Int64 × St) :=
 J9_above_5 fu S x1 ((0 : Int64)) ((0 : Int32))
def J9_allWays_38 (k5 : St → Int32 → Int32 → Int64 → Int32 → Option (Int64 × St)) (k14 : St → Int32 → Int32 → Int64 → Int32 → Int32 → Option (Int64 × St)) (S : St) (x1 : Int32) (x2 : Int32) (x3 : Int64) (x5 : Int32) (x6 : Int32) (t0 : Int32) : Option (Int64 × St) :=
 zg (zin t0 4) (
 zlet ((S.1 5 t0.toNatClampNeg)) fun x7_1 =>
 zg (decide (¬ x7_1.toInt64 = 0)) (
 if (lg_cmp x3 ((4611686018427387903 : Int64) / x7_1.toInt64)) ≤ 0 then (
 zlet ((x3 * x7_1.toInt64)) fun x3_2 =>
 zlet (x6 + (1 : Int32)) fun x6_3 =>
 k14 S x1 x2 x3_2 x5 x6_3)
 else (
 some ((-1 : Int64), S))))
def J9_allWays_14 (k5 : St → Int32 → Int32 → Int64 → Int32 → Option (Int64 × St)) : Nat → St → Int32 → Int32 → Int64 → Int32 → Int32 → Option (Int64 × St)
| 0, _, _, _, _, _, _ => none
| n + 1, S, x1, x2, x3, x5, x6 =>
 if ((4 : Int32) + x2) ≤ x6 then (
 zlet (x5 + (1 : Int32)) fun x5_1 =>
 k5 S x1 x2 x3 x5_1)
 else (
 if (4 : Int32) ≤ x6 then (
 J9_allWays_38 k5 (J9_allWays_14 k5 n) S x1 x2 x3 x5 x6 ((0 : Int32)))
 else (
 J9_allWays_38 k5 (J9_allWays_14 k5 n) S x1 x2 x3 x5 x6 x6))
def J9_allWays_5 : Nat → St → Int32 → Int32 → Int64 → Int32 → Option (Int64 × St)
| 0, _, _, _, _, _ => none
| n + 1, S, x1, x2, x3, x5 =>
 if x1 ≤ x5 then (
 some (x3, S))
 else (
 J9_allWays_14 (J9_allWays_5 n) fu S x1 x2 x3 x5 ((0 : Int32)))
def J9_allWays (S : St) (x1 : Int32) (x2 : Int32) : Option (Int64 × St) :=
 J9_allWays_5 fu S x1 x2 ((1 : Int64)) ((0 : Int32))
def J9_send (S : St) (x1 : Int32) (x2 : Int32) (x3 : Int32) (x4 : Int32) (x5 : Int32) (x6 : Int32) : Option (Unit × St) :=
 zg (zin (S.1 0 39) 1200) (
 zlet (wI S 15 (((S.1 0 39)).toNatClampNeg) ((S.1 0 21) + x1)) fun S_1 =>
 zg (zin (S_1.1 0 39) 1200) (
 zlet (wI S_1 16 (((S_1.1 0 39)).toNatClampNeg) (S_1.1 0 22)) fun S_2 =>
 zg (zin (S_2.1 0 39) 1200) (
 zlet (wI S_2 17 (((S_2.1 0 39)).toNatClampNeg) x2) fun S_3 =>
 zg (zin (S_3.1 0 39) 1200) (
 zlet (wI S_3 18 (((S_3.1 0 39)).toNatClampNeg) x3) fun S_4 =>
 zg (zin (S_4.1 0 39) 1200) (
 zlet (wI S_4 19 (((S_4.1 0 39)).toNatClampNeg) x4) fun S_5 =>
 zg (zin (S_5.1 0 39) 1200) (
 zlet (wI S_5 20 (((S_5.1 0 39)).toNatClampNeg) x5) fun S_6 =>
 zg (zin (S_6.1 0 39) 1200) (
 zlet (wI S_6 21 (((S_6.1 0 39)).toNatClampNeg) x6) fun S_7 =>
 zlet (wI S_7 0 22 ((S_7.1 0 22) + (1 : Int32))) fun S_8 =>
 zlet (wI S_8 0 39 ((S_8.1 0 39) + (1 : Int32))) fun S_9 =>
 some ((), S_9))))))))
def J9_answer_272 (k200 : St → Int32 → Int32 → Int32 → Option (Unit × St)) (k219 : St → Int32 → Int32 → Int32 → Int32 → Option (Unit × St)) (S : St) (x1 : Int32) (x4 : Int32) (x6 : Int32) (x7 : Int32) : Option (Unit × St) :=
 zlet (x7 + (1 : Int32)) fun x7_1 =>
 k219 S x1 x4 x6 x7_1
def J9_answer_219 (k200 : St → Int32 → Int32 → Int32 → Option (Unit × St)) : Nat → St → Int32 → Int32 → Int32 → Int32 → Option (Unit × St)
| 0, _, _, _, _, _ => none
| n + 1, S, x1, x4, x6, x7 =>
 if (S.1 0 20) ≤ x7 then (
 zlet (x6 + (1 : Int32)) fun x6_1 =>
 k200 S x1 x4 x6_1)
 else (
 zg (zin (((5 : Int32) * x1) + x7) 200) (
 if (S.1 31 ((((5 : Int32) * x1) + x7)).toNatClampNeg) = x6 then (
 zg (zin (((5 : Int32) * x1) + x7) 200) (
 if x4 ≤ (S.1 30 ((((5 : Int32) * x1) + x7)).toNatClampNeg) then (
 J9_answer_272 k200 (J9_answer_219 k200 n) S x1 x4 x6 x7)
 else (
 zb (J9_send S ((1 : Int32)) ((4 : Int32)) x1 x6 x4 ((0 : Int32))) fun _ S2 =>
 J9_answer_272 k200 (J9_answer_219 k200 n) S2 x1 x4 x6 x7)))
 else (
 J9_answer_272 k200 (J9_answer_219 k200 n) S x1 x4 x6 x7)))
def J9_answer_284 (S : St) : Option (Unit × St) :=
 some ((), S)
def J9_answer_200 : Nat → St → Int32 → Int32 → Int32 → Option (Unit × St)
| 0, _, _, _, _ => none
| n + 1, S, x1, x4, x6 =>
 if (S.1 0 18) ≤ x6 then (
 J9_answer_284 S)
 else (
 if (S.1 0 17) = 0 then (
 J9_answer_284 S)
 else (
 J9_answer_219 (J9_answer_200 n) fu S x1 x4 x6 ((0 : Int32))))
def J9_answer_174 (S : St) (x1 : Int32) (x4 : Int32) (x5 : Int32) : Option (Unit × St) :=
 zg (zin x5 4) (
 zg (zin x1 40) (
 zg (zin x5 4) (
 zlet (wI S 14 (x5.toNatClampNeg) (if (S.1 14 x5.toNatClampNeg) < (S.1 28 x1.toNatClampNeg) then (S.1 28 x1.toNatClampNeg) else (S.1 14 x5.toNatClampNeg))) fun S_1 =>
 J9_answer_200 fu S_1 x1 x4 ((0 : Int32)))))
def J9_answer_62 : Nat → St → Int32 → Int32 → Int32 → Option (Unit × St)
| 0, _, _, _, _ => none
| n + 1, S, x1, x4, x5 =>
 if (S.1 0 20) ≤ x5 then (
 zg (zin x1 40) (
 zlet (wI S 29 (x1.toNatClampNeg) x4) fun S_1 =>
 zg (zin x1 40) (
 zlet (wI S_1 27 (x1.toNatClampNeg) (S_1.1 0 21)) fun S_2 =>
 zg (zin x1 40) (
 zlet ((S_2.1 25 x1.toNatClampNeg)) fun x5_3 =>
 zg (zin x1 40) (
 zlet (wI S_2 28 (x1.toNatClampNeg) x4) fun S_4 =>
 zg (zin x5_3 4) (
 if (S_4.1 13 x5_3.toNatClampNeg) = 0 then (
 J9_answer_174 S_4 x1 x4 x5_3)
 else (
 zg (zin x5_3 4) (
 if (S_4.1 14 x5_3.toNatClampNeg) ≤ x4 then (
 J9_answer_174 S_4 x1 x4 x5_3)
 else (
 zg (zin x5_3 4) (
 zg (zin x1 40) (
 zlet (wI S_4 28 (x1.toNatClampNeg) (S_4.1 14 x5_3.toNatClampNeg)) fun S_5 =>
 zlet (wI S_5 0 24 ((S_5.1 0 24) + (1 : Int32))) fun S_6 =>
 J9_answer_174 S_6 x1 x4 x5_3)))))))))))
 else (
 zg (zin (((5 : Int32) * x1) + x5) 200) (
 zlet ((if x4 < (S.1 30 ((((5 : Int32) * x1) + x5)).toNatClampNeg) then (S.1 30 ((((5 : Int32) * x1) + x5)).toNatClampNeg) else x4)) fun x4_7 =>
 zlet (x5 + (1 : Int32)) fun x5_8 =>
 J9_answer_62 n S x1 x4_7 x5_8))
def J9_answer (S : St) (x1 : Int32) (x2 : Int32) (x3 : Int32) : Option (Unit × St) :=
 zg (zin x1 40) (
 zg (zin (((5 : Int32) * x1) + (S.1 26 x1.toNatClampNeg)) 200) (
 zlet (wI S 30 (((((5 : Int32) * x1) + (S.1 26 x1.toNatClampNeg))).toNatClampNeg) x3) fun S_1 =>
 zg (zin x1 40) (
 zg (zin (((5 : Int32) * x1) + (S_1.1 26 x1.toNatClampNeg)) 200) (
 zlet (wI S_1 31 (((((5 : Int32) * x1) + (S_1.1 26 x1.toNatClampNeg))).toNatClampNeg) x2) fun S_2 =>
 zg (zin x1 40) (
 zg (zin x1 40) (
 zlet (wI S_2 26 (x1.toNatClampNeg) ((S_2.1 26 x1.toNatClampNeg) + (1 : Int32))) fun S_3 =>
 zg (zin x1 40) (
 if (S_3.1 0 20) ≤ (S_3.1 26 x1.toNatClampNeg) then (
 J9_answer_62 fu S_3 x1 ((0 : Int32)) ((0 : Int32)))
 else (
 some ((), S_3)))))))))
def J9_is_14 (S : St) (t0 : Int32) : Option (Int32 × St) :=
 zg (zbo t0) (some (t0, S))
def J9_is (S : St) (x1 : Int32) : Option (Int32 × St) :=
 zlet (wI S 0 0 x1) fun S_1 =>
 if x1 = 0 then (
 J9_is_14 S_1 ((1 : Int32)))
 else (
 J9_is_14 S_1 ((0 : Int32)))
def J9_begin_122 : Nat → St → Int32 → Option (Int32 × St)
| 0, _, _ => none
| n + 1, S, x1 =>
 if (4 : Int32) ≤ x1 then (
 zb (J9_is S ((0 : Int32))) fun r1 S1 =>
 zg (zbo r1) (some (r1, S1)))
 else (
 zg (zin x1 4) (
 zlet (wI S 13 (x1.toNatClampNeg) (vp_nar .boolean (0 : Int32))) fun S_2 =>
 zg (zin x1 4) (
 zlet (wI S_2 14 (x1.toNatClampNeg) (0 : Int32)) fun S_3 =>
 zlet (x1 + (1 : Int32)) fun x1_4 =>
 J9_begin_122 n S_3 x1_4)))
def J9_begin_98 : Nat → St → Int32 → Option (Int32 × St)
| 0, _, _ => none
| n + 1, S, x1 =>
 if (25 : Int32) ≤ x1 then (
 J9_begin_122 fu S ((0 : Int32)))
 else (
 zg (zin x1 25) (
 zlet (wI S 11 (x1.toNatClampNeg) (0 : Int32)) fun S_1 =>
 zlet (x1 + (1 : Int32)) fun x1_2 =>
 J9_begin_98 n S_1 x1_2))
def J9_begin_71 : Nat → St → Int32 → Option (Int32 × St)
| 0, _, _ => none
| n + 1, S, x1 =>
 if (5 : Int32) ≤ x1 then (
 J9_begin_98 fu S ((0 : Int32)))
 else (
 zg (zin x1 5) (
 zlet (wI S 10 (x1.toNatClampNeg) (0 : Int32)) fun S_1 =>
 zg (zin x1 5) (
 zlet (wI S_1 12 (x1.toNatClampNeg) (vp_nar .boolean (1 : Int32))) fun S_2 =>
 zlet (x1 + (1 : Int32)) fun x1_3 =>
 J9_begin_71 n S_2 x1_3)))
def J9_begin (S : St) : Option (Int32 × St) :=
 zg (zbo (1 : Int32)) (
 zlet (wI S 0 16 (1 : Int32)) fun S_1 =>
 zg (zbo (0 : Int32)) (
 zlet (wI S_1 0 17 (0 : Int32)) fun S_2 =>
 zlet (wI S_2 0 18 (S_2.1 0 6)) fun S_3 =>
 zlet (wI S_3 0 19 (S_3.1 0 7)) fun S_4 =>
 zlet (wI S_4 0 20 (S_4.1 0 8)) fun S_5 =>
 zlet (wI S_5 0 21 (0 : Int32)) fun S_6 =>
 zlet (wI S_6 0 22 (0 : Int32)) fun S_7 =>
 zlet (wI S_7 0 23 (0 : Int32)) fun S_8 =>
 zlet (wI S_8 0 24 (0 : Int32)) fun S_9 =>
 zlet (wI S_9 0 25 (0 : Int32)) fun S_10 =>
 zlet (wI S_10 0 26 (0 : Int32)) fun S_11 =>
 zlet (wI S_11 0 39 (0 : Int32)) fun S_12 =>
 J9_begin_71 fu S_12 ((0 : Int32))))
def J9_both_61 (k6 : St → Int32 → Int32 → Int32 → Int32 → Int32 → Option (Int32 × St)) (S : St) (x1 : Int32) (x2 : Int32) (x3 : Int32) (x4 : Int32) (x5 : Int32) : Option (Int32 × St) :=
 zlet (x5 + (1 : Int32)) fun x5_1 =>
 k6 S x1 x2 x3 x4 x5_1
def J9_both_6 : Nat → St → Int32 → Int32 → Int32 → Int32 → Int32 → Option (Int32 × St)
| 0, _, _, _, _, _, _ => none
| n + 1, S, x1, x2, x3, x4, x5 =>
 if (8 : Int32) ≤ x5 then (
 some (x4, S))
 else (
 if (x3 - x5) < 0 then (
 J9_both_61 (J9_both_6 n) S x1 x2 x3 x4 x5)
 else (
 if (8 : Int32) ≤ (x3 - x5) then (
 J9_both_61 (J9_both_6 n) S x1 x2 x3 x4 x5)
 else (
 zg (zin (((8 : Int32) * x1) + x5) 32) (
 zg (zin ((((8 : Int32) * x2) + x3) - x5) 32) (
 zlet ((x4 + ((S.1 4 ((((8 : Int32) * x1) + x5)).toNatClampNeg) * (S.1 4 (((((8 : Int32) * x2) + x3) - x5)).toNatClampNeg)))) fun x4_1 =>
 J9_both_61 (J9_both_6 n) S x1 x2 x3 x4_1 x5)))))
def J9_both (S : St) (x1 : Int32) (x2 : Int32) (x3 : Int32) : Option (Int32 × St) :=
 J9_both_6 fu S x1 x2 x3 ((0 : Int32)) ((0 : Int32))
def J9_bottom (S : St) : Option (Int64 × St) :=
 some ((S.2 0 2), S)
def J9_isAbove_73 (S : St) (t0 : Int32) : Option (Int32 × St) :=
 zg (zbo t0) (some (t0, S))
def J9_isAbove_63 (S : St) (x16 : Int32) (t0 : Int32) : Option (Int32 × St) :=
 if t0 = x16 then (
 J9_isAbove_73 S ((0 : Int32)))
 else (
 J9_isAbove_73 S ((1 : Int32)))
def J9_isAbove_132 (S : St) (t0 : Int32) : Option (Int32 × St) :=
 zg (zbo t0) (some (t0, S))
def J9_isAbove_131 (S : St) : Option (Int32 × St) :=
 J9_isAbove_132 S ((0 : Int32))
def J9_isAbove_122 (S : St) (x16 : Int32) (t0 : Int32) : Option (Int32 × St) :=
 if t0 = x16 then (
 J9_isAbove_131 S)
 else (
 J9_isAbove_132 S ((1 : Int32)))
def J9_isAbove_102 (S : St) (x8 : Int64) (x12 : Int64) (x16 : Int32) : Option (Int32 × St) :=
 if (lg_cmp x8 x12) = 0 then (
 J9_isAbove_131 S)
 else (
 if (lg_cmp x8 (0 : Int64)) ≤ 0 then (
 J9_isAbove_122 S x16 ((0 : Int32)))
 else (
 J9_isAbove_122 S x16 ((1 : Int32))))
def J9_isAbove_167 (k20 : St → Int64 → Int64 → Int64 → Int64 → Int32 → Int32 → Option (Int32 × St)) (S : St) (x8 : Int64) (x10 : Int64) (x12 : Int64) (x14 : Int64) (x17 : Int32) (t0 : Int32) : Option (Int32 × St) :=
 zlet (x17 + (1 : Int32)) fun x17_1 =>
 k20 S x8 x10 x12 x14 t0 x17_1
def J9_isAbove_20 : Nat → St → Int64 → Int64 → Int64 → Int64 → Int32 → Int32 → Option (Int32 × St)
| 0, _, _, _, _, _, _, _ => none
| n + 1, S, x8, x10, x12, x14, x16, x17 =>
 if (200 : Int32) ≤ x17 then (
 zg (zbo (0 : Int32)) (some ((0 : Int32), S)))
 else (
 zg (decide (¬ x10 = 0)) (
 zlet ((x8 / x10)) fun x18_1 =>
 zg (decide (¬ x14 = 0)) (
 zlet ((x12 / x14)) fun x20_2 =>
 if (lg_cmp x18_1 x20_2) = 0 then (
 zg (decide (¬ x10 = 0)) (
 zlet ((x8 - x8 / x10 * x10)) fun x8_3 =>
 zg (decide (¬ x14 = 0)) (
 zlet ((x12 - x12 / x14 * x14)) fun x12_4 =>
 if (lg_cmp x8_3 (0 : Int64)) = 0 then (
 J9_isAbove_102 S x8_3 x12_4 x16)
 else (
 if (lg_cmp x12_4 (0 : Int64)) = 0 then (
 J9_isAbove_102 S x8_3 x12_4 x16)
 else (
 if x16 = 0 then (
 J9_isAbove_167 (J9_isAbove_20 n) S x10 x8_3 x14 x12_4 x17 ((1 : Int32)))
 else (
 J9_isAbove_167 (J9_isAbove_20 n) S x10 x8_3 x14 x12_4 x17 ((0 : Int32))))))))
 else (
 if (lg_cmp x18_1 x20_2) ≤ 0 then (
 J9_isAbove_63 S x16 ((0 : Int32)))
 else (
 J9_isAbove_63 S x16 ((1 : Int32)))))))
def J9_isAbove (S : St) (x0 : Int64) (x2 : Int64) (x4 : Int64) (x6 : Int64) : Option (Int32 × St) :=
 J9_isAbove_20 fu S x0 x2 x4 x6 ((0 : Int32)) ((0 : Int32))
def J9_isAsked_33 (S : St) (t0 : Int32) : Option (Int32 × St) :=
 zg (zbo t0) (some (t0, S))
def J9_isAsked_32 (S : St) : Option (Int32 × St) :=
 J9_isAsked_33 S ((0 : Int32))
def J9_isAsked (S : St) (x0 : Int32) (x1 : Int32) (x2 : Int32) : Option (Int32 × St) :=
 if x0 < 0 then (
 J9_isAsked_32 S)
 else (
 if (100 : Int32) < x0 then (
 J9_isAsked_32 S)
 else (
 if x1 < 0 then (
 J9_isAsked_32 S)
 else (
 if (3 : Int32) < x1 then (
 J9_isAsked_32 S)
 else (
 if x2 < 0 then (
 J9_isAsked_32 S)
 else (
 if x1 < x2 then (
 J9_isAsked_32 S)
 else (
 J9_isAsked_33 S ((1 : Int32))))))))
def J9_look_182 (k30 : St → Int32 → Int32 → Int32 → Int32 → Int32 → Option (Unit × St)) (k40 : St → Int32 → Int32 → Int32 → Int32 → Int32 → Int32 → Option (Unit × St)) (k101 : St → Int32 → Int32 → Int32 → Int32 → Int32 → Int32 → Int32 → Int64 → Int32 → Option (Unit × St)) (k143 : St → Int32 → Int32 → Int32 → Int32 → Int32 → Int32 → Int32 → Int64 → Int32 → Int32 → Int64 → Int64 → Int32 → Option (Unit × St)) (S : St) (x1 : Int32) (x2 : Int32) (x3 : Int32) (x4 : Int32) (x5 : Int32) (x6 : Int32) (x7 : Int32) (x8 : Int64) (x10 : Int32) (x11 : Int32) (x14 : Int64) (x16 : Int32) (t0 : Int64) (t1 : Int64) : Option (Unit × St) :=
 zlet ((t1 * t0)) fun x12_1 =>
 zg (zin (0 : Int32) 4) (
 zlet ((x14 * ((S.1 5 ((0 : Int32)).toNatClampNeg)).toInt64)) fun x14_2 =>
 zlet (x16 + (1 : Int32)) fun x16_3 =>
 k143 S x1 x2 x3 x4 x5 x6 x7 x8 x10 x11 x12_1 x14_2 x16_3)
def J9_look_206 (k30 : St → Int32 → Int32 → Int32 → Int32 → Int32 → Option (Unit × St)) (k40 : St → Int32 → Int32 → Int32 → Int32 → Int32 → Int32 → Option (Unit × St)) (k101 : St → Int32 → Int32 → Int32 → Int32 → Int32 → Int32 → Int32 → Int64 → Int32 → Option (Unit × St)) : Nat → St → Int32 → Int32 → Int32 → Int32 → Int32 → Int32 → Int32 → Int64 → Int32 → Int64 → Int64 → Int32 → Option (Unit × St)
| 0, _, _, _, _, _, _, _, _, _, _, _, _, _ => none
| n + 1, S, x1, x2, x3, x4, x5, x6, x7, x8, x10, x12, x14, x16 =>
 if (8 : Int32) ≤ x16 then (
 zlet (x10 + (1 : Int32)) fun x10_1 =>
 k101 S x1 x2 x3 x4 x5 x6 x7 x8 x10_1)
 else (
 zg (zin ((16 : Int32) + x10) 32) (
 zg (zin ((24 : Int32) + x16) 32) (
 zlet (((x8 * ((S.1 4 (((16 : Int32) + x10)).toNatClampNeg)).toInt64) * ((S.1 4 (((24 : Int32) + x16)).toNatClampNeg)).toInt64)) fun x17_2 =>
 zg (zin (((30 : Int32) * x7) + ((2 : Int32) * (x10 + x16))) 90) (
 zg (zin (((30 : Int32) * x7) + ((2 : Int32) * (x10 + x16))) 90) (
 zlet (wL S 6 (((((30 : Int32) * x7) + ((2 : Int32) * (x10 + x16)))).toNatClampNeg) ((S.2 6 ((((30 : Int32) * x7) + ((2 : Int32) * (x10 + x16)))).toNatClampNeg) + (x17_2 * x12))) fun S_3 =>
 zg (zin ((((30 : Int32) * x7) + ((2 : Int32) * (x10 + x16))) + (1 : Int32)) 90) (
 zg (zin ((((30 : Int32) * x7) + ((2 : Int32) * (x10 + x16))) + (1 : Int32)) 90) (
 zlet (wL S_3 6 ((((((30 : Int32) * x7) + ((2 : Int32) * (x10 + x16))) + (1 : Int32))).toNatClampNeg) ((S_3.2 6 (((((30 : Int32) * x7) + ((2 : Int32) * (x10 + x16))) + (1 : Int32))).toNatClampNeg) + (x17_2 * x14))) fun S_4 =>
 zlet (x16 + (1 : Int32)) fun x16_5 =>
 J9_look_206 k30 k40 k101 n S_4 x1 x2 x3 x4 x5 x6 x7 x8 x10 x12 x14 x16_5)))))))
def J9_look_143 (k30 : St → Int32 → Int32 → Int32 → Int32 → Int32 → Option (Unit × St)) (k40 : St → Int32 → Int32 → Int32 → Int32 → Int32 → Int32 → Option (Unit × St)) (k101 : St → Int32 → Int32 → Int32 → Int32 → Int32 → Int32 → Int32 → Int64 → Int32 → Option (Unit × St)) : Nat → St → Int32 → Int32 → Int32 → Int32 → Int32 → Int32 → Int32 → Int64 → Int32 → Int32 → Int64 → Int64 → Int32 → Option (Unit × St)
| 0, _, _, _, _, _, _, _, _, _, _, _, _, _, _ => none
| n + 1, S, x1, x2, x3, x4, x5, x6, x7, x8, x10, x11, x12, x14, x16 =>
 if x3 < x16 then (
 J9_look_206 k30 k40 k101 fu S x1 x2 x3 x4 x5 x6 x7 x8 x10 x12 x14 ((0 : Int32)))
 else (
 if x4 < x16 then (
 zg (zin (0 : Int32) 4) (
 J9_look_182 k30 k40 k101 (J9_look_143 k30 k40 k101 n) S x1 x2 x3 x4 x5 x6 x7 x8 x10 x11 x14 x16 (((S.1 5 ((0 : Int32)).toNatClampNeg)).toInt64) x12))
 else (
 zb (J9_above S ((x11 + ((S.1 0 9) * x16)))) fun r1 S1 =>
 J9_look_182 k30 k40 k101 (J9_look_143 k30 k40 k101 n) S1 x1 x2 x3 x4 x5 x6 x7 x8 x10 x11 x14 x16 r1 x12))
def J9_look_135 (k30 : St → Int32 → Int32 → Int32 → Int32 → Int32 → Option (Unit × St)) (k40 : St → Int32 → Int32 → Int32 → Int32 → Int32 → Int32 → Option (Unit × St)) (k101 : St → Int32 → Int32 → Int32 → Int32 → Int32 → Int32 → Int32 → Int64 → Int32 → Option (Unit × St)) (S : St) (x1 : Int32) (x2 : Int32) (x3 : Int32) (x4 : Int32) (x5 : Int32) (x6 : Int32) (x7 : Int32) (x8 : Int64) (x10 : Int32) (x11 : Int32) (t0 : Int64) : Option (Unit × St) :=
 J9_look_143 k30 k40 k101 fu S x1 x2 x3 x4 x5 x6 x7 x8 x10 x11 t0 ((1 : Int64)) ((1 : Int32))
def J9_look_307 (k30 : St → Int32 → Int32 → Int32 → Int32 → Int32 → Option (Unit × St)) (k40 : St → Int32 → Int32 → Int32 → Int32 → Int32 → Int32 → Option (Unit × St)) (S : St) (x1 : Int32) (x2 : Int32) (x3 : Int32) (x4 : Int32) (x5 : Int32) (x6 : Int32) : Option (Unit × St) :=
 zlet (x6 + (1 : Int32)) fun x6_1 =>
 k40 S x1 x2 x3 x4 x5 x6_1
def J9_look_101 (k30 : St → Int32 → Int32 → Int32 → Int32 → Int32 → Option (Unit × St)) (k40 : St → Int32 → Int32 → Int32 → Int32 → Int32 → Int32 → Option (Unit × St)) : Nat → St → Int32 → Int32 → Int32 → Int32 → Int32 → Int32 → Int32 → Int64 → Int32 → Option (Unit × St)
| 0, _, _, _, _, _, _, _, _, _, _ => none
| n + 1, S, x1, x2, x3, x4, x5, x6, x7, x8, x10 =>
 if (8 : Int32) ≤ x10 then (
 J9_look_307 k30 k40 S x1 x2 x3 x4 x5 x6)
 else (
 if (lg_cmp x8 (0 : Int64)) ≤ 0 then (
 J9_look_307 k30 k40 S x1 x2 x3 x4 x5 x6)
 else (
 zlet (((x1 + x2) + x10)) fun x11_1 =>
 if x5 ≤ x11_1 then (
 J9_look_135 k30 k40 (J9_look_101 k30 k40 n) S x1 x2 x3 x4 x5 x6 x7 x8 x10 x11_1 ((0 : Int64)))
 else (
 J9_look_135 k30 k40 (J9_look_101 k30 k40 n) S x1 x2 x3 x4 x5 x6 x7 x8 x10 x11_1 ((1 : Int64)))))
def J9_look_74 (k30 : St → Int32 → Int32 → Int32 → Int32 → Int32 → Option (Unit × St)) (k40 : St → Int32 → Int32 → Int32 → Int32 → Int32 → Int32 → Option (Unit × St)) (S : St) (x1 : Int32) (x2 : Int32) (x3 : Int32) (x4 : Int32) (x5 : Int32) (x6 : Int32) (t0 : Int32) : Option (Unit × St) :=
 zg (zin x5 32) (
 zg (zin ((8 : Int32) + x6) 32) (
 zlet ((((S.1 4 x5.toNatClampNeg)).toInt64 * ((S.1 4 (((8 : Int32) + x6)).toNatClampNeg)).toInt64)) fun x8_1 =>
 J9_look_101 k30 k40 fu S x1 x2 x3 x4 x5 x6 t0 x8_1 ((0 : Int32))))
def J9_look_40 (k30 : St → Int32 → Int32 → Int32 → Int32 → Int32 → Option (Unit × St)) : Nat → St → Int32 → Int32 → Int32 → Int32 → Int32 → Int32 → Option (Unit × St)
| 0, _, _, _, _, _, _, _ => none
| n + 1, S, x1, x2, x3, x4, x5, x6 =>
 if (8 : Int32) ≤ x6 then (
 zlet (x5 + (1 : Int32)) fun x5_1 =>
 k30 S x1 x2 x3 x4 x5_1)
 else (
 if x1 ≤ (x5 + x6) then (
 if (x5 + x6) = x1 then (
 J9_look_74 k30 (J9_look_40 k30 n) S x1 x2 x3 x4 x5 x6 ((1 : Int32)))
 else (
 J9_look_74 k30 (J9_look_40 k30 n) S x1 x2 x3 x4 x5 x6 ((2 : Int32))))
 else (
 J9_look_74 k30 (J9_look_40 k30 n) S x1 x2 x3 x4 x5 x6 ((0 : Int32))))
def J9_look_30 : Nat → St → Int32 → Int32 → Int32 → Int32 → Int32 → Option (Unit × St)
| 0, _, _, _, _, _, _ => none
| n + 1, S, x1, x2, x3, x4, x5 =>
 if (8 : Int32) ≤ x5 then (
 some ((), S))
 else (
 J9_look_40 (J9_look_30 n) fu S x1 x2 x3 x4 x5 ((0 : Int32)))
def J9_look_3 : Nat → St → Int32 → Int32 → Int32 → Int32 → Int32 → Option (Unit × St)
| 0, _, _, _, _, _, _ => none
| n + 1, S, x1, x2, x3, x4, x5 =>
 if (90 : Int32) ≤ x5 then (
 J9_look_30 fu S x1 x2 x3 x4 ((0 : Int32)))
 else (
 zg (zin x5 90) (
 zlet (wL S 6 (x5.toNatClampNeg) (0 : Int64)) fun S_1 =>
 zlet (x5 + (1 : Int32)) fun x5_2 =>
 J9_look_3 n S_1 x1 x2 x3 x4 x5_2))
def J9_look (S : St) (x1 : Int32) (x2 : Int32) (x3 : Int32) (x4 : Int32) : Option (Unit × St) :=
 J9_look_3 fu S x1 x2 x3 x4 ((0 : Int32))
def J9_mark (S : St) (x0 : Int32) (x1 : Int32) (x2 : Int32) (x3 : Int32) : Option (Int32 × St) :=
 some ((((((((6 : Int32) * x0) + x1) * (6 : Int32)) + x2) * (6 : Int32)) + x3), S)
def J9_spread_135 (k26 : St → Int32 → Int32 → Int32 → Int32 → Int32 → Int64 → Int32 → Option (Unit × St)) (S : St) (x1 : Int32) (x2 : Int32) (x3 : Int32) (x4 : Int32) (x5 : Int32) (x6 : Int64) (x8 : Int32) (x9 : Int32) (x10 : Int32) (t0 : Int32) (t1 : Int32) (t3 : Int64) (t4 : Int64) (t5 : Int32) (t6 : Int32) : Option (Unit × St) :=
 zg (decide (t6 = 7 ∨ t6 = 8)) (
 zg (zin (t1 + t0) 18) (
 zg (zin t5 1296) (
 zlet (wL S ((t6).toNatClampNeg) (t5.toNatClampNeg) (t4 + (t3 * (S.2 9 ((t1 + t0)).toNatClampNeg)))) fun S_1 =>
 zg (decide ((S_1.1 0 14) = 7 ∨ (S_1.1 0 14) = 8)) (
 zb (J9_mark S_1 x9 x10 x3 x4) fun r3 S3 =>
 zg (zin r3 1296) (
 zg (zin (((6 : Int32) * x8) + (5 : Int32)) 18) (
 zg (zin r3 1296) (
 zlet (wL S3 (((S_1.1 0 14)).toNatClampNeg) (r3.toNatClampNeg) ((S3.2 (((S_1.1 0 14)).toNatClampNeg) r3.toNatClampNeg) + (x6 * (S3.2 9 ((((6 : Int32) * x8) + (5 : Int32))).toNatClampNeg)))) fun S_4 =>
 zlet (x8 + (1 : Int32)) fun x8_5 =>
 k26 S_4 x1 x2 x3 x4 x5 x6 x8_5)))))))
def J9_spread_59 (k26 : St → Int32 → Int32 → Int32 → Int32 → Int32 → Int64 → Int32 → Option (Unit × St)) (S : St) (x1 : Int32) (x2 : Int32) (x3 : Int32) (x4 : Int32) (x5 : Int32) (x6 : Int64) (x8 : Int32) (x9 : Int32) (t0 : Int32) : Option (Unit × St) :=
 zg (decide ((S.1 0 14) = 7 ∨ (S.1 0 14) = 8)) (
 zb (J9_mark S x9 t0 ((x3 + (1 : Int32))) x4) fun r2 S2 =>
 zg (zin r2 1296) (
 zg (zin ((6 : Int32) * x8) 18) (
 zg (zin r2 1296) (
 zlet (wL S2 (((S.1 0 14)).toNatClampNeg) (r2.toNatClampNeg) ((S2.2 (((S.1 0 14)).toNatClampNeg) r2.toNatClampNeg) + (x6 * (S2.2 9 (((6 : Int32) * x8)).toNatClampNeg)))) fun S_3 =>
 zg (decide ((S_3.1 0 14) = 7 ∨ (S_3.1 0 14) = 8)) (
 zb (J9_mark S_3 x9 t0 x3 ((x4 + (1 : Int32)))) fun r5 S5 =>
 zg (zin r5 1296) (
 if x5 ≤ x4 then (
 J9_spread_135 k26 S5 x1 x2 x3 x4 x5 x6 x8 x9 t0 ((3 : Int32)) (((6 : Int32) * x8)) x6 ((S5.2 (((S_3.1 0 14)).toNatClampNeg) r5.toNatClampNeg)) r5 ((S_3.1 0 14)))
 else (
 J9_spread_135 k26 S5 x1 x2 x3 x4 x5 x6 x8 x9 t0 ((2 : Int32)) (((6 : Int32) * x8)) x6 ((S5.2 (((S_3.1 0 14)).toNatClampNeg) r5.toNatClampNeg)) r5 ((S_3.1 0 14)))))))))
def J9_spread_44 (k26 : St → Int32 → Int32 → Int32 → Int32 → Int32 → Int64 → Int32 → Option (Unit × St)) (S : St) (x1 : Int32) (x2 : Int32) (x3 : Int32) (x4 : Int32) (x5 : Int32) (x6 : Int64) (x8 : Int32) (t0 : Int32) : Option (Unit × St) :=
 if x8 = (1 : Int32) then (
 J9_spread_59 k26 S x1 x2 x3 x4 x5 x6 x8 t0 ((x2 + (1 : Int32))))
 else (
 J9_spread_59 k26 S x1 x2 x3 x4 x5 x6 x8 t0 x2)
def J9_spread_26 : Nat → St → Int32 → Int32 → Int32 → Int32 → Int32 → Int64 → Int32 → Option (Unit × St)
| 0, _, _, _, _, _, _, _, _ => none
| n + 1, S, x1, x2, x3, x4, x5, x6, x8 =>
 if (3 : Int32) ≤ x8 then (
 some ((), S))
 else (
 if x8 = 0 then (
 J9_spread_44 (J9_spread_26 n) S x1 x2 x3 x4 x5 x6 x8 ((x1 + (1 : Int32))))
 else (
 J9_spread_44 (J9_spread_26 n) S x1 x2 x3 x4 x5 x6 x8 x1))
def J9_spread (S : St) (x1 : Int32) (x2 : Int32) (x3 : Int32) (x4 : Int32) (x5 : Int32) : Option (Unit × St) :=
 zg (decide ((S.1 0 13) = 7 ∨ (S.1 0 13) = 8)) (
 zb (J9_mark S x1 x2 x3 x4) fun r2 S2 =>
 zg (zin r2 1296) (
 zlet ((S2.2 (((S.1 0 13)).toNatClampNeg) r2.toNatClampNeg)) fun x6_3 =>
 if (lg_cmp x6_3 (0 : Int64)) = 0 then (
 some ((), S2))
 else (
 J9_spread_26 fu S2 x1 x2 x3 x4 x5 x6_3 ((0 : Int32)))))
def J9_ways_113 (k37 : St → Int32 → Int32 → Int32 → Int32 → Int32 → Option (Int64 × St)) (k73 : St → Int32 → Int32 → Int32 → Int32 → Int32 → Int32 → Option (Int64 × St)) (k83 : St → Int32 → Int32 → Int32 → Int32 → Int32 → Int32 → Int32 → Option (Int64 × St)) (k96 : St → Int32 → Int32 → Int32 → Int32 → Int32 → Int32 → Int32 → Int32 → Option (Int64 × St)) : Nat → St → Int32 → Int32 → Int32 → Int32 → Int32 → Int32 → Int32 → Int32 → Int32 → Option (Int64 × St)
| 0, _, _, _, _, _, _, _, _, _, _ => none
| n + 1, S, x1, x2, x3, x4, x5, x6, x7, x8, x9 =>
 if x5 < (x8 + x9) then (
 zlet (x8 + (1 : Int32)) fun x8_1 =>
 k96 S x1 x2 x3 x4 x5 x6 x7 x8_1)
 else (
 zb (J9_spread S x6 x7 x8 x9 ((x3 - x4))) fun _ S2 =>
 zlet (x9 + (1 : Int32)) fun x9_3 =>
 J9_ways_113 k37 k73 k83 k96 n S2 x1 x2 x3 x4 x5 x6 x7 x8 x9_3)
def J9_ways_151 (k37 : St → Int32 → Int32 → Int32 → Int32 → Int32 → Option (Int64 × St)) (k73 : St → Int32 → Int32 → Int32 → Int32 → Int32 → Int32 → Option (Int64 × St)) (k83 : St → Int32 → Int32 → Int32 → Int32 → Int32 → Int32 → Int32 → Option (Int64 × St)) (S : St) (x1 : Int32) (x2 : Int32) (x3 : Int32) (x4 : Int32) (x5 : Int32) (x6 : Int32) (x7 : Int32) : Option (Int64 × St) :=
 zlet (x7 + (1 : Int32)) fun x7_1 =>
 k83 S x1 x2 x3 x4 x5 x6 x7_1
def J9_ways_96 (k37 : St → Int32 → Int32 → Int32 → Int32 → Int32 → Option (Int64 × St)) (k73 : St → Int32 → Int32 → Int32 → Int32 → Int32 → Int32 → Option (Int64 × St)) (k83 : St → Int32 → Int32 → Int32 → Int32 → Int32 → Int32 → Int32 → Option (Int64 × St)) : Nat → St → Int32 → Int32 → Int32 → Int32 → Int32 → Int32 → Int32 → Int32 → Option (Int64 × St)
| 0, _, _, _, _, _, _, _, _, _ => none
| n + 1, S, x1, x2, x3, x4, x5, x6, x7, x8 =>
 if x5 < x8 then (
 J9_ways_151 k37 k73 k83 S x1 x2 x3 x4 x5 x6 x7)
 else (
 if x4 < x8 then (
 J9_ways_151 k37 k73 k83 S x1 x2 x3 x4 x5 x6 x7)
 else (
 J9_ways_113 k37 k73 k83 (J9_ways_96 k37 k73 k83 n) fu S x1 x2 x3 x4 x5 x6 x7 x8 ((0 : Int32))))
def J9_ways_83 (k37 : St → Int32 → Int32 → Int32 → Int32 → Int32 → Option (Int64 × St)) (k73 : St → Int32 → Int32 → Int32 → Int32 → Int32 → Int32 → Option (Int64 × St)) : Nat → St → Int32 → Int32 → Int32 → Int32 → Int32 → Int32 → Int32 → Option (Int64 × St)
| 0, _, _, _, _, _, _, _, _ => none
| n + 1, S, x1, x2, x3, x4, x5, x6, x7 =>
 if x5 < (x6 + x7) then (
 zlet (x6 + (1 : Int32)) fun x6_1 =>
 k73 S x1 x2 x3 x4 x5 x6_1)
 else (
 J9_ways_96 k37 k73 (J9_ways_83 k37 k73 n) fu S x1 x2 x3 x4 x5 x6 x7 ((0 : Int32)))
def J9_ways_73 (k37 : St → Int32 → Int32 → Int32 → Int32 → Int32 → Option (Int64 × St)) : Nat → St → Int32 → Int32 → Int32 → Int32 → Int32 → Int32 → Option (Int64 × St)
| 0, _, _, _, _, _, _, _ => none
| n + 1, S, x1, x2, x3, x4, x5, x6 =>
 if x5 < x6 then (
 zg (decide ((S.1 0 13) = 7 ∨ (S.1 0 13) = 8)) (
 zg (decide ((S.1 0 14) = 7 ∨ (S.1 0 14) = 8)) (
 zlet (wI S 0 13 (S.1 0 14)) fun S_3 =>
 zlet (wI S_3 0 14 (S.1 0 13)) fun S_4 =>
 zlet (x5 + (1 : Int32)) fun x5_5 =>
 k37 S_4 x1 x2 x3 x4 x5_5)))
 else (
 J9_ways_83 k37 (J9_ways_73 k37 n) fu S x1 x2 x3 x4 x5 x6 ((0 : Int32)))
def J9_ways_46 (k37 : St → Int32 → Int32 → Int32 → Int32 → Int32 → Option (Int64 × St)) : Nat → St → Int32 → Int32 → Int32 → Int32 → Int32 → Int32 → Option (Int64 × St)
| 0, _, _, _, _, _, _, _ => none
| n + 1, S, x1, x2, x3, x4, x5, x6 =>
 zg (decide ((S.1 0 14) = 7 ∨ (S.1 0 14) = 8)) (
 if (1296 : Int32) ≤ x6 then (
 J9_ways_73 k37 fu S x1 x2 x3 x4 x5 ((0 : Int32)))
 else (
 zg (decide ((S.1 0 14) = 7 ∨ (S.1 0 14) = 8)) (
 zg (zin x6 1296) (
 zlet (wL S (((S.1 0 14)).toNatClampNeg) (x6.toNatClampNeg) (0 : Int64)) fun S_3 =>
 zlet (x6 + (1 : Int32)) fun x6_4 =>
 J9_ways_46 k37 n S_3 x1 x2 x3 x4 x5 x6_4))))
def J9_ways_222 (k195 : St → Int32 → Int32 → Int32 → Int32 → Int64 → Int32 → Option (Int64 × St)) (k207 : St → Int32 → Int32 → Int32 → Int32 → Int64 → Int32 → Int32 → Option (Int64 × St)) : Nat → St → Int32 → Int32 → Int32 → Int32 → Int64 → Int32 → Int32 → Int32 → Option (Int64 × St)
| 0, _, _, _, _, _, _, _, _, _ => none
| n + 1, S, x1, x2, x3, x4, x5, x7, x8, x9 =>
 if x1 < (x4 + x9) then (
 zlet (x8 + (1 : Int32)) fun x8_1 =>
 k207 S x1 x2 x3 x4 x5 x7 x8_1)
 else (
 zg (decide ((S.1 0 13) = 7 ∨ (S.1 0 13) = 8)) (
 zb (J9_mark S x7 x8 x4 x9) fun r3 S3 =>
 zg (zin r3 1296) (
 zlet ((x5 + (S3.2 (((S.1 0 13)).toNatClampNeg) r3.toNatClampNeg))) fun x5_4 =>
 zlet (x9 + (1 : Int32)) fun x9_5 =>
 J9_ways_222 k195 k207 n S3 x1 x2 x3 x4 x5_4 x7 x8 x9_5)))
def J9_ways_207 (k195 : St → Int32 → Int32 → Int32 → Int32 → Int64 → Int32 → Option (Int64 × St)) : Nat → St → Int32 → Int32 → Int32 → Int32 → Int64 → Int32 → Int32 → Option (Int64 × St)
| 0, _, _, _, _, _, _, _, _ => none
| n + 1, S, x1, x2, x3, x4, x5, x7, x8 =>
 if x1 < (x7 + x8) then (
 zlet (x7 + (1 : Int32)) fun x7_1 =>
 k195 S x1 x2 x3 x4 x5 x7_1)
 else (
 zlet ((x3 - x4)) fun x9_2 =>
 J9_ways_222 k195 (J9_ways_207 k195 n) fu S x1 x2 x3 x4 x5 x7 x8 x9_2)
def J9_ways_195 : Nat → St → Int32 → Int32 → Int32 → Int32 → Int64 → Int32 → Option (Int64 × St)
| 0, _, _, _, _, _, _, _ => none
| n + 1, S, x1, x2, x3, x4, x5, x7 =>
 if x2 ≤ x7 then (
 some (x5, S))
 else (
 zlet ((x2 - x7)) fun x8_1 =>
 J9_ways_207 (J9_ways_195 n) fu S x1 x2 x3 x4 x5 x7 x8_1)
def J9_ways_37 : Nat → St → Int32 → Int32 → Int32 → Int32 → Int32 → Option (Int64 × St)
| 0, _, _, _, _, _, _ => none
| n + 1, S, x1, x2, x3, x4, x5 =>
 if x1 ≤ x5 then (
 J9_ways_195 fu S x1 x2 x3 x4 ((0 : Int64)) ((0 : Int32)))
 else (
 J9_ways_46 (J9_ways_37 n) fu S x1 x2 x3 x4 x5 ((0 : Int32)))
def J9_ways_3 : Nat → St → Int32 → Int32 → Int32 → Int32 → Int32 → Option (Int64 × St)
| 0, _, _, _, _, _, _ => none
| n + 1, S, x1, x2, x3, x4, x5 =>
 zg (decide ((S.1 0 13) = 7 ∨ (S.1 0 13) = 8)) (
 if (1296 : Int32) ≤ x5 then (
 zg (decide ((S.1 0 13) = 7 ∨ (S.1 0 13) = 8)) (
 zg (zin (0 : Int32) 1296) (
 zlet (wL S (((S.1 0 13)).toNatClampNeg) (((0 : Int32)).toNatClampNeg) (1 : Int64)) fun S_3 =>
 J9_ways_37 fu S_3 x1 x2 x3 x4 ((0 : Int32)))))
 else (
 zg (decide ((S.1 0 13) = 7 ∨ (S.1 0 13) = 8)) (
 zg (zin x5 1296) (
 zlet (wL S (((S.1 0 13)).toNatClampNeg) (x5.toNatClampNeg) (0 : Int64)) fun S_5 =>
 zlet (x5 + (1 : Int32)) fun x5_6 =>
 J9_ways_3 n S_5 x1 x2 x3 x4 x5_6))))
def J9_ways (S : St) (x1 : Int32) (x2 : Int32) (x3 : Int32) (x4 : Int32) : Option (Int64 × St) :=
 J9_ways_3 fu S x1 x2 x3 x4 ((0 : Int32))
def J9_oldWays_107 (k6 : St → Int32 → Int32 → Int32 → Int32 → Int32 → Int32 → Int64 → Int32 → Option (Int64 × St)) (k28 : St → Int32 → Int32 → Int32 → Int32 → Int32 → Int32 → Int64 → Int32 → Int32 → Option (Int64 × St)) (k38 : St → Int32 → Int32 → Int32 → Int32 → Int32 → Int32 → Int64 → Int32 → Int32 → Int32 → Option (Int64 × St)) (k77 : St → Int32 → Int32 → Int32 → Int32 → Int32 → Int32 → Int64 → Int32 → Int32 → Int32 → Int32 → Option (Int64 × St)) (S : St) (x1 : Int32) (x2 : Int32) (x3 : Int32) (x4 : Int32) (x5 : Int32) (x6 : Int32) (x7 : Int64) (x9 : Int32) (x10 : Int32) (x11 : Int32) (x12 : Int32) (t0 : Int32) : Option (Int64 × St) :=
 zg (zin (((6 : Int32) * x11) + t0) 18) (
 zg (zin (((30 : Int32) * x11) + ((2 : Int32) * x12)) 90) (
 zg (zin (((6 : Int32) * x11) + t0) 18) (
 zlet (wL S 9 (((((6 : Int32) * x11) + t0)).toNatClampNeg) ((S.2 9 ((((6 : Int32) * x11) + t0)).toNatClampNeg) + (S.2 6 ((((30 : Int32) * x11) + ((2 : Int32) * x12))).toNatClampNeg))) fun S_1 =>
 zg (zin ((((6 : Int32) * x11) + t0) + (1 : Int32)) 18) (
 zg (zin ((((30 : Int32) * x11) + ((2 : Int32) * x12)) + (1 : Int32)) 90) (
 zg (zin ((((6 : Int32) * x11) + t0) + (1 : Int32)) 18) (
 zlet (wL S_1 9 ((((((6 : Int32) * x11) + t0) + (1 : Int32))).toNatClampNeg) ((S_1.2 9 (((((6 : Int32) * x11) + t0) + (1 : Int32))).toNatClampNeg) + (S_1.2 6 (((((30 : Int32) * x11) + ((2 : Int32) * x12)) + (1 : Int32))).toNatClampNeg))) fun S_2 =>
 zlet (x12 + (1 : Int32)) fun x12_3 =>
 k77 S_2 x1 x2 x3 x4 x5 x6 x7 x9 x10 x11 x12_3))))))
def J9_oldWays_77 (k6 : St → Int32 → Int32 → Int32 → Int32 → Int32 → Int32 → Int64 → Int32 → Option (Int64 × St)) (k28 : St → Int32 → Int32 → Int32 → Int32 → Int32 → Int32 → Int64 → Int32 → Int32 → Option (Int64 × St)) (k38 : St → Int32 → Int32 → Int32 → Int32 → Int32 → Int32 → Int64 → Int32 → Int32 → Int32 → Option (Int64 × St)) : Nat → St → Int32 → Int32 → Int32 → Int32 → Int32 → Int32 → Int64 → Int32 → Int32 → Int32 → Int32 → Option (Int64 × St)
| 0, _, _, _, _, _, _, _, _, _, _, _, _ => none
| n + 1, S, x1, x2, x3, x4, x5, x6, x7, x9, x10, x11, x12 =>
 if (15 : Int32) ≤ x12 then (
 zlet (x11 + (1 : Int32)) fun x11_1 =>
 k38 S x1 x2 x3 x4 x5 x6 x7 x9 x10 x11_1)
 else (
 if x10 ≤ x12 then (
 if x12 = x10 then (
 J9_oldWays_107 k6 k28 k38 (J9_oldWays_77 k6 k28 k38 n) S x1 x2 x3 x4 x5 x6 x7 x9 x10 x11 x12 ((2 : Int32)))
 else (
 J9_oldWays_107 k6 k28 k38 (J9_oldWays_77 k6 k28 k38 n) S x1 x2 x3 x4 x5 x6 x7 x9 x10 x11 x12 ((4 : Int32))))
 else (
 J9_oldWays_107 k6 k28 k38 (J9_oldWays_77 k6 k28 k38 n) S x1 x2 x3 x4 x5 x6 x7 x9 x10 x11 x12 ((0 : Int32))))
def J9_oldWays_47 (k6 : St → Int32 → Int32 → Int32 → Int32 → Int32 → Int32 → Int64 → Int32 → Option (Int64 × St)) (k28 : St → Int32 → Int32 → Int32 → Int32 → Int32 → Int32 → Int64 → Int32 → Int32 → Option (Int64 × St)) (k38 : St → Int32 → Int32 → Int32 → Int32 → Int32 → Int32 → Int64 → Int32 → Int32 → Int32 → Option (Int64 × St)) : Nat → St → Int32 → Int32 → Int32 → Int32 → Int32 → Int32 → Int64 → Int32 → Int32 → Int32 → Int32 → Option (Int64 × St)
| 0, _, _, _, _, _, _, _, _, _, _, _, _ => none
| n + 1, S, x1, x2, x3, x4, x5, x6, x7, x9, x10, x11, x12 =>
 if (6 : Int32) ≤ x12 then (
 J9_oldWays_77 k6 k28 k38 fu S x1 x2 x3 x4 x5 x6 x7 x9 x10 x11 ((0 : Int32)))
 else (
 zg (zin (((6 : Int32) * x11) + x12) 18) (
 zlet (wL S 9 (((((6 : Int32) * x11) + x12)).toNatClampNeg) (0 : Int64)) fun S_1 =>
 zlet (x12 + (1 : Int32)) fun x12_2 =>
 J9_oldWays_47 k6 k28 k38 n S_1 x1 x2 x3 x4 x5 x6 x7 x9 x10 x11 x12_2))
def J9_oldWays_190 (k6 : St → Int32 → Int32 → Int32 → Int32 → Int32 → Int32 → Int64 → Int32 → Option (Int64 × St)) (k28 : St → Int32 → Int32 → Int32 → Int32 → Int32 → Int32 → Int64 → Int32 → Int32 → Option (Int64 × St)) : Nat → St → Int32 → Int32 → Int32 → Int32 → Int32 → Int32 → Int64 → Int32 → Int32 → Int32 → Option (Int64 × St)
| 0, _, _, _, _, _, _, _, _, _, _, _ => none
| n + 1, S, x1, x2, x3, x4, x5, x6, x7, x9, x10, x11 =>
 if x3 ≤ x11 then (
 zlet (x10 + (1 : Int32)) fun x10_1 =>
 k28 S x1 x2 x3 x4 x5 x6 x7 x9 x10_1)
 else (
 zb (J9_ways S x1 x2 x3 x11) fun r2 S2 =>
 zlet ((x7 + r2)) fun x7_3 =>
 zlet (x11 + (1 : Int32)) fun x11_4 =>
 J9_oldWays_190 k6 k28 n S2 x1 x2 x3 x4 x5 x6 x7_3 x9 x10 x11_4)
def J9_oldWays_38 (k6 : St → Int32 → Int32 → Int32 → Int32 → Int32 → Int32 → Int64 → Int32 → Option (Int64 × St)) (k28 : St → Int32 → Int32 → Int32 → Int32 → Int32 → Int32 → Int64 → Int32 → Int32 → Option (Int64 × St)) : Nat → St → Int32 → Int32 → Int32 → Int32 → Int32 → Int32 → Int64 → Int32 → Int32 → Int32 → Option (Int64 × St)
| 0, _, _, _, _, _, _, _, _, _, _, _ => none
| n + 1, S, x1, x2, x3, x4, x5, x6, x7, x9, x10, x11 =>
 if (3 : Int32) ≤ x11 then (
 J9_oldWays_190 k6 k28 fu S x1 x2 x3 x4 x5 x6 x7 x9 x10 ((0 : Int32)))
 else (
 J9_oldWays_47 k6 k28 (J9_oldWays_38 k6 k28 n) fu S x1 x2 x3 x4 x5 x6 x7 x9 x10 x11 ((0 : Int32)))
def J9_oldWays_28 (k6 : St → Int32 → Int32 → Int32 → Int32 → Int32 → Int32 → Int64 → Int32 → Option (Int64 × St)) : Nat → St → Int32 → Int32 → Int32 → Int32 → Int32 → Int32 → Int64 → Int32 → Int32 → Option (Int64 × St)
| 0, _, _, _, _, _, _, _, _, _, _ => none
| n + 1, S, x1, x2, x3, x4, x5, x6, x7, x9, x10 =>
 if (15 : Int32) ≤ x10 then (
 zlet (x9 + (1 : Int32)) fun x9_1 =>
 k6 S x1 x2 x3 x4 x5 x6 x7 x9_1)
 else (
 J9_oldWays_38 k6 (J9_oldWays_28 k6 n) fu S x1 x2 x3 x4 x5 x6 x7 x9 x10 ((0 : Int32)))
def J9_oldWays_6 : Nat → St → Int32 → Int32 → Int32 → Int32 → Int32 → Int32 → Int64 → Int32 → Option (Int64 × St)
| 0, _, _, _, _, _, _, _, _, _ => none
| n + 1, S, x1, x2, x3, x4, x5, x6, x7, x9 =>
 if (15 : Int32) ≤ x9 then (
 some (x7, S))
 else (
 zb (J9_look S x9 x4 x5 x6) fun _ S1 =>
 J9_oldWays_28 (J9_oldWays_6 n) fu S1 x1 x2 x3 x4 x5 x6 x7 x9 ((0 : Int32)))
def J9_oldWays (S : St) (x1 : Int32) (x2 : Int32) (x3 : Int32) (x4 : Int32) (x5 : Int32) (x6 : Int32) : Option (Int64 × St) :=
 J9_oldWays_6 fu S x1 x2 x3 x4 x5 x6 ((0 : Int64)) ((0 : Int32))
def J9_refuse (S : St) (x1 : Int32) : Option (Int32 × St) :=
 zlet (wI S 0 0 x1) fun S_1 =>
 some ((-1 : Int32), S_1)
def J9_choose_261 (k143 : St → Int32 → Int32 → Int32 → Int32 → Int32 → Int32 → Int32 → Int32 → Int32 → Int32 → Int32 → Int32 → Option (Int32 × St)) (k161 : St → Int32 → Int32 → Int32 → Int32 → Int32 → Int32 → Int32 → Int32 → Int32 → Int32 → Int32 → Int32 → Int64 → Int32 → Option (Int32 × St)) (k171 : St → Int32 → Int32 → Int32 → Int32 → Int32 → Int32 → Int32 → Int32 → Int32 → Int32 → Int32 → Int32 → Int64 → Int32 → Int32 → Option (Int32 × St)) (S : St) (x1 : Int32) (x2 : Int32) (x3 : Int32) (x4 : Int32) (x5 : Int32) (x6 : Int32) (x7 : Int32) (x8 : Int32) (x9 : Int32) (x11 : Int32) (x12 : Int32) (x13 : Int32) (x14 : Int64) (x16 : Int32) (x17 : Int32) : Option (Int32 × St) :=
 zlet (x17 + (1 : Int32)) fun x17_1 =>
 k171 S x1 x2 x3 x4 x5 x6 x7 x8 x9 x11 x12 x13 x14 x16 x17_1
def J9_choose_210 (k143 : St → Int32 → Int32 → Int32 → Int32 → Int32 → Int32 → Int32 → Int32 → Int32 → Int32 → Int32 → Int32 → Option (Int32 × St)) (k161 : St → Int32 → Int32 → Int32 → Int32 → Int32 → Int32 → Int32 → Int32 → Int32 → Int32 → Int32 → Int32 → Int64 → Int32 → Option (Int32 × St)) (k171 : St → Int32 → Int32 → Int32 → Int32 → Int32 → Int32 → Int32 → Int32 → Int32 → Int32 → Int32 → Int32 → Int64 → Int32 → Int32 → Option (Int32 × St)) (S : St) (x1 : Int32) (x2 : Int32) (x3 : Int32) (x4 : Int32) (x5 : Int32) (x6 : Int32) (x7 : Int32) (x8 : Int32) (x9 : Int32) (x11 : Int32) (x12 : Int32) (x13 : Int32) (x14 : Int64) (x16 : Int32) (x17 : Int32) (x18 : Int32) : Option (Int32 × St) :=
 zb (J9_oldWays S x13 x16 x17 x2 x3 x4) fun r1 S1 =>
 zb (J9_isAbove S1 r1 x14 (x5.toInt64) (x6.toInt64)) fun r2 S2 =>
 if r2 = 0 then (
 zlet (((((100 : Int32) * x13) + ((10 : Int32) * x16)) + x17)) fun x11_3 =>
 J9_choose_261 k143 k161 k171 S2 x1 x2 x3 x4 x5 x6 x7 x8 x9 x11_3 x18 x13 x14 x16 x17)
 else (
 J9_choose_261 k143 k161 k171 S2 x1 x2 x3 x4 x5 x6 x7 x8 x9 x11 x12 x13 x14 x16 x17)
def J9_choose_171 (k143 : St → Int32 → Int32 → Int32 → Int32 → Int32 → Int32 → Int32 → Int32 → Int32 → Int32 → Int32 → Int32 → Option (Int32 × St)) (k161 : St → Int32 → Int32 → Int32 → Int32 → Int32 → Int32 → Int32 → Int32 → Int32 → Int32 → Int32 → Int32 → Int64 → Int32 → Option (Int32 × St)) : Nat → St → Int32 → Int32 → Int32 → Int32 → Int32 → Int32 → Int32 → Int32 → Int32 → Int32 → Int32 → Int32 → Int64 → Int32 → Int32 → Option (Int32 × St)
| 0, _, _, _, _, _, _, _, _, _, _, _, _, _, _, _, _ => none
| n + 1, S, x1, x2, x3, x4, x5, x6, x7, x8, x9, x11, x12, x13, x14, x16, x17 =>
 if x13 < x17 then (
 zlet (x16 + (1 : Int32)) fun x16_1 =>
 k161 S x1 x2 x3 x4 x5 x6 x7 x8 x9 x11 x12 x13 x14 x16_1)
 else (
 zlet ((((x13 * x7) + (x16 * x8)) + (x17 * x9))) fun x18_2 =>
 if x11 = (-1 : Int32) then (
 J9_choose_210 k143 k161 (J9_choose_171 k143 k161 n) S x1 x2 x3 x4 x5 x6 x7 x8 x9 x11 x12 x13 x14 x16 x17 x18_2)
 else (
 if x12 ≤ x18_2 then (
 J9_choose_261 k143 k161 (J9_choose_171 k143 k161 n) S x1 x2 x3 x4 x5 x6 x7 x8 x9 x11 x12 x13 x14 x16 x17)
 else (
 J9_choose_210 k143 k161 (J9_choose_171 k143 k161 n) S x1 x2 x3 x4 x5 x6 x7 x8 x9 x11 x12 x13 x14 x16 x17 x18_2)))
def J9_choose_161 (k143 : St → Int32 → Int32 → Int32 → Int32 → Int32 → Int32 → Int32 → Int32 → Int32 → Int32 → Int32 → Int32 → Option (Int32 × St)) : Nat → St → Int32 → Int32 → Int32 → Int32 → Int32 → Int32 → Int32 → Int32 → Int32 → Int32 → Int32 → Int32 → Int64 → Int32 → Option (Int32 × St)
| 0, _, _, _, _, _, _, _, _, _, _, _, _, _, _, _ => none
| n + 1, S, x1, x2, x3, x4, x5, x6, x7, x8, x9, x11, x12, x13, x14, x16 =>
 if x13 < x16 then (
 zlet (x13 + (1 : Int32)) fun x13_1 =>
 k143 S x1 x2 x3 x4 x5 x6 x7 x8 x9 x11 x12 x13_1)
 else (
 J9_choose_171 k143 (J9_choose_161 k143 n) fu S x1 x2 x3 x4 x5 x6 x7 x8 x9 x11 x12 x13 x14 x16 ((1 : Int32)))
def J9_choose_143 : Nat → St → Int32 → Int32 → Int32 → Int32 → Int32 → Int32 → Int32 → Int32 → Int32 → Int32 → Int32 → Int32 → Option (Int32 × St)
| 0, _, _, _, _, _, _, _, _, _, _, _, _, _ => none
| n + 1, S, x1, x2, x3, x4, x5, x6, x7, x8, x9, x11, x12, x13 =>
 if x1 < x13 then (
 if x11 = (-1 : Int32) then (
 zb (J9_refuse S ((8 : Int32))) fun r2 S2 =>
 some (r2, S2))
 else (
 zlet (wI S 0 0 (0 : Int32)) fun S_1 =>
 some (x11, S_1)))
 else (
 zb (J9_allWays S x13 x3) fun r3 S3 =>
 J9_choose_161 (J9_choose_143 n) fu S3 x1 x2 x3 x4 x5 x6 x7 x8 x9 x11 x12 x13 r3 ((1 : Int32)))
def J9_choose_101 (S : St) (x1 : Int32) (x2 : Int32) (x3 : Int32) (x4 : Int32) (x5 : Int32) (x6 : Int32) (x7 : Int32) (x8 : Int32) (x9 : Int32) (t0 : Int32) : Option (Int32 × St) :=
 if t0 = 0 then (
 zb (J9_refuse S ((1 : Int32))) fun r3 S3 =>
 some (r3, S3))
 else (
 zb (J9_allWays S x1 x3) fun r1 S1 =>
 if (lg_cmp r1 (-1 : Int64)) = 0 then (
 zb (J9_refuse S1 ((9 : Int32))) fun r2 S2 =>
 some (r2, S2))
 else (
 J9_choose_143 fu S1 x1 x2 x3 x4 x5 x6 x7 x8 x9 ((-1 : Int32)) ((0 : Int32)) ((1 : Int32))))
def J9_choose_100 (S : St) (x1 : Int32) (x2 : Int32) (x3 : Int32) (x4 : Int32) (x5 : Int32) (x6 : Int32) (x7 : Int32) (x8 : Int32) (x9 : Int32) : Option (Int32 × St) :=
 J9_choose_101 S x1 x2 x3 x4 x5 x6 x7 x8 x9 ((0 : Int32))
def J9_choose_50 (S : St) (x1 : Int32) (x2 : Int32) (x3 : Int32) (x4 : Int32) (x5 : Int32) (x6 : Int32) (x7 : Int32) (x8 : Int32) (x9 : Int32) (t0 : Int32) : Option (Int32 × St) :=
 if t0 = 0 then (
 J9_choose_100 S x1 x2 x3 x4 x5 x6 x7 x8 x9)
 else (
 if x7 < 0 then (
 J9_choose_100 S x1 x2 x3 x4 x5 x6 x7 x8 x9)
 else (
 if (1000 : Int32) < x7 then (
 J9_choose_100 S x1 x2 x3 x4 x5 x6 x7 x8 x9)
 else (
 if x8 < 0 then (
 J9_choose_100 S x1 x2 x3 x4 x5 x6 x7 x8 x9)
 else (
 if (1000 : Int32) < x8 then (
 J9_choose_100 S x1 x2 x3 x4 x5 x6 x7 x8 x9)
 else (
 if x9 < 0 then (
 J9_choose_100 S x1 x2 x3 x4 x5 x6 x7 x8 x9)
 else (
 if (1000 : Int32) < x9 then (
 J9_choose_100 S x1 x2 x3 x4 x5 x6 x7 x8 x9)
 else (
 J9_choose_101 S x1 x2 x3 x4 x5 x6 x7 x8 x9 ((1 : Int32)))))))))
def J9_choose_49 (S : St) (x1 : Int32) (x2 : Int32) (x3 : Int32) (x4 : Int32) (x5 : Int32) (x6 : Int32) (x7 : Int32) (x8 : Int32) (x9 : Int32) : Option (Int32 × St) :=
 J9_choose_50 S x1 x2 x3 x4 x5 x6 x7 x8 x9 ((0 : Int32))
def J9_choose (S : St) (x1 : Int32) (x2 : Int32) (x3 : Int32) (x4 : Int32) (x5 : Int32) (x6 : Int32) (x7 : Int32) (x8 : Int32) (x9 : Int32) : Option (Int32 × St) :=
 if x1 < (1 : Int32) then (
 J9_choose_49 S x1 x2 x3 x4 x5 x6 x7 x8 x9)
 else (
 if (5 : Int32) < x1 then (
 J9_choose_49 S x1 x2 x3 x4 x5 x6 x7 x8 x9)
 else (
 zb (J9_isAsked S x2 x3 x4) fun r1 S1 =>
 if r1 = 0 then (
 J9_choose_49 S1 x1 x2 x3 x4 x5 x6 x7 x8 x9)
 else (
 if x5 < 0 then (
 J9_choose_49 S1 x1 x2 x3 x4 x5 x6 x7 x8 x9)
 else (
 if x6 < (1 : Int32) then (
 J9_choose_49 S1 x1 x2 x3 x4 x5 x6 x7 x8 x9)
 else (
 if (1000000 : Int32) < x6 then (
 J9_choose_49 S1 x1 x2 x3 x4 x5 x6 x7 x8 x9)
 else (
 if x6 < x5 then (
 J9_choose_49 S1 x1 x2 x3 x4 x5 x6 x7 x8 x9)
 else (
 J9_choose_50 S1 x1 x2 x3 x4 x5 x6 x7 x8 x9 ((1 : Int32)))))))))
def J9_hand_2 : Nat → St → Int32 → Int32 → Int32 → Option (Unit × St)
| 0, _, _, _, _ => none
| n + 1, S, x1, x2, x3 =>
 if (S.1 0 18) ≤ x3 then (
 zlet (wI S 0 23 ((S.1 0 23) + (1 : Int32))) fun S_1 =>
 some ((), S_1))
 else (
 zg (zin x3 5) (
 if (S.1 12 x3.toNatClampNeg) = 0 then (
 zlet (x3 + (1 : Int32)) fun x3_3 =>
 J9_hand_2 n S x1 x2 x3_3)
 else (
 zg (zin (((5 : Int32) * x3) + x1) 25) (
 zg (zin (((5 : Int32) * x3) + x1) 25) (
 zlet (wI S 11 (((((5 : Int32) * x3) + x1)).toNatClampNeg) (if (S.1 11 ((((5 : Int32) * x3) + x1)).toNatClampNeg) < x2 then x2 else (S.1 11 ((((5 : Int32) * x3) + x1)).toNatClampNeg))) fun S_2 =>
 some ((), S_2))))))
def J9_hand (S : St) (x1 : Int32) (x2 : Int32) : Option (Unit × St) :=
 J9_hand_2 fu S x1 x2 ((0 : Int32))
def J9_comes_175 (S : St) : Option (Unit × St) :=
 some ((), S)
def J9_comes_36 (S : St) (x1 : Int32) (x2 : Int32) (x3 : Int32) (x4 : Int32) (x5 : Int32) : Option (Unit × St) :=
 zg (zin x3 5) (
 if (S.1 12 x3.toNatClampNeg) = 0 then (
 zb (J9_hand S x3 x4) fun _ S1 =>
 J9_comes_175 S1)
 else (
 zg (zin x3 5) (
 zg (zin x3 5) (
 zlet (wI S 10 (x3.toNatClampNeg) (if (S.1 10 x3.toNatClampNeg) < x4 then x4 else (S.1 10 x3.toNatClampNeg))) fun S_2 =>
 if x1 = 0 then (
 zb (J9_send S_2 x5 ((1 : Int32)) x2 x3 ((0 : Int32)) ((0 : Int32))) fun _ S3 =>
 J9_comes_175 S3)
 else (
 J9_comes_175 S_2)))))
def J9_comes_154 (S : St) (x2 : Int32) (x3 : Int32) (x4 : Int32) : Option (Unit × St) :=
 zg (zin x2 40) (
 if (S.1 0 20) ≤ (S.1 26 x2.toNatClampNeg) then (
 J9_comes_175 S)
 else (
 zb (J9_answer S x2 x3 x4) fun _ S1 =>
 J9_comes_175 S1))
def J9_comes (S : St) (x1 : Int32) (x2 : Int32) (x3 : Int32) (x4 : Int32) (x5 : Int32) : Option (Unit × St) :=
 if x1 = 0 then (
 J9_comes_36 S x1 x2 x3 x4 x5)
 else (
 if x1 = 1 then (
 zg (zin x2 41) (
 zg (zin x2 41) (
 zlet (wI S 22 (x2.toNatClampNeg) ((S.1 22 x2.toNatClampNeg) + (1 : Int32))) fun S_1 =>
 zg (zin x2 41) (
 if (S_1.1 22 x2.toNatClampNeg) = (S_1.1 0 19) then (
 zg (zin x2 41) (
 zlet (wI S_1 23 (x2.toNatClampNeg) (S_1.1 0 21)) fun S_2 =>
 J9_comes_175 S_2))
 else (
 J9_comes_175 S_1)))))
 else (
 if x1 = 2 then (
 zg (zin x3 5) (
 if (S.1 12 x3.toNatClampNeg) = 0 then (
 J9_comes_175 S)
 else (
 zg (zin x3 5) (
 zb (J9_send S x5 ((3 : Int32)) x2 x3 ((S.1 10 x3.toNatClampNeg)) ((0 : Int32))) fun _ S3 =>
 J9_comes_175 S3))))
 else (
 if x1 = 3 then (
 J9_comes_154 S x2 x3 x4)
 else (
 if x1 = 4 then (
 J9_comes_36 S x1 x2 x3 x4 x5)
 else (
 J9_comes_154 S x2 x3 x4)))))
def J9_cut_35 (S : St) (t0 : Int64) : Option (Int64 × St) :=
 some (t0, S)
def J9_cut (S : St) (x0 : Int64) (x2 : Int32) : Option (Int64 × St) :=
 if x2 = 0 then (
 J9_cut_35 S (((x0.toInt32).toInt8.toInt32).toInt64))
 else (
 if x2 = (1 : Int32) then (
 J9_cut_35 S (((x0.toInt32).toInt16.toInt32).toInt64))
 else (
 if x2 = (2 : Int32) then (
 J9_cut_35 S ((x0.toInt32).toInt64))
 else (
 J9_cut_35 S x0)))
def J9_isSheet_14 (S : St) (t0 : Int32) : Option (Int32 × St) :=
 zg (zbo t0) (some (t0, S))
def J9_isSheet_13 (S : St) : Option (Int32 × St) :=
 J9_isSheet_14 S ((0 : Int32))
def J9_isSheet (S : St) (x0 : Int32) : Option (Int32 × St) :=
 if x0 < 0 then (
 J9_isSheet_13 S)
 else (
 if (4 : Int32) ≤ x0 then (
 J9_isSheet_13 S)
 else (
 J9_isSheet_14 S ((1 : Int32))))
def J9_copy_28 (S : St) : Option (Int32 × St) :=
 zb (J9_is S ((1 : Int32))) fun r1 S1 =>
 zg (zbo r1) (some (r1, S1))
def J9_copy_54 (S : St) : Option (Int32 × St) :=
 zb (J9_is S ((2 : Int32))) fun r1 S1 =>
 zg (zbo r1) (some (r1, S1))
def J9_copy_87 (S : St) : Option (Int32 × St) :=
 zb (J9_is S ((3 : Int32))) fun r1 S1 =>
 zg (zbo r1) (some (r1, S1))
def J9_copy_121 (k96 : St → Int32 → Int32 → Int32 → Int32 → Int32 → Int32 → Option (Int32 × St)) (S : St) (x1 : Int32) (x2 : Int32) (x3 : Int32) (x4 : Int32) (x5 : Int32) (x6 : Int32) (t0 : Int32) : Option (Int32 × St) :=
 zg (zin ((((16 : Int32) * x1) + x2) + t0) 64) (
 zg (zin x3 4) (
 zb (J9_cut S ((S.2 3 (((((16 : Int32) * x1) + x2) + t0)).toNatClampNeg)) ((S.1 1 x3.toNatClampNeg))) fun r1 S1 =>
 zg (zin ((((16 : Int32) * x3) + x4) + t0) 64) (
 zlet (wL S1 3 ((((((16 : Int32) * x3) + x4) + t0)).toNatClampNeg) r1) fun S_2 =>
 zlet (x6 + (1 : Int32)) fun x6_3 =>
 k96 S_2 x1 x2 x3 x4 x5 x6_3)))
def J9_copy_96 : Nat → St → Int32 → Int32 → Int32 → Int32 → Int32 → Int32 → Option (Int32 × St)
| 0, _, _, _, _, _, _, _ => none
| n + 1, S, x1, x2, x3, x4, x5, x6 =>
 if x5 ≤ x6 then (
 zb (J9_is S ((0 : Int32))) fun r1 S1 =>
 zg (zbo r1) (some (r1, S1)))
 else (
 if x4 ≤ x2 then (
 J9_copy_121 (J9_copy_96 n) S x1 x2 x3 x4 x5 x6 x6)
 else (
 J9_copy_121 (J9_copy_96 n) S x1 x2 x3 x4 x5 x6 (((x5 - (1 : Int32)) - x6))))
def J9_copy (S : St) (x1 : Int32) (x2 : Int32) (x3 : Int32) (x4 : Int32) (x5 : Int32) : Option (Int32 × St) :=
 zb (J9_isSheet S x1) fun r1 S1 =>
 if r1 = 0 then (
 J9_copy_28 S1)
 else (
 zb (J9_isSheet S1 x3) fun r2 S2 =>
 if r2 = 0 then (
 J9_copy_28 S2)
 else (
 if x2 < 0 then (
 J9_copy_28 S2)
 else (
 if x4 < 0 then (
 J9_copy_28 S2)
 else (
 if 0 ≤ x5 then (
 zg (zin x1 4) (
 if (S2.1 2 x1.toNatClampNeg) = (-1 : Int32) then (
 J9_copy_54 S2)
 else (
 zg (zin x3 4) (
 if (S2.1 2 x3.toNatClampNeg) = (-1 : Int32) then (
 J9_copy_54 S2)
 else (
 zg (zin x1 4) (
 if ((S2.1 2 x1.toNatClampNeg) - x2) < x5 then (
 J9_copy_87 S2)
 else (
 zg (zin x3 4) (
 if x5 ≤ ((S2.1 2 x3.toNatClampNeg) - x4) then (
 J9_copy_96 fu S2 x1 x2 x3 x4 x5 ((0 : Int32)))
 else (
 J9_copy_87 S2)))))))))
 else (
 J9_copy_28 S2)))))
def J9_delay (S : St) (x1 : Int32) (x2 : Int32) : Option (Int32 × St) :=
 zg (zin (((16 : Int32) * x1) + x2) 64) (
 some (((S.2 3 ((((16 : Int32) * x1) + x2)).toNatClampNeg)).toInt32, S))
def J9_done_54 (S : St) (x1 : Int32) (t0 : Int32) : Option (Int32 × St) :=
 if t0 ≤ 0 then (
 zlet (wI S 0 0 (0 : Int32)) fun S_1 =>
 zg (zin x1 41) (
 some ((S_1.1 23 x1.toNatClampNeg), S_1)))
 else (
 zb (J9_refuse S t0) fun r2 S2 =>
 some (r2, S2))
def J9_done_11 (S : St) (x1 : Int32) : Option (Int32 × St) :=
 J9_done_54 S x1 ((1 : Int32))
def J9_done (S : St) (x1 : Int32) : Option (Int32 × St) :=
 if x1 < (1 : Int32) then (
 J9_done_11 S x1)
 else (
 if x1 ≤ (40 : Int32) then (
 if (S.1 0 16) = 0 then (
 J9_done_54 S x1 ((4 : Int32)))
 else (
 if x1 ≤ (S.1 0 25) then (
 zg (zin x1 41) (
 if (S.1 23 x1.toNatClampNeg) = (-1 : Int32) then (
 J9_done_54 S x1 ((7 : Int32)))
 else (
 J9_done_54 S x1 ((0 : Int32)))))
 else (
 J9_done_54 S x1 ((1 : Int32)))))
 else (
 J9_done_11 S x1))
def J9_wrongCopy_37 (S : St) (t0 : Int32) : Option (Int32 × St) :=
 some (t0, S)
def J9_wrongCopy_9 (S : St) : Option (Int32 × St) :=
 J9_wrongCopy_37 S ((1 : Int32))
def J9_wrongCopy (S : St) (x1 : Int32) : Option (Int32 × St) :=
 if x1 < 0 then (
 J9_wrongCopy_9 S)
 else (
 if x1 < (5 : Int32) then (
 if (S.1 0 16) = 0 then (
 J9_wrongCopy_37 S ((4 : Int32)))
 else (
 if x1 < (S.1 0 18) then (
 J9_wrongCopy_37 S ((0 : Int32)))
 else (
 J9_wrongCopy_37 S ((1 : Int32)))))
 else (
 J9_wrongCopy_9 S))
def J9_down_82 (k52 : St → Int32 → Int32 → Option (Int32 × St)) (S : St) (x1 : Int32) (x4 : Int32) (t0 : Int32) (t1 : Int32) : Option (Int32 × St) :=
 zlet (wI S 0 23 (t1 + t0)) fun S_1 =>
 zg (zin (((5 : Int32) * x1) + x4) 25) (
 zlet (wI S_1 11 (((((5 : Int32) * x1) + x4)).toNatClampNeg) (0 : Int32)) fun S_2 =>
 zlet (x4 + (1 : Int32)) fun x4_3 =>
 k52 S_2 x1 x4_3)
def J9_down_104 (S : St) : Option (Int32 × St) :=
 zb (J9_is S ((0 : Int32))) fun r1 S1 =>
 zg (zbo r1) (some (r1, S1))
def J9_down_52 : Nat → St → Int32 → Int32 → Option (Int32 × St)
| 0, _, _, _ => none
| n + 1, S, x1, x4 =>
 if (5 : Int32) ≤ x4 then (
 J9_down_104 S)
 else (
 zg (zin (((5 : Int32) * x1) + x4) 25) (
 if (S.1 11 ((((5 : Int32) * x1) + x4)).toNatClampNeg) ≤ 0 then (
 J9_down_82 (J9_down_52 n) S x1 x4 ((0 : Int32)) ((S.1 0 23)))
 else (
 J9_down_82 (J9_down_52 n) S x1 x4 ((1 : Int32)) ((S.1 0 23)))))
def J9_down_21 (S : St) (x1 : Int32) (x2 : Int32) (x3 : Int32) : Option (Int32 × St) :=
 if x3 ≤ 0 then (
 zg (zin x1 5) (
 zlet (wI S 12 (x1.toNatClampNeg) (vp_nar .boolean (0 : Int32))) fun S_1 =>
 if x2 = 0 then (
 J9_down_104 S_1)
 else (
 zg (zin x1 5) (
 zlet (wI S_1 10 (x1.toNatClampNeg) (0 : Int32)) fun S_2 =>
 J9_down_52 fu S_2 x1 ((0 : Int32))))))
 else (
 zb (J9_is S x3) fun r3 S3 =>
 zg (zbo r3) (some (r3, S3)))
def J9_down (S : St) (x1 : Int32) (x2 : Int32) : Option (Int32 × St) :=
 zb (J9_wrongCopy S x1) fun r1 S1 =>
 if r1 = 0 then (
 zg (zin x1 5) (
 if (S1.1 12 x1.toNatClampNeg) = 0 then (
 J9_down_21 S1 x1 x2 ((5 : Int32)))
 else (
 J9_down_21 S1 x1 x2 r1)))
 else (
 J9_down_21 S1 x1 x2 r1)
def J9_drop (S : St) (x1 : Int32) : Option (Int32 × St) :=
 zb (J9_isSheet S x1) fun r1 S1 =>
 if r1 = 0 then (
 zb (J9_is S1 ((1 : Int32))) fun r5 S5 =>
 zg (zbo r5) (some (r5, S5)))
 else (
 zg (zin x1 4) (
 if (S1.1 2 x1.toNatClampNeg) = (-1 : Int32) then (
 zb (J9_is S1 ((2 : Int32))) fun r4 S4 =>
 zg (zbo r4) (some (r4, S4)))
 else (
 zg (zin x1 4) (
 zlet (wI S1 2 (x1.toNatClampNeg) (-1 : Int32)) fun S_2 =>
 zb (J9_is S_2 ((0 : Int32))) fun r3 S3 =>
 zg (zbo r3) (some (r3, S3))))))
def J9_due_80 (k4 : St → Int32 → Int32 → Option (Int32 × St)) (S : St) (x1 : Int32) (x2 : Int32) : Option (Int32 × St) :=
 zlet (x2 + (1 : Int32)) fun x2_1 =>
 k4 S x1 x2_1
def J9_due_78 (k4 : St → Int32 → Int32 → Option (Int32 × St)) (S : St) (x2 : Int32) : Option (Int32 × St) :=
 J9_due_80 k4 S x2 x2
def J9_due_4 : Nat → St → Int32 → Int32 → Option (Int32 × St)
| 0, _, _, _ => none
| n + 1, S, x1, x2 =>
 if (S.1 0 39) ≤ x2 then (
 some (x1, S))
 else (
 zg (zin x2 1200) (
 if (S.1 15 x2.toNatClampNeg) ≤ (S.1 0 21) then (
 if x1 = (-1 : Int32) then (
 J9_due_78 (J9_due_4 n) S x2)
 else (
 zg (zin x2 1200) (
 zg (zin x1 1200) (
 if (S.1 15 x2.toNatClampNeg) < (S.1 15 x1.toNatClampNeg) then (
 J9_due_78 (J9_due_4 n) S x2)
 else (
 zg (zin x2 1200) (
 zg (zin x1 1200) (
 if (S.1 15 x2.toNatClampNeg) = (S.1 15 x1.toNatClampNeg) then (
 zg (zin x2 1200) (
 zg (zin x1 1200) (
 if (S.1 16 x1.toNatClampNeg) ≤ (S.1 16 x2.toNatClampNeg) then (
 J9_due_80 (J9_due_4 n) S x1 x2)
 else (
 J9_due_78 (J9_due_4 n) S x2))))
 else (
 J9_due_80 (J9_due_4 n) S x1 x2))))))))
 else (
 J9_due_80 (J9_due_4 n) S x1 x2)))
def J9_due (S : St) : Option (Int32 × St) :=
 J9_due_4 fu S ((-1 : Int32)) ((0 : Int32))
def J9_gap_10 (S : St) : Option (Int32 × St) :=
 zb (J9_is S ((1 : Int32))) fun r1 S1 =>
 zg (zbo r1) (some (r1, S1))
def J9_gap (S : St) (x1 : Int32) : Option (Int32 × St) :=
 if x1 < 0 then (
 J9_gap_10 S)
 else (
 if x1 ≤ (100 : Int32) then (
 zlet (wI S 0 9 x1) fun S_1 =>
 zb (J9_is S_1 ((0 : Int32))) fun r2 S2 =>
 zg (zbo r2) (some (r2, S2)))
 else (
 J9_gap_10 S))
def J9_gives_47 (S : St) (t0 : Int32) : Option (Int32 × St) :=
 some (t0, S)
def J9_gives (S : St) (x1 : Int32) (x2 : Int32) : Option (Int32 × St) :=
 zg (zin (((5 : Int32) * x1) + x2) 25) (
 zlet ((S.1 11 ((((5 : Int32) * x1) + x2)).toNatClampNeg)) fun x3_1 =>
 zg (zin (((5 : Int32) * x1) + x2) 25) (
 zlet (wI S 11 (((((5 : Int32) * x1) + x2)).toNatClampNeg) (0 : Int32)) fun S_2 =>
 zg (zin x2 5) (
 zg (zin x2 5) (
 zlet (wI S_2 10 (x2.toNatClampNeg) (if (S_2.1 10 x2.toNatClampNeg) < x3_1 then x3_1 else (S_2.1 10 x2.toNatClampNeg))) fun S_3 =>
 if x3_1 ≤ 0 then (
 J9_gives_47 S_3 ((0 : Int32)))
 else (
 J9_gives_47 S_3 ((1 : Int32)))))))
def J9_workOff_5 : Nat → St → Int32 → Option (Unit × St)
| 0, _, _ => none
| n + 1, S, x1 =>
 if x1 = (-1 : Int32) then (
 some ((), S))
 else (
 zg (zin x1 1200) (
 zlet ((S.1 17 x1.toNatClampNeg)) fun x2_1 =>
 zg (zin x1 1200) (
 zlet ((S.1 18 x1.toNatClampNeg)) fun x3_2 =>
 zg (zin x1 1200) (
 zlet ((S.1 19 x1.toNatClampNeg)) fun x4_3 =>
 zg (zin x1 1200) (
 zlet ((S.1 20 x1.toNatClampNeg)) fun x5_4 =>
 zg (zin x1 1200) (
 zlet ((S.1 21 x1.toNatClampNeg)) fun x6_5 =>
 zlet (wI S 0 39 ((S.1 0 39) - (1 : Int32))) fun S_6 =>
 zg (zin (S_6.1 0 39) 1200) (
 zg (zin x1 1200) (
 zlet (wI S_6 15 (x1.toNatClampNeg) (S_6.1 15 ((S_6.1 0 39)).toNatClampNeg)) fun S_7 =>
 zg (zin (S_7.1 0 39) 1200) (
 zg (zin x1 1200) (
 zlet (wI S_7 16 (x1.toNatClampNeg) (S_7.1 16 ((S_7.1 0 39)).toNatClampNeg)) fun S_8 =>
 zg (zin (S_8.1 0 39) 1200) (
 zg (zin x1 1200) (
 zlet (wI S_8 17 (x1.toNatClampNeg) (S_8.1 17 ((S_8.1 0 39)).toNatClampNeg)) fun S_9 =>
 zg (zin (S_9.1 0 39) 1200) (
 zg (zin x1 1200) (
 zlet (wI S_9 18 (x1.toNatClampNeg) (S_9.1 18 ((S_9.1 0 39)).toNatClampNeg)) fun S_10 =>
 zg (zin (S_10.1 0 39) 1200) (
 zg (zin x1 1200) (
 zlet (wI S_10 19 (x1.toNatClampNeg) (S_10.1 19 ((S_10.1 0 39)).toNatClampNeg)) fun S_11 =>
 zg (zin (S_11.1 0 39) 1200) (
 zg (zin x1 1200) (
 zlet (wI S_11 20 (x1.toNatClampNeg) (S_11.1 20 ((S_11.1 0 39)).toNatClampNeg)) fun S_12 =>
 zg (zin (S_12.1 0 39) 1200) (
 zg (zin x1 1200) (
 zlet (wI S_12 21 (x1.toNatClampNeg) (S_12.1 21 ((S_12.1 0 39)).toNatClampNeg)) fun S_13 =>
 zb (J9_comes S_13 x2_1 x3_2 x4_3 x5_4 x6_5) fun _ S14 =>
 zb (J9_due S14) fun r15 S15 =>
 J9_workOff_5 n S15 r15))))))))))))))))))))
def J9_workOff (S : St) : Option (Unit × St) :=
 zb (J9_due S) fun r1 S1 =>
 J9_workOff_5 fu S1 r1
def J9_go_11 (S : St) : Option (Int32 × St) :=
 zb (J9_refuse S ((1 : Int32))) fun r1 S1 =>
 some (r1, S1)
def J9_go_58 (k32 : St → Int32 → Int32 → Option (Int32 × St)) (S : St) (x1 : Int32) (x2 : Int32) : Option (Int32 × St) :=
 zlet (x2 + (1 : Int32)) fun x2_1 =>
 k32 S x1 x2_1
def J9_go_32 : Nat → St → Int32 → Int32 → Option (Int32 × St)
| 0, _, _, _ => none
| n + 1, S, x1, x2 =>
 if x1 ≤ x2 then (
 zlet (wI S 0 0 (0 : Int32)) fun S_1 =>
 some ((S_1.1 0 21), S_1))
 else (
 zlet (wI S 0 21 ((S.1 0 21) + (1 : Int32))) fun S_2 =>
 if (S_2.1 0 39) ≤ 0 then (
 J9_go_58 (J9_go_32 n) S_2 x1 x2)
 else (
 zb (J9_workOff S_2) fun _ S3 =>
 J9_go_58 (J9_go_32 n) S3 x1 x2))
def J9_go (S : St) (x1 : Int32) : Option (Int32 × St) :=
 if x1 < 0 then (
 J9_go_11 S)
 else (
 if x1 ≤ (10000 : Int32) then (
 if (S.1 0 16) = 0 then (
 zb (J9_refuse S ((4 : Int32))) fun r1 S1 =>
 some (r1, S1))
 else (
 J9_go_32 fu S x1 ((0 : Int32))))
 else (
 J9_go_11 S))
def J9_missed_50 (k11 : St → Int32 → Int32 → Int32 → Option (Int32 × St)) (S : St) (x1 : Int32) (x3 : Int32) (t0 : Int32) (t1 : Int32) : Option (Int32 × St) :=
 zlet ((t1 + t0)) fun x2_1 =>
 zlet (x3 + (1 : Int32)) fun x3_2 =>
 k11 S x1 x2_1 x3_2
def J9_missed_49 (k11 : St → Int32 → Int32 → Int32 → Option (Int32 × St)) (S : St) (x1 : Int32) (x3 : Int32) (t0 : Int32) : Option (Int32 × St) :=
 J9_missed_50 k11 S x1 x3 ((0 : Int32)) t0
def J9_missed_11 : Nat → St → Int32 → Int32 → Int32 → Option (Int32 × St)
| 0, _, _, _, _ => none
| n + 1, S, x1, x2, x3 =>
 if (S.1 0 25) < x3 then (
 some (x2, S))
 else (
 zg (zin x3 41) (
 if (S.1 23 x3.toNatClampNeg) = (-1 : Int32) then (
 J9_missed_49 (J9_missed_11 n) S x1 x3 x2)
 else (
 zg (zin x3 41) (
 zg (zin x1 40) (
 if (S.1 24 x1.toNatClampNeg) ≤ (S.1 23 x3.toNatClampNeg) then (
 J9_missed_49 (J9_missed_11 n) S x1 x3 x2)
 else (
 J9_missed_50 (J9_missed_11 n) S x1 x3 ((1 : Int32)) x2))))))
def J9_missed (S : St) (x1 : Int32) : Option (Int32 × St) :=
 zg (zin x1 40) (
 zlet (((S.1 29 x1.toNatClampNeg) + (1 : Int32))) fun x3_1 =>
 J9_missed_11 fu S x1 ((0 : Int32)) x3_1)
def J9_got_110 (S : St) (t0 : Int32) : Option (Int32 × St) :=
 some (t0, S)
def J9_got_62 (S : St) (x1 : Int32) (x2 : Int32) (t0 : Int32) : Option (Int32 × St) :=
 if t0 ≤ 0 then (
 zlet (wI S 0 0 (0 : Int32)) fun S_1 =>
 if x2 = 0 then (
 zg (zin x1 40) (
 J9_got_110 S_1 ((S_1.1 27 x1.toNatClampNeg))))
 else (
 if x2 = (1 : Int32) then (
 zg (zin x1 40) (
 J9_got_110 S_1 ((S_1.1 28 x1.toNatClampNeg))))
 else (
 zb (J9_missed S_1 x1) fun r2 S2 =>
 J9_got_110 S2 r2)))
 else (
 zb (J9_refuse S t0) fun r3 S3 =>
 some (r3, S3))
def J9_got_19 (S : St) (x1 : Int32) (x2 : Int32) : Option (Int32 × St) :=
 J9_got_62 S x1 x2 ((1 : Int32))
def J9_got (S : St) (x1 : Int32) (x2 : Int32) : Option (Int32 × St) :=
 if x1 < 0 then (
 J9_got_19 S x1 x2)
 else (
 if (40 : Int32) ≤ x1 then (
 J9_got_19 S x1 x2)
 else (
 if x2 < 0 then (
 J9_got_19 S x1 x2)
 else (
 if x2 ≤ (2 : Int32) then (
 if (S.1 0 16) = 0 then (
 J9_got_62 S x1 x2 ((4 : Int32)))
 else (
 if x1 < (S.1 0 26) then (
 zg (zin x1 40) (
 if (S.1 27 x1.toNatClampNeg) = (-1 : Int32) then (
 J9_got_62 S x1 x2 ((7 : Int32)))
 else (
 J9_got_62 S x1 x2 ((0 : Int32)))))
 else (
 J9_got_62 S x1 x2 ((1 : Int32)))))
 else (
 J9_got_19 S x1 x2))))
def J9_isReader_14 (S : St) (t0 : Int32) : Option (Int32 × St) :=
 zg (zbo t0) (some (t0, S))
def J9_isReader_13 (S : St) : Option (Int32 × St) :=
 J9_isReader_14 S ((0 : Int32))
def J9_isReader (S : St) (x0 : Int32) : Option (Int32 × St) :=
 if x0 < 0 then (
 J9_isReader_13 S)
 else (
 if (4 : Int32) ≤ x0 then (
 J9_isReader_13 S)
 else (
 J9_isReader_14 S ((1 : Int32))))
def J9_keep (S : St) (x1 : Int32) (x2 : Int32) : Option (Int32 × St) :=
 zb (J9_isReader S x1) fun r1 S1 =>
 if r1 = 0 then (
 zb (J9_is S1 ((1 : Int32))) fun r5 S5 =>
 zg (zbo r5) (some (r5, S5)))
 else (
 if (S1.1 0 16) = 0 then (
 zb (J9_is S1 ((4 : Int32))) fun r4 S4 =>
 zg (zbo r4) (some (r4, S4)))
 else (
 zg (zin x1 4) (
 zlet (wI S1 13 (x1.toNatClampNeg) (vp_nar .boolean x2)) fun S_2 =>
 zb (J9_is S_2 ((0 : Int32))) fun r3 S3 =>
 zg (zbo r3) (some (r3, S3)))))
def J9_mending (S : St) (x1 : Int32) : Option (Int32 × St) :=
 if (S.1 0 16) = 0 then (
 zb (J9_is S ((4 : Int32))) fun r3 S3 =>
 zg (zbo r3) (some (r3, S3)))
 else (
 zg (zbo x1) (
 zlet (wI S 0 17 x1) fun S_1 =>
 zb (J9_is S_1 ((0 : Int32))) fun r2 S2 =>
 zg (zbo r2) (some (r2, S2))))
def J9_none (S : St) : Option (Int32 × St) :=
 zb (J9_is S ((10 : Int32))) fun r1 S1 =>
 zg (zbo r1) (some (r1, S1))
def J9_pick_5 : Nat → St → Int32 → Int32 → Int64 → Int32 → Option (Int64 × St)
| 0, _, _, _, _, _ => none
| n + 1, S, x0, x1, x2, x4 =>
 if x1 ≤ x4 then (
 some (x2, S))
 else (
 zg (decide (¬ ((x4 + (1 : Int32))).toInt64 = 0)) (
 zlet (((x2 * ((x0 - x4)).toInt64) / ((x4 + (1 : Int32))).toInt64)) fun x2_1 =>
 zlet (x4 + (1 : Int32)) fun x4_2 =>
 J9_pick_5 n S x0 x1 x2_1 x4_2))
def J9_pick (S : St) (x0 : Int32) (x1 : Int32) : Option (Int64 × St) :=
 J9_pick_5 fu S x0 x1 ((1 : Int64)) ((0 : Int32))
def J9_power_5 : Nat → St → Int64 → Int32 → Int64 → Int32 → Option (Int64 × St)
| 0, _, _, _, _, _ => none
| n + 1, S, x0, x2, x3, x5 =>
 if x2 ≤ x5 then (
 some (x3, S))
 else (
 zlet ((x3 * x0)) fun x3_1 =>
 zlet (x5 + (1 : Int32)) fun x5_2 =>
 J9_power_5 n S x0 x2 x3_1 x5_2)
def J9_power (S : St) (x0 : Int64) (x2 : Int32) : Option (Int64 × St) :=
 J9_power_5 fu S x0 x2 ((1 : Int64)) ((0 : Int32))
def J9_nth_24 (k6 : St → Int32 → Int32 → Int64 → Int64 → Int64 → Int64 → Int32 → Option (Int64 × St)) : Nat → St → Int32 → Int32 → Int64 → Int64 → Int64 → Int64 → Int32 → Int32 → Option (Int64 × St)
| 0, _, _, _, _, _, _, _, _, _ => none
| n + 1, S, x0, x1, x2, x4, x6, x8, x10, x11 =>
 if x0 < (x10 + x11) then (
 zlet (x10 + (1 : Int32)) fun x10_1 =>
 k6 S x0 x1 x2 x4 x6 x8 x10_1)
 else (
 zb (J9_pick S x0 x10) fun r2 S2 =>
 zb (J9_pick S2 ((x0 - x10)) x11) fun r3 S3 =>
 zb (J9_power S3 x2 x10) fun r4 S4 =>
 zb (J9_power S4 x4 x11) fun r5 S5 =>
 zb (J9_power S5 x6 (((x0 - x10) - x11))) fun r6 S6 =>
 zlet ((x8 + ((((r2 * r3) * r4) * r5) * r6))) fun x8_7 =>
 zlet (x11 + (1 : Int32)) fun x11_8 =>
 J9_nth_24 k6 n S6 x0 x1 x2 x4 x6 x8_7 x10 x11_8)
def J9_nth_94 (S : St) (x8 : Int64) : Option (Int64 × St) :=
 some (x8, S)
def J9_nth_6 : Nat → St → Int32 → Int32 → Int64 → Int64 → Int64 → Int64 → Int32 → Option (Int64 × St)
| 0, _, _, _, _, _, _, _, _ => none
| n + 1, S, x0, x1, x2, x4, x6, x8, x10 =>
 if x1 ≤ x10 then (
 J9_nth_94 S x8)
 else (
 if x0 < x10 then (
 J9_nth_94 S x8)
 else (
 zlet ((x1 - x10)) fun x11_1 =>
 J9_nth_24 (J9_nth_6 n) fu S x0 x1 x2 x4 x6 x8 x10 x11_1))
def J9_nth (S : St) (x0 : Int32) (x1 : Int32) (x2 : Int64) (x4 : Int64) (x6 : Int64) : Option (Int64 × St) :=
 J9_nth_6 fu S x0 x1 x2 x4 x6 ((0 : Int64)) ((0 : Int32))
def J9_numbers_30 (S : St) : Option (Int32 × St) :=
 zb (J9_is S ((1 : Int32))) fun r1 S1 =>
 zg (zbo r1) (some (r1, S1))
def J9_numbers (S : St) (x1 : Int32) (x2 : Int32) (x3 : Int32) : Option (Int32 × St) :=
 if x1 < (1 : Int32) then (
 J9_numbers_30 S)
 else (
 if (5 : Int32) < x1 then (
 J9_numbers_30 S)
 else (
 if x2 < (1 : Int32) then (
 J9_numbers_30 S)
 else (
 if x1 < x2 then (
 J9_numbers_30 S)
 else (
 if x3 < (1 : Int32) then (
 J9_numbers_30 S)
 else (
 if x3 ≤ x1 then (
 zlet (wI S 0 6 x1) fun S_1 =>
 zlet (wI S_1 0 7 x2) fun S_2 =>
 zlet (wI S_2 0 8 x3) fun S_3 =>
 zb (J9_is S_3 ((0 : Int32))) fun r4 S4 =>
 zg (zbo r4) (some (r4, S4)))
 else (
 J9_numbers_30 S))))))
def J9_tells_63 (S : St) (t0 : Int32) : Option (Int32 × St) :=
 some (t0, S)
def J9_tells_6 : Nat → St → Int64 → Int64 → Int64 → Int64 → Option (Int32 × St)
| 0, _, _, _, _, _ => none
| n + 1, S, x1, x3, x5, x7 =>
 if (lg_cmp x7 (0 : Int64)) = 0 then (
 zg (decide (¬ x5 = 0)) (
 zlet (wL S 0 1 (x1 / x5)) fun S_1 =>
 zg (decide (¬ x5 = 0)) (
 zlet (wL S_1 0 2 (x3 / x5)) fun S_2 =>
 zlet (wI S_2 0 0 (0 : Int32)) fun S_3 =>
 if (lg_cmp x1 (0 : Int64)) ≤ 0 then (
 J9_tells_63 S_3 ((0 : Int32)))
 else (
 J9_tells_63 S_3 ((1 : Int32))))))
 else (
 zg (decide (¬ x7 = 0)) (
 zlet ((x5 - x5 / x7 * x7)) fun x9_4 =>
 J9_tells_6 n S x1 x3 x7 x9_4))
def J9_tells (S : St) (x1 : Int64) (x3 : Int64) : Option (Int32 × St) :=
 J9_tells_6 fu S x1 x3 x1 x3
def J9_odds (S : St) (x1 : Int32) (x2 : Int32) (x3 : Int32) : Option (Int32 × St) :=
 zb (J9_isAsked S x1 x2 x3) fun r1 S1 =>
 if r1 = 0 then (
 zb (J9_refuse S1 ((1 : Int32))) fun r6 S6 =>
 some (r6, S6))
 else (
 zb (J9_allWays S1 ((S1.1 0 6)) x2) fun r2 S2 =>
 if (lg_cmp r2 (-1 : Int64)) = 0 then (
 zb (J9_refuse S2 ((9 : Int32))) fun r5 S5 =>
 some (r5, S5))
 else (
 zb (J9_oldWays S2 ((S2.1 0 6)) ((S2.1 0 7)) ((S2.1 0 8)) x1 x2 x3) fun r3 S3 =>
 zb (J9_tells S3 r3 r2) fun r4 S4 =>
 some (r4, S4)))
def J9_of_64 (S : St) (t0 : Int32) : Option (Int32 × St) :=
 some (t0, S)
def J9_of_98 (k71 : St → Int32 → Int32 → Int32 → Option (Int32 × St)) (S : St) (x1 : Int32) (x5 : Int32) (t0 : Int32) (t1 : Int32) : Option (Int32 × St) :=
 zlet ((t1 + t0)) fun x4_1 =>
 zlet (x5 + (1 : Int32)) fun x5_2 =>
 k71 S x1 x4_1 x5_2
def J9_of_71 : Nat → St → Int32 → Int32 → Int32 → Option (Int32 × St)
| 0, _, _, _, _ => none
| n + 1, S, x1, x4, x5 =>
 if (5 : Int32) ≤ x5 then (
 some (x4, S))
 else (
 zg (zin (((5 : Int32) * x1) + x5) 25) (
 if (S.1 11 ((((5 : Int32) * x1) + x5)).toNatClampNeg) ≤ 0 then (
 J9_of_98 (J9_of_71 n) S x1 x5 ((0 : Int32)) x4)
 else (
 J9_of_98 (J9_of_71 n) S x1 x5 ((1 : Int32)) x4)))
def J9_of_18 (S : St) (x1 : Int32) (x2 : Int32) (t0 : Int32) : Option (Int32 × St) :=
 if t0 ≤ 0 then (
 zlet (wI S 0 0 (0 : Int32)) fun S_1 =>
 if x2 = 0 then (
 zg (zin x1 5) (
 some ((S_1.1 10 x1.toNatClampNeg), S_1)))
 else (
 if x2 = (1 : Int32) then (
 zg (zin x1 5) (
 if (S_1.1 12 x1.toNatClampNeg) = 0 then (
 J9_of_64 S_1 ((0 : Int32)))
 else (
 J9_of_64 S_1 ((1 : Int32)))))
 else (
 J9_of_71 fu S_1 x1 ((0 : Int32)) ((0 : Int32)))))
 else (
 zb (J9_refuse S t0) fun r2 S2 =>
 some (r2, S2))
def J9_of_9 (S : St) (x1 : Int32) (x2 : Int32) : Option (Int32 × St) :=
 J9_of_18 S x1 x2 ((1 : Int32))
def J9_of (S : St) (x1 : Int32) (x2 : Int32) : Option (Int32 × St) :=
 if x2 < 0 then (
 J9_of_9 S x1 x2)
 else (
 if x2 ≤ (2 : Int32) then (
 zb (J9_wrongCopy S x1) fun r1 S1 =>
 J9_of_18 S1 x1 x2 r1)
 else (
 J9_of_9 S x1 x2))
def J9_wrong_44 (S : St) (t0 : Int32) : Option (Int32 × St) :=
 some (t0, S)
def J9_wrong_39 (S : St) : Option (Int32 × St) :=
 J9_wrong_44 S ((3 : Int32))
def J9_wrong (S : St) (x1 : Int32) (x2 : Int32) : Option (Int32 × St) :=
 zb (J9_isSheet S x1) fun r1 S1 =>
 if r1 = 0 then (
 J9_wrong_44 S1 ((1 : Int32)))
 else (
 zg (zin x1 4) (
 if (S1.1 2 x1.toNatClampNeg) = (-1 : Int32) then (
 J9_wrong_44 S1 ((2 : Int32)))
 else (
 if x2 < 0 then (
 J9_wrong_39 S1)
 else (
 zg (zin x1 4) (
 if x2 < (S1.1 2 x1.toNatClampNeg) then (
 J9_wrong_44 S1 ((0 : Int32)))
 else (
 J9_wrong_39 S1))))))
def J9_read_34 (S : St) (t0 : Int64) : Option (Int64 × St) :=
 some (t0, S)
def J9_read (S : St) (x1 : Int32) (x2 : Int32) : Option (Int64 × St) :=
 zb (J9_wrong S x1 x2) fun r1 S1 =>
 zlet (wI S1 0 0 r1) fun S_2 =>
 if (S_2.1 0 0) ≤ 0 then (
 zg (zin (((16 : Int32) * x1) + x2) 64) (
 J9_read_34 S_2 ((S_2.2 3 ((((16 : Int32) * x1) + x2)).toNatClampNeg))))
 else (
 J9_read_34 S_2 ((-1 : Int64)))
def J9_wrongDelays_93 (S : St) : Option (Int32 × St) :=
 some ((1 : Int32), S)
def J9_wrongDelays_49 : Nat → St → Int32 → Int32 → Option (Int32 × St)
| 0, _, _, _ => none
| n + 1, S, x1, x2 =>
 if ((2 : Int32) * (S.1 0 18)) ≤ x2 then (
 some ((0 : Int32), S))
 else (
 zg (zin (((16 : Int32) * x1) + x2) 64) (
 if (lg_cmp (S.2 3 ((((16 : Int32) * x1) + x2)).toNatClampNeg) (0 : Int64)) < 0 then (
 J9_wrongDelays_93 S)
 else (
 zg (zin (((16 : Int32) * x1) + x2) 64) (
 if (lg_cmp (S.2 3 ((((16 : Int32) * x1) + x2)).toNatClampNeg) (1000 : Int64)) ≤ 0 then (
 zlet (x2 + (1 : Int32)) fun x2_1 =>
 J9_wrongDelays_49 n S x1 x2_1)
 else (
 J9_wrongDelays_93 S)))))
def J9_wrongDelays (S : St) (x1 : Int32) : Option (Int32 × St) :=
 zb (J9_isSheet S x1) fun r1 S1 =>
 if r1 = 0 then (
 some ((1 : Int32), S1))
 else (
 if (S1.1 0 16) = 0 then (
 some ((4 : Int32), S1))
 else (
 zg (zin x1 4) (
 if (S1.1 2 x1.toNatClampNeg) = (-1 : Int32) then (
 some ((2 : Int32), S1))
 else (
 zg (zin x1 4) (
 if ((2 : Int32) * (S1.1 0 18)) ≤ (S1.1 2 x1.toNatClampNeg) then (
 J9_wrongDelays_49 fu S1 x1 ((0 : Int32)))
 else (
 some ((3 : Int32), S1)))))))
def J9_reads_97 : Nat → St → Int32 → Int32 → Int32 → Option (Int32 × St)
| 0, _, _, _, _ => none
| n + 1, S, x1, x4, x5 =>
 if (S.1 0 18) ≤ x5 then (
 zb (J9_workOff S) fun _ S1 =>
 zlet (wI S1 0 0 (0 : Int32)) fun S_2 =>
 some (x4, S_2))
 else (
 zb (J9_delay S x1 x5) fun r3 S3 =>
 zb (J9_delay S3 x1 (((S3.1 0 18) + x5))) fun r4 S4 =>
 zb (J9_send S4 r3 ((2 : Int32)) x4 x5 ((0 : Int32)) r4) fun _ S5 =>
 zlet (x5 + (1 : Int32)) fun x5_6 =>
 J9_reads_97 n S5 x1 x4 x5_6)
def J9_reads_33 (S : St) (x1 : Int32) (x2 : Int32) (x3 : Int32) : Option (Int32 × St) :=
 if x3 ≤ 0 then (
 zlet ((S.1 0 26)) fun x4_1 =>
 zlet (wI S 0 26 ((S.1 0 26) + (1 : Int32))) fun S_2 =>
 zg (zin x4_1 40) (
 zlet (wI S_2 24 (x4_1.toNatClampNeg) (S_2.1 0 21)) fun S_3 =>
 zg (zin x4_1 40) (
 zlet (wI S_3 25 (x4_1.toNatClampNeg) x2) fun S_4 =>
 zg (zin x4_1 40) (
 zlet (wI S_4 26 (x4_1.toNatClampNeg) (0 : Int32)) fun S_5 =>
 zg (zin x4_1 40) (
 zlet (wI S_5 27 (x4_1.toNatClampNeg) (-1 : Int32)) fun S_6 =>
 J9_reads_97 fu S_6 x1 x4_1 ((0 : Int32)))))))
 else (
 zb (J9_refuse S x3) fun r7 S7 =>
 some (r7, S7))
def J9_reads_16 (S : St) (x1 : Int32) (x2 : Int32) (t0 : Int32) : Option (Int32 × St) :=
 if t0 = 0 then (
 if (S.1 0 26) = (40 : Int32) then (
 J9_reads_33 S x1 x2 ((6 : Int32)))
 else (
 J9_reads_33 S x1 x2 t0))
 else (
 J9_reads_33 S x1 x2 t0)
def J9_reads (S : St) (x1 : Int32) (x2 : Int32) : Option (Int32 × St) :=
 zb (J9_isReader S x2) fun r1 S1 =>
 if r1 = 0 then (
 J9_reads_16 S1 x1 x2 ((1 : Int32)))
 else (
 zb (J9_wrongDelays S1 x1) fun r2 S2 =>
 J9_reads_16 S2 x1 x2 r2)
def J9_sheet_26 (S : St) : Option (Int32 × St) :=
 zb (J9_is S ((1 : Int32))) fun r1 S1 =>
 zg (zbo r1) (some (r1, S1))
def J9_sheet_49 : Nat → St → Int32 → Int32 → Int32 → Option (Int32 × St)
| 0, _, _, _, _ => none
| n + 1, S, x1, x3, x4 =>
 if x3 ≤ x4 then (
 zb (J9_is S ((0 : Int32))) fun r1 S1 =>
 zg (zbo r1) (some (r1, S1)))
 else (
 zg (zin (((16 : Int32) * x1) + x4) 64) (
 zlet (wL S 3 (((((16 : Int32) * x1) + x4)).toNatClampNeg) (0 : Int64)) fun S_2 =>
 zlet (x4 + (1 : Int32)) fun x4_3 =>
 J9_sheet_49 n S_2 x1 x3 x4_3))
def J9_sheet (S : St) (x1 : Int32) (x2 : Int32) (x3 : Int32) : Option (Int32 × St) :=
 zb (J9_isSheet S x1) fun r1 S1 =>
 if r1 = 0 then (
 J9_sheet_26 S1)
 else (
 if x2 < 0 then (
 J9_sheet_26 S1)
 else (
 if (3 : Int32) < x2 then (
 J9_sheet_26 S1)
 else (
 if x3 < 0 then (
 J9_sheet_26 S1)
 else (
 if x3 ≤ (16 : Int32) then (
 zg (zin x1 4) (
 zlet (wI S1 1 (x1.toNatClampNeg) x2) fun S_2 =>
 zg (zin x1 4) (
 zlet (wI S_2 2 (x1.toNatClampNeg) x3) fun S_3 =>
 J9_sheet_49 fu S_3 x1 x3 ((0 : Int32)))))
 else (
 J9_sheet_26 S1)))))
def J9_status (S : St) : Option (Int32 × St) :=
 some ((S.1 0 0), S)
def J9_sweep_139 (S : St) (t0 : Int32) : Option (Int32 × St) :=
 some (t0, S)
def J9_sweep_111 (S : St) (x1 : Int32) (x2 : Int32) (x5 : Int32) (t0 : Int32) : Option (Int32 × St) :=
 zg (zin x1 5) (
 zlet (wI S 10 (x1.toNatClampNeg) x5) fun S_1 =>
 zg (zin x2 5) (
 zlet (wI S_1 10 (x2.toNatClampNeg) x5) fun S_2 =>
 if t0 = 0 then (
 J9_sweep_139 S_2 ((0 : Int32)))
 else (
 J9_sweep_139 S_2 ((1 : Int32)))))
def J9_sweep_59 (S : St) (x1 : Int32) (x2 : Int32) (x3 : Int32) : Option (Int32 × St) :=
 if x3 ≤ 0 then (
 zlet (wI S 0 0 (0 : Int32)) fun S_1 =>
 zg (zin x1 5) (
 zg (zin x2 5) (
 zlet ((if (S_1.1 10 x1.toNatClampNeg) < (S_1.1 10 x2.toNatClampNeg) then (S_1.1 10 x2.toNatClampNeg) else (S_1.1 10 x1.toNatClampNeg))) fun x5_2 =>
 zg (zin x1 5) (
 zg (zin x2 5) (
 if (S_1.1 10 x1.toNatClampNeg) = (S_1.1 10 x2.toNatClampNeg) then (
 J9_sweep_111 S_1 x1 x2 x5_2 ((0 : Int32)))
 else (
 J9_sweep_111 S_1 x1 x2 x5_2 ((1 : Int32))))))))
 else (
 zb (J9_refuse S x3) fun r3 S3 =>
 some (r3, S3))
def J9_sweep_57 (S : St) (x1 : Int32) (x2 : Int32) : Option (Int32 × St) :=
 J9_sweep_59 S x1 x2 ((5 : Int32))
def J9_sweep_35 (S : St) (x1 : Int32) (x2 : Int32) (x3 : Int32) : Option (Int32 × St) :=
 if x3 = 0 then (
 zg (zin x1 5) (
 if (S.1 12 x1.toNatClampNeg) = 0 then (
 J9_sweep_57 S x1 x2)
 else (
 zg (zin x2 5) (
 if (S.1 12 x2.toNatClampNeg) = 0 then (
 J9_sweep_57 S x1 x2)
 else (
 J9_sweep_59 S x1 x2 x3)))))
 else (
 J9_sweep_59 S x1 x2 x3)
def J9_sweep_32 (S : St) (x1 : Int32) (x2 : Int32) (x4 : Int32) : Option (Int32 × St) :=
 J9_sweep_35 S x1 x2 x4
def J9_sweep_14 (S : St) (x1 : Int32) (x2 : Int32) (t0 : Int32) : Option (Int32 × St) :=
 zb (J9_wrongCopy S x2) fun r1 S1 =>
 if t0 = 0 then (
 J9_sweep_32 S1 x1 x2 r1)
 else (
 if r1 = (1 : Int32) then (
 J9_sweep_32 S1 x1 x2 r1)
 else (
 J9_sweep_35 S1 x1 x2 t0))
def J9_sweep (S : St) (x1 : Int32) (x2 : Int32) : Option (Int32 × St) :=
 if x1 = x2 then (
 J9_sweep_14 S x1 x2 ((1 : Int32)))
 else (
 zb (J9_wrongCopy S x1) fun r1 S1 =>
 J9_sweep_14 S1 x1 x2 r1)
def J9_table_27 (S : St) : Option (Int32 × St) :=
 zb (J9_is S ((1 : Int32))) fun r1 S1 =>
 zg (zbo r1) (some (r1, S1))
def J9_table_107 (S : St) : Option (Int32 × St) :=
 zb (J9_is S ((1 : Int32))) fun r1 S1 =>
 zg (zbo r1) (some (r1, S1))
def J9_table_142 (S : St) : Option (Int32 × St) :=
 zb (J9_is S ((1 : Int32))) fun r1 S1 =>
 zg (zbo r1) (some (r1, S1))
def J9_table_192 (k151 : St → Int32 → Int32 → Int32 → Int64 → Int32 → Option (Int32 × St)) (S : St) (x1 : Int32) (x2 : Int32) (x3 : Int32) (x4 : Int64) (x6 : Int32) (t0 : Int32) (t1 : Int32) : Option (Int32 × St) :=
 zg (zin t1 32) (
 zlet (wI S 4 (t1.toNatClampNeg) t0) fun S_1 =>
 zlet (x6 + (1 : Int32)) fun x6_2 =>
 k151 S_1 x1 x2 x3 x4 x6_2)
def J9_table_151 : Nat → St → Int32 → Int32 → Int32 → Int64 → Int32 → Option (Int32 × St)
| 0, _, _, _, _, _, _ => none
| n + 1, S, x1, x2, x3, x4, x6 =>
 if (8 : Int32) ≤ x6 then (
 zg (zin x1 4) (
 zlet (wI S 5 (x1.toNatClampNeg) x4.toInt32) fun S_1 =>
 zb (J9_is S_1 ((0 : Int32))) fun r2 S2 =>
 zg (zbo r2) (some (r2, S2))))
 else (
 if x3 ≤ x6 then (
 J9_table_192 (J9_table_151 n) S x1 x2 x3 x4 x6 ((0 : Int32)) ((((8 : Int32) * x1) + x6)))
 else (
 zg (zin (((16 : Int32) * x2) + x6) 64) (
 J9_table_192 (J9_table_151 n) S x1 x2 x3 x4 x6 (((S.2 3 ((((16 : Int32) * x2) + x6)).toNatClampNeg)).toInt32) ((((8 : Int32) * x1) + x6)))))
def J9_table_71 : Nat → St → Int32 → Int32 → Int32 → Int64 → Int32 → Option (Int32 × St)
| 0, _, _, _, _, _, _ => none
| n + 1, S, x1, x2, x3, x4, x6 =>
 if x3 ≤ x6 then (
 if (lg_cmp x4 (1 : Int64)) < 0 then (
 J9_table_142 S)
 else (
 if (lg_cmp x4 (8 : Int64)) ≤ 0 then (
 J9_table_151 fu S x1 x2 x3 x4 ((0 : Int32)))
 else (
 J9_table_142 S)))
 else (
 zg (zin (((16 : Int32) * x2) + x6) 64) (
 zlet ((S.2 3 ((((16 : Int32) * x2) + x6)).toNatClampNeg)) fun x7_1 =>
 if (lg_cmp x7_1 (0 : Int64)) < 0 then (
 J9_table_107 S)
 else (
 if (lg_cmp x7_1 (8 : Int64)) ≤ 0 then (
 zlet ((x4 + x7_1)) fun x4_2 =>
 zlet (x6 + (1 : Int32)) fun x6_3 =>
 J9_table_71 n S x1 x2 x3 x4_2 x6_3)
 else (
 J9_table_107 S))))
def J9_table (S : St) (x1 : Int32) (x2 : Int32) (x3 : Int32) : Option (Int32 × St) :=
 if x1 < 0 then (
 J9_table_27 S)
 else (
 if (3 : Int32) < x1 then (
 J9_table_27 S)
 else (
 zb (J9_isSheet S x2) fun r1 S1 =>
 if r1 = 0 then (
 J9_table_27 S1)
 else (
 if x3 < (1 : Int32) then (
 J9_table_27 S1)
 else (
 if x3 ≤ (8 : Int32) then (
 zg (zin x2 4) (
 if (S1.1 2 x2.toNatClampNeg) = (-1 : Int32) then (
 zb (J9_is S1 ((2 : Int32))) fun r3 S3 =>
 zg (zbo r3) (some (r3, S3)))
 else (
 zg (zin x2 4) (
 if x3 ≤ (S1.1 2 x2.toNatClampNeg) then (
 J9_table_71 fu S1 x1 x2 x3 ((0 : Int64)) ((0 : Int32)))
 else (
 zb (J9_is S1 ((3 : Int32))) fun r2 S2 =>
 zg (zbo r2) (some (r2, S2)))))))
 else (
 J9_table_27 S1)))))
def J9_takes_10 (S : St) : Option (Int32 × St) :=
 zb (J9_refuse S ((1 : Int32))) fun r1 S1 =>
 some (r1, S1)
def J9_takes_111 (S : St) (x4 : Int64) (x6 : Int64) (x8 : Int64) (t0 : Int32) (t1 : Int32) : Option (Int32 × St) :=
 zb (J9_nth S t1 t0 x4 x6 (((x8 - x4) - x6))) fun r1 S1 =>
 zb (J9_power S1 x8 ((S1.1 0 6))) fun r2 S2 =>
 zb (J9_tells S2 r1 r2) fun r3 S3 =>
 some (r3, S3)
def J9_takes_32 : Nat → St → Int32 → Int32 → Int32 → Int64 → Int32 → Option (Int32 × St)
| 0, _, _, _, _, _, _ => none
| n + 1, S, x1, x2, x3, x4, x6 =>
 if x2 ≤ x6 then (
 zb (J9_both S x3 ((x3 + (1 : Int32))) x2) fun r1 S1 =>
 zlet (r1.toInt64) fun x6_2 =>
 zg (zin x3 4) (
 zg (zin (x3 + (1 : Int32)) 4) (
 zlet ((((S1.1 5 x3.toNatClampNeg)).toInt64 * ((S1.1 5 ((x3 + (1 : Int32))).toNatClampNeg)).toInt64)) fun x8_3 =>
 if x1 = 0 then (
 J9_takes_111 S1 x4 x6_2 x8_3 ((S1.1 0 8)) ((S1.1 0 6)))
 else (
 J9_takes_111 S1 x4 x6_2 x8_3 ((S1.1 0 7)) ((S1.1 0 6))))))
 else (
 zb (J9_both S x3 ((x3 + (1 : Int32))) x6) fun r4 S4 =>
 zlet ((x4 + r4.toInt64)) fun x4_5 =>
 zlet (x6 + (1 : Int32)) fun x6_6 =>
 J9_takes_32 n S4 x1 x2 x3 x4_5 x6_6)
def J9_takes_25 (S : St) (x1 : Int32) (x2 : Int32) (t0 : Int32) : Option (Int32 × St) :=
 J9_takes_32 fu S x1 x2 t0 ((0 : Int64)) ((0 : Int32))
def J9_takes (S : St) (x1 : Int32) (x2 : Int32) : Option (Int32 × St) :=
 if x2 < 0 then (
 J9_takes_10 S)
 else (
 if x2 < (15 : Int32) then (
 if x1 = 0 then (
 J9_takes_25 S x1 x2 ((2 : Int32)))
 else (
 J9_takes_25 S x1 x2 ((0 : Int32))))
 else (
 J9_takes_10 S))
def J9_tell_10 (S : St) : Option (Int32 × St) :=
 zb (J9_refuse S ((1 : Int32))) fun r1 S1 =>
 some (r1, S1)
def J9_tell_140 (k108 : St → Int32 → Int32 → Option (Int32 × St)) (S : St) (x3 : Int32) (t0 : Int32) (t1 : Int32) : Option (Int32 × St) :=
 zlet ((t1 + t0)) fun x2_1 =>
 zlet (x3 + (1 : Int32)) fun x3_2 =>
 k108 S x2_1 x3_2
def J9_tell_139 (k108 : St → Int32 → Int32 → Option (Int32 × St)) (S : St) (x3 : Int32) (t0 : Int32) : Option (Int32 × St) :=
 J9_tell_140 k108 S x3 ((0 : Int32)) t0
def J9_tell_108 : Nat → St → Int32 → Int32 → Option (Int32 × St)
| 0, _, _, _ => none
| n + 1, S, x2, x3 =>
 if (S.1 0 26) ≤ x3 then (
 some (x2, S))
 else (
 zg (zin x3 40) (
 if (S.1 27 x3.toNatClampNeg) = (-1 : Int32) then (
 J9_tell_139 (J9_tell_108 n) S x3 x2)
 else (
 zb (J9_missed S x3) fun r1 S1 =>
 if r1 ≤ 0 then (
 J9_tell_139 (J9_tell_108 n) S1 x3 x2)
 else (
 J9_tell_140 (J9_tell_108 n) S1 x3 ((1 : Int32)) x2))))
def J9_tell (S : St) (x1 : Int32) : Option (Int32 × St) :=
 if x1 < 0 then (
 J9_tell_10 S)
 else (
 if x1 ≤ (6 : Int32) then (
 if (S.1 0 16) = 0 then (
 zb (J9_refuse S ((4 : Int32))) fun r2 S2 =>
 some (r2, S2))
 else (
 zlet (wI S 0 0 (0 : Int32)) fun S_1 =>
 if x1 = 0 then (
 some ((S_1.1 0 21), S_1))
 else (
 if x1 = 1 then (
 some ((S_1.1 0 25), S_1))
 else (
 if x1 = 2 then (
 some ((S_1.1 0 26), S_1))
 else (
 if x1 = 3 then (
 some ((S_1.1 0 39), S_1))
 else (
 if x1 = 4 then (
 some ((S_1.1 0 23), S_1))
 else (
 if x1 = 5 then (
 some ((S_1.1 0 24), S_1))
 else (
 J9_tell_108 fu S_1 ((0 : Int32)) ((0 : Int32))))))))))
 else (
 J9_tell_10 S))
def J9_top (S : St) : Option (Int64 × St) :=
 some ((S.2 0 1), S)
def J9_up_67 (k36 : St → Int32 → Int32 → Int32 → Option (Int32 × St)) (S : St) (x1 : Int32) (x4 : Int32) (t0 : Int32) (t1 : Int32) : Option (Int32 × St) :=
 zlet ((t1 + t0)) fun x3_1 =>
 zlet (x4 + (1 : Int32)) fun x4_2 =>
 k36 S x1 x3_1 x4_2
def J9_up_122 (k85 : St → Int32 → Int32 → Int32 → Option (Int32 × St)) (S : St) (x1 : Int32) (x4 : Int32) (t0 : Int32) (t1 : Int32) : Option (Int32 × St) :=
 zlet ((t1 + t0)) fun x3_1 =>
 zlet (x4 + (1 : Int32)) fun x4_2 =>
 k85 S x1 x3_1 x4_2
def J9_up_121 (k85 : St → Int32 → Int32 → Int32 → Option (Int32 × St)) (S : St) (x1 : Int32) (x4 : Int32) (t0 : Int32) : Option (Int32 × St) :=
 J9_up_122 k85 S x1 x4 ((0 : Int32)) t0
def J9_up_85 : Nat → St → Int32 → Int32 → Int32 → Option (Int32 × St)
| 0, _, _, _, _ => none
| n + 1, S, x1, x3, x4 =>
 if (S.1 0 18) ≤ x4 then (
 zlet (wI S 0 0 (0 : Int32)) fun S_1 =>
 some (x3, S_1))
 else (
 zg (zin x4 5) (
 if (S.1 12 x4.toNatClampNeg) = 0 then (
 J9_up_121 (J9_up_85 n) S x1 x4 x3)
 else (
 if x4 = x1 then (
 J9_up_121 (J9_up_85 n) S x1 x4 x3)
 else (
 zb (J9_gives S x1 x4) fun r2 S2 =>
 J9_up_122 (J9_up_85 n) S2 x1 x4 r2 x3))))
def J9_up_36 : Nat → St → Int32 → Int32 → Int32 → Option (Int32 × St)
| 0, _, _, _, _ => none
| n + 1, S, x1, x3, x4 =>
 if (S.1 0 18) ≤ x4 then (
 zg (zin x1 5) (
 zlet (wI S 12 (x1.toNatClampNeg) (vp_nar .boolean (1 : Int32))) fun S_1 =>
 J9_up_85 fu S_1 x1 x3 ((0 : Int32))))
 else (
 zg (zin x4 5) (
 if (S.1 12 x4.toNatClampNeg) = 0 then (
 J9_up_67 (J9_up_36 n) S x1 x4 ((0 : Int32)) x3)
 else (
 zb (J9_gives S x4 x1) fun r2 S2 =>
 J9_up_67 (J9_up_36 n) S2 x1 x4 r2 x3)))
def J9_up_21 (S : St) (x1 : Int32) (x2 : Int32) : Option (Int32 × St) :=
 if x2 ≤ 0 then (
 J9_up_36 fu S x1 ((0 : Int32)) ((0 : Int32)))
 else (
 zb (J9_refuse S x2) fun r1 S1 =>
 some (r1, S1))
def J9_up (S : St) (x1 : Int32) : Option (Int32 × St) :=
 zb (J9_wrongCopy S x1) fun r1 S1 =>
 if r1 = 0 then (
 zg (zin x1 5) (
 if (S1.1 12 x1.toNatClampNeg) = 0 then (
 J9_up_21 S1 x1 r1)
 else (
 J9_up_21 S1 x1 ((5 : Int32)))))
 else (
 J9_up_21 S1 x1 r1)
def J9_write_34 (S : St) (x5 : Int32) : Option (Int32 × St) :=
 zb (J9_is S x5) fun r1 S1 =>
 zg (zbo r1) (some (r1, S1))
def J9_write (S : St) (x1 : Int32) (x2 : Int32) (x3 : Int64) : Option (Int32 × St) :=
 zb (J9_wrong S x1 x2) fun r1 S1 =>
 if r1 = 0 then (
 zg (zin x1 4) (
 zb (J9_cut S1 x3 ((S1.1 1 x1.toNatClampNeg))) fun r2 S2 =>
 zg (zin (((16 : Int32) * x1) + x2) 64) (
 zlet (wL S2 3 (((((16 : Int32) * x1) + x2)).toNatClampNeg) r2) fun S_3 =>
 J9_write_34 S_3 r1)))
 else (
 J9_write_34 S1 r1)
def J9_writes_64 : Nat → St → Int32 → Int32 → Option (Int32 × St)
| 0, _, _, _ => none
| n + 1, S, x1, x3 =>
 if (S.1 0 18) ≤ x3 then (
 zb (J9_workOff S) fun _ S1 =>
 zlet (wI S1 0 0 (0 : Int32)) fun S_2 =>
 some ((S_2.1 0 25), S_2))
 else (
 zb (J9_delay S x1 x3) fun r3 S3 =>
 zb (J9_delay S3 x1 (((S3.1 0 18) + x3))) fun r4 S4 =>
 zb (J9_send S4 r3 ((0 : Int32)) ((S3.1 0 25)) x3 ((S3.1 0 25)) r4) fun _ S5 =>
 zlet (x3 + (1 : Int32)) fun x3_6 =>
 J9_writes_64 n S5 x1 x3_6)
def J9_writes_22 (S : St) (x1 : Int32) (x2 : Int32) : Option (Int32 × St) :=
 if x2 ≤ 0 then (
 zlet (wI S 0 25 ((S.1 0 25) + (1 : Int32))) fun S_1 =>
 zg (zin (S_1.1 0 25) 41) (
 zlet (wI S_1 22 (((S_1.1 0 25)).toNatClampNeg) (0 : Int32)) fun S_2 =>
 zg (zin (S_2.1 0 25) 41) (
 zlet (wI S_2 23 (((S_2.1 0 25)).toNatClampNeg) (-1 : Int32)) fun S_3 =>
 J9_writes_64 fu S_3 x1 ((0 : Int32)))))
 else (
 zb (J9_refuse S x2) fun r4 S4 =>
 some (r4, S4))
def J9_writes (S : St) (x1 : Int32) : Option (Int32 × St) :=
 zb (J9_wrongDelays S x1) fun r1 S1 =>
 if r1 = 0 then (
 if (S1.1 0 25) = (40 : Int32) then (
 J9_writes_22 S1 x1 ((6 : Int32)))
 else (
 J9_writes_22 S1 x1 r1))
 else (
 J9_writes_22 S1 x1 r1)
end
