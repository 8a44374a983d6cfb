/-! the tables' words that the rows name; fields; calls; shapes; rooms: by program -/
theorem tgm {w : Cond} (i : Nat) (h : lw_tbl[i]? = some w) (g : goodWord w = true) : w ∈ lw_tg := List.mem_filter.mpr ⟨List.mem_of_getElem? h, g⟩
theorem z_gV {own : String} {idx mL : Nat} {y : MethodName} {cd : ByteArray} {rt : Option FieldType} (h1 : Cond.methodLink own idx y ∈ lw_tg) (h2 : Cond.instanceMethod y ∈ lw_tg) (h3 : Cond.selects y.cls y y ∈ lw_tg) (h4 : Cond.initialized y.cls ∈ lw_tg) (h5 : Cond.code y cd mL rt ∈ lw_tg) : GoodIn lw_tg (wsV own idx y.cls y (.code y cd mL rt :: lw_tg)) := lw_goodIn (fun w hw => by
  simp only [wsV, List.cons_append, List.nil_append, List.mem_cons] at hw
  rcases hw with rfl | rfl | rfl | rfl | rfl | hw
  · exact h1
  · exact h2
  · exact h3
  · exact h4
  · exact h5
  · exact hw)
theorem z_gS {own : String} {idx mL : Nat} {y : MethodName} {cd : ByteArray} {rt : Option FieldType} (h1 : Cond.methodLink own idx y ∈ lw_tg) (h2 : Cond.static y ∈ lw_tg) (h4 : Cond.initialized y.cls ∈ lw_tg) (h5 : Cond.code y cd mL rt ∈ lw_tg) : GoodIn lw_tg (va_wsS own idx y (.code y cd mL rt :: lw_tg)) := lw_goodIn (fun w hw => by
  simp only [va_wsS, List.cons_append, List.nil_append, List.mem_cons] at hw
  rcases hw with rfl | rfl | rfl | rfl | hw
  · exact h1
  · exact h2
  · exact h4
  · exact h5
  · exact hw)
def shC : List zk := [.inl (8, [4, 8, 11, 20, 0, 0]), .inl (6, [5, 6, 7]), .inr (1, 64), .inr (0, 4), .inr (0, 4), .inl (0, [9, 10, 0, 0, 0, 0, 1, 1]), .inr (1, 32), .inr (1, 4), .inl (2, [8, 12, 13, 14, 15, 16, 17, 18, 19, 0, 0, 0]), .inr (1, 15), .inr (1, 15), .inr (1, 7), .inr (1, 42), .inr (1, 6), .inr (1, 6), .inr (1, 6), .inr (1, 6), .inl (5, [21, 25, 32, 35, 44, 45, 0, 0, 0, 0, 0, 0]), .inl (1, [22, 23, 24, 0, 0]), .inr (0, 5), .inr (2, 5), .inr (0, 25), .inl (3, [26, 27, 28, 29, 30, 31, 0, 0, 0]), .inr (0, 1000), .inr (0, 1000), .inr (0, 1000), .inr (0, 1000), .inr (0, 1000), .inr (0, 1000), .inl (7, [33, 34, 0]), .inr (0, 40), .inr (0, 40), .inl (4, [36, 37, 38, 39, 40, 41, 42, 43, 0]), .inr (0, 40), .inr (0, 40), .inr (0, 40), .inr (0, 40), .inr (0, 40), .inr (0, 40), .inr (0, 40), .inr (0, 200), .inr (2, 4), .inr (0, 4)]
def shM : List zk := [.inl (9, [0, 1, 1, 4, 5, 6, 0, 0, 0, 0, 7, 8, 9, 2, 2, 12, 0, 0, 0, 0, 0, 0, 0, 0, 0, 0, 0, 13, 14, 15, 16, 17, 18, 19, 20, 21, 22, 23, 24, 0, 25, 26, 27, 28, 29, 30, 31, 32, 33, 34]), .inr (0, 4), .inr (0, 4), .inr (1, 64), .inr (0, 32), .inr (0, 4), .inr (1, 90), .inr (1, 1296), .inr (1, 1296), .inr (1, 18), .inr (0, 5), .inr (0, 25), .inr (2, 5), .inr (2, 4), .inr (0, 4), .inr (0, 1200), .inr (0, 1200), .inr (0, 1200), .inr (0, 1200), .inr (0, 1200), .inr (0, 1200), .inr (0, 1200), .inr (0, 41), .inr (0, 41), .inr (0, 40), .inr (0, 40), .inr (0, 40), .inr (0, 40), .inr (0, 40), .inr (0, 40), .inr (0, 200), .inr (0, 200)]
theorem z_dyn {x : Int32} (h : decide (x = 7 ∨ x = 8) = true) : shM[x.toNatClampNeg]? = some (.inr (1, 1296)) := by
  rcases (of_decide_eq_true h : x = 7 ∨ x = 8) with rfl | rfl <;> rfl
theorem uw0 : ∀ w ∈ u_ws RX0 TX0 8, w ∈ lw_tg := by decide +kernel
theorem uw1 : ∀ w ∈ u_ws RX1 TX1 5, w ∈ lw_tg := by decide +kernel
theorem uw2 : ∀ w ∈ u_ws RX2 TX2 12, w ∈ lw_tg := by decide +kernel
theorem uw3 : ∀ w ∈ u_ws RX3 TX3 9, w ∈ lw_tg := by decide +kernel
theorem uw4 : ∀ w ∈ u_ws RX4 TX4 9, w ∈ lw_tg := by decide +kernel
theorem uw5 : ∀ w ∈ u_ws RX5 TX5 12, w ∈ lw_tg := by decide +kernel
theorem uw6 : ∀ w ∈ u_ws RX6 TX6 3, w ∈ lw_tg := by decide +kernel
theorem uw7 : ∀ w ∈ u_ws RX7 TX7 3, w ∈ lw_tg := by decide +kernel
theorem uw8 : ∀ w ∈ u_ws RX8 TX8 6, w ∈ lw_tg := by decide +kernel
theorem uw9 : ∀ w ∈ u_ws RX9 TX9 50, w ∈ lw_tg := by decide +kernel
def rm0_above : Room := { frames := 0, cells := 0, slots := 0, locals := 0 }
def rm0_commonDivisor : Room := { frames := 0, cells := 0, slots := 0, locals := 0 }
def rm0_greatness : Room := { frames := 2, cells := 0, slots := 0, locals := 46 }
def rm0_ofCopy : Room := { frames := 1, cells := 0, slots := 0, locals := 25 }
def rm0_power : Room := { frames := 0, cells := 0, slots := 0, locals := 0 }
def rm0_spread : Room := { frames := 1, cells := 0, slots := 0, locals := 22 }
def rm0_sum : Room := { frames := 0, cells := 0, slots := 0, locals := 0 }
def rm0_tellFraction : Room := { frames := 1, cells := 0, slots := 0, locals := 30 }
def rm0_weigh : Room := { frames := 0, cells := 0, slots := 0, locals := 0 }
def rm0_weight : Room := { frames := 0, cells := 0, slots := 0, locals := 0 }
def rm1_fall : Room := { frames := 1, cells := 0, slots := 0, locals := 23 }
def rm1_forget : Room := { frames := 0, cells := 0, slots := 0, locals := 0 }
def rm1_give : Room := { frames := 1, cells := 0, slots := 0, locals := 21 }
def rm1_has : Room := { frames := 0, cells := 0, slots := 0, locals := 0 }
def rm1_keptBy : Room := { frames := 0, cells := 0, slots := 0, locals := 0 }
def rm1_leastUp : Room := { frames := 0, cells := 0, slots := 0, locals := 0 }
def rm1_level : Room := { frames := 1, cells := 0, slots := 0, locals := 21 }
def rm1_renew : Room := { frames := 1, cells := 0, slots := 0, locals := 22 }
def rm1_rise : Room := { frames := 2, cells := 0, slots := 0, locals := 44 }
def rm1_take : Room := { frames := 1, cells := 0, slots := 0, locals := 21 }
def rm2_ask : Room := { frames := 0, cells := 0, slots := 0, locals := 0 }
def rm2_atLeast : Room := { frames := 1, cells := 0, slots := 0, locals := 25 }
def rm2_cheapest : Room := { frames := 5, cells := 0, slots := 0, locals := 132 }
def rm2_endsAt : Room := { frames := 2, cells := 0, slots := 0, locals := 53 }
def rm2_fillPowers : Room := { frames := 0, cells := 0, slots := 0, locals := 0 }
def rm2_isAtMost : Room := { frames := 0, cells := 0, slots := 0, locals := 0 }
def rm2_picks : Room := { frames := 0, cells := 0, slots := 0, locals := 0 }
def rm2_place : Room := { frames := 0, cells := 0, slots := 0, locals := 0 }
def rm2_prepare : Room := { frames := 3, cells := 0, slots := 0, locals := 79 }
def rm2_prepareEnd : Room := { frames := 2, cells := 0, slots := 0, locals := 49 }
def rm2_staleAnswers : Room := { frames := 1, cells := 0, slots := 0, locals := 22 }
def rm2_staleReads : Room := { frames := 1, cells := 0, slots := 0, locals := 21 }
def rm2_tellAge : Room := { frames := 5, cells := 0, slots := 0, locals := 132 }
def rm2_tellTakes : Room := { frames := 3, cells := 0, slots := 0, locals := 82 }
def rm2_waysAbove : Room := { frames := 4, cells := 0, slots := 0, locals := 102 }
def rm3_isLetter : Room := { frames := 0, cells := 0, slots := 0, locals := 0 }
def rm3_link : Room := { frames := 1, cells := 0, slots := 0, locals := 20 }
def rm3_renew : Room := { frames := 0, cells := 0, slots := 0, locals := 0 }
def rm3_send : Room := { frames := 2, cells := 0, slots := 0, locals := 44 }
def rm3_takeDue : Room := { frames := 1, cells := 0, slots := 0, locals := 20 }
def rm3_tickOf : Room := { frames := 0, cells := 0, slots := 0, locals := 0 }
def rm4_add : Room := { frames := 0, cells := 0, slots := 0, locals := 0 }
def rm4_answeredLesser : Room := { frames := 0, cells := 0, slots := 0, locals := 0 }
def rm4_has : Room := { frames := 0, cells := 0, slots := 0, locals := 0 }
def rm4_hear : Room := { frames := 1, cells := 0, slots := 0, locals := 21 }
def rm4_isDone : Room := { frames := 1, cells := 0, slots := 0, locals := 21 }
def rm5_come : Room := { frames := 4, cells := 0, slots := 0, locals := 92 }
def rm5_finish : Room := { frames := 3, cells := 0, slots := 0, locals := 66 }
def rm5_mend : Room := { frames := 3, cells := 0, slots := 0, locals := 70 }
def rm5_renew : Room := { frames := 2, cells := 0, slots := 0, locals := 44 }
def rm5_sendAll : Room := { frames := 3, cells := 0, slots := 0, locals := 70 }
def rm5_workOff : Room := { frames := 5, cells := 0, slots := 0, locals := 116 }
def rm6_at : Room := { frames := 2, cells := 0, slots := 0, locals := 48 }
def rm6_cut : Room := { frames := 0, cells := 0, slots := 0, locals := 0 }
def rm6_lack : Room := { frames := 1, cells := 0, slots := 0, locals := 25 }
def rm6_lay : Room := { frames := 0, cells := 0, slots := 0, locals := 0 }
def rm6_move : Room := { frames := 1, cells := 0, slots := 0, locals := 26 }
def rm6_put : Room := { frames := 1, cells := 0, slots := 0, locals := 22 }
def rm6_takeAway : Room := { frames := 0, cells := 0, slots := 0, locals := 0 }
def rm7_add : Room := { frames := 0, cells := 0, slots := 0, locals := 0 }
def rm7_doneBefore : Room := { frames := 2, cells := 0, slots := 0, locals := 42 }
def rm7_has : Room := { frames := 0, cells := 0, slots := 0, locals := 0 }
def rm7_hear : Room := { frames := 1, cells := 0, slots := 0, locals := 21 }
def rm7_isDone : Room := { frames := 1, cells := 0, slots := 0, locals := 21 }
def rm8_actLack : Room := { frames := 3, cells := 0, slots := 0, locals := 70 }
def rm8_begin : Room := { frames := 3, cells := 0, slots := 0, locals := 68 }
def rm8_bottom : Room := { frames := 0, cells := 0, slots := 0, locals := 0 }
def rm8_choose : Room := { frames := 6, cells := 0, slots := 0, locals := 166 }
def rm8_copy : Room := { frames := 2, cells := 0, slots := 0, locals := 53 }
def rm8_copyLack : Room := { frames := 2, cells := 0, slots := 0, locals := 46 }
def rm8_done : Room := { frames := 2, cells := 0, slots := 0, locals := 42 }
def rm8_down : Room := { frames := 3, cells := 0, slots := 0, locals := 69 }
def rm8_drop : Room := { frames := 2, cells := 0, slots := 0, locals := 48 }
def rm8_first : Room := { frames := 1, cells := 0, slots := 0, locals := 21 }
def rm8_fits : Room := { frames := 0, cells := 0, slots := 0, locals := 0 }
def rm8_fitsRead : Room := { frames := 1, cells := 0, slots := 0, locals := 25 }
def rm8_gap : Room := { frames := 1, cells := 0, slots := 0, locals := 25 }
def rm8_go : Room := { frames := 6, cells := 0, slots := 0, locals := 139 }
def rm8_got : Room := { frames := 2, cells := 0, slots := 0, locals := 42 }
def rm8_isCopy : Room := { frames := 1, cells := 0, slots := 0, locals := 25 }
def rm8_keep : Room := { frames := 1, cells := 0, slots := 0, locals := 25 }
def rm8_mending : Room := { frames := 1, cells := 0, slots := 0, locals := 21 }
def rm8_none : Room := { frames := 1, cells := 0, slots := 0, locals := 21 }
def rm8_numbers : Room := { frames := 1, cells := 0, slots := 0, locals := 25 }
def rm8_odds : Room := { frames := 6, cells := 0, slots := 0, locals := 154 }
def rm8_of : Room := { frames := 2, cells := 0, slots := 0, locals := 46 }
def rm8_passes : Room := { frames := 0, cells := 0, slots := 0, locals := 0 }
def rm8_read : Room := { frames := 3, cells := 0, slots := 0, locals := 70 }
def rm8_reads : Room := { frames := 6, cells := 0, slots := 0, locals := 139 }
def rm8_runLack : Room := { frames := 0, cells := 0, slots := 0, locals := 0 }
def rm8_sheet : Room := { frames := 1, cells := 0, slots := 0, locals := 25 }
def rm8_status : Room := { frames := 0, cells := 0, slots := 0, locals := 0 }
def rm8_sweep : Room := { frames := 3, cells := 0, slots := 0, locals := 69 }
def rm8_table : Room := { frames := 4, cells := 0, slots := 0, locals := 97 }
def rm8_takes : Room := { frames := 4, cells := 0, slots := 0, locals := 110 }
def rm8_tell : Room := { frames := 1, cells := 0, slots := 0, locals := 25 }
def rm8_top : Room := { frames := 0, cells := 0, slots := 0, locals := 0 }
def rm8_up : Room := { frames := 3, cells := 0, slots := 0, locals := 69 }
def rm8_weightsOf : Room := { frames := 3, cells := 0, slots := 0, locals := 70 }
def rm8_write : Room := { frames := 2, cells := 0, slots := 0, locals := 48 }
def rm8_writes : Room := { frames := 6, cells := 0, slots := 0, locals := 139 }
def rm9_above : Room := { frames := 0, cells := 0, slots := 0, locals := 0 }
def rm9_allWays : Room := { frames := 0, cells := 0, slots := 0, locals := 0 }
def rm9_answer : Room := { frames := 1, cells := 0, slots := 0, locals := 26 }
def rm9_begin : Room := { frames := 1, cells := 0, slots := 0, locals := 21 }
def rm9_both : Room := { frames := 0, cells := 0, slots := 0, locals := 0 }
def rm9_bottom : Room := { frames := 0, cells := 0, slots := 0, locals := 0 }
def rm9_choose : Room := { frames := 4, cells := 0, slots := 0, locals := 115 }
def rm9_comes : Room := { frames := 2, cells := 0, slots := 0, locals := 53 }
def rm9_copy : Room := { frames := 1, cells := 0, slots := 0, locals := 22 }
def rm9_cut : Room := { frames := 0, cells := 0, slots := 0, locals := 0 }
def rm9_delay : Room := { frames := 0, cells := 0, slots := 0, locals := 0 }
def rm9_done : Room := { frames := 1, cells := 0, slots := 0, locals := 21 }
def rm9_down : Room := { frames := 1, cells := 0, slots := 0, locals := 21 }
def rm9_drop : Room := { frames := 1, cells := 0, slots := 0, locals := 21 }
def rm9_due : Room := { frames := 0, cells := 0, slots := 0, locals := 0 }
def rm9_gap : Room := { frames := 1, cells := 0, slots := 0, locals := 21 }
def rm9_gives : Room := { frames := 1, cells := 0, slots := 0, locals := 21 }
def rm9_go : Room := { frames := 4, cells := 0, slots := 0, locals := 104 }
def rm9_got : Room := { frames := 1, cells := 0, slots := 0, locals := 23 }
def rm9_hand : Room := { frames := 1, cells := 0, slots := 0, locals := 21 }
def rm9_is : Room := { frames := 0, cells := 0, slots := 0, locals := 0 }
def rm9_isAbove : Room := { frames := 0, cells := 0, slots := 0, locals := 0 }
def rm9_isAsked : Room := { frames := 0, cells := 0, slots := 0, locals := 0 }
def rm9_isReader : Room := { frames := 0, cells := 0, slots := 0, locals := 0 }
def rm9_isSheet : Room := { frames := 0, cells := 0, slots := 0, locals := 0 }
def rm9_keep : Room := { frames := 1, cells := 0, slots := 0, locals := 21 }
def rm9_look : Room := { frames := 1, cells := 0, slots := 0, locals := 24 }
def rm9_mark : Room := { frames := 0, cells := 0, slots := 0, locals := 0 }
def rm9_mending : Room := { frames := 1, cells := 0, slots := 0, locals := 21 }
def rm9_missed : Room := { frames := 0, cells := 0, slots := 0, locals := 0 }
def rm9_none : Room := { frames := 1, cells := 0, slots := 0, locals := 21 }
def rm9_nth : Room := { frames := 1, cells := 0, slots := 0, locals := 25 }
def rm9_numbers : Room := { frames := 1, cells := 0, slots := 0, locals := 21 }
def rm9_odds : Room := { frames := 4, cells := 0, slots := 0, locals := 115 }
def rm9_of : Room := { frames := 1, cells := 0, slots := 0, locals := 21 }
def rm9_oldWays : Room := { frames := 3, cells := 0, slots := 0, locals := 82 }
def rm9_pick : Room := { frames := 0, cells := 0, slots := 0, locals := 0 }
def rm9_power : Room := { frames := 0, cells := 0, slots := 0, locals := 0 }
def rm9_read : Room := { frames := 2, cells := 0, slots := 0, locals := 42 }
def rm9_reads : Room := { frames := 4, cells := 0, slots := 0, locals := 104 }
def rm9_refuse : Room := { frames := 0, cells := 0, slots := 0, locals := 0 }
def rm9_send : Room := { frames := 0, cells := 0, slots := 0, locals := 0 }
def rm9_sheet : Room := { frames := 1, cells := 0, slots := 0, locals := 21 }
def rm9_spread : Room := { frames := 1, cells := 0, slots := 0, locals := 23 }
def rm9_status : Room := { frames := 0, cells := 0, slots := 0, locals := 0 }
def rm9_sweep : Room := { frames := 1, cells := 0, slots := 0, locals := 21 }
def rm9_table : Room := { frames := 1, cells := 0, slots := 0, locals := 21 }
def rm9_takes : Room := { frames := 2, cells := 0, slots := 0, locals := 56 }
def rm9_tell : Room := { frames := 1, cells := 0, slots := 0, locals := 23 }
def rm9_tells : Room := { frames := 0, cells := 0, slots := 0, locals := 0 }
def rm9_top : Room := { frames := 0, cells := 0, slots := 0, locals := 0 }
def rm9_up : Room := { frames := 2, cells := 0, slots := 0, locals := 44 }
def rm9_ways : Room := { frames := 2, cells := 0, slots := 0, locals := 53 }
def rm9_workOff : Room := { frames := 3, cells := 0, slots := 0, locals := 78 }
def rm9_write : Room := { frames := 2, cells := 0, slots := 0, locals := 42 }
def rm9_writes : Room := { frames := 4, cells := 0, slots := 0, locals := 104 }
def rm9_wrong : Room := { frames := 1, cells := 0, slots := 0, locals := 20 }
def rm9_wrongCopy : Room := { frames := 0, cells := 0, slots := 0, locals := 0 }
def rm9_wrongDelays : Room := { frames := 1, cells := 0, slots := 0, locals := 20 }
theorem mw_0 : Cond.selects RX8 yX8_passes yX8_passes ∈ lw_tg := tgm 0 (by decide +kernel) (by decide +kernel)
theorem mw_1 : Cond.selects RX8 yX8_weightsOf yX8_weightsOf ∈ lw_tg := tgm 1 (by decide +kernel) (by decide +kernel)
theorem mw_2 : Cond.selects RX2 yX2_endsAt yX2_endsAt ∈ lw_tg := tgm 2 (by decide +kernel) (by decide +kernel)
theorem mw_3 : Cond.selects RX2 yX2_prepare yX2_prepare ∈ lw_tg := tgm 3 (by decide +kernel) (by decide +kernel)
theorem mw_4 : Cond.selects RX2 yX2_prepareEnd yX2_prepareEnd ∈ lw_tg := tgm 4 (by decide +kernel) (by decide +kernel)
theorem mw_5 : Cond.selects RX2 yX2_staleAnswers yX2_staleAnswers ∈ lw_tg := tgm 5 (by decide +kernel) (by decide +kernel)
theorem mw_6 : Cond.selects RX2 yX2_staleReads yX2_staleReads ∈ lw_tg := tgm 6 (by decide +kernel) (by decide +kernel)
theorem mw_7 : Cond.selects RX1 yX1_forget yX1_forget ∈ lw_tg := tgm 7 (by decide +kernel) (by decide +kernel)
theorem mw_8 : Cond.selects RX8 yX8_runLack yX8_runLack ∈ lw_tg := tgm 8 (by decide +kernel) (by decide +kernel)
theorem mw_9 : Cond.selects RX8 yX8_actLack yX8_actLack ∈ lw_tg := tgm 9 (by decide +kernel) (by decide +kernel)
theorem mw_10 : Cond.selects RX3 yX3_link yX3_link ∈ lw_tg := tgm 10 (by decide +kernel) (by decide +kernel)
theorem mw_11 : Cond.selects RX5 yX5_come yX5_come ∈ lw_tg := tgm 11 (by decide +kernel) (by decide +kernel)
theorem mw_12 : Cond.selects RX1 yX1_leastUp yX1_leastUp ∈ lw_tg := tgm 12 (by decide +kernel) (by decide +kernel)
theorem mw_13 : Cond.selects RX7 yX7_has yX7_has ∈ lw_tg := tgm 13 (by decide +kernel) (by decide +kernel)
theorem mw_14 : Cond.selects RX4 yX4_has yX4_has ∈ lw_tg := tgm 14 (by decide +kernel) (by decide +kernel)
theorem mw_15 : Cond.selects RX5 yX5_finish yX5_finish ∈ lw_tg := tgm 15 (by decide +kernel) (by decide +kernel)
theorem mw_16 : Cond.selects RX5 yX5_mend yX5_mend ∈ lw_tg := tgm 16 (by decide +kernel) (by decide +kernel)
theorem mw_17 : Cond.selects RX8 yX8_copyLack yX8_copyLack ∈ lw_tg := tgm 17 (by decide +kernel) (by decide +kernel)
theorem mw_18 : Cond.selects RX8 yX8_isCopy yX8_isCopy ∈ lw_tg := tgm 18 (by decide +kernel) (by decide +kernel)
theorem mw_19 : Cond.selects RX1 yX1_give yX1_give ∈ lw_tg := tgm 19 (by decide +kernel) (by decide +kernel)
theorem mw_20 : Cond.selects RX9 yX9_is yX9_is ∈ lw_tg := tgm 20 (by decide +kernel) (by decide +kernel)
theorem mw_21 : Cond.selects RX9 yX9_wrong yX9_wrong ∈ lw_tg := tgm 21 (by decide +kernel) (by decide +kernel)
theorem mw_22 : Cond.selects RX9 yX9_refuse yX9_refuse ∈ lw_tg := tgm 22 (by decide +kernel) (by decide +kernel)
theorem mw_23 : Cond.selects RX9 yX9_both yX9_both ∈ lw_tg := tgm 23 (by decide +kernel) (by decide +kernel)
theorem mw_24 : Cond.selects RX9 yX9_tells yX9_tells ∈ lw_tg := tgm 24 (by decide +kernel) (by decide +kernel)
theorem mw_25 : Cond.selects RX9 yX9_allWays yX9_allWays ∈ lw_tg := tgm 25 (by decide +kernel) (by decide +kernel)
theorem mw_26 : Cond.selects RX9 yX9_oldWays yX9_oldWays ∈ lw_tg := tgm 26 (by decide +kernel) (by decide +kernel)
theorem mw_27 : Cond.selects RX9 yX9_look yX9_look ∈ lw_tg := tgm 27 (by decide +kernel) (by decide +kernel)
theorem mw_28 : Cond.selects RX9 yX9_above yX9_above ∈ lw_tg := tgm 28 (by decide +kernel) (by decide +kernel)
theorem mw_29 : Cond.selects RX9 yX9_ways yX9_ways ∈ lw_tg := tgm 29 (by decide +kernel) (by decide +kernel)
theorem mw_30 : Cond.selects RX9 yX9_spread yX9_spread ∈ lw_tg := tgm 30 (by decide +kernel) (by decide +kernel)
theorem mw_31 : Cond.selects RX9 yX9_wrongDelays yX9_wrongDelays ∈ lw_tg := tgm 31 (by decide +kernel) (by decide +kernel)
theorem mw_32 : Cond.selects RX9 yX9_delay yX9_delay ∈ lw_tg := tgm 32 (by decide +kernel) (by decide +kernel)
theorem mw_33 : Cond.selects RX9 yX9_send yX9_send ∈ lw_tg := tgm 33 (by decide +kernel) (by decide +kernel)
theorem mw_34 : Cond.selects RX9 yX9_workOff yX9_workOff ∈ lw_tg := tgm 34 (by decide +kernel) (by decide +kernel)
theorem mw_35 : Cond.selects RX9 yX9_due yX9_due ∈ lw_tg := tgm 35 (by decide +kernel) (by decide +kernel)
theorem mw_36 : Cond.selects RX9 yX9_comes yX9_comes ∈ lw_tg := tgm 36 (by decide +kernel) (by decide +kernel)
theorem mw_37 : Cond.selects RX9 yX9_hand yX9_hand ∈ lw_tg := tgm 37 (by decide +kernel) (by decide +kernel)
theorem mw_38 : Cond.selects RX9 yX9_answer yX9_answer ∈ lw_tg := tgm 38 (by decide +kernel) (by decide +kernel)
theorem mw_39 : Cond.selects RX9 yX9_wrongCopy yX9_wrongCopy ∈ lw_tg := tgm 39 (by decide +kernel) (by decide +kernel)
theorem mw_40 : Cond.selects RX9 yX9_gives yX9_gives ∈ lw_tg := tgm 40 (by decide +kernel) (by decide +kernel)
theorem mw_41 : Cond.selects RX9 yX9_missed yX9_missed ∈ lw_tg := tgm 41 (by decide +kernel) (by decide +kernel)
theorem mw_43 : Cond.initialized RX8 ∈ lw_tg := tgm 43 (by decide +kernel) (by decide +kernel)
theorem mw_44 : Cond.initialized RX6 ∈ lw_tg := tgm 44 (by decide +kernel) (by decide +kernel)
theorem mw_45 : Cond.initialized RX0 ∈ lw_tg := tgm 45 (by decide +kernel) (by decide +kernel)
theorem mw_46 : Cond.initialized RX2 ∈ lw_tg := tgm 46 (by decide +kernel) (by decide +kernel)
theorem mw_47 : Cond.initialized RX5 ∈ lw_tg := tgm 47 (by decide +kernel) (by decide +kernel)
theorem mw_48 : Cond.initialized RX1 ∈ lw_tg := tgm 48 (by decide +kernel) (by decide +kernel)
theorem mw_49 : Cond.initialized RX3 ∈ lw_tg := tgm 49 (by decide +kernel) (by decide +kernel)
theorem mw_50 : Cond.initialized RX7 ∈ lw_tg := tgm 50 (by decide +kernel) (by decide +kernel)
theorem mw_51 : Cond.initialized RX4 ∈ lw_tg := tgm 51 (by decide +kernel) (by decide +kernel)
theorem mw_52 : Cond.initialized RX9 ∈ lw_tg := tgm 52 (by decide +kernel) (by decide +kernel)
theorem mw_53 : Cond.initialized "java/lang/Math" ∈ lw_tg := tgm 53 (by decide +kernel) (by decide +kernel)
theorem mw_54 : Cond.initialized "java/lang/System" ∈ lw_tg := tgm 54 (by decide +kernel) (by decide +kernel)
theorem mw_69 : Cond.fieldLink RX6 9 "ReadAge$Sheets" "values" "[J" ∈ lw_tg := tgm 69 (by decide +kernel) (by decide +kernel)
theorem mw_70 : Cond.fieldLink RX6 15 "ReadAge$Sheets" "sorts" "[I" ∈ lw_tg := tgm 70 (by decide +kernel) (by decide +kernel)
theorem mw_71 : Cond.fieldLink RX6 19 "ReadAge$Sheets" "sizes" "[I" ∈ lw_tg := tgm 71 (by decide +kernel) (by decide +kernel)
theorem mw_88 : Cond.instanceMethod yX0_weigh ∈ lw_tg := tgm 88 (by decide +kernel) (by decide +kernel)
theorem mw_89 : Cond.selects RX0 yX0_weigh yX0_weigh ∈ lw_tg := tgm 89 (by decide +kernel) (by decide +kernel)
theorem mw_90 : Cond.code yX0_weigh cX0_weigh 6 none ∈ lw_tg := tgm 90 (by decide +kernel) (by decide +kernel)
theorem mw_91 : Cond.fieldLink RX0 9 "ReadAge$Chances" "weights" "[J" ∈ lw_tg := tgm 91 (by decide +kernel) (by decide +kernel)
theorem mw_92 : Cond.fieldLink RX0 15 "ReadAge$Chances" "sums" "[J" ∈ lw_tg := tgm 92 (by decide +kernel) (by decide +kernel)
theorem mw_94 : Cond.fieldLink RX2 66 "ReadAge$Chances" "n" "I" ∈ lw_tg := tgm 94 (by decide +kernel) (by decide +kernel)
theorem mw_95 : Cond.fieldLink RX8 98 "ReadAge$Chances" "n" "I" ∈ lw_tg := tgm 95 (by decide +kernel) (by decide +kernel)
theorem mw_97 : Cond.fieldLink RX2 52 "ReadAge$Chances" "w" "I" ∈ lw_tg := tgm 97 (by decide +kernel) (by decide +kernel)
theorem mw_98 : Cond.fieldLink RX8 101 "ReadAge$Chances" "w" "I" ∈ lw_tg := tgm 98 (by decide +kernel) (by decide +kernel)
theorem mw_100 : Cond.fieldLink RX2 55 "ReadAge$Chances" "r" "I" ∈ lw_tg := tgm 100 (by decide +kernel) (by decide +kernel)
theorem mw_101 : Cond.fieldLink RX8 104 "ReadAge$Chances" "r" "I" ∈ lw_tg := tgm 101 (by decide +kernel) (by decide +kernel)
theorem mw_103 : Cond.fieldLink RX2 88 "ReadAge$Chances" "gap" "I" ∈ lw_tg := tgm 103 (by decide +kernel) (by decide +kernel)
theorem mw_104 : Cond.fieldLink RX8 109 "ReadAge$Chances" "gap" "I" ∈ lw_tg := tgm 104 (by decide +kernel) (by decide +kernel)
theorem mw_105 : Cond.fieldLink RX0 31 "ReadAge$Chances" "top" "J" ∈ lw_tg := tgm 105 (by decide +kernel) (by decide +kernel)
theorem mw_106 : Cond.fieldLink RX8 47 "ReadAge$Chances" "top" "J" ∈ lw_tg := tgm 106 (by decide +kernel) (by decide +kernel)
theorem mw_107 : Cond.fieldLink RX0 35 "ReadAge$Chances" "bottom" "J" ∈ lw_tg := tgm 107 (by decide +kernel) (by decide +kernel)
theorem mw_108 : Cond.fieldLink RX8 51 "ReadAge$Chances" "bottom" "J" ∈ lw_tg := tgm 108 (by decide +kernel) (by decide +kernel)
theorem mw_132 : Cond.fieldLink RX2 48 "ReadAge$Odds" "chances" "LReadAge$Chances;" ∈ lw_tg := tgm 132 (by decide +kernel) (by decide +kernel)
theorem mw_133 : Cond.fieldLink RX2 11 "ReadAge$Odds" "ends" "[J" ∈ lw_tg := tgm 133 (by decide +kernel) (by decide +kernel)
theorem mw_134 : Cond.fieldLink RX2 17 "ReadAge$Odds" "answers" "[J" ∈ lw_tg := tgm 134 (by decide +kernel) (by decide +kernel)
theorem mw_135 : Cond.fieldLink RX2 20 "ReadAge$Odds" "late" "[J" ∈ lw_tg := tgm 135 (by decide +kernel) (by decide +kernel)
theorem mw_136 : Cond.fieldLink RX2 23 "ReadAge$Odds" "stale" "[J" ∈ lw_tg := tgm 136 (by decide +kernel) (by decide +kernel)
theorem mw_137 : Cond.fieldLink RX2 26 "ReadAge$Odds" "sooner" "[J" ∈ lw_tg := tgm 137 (by decide +kernel) (by decide +kernel)
theorem mw_138 : Cond.fieldLink RX2 29 "ReadAge$Odds" "now" "[J" ∈ lw_tg := tgm 138 (by decide +kernel) (by decide +kernel)
theorem mw_139 : Cond.fieldLink RX2 32 "ReadAge$Odds" "others" "[J" ∈ lw_tg := tgm 139 (by decide +kernel) (by decide +kernel)
theorem mw_140 : Cond.fieldLink RX2 35 "ReadAge$Odds" "later" "[J" ∈ lw_tg := tgm 140 (by decide +kernel) (by decide +kernel)
theorem mw_141 : Cond.fieldLink RX2 38 "ReadAge$Odds" "behind" "I" ∈ lw_tg := tgm 141 (by decide +kernel) (by decide +kernel)
theorem mw_142 : Cond.fieldLink RX2 42 "ReadAge$Odds" "aged" "I" ∈ lw_tg := tgm 142 (by decide +kernel) (by decide +kernel)
theorem mw_143 : Cond.fieldLink RX2 45 "ReadAge$Odds" "ready" "I" ∈ lw_tg := tgm 143 (by decide +kernel) (by decide +kernel)
theorem mw_181 : Cond.fieldLink RX1 9 "ReadAge$Copies" "versions" "[I" ∈ lw_tg := tgm 181 (by decide +kernel) (by decide +kernel)
theorem mw_182 : Cond.fieldLink RX5 124 "ReadAge$Copies" "versions" "[I" ∈ lw_tg := tgm 182 (by decide +kernel) (by decide +kernel)
theorem mw_183 : Cond.fieldLink RX8 228 "ReadAge$Copies" "versions" "[I" ∈ lw_tg := tgm 183 (by decide +kernel) (by decide +kernel)
theorem mw_184 : Cond.fieldLink RX1 15 "ReadAge$Copies" "ups" "[Z" ∈ lw_tg := tgm 184 (by decide +kernel) (by decide +kernel)
theorem mw_185 : Cond.fieldLink RX5 121 "ReadAge$Copies" "ups" "[Z" ∈ lw_tg := tgm 185 (by decide +kernel) (by decide +kernel)
theorem mw_186 : Cond.fieldLink RX8 232 "ReadAge$Copies" "ups" "[Z" ∈ lw_tg := tgm 186 (by decide +kernel) (by decide +kernel)
theorem mw_187 : Cond.fieldLink RX1 19 "ReadAge$Copies" "handed" "[I" ∈ lw_tg := tgm 187 (by decide +kernel) (by decide +kernel)
theorem mw_188 : Cond.fieldLink RX1 22 "ReadAge$Copies" "many" "I" ∈ lw_tg := tgm 188 (by decide +kernel) (by decide +kernel)
theorem mw_189 : Cond.fieldLink RX5 77 "ReadAge$Copies" "many" "I" ∈ lw_tg := tgm 189 (by decide +kernel) (by decide +kernel)
theorem mw_190 : Cond.fieldLink RX8 284 "ReadAge$Copies" "many" "I" ∈ lw_tg := tgm 190 (by decide +kernel) (by decide +kernel)
theorem mw_191 : Cond.fieldLink RX1 26 "ReadAge$Copies" "lost" "I" ∈ lw_tg := tgm 191 (by decide +kernel) (by decide +kernel)
theorem mw_192 : Cond.fieldLink RX8 265 "ReadAge$Copies" "lost" "I" ∈ lw_tg := tgm 192 (by decide +kernel) (by decide +kernel)
theorem mw_211 : Cond.fieldLink RX3 11 "ReadAge$Post" "ticks" "[I" ∈ lw_tg := tgm 211 (by decide +kernel) (by decide +kernel)
theorem mw_212 : Cond.fieldLink RX3 15 "ReadAge$Post" "nexts" "[I" ∈ lw_tg := tgm 212 (by decide +kernel) (by decide +kernel)
theorem mw_213 : Cond.fieldLink RX3 18 "ReadAge$Post" "numbers" "[I" ∈ lw_tg := tgm 213 (by decide +kernel) (by decide +kernel)
theorem mw_214 : Cond.fieldLink RX5 98 "ReadAge$Post" "numbers" "[I" ∈ lw_tg := tgm 214 (by decide +kernel) (by decide +kernel)
theorem mw_215 : Cond.fieldLink RX3 21 "ReadAge$Post" "kinds" "[I" ∈ lw_tg := tgm 215 (by decide +kernel) (by decide +kernel)
theorem mw_216 : Cond.fieldLink RX5 110 "ReadAge$Post" "kinds" "[I" ∈ lw_tg := tgm 216 (by decide +kernel) (by decide +kernel)
theorem mw_217 : Cond.fieldLink RX3 24 "ReadAge$Post" "copies" "[I" ∈ lw_tg := tgm 217 (by decide +kernel) (by decide +kernel)
theorem mw_218 : Cond.fieldLink RX5 101 "ReadAge$Post" "copies" "[I" ∈ lw_tg := tgm 218 (by decide +kernel) (by decide +kernel)
theorem mw_219 : Cond.fieldLink RX3 27 "ReadAge$Post" "extras" "[I" ∈ lw_tg := tgm 219 (by decide +kernel) (by decide +kernel)
theorem mw_220 : Cond.fieldLink RX5 103 "ReadAge$Post" "extras" "[I" ∈ lw_tg := tgm 220 (by decide +kernel) (by decide +kernel)
theorem mw_221 : Cond.fieldLink RX3 30 "ReadAge$Post" "sent" "I" ∈ lw_tg := tgm 221 (by decide +kernel) (by decide +kernel)
theorem mw_222 : Cond.fieldLink RX3 34 "ReadAge$Post" "head" "I" ∈ lw_tg := tgm 222 (by decide +kernel) (by decide +kernel)
theorem mw_223 : Cond.fieldLink RX3 37 "ReadAge$Post" "underWay" "I" ∈ lw_tg := tgm 223 (by decide +kernel) (by decide +kernel)
theorem mw_224 : Cond.fieldLink RX8 262 "ReadAge$Post" "underWay" "I" ∈ lw_tg := tgm 224 (by decide +kernel) (by decide +kernel)
theorem mw_250 : Cond.fieldLink RX7 9 "ReadAge$Writes" "doneAt" "[I" ∈ lw_tg := tgm 250 (by decide +kernel) (by decide +kernel)
theorem mw_251 : Cond.fieldLink RX8 243 "ReadAge$Writes" "doneAt" "[I" ∈ lw_tg := tgm 251 (by decide +kernel) (by decide +kernel)
theorem mw_252 : Cond.fieldLink RX7 15 "ReadAge$Writes" "words" "[I" ∈ lw_tg := tgm 252 (by decide +kernel) (by decide +kernel)
theorem mw_253 : Cond.fieldLink RX7 18 "ReadAge$Writes" "many" "I" ∈ lw_tg := tgm 253 (by decide +kernel) (by decide +kernel)
theorem mw_254 : Cond.fieldLink RX5 73 "ReadAge$Writes" "many" "I" ∈ lw_tg := tgm 254 (by decide +kernel) (by decide +kernel)
theorem mw_255 : Cond.fieldLink RX8 167 "ReadAge$Writes" "many" "I" ∈ lw_tg := tgm 255 (by decide +kernel) (by decide +kernel)
theorem mw_269 : Cond.fieldLink RX4 9 "ReadAge$Reads" "readers" "[I" ∈ lw_tg := tgm 269 (by decide +kernel) (by decide +kernel)
theorem mw_270 : Cond.fieldLink RX5 139 "ReadAge$Reads" "readers" "[I" ∈ lw_tg := tgm 270 (by decide +kernel) (by decide +kernel)
theorem mw_271 : Cond.fieldLink RX4 15 "ReadAge$Reads" "begunAt" "[I" ∈ lw_tg := tgm 271 (by decide +kernel) (by decide +kernel)
theorem mw_272 : Cond.fieldLink RX5 148 "ReadAge$Reads" "begunAt" "[I" ∈ lw_tg := tgm 272 (by decide +kernel) (by decide +kernel)
theorem mw_273 : Cond.fieldLink RX4 18 "ReadAge$Reads" "greatest" "[I" ∈ lw_tg := tgm 273 (by decide +kernel) (by decide +kernel)
theorem mw_274 : Cond.fieldLink RX5 136 "ReadAge$Reads" "greatest" "[I" ∈ lw_tg := tgm 274 (by decide +kernel) (by decide +kernel)
theorem mw_275 : Cond.fieldLink RX4 21 "ReadAge$Reads" "doneAt" "[I" ∈ lw_tg := tgm 275 (by decide +kernel) (by decide +kernel)
theorem mw_276 : Cond.fieldLink RX5 142 "ReadAge$Reads" "doneAt" "[I" ∈ lw_tg := tgm 276 (by decide +kernel) (by decide +kernel)
theorem mw_277 : Cond.fieldLink RX8 249 "ReadAge$Reads" "doneAt" "[I" ∈ lw_tg := tgm 277 (by decide +kernel) (by decide +kernel)
theorem mw_279 : Cond.fieldLink RX5 160 "ReadAge$Reads" "told" "[I" ∈ lw_tg := tgm 279 (by decide +kernel) (by decide +kernel)
theorem mw_280 : Cond.fieldLink RX8 250 "ReadAge$Reads" "told" "[I" ∈ lw_tg := tgm 280 (by decide +kernel) (by decide +kernel)
theorem mw_282 : Cond.fieldLink RX5 145 "ReadAge$Reads" "missed" "[I" ∈ lw_tg := tgm 282 (by decide +kernel) (by decide +kernel)
theorem mw_283 : Cond.fieldLink RX8 253 "ReadAge$Reads" "missed" "[I" ∈ lw_tg := tgm 283 (by decide +kernel) (by decide +kernel)
theorem mw_284 : Cond.fieldLink RX4 30 "ReadAge$Reads" "answers" "[I" ∈ lw_tg := tgm 284 (by decide +kernel) (by decide +kernel)
theorem mw_285 : Cond.fieldLink RX4 33 "ReadAge$Reads" "heard" "[I" ∈ lw_tg := tgm 285 (by decide +kernel) (by decide +kernel)
theorem mw_286 : Cond.fieldLink RX4 36 "ReadAge$Reads" "many" "I" ∈ lw_tg := tgm 286 (by decide +kernel) (by decide +kernel)
theorem mw_287 : Cond.fieldLink RX5 76 "ReadAge$Reads" "many" "I" ∈ lw_tg := tgm 287 (by decide +kernel) (by decide +kernel)
theorem mw_288 : Cond.fieldLink RX8 195 "ReadAge$Reads" "many" "I" ∈ lw_tg := tgm 288 (by decide +kernel) (by decide +kernel)
theorem mw_308 : Cond.fieldLink RX5 12 "ReadAge$Run" "copies" "LReadAge$Copies;" ∈ lw_tg := tgm 308 (by decide +kernel) (by decide +kernel)
theorem mw_309 : Cond.fieldLink RX8 206 "ReadAge$Run" "copies" "LReadAge$Copies;" ∈ lw_tg := tgm 309 (by decide +kernel) (by decide +kernel)
theorem mw_310 : Cond.fieldLink RX5 21 "ReadAge$Run" "post" "LReadAge$Post;" ∈ lw_tg := tgm 310 (by decide +kernel) (by decide +kernel)
theorem mw_311 : Cond.fieldLink RX8 258 "ReadAge$Run" "post" "LReadAge$Post;" ∈ lw_tg := tgm 311 (by decide +kernel) (by decide +kernel)
theorem mw_312 : Cond.fieldLink RX5 28 "ReadAge$Run" "writes" "LReadAge$Writes;" ∈ lw_tg := tgm 312 (by decide +kernel) (by decide +kernel)
theorem mw_313 : Cond.fieldLink RX8 163 "ReadAge$Run" "writes" "LReadAge$Writes;" ∈ lw_tg := tgm 313 (by decide +kernel) (by decide +kernel)
theorem mw_314 : Cond.fieldLink RX5 35 "ReadAge$Run" "reads" "LReadAge$Reads;" ∈ lw_tg := tgm 314 (by decide +kernel) (by decide +kernel)
theorem mw_315 : Cond.fieldLink RX8 191 "ReadAge$Run" "reads" "LReadAge$Reads;" ∈ lw_tg := tgm 315 (by decide +kernel) (by decide +kernel)
theorem mw_316 : Cond.fieldLink RX5 39 "ReadAge$Run" "keeps" "[Z" ∈ lw_tg := tgm 316 (by decide +kernel) (by decide +kernel)
theorem mw_317 : Cond.fieldLink RX8 159 "ReadAge$Run" "keeps" "[Z" ∈ lw_tg := tgm 317 (by decide +kernel) (by decide +kernel)
theorem mw_318 : Cond.fieldLink RX5 43 "ReadAge$Run" "seen" "[I" ∈ lw_tg := tgm 318 (by decide +kernel) (by decide +kernel)
theorem mw_319 : Cond.fieldLink RX5 47 "ReadAge$Run" "w" "I" ∈ lw_tg := tgm 319 (by decide +kernel) (by decide +kernel)
theorem mw_320 : Cond.fieldLink RX5 51 "ReadAge$Run" "r" "I" ∈ lw_tg := tgm 320 (by decide +kernel) (by decide +kernel)
theorem mw_321 : Cond.fieldLink RX5 54 "ReadAge$Run" "tick" "I" ∈ lw_tg := tgm 321 (by decide +kernel) (by decide +kernel)
theorem mw_322 : Cond.fieldLink RX8 185 "ReadAge$Run" "tick" "I" ∈ lw_tg := tgm 322 (by decide +kernel) (by decide +kernel)
theorem mw_323 : Cond.fieldLink RX5 57 "ReadAge$Run" "mends" "Z" ∈ lw_tg := tgm 323 (by decide +kernel) (by decide +kernel)
theorem mw_324 : Cond.fieldLink RX8 156 "ReadAge$Run" "mends" "Z" ∈ lw_tg := tgm 324 (by decide +kernel) (by decide +kernel)
theorem mw_325 : Cond.fieldLink RX5 61 "ReadAge$Run" "raises" "I" ∈ lw_tg := tgm 325 (by decide +kernel) (by decide +kernel)
theorem mw_326 : Cond.fieldLink RX8 268 "ReadAge$Run" "raises" "I" ∈ lw_tg := tgm 326 (by decide +kernel) (by decide +kernel)
theorem mw_327 : Cond.fieldLink RX5 64 "ReadAge$Run" "misses" "I" ∈ lw_tg := tgm 327 (by decide +kernel) (by decide +kernel)
theorem mw_328 : Cond.fieldLink RX8 271 "ReadAge$Run" "misses" "I" ∈ lw_tg := tgm 328 (by decide +kernel) (by decide +kernel)
theorem mw_354 : Cond.fieldLink RX8 10 "ReadAge" "sheets" "LReadAge$Sheets;" ∈ lw_tg := tgm 354 (by decide +kernel) (by decide +kernel)
theorem mw_355 : Cond.fieldLink RX8 19 "ReadAge" "chances" "LReadAge$Chances;" ∈ lw_tg := tgm 355 (by decide +kernel) (by decide +kernel)
theorem mw_356 : Cond.fieldLink RX8 28 "ReadAge" "odds" "LReadAge$Odds;" ∈ lw_tg := tgm 356 (by decide +kernel) (by decide +kernel)
theorem mw_357 : Cond.fieldLink RX8 35 "ReadAge" "run" "LReadAge$Run;" ∈ lw_tg := tgm 357 (by decide +kernel) (by decide +kernel)
theorem mw_358 : Cond.fieldLink RX8 39 "ReadAge" "running" "Z" ∈ lw_tg := tgm 358 (by decide +kernel) (by decide +kernel)
theorem mw_359 : Cond.fieldLink RX8 43 "ReadAge" "status" "I" ∈ lw_tg := tgm 359 (by decide +kernel) (by decide +kernel)
theorem mw_389 : Cond.constantLong RX8 54 (3 : Int64) ∈ lw_tg := tgm 389 (by decide +kernel) (by decide +kernel)
theorem mw_390 : Cond.methodLink RX8 56 yX8_fits ∈ lw_tg := tgm 390 (by decide +kernel) (by decide +kernel)
theorem mw_391 : Cond.static yX8_fits ∈ lw_tg := tgm 391 (by decide +kernel) (by decide +kernel)
theorem mw_392 : Cond.code yX8_fits cX8_fits 6 (some .boolean) ∈ lw_tg := tgm 392 (by decide +kernel) (by decide +kernel)
theorem mw_393 : Cond.constantLong RX8 60 (16 : Int64) ∈ lw_tg := tgm 393 (by decide +kernel) (by decide +kernel)
theorem mw_394 : Cond.methodLink RX8 62 yX8_passes ∈ lw_tg := tgm 394 (by decide +kernel) (by decide +kernel)
theorem mw_396 : Cond.instanceMethod yX8_passes ∈ lw_tg := tgm 396 (by decide +kernel) (by decide +kernel)
theorem mw_397 : Cond.code yX8_passes cX8_passes 2 (some .boolean) ∈ lw_tg := tgm 397 (by decide +kernel) (by decide +kernel)
theorem mw_398 : Cond.methodLink RX8 66 yX6_lay ∈ lw_tg := tgm 398 (by decide +kernel) (by decide +kernel)
theorem mw_399 : Cond.instanceMethod yX6_lay ∈ lw_tg := tgm 399 (by decide +kernel) (by decide +kernel)
theorem mw_400 : Cond.selects RX6 yX6_lay yX6_lay ∈ lw_tg := tgm 400 (by decide +kernel) (by decide +kernel)
theorem mw_401 : Cond.code yX6_lay cX6_lay 5 none ∈ lw_tg := tgm 401 (by decide +kernel) (by decide +kernel)
theorem mw_406 : Cond.methodLink RX8 70 yX6_lack ∈ lw_tg := tgm 406 (by decide +kernel) (by decide +kernel)
theorem mw_407 : Cond.instanceMethod yX6_lack ∈ lw_tg := tgm 407 (by decide +kernel) (by decide +kernel)
theorem mw_408 : Cond.selects RX6 yX6_lack yX6_lack ∈ lw_tg := tgm 408 (by decide +kernel) (by decide +kernel)
theorem mw_409 : Cond.code yX6_lack cX6_lack 4 (some .int) ∈ lw_tg := tgm 409 (by decide +kernel) (by decide +kernel)
theorem mw_410 : Cond.constantLong RX6 22 (3 : Int64) ∈ lw_tg := tgm 410 (by decide +kernel) (by decide +kernel)
theorem mw_412 : Cond.methodLink RX8 74 yX6_put ∈ lw_tg := tgm 412 (by decide +kernel) (by decide +kernel)
theorem mw_413 : Cond.instanceMethod yX6_put ∈ lw_tg := tgm 413 (by decide +kernel) (by decide +kernel)
theorem mw_414 : Cond.selects RX6 yX6_put yX6_put ∈ lw_tg := tgm 414 (by decide +kernel) (by decide +kernel)
theorem mw_415 : Cond.code yX6_put cX6_put 5 none ∈ lw_tg := tgm 415 (by decide +kernel) (by decide +kernel)
theorem mw_416 : Cond.methodLink RX6 32 yX6_cut ∈ lw_tg := tgm 416 (by decide +kernel) (by decide +kernel)
theorem mw_417 : Cond.static yX6_cut ∈ lw_tg := tgm 417 (by decide +kernel) (by decide +kernel)
theorem mw_418 : Cond.code yX6_cut cX6_cut 3 (some .long) ∈ lw_tg := tgm 418 (by decide +kernel) (by decide +kernel)
theorem mw_423 : Cond.constantLong RX8 78 (-1 : Int64) ∈ lw_tg := tgm 423 (by decide +kernel) (by decide +kernel)
theorem mw_424 : Cond.methodLink RX8 80 yX6_at ∈ lw_tg := tgm 424 (by decide +kernel) (by decide +kernel)
theorem mw_425 : Cond.instanceMethod yX6_at ∈ lw_tg := tgm 425 (by decide +kernel) (by decide +kernel)
theorem mw_426 : Cond.selects RX6 yX6_at yX6_at ∈ lw_tg := tgm 426 (by decide +kernel) (by decide +kernel)
theorem mw_427 : Cond.code yX6_at cX6_at 3 (some .long) ∈ lw_tg := tgm 427 (by decide +kernel) (by decide +kernel)
theorem mw_428 : Cond.methodLink RX6 28 yX6_lack ∈ lw_tg := tgm 428 (by decide +kernel) (by decide +kernel)
theorem mw_433 : Cond.methodLink RX8 84 yX8_first ∈ lw_tg := tgm 433 (by decide +kernel) (by decide +kernel)
theorem mw_434 : Cond.static yX8_first ∈ lw_tg := tgm 434 (by decide +kernel) (by decide +kernel)
theorem mw_435 : Cond.code yX8_first cX8_first 2 (some .int) ∈ lw_tg := tgm 435 (by decide +kernel) (by decide +kernel)
theorem mw_436 : Cond.methodLink RX8 274 Lib.Math.min.name ∈ lw_tg := tgm 436 (by decide +kernel) (by decide +kernel)
theorem mw_437 : Cond.static Lib.Math.min.name ∈ lw_tg := tgm 437 (by decide +kernel) (by decide +kernel)
theorem mw_438 : Cond.code Lib.Math.min.name Lib.Math.min.code 2 (some .int) ∈ lw_tg := tgm 438 (by decide +kernel) (by decide +kernel)
theorem mw_439 : Cond.methodLink RX8 88 yX6_move ∈ lw_tg := tgm 439 (by decide +kernel) (by decide +kernel)
theorem mw_440 : Cond.instanceMethod yX6_move ∈ lw_tg := tgm 440 (by decide +kernel) (by decide +kernel)
theorem mw_441 : Cond.selects RX6 yX6_move yX6_move ∈ lw_tg := tgm 441 (by decide +kernel) (by decide +kernel)
theorem mw_442 : Cond.code yX6_move cX6_move 8 none ∈ lw_tg := tgm 442 (by decide +kernel) (by decide +kernel)
theorem mw_443 : Cond.methodLink RX6 36 arraycopyName ∈ lw_tg := tgm 443 (by decide +kernel) (by decide +kernel)
theorem mw_444 : Cond.static arraycopyName ∈ lw_tg := tgm 444 (by decide +kernel) (by decide +kernel)
theorem mw_445 : Cond.native arraycopyName ∈ lw_tg := tgm 445 (by decide +kernel) (by decide +kernel)
theorem mw_450 : Cond.methodLink RX8 92 yX6_takeAway ∈ lw_tg := tgm 450 (by decide +kernel) (by decide +kernel)
theorem mw_451 : Cond.instanceMethod yX6_takeAway ∈ lw_tg := tgm 451 (by decide +kernel) (by decide +kernel)
theorem mw_452 : Cond.selects RX6 yX6_takeAway yX6_takeAway ∈ lw_tg := tgm 452 (by decide +kernel) (by decide +kernel)
theorem mw_453 : Cond.code yX6_takeAway cX6_takeAway 2 none ∈ lw_tg := tgm 453 (by decide +kernel) (by decide +kernel)
theorem mw_462 : Cond.constantLong RX8 96 (5 : Int64) ∈ lw_tg := tgm 462 (by decide +kernel) (by decide +kernel)
theorem mw_467 : Cond.constantLong RX8 107 (100 : Int64) ∈ lw_tg := tgm 467 (by decide +kernel) (by decide +kernel)
theorem mw_472 : Cond.constantLong RX8 112 (8 : Int64) ∈ lw_tg := tgm 472 (by decide +kernel) (by decide +kernel)
theorem mw_473 : Cond.methodLink RX8 114 yX8_weightsOf ∈ lw_tg := tgm 473 (by decide +kernel) (by decide +kernel)
theorem mw_475 : Cond.instanceMethod yX8_weightsOf ∈ lw_tg := tgm 475 (by decide +kernel) (by decide +kernel)
theorem mw_476 : Cond.code yX8_weightsOf cX8_weightsOf 8 (some .int) ∈ lw_tg := tgm 476 (by decide +kernel) (by decide +kernel)
theorem mw_477 : Cond.methodLink RX8 117 yX0_weigh ∈ lw_tg := tgm 477 (by decide +kernel) (by decide +kernel)
theorem mw_482 : Cond.constantLong RX8 120 (14 : Int64) ∈ lw_tg := tgm 482 (by decide +kernel) (by decide +kernel)
theorem mw_483 : Cond.methodLink RX8 122 yX2_tellTakes ∈ lw_tg := tgm 483 (by decide +kernel) (by decide +kernel)
theorem mw_484 : Cond.instanceMethod yX2_tellTakes ∈ lw_tg := tgm 484 (by decide +kernel) (by decide +kernel)
theorem mw_485 : Cond.selects RX2 yX2_tellTakes yX2_tellTakes ∈ lw_tg := tgm 485 (by decide +kernel) (by decide +kernel)
theorem mw_486 : Cond.code yX2_tellTakes cX2_tellTakes 9 (some .int) ∈ lw_tg := tgm 486 (by decide +kernel) (by decide +kernel)
theorem mw_487 : Cond.methodLink RX2 58 yX0_spread ∈ lw_tg := tgm 487 (by decide +kernel) (by decide +kernel)
theorem mw_488 : Cond.instanceMethod yX0_spread ∈ lw_tg := tgm 488 (by decide +kernel) (by decide +kernel)
theorem mw_489 : Cond.selects RX0 yX0_spread yX0_spread ∈ lw_tg := tgm 489 (by decide +kernel) (by decide +kernel)
theorem mw_490 : Cond.code yX0_spread cX0_spread 8 none ∈ lw_tg := tgm 490 (by decide +kernel) (by decide +kernel)
theorem mw_491 : Cond.methodLink RX0 42 yX0_weight ∈ lw_tg := tgm 491 (by decide +kernel) (by decide +kernel)
theorem mw_492 : Cond.instanceMethod yX0_weight ∈ lw_tg := tgm 492 (by decide +kernel) (by decide +kernel)
theorem mw_493 : Cond.selects RX0 yX0_weight yX0_weight ∈ lw_tg := tgm 493 (by decide +kernel) (by decide +kernel)
theorem mw_494 : Cond.code yX0_weight cX0_weight 3 (some .long) ∈ lw_tg := tgm 494 (by decide +kernel) (by decide +kernel)
theorem mw_495 : Cond.methodLink RX2 62 yX0_sum ∈ lw_tg := tgm 495 (by decide +kernel) (by decide +kernel)
theorem mw_496 : Cond.instanceMethod yX0_sum ∈ lw_tg := tgm 496 (by decide +kernel) (by decide +kernel)
theorem mw_497 : Cond.selects RX0 yX0_sum yX0_sum ∈ lw_tg := tgm 497 (by decide +kernel) (by decide +kernel)
theorem mw_498 : Cond.code yX0_sum cX0_sum 2 (some .long) ∈ lw_tg := tgm 498 (by decide +kernel) (by decide +kernel)
theorem mw_499 : Cond.methodLink RX2 69 yX2_endsAt ∈ lw_tg := tgm 499 (by decide +kernel) (by decide +kernel)
theorem mw_501 : Cond.instanceMethod yX2_endsAt ∈ lw_tg := tgm 501 (by decide +kernel) (by decide +kernel)
theorem mw_502 : Cond.code yX2_endsAt cX2_endsAt 10 (some .long) ∈ lw_tg := tgm 502 (by decide +kernel) (by decide +kernel)
theorem mw_503 : Cond.methodLink RX2 129 yX2_atLeast ∈ lw_tg := tgm 503 (by decide +kernel) (by decide +kernel)
theorem mw_504 : Cond.static yX2_atLeast ∈ lw_tg := tgm 504 (by decide +kernel) (by decide +kernel)
theorem mw_505 : Cond.code yX2_atLeast cX2_atLeast 9 (some .long) ∈ lw_tg := tgm 505 (by decide +kernel) (by decide +kernel)
theorem mw_506 : Cond.methodLink RX2 116 yX2_picks ∈ lw_tg := tgm 506 (by decide +kernel) (by decide +kernel)
theorem mw_507 : Cond.static yX2_picks ∈ lw_tg := tgm 507 (by decide +kernel) (by decide +kernel)
theorem mw_508 : Cond.code yX2_picks cX2_picks 2 (some .long) ∈ lw_tg := tgm 508 (by decide +kernel) (by decide +kernel)
theorem mw_509 : Cond.fieldLink RX2 133 "ReadAge$Odds" "PICKS" "[J" ∈ lw_tg := tgm 509 (by decide +kernel) (by decide +kernel)
theorem mw_511 : Cond.methodLink RX2 73 yX0_power ∈ lw_tg := tgm 511 (by decide +kernel) (by decide +kernel)
theorem mw_512 : Cond.static yX0_power ∈ lw_tg := tgm 512 (by decide +kernel) (by decide +kernel)
theorem mw_513 : Cond.code yX0_power cX0_power 6 (some .long) ∈ lw_tg := tgm 513 (by decide +kernel) (by decide +kernel)
theorem mw_514 : Cond.methodLink RX2 77 yX0_tellFraction ∈ lw_tg := tgm 514 (by decide +kernel) (by decide +kernel)
theorem mw_515 : Cond.instanceMethod yX0_tellFraction ∈ lw_tg := tgm 515 (by decide +kernel) (by decide +kernel)
theorem mw_516 : Cond.selects RX0 yX0_tellFraction yX0_tellFraction ∈ lw_tg := tgm 516 (by decide +kernel) (by decide +kernel)
theorem mw_517 : Cond.code yX0_tellFraction cX0_tellFraction 7 (some .int) ∈ lw_tg := tgm 517 (by decide +kernel) (by decide +kernel)
theorem mw_518 : Cond.methodLink RX0 56 yX0_commonDivisor ∈ lw_tg := tgm 518 (by decide +kernel) (by decide +kernel)
theorem mw_519 : Cond.static yX0_commonDivisor ∈ lw_tg := tgm 519 (by decide +kernel) (by decide +kernel)
theorem mw_520 : Cond.code yX0_commonDivisor cX0_commonDivisor 11 (some .long) ∈ lw_tg := tgm 520 (by decide +kernel) (by decide +kernel)
theorem mw_525 : Cond.methodLink RX8 126 yX8_fitsRead ∈ lw_tg := tgm 525 (by decide +kernel) (by decide +kernel)
theorem mw_526 : Cond.static yX8_fitsRead ∈ lw_tg := tgm 526 (by decide +kernel) (by decide +kernel)
theorem mw_527 : Cond.code yX8_fitsRead cX8_fitsRead 3 (some .boolean) ∈ lw_tg := tgm 527 (by decide +kernel) (by decide +kernel)
theorem mw_528 : Cond.methodLink RX8 130 yX0_greatness ∈ lw_tg := tgm 528 (by decide +kernel) (by decide +kernel)
theorem mw_529 : Cond.instanceMethod yX0_greatness ∈ lw_tg := tgm 529 (by decide +kernel) (by decide +kernel)
theorem mw_530 : Cond.selects RX0 yX0_greatness yX0_greatness ∈ lw_tg := tgm 530 (by decide +kernel) (by decide +kernel)
theorem mw_531 : Cond.code yX0_greatness cX0_greatness 8 (some .int) ∈ lw_tg := tgm 531 (by decide +kernel) (by decide +kernel)
theorem mw_532 : Cond.methodLink RX0 50 yX0_ofCopy ∈ lw_tg := tgm 532 (by decide +kernel) (by decide +kernel)
theorem mw_533 : Cond.instanceMethod yX0_ofCopy ∈ lw_tg := tgm 533 (by decide +kernel) (by decide +kernel)
theorem mw_534 : Cond.selects RX0 yX0_ofCopy yX0_ofCopy ∈ lw_tg := tgm 534 (by decide +kernel) (by decide +kernel)
theorem mw_535 : Cond.code yX0_ofCopy cX0_ofCopy 2 (some .long) ∈ lw_tg := tgm 535 (by decide +kernel) (by decide +kernel)
theorem mw_536 : Cond.methodLink RX0 46 yX0_power ∈ lw_tg := tgm 536 (by decide +kernel) (by decide +kernel)
theorem mw_537 : Cond.constantLong RX0 54 (4611686018427387903 : Int64) ∈ lw_tg := tgm 537 (by decide +kernel) (by decide +kernel)
theorem mw_538 : Cond.methodLink RX8 133 yX2_ask ∈ lw_tg := tgm 538 (by decide +kernel) (by decide +kernel)
theorem mw_539 : Cond.instanceMethod yX2_ask ∈ lw_tg := tgm 539 (by decide +kernel) (by decide +kernel)
theorem mw_540 : Cond.selects RX2 yX2_ask yX2_ask ∈ lw_tg := tgm 540 (by decide +kernel) (by decide +kernel)
theorem mw_541 : Cond.code yX2_ask cX2_ask 3 none ∈ lw_tg := tgm 541 (by decide +kernel) (by decide +kernel)
theorem mw_542 : Cond.methodLink RX8 137 yX2_tellAge ∈ lw_tg := tgm 542 (by decide +kernel) (by decide +kernel)
theorem mw_543 : Cond.instanceMethod yX2_tellAge ∈ lw_tg := tgm 543 (by decide +kernel) (by decide +kernel)
theorem mw_544 : Cond.selects RX2 yX2_tellAge yX2_tellAge ∈ lw_tg := tgm 544 (by decide +kernel) (by decide +kernel)
theorem mw_545 : Cond.code yX2_tellAge cX2_tellAge 3 (some .int) ∈ lw_tg := tgm 545 (by decide +kernel) (by decide +kernel)
theorem mw_546 : Cond.methodLink RX2 81 yX2_waysAbove ∈ lw_tg := tgm 546 (by decide +kernel) (by decide +kernel)
theorem mw_547 : Cond.instanceMethod yX2_waysAbove ∈ lw_tg := tgm 547 (by decide +kernel) (by decide +kernel)
theorem mw_548 : Cond.selects RX2 yX2_waysAbove yX2_waysAbove ∈ lw_tg := tgm 548 (by decide +kernel) (by decide +kernel)
theorem mw_549 : Cond.code yX2_waysAbove cX2_waysAbove 11 (some .long) ∈ lw_tg := tgm 549 (by decide +kernel) (by decide +kernel)
theorem mw_550 : Cond.methodLink RX2 119 yX2_prepare ∈ lw_tg := tgm 550 (by decide +kernel) (by decide +kernel)
theorem mw_552 : Cond.instanceMethod yX2_prepare ∈ lw_tg := tgm 552 (by decide +kernel) (by decide +kernel)
theorem mw_553 : Cond.code yX2_prepare cX2_prepare 4 none ∈ lw_tg := tgm 553 (by decide +kernel) (by decide +kernel)
theorem mw_554 : Cond.methodLink RX2 91 yX0_above ∈ lw_tg := tgm 554 (by decide +kernel) (by decide +kernel)
theorem mw_555 : Cond.instanceMethod yX0_above ∈ lw_tg := tgm 555 (by decide +kernel) (by decide +kernel)
theorem mw_556 : Cond.selects RX0 yX0_above yX0_above ∈ lw_tg := tgm 556 (by decide +kernel) (by decide +kernel)
theorem mw_557 : Cond.code yX0_above cX0_above 5 (some .long) ∈ lw_tg := tgm 557 (by decide +kernel) (by decide +kernel)
theorem mw_558 : Cond.methodLink RX2 94 yX2_prepareEnd ∈ lw_tg := tgm 558 (by decide +kernel) (by decide +kernel)
theorem mw_560 : Cond.instanceMethod yX2_prepareEnd ∈ lw_tg := tgm 560 (by decide +kernel) (by decide +kernel)
theorem mw_561 : Cond.code yX2_prepareEnd cX2_prepareEnd 11 none ∈ lw_tg := tgm 561 (by decide +kernel) (by decide +kernel)
theorem mw_562 : Cond.methodLink RX2 98 yX2_place ∈ lw_tg := tgm 562 (by decide +kernel) (by decide +kernel)
theorem mw_563 : Cond.static yX2_place ∈ lw_tg := tgm 563 (by decide +kernel) (by decide +kernel)
theorem mw_564 : Cond.code yX2_place cX2_place 2 (some .int) ∈ lw_tg := tgm 564 (by decide +kernel) (by decide +kernel)
theorem mw_565 : Cond.methodLink RX2 102 yX2_staleAnswers ∈ lw_tg := tgm 565 (by decide +kernel) (by decide +kernel)
theorem mw_567 : Cond.instanceMethod yX2_staleAnswers ∈ lw_tg := tgm 567 (by decide +kernel) (by decide +kernel)
theorem mw_568 : Cond.code yX2_staleAnswers cX2_staleAnswers 6 (some .long) ∈ lw_tg := tgm 568 (by decide +kernel) (by decide +kernel)
theorem mw_569 : Cond.methodLink RX2 113 yX0_weight ∈ lw_tg := tgm 569 (by decide +kernel) (by decide +kernel)
theorem mw_570 : Cond.methodLink RX2 106 yX2_fillPowers ∈ lw_tg := tgm 570 (by decide +kernel) (by decide +kernel)
theorem mw_571 : Cond.static yX2_fillPowers ∈ lw_tg := tgm 571 (by decide +kernel) (by decide +kernel)
theorem mw_572 : Cond.code yX2_fillPowers cX2_fillPowers 6 none ∈ lw_tg := tgm 572 (by decide +kernel) (by decide +kernel)
theorem mw_573 : Cond.methodLink RX2 110 yX2_staleReads ∈ lw_tg := tgm 573 (by decide +kernel) (by decide +kernel)
theorem mw_575 : Cond.instanceMethod yX2_staleReads ∈ lw_tg := tgm 575 (by decide +kernel) (by decide +kernel)
theorem mw_576 : Cond.code yX2_staleReads cX2_staleReads 9 (some .long) ∈ lw_tg := tgm 576 (by decide +kernel) (by decide +kernel)
theorem mw_577 : Cond.methodLink RX2 85 yX0_ofCopy ∈ lw_tg := tgm 577 (by decide +kernel) (by decide +kernel)
theorem mw_582 : Cond.constantLong RX8 141 (1000000 : Int64) ∈ lw_tg := tgm 582 (by decide +kernel) (by decide +kernel)
theorem mw_583 : Cond.constantLong RX8 143 (1000 : Int64) ∈ lw_tg := tgm 583 (by decide +kernel) (by decide +kernel)
theorem mw_584 : Cond.methodLink RX8 145 yX2_cheapest ∈ lw_tg := tgm 584 (by decide +kernel) (by decide +kernel)
theorem mw_585 : Cond.instanceMethod yX2_cheapest ∈ lw_tg := tgm 585 (by decide +kernel) (by decide +kernel)
theorem mw_586 : Cond.selects RX2 yX2_cheapest yX2_cheapest ∈ lw_tg := tgm 586 (by decide +kernel) (by decide +kernel)
theorem mw_587 : Cond.code yX2_cheapest cX2_cheapest 15 (some .int) ∈ lw_tg := tgm 587 (by decide +kernel) (by decide +kernel)
theorem mw_588 : Cond.methodLink RX2 123 yX2_isAtMost ∈ lw_tg := tgm 588 (by decide +kernel) (by decide +kernel)
theorem mw_589 : Cond.static yX2_isAtMost ∈ lw_tg := tgm 589 (by decide +kernel) (by decide +kernel)
theorem mw_590 : Cond.code yX2_isAtMost cX2_isAtMost 18 (some .boolean) ∈ lw_tg := tgm 590 (by decide +kernel) (by decide +kernel)
theorem mw_591 : Cond.constantLong RX2 127 (2147483647 : Int64) ∈ lw_tg := tgm 591 (by decide +kernel) (by decide +kernel)
theorem mw_596 : Cond.methodLink RX8 149 yX5_renew ∈ lw_tg := tgm 596 (by decide +kernel) (by decide +kernel)
theorem mw_597 : Cond.instanceMethod yX5_renew ∈ lw_tg := tgm 597 (by decide +kernel) (by decide +kernel)
theorem mw_598 : Cond.selects RX5 yX5_renew yX5_renew ∈ lw_tg := tgm 598 (by decide +kernel) (by decide +kernel)
theorem mw_599 : Cond.code yX5_renew cX5_renew 5 none ∈ lw_tg := tgm 599 (by decide +kernel) (by decide +kernel)
theorem mw_600 : Cond.methodLink RX5 67 yX1_renew ∈ lw_tg := tgm 600 (by decide +kernel) (by decide +kernel)
theorem mw_601 : Cond.instanceMethod yX1_renew ∈ lw_tg := tgm 601 (by decide +kernel) (by decide +kernel)
theorem mw_602 : Cond.selects RX1 yX1_renew yX1_renew ∈ lw_tg := tgm 602 (by decide +kernel) (by decide +kernel)
theorem mw_603 : Cond.code yX1_renew cX1_renew 3 none ∈ lw_tg := tgm 603 (by decide +kernel) (by decide +kernel)
theorem mw_604 : Cond.methodLink RX1 29 Lib.Math.min.name ∈ lw_tg := tgm 604 (by decide +kernel) (by decide +kernel)
theorem mw_605 : Cond.methodLink RX1 35 yX1_forget ∈ lw_tg := tgm 605 (by decide +kernel) (by decide +kernel)
theorem mw_607 : Cond.instanceMethod yX1_forget ∈ lw_tg := tgm 607 (by decide +kernel) (by decide +kernel)
theorem mw_608 : Cond.code yX1_forget cX1_forget 3 none ∈ lw_tg := tgm 608 (by decide +kernel) (by decide +kernel)
theorem mw_609 : Cond.methodLink RX5 71 yX3_renew ∈ lw_tg := tgm 609 (by decide +kernel) (by decide +kernel)
theorem mw_610 : Cond.instanceMethod yX3_renew ∈ lw_tg := tgm 610 (by decide +kernel) (by decide +kernel)
theorem mw_611 : Cond.selects RX3 yX3_renew yX3_renew ∈ lw_tg := tgm 611 (by decide +kernel) (by decide +kernel)
theorem mw_612 : Cond.code yX3_renew cX3_renew 1 none ∈ lw_tg := tgm 612 (by decide +kernel) (by decide +kernel)
theorem mw_617 : Cond.methodLink RX8 152 yX8_runLack ∈ lw_tg := tgm 617 (by decide +kernel) (by decide +kernel)
theorem mw_619 : Cond.instanceMethod yX8_runLack ∈ lw_tg := tgm 619 (by decide +kernel) (by decide +kernel)
theorem mw_620 : Cond.code yX8_runLack cX8_runLack 2 (some .int) ∈ lw_tg := tgm 620 (by decide +kernel) (by decide +kernel)
theorem mw_629 : Cond.methodLink RX8 172 yX8_actLack ∈ lw_tg := tgm 629 (by decide +kernel) (by decide +kernel)
theorem mw_631 : Cond.instanceMethod yX8_actLack ∈ lw_tg := tgm 631 (by decide +kernel) (by decide +kernel)
theorem mw_632 : Cond.code yX8_actLack cX8_actLack 7 (some .int) ∈ lw_tg := tgm 632 (by decide +kernel) (by decide +kernel)
theorem mw_633 : Cond.methodLink RX8 176 yX7_add ∈ lw_tg := tgm 633 (by decide +kernel) (by decide +kernel)
theorem mw_634 : Cond.instanceMethod yX7_add ∈ lw_tg := tgm 634 (by decide +kernel) (by decide +kernel)
theorem mw_635 : Cond.selects RX7 yX7_add yX7_add ∈ lw_tg := tgm 635 (by decide +kernel) (by decide +kernel)
theorem mw_636 : Cond.code yX7_add cX7_add 1 (some .int) ∈ lw_tg := tgm 636 (by decide +kernel) (by decide +kernel)
theorem mw_637 : Cond.methodLink RX8 181 yX5_sendAll ∈ lw_tg := tgm 637 (by decide +kernel) (by decide +kernel)
theorem mw_638 : Cond.instanceMethod yX5_sendAll ∈ lw_tg := tgm 638 (by decide +kernel) (by decide +kernel)
theorem mw_639 : Cond.selects RX5 yX5_sendAll yX5_sendAll ∈ lw_tg := tgm 639 (by decide +kernel) (by decide +kernel)
theorem mw_640 : Cond.code yX5_sendAll cX5_sendAll 8 none ∈ lw_tg := tgm 640 (by decide +kernel) (by decide +kernel)
theorem mw_641 : Cond.methodLink RX5 78 yX6_at ∈ lw_tg := tgm 641 (by decide +kernel) (by decide +kernel)
theorem mw_642 : Cond.methodLink RX5 84 yX3_send ∈ lw_tg := tgm 642 (by decide +kernel) (by decide +kernel)
theorem mw_643 : Cond.instanceMethod yX3_send ∈ lw_tg := tgm 643 (by decide +kernel) (by decide +kernel)
theorem mw_644 : Cond.selects RX3 yX3_send yX3_send ∈ lw_tg := tgm 644 (by decide +kernel) (by decide +kernel)
theorem mw_645 : Cond.code yX3_send cX3_send 7 none ∈ lw_tg := tgm 645 (by decide +kernel) (by decide +kernel)
theorem mw_646 : Cond.methodLink RX3 40 yX3_link ∈ lw_tg := tgm 646 (by decide +kernel) (by decide +kernel)
theorem mw_648 : Cond.instanceMethod yX3_link ∈ lw_tg := tgm 648 (by decide +kernel) (by decide +kernel)
theorem mw_649 : Cond.code yX3_link cX3_link 5 none ∈ lw_tg := tgm 649 (by decide +kernel) (by decide +kernel)
theorem mw_650 : Cond.methodLink RX3 44 yX3_isLetter ∈ lw_tg := tgm 650 (by decide +kernel) (by decide +kernel)
theorem mw_651 : Cond.static yX3_isLetter ∈ lw_tg := tgm 651 (by decide +kernel) (by decide +kernel)
theorem mw_652 : Cond.code yX3_isLetter cX3_isLetter 1 (some .boolean) ∈ lw_tg := tgm 652 (by decide +kernel) (by decide +kernel)
theorem mw_653 : Cond.methodLink RX8 188 yX5_workOff ∈ lw_tg := tgm 653 (by decide +kernel) (by decide +kernel)
theorem mw_654 : Cond.instanceMethod yX5_workOff ∈ lw_tg := tgm 654 (by decide +kernel) (by decide +kernel)
theorem mw_655 : Cond.selects RX5 yX5_workOff yX5_workOff ∈ lw_tg := tgm 655 (by decide +kernel) (by decide +kernel)
theorem mw_656 : Cond.code yX5_workOff cX5_workOff 4 none ∈ lw_tg := tgm 656 (by decide +kernel) (by decide +kernel)
theorem mw_657 : Cond.methodLink RX5 88 yX3_takeDue ∈ lw_tg := tgm 657 (by decide +kernel) (by decide +kernel)
theorem mw_658 : Cond.instanceMethod yX3_takeDue ∈ lw_tg := tgm 658 (by decide +kernel) (by decide +kernel)
theorem mw_659 : Cond.selects RX3 yX3_takeDue yX3_takeDue ∈ lw_tg := tgm 659 (by decide +kernel) (by decide +kernel)
theorem mw_660 : Cond.code yX3_takeDue cX3_takeDue 3 (some .int) ∈ lw_tg := tgm 660 (by decide +kernel) (by decide +kernel)
theorem mw_661 : Cond.methodLink RX5 92 yX3_tickOf ∈ lw_tg := tgm 661 (by decide +kernel) (by decide +kernel)
theorem mw_662 : Cond.instanceMethod yX3_tickOf ∈ lw_tg := tgm 662 (by decide +kernel) (by decide +kernel)
theorem mw_663 : Cond.selects RX3 yX3_tickOf yX3_tickOf ∈ lw_tg := tgm 663 (by decide +kernel) (by decide +kernel)
theorem mw_664 : Cond.code yX3_tickOf cX3_tickOf 2 (some .int) ∈ lw_tg := tgm 664 (by decide +kernel) (by decide +kernel)
theorem mw_665 : Cond.methodLink RX5 95 yX5_come ∈ lw_tg := tgm 665 (by decide +kernel) (by decide +kernel)
theorem mw_667 : Cond.instanceMethod yX5_come ∈ lw_tg := tgm 667 (by decide +kernel) (by decide +kernel)
theorem mw_668 : Cond.code yX5_come cX5_come 5 none ∈ lw_tg := tgm 668 (by decide +kernel) (by decide +kernel)
theorem mw_669 : Cond.methodLink RX5 106 yX1_has ∈ lw_tg := tgm 669 (by decide +kernel) (by decide +kernel)
theorem mw_670 : Cond.instanceMethod yX1_has ∈ lw_tg := tgm 670 (by decide +kernel) (by decide +kernel)
theorem mw_671 : Cond.selects RX1 yX1_has yX1_has ∈ lw_tg := tgm 671 (by decide +kernel) (by decide +kernel)
theorem mw_672 : Cond.code yX1_has cX1_has 2 (some .boolean) ∈ lw_tg := tgm 672 (by decide +kernel) (by decide +kernel)
theorem mw_673 : Cond.methodLink RX5 113 yX1_take ∈ lw_tg := tgm 673 (by decide +kernel) (by decide +kernel)
theorem mw_674 : Cond.instanceMethod yX1_take ∈ lw_tg := tgm 674 (by decide +kernel) (by decide +kernel)
theorem mw_675 : Cond.selects RX1 yX1_take yX1_take ∈ lw_tg := tgm 675 (by decide +kernel) (by decide +kernel)
theorem mw_676 : Cond.code yX1_take cX1_take 5 (some .boolean) ∈ lw_tg := tgm 676 (by decide +kernel) (by decide +kernel)
theorem mw_677 : Cond.methodLink RX1 39 Lib.Math.max.name ∈ lw_tg := tgm 677 (by decide +kernel) (by decide +kernel)
theorem mw_678 : Cond.static Lib.Math.max.name ∈ lw_tg := tgm 678 (by decide +kernel) (by decide +kernel)
theorem mw_679 : Cond.code Lib.Math.max.name Lib.Math.max.code 2 (some .int) ∈ lw_tg := tgm 679 (by decide +kernel) (by decide +kernel)
theorem mw_680 : Cond.methodLink RX1 42 yX1_leastUp ∈ lw_tg := tgm 680 (by decide +kernel) (by decide +kernel)
theorem mw_682 : Cond.instanceMethod yX1_leastUp ∈ lw_tg := tgm 682 (by decide +kernel) (by decide +kernel)
theorem mw_683 : Cond.code yX1_leastUp cX1_leastUp 2 (some .int) ∈ lw_tg := tgm 683 (by decide +kernel) (by decide +kernel)
theorem mw_684 : Cond.methodLink RX5 117 yX7_hear ∈ lw_tg := tgm 684 (by decide +kernel) (by decide +kernel)
theorem mw_685 : Cond.instanceMethod yX7_hear ∈ lw_tg := tgm 685 (by decide +kernel) (by decide +kernel)
theorem mw_686 : Cond.selects RX7 yX7_hear yX7_hear ∈ lw_tg := tgm 686 (by decide +kernel) (by decide +kernel)
theorem mw_687 : Cond.code yX7_hear cX7_hear 5 none ∈ lw_tg := tgm 687 (by decide +kernel) (by decide +kernel)
theorem mw_688 : Cond.methodLink RX7 22 yX7_has ∈ lw_tg := tgm 688 (by decide +kernel) (by decide +kernel)
theorem mw_690 : Cond.instanceMethod yX7_has ∈ lw_tg := tgm 690 (by decide +kernel) (by decide +kernel)
theorem mw_691 : Cond.code yX7_has cX7_has 2 (some .boolean) ∈ lw_tg := tgm 691 (by decide +kernel) (by decide +kernel)
theorem mw_692 : Cond.methodLink RX5 127 yX4_hear ∈ lw_tg := tgm 692 (by decide +kernel) (by decide +kernel)
theorem mw_693 : Cond.instanceMethod yX4_hear ∈ lw_tg := tgm 693 (by decide +kernel) (by decide +kernel)
theorem mw_694 : Cond.selects RX4 yX4_hear yX4_hear ∈ lw_tg := tgm 694 (by decide +kernel) (by decide +kernel)
theorem mw_695 : Cond.code yX4_hear cX4_hear 5 (some .boolean) ∈ lw_tg := tgm 695 (by decide +kernel) (by decide +kernel)
theorem mw_696 : Cond.methodLink RX4 40 yX4_has ∈ lw_tg := tgm 696 (by decide +kernel) (by decide +kernel)
theorem mw_698 : Cond.instanceMethod yX4_has ∈ lw_tg := tgm 698 (by decide +kernel) (by decide +kernel)
theorem mw_699 : Cond.code yX4_has cX4_has 2 (some .boolean) ∈ lw_tg := tgm 699 (by decide +kernel) (by decide +kernel)
theorem mw_700 : Cond.methodLink RX4 44 Lib.Math.max.name ∈ lw_tg := tgm 700 (by decide +kernel) (by decide +kernel)
theorem mw_701 : Cond.methodLink RX5 130 yX5_finish ∈ lw_tg := tgm 701 (by decide +kernel) (by decide +kernel)
theorem mw_703 : Cond.instanceMethod yX5_finish ∈ lw_tg := tgm 703 (by decide +kernel) (by decide +kernel)
theorem mw_704 : Cond.code yX5_finish cX5_finish 4 none ∈ lw_tg := tgm 704 (by decide +kernel) (by decide +kernel)
theorem mw_705 : Cond.methodLink RX5 151 yX7_doneBefore ∈ lw_tg := tgm 705 (by decide +kernel) (by decide +kernel)
theorem mw_706 : Cond.instanceMethod yX7_doneBefore ∈ lw_tg := tgm 706 (by decide +kernel) (by decide +kernel)
theorem mw_707 : Cond.selects RX7 yX7_doneBefore yX7_doneBefore ∈ lw_tg := tgm 707 (by decide +kernel) (by decide +kernel)
theorem mw_708 : Cond.code yX7_doneBefore cX7_doneBefore 5 (some .int) ∈ lw_tg := tgm 708 (by decide +kernel) (by decide +kernel)
theorem mw_709 : Cond.methodLink RX7 26 yX7_isDone ∈ lw_tg := tgm 709 (by decide +kernel) (by decide +kernel)
theorem mw_710 : Cond.instanceMethod yX7_isDone ∈ lw_tg := tgm 710 (by decide +kernel) (by decide +kernel)
theorem mw_711 : Cond.selects RX7 yX7_isDone yX7_isDone ∈ lw_tg := tgm 711 (by decide +kernel) (by decide +kernel)
theorem mw_712 : Cond.code yX7_isDone cX7_isDone 2 (some .boolean) ∈ lw_tg := tgm 712 (by decide +kernel) (by decide +kernel)
theorem mw_713 : Cond.methodLink RX5 155 Lib.Math.max.name ∈ lw_tg := tgm 713 (by decide +kernel) (by decide +kernel)
theorem mw_714 : Cond.methodLink RX5 133 yX5_mend ∈ lw_tg := tgm 714 (by decide +kernel) (by decide +kernel)
theorem mw_716 : Cond.instanceMethod yX5_mend ∈ lw_tg := tgm 716 (by decide +kernel) (by decide +kernel)
theorem mw_717 : Cond.code yX5_mend cX5_mend 3 none ∈ lw_tg := tgm 717 (by decide +kernel) (by decide +kernel)
theorem mw_718 : Cond.methodLink RX5 163 yX4_answeredLesser ∈ lw_tg := tgm 718 (by decide +kernel) (by decide +kernel)
theorem mw_719 : Cond.instanceMethod yX4_answeredLesser ∈ lw_tg := tgm 719 (by decide +kernel) (by decide +kernel)
theorem mw_720 : Cond.selects RX4 yX4_answeredLesser yX4_answeredLesser ∈ lw_tg := tgm 720 (by decide +kernel) (by decide +kernel)
theorem mw_721 : Cond.code yX4_answeredLesser cX4_answeredLesser 4 (some .boolean) ∈ lw_tg := tgm 721 (by decide +kernel) (by decide +kernel)
theorem mw_726 : Cond.methodLink RX8 198 yX4_add ∈ lw_tg := tgm 726 (by decide +kernel) (by decide +kernel)
theorem mw_727 : Cond.instanceMethod yX4_add ∈ lw_tg := tgm 727 (by decide +kernel) (by decide +kernel)
theorem mw_728 : Cond.selects RX4 yX4_add yX4_add ∈ lw_tg := tgm 728 (by decide +kernel) (by decide +kernel)
theorem mw_729 : Cond.code yX4_add cX4_add 5 (some .int) ∈ lw_tg := tgm 729 (by decide +kernel) (by decide +kernel)
theorem mw_734 : Cond.constantLong RX8 200 (10000 : Int64) ∈ lw_tg := tgm 734 (by decide +kernel) (by decide +kernel)
theorem mw_739 : Cond.methodLink RX8 202 yX8_copyLack ∈ lw_tg := tgm 739 (by decide +kernel) (by decide +kernel)
theorem mw_741 : Cond.instanceMethod yX8_copyLack ∈ lw_tg := tgm 741 (by decide +kernel) (by decide +kernel)
theorem mw_742 : Cond.code yX8_copyLack cX8_copyLack 4 (some .int) ∈ lw_tg := tgm 742 (by decide +kernel) (by decide +kernel)
theorem mw_743 : Cond.methodLink RX8 223 yX8_isCopy ∈ lw_tg := tgm 743 (by decide +kernel) (by decide +kernel)
theorem mw_745 : Cond.instanceMethod yX8_isCopy ∈ lw_tg := tgm 745 (by decide +kernel) (by decide +kernel)
theorem mw_746 : Cond.code yX8_isCopy cX8_isCopy 2 (some .boolean) ∈ lw_tg := tgm 746 (by decide +kernel) (by decide +kernel)
theorem mw_747 : Cond.methodLink RX8 279 yX1_has ∈ lw_tg := tgm 747 (by decide +kernel) (by decide +kernel)
theorem mw_748 : Cond.constantLong RX8 282 (4 : Int64) ∈ lw_tg := tgm 748 (by decide +kernel) (by decide +kernel)
theorem mw_749 : Cond.methodLink RX8 210 yX1_fall ∈ lw_tg := tgm 749 (by decide +kernel) (by decide +kernel)
theorem mw_750 : Cond.instanceMethod yX1_fall ∈ lw_tg := tgm 750 (by decide +kernel) (by decide +kernel)
theorem mw_751 : Cond.selects RX1 yX1_fall yX1_fall ∈ lw_tg := tgm 751 (by decide +kernel) (by decide +kernel)
theorem mw_752 : Cond.code yX1_fall cX1_fall 3 none ∈ lw_tg := tgm 752 (by decide +kernel) (by decide +kernel)
theorem mw_753 : Cond.methodLink RX1 46 yX1_keptBy ∈ lw_tg := tgm 753 (by decide +kernel) (by decide +kernel)
theorem mw_754 : Cond.instanceMethod yX1_keptBy ∈ lw_tg := tgm 754 (by decide +kernel) (by decide +kernel)
theorem mw_755 : Cond.selects RX1 yX1_keptBy yX1_keptBy ∈ lw_tg := tgm 755 (by decide +kernel) (by decide +kernel)
theorem mw_756 : Cond.code yX1_keptBy cX1_keptBy 4 (some .int) ∈ lw_tg := tgm 756 (by decide +kernel) (by decide +kernel)
theorem mw_761 : Cond.methodLink RX8 216 yX1_rise ∈ lw_tg := tgm 761 (by decide +kernel) (by decide +kernel)
theorem mw_762 : Cond.instanceMethod yX1_rise ∈ lw_tg := tgm 762 (by decide +kernel) (by decide +kernel)
theorem mw_763 : Cond.selects RX1 yX1_rise yX1_rise ∈ lw_tg := tgm 763 (by decide +kernel) (by decide +kernel)
theorem mw_764 : Cond.code yX1_rise cX1_rise 4 (some .int) ∈ lw_tg := tgm 764 (by decide +kernel) (by decide +kernel)
theorem mw_765 : Cond.methodLink RX1 50 yX1_give ∈ lw_tg := tgm 765 (by decide +kernel) (by decide +kernel)
theorem mw_767 : Cond.instanceMethod yX1_give ∈ lw_tg := tgm 767 (by decide +kernel) (by decide +kernel)
theorem mw_768 : Cond.code yX1_give cX1_give 4 (some .int) ∈ lw_tg := tgm 768 (by decide +kernel) (by decide +kernel)
theorem mw_773 : Cond.methodLink RX8 220 yX1_level ∈ lw_tg := tgm 773 (by decide +kernel) (by decide +kernel)
theorem mw_774 : Cond.instanceMethod yX1_level ∈ lw_tg := tgm 774 (by decide +kernel) (by decide +kernel)
theorem mw_775 : Cond.selects RX1 yX1_level yX1_level ∈ lw_tg := tgm 775 (by decide +kernel) (by decide +kernel)
theorem mw_776 : Cond.code yX1_level cX1_level 4 (some .int) ∈ lw_tg := tgm 776 (by decide +kernel) (by decide +kernel)
theorem mw_781 : Cond.constantLong RX8 226 (2 : Int64) ∈ lw_tg := tgm 781 (by decide +kernel) (by decide +kernel)
theorem mw_782 : Cond.methodLink RX8 235 yX1_keptBy ∈ lw_tg := tgm 782 (by decide +kernel) (by decide +kernel)
theorem mw_787 : Cond.constantLong RX8 238 (40 : Int64) ∈ lw_tg := tgm 787 (by decide +kernel) (by decide +kernel)
theorem mw_788 : Cond.methodLink RX8 240 yX7_isDone ∈ lw_tg := tgm 788 (by decide +kernel) (by decide +kernel)
theorem mw_793 : Cond.constantLong RX8 246 (39 : Int64) ∈ lw_tg := tgm 793 (by decide +kernel) (by decide +kernel)
theorem mw_794 : Cond.methodLink RX8 248 yX4_isDone ∈ lw_tg := tgm 794 (by decide +kernel) (by decide +kernel)
theorem mw_795 : Cond.instanceMethod yX4_isDone ∈ lw_tg := tgm 795 (by decide +kernel) (by decide +kernel)
theorem mw_796 : Cond.selects RX4 yX4_isDone yX4_isDone ∈ lw_tg := tgm 796 (by decide +kernel) (by decide +kernel)
theorem mw_797 : Cond.code yX4_isDone cX4_isDone 2 (some .boolean) ∈ lw_tg := tgm 797 (by decide +kernel) (by decide +kernel)
theorem mw_802 : Cond.constantLong RX8 256 (6 : Int64) ∈ lw_tg := tgm 802 (by decide +kernel) (by decide +kernel)
theorem mw_819 : Cond.methodLink RX9 14 yX9_isSheet ∈ lw_tg := tgm 819 (by decide +kernel) (by decide +kernel)
theorem mw_820 : Cond.static yX9_isSheet ∈ lw_tg := tgm 820 (by decide +kernel) (by decide +kernel)
theorem mw_821 : Cond.code yX9_isSheet cX9_isSheet 1 (some .boolean) ∈ lw_tg := tgm 821 (by decide +kernel) (by decide +kernel)
theorem mw_822 : Cond.methodLink RX9 18 yX9_is ∈ lw_tg := tgm 822 (by decide +kernel) (by decide +kernel)
theorem mw_824 : Cond.instanceMethod yX9_is ∈ lw_tg := tgm 824 (by decide +kernel) (by decide +kernel)
theorem mw_826 : Cond.code yX9_is cX9_is 2 (some .boolean) ∈ lw_tg := tgm 826 (by decide +kernel) (by decide +kernel)
theorem mw_831 : Cond.methodLink RX9 32 yX9_wrong ∈ lw_tg := tgm 831 (by decide +kernel) (by decide +kernel)
theorem mw_833 : Cond.instanceMethod yX9_wrong ∈ lw_tg := tgm 833 (by decide +kernel) (by decide +kernel)
theorem mw_834 : Cond.code yX9_wrong cX9_wrong 3 (some .int) ∈ lw_tg := tgm 834 (by decide +kernel) (by decide +kernel)
theorem mw_835 : Cond.methodLink RX9 36 yX9_cut ∈ lw_tg := tgm 835 (by decide +kernel) (by decide +kernel)
theorem mw_836 : Cond.static yX9_cut ∈ lw_tg := tgm 836 (by decide +kernel) (by decide +kernel)
theorem mw_837 : Cond.code yX9_cut cX9_cut 3 (some .long) ∈ lw_tg := tgm 837 (by decide +kernel) (by decide +kernel)
theorem mw_842 : Cond.constantLong RX9 40 (-1 : Int64) ∈ lw_tg := tgm 842 (by decide +kernel) (by decide +kernel)
theorem mw_860 : Cond.fieldLink RX9 1 "ReadAgeModel" "status" "I" ∈ lw_tg := tgm 860 (by decide +kernel) (by decide +kernel)
theorem mw_861 : Cond.fieldLink RX9 7 "ReadAgeModel" "top" "J" ∈ lw_tg := tgm 861 (by decide +kernel) (by decide +kernel)
theorem mw_862 : Cond.fieldLink RX9 11 "ReadAgeModel" "bottom" "J" ∈ lw_tg := tgm 862 (by decide +kernel) (by decide +kernel)
theorem mw_863 : Cond.fieldLink RX9 21 "ReadAgeModel" "sort" "[I" ∈ lw_tg := tgm 863 (by decide +kernel) (by decide +kernel)
theorem mw_864 : Cond.fieldLink RX9 25 "ReadAgeModel" "many" "[I" ∈ lw_tg := tgm 864 (by decide +kernel) (by decide +kernel)
theorem mw_865 : Cond.fieldLink RX9 28 "ReadAgeModel" "sheets" "[J" ∈ lw_tg := tgm 865 (by decide +kernel) (by decide +kernel)
theorem mw_866 : Cond.fieldLink RX9 48 "ReadAgeModel" "n" "I" ∈ lw_tg := tgm 866 (by decide +kernel) (by decide +kernel)
theorem mw_867 : Cond.fieldLink RX9 51 "ReadAgeModel" "w" "I" ∈ lw_tg := tgm 867 (by decide +kernel) (by decide +kernel)
theorem mw_868 : Cond.fieldLink RX9 54 "ReadAgeModel" "r" "I" ∈ lw_tg := tgm 868 (by decide +kernel) (by decide +kernel)
theorem mw_869 : Cond.fieldLink RX9 57 "ReadAgeModel" "gap" "I" ∈ lw_tg := tgm 869 (by decide +kernel) (by decide +kernel)
theorem mw_870 : Cond.fieldLink RX9 60 "ReadAgeModel" "weight" "[I" ∈ lw_tg := tgm 870 (by decide +kernel) (by decide +kernel)
theorem mw_871 : Cond.fieldLink RX9 63 "ReadAgeModel" "sum" "[I" ∈ lw_tg := tgm 871 (by decide +kernel) (by decide +kernel)
theorem mw_872 : Cond.fieldLink RX9 66 "ReadAgeModel" "one" "[J" ∈ lw_tg := tgm 872 (by decide +kernel) (by decide +kernel)
theorem mw_873 : Cond.fieldLink RX9 69 "ReadAgeModel" "now" "[J" ∈ lw_tg := tgm 873 (by decide +kernel) (by decide +kernel)
theorem mw_874 : Cond.fieldLink RX9 72 "ReadAgeModel" "then" "[J" ∈ lw_tg := tgm 874 (by decide +kernel) (by decide +kernel)
theorem mw_875 : Cond.fieldLink RX9 75 "ReadAgeModel" "kind" "[J" ∈ lw_tg := tgm 875 (by decide +kernel) (by decide +kernel)
theorem mw_876 : Cond.fieldLink RX9 208 "ReadAgeModel" "isRun" "Z" ∈ lw_tg := tgm 876 (by decide +kernel) (by decide +kernel)
theorem mw_877 : Cond.fieldLink RX9 212 "ReadAgeModel" "mends" "Z" ∈ lw_tg := tgm 877 (by decide +kernel) (by decide +kernel)
theorem mw_878 : Cond.fieldLink RX9 215 "ReadAgeModel" "copies" "I" ∈ lw_tg := tgm 878 (by decide +kernel) (by decide +kernel)
theorem mw_879 : Cond.fieldLink RX9 218 "ReadAgeModel" "waits" "I" ∈ lw_tg := tgm 879 (by decide +kernel) (by decide +kernel)
theorem mw_880 : Cond.fieldLink RX9 221 "ReadAgeModel" "asks" "I" ∈ lw_tg := tgm 880 (by decide +kernel) (by decide +kernel)
theorem mw_881 : Cond.fieldLink RX9 224 "ReadAgeModel" "tick" "I" ∈ lw_tg := tgm 881 (by decide +kernel) (by decide +kernel)
theorem mw_882 : Cond.fieldLink RX9 227 "ReadAgeModel" "sent" "I" ∈ lw_tg := tgm 882 (by decide +kernel) (by decide +kernel)
theorem mw_883 : Cond.fieldLink RX9 230 "ReadAgeModel" "lost" "I" ∈ lw_tg := tgm 883 (by decide +kernel) (by decide +kernel)
theorem mw_884 : Cond.fieldLink RX9 233 "ReadAgeModel" "raises" "I" ∈ lw_tg := tgm 884 (by decide +kernel) (by decide +kernel)
theorem mw_885 : Cond.fieldLink RX9 236 "ReadAgeModel" "writings" "I" ∈ lw_tg := tgm 885 (by decide +kernel) (by decide +kernel)
theorem mw_886 : Cond.fieldLink RX9 239 "ReadAgeModel" "readings" "I" ∈ lw_tg := tgm 886 (by decide +kernel) (by decide +kernel)
theorem mw_887 : Cond.fieldLink RX9 78 "ReadAgeModel" "version" "[I" ∈ lw_tg := tgm 887 (by decide +kernel) (by decide +kernel)
theorem mw_888 : Cond.fieldLink RX9 81 "ReadAgeModel" "handed" "[I" ∈ lw_tg := tgm 888 (by decide +kernel) (by decide +kernel)
theorem mw_889 : Cond.fieldLink RX9 84 "ReadAgeModel" "isUp" "[Z" ∈ lw_tg := tgm 889 (by decide +kernel) (by decide +kernel)
theorem mw_890 : Cond.fieldLink RX9 88 "ReadAgeModel" "kept" "[Z" ∈ lw_tg := tgm 890 (by decide +kernel) (by decide +kernel)
theorem mw_891 : Cond.fieldLink RX9 91 "ReadAgeModel" "seen" "[I" ∈ lw_tg := tgm 891 (by decide +kernel) (by decide +kernel)
theorem mw_892 : Cond.fieldLink RX9 94 "ReadAgeModel" "when" "[I" ∈ lw_tg := tgm 892 (by decide +kernel) (by decide +kernel)
theorem mw_893 : Cond.fieldLink RX9 97 "ReadAgeModel" "order" "[I" ∈ lw_tg := tgm 893 (by decide +kernel) (by decide +kernel)
theorem mw_894 : Cond.fieldLink RX9 100 "ReadAgeModel" "what" "[I" ∈ lw_tg := tgm 894 (by decide +kernel) (by decide +kernel)
theorem mw_895 : Cond.fieldLink RX9 103 "ReadAgeModel" "act" "[I" ∈ lw_tg := tgm 895 (by decide +kernel) (by decide +kernel)
theorem mw_896 : Cond.fieldLink RX9 106 "ReadAgeModel" "who" "[I" ∈ lw_tg := tgm 896 (by decide +kernel) (by decide +kernel)
theorem mw_897 : Cond.fieldLink RX9 109 "ReadAgeModel" "carries" "[I" ∈ lw_tg := tgm 897 (by decide +kernel) (by decide +kernel)
theorem mw_898 : Cond.fieldLink RX9 112 "ReadAgeModel" "back" "[I" ∈ lw_tg := tgm 898 (by decide +kernel) (by decide +kernel)
theorem mw_899 : Cond.fieldLink RX9 242 "ReadAgeModel" "underWay" "I" ∈ lw_tg := tgm 899 (by decide +kernel) (by decide +kernel)
theorem mw_900 : Cond.fieldLink RX9 115 "ReadAgeModel" "words" "[I" ∈ lw_tg := tgm 900 (by decide +kernel) (by decide +kernel)
theorem mw_901 : Cond.fieldLink RX9 118 "ReadAgeModel" "written" "[I" ∈ lw_tg := tgm 901 (by decide +kernel) (by decide +kernel)
theorem mw_902 : Cond.fieldLink RX9 121 "ReadAgeModel" "began" "[I" ∈ lw_tg := tgm 902 (by decide +kernel) (by decide +kernel)
theorem mw_903 : Cond.fieldLink RX9 124 "ReadAgeModel" "reader" "[I" ∈ lw_tg := tgm 903 (by decide +kernel) (by decide +kernel)
theorem mw_904 : Cond.fieldLink RX9 127 "ReadAgeModel" "answers" "[I" ∈ lw_tg := tgm 904 (by decide +kernel) (by decide +kernel)
theorem mw_905 : Cond.fieldLink RX9 130 "ReadAgeModel" "ended" "[I" ∈ lw_tg := tgm 905 (by decide +kernel) (by decide +kernel)
theorem mw_906 : Cond.fieldLink RX9 133 "ReadAgeModel" "told" "[I" ∈ lw_tg := tgm 906 (by decide +kernel) (by decide +kernel)
theorem mw_907 : Cond.fieldLink RX9 136 "ReadAgeModel" "greatest" "[I" ∈ lw_tg := tgm 907 (by decide +kernel) (by decide +kernel)
theorem mw_908 : Cond.fieldLink RX9 139 "ReadAgeModel" "answered" "[I" ∈ lw_tg := tgm 908 (by decide +kernel) (by decide +kernel)
theorem mw_909 : Cond.fieldLink RX9 142 "ReadAgeModel" "answeredBy" "[I" ∈ lw_tg := tgm 909 (by decide +kernel) (by decide +kernel)
theorem mw_1023 : Cond.constantLong RX9 145 (8 : Int64) ∈ lw_tg := tgm 1023 (by decide +kernel) (by decide +kernel)
theorem mw_1028 : Cond.methodLink RX9 154 yX9_refuse ∈ lw_tg := tgm 1028 (by decide +kernel) (by decide +kernel)
theorem mw_1030 : Cond.instanceMethod yX9_refuse ∈ lw_tg := tgm 1030 (by decide +kernel) (by decide +kernel)
theorem mw_1031 : Cond.code yX9_refuse cX9_refuse 2 (some .int) ∈ lw_tg := tgm 1031 (by decide +kernel) (by decide +kernel)
theorem mw_1032 : Cond.methodLink RX9 158 yX9_both ∈ lw_tg := tgm 1032 (by decide +kernel) (by decide +kernel)
theorem mw_1034 : Cond.instanceMethod yX9_both ∈ lw_tg := tgm 1034 (by decide +kernel) (by decide +kernel)
theorem mw_1035 : Cond.code yX9_both cX9_both 6 (some .int) ∈ lw_tg := tgm 1035 (by decide +kernel) (by decide +kernel)
theorem mw_1036 : Cond.methodLink RX9 162 yX9_nth ∈ lw_tg := tgm 1036 (by decide +kernel) (by decide +kernel)
theorem mw_1037 : Cond.static yX9_nth ∈ lw_tg := tgm 1037 (by decide +kernel) (by decide +kernel)
theorem mw_1038 : Cond.code yX9_nth cX9_nth 12 (some .long) ∈ lw_tg := tgm 1038 (by decide +kernel) (by decide +kernel)
theorem mw_1039 : Cond.methodLink RX9 147 yX9_pick ∈ lw_tg := tgm 1039 (by decide +kernel) (by decide +kernel)
theorem mw_1040 : Cond.static yX9_pick ∈ lw_tg := tgm 1040 (by decide +kernel) (by decide +kernel)
theorem mw_1041 : Cond.code yX9_pick cX9_pick 5 (some .long) ∈ lw_tg := tgm 1041 (by decide +kernel) (by decide +kernel)
theorem mw_1042 : Cond.methodLink RX9 151 yX9_power ∈ lw_tg := tgm 1042 (by decide +kernel) (by decide +kernel)
theorem mw_1043 : Cond.static yX9_power ∈ lw_tg := tgm 1043 (by decide +kernel) (by decide +kernel)
theorem mw_1044 : Cond.code yX9_power cX9_power 6 (some .long) ∈ lw_tg := tgm 1044 (by decide +kernel) (by decide +kernel)
theorem mw_1045 : Cond.methodLink RX9 166 yX9_tells ∈ lw_tg := tgm 1045 (by decide +kernel) (by decide +kernel)
theorem mw_1047 : Cond.instanceMethod yX9_tells ∈ lw_tg := tgm 1047 (by decide +kernel) (by decide +kernel)
theorem mw_1048 : Cond.code yX9_tells cX9_tells 11 (some .int) ∈ lw_tg := tgm 1048 (by decide +kernel) (by decide +kernel)
theorem mw_1053 : Cond.methodLink RX9 192 yX9_isAsked ∈ lw_tg := tgm 1053 (by decide +kernel) (by decide +kernel)
theorem mw_1054 : Cond.static yX9_isAsked ∈ lw_tg := tgm 1054 (by decide +kernel) (by decide +kernel)
theorem mw_1055 : Cond.code yX9_isAsked cX9_isAsked 3 (some .boolean) ∈ lw_tg := tgm 1055 (by decide +kernel) (by decide +kernel)
theorem mw_1056 : Cond.methodLink RX9 196 yX9_allWays ∈ lw_tg := tgm 1056 (by decide +kernel) (by decide +kernel)
theorem mw_1058 : Cond.instanceMethod yX9_allWays ∈ lw_tg := tgm 1058 (by decide +kernel) (by decide +kernel)
theorem mw_1059 : Cond.code yX9_allWays cX9_allWays 8 (some .long) ∈ lw_tg := tgm 1059 (by decide +kernel) (by decide +kernel)
theorem mw_1060 : Cond.constantLong RX9 170 (4611686018427387903 : Int64) ∈ lw_tg := tgm 1060 (by decide +kernel) (by decide +kernel)
theorem mw_1061 : Cond.methodLink RX9 199 yX9_oldWays ∈ lw_tg := tgm 1061 (by decide +kernel) (by decide +kernel)
theorem mw_1063 : Cond.instanceMethod yX9_oldWays ∈ lw_tg := tgm 1063 (by decide +kernel) (by decide +kernel)
theorem mw_1064 : Cond.code yX9_oldWays cX9_oldWays 14 (some .long) ∈ lw_tg := tgm 1064 (by decide +kernel) (by decide +kernel)
theorem mw_1065 : Cond.methodLink RX9 184 yX9_look ∈ lw_tg := tgm 1065 (by decide +kernel) (by decide +kernel)
theorem mw_1067 : Cond.instanceMethod yX9_look ∈ lw_tg := tgm 1067 (by decide +kernel) (by decide +kernel)
theorem mw_1068 : Cond.code yX9_look cX9_look 19 none ∈ lw_tg := tgm 1068 (by decide +kernel) (by decide +kernel)
theorem mw_1069 : Cond.methodLink RX9 172 yX9_above ∈ lw_tg := tgm 1069 (by decide +kernel) (by decide +kernel)
theorem mw_1071 : Cond.instanceMethod yX9_above ∈ lw_tg := tgm 1071 (by decide +kernel) (by decide +kernel)
theorem mw_1072 : Cond.code yX9_above cX9_above 5 (some .long) ∈ lw_tg := tgm 1072 (by decide +kernel) (by decide +kernel)
theorem mw_1073 : Cond.methodLink RX9 188 yX9_ways ∈ lw_tg := tgm 1073 (by decide +kernel) (by decide +kernel)
theorem mw_1075 : Cond.instanceMethod yX9_ways ∈ lw_tg := tgm 1075 (by decide +kernel) (by decide +kernel)
theorem mw_1076 : Cond.code yX9_ways cX9_ways 10 (some .long) ∈ lw_tg := tgm 1076 (by decide +kernel) (by decide +kernel)
theorem mw_1077 : Cond.methodLink RX9 176 yX9_spread ∈ lw_tg := tgm 1077 (by decide +kernel) (by decide +kernel)
theorem mw_1079 : Cond.instanceMethod yX9_spread ∈ lw_tg := tgm 1079 (by decide +kernel) (by decide +kernel)
theorem mw_1080 : Cond.code yX9_spread cX9_spread 11 none ∈ lw_tg := tgm 1080 (by decide +kernel) (by decide +kernel)
theorem mw_1081 : Cond.methodLink RX9 180 yX9_mark ∈ lw_tg := tgm 1081 (by decide +kernel) (by decide +kernel)
theorem mw_1082 : Cond.static yX9_mark ∈ lw_tg := tgm 1082 (by decide +kernel) (by decide +kernel)
theorem mw_1083 : Cond.code yX9_mark cX9_mark 4 (some .int) ∈ lw_tg := tgm 1083 (by decide +kernel) (by decide +kernel)
theorem mw_1088 : Cond.constant RX9 203 (1000000 : Int32) ∈ lw_tg := tgm 1088 (by decide +kernel) (by decide +kernel)
theorem mw_1089 : Cond.methodLink RX9 204 yX9_isAbove ∈ lw_tg := tgm 1089 (by decide +kernel) (by decide +kernel)
theorem mw_1090 : Cond.static yX9_isAbove ∈ lw_tg := tgm 1090 (by decide +kernel) (by decide +kernel)
theorem mw_1091 : Cond.code yX9_isAbove cX9_isAbove 24 (some .boolean) ∈ lw_tg := tgm 1091 (by decide +kernel) (by decide +kernel)
theorem mw_1104 : Cond.methodLink RX9 245 yX9_isReader ∈ lw_tg := tgm 1104 (by decide +kernel) (by decide +kernel)
theorem mw_1105 : Cond.static yX9_isReader ∈ lw_tg := tgm 1105 (by decide +kernel) (by decide +kernel)
theorem mw_1106 : Cond.code yX9_isReader cX9_isReader 1 (some .boolean) ∈ lw_tg := tgm 1106 (by decide +kernel) (by decide +kernel)
theorem mw_1111 : Cond.methodLink RX9 250 yX9_wrongDelays ∈ lw_tg := tgm 1111 (by decide +kernel) (by decide +kernel)
theorem mw_1113 : Cond.instanceMethod yX9_wrongDelays ∈ lw_tg := tgm 1113 (by decide +kernel) (by decide +kernel)
theorem mw_1114 : Cond.code yX9_wrongDelays cX9_wrongDelays 3 (some .int) ∈ lw_tg := tgm 1114 (by decide +kernel) (by decide +kernel)
theorem mw_1115 : Cond.constantLong RX9 248 (1000 : Int64) ∈ lw_tg := tgm 1115 (by decide +kernel) (by decide +kernel)
theorem mw_1116 : Cond.methodLink RX9 253 yX9_delay ∈ lw_tg := tgm 1116 (by decide +kernel) (by decide +kernel)
theorem mw_1118 : Cond.instanceMethod yX9_delay ∈ lw_tg := tgm 1118 (by decide +kernel) (by decide +kernel)
theorem mw_1119 : Cond.code yX9_delay cX9_delay 3 (some .int) ∈ lw_tg := tgm 1119 (by decide +kernel) (by decide +kernel)
theorem mw_1120 : Cond.methodLink RX9 256 yX9_send ∈ lw_tg := tgm 1120 (by decide +kernel) (by decide +kernel)
theorem mw_1122 : Cond.instanceMethod yX9_send ∈ lw_tg := tgm 1122 (by decide +kernel) (by decide +kernel)
theorem mw_1123 : Cond.code yX9_send cX9_send 7 none ∈ lw_tg := tgm 1123 (by decide +kernel) (by decide +kernel)
theorem mw_1124 : Cond.methodLink RX9 260 yX9_workOff ∈ lw_tg := tgm 1124 (by decide +kernel) (by decide +kernel)
theorem mw_1126 : Cond.instanceMethod yX9_workOff ∈ lw_tg := tgm 1126 (by decide +kernel) (by decide +kernel)
theorem mw_1127 : Cond.code yX9_workOff cX9_workOff 7 none ∈ lw_tg := tgm 1127 (by decide +kernel) (by decide +kernel)
theorem mw_1128 : Cond.methodLink RX9 263 yX9_due ∈ lw_tg := tgm 1128 (by decide +kernel) (by decide +kernel)
theorem mw_1130 : Cond.instanceMethod yX9_due ∈ lw_tg := tgm 1130 (by decide +kernel) (by decide +kernel)
theorem mw_1131 : Cond.code yX9_due cX9_due 3 (some .int) ∈ lw_tg := tgm 1131 (by decide +kernel) (by decide +kernel)
theorem mw_1132 : Cond.methodLink RX9 267 yX9_comes ∈ lw_tg := tgm 1132 (by decide +kernel) (by decide +kernel)
theorem mw_1134 : Cond.instanceMethod yX9_comes ∈ lw_tg := tgm 1134 (by decide +kernel) (by decide +kernel)
theorem mw_1135 : Cond.code yX9_comes cX9_comes 6 none ∈ lw_tg := tgm 1135 (by decide +kernel) (by decide +kernel)
theorem mw_1136 : Cond.methodLink RX9 270 Lib.Math.max.name ∈ lw_tg := tgm 1136 (by decide +kernel) (by decide +kernel)
theorem mw_1137 : Cond.methodLink RX9 275 yX9_hand ∈ lw_tg := tgm 1137 (by decide +kernel) (by decide +kernel)
theorem mw_1139 : Cond.instanceMethod yX9_hand ∈ lw_tg := tgm 1139 (by decide +kernel) (by decide +kernel)
theorem mw_1140 : Cond.code yX9_hand cX9_hand 4 none ∈ lw_tg := tgm 1140 (by decide +kernel) (by decide +kernel)
theorem mw_1141 : Cond.methodLink RX9 279 yX9_answer ∈ lw_tg := tgm 1141 (by decide +kernel) (by decide +kernel)
theorem mw_1143 : Cond.instanceMethod yX9_answer ∈ lw_tg := tgm 1143 (by decide +kernel) (by decide +kernel)
theorem mw_1144 : Cond.code yX9_answer cX9_answer 8 none ∈ lw_tg := tgm 1144 (by decide +kernel) (by decide +kernel)
theorem mw_1157 : Cond.methodLink RX9 283 yX9_wrongCopy ∈ lw_tg := tgm 1157 (by decide +kernel) (by decide +kernel)
theorem mw_1159 : Cond.instanceMethod yX9_wrongCopy ∈ lw_tg := tgm 1159 (by decide +kernel) (by decide +kernel)
theorem mw_1160 : Cond.code yX9_wrongCopy cX9_wrongCopy 2 (some .int) ∈ lw_tg := tgm 1160 (by decide +kernel) (by decide +kernel)
theorem mw_1165 : Cond.methodLink RX9 286 yX9_gives ∈ lw_tg := tgm 1165 (by decide +kernel) (by decide +kernel)
theorem mw_1167 : Cond.instanceMethod yX9_gives ∈ lw_tg := tgm 1167 (by decide +kernel) (by decide +kernel)
theorem mw_1168 : Cond.code yX9_gives cX9_gives 4 (some .int) ∈ lw_tg := tgm 1168 (by decide +kernel) (by decide +kernel)
theorem mw_1185 : Cond.methodLink RX9 289 yX9_missed ∈ lw_tg := tgm 1185 (by decide +kernel) (by decide +kernel)
theorem mw_1187 : Cond.instanceMethod yX9_missed ∈ lw_tg := tgm 1187 (by decide +kernel) (by decide +kernel)
theorem mw_1188 : Cond.code yX9_missed cX9_missed 4 (some .int) ∈ lw_tg := tgm 1188 (by decide +kernel) (by decide +kernel)
theorem fX0_15 : zF RX0 15 0 1 "sums" := ⟨RX0, TX0, 8, rfl, by decide, uw0, mw_92, rfl⟩
theorem fX0_9 : zF RX0 9 0 0 "weights" := ⟨RX0, TX0, 8, rfl, by decide, uw0, mw_91, rfl⟩
theorem vX0_42 : zCV RX0 42 0 yX0_weight cX0_weight 3 (some .long) 2 := ⟨⟨_, _, rfl⟩, z_gV mw_491 mw_492 mw_493 mw_45 mw_494, ⟨rfl, by decide +kernel, by decide +kernel, by decide +kernel⟩⟩
theorem sX0_46 : zCS RX0 46 yX0_power cX0_power 6 (some .long) 2 := ⟨z_gS mw_536 mw_512 mw_45 mw_513, ⟨by decide +kernel, by decide +kernel, by decide +kernel⟩⟩
theorem vX0_50 : zCV RX0 50 0 yX0_ofCopy cX0_ofCopy 2 (some .long) 1 := ⟨⟨_, _, rfl⟩, z_gV mw_532 mw_533 mw_534 mw_45 mw_535, ⟨rfl, by decide +kernel, by decide +kernel, by decide +kernel⟩⟩
theorem gX0_31 : zG RX0 31 0 6 .long := ⟨RX0, TX0, 8, tyX0, rfl, by decide, uw0, mw_105, tyX0_ok, nmX0, rfl, by decide +kernel⟩
theorem gX0_35 : zG RX0 35 0 7 .long := ⟨RX0, TX0, 8, tyX0, rfl, by decide, uw0, mw_107, tyX0_ok, nmX0, rfl, by decide +kernel⟩
theorem sX0_56 : zCS RX0 56 yX0_commonDivisor cX0_commonDivisor 11 (some .long) 2 := ⟨z_gS mw_518 mw_519 mw_45 mw_520, ⟨by decide +kernel, by decide +kernel, by decide +kernel⟩⟩
theorem hX1_29 : zMath RX1 29 Lib.Math.min.name Lib.Math.min.code := ⟨mw_604, mw_437, mw_53, mw_438⟩
theorem gX1_22 : zG RX1 22 1 3 .int := ⟨RX1, TX1, 5, tyX1, rfl, by decide, uw1, mw_188, tyX1_ok, nmX1, rfl, by decide +kernel⟩
theorem gX1_26 : zG RX1 26 1 4 .int := ⟨RX1, TX1, 5, tyX1, rfl, by decide, uw1, mw_191, tyX1_ok, nmX1, rfl, by decide +kernel⟩
theorem fX1_9 : zF RX1 9 1 0 "versions" := ⟨RX1, TX1, 5, rfl, by decide, uw1, mw_181, rfl⟩
theorem fX1_15 : zF RX1 15 1 1 "ups" := ⟨RX1, TX1, 5, rfl, by decide, uw1, mw_184, rfl⟩
theorem vX1_35 : zCV RX1 35 1 yX1_forget cX1_forget 3 none 1 := ⟨⟨_, _, rfl⟩, z_gV mw_605 mw_607 mw_7 mw_48 mw_608, ⟨rfl, by decide +kernel, by decide +kernel, by decide +kernel⟩⟩
theorem fX1_22 : zF RX1 22 1 3 "many" := ⟨RX1, TX1, 5, rfl, by decide, uw1, mw_188, rfl⟩
theorem fX1_19 : zF RX1 19 1 2 "handed" := ⟨RX1, TX1, 5, rfl, by decide, uw1, mw_187, rfl⟩
theorem hX1_39 : zMath RX1 39 Lib.Math.max.name Lib.Math.max.code := ⟨mw_677, mw_678, mw_53, mw_679⟩
theorem fX1_26 : zF RX1 26 1 4 "lost" := ⟨RX1, TX1, 5, rfl, by decide, uw1, mw_191, rfl⟩
theorem vX1_42 : zCV RX1 42 1 yX1_leastUp cX1_leastUp 2 (some .int) 0 := ⟨⟨_, _, rfl⟩, z_gV mw_680 mw_682 mw_12 mw_48 mw_683, ⟨rfl, by decide +kernel, by decide +kernel, by decide +kernel⟩⟩
theorem vX1_46 : zCV RX1 46 1 yX1_keptBy cX1_keptBy 4 (some .int) 1 := ⟨⟨_, _, rfl⟩, z_gV mw_753 mw_754 mw_755 mw_48 mw_756, ⟨rfl, by decide +kernel, by decide +kernel, by decide +kernel⟩⟩
theorem vX1_50 : zCV RX1 50 1 yX1_give cX1_give 4 (some .int) 2 := ⟨⟨_, _, rfl⟩, z_gV mw_765 mw_767 mw_19 mw_48 mw_768, ⟨rfl, by decide +kernel, by decide +kernel, by decide +kernel⟩⟩
theorem fX2_48 : zF RX2 48 2 0 "chances" := ⟨RX2, TX2, 12, rfl, by decide, uw2, mw_132, rfl⟩
theorem fX2_55 : zF RX2 55 0 4 "r" := ⟨RX0, TX0, 8, rfl, by decide, uw0, mw_100, rfl⟩
theorem fX2_52 : zF RX2 52 0 3 "w" := ⟨RX0, TX0, 8, rfl, by decide, uw0, mw_97, rfl⟩
theorem fX2_11 : zF RX2 11 2 1 "ends" := ⟨RX2, TX2, 12, rfl, by decide, uw2, mw_133, rfl⟩
theorem fX2_66 : zF RX2 66 0 2 "n" := ⟨RX0, TX0, 8, rfl, by decide, uw0, mw_94, rfl⟩
theorem vX2_77 : zCV RX2 77 0 yX0_tellFraction cX0_tellFraction 7 (some .int) 2 := ⟨⟨_, _, rfl⟩, z_gV mw_514 mw_515 mw_516 mw_45 mw_517, ⟨rfl, by decide +kernel, by decide +kernel, by decide +kernel⟩⟩
theorem sX2_73 : zCS RX2 73 yX0_power cX0_power 6 (some .long) 2 := ⟨z_gS mw_511 mw_512 mw_45 mw_513, ⟨by decide +kernel, by decide +kernel, by decide +kernel⟩⟩
theorem vX2_69 : zCV RX2 69 2 yX2_endsAt cX2_endsAt 10 (some .long) 4 := ⟨⟨_, _, rfl⟩, z_gV mw_499 mw_501 mw_2 mw_46 mw_502, ⟨rfl, by decide +kernel, by decide +kernel, by decide +kernel⟩⟩
theorem vX2_62 : zCV RX2 62 0 yX0_sum cX0_sum 2 (some .long) 1 := ⟨⟨_, _, rfl⟩, z_gV mw_495 mw_496 mw_497 mw_45 mw_498, ⟨rfl, by decide +kernel, by decide +kernel, by decide +kernel⟩⟩
theorem vX2_58 : zCV RX2 58 0 yX0_spread cX0_spread 8 none 3 := ⟨⟨_, _, rfl⟩, z_gV mw_487 mw_488 mw_489 mw_45 mw_490, ⟨rfl, by decide +kernel, by decide +kernel, by decide +kernel⟩⟩
theorem gX2_38 : zG RX2 38 2 9 .int := ⟨RX2, TX2, 12, tyX2, rfl, by decide, uw2, mw_141, tyX2_ok, nmX2, rfl, by decide +kernel⟩
theorem gX2_42 : zG RX2 42 2 10 .int := ⟨RX2, TX2, 12, tyX2, rfl, by decide, uw2, mw_142, tyX2_ok, nmX2, rfl, by decide +kernel⟩
theorem gX2_45 : zG RX2 45 2 11 .int := ⟨RX2, TX2, 12, tyX2, rfl, by decide, uw2, mw_143, tyX2_ok, nmX2, rfl, by decide +kernel⟩
theorem fX2_42 : zF RX2 42 2 10 "aged" := ⟨RX2, TX2, 12, rfl, by decide, uw2, mw_142, rfl⟩
theorem vX2_85 : zCV RX2 85 0 yX0_ofCopy cX0_ofCopy 2 (some .long) 1 := ⟨⟨_, _, rfl⟩, z_gV mw_577 mw_533 mw_534 mw_45 mw_535, ⟨rfl, by decide +kernel, by decide +kernel, by decide +kernel⟩⟩
theorem vX2_81 : zCV RX2 81 2 yX2_waysAbove cX2_waysAbove 11 (some .long) 3 := ⟨⟨_, _, rfl⟩, z_gV mw_546 mw_547 mw_548 mw_46 mw_549, ⟨rfl, by decide +kernel, by decide +kernel, by decide +kernel⟩⟩
theorem fX2_17 : zF RX2 17 2 2 "answers" := ⟨RX2, TX2, 12, rfl, by decide, uw2, mw_134, rfl⟩
theorem fX2_20 : zF RX2 20 2 3 "late" := ⟨RX2, TX2, 12, rfl, by decide, uw2, mw_135, rfl⟩
theorem vX2_94 : zCV RX2 94 2 yX2_prepareEnd cX2_prepareEnd 11 none 2 := ⟨⟨_, _, rfl⟩, z_gV mw_558 mw_560 mw_4 mw_46 mw_561, ⟨rfl, by decide +kernel, by decide +kernel, by decide +kernel⟩⟩
theorem fX2_38 : zF RX2 38 2 9 "behind" := ⟨RX2, TX2, 12, rfl, by decide, uw2, mw_141, rfl⟩
theorem fX2_88 : zF RX2 88 0 5 "gap" := ⟨RX0, TX0, 8, rfl, by decide, uw0, mw_103, rfl⟩
theorem vX2_91 : zCV RX2 91 0 yX0_above cX0_above 5 (some .long) 1 := ⟨⟨_, _, rfl⟩, z_gV mw_554 mw_555 mw_556 mw_45 mw_557, ⟨rfl, by decide +kernel, by decide +kernel, by decide +kernel⟩⟩
theorem fX2_23 : zF RX2 23 2 4 "stale" := ⟨RX2, TX2, 12, rfl, by decide, uw2, mw_136, rfl⟩
theorem sX2_98 : zCS RX2 98 yX2_place cX2_place 2 (some .int) 2 := ⟨z_gS mw_562 mw_563 mw_46 mw_564, ⟨by decide +kernel, by decide +kernel, by decide +kernel⟩⟩
theorem fX2_26 : zF RX2 26 2 5 "sooner" := ⟨RX2, TX2, 12, rfl, by decide, uw2, mw_137, rfl⟩
theorem fX2_29 : zF RX2 29 2 6 "now" := ⟨RX2, TX2, 12, rfl, by decide, uw2, mw_138, rfl⟩
theorem fX2_32 : zF RX2 32 2 7 "others" := ⟨RX2, TX2, 12, rfl, by decide, uw2, mw_139, rfl⟩
theorem fX2_35 : zF RX2 35 2 8 "later" := ⟨RX2, TX2, 12, rfl, by decide, uw2, mw_140, rfl⟩
theorem sX2_106 : zCS RX2 106 yX2_fillPowers cX2_fillPowers 6 none 2 := ⟨z_gS mw_570 mw_571 mw_46 mw_572, ⟨by decide +kernel, by decide +kernel, by decide +kernel⟩⟩
theorem vX2_102 : zCV RX2 102 2 yX2_staleAnswers cX2_staleAnswers 6 (some .long) 2 := ⟨⟨_, _, rfl⟩, z_gV mw_565 mw_567 mw_5 mw_46 mw_568, ⟨rfl, by decide +kernel, by decide +kernel, by decide +kernel⟩⟩
theorem vX2_110 : zCV RX2 110 2 yX2_staleReads cX2_staleReads 9 (some .long) 2 := ⟨⟨_, _, rfl⟩, z_gV mw_573 mw_575 mw_6 mw_46 mw_576, ⟨rfl, by decide +kernel, by decide +kernel, by decide +kernel⟩⟩
theorem vX2_113 : zCV RX2 113 0 yX0_weight cX0_weight 3 (some .long) 2 := ⟨⟨_, _, rfl⟩, z_gV mw_569 mw_492 mw_493 mw_45 mw_494, ⟨rfl, by decide +kernel, by decide +kernel, by decide +kernel⟩⟩
theorem sX2_116 : zCS RX2 116 yX2_picks cX2_picks 2 (some .long) 2 := ⟨z_gS mw_506 mw_507 mw_46 mw_508, ⟨by decide +kernel, by decide +kernel, by decide +kernel⟩⟩
theorem fX2_45 : zF RX2 45 2 11 "ready" := ⟨RX2, TX2, 12, rfl, by decide, uw2, mw_143, rfl⟩
theorem vX2_119 : zCV RX2 119 2 yX2_prepare cX2_prepare 4 none 1 := ⟨⟨_, _, rfl⟩, z_gV mw_550 mw_552 mw_3 mw_46 mw_553, ⟨rfl, by decide +kernel, by decide +kernel, by decide +kernel⟩⟩
theorem sX2_123 : zCS RX2 123 yX2_isAtMost cX2_isAtMost 18 (some .boolean) 4 := ⟨z_gS mw_588 mw_589 mw_46 mw_590, ⟨by decide +kernel, by decide +kernel, by decide +kernel⟩⟩
theorem sX2_129 : zCS RX2 129 yX2_atLeast cX2_atLeast 9 (some .long) 4 := ⟨z_gS mw_503 mw_504 mw_46 mw_505, ⟨by decide +kernel, by decide +kernel, by decide +kernel⟩⟩
theorem gX3_30 : zG RX3 30 3 6 .int := ⟨RX3, TX3, 9, tyX3, rfl, by decide, uw3, mw_221, tyX3_ok, nmX3, rfl, by decide +kernel⟩
theorem gX3_34 : zG RX3 34 3 7 .int := ⟨RX3, TX3, 9, tyX3, rfl, by decide, uw3, mw_222, tyX3_ok, nmX3, rfl, by decide +kernel⟩
theorem gX3_37 : zG RX3 37 3 8 .int := ⟨RX3, TX3, 9, tyX3, rfl, by decide, uw3, mw_223, tyX3_ok, nmX3, rfl, by decide +kernel⟩
theorem fX3_30 : zF RX3 30 3 6 "sent" := ⟨RX3, TX3, 9, rfl, by decide, uw3, mw_221, rfl⟩
theorem fX3_37 : zF RX3 37 3 8 "underWay" := ⟨RX3, TX3, 9, rfl, by decide, uw3, mw_223, rfl⟩
theorem fX3_11 : zF RX3 11 3 0 "ticks" := ⟨RX3, TX3, 9, rfl, by decide, uw3, mw_211, rfl⟩
theorem fX3_21 : zF RX3 21 3 3 "kinds" := ⟨RX3, TX3, 9, rfl, by decide, uw3, mw_215, rfl⟩
theorem fX3_18 : zF RX3 18 3 2 "numbers" := ⟨RX3, TX3, 9, rfl, by decide, uw3, mw_213, rfl⟩
theorem fX3_24 : zF RX3 24 3 4 "copies" := ⟨RX3, TX3, 9, rfl, by decide, uw3, mw_217, rfl⟩
theorem fX3_27 : zF RX3 27 3 5 "extras" := ⟨RX3, TX3, 9, rfl, by decide, uw3, mw_219, rfl⟩
theorem vX3_40 : zCV RX3 40 3 yX3_link cX3_link 5 none 1 := ⟨⟨_, _, rfl⟩, z_gV mw_646 mw_648 mw_10 mw_49 mw_649, ⟨rfl, by decide +kernel, by decide +kernel, by decide +kernel⟩⟩
theorem fX3_34 : zF RX3 34 3 7 "head" := ⟨RX3, TX3, 9, rfl, by decide, uw3, mw_222, rfl⟩
theorem fX3_15 : zF RX3 15 3 1 "nexts" := ⟨RX3, TX3, 9, rfl, by decide, uw3, mw_212, rfl⟩
theorem sX3_44 : zCS RX3 44 yX3_isLetter cX3_isLetter 1 (some .boolean) 1 := ⟨z_gS mw_650 mw_651 mw_49 mw_652, ⟨by decide +kernel, by decide +kernel, by decide +kernel⟩⟩
theorem fX4_36 : zF RX4 36 4 8 "many" := ⟨RX4, TX4, 9, rfl, by decide, uw4, mw_286, rfl⟩
theorem gX4_36 : zG RX4 36 4 8 .int := ⟨RX4, TX4, 9, tyX4, rfl, by decide, uw4, mw_286, tyX4_ok, nmX4, rfl, by decide +kernel⟩
theorem fX4_9 : zF RX4 9 4 0 "readers" := ⟨RX4, TX4, 9, rfl, by decide, uw4, mw_269, rfl⟩
theorem fX4_15 : zF RX4 15 4 1 "begunAt" := ⟨RX4, TX4, 9, rfl, by decide, uw4, mw_271, rfl⟩
theorem fX4_18 : zF RX4 18 4 2 "greatest" := ⟨RX4, TX4, 9, rfl, by decide, uw4, mw_273, rfl⟩
theorem fX4_21 : zF RX4 21 4 3 "doneAt" := ⟨RX4, TX4, 9, rfl, by decide, uw4, mw_275, rfl⟩
theorem fX4_30 : zF RX4 30 4 6 "answers" := ⟨RX4, TX4, 9, rfl, by decide, uw4, mw_284, rfl⟩
theorem fX4_33 : zF RX4 33 4 7 "heard" := ⟨RX4, TX4, 9, rfl, by decide, uw4, mw_285, rfl⟩
theorem vX4_40 : zCV RX4 40 4 yX4_has cX4_has 2 (some .boolean) 1 := ⟨⟨_, _, rfl⟩, z_gV mw_696 mw_698 mw_14 mw_51 mw_699, ⟨rfl, by decide +kernel, by decide +kernel, by decide +kernel⟩⟩
theorem hX4_44 : zMath RX4 44 Lib.Math.max.name Lib.Math.max.code := ⟨mw_700, mw_678, mw_53, mw_679⟩
theorem fX5_12 : zF RX5 12 5 0 "copies" := ⟨RX5, TX5, 12, rfl, by decide, uw5, mw_308, rfl⟩
theorem fX5_21 : zF RX5 21 5 1 "post" := ⟨RX5, TX5, 12, rfl, by decide, uw5, mw_310, rfl⟩
theorem fX5_28 : zF RX5 28 5 2 "writes" := ⟨RX5, TX5, 12, rfl, by decide, uw5, mw_312, rfl⟩
theorem gX5_73 : zG RX5 73 7 2 .int := ⟨RX7, TX7, 3, tyX7, rfl, by decide, uw7, mw_254, tyX7_ok, nmX7, rfl, by decide +kernel⟩
theorem fX5_35 : zF RX5 35 5 3 "reads" := ⟨RX5, TX5, 12, rfl, by decide, uw5, mw_314, rfl⟩
theorem gX5_76 : zG RX5 76 4 8 .int := ⟨RX4, TX4, 9, tyX4, rfl, by decide, uw4, mw_287, tyX4_ok, nmX4, rfl, by decide +kernel⟩
theorem vX5_71 : zCV RX5 71 3 yX3_renew cX3_renew 1 none 0 := ⟨⟨_, _, rfl⟩, z_gV mw_609 mw_610 mw_611 mw_49 mw_612, ⟨rfl, by decide +kernel, by decide +kernel, by decide +kernel⟩⟩
theorem vX5_67 : zCV RX5 67 1 yX1_renew cX1_renew 3 none 1 := ⟨⟨_, _, rfl⟩, z_gV mw_600 mw_601 mw_602 mw_48 mw_603, ⟨rfl, by decide +kernel, by decide +kernel, by decide +kernel⟩⟩
theorem gX5_47 : zG RX5 47 5 6 .int := ⟨RX5, TX5, 12, tyX5, rfl, by decide, uw5, mw_319, tyX5_ok, nmX5, rfl, by decide +kernel⟩
theorem gX5_51 : zG RX5 51 5 7 .int := ⟨RX5, TX5, 12, tyX5, rfl, by decide, uw5, mw_320, tyX5_ok, nmX5, rfl, by decide +kernel⟩
theorem gX5_54 : zG RX5 54 5 8 .int := ⟨RX5, TX5, 12, tyX5, rfl, by decide, uw5, mw_321, tyX5_ok, nmX5, rfl, by decide +kernel⟩
theorem gX5_57 : zG RX5 57 5 9 .boolean := ⟨RX5, TX5, 12, tyX5, rfl, by decide, uw5, mw_323, tyX5_ok, nmX5, rfl, by decide +kernel⟩
theorem gX5_61 : zG RX5 61 5 10 .int := ⟨RX5, TX5, 12, tyX5, rfl, by decide, uw5, mw_325, tyX5_ok, nmX5, rfl, by decide +kernel⟩
theorem gX5_64 : zG RX5 64 5 11 .int := ⟨RX5, TX5, 12, tyX5, rfl, by decide, uw5, mw_327, tyX5_ok, nmX5, rfl, by decide +kernel⟩
theorem fX5_39 : zF RX5 39 5 4 "keeps" := ⟨RX5, TX5, 12, rfl, by decide, uw5, mw_316, rfl⟩
theorem fX5_43 : zF RX5 43 5 5 "seen" := ⟨RX5, TX5, 12, rfl, by decide, uw5, mw_318, rfl⟩
theorem fX5_77 : zF RX5 77 1 3 "many" := ⟨RX1, TX1, 5, rfl, by decide, uw1, mw_189, rfl⟩
theorem fX5_54 : zF RX5 54 5 8 "tick" := ⟨RX5, TX5, 12, rfl, by decide, uw5, mw_321, rfl⟩
theorem vX5_84 : zCV RX5 84 3 yX3_send cX3_send 7 none 5 := ⟨⟨_, _, rfl⟩, z_gV mw_642 mw_643 mw_644 mw_49 mw_645, ⟨rfl, by decide +kernel, by decide +kernel, by decide +kernel⟩⟩
theorem vX5_78 : zCV RX5 78 6 yX6_at cX6_at 3 (some .long) 2 := ⟨⟨_, _, rfl⟩, z_gV mw_641 mw_425 mw_426 mw_44 mw_427, ⟨rfl, by decide +kernel, by decide +kernel, by decide +kernel⟩⟩
theorem vX5_88 : zCV RX5 88 3 yX3_takeDue cX3_takeDue 3 (some .int) 1 := ⟨⟨_, _, rfl⟩, z_gV mw_657 mw_658 mw_659 mw_49 mw_660, ⟨rfl, by decide +kernel, by decide +kernel, by decide +kernel⟩⟩
theorem vX5_95 : zCV RX5 95 5 yX5_come cX5_come 5 none 1 := ⟨⟨_, _, rfl⟩, z_gV mw_665 mw_667 mw_11 mw_47 mw_668, ⟨rfl, by decide +kernel, by decide +kernel, by decide +kernel⟩⟩
theorem vX5_92 : zCV RX5 92 3 yX3_tickOf cX3_tickOf 2 (some .int) 1 := ⟨⟨_, _, rfl⟩, z_gV mw_661 mw_662 mw_663 mw_49 mw_664, ⟨rfl, by decide +kernel, by decide +kernel, by decide +kernel⟩⟩
theorem fX5_98 : zF RX5 98 3 2 "numbers" := ⟨RX3, TX3, 9, rfl, by decide, uw3, mw_214, rfl⟩
theorem fX5_101 : zF RX5 101 3 4 "copies" := ⟨RX3, TX3, 9, rfl, by decide, uw3, mw_218, rfl⟩
theorem fX5_103 : zF RX5 103 3 5 "extras" := ⟨RX3, TX3, 9, rfl, by decide, uw3, mw_220, rfl⟩
theorem fX5_110 : zF RX5 110 3 3 "kinds" := ⟨RX3, TX3, 9, rfl, by decide, uw3, mw_216, rfl⟩
theorem vX5_113 : zCV RX5 113 1 yX1_take cX1_take 5 (some .boolean) 2 := ⟨⟨_, _, rfl⟩, z_gV mw_673 mw_674 mw_675 mw_48 mw_676, ⟨rfl, by decide +kernel, by decide +kernel, by decide +kernel⟩⟩
theorem fX5_47 : zF RX5 47 5 6 "w" := ⟨RX5, TX5, 12, rfl, by decide, uw5, mw_319, rfl⟩
theorem vX5_117 : zCV RX5 117 7 yX7_hear cX7_hear 5 none 3 := ⟨⟨_, _, rfl⟩, z_gV mw_684 mw_685 mw_686 mw_50 mw_687, ⟨rfl, by decide +kernel, by decide +kernel, by decide +kernel⟩⟩
theorem fX5_121 : zF RX5 121 1 1 "ups" := ⟨RX1, TX1, 5, rfl, by decide, uw1, mw_185, rfl⟩
theorem fX5_124 : zF RX5 124 1 0 "versions" := ⟨RX1, TX1, 5, rfl, by decide, uw1, mw_182, rfl⟩
theorem fX5_51 : zF RX5 51 5 7 "r" := ⟨RX5, TX5, 12, rfl, by decide, uw5, mw_320, rfl⟩
theorem fX5_57 : zF RX5 57 5 9 "mends" := ⟨RX5, TX5, 12, rfl, by decide, uw5, mw_323, rfl⟩
theorem vX5_133 : zCV RX5 133 5 yX5_mend cX5_mend 3 none 1 := ⟨⟨_, _, rfl⟩, z_gV mw_714 mw_716 mw_16 mw_47 mw_717, ⟨rfl, by decide +kernel, by decide +kernel, by decide +kernel⟩⟩
theorem vX5_130 : zCV RX5 130 5 yX5_finish cX5_finish 4 none 1 := ⟨⟨_, _, rfl⟩, z_gV mw_701 mw_703 mw_15 mw_47 mw_704, ⟨rfl, by decide +kernel, by decide +kernel, by decide +kernel⟩⟩
theorem vX5_127 : zCV RX5 127 4 yX4_hear cX4_hear 5 (some .boolean) 4 := ⟨⟨_, _, rfl⟩, z_gV mw_692 mw_693 mw_694 mw_51 mw_695, ⟨rfl, by decide +kernel, by decide +kernel, by decide +kernel⟩⟩
theorem vX5_106 : zCV RX5 106 1 yX1_has cX1_has 2 (some .boolean) 1 := ⟨⟨_, _, rfl⟩, z_gV mw_669 mw_670 mw_671 mw_48 mw_672, ⟨rfl, by decide +kernel, by decide +kernel, by decide +kernel⟩⟩
theorem fX5_136 : zF RX5 136 4 2 "greatest" := ⟨RX4, TX4, 9, rfl, by decide, uw4, mw_274, rfl⟩
theorem fX5_139 : zF RX5 139 4 0 "readers" := ⟨RX4, TX4, 9, rfl, by decide, uw4, mw_270, rfl⟩
theorem fX5_142 : zF RX5 142 4 3 "doneAt" := ⟨RX4, TX4, 9, rfl, by decide, uw4, mw_276, rfl⟩
theorem fX5_145 : zF RX5 145 4 5 "missed" := ⟨RX4, TX4, 9, rfl, by decide, uw4, mw_282, rfl⟩
theorem fX5_148 : zF RX5 148 4 1 "begunAt" := ⟨RX4, TX4, 9, rfl, by decide, uw4, mw_272, rfl⟩
theorem fX5_64 : zF RX5 64 5 11 "misses" := ⟨RX5, TX5, 12, rfl, by decide, uw5, mw_327, rfl⟩
theorem vX5_151 : zCV RX5 151 7 yX7_doneBefore cX7_doneBefore 5 (some .int) 2 := ⟨⟨_, _, rfl⟩, z_gV mw_705 mw_706 mw_707 mw_50 mw_708, ⟨rfl, by decide +kernel, by decide +kernel, by decide +kernel⟩⟩
theorem fX5_61 : zF RX5 61 5 10 "raises" := ⟨RX5, TX5, 12, rfl, by decide, uw5, mw_325, rfl⟩
theorem hX5_155 : zMath RX5 155 Lib.Math.max.name Lib.Math.max.code := ⟨mw_713, mw_678, mw_53, mw_679⟩
theorem fX5_160 : zF RX5 160 4 4 "told" := ⟨RX4, TX4, 9, rfl, by decide, uw4, mw_279, rfl⟩
theorem vX5_163 : zCV RX5 163 4 yX4_answeredLesser cX4_answeredLesser 4 (some .boolean) 2 := ⟨⟨_, _, rfl⟩, z_gV mw_718 mw_719 mw_720 mw_51 mw_721, ⟨rfl, by decide +kernel, by decide +kernel, by decide +kernel⟩⟩
theorem fX6_19 : zF RX6 19 6 2 "sizes" := ⟨RX6, TX6, 3, rfl, by decide, uw6, mw_71, rfl⟩
theorem nX6_24 : zCN yX8_fits cX8_fits 6 (some .boolean) 3 := ⟨lw_goodIn (List.forall_mem_cons.mpr ⟨mw_392, fun _ h => h⟩), mw_43, mw_391, ⟨by decide +kernel, by decide +kernel, by decide +kernel⟩⟩
theorem fX6_15 : zF RX6 15 6 1 "sorts" := ⟨RX6, TX6, 3, rfl, by decide, uw6, mw_70, rfl⟩
theorem fX6_9 : zF RX6 9 6 0 "values" := ⟨RX6, TX6, 3, rfl, by decide, uw6, mw_69, rfl⟩
theorem vX6_28 : zCV RX6 28 6 yX6_lack cX6_lack 4 (some .int) 3 := ⟨⟨_, _, rfl⟩, z_gV mw_428 mw_407 mw_408 mw_44 mw_409, ⟨rfl, by decide +kernel, by decide +kernel, by decide +kernel⟩⟩
theorem sX6_32 : zCS RX6 32 yX6_cut cX6_cut 3 (some .long) 2 := ⟨z_gS mw_416 mw_417 mw_44 mw_418, ⟨by decide +kernel, by decide +kernel, by decide +kernel⟩⟩
theorem aX6_36 : Cond.methodLink RX6 36 arraycopyName ∈ lw_tg ∧ Cond.native arraycopyName ∈ lw_tg ∧ Cond.static arraycopyName ∈ lw_tg ∧ Cond.initialized "java/lang/System" ∈ lw_tg := ⟨mw_443, mw_445, mw_444, mw_54⟩
theorem fX7_15 : zF RX7 15 7 1 "words" := ⟨RX7, TX7, 3, rfl, by decide, uw7, mw_252, rfl⟩
theorem fX7_18 : zF RX7 18 7 2 "many" := ⟨RX7, TX7, 3, rfl, by decide, uw7, mw_253, rfl⟩
theorem fX7_9 : zF RX7 9 7 0 "doneAt" := ⟨RX7, TX7, 3, rfl, by decide, uw7, mw_250, rfl⟩
theorem gX7_18 : zG RX7 18 7 2 .int := ⟨RX7, TX7, 3, tyX7, rfl, by decide, uw7, mw_253, tyX7_ok, nmX7, rfl, by decide +kernel⟩
theorem vX7_22 : zCV RX7 22 7 yX7_has cX7_has 2 (some .boolean) 1 := ⟨⟨_, _, rfl⟩, z_gV mw_688 mw_690 mw_13 mw_50 mw_691, ⟨rfl, by decide +kernel, by decide +kernel, by decide +kernel⟩⟩
theorem vX7_26 : zCV RX7 26 7 yX7_isDone cX7_isDone 2 (some .boolean) 1 := ⟨⟨_, _, rfl⟩, z_gV mw_709 mw_710 mw_711 mw_50 mw_712, ⟨rfl, by decide +kernel, by decide +kernel, by decide +kernel⟩⟩
theorem fX8_43 : zF RX8 43 8 5 "status" := ⟨RX8, TX8, 6, rfl, by decide, uw8, mw_359, rfl⟩
theorem fX8_19 : zF RX8 19 8 1 "chances" := ⟨RX8, TX8, 6, rfl, by decide, uw8, mw_355, rfl⟩
theorem fX8_47 : zF RX8 47 0 6 "top" := ⟨RX0, TX0, 8, rfl, by decide, uw0, mw_106, rfl⟩
theorem fX8_51 : zF RX8 51 0 7 "bottom" := ⟨RX0, TX0, 8, rfl, by decide, uw0, mw_108, rfl⟩
theorem sX8_56 : zCS RX8 56 yX8_fits cX8_fits 6 (some .boolean) 3 := ⟨z_gS mw_390 mw_391 mw_43 mw_392, ⟨by decide +kernel, by decide +kernel, by decide +kernel⟩⟩
theorem fX8_10 : zF RX8 10 8 0 "sheets" := ⟨RX8, TX8, 6, rfl, by decide, uw8, mw_354, rfl⟩
theorem vX8_66 : zCV RX8 66 6 yX6_lay cX6_lay 5 none 3 := ⟨⟨_, _, rfl⟩, z_gV mw_398 mw_399 mw_400 mw_44 mw_401, ⟨rfl, by decide +kernel, by decide +kernel, by decide +kernel⟩⟩
theorem vX8_62 : zCV RX8 62 8 yX8_passes cX8_passes 2 (some .boolean) 1 := ⟨⟨_, _, rfl⟩, z_gV mw_394 mw_396 mw_0 mw_43 mw_397, ⟨rfl, by decide +kernel, by decide +kernel, by decide +kernel⟩⟩
theorem vX8_74 : zCV RX8 74 6 yX6_put cX6_put 5 none 3 := ⟨⟨_, _, rfl⟩, z_gV mw_412 mw_413 mw_414 mw_44 mw_415, ⟨rfl, by decide +kernel, by decide +kernel, by decide +kernel⟩⟩
theorem vX8_70 : zCV RX8 70 6 yX6_lack cX6_lack 4 (some .int) 3 := ⟨⟨_, _, rfl⟩, z_gV mw_406 mw_407 mw_408 mw_44 mw_409, ⟨rfl, by decide +kernel, by decide +kernel, by decide +kernel⟩⟩
theorem vX8_80 : zCV RX8 80 6 yX6_at cX6_at 3 (some .long) 2 := ⟨⟨_, _, rfl⟩, z_gV mw_424 mw_425 mw_426 mw_44 mw_427, ⟨rfl, by decide +kernel, by decide +kernel, by decide +kernel⟩⟩
theorem vX8_88 : zCV RX8 88 6 yX6_move cX6_move 8 none 5 := ⟨⟨_, _, rfl⟩, z_gV mw_439 mw_440 mw_441 mw_44 mw_442, ⟨rfl, by decide +kernel, by decide +kernel, by decide +kernel⟩⟩
theorem sX8_84 : zCS RX8 84 yX8_first cX8_first 2 (some .int) 2 := ⟨z_gS mw_433 mw_434 mw_43 mw_435, ⟨by decide +kernel, by decide +kernel, by decide +kernel⟩⟩
theorem vX8_92 : zCV RX8 92 6 yX6_takeAway cX6_takeAway 2 none 1 := ⟨⟨_, _, rfl⟩, z_gV mw_450 mw_451 mw_452 mw_44 mw_453, ⟨rfl, by decide +kernel, by decide +kernel, by decide +kernel⟩⟩
theorem gX8_98 : zG RX8 98 0 2 .int := ⟨RX0, TX0, 8, tyX0, rfl, by decide, uw0, mw_95, tyX0_ok, nmX0, rfl, by decide +kernel⟩
theorem gX8_101 : zG RX8 101 0 3 .int := ⟨RX0, TX0, 8, tyX0, rfl, by decide, uw0, mw_98, tyX0_ok, nmX0, rfl, by decide +kernel⟩
theorem gX8_104 : zG RX8 104 0 4 .int := ⟨RX0, TX0, 8, tyX0, rfl, by decide, uw0, mw_101, tyX0_ok, nmX0, rfl, by decide +kernel⟩
theorem gX8_109 : zG RX8 109 0 5 .int := ⟨RX0, TX0, 8, tyX0, rfl, by decide, uw0, mw_104, tyX0_ok, nmX0, rfl, by decide +kernel⟩
theorem vX8_114 : zCV RX8 114 8 yX8_weightsOf cX8_weightsOf 8 (some .int) 2 := ⟨⟨_, _, rfl⟩, z_gV mw_473 mw_475 mw_1 mw_43 mw_476, ⟨rfl, by decide +kernel, by decide +kernel, by decide +kernel⟩⟩
theorem vX8_117 : zCV RX8 117 0 yX0_weigh cX0_weigh 6 none 3 := ⟨⟨_, _, rfl⟩, z_gV mw_477 mw_88 mw_89 mw_45 mw_90, ⟨rfl, by decide +kernel, by decide +kernel, by decide +kernel⟩⟩
theorem fX8_28 : zF RX8 28 8 2 "odds" := ⟨RX8, TX8, 6, rfl, by decide, uw8, mw_356, rfl⟩
theorem vX8_122 : zCV RX8 122 2 yX2_tellTakes cX2_tellTakes 9 (some .int) 2 := ⟨⟨_, _, rfl⟩, z_gV mw_483 mw_484 mw_485 mw_46 mw_486, ⟨rfl, by decide +kernel, by decide +kernel, by decide +kernel⟩⟩
theorem sX8_126 : zCS RX8 126 yX8_fitsRead cX8_fitsRead 3 (some .boolean) 3 := ⟨z_gS mw_525 mw_526 mw_43 mw_527, ⟨by decide +kernel, by decide +kernel, by decide +kernel⟩⟩
theorem fX8_98 : zF RX8 98 0 2 "n" := ⟨RX0, TX0, 8, rfl, by decide, uw0, mw_95, rfl⟩
theorem vX8_130 : zCV RX8 130 0 yX0_greatness cX0_greatness 8 (some .int) 2 := ⟨⟨_, _, rfl⟩, z_gV mw_528 mw_529 mw_530 mw_45 mw_531, ⟨rfl, by decide +kernel, by decide +kernel, by decide +kernel⟩⟩
theorem vX8_137 : zCV RX8 137 2 yX2_tellAge cX2_tellAge 3 (some .int) 0 := ⟨⟨_, _, rfl⟩, z_gV mw_542 mw_543 mw_544 mw_46 mw_545, ⟨rfl, by decide +kernel, by decide +kernel, by decide +kernel⟩⟩
theorem vX8_133 : zCV RX8 133 2 yX2_ask cX2_ask 3 none 2 := ⟨⟨_, _, rfl⟩, z_gV mw_538 mw_539 mw_540 mw_46 mw_541, ⟨rfl, by decide +kernel, by decide +kernel, by decide +kernel⟩⟩
theorem vX8_145 : zCV RX8 145 2 yX2_cheapest cX2_cheapest 15 (some .int) 6 := ⟨⟨_, _, rfl⟩, z_gV mw_584 mw_585 mw_586 mw_46 mw_587, ⟨rfl, by decide +kernel, by decide +kernel, by decide +kernel⟩⟩
theorem gX8_39 : zG RX8 39 8 4 .boolean := ⟨RX8, TX8, 6, tyX8, rfl, by decide, uw8, mw_358, tyX8_ok, nmX8, rfl, by decide +kernel⟩
theorem fX8_35 : zF RX8 35 8 3 "run" := ⟨RX8, TX8, 6, rfl, by decide, uw8, mw_357, rfl⟩
theorem fX8_101 : zF RX8 101 0 3 "w" := ⟨RX0, TX0, 8, rfl, by decide, uw0, mw_98, rfl⟩
theorem fX8_104 : zF RX8 104 0 4 "r" := ⟨RX0, TX0, 8, rfl, by decide, uw0, mw_101, rfl⟩
theorem vX8_149 : zCV RX8 149 5 yX5_renew cX5_renew 5 none 3 := ⟨⟨_, _, rfl⟩, z_gV mw_596 mw_597 mw_598 mw_47 mw_599, ⟨rfl, by decide +kernel, by decide +kernel, by decide +kernel⟩⟩
theorem gX8_156 : zG RX8 156 5 9 .boolean := ⟨RX5, TX5, 12, tyX5, rfl, by decide, uw5, mw_324, tyX5_ok, nmX5, rfl, by decide +kernel⟩
theorem vX8_152 : zCV RX8 152 8 yX8_runLack cX8_runLack 2 (some .int) 1 := ⟨⟨_, _, rfl⟩, z_gV mw_617 mw_619 mw_8 mw_43 mw_620, ⟨rfl, by decide +kernel, by decide +kernel, by decide +kernel⟩⟩
theorem fX8_159 : zF RX8 159 5 4 "keeps" := ⟨RX5, TX5, 12, rfl, by decide, uw5, mw_317, rfl⟩
theorem fX8_163 : zF RX8 163 5 2 "writes" := ⟨RX5, TX5, 12, rfl, by decide, uw5, mw_313, rfl⟩
theorem fX8_167 : zF RX8 167 7 2 "many" := ⟨RX7, TX7, 3, rfl, by decide, uw7, mw_255, rfl⟩
theorem fX8_185 : zF RX8 185 5 8 "tick" := ⟨RX5, TX5, 12, rfl, by decide, uw5, mw_322, rfl⟩
theorem vX8_188 : zCV RX8 188 5 yX5_workOff cX5_workOff 4 none 1 := ⟨⟨_, _, rfl⟩, z_gV mw_653 mw_654 mw_655 mw_47 mw_656, ⟨rfl, by decide +kernel, by decide +kernel, by decide +kernel⟩⟩
theorem vX8_181 : zCV RX8 181 5 yX5_sendAll cX5_sendAll 8 none 4 := ⟨⟨_, _, rfl⟩, z_gV mw_637 mw_638 mw_639 mw_47 mw_640, ⟨rfl, by decide +kernel, by decide +kernel, by decide +kernel⟩⟩
theorem vX8_176 : zCV RX8 176 7 yX7_add cX7_add 1 (some .int) 0 := ⟨⟨_, _, rfl⟩, z_gV mw_633 mw_634 mw_635 mw_50 mw_636, ⟨rfl, by decide +kernel, by decide +kernel, by decide +kernel⟩⟩
theorem vX8_172 : zCV RX8 172 8 yX8_actLack cX8_actLack 7 (some .int) 3 := ⟨⟨_, _, rfl⟩, z_gV mw_629 mw_631 mw_9 mw_43 mw_632, ⟨rfl, by decide +kernel, by decide +kernel, by decide +kernel⟩⟩
theorem fX8_191 : zF RX8 191 5 3 "reads" := ⟨RX5, TX5, 12, rfl, by decide, uw5, mw_315, rfl⟩
theorem fX8_195 : zF RX8 195 4 8 "many" := ⟨RX4, TX4, 9, rfl, by decide, uw4, mw_288, rfl⟩
theorem vX8_198 : zCV RX8 198 4 yX4_add cX4_add 5 (some .int) 2 := ⟨⟨_, _, rfl⟩, z_gV mw_726 mw_727 mw_728 mw_51 mw_729, ⟨rfl, by decide +kernel, by decide +kernel, by decide +kernel⟩⟩
theorem fX8_206 : zF RX8 206 5 0 "copies" := ⟨RX5, TX5, 12, rfl, by decide, uw5, mw_309, rfl⟩
theorem vX8_210 : zCV RX8 210 1 yX1_fall cX1_fall 3 none 2 := ⟨⟨_, _, rfl⟩, z_gV mw_749 mw_750 mw_751 mw_48 mw_752, ⟨rfl, by decide +kernel, by decide +kernel, by decide +kernel⟩⟩
theorem vX8_202 : zCV RX8 202 8 yX8_copyLack cX8_copyLack 4 (some .int) 2 := ⟨⟨_, _, rfl⟩, z_gV mw_739 mw_741 mw_17 mw_43 mw_742, ⟨rfl, by decide +kernel, by decide +kernel, by decide +kernel⟩⟩
theorem vX8_216 : zCV RX8 216 1 yX1_rise cX1_rise 4 (some .int) 1 := ⟨⟨_, _, rfl⟩, z_gV mw_761 mw_762 mw_763 mw_48 mw_764, ⟨rfl, by decide +kernel, by decide +kernel, by decide +kernel⟩⟩
theorem vX8_220 : zCV RX8 220 1 yX1_level cX1_level 4 (some .int) 2 := ⟨⟨_, _, rfl⟩, z_gV mw_773 mw_774 mw_775 mw_48 mw_776, ⟨rfl, by decide +kernel, by decide +kernel, by decide +kernel⟩⟩
theorem vX8_223 : zCV RX8 223 8 yX8_isCopy cX8_isCopy 2 (some .boolean) 1 := ⟨⟨_, _, rfl⟩, z_gV mw_743 mw_745 mw_18 mw_43 mw_746, ⟨rfl, by decide +kernel, by decide +kernel, by decide +kernel⟩⟩
theorem fX8_228 : zF RX8 228 1 0 "versions" := ⟨RX1, TX1, 5, rfl, by decide, uw1, mw_183, rfl⟩
theorem fX8_232 : zF RX8 232 1 1 "ups" := ⟨RX1, TX1, 5, rfl, by decide, uw1, mw_186, rfl⟩
theorem vX8_235 : zCV RX8 235 1 yX1_keptBy cX1_keptBy 4 (some .int) 1 := ⟨⟨_, _, rfl⟩, z_gV mw_782 mw_754 mw_755 mw_48 mw_756, ⟨rfl, by decide +kernel, by decide +kernel, by decide +kernel⟩⟩
theorem fX8_39 : zF RX8 39 8 4 "running" := ⟨RX8, TX8, 6, rfl, by decide, uw8, mw_358, rfl⟩
theorem vX8_240 : zCV RX8 240 7 yX7_isDone cX7_isDone 2 (some .boolean) 1 := ⟨⟨_, _, rfl⟩, z_gV mw_788 mw_710 mw_711 mw_50 mw_712, ⟨rfl, by decide +kernel, by decide +kernel, by decide +kernel⟩⟩
theorem fX8_243 : zF RX8 243 7 0 "doneAt" := ⟨RX7, TX7, 3, rfl, by decide, uw7, mw_251, rfl⟩
theorem vX8_248 : zCV RX8 248 4 yX4_isDone cX4_isDone 2 (some .boolean) 1 := ⟨⟨_, _, rfl⟩, z_gV mw_794 mw_795 mw_796 mw_51 mw_797, ⟨rfl, by decide +kernel, by decide +kernel, by decide +kernel⟩⟩
theorem fX8_249 : zF RX8 249 4 3 "doneAt" := ⟨RX4, TX4, 9, rfl, by decide, uw4, mw_277, rfl⟩
theorem fX8_250 : zF RX8 250 4 4 "told" := ⟨RX4, TX4, 9, rfl, by decide, uw4, mw_280, rfl⟩
theorem fX8_253 : zF RX8 253 4 5 "missed" := ⟨RX4, TX4, 9, rfl, by decide, uw4, mw_283, rfl⟩
theorem fX8_258 : zF RX8 258 5 1 "post" := ⟨RX5, TX5, 12, rfl, by decide, uw5, mw_311, rfl⟩
theorem fX8_262 : zF RX8 262 3 8 "underWay" := ⟨RX3, TX3, 9, rfl, by decide, uw3, mw_224, rfl⟩
theorem fX8_265 : zF RX8 265 1 4 "lost" := ⟨RX1, TX1, 5, rfl, by decide, uw1, mw_192, rfl⟩
theorem fX8_268 : zF RX8 268 5 10 "raises" := ⟨RX5, TX5, 12, rfl, by decide, uw5, mw_326, rfl⟩
theorem fX8_271 : zF RX8 271 5 11 "misses" := ⟨RX5, TX5, 12, rfl, by decide, uw5, mw_328, rfl⟩
theorem gX8_43 : zG RX8 43 8 5 .int := ⟨RX8, TX8, 6, tyX8, rfl, by decide, uw8, mw_359, tyX8_ok, nmX8, rfl, by decide +kernel⟩
theorem hX8_274 : zMath RX8 274 Lib.Math.min.name Lib.Math.min.code := ⟨mw_436, mw_437, mw_53, mw_438⟩
theorem vX8_279 : zCV RX8 279 1 yX1_has cX1_has 2 (some .boolean) 1 := ⟨⟨_, _, rfl⟩, z_gV mw_747 mw_670 mw_671 mw_48 mw_672, ⟨rfl, by decide +kernel, by decide +kernel, by decide +kernel⟩⟩
theorem fX8_284 : zF RX8 284 1 3 "many" := ⟨RX1, TX1, 5, rfl, by decide, uw1, mw_190, rfl⟩
theorem fX9_1 : zF RX9 1 9 0 "status" := ⟨RX9, TX9, 50, rfl, by decide, uw9, mw_860, rfl⟩
theorem fX9_7 : zF RX9 7 9 1 "top" := ⟨RX9, TX9, 50, rfl, by decide, uw9, mw_861, rfl⟩
theorem fX9_11 : zF RX9 11 9 2 "bottom" := ⟨RX9, TX9, 50, rfl, by decide, uw9, mw_862, rfl⟩
theorem gX9_1 : zG RX9 1 9 0 .int := ⟨RX9, TX9, 50, tyX9, rfl, by decide, uw9, mw_860, tyX9_ok, nmX9, rfl, by decide +kernel⟩
theorem fX9_21 : zF RX9 21 9 3 "sort" := ⟨RX9, TX9, 50, rfl, by decide, uw9, mw_863, rfl⟩
theorem fX9_25 : zF RX9 25 9 4 "many" := ⟨RX9, TX9, 50, rfl, by decide, uw9, mw_864, rfl⟩
theorem sX9_14 : zCS RX9 14 yX9_isSheet cX9_isSheet 1 (some .boolean) 1 := ⟨z_gS mw_819 mw_820 mw_52 mw_821, ⟨by decide +kernel, by decide +kernel, by decide +kernel⟩⟩
theorem vX9_18 : zCV RX9 18 9 yX9_is cX9_is 2 (some .boolean) 1 := ⟨⟨_, _, rfl⟩, z_gV mw_822 mw_824 mw_20 mw_52 mw_826, ⟨rfl, by decide +kernel, by decide +kernel, by decide +kernel⟩⟩
theorem fX9_28 : zF RX9 28 9 5 "sheets" := ⟨RX9, TX9, 50, rfl, by decide, uw9, mw_865, rfl⟩
theorem sX9_36 : zCS RX9 36 yX9_cut cX9_cut 3 (some .long) 2 := ⟨z_gS mw_835 mw_836 mw_52 mw_837, ⟨by decide +kernel, by decide +kernel, by decide +kernel⟩⟩
theorem vX9_32 : zCV RX9 32 9 yX9_wrong cX9_wrong 3 (some .int) 2 := ⟨⟨_, _, rfl⟩, z_gV mw_831 mw_833 mw_21 mw_52 mw_834, ⟨rfl, by decide +kernel, by decide +kernel, by decide +kernel⟩⟩
theorem gX9_48 : zG RX9 48 9 6 .int := ⟨RX9, TX9, 50, tyX9, rfl, by decide, uw9, mw_866, tyX9_ok, nmX9, rfl, by decide +kernel⟩
theorem gX9_51 : zG RX9 51 9 7 .int := ⟨RX9, TX9, 50, tyX9, rfl, by decide, uw9, mw_867, tyX9_ok, nmX9, rfl, by decide +kernel⟩
theorem gX9_54 : zG RX9 54 9 8 .int := ⟨RX9, TX9, 50, tyX9, rfl, by decide, uw9, mw_868, tyX9_ok, nmX9, rfl, by decide +kernel⟩
theorem gX9_57 : zG RX9 57 9 9 .int := ⟨RX9, TX9, 50, tyX9, rfl, by decide, uw9, mw_869, tyX9_ok, nmX9, rfl, by decide +kernel⟩
theorem fX9_63 : zF RX9 63 9 11 "sum" := ⟨RX9, TX9, 50, rfl, by decide, uw9, mw_871, rfl⟩
theorem fX9_60 : zF RX9 60 9 10 "weight" := ⟨RX9, TX9, 50, rfl, by decide, uw9, mw_870, rfl⟩
theorem gX9_7 : zG RX9 7 9 1 .long := ⟨RX9, TX9, 50, tyX9, rfl, by decide, uw9, mw_861, tyX9_ok, nmX9, rfl, by decide +kernel⟩
theorem gX9_11 : zG RX9 11 9 2 .long := ⟨RX9, TX9, 50, tyX9, rfl, by decide, uw9, mw_862, tyX9_ok, nmX9, rfl, by decide +kernel⟩
theorem sX9_151 : zCS RX9 151 yX9_power cX9_power 6 (some .long) 2 := ⟨z_gS mw_1042 mw_1043 mw_52 mw_1044, ⟨by decide +kernel, by decide +kernel, by decide +kernel⟩⟩
theorem sX9_147 : zCS RX9 147 yX9_pick cX9_pick 5 (some .long) 2 := ⟨z_gS mw_1039 mw_1040 mw_52 mw_1041, ⟨by decide +kernel, by decide +kernel, by decide +kernel⟩⟩
theorem vX9_154 : zCV RX9 154 9 yX9_refuse cX9_refuse 2 (some .int) 1 := ⟨⟨_, _, rfl⟩, z_gV mw_1028 mw_1030 mw_22 mw_52 mw_1031, ⟨rfl, by decide +kernel, by decide +kernel, by decide +kernel⟩⟩
theorem fX9_48 : zF RX9 48 9 6 "n" := ⟨RX9, TX9, 50, rfl, by decide, uw9, mw_866, rfl⟩
theorem fX9_54 : zF RX9 54 9 8 "r" := ⟨RX9, TX9, 50, rfl, by decide, uw9, mw_868, rfl⟩
theorem fX9_51 : zF RX9 51 9 7 "w" := ⟨RX9, TX9, 50, rfl, by decide, uw9, mw_867, rfl⟩
theorem vX9_158 : zCV RX9 158 9 yX9_both cX9_both 6 (some .int) 3 := ⟨⟨_, _, rfl⟩, z_gV mw_1032 mw_1034 mw_23 mw_52 mw_1035, ⟨rfl, by decide +kernel, by decide +kernel, by decide +kernel⟩⟩
theorem vX9_166 : zCV RX9 166 9 yX9_tells cX9_tells 11 (some .int) 2 := ⟨⟨_, _, rfl⟩, z_gV mw_1045 mw_1047 mw_24 mw_52 mw_1048, ⟨rfl, by decide +kernel, by decide +kernel, by decide +kernel⟩⟩
theorem sX9_162 : zCS RX9 162 yX9_nth cX9_nth 12 (some .long) 5 := ⟨z_gS mw_1036 mw_1037 mw_52 mw_1038, ⟨by decide +kernel, by decide +kernel, by decide +kernel⟩⟩
theorem fX9_66 : zF RX9 66 9 12 "one" := ⟨RX9, TX9, 50, rfl, by decide, uw9, mw_872, rfl⟩
theorem fX9_57 : zF RX9 57 9 9 "gap" := ⟨RX9, TX9, 50, rfl, by decide, uw9, mw_869, rfl⟩
theorem vX9_172 : zCV RX9 172 9 yX9_above cX9_above 5 (some .long) 1 := ⟨⟨_, _, rfl⟩, z_gV mw_1069 mw_1071 mw_28 mw_52 mw_1072, ⟨rfl, by decide +kernel, by decide +kernel, by decide +kernel⟩⟩
theorem fX9_69 : zF RX9 69 9 13 "now" := ⟨RX9, TX9, 50, rfl, by decide, uw9, mw_873, rfl⟩
theorem fX9_72 : zF RX9 72 9 14 "then" := ⟨RX9, TX9, 50, rfl, by decide, uw9, mw_874, rfl⟩
theorem gX9_69 : zG RX9 69 9 13 (.array .long) := ⟨RX9, TX9, 50, tyX9, rfl, by decide, uw9, mw_873, tyX9_ok, nmX9, rfl, by decide +kernel⟩
theorem gX9_72 : zG RX9 72 9 14 (.array .long) := ⟨RX9, TX9, 50, tyX9, rfl, by decide, uw9, mw_874, tyX9_ok, nmX9, rfl, by decide +kernel⟩
theorem sX9_180 : zCS RX9 180 yX9_mark cX9_mark 4 (some .int) 4 := ⟨z_gS mw_1081 mw_1082 mw_52 mw_1083, ⟨by decide +kernel, by decide +kernel, by decide +kernel⟩⟩
theorem vX9_176 : zCV RX9 176 9 yX9_spread cX9_spread 11 none 5 := ⟨⟨_, _, rfl⟩, z_gV mw_1077 mw_1079 mw_30 mw_52 mw_1080, ⟨rfl, by decide +kernel, by decide +kernel, by decide +kernel⟩⟩
theorem fX9_75 : zF RX9 75 9 15 "kind" := ⟨RX9, TX9, 50, rfl, by decide, uw9, mw_875, rfl⟩
theorem vX9_184 : zCV RX9 184 9 yX9_look cX9_look 19 none 4 := ⟨⟨_, _, rfl⟩, z_gV mw_1065 mw_1067 mw_27 mw_52 mw_1068, ⟨rfl, by decide +kernel, by decide +kernel, by decide +kernel⟩⟩
theorem vX9_188 : zCV RX9 188 9 yX9_ways cX9_ways 10 (some .long) 4 := ⟨⟨_, _, rfl⟩, z_gV mw_1073 mw_1075 mw_29 mw_52 mw_1076, ⟨rfl, by decide +kernel, by decide +kernel, by decide +kernel⟩⟩
theorem vX9_199 : zCV RX9 199 9 yX9_oldWays cX9_oldWays 14 (some .long) 6 := ⟨⟨_, _, rfl⟩, z_gV mw_1061 mw_1063 mw_26 mw_52 mw_1064, ⟨rfl, by decide +kernel, by decide +kernel, by decide +kernel⟩⟩
theorem vX9_196 : zCV RX9 196 9 yX9_allWays cX9_allWays 8 (some .long) 2 := ⟨⟨_, _, rfl⟩, z_gV mw_1056 mw_1058 mw_25 mw_52 mw_1059, ⟨rfl, by decide +kernel, by decide +kernel, by decide +kernel⟩⟩
theorem sX9_192 : zCS RX9 192 yX9_isAsked cX9_isAsked 3 (some .boolean) 3 := ⟨z_gS mw_1053 mw_1054 mw_52 mw_1055, ⟨by decide +kernel, by decide +kernel, by decide +kernel⟩⟩
theorem sX9_204 : zCS RX9 204 yX9_isAbove cX9_isAbove 24 (some .boolean) 4 := ⟨z_gS mw_1089 mw_1090 mw_52 mw_1091, ⟨by decide +kernel, by decide +kernel, by decide +kernel⟩⟩
theorem gX9_208 : zG RX9 208 9 16 .boolean := ⟨RX9, TX9, 50, tyX9, rfl, by decide, uw9, mw_876, tyX9_ok, nmX9, rfl, by decide +kernel⟩
theorem gX9_212 : zG RX9 212 9 17 .boolean := ⟨RX9, TX9, 50, tyX9, rfl, by decide, uw9, mw_877, tyX9_ok, nmX9, rfl, by decide +kernel⟩
theorem gX9_215 : zG RX9 215 9 18 .int := ⟨RX9, TX9, 50, tyX9, rfl, by decide, uw9, mw_878, tyX9_ok, nmX9, rfl, by decide +kernel⟩
theorem gX9_218 : zG RX9 218 9 19 .int := ⟨RX9, TX9, 50, tyX9, rfl, by decide, uw9, mw_879, tyX9_ok, nmX9, rfl, by decide +kernel⟩
theorem gX9_221 : zG RX9 221 9 20 .int := ⟨RX9, TX9, 50, tyX9, rfl, by decide, uw9, mw_880, tyX9_ok, nmX9, rfl, by decide +kernel⟩
theorem gX9_224 : zG RX9 224 9 21 .int := ⟨RX9, TX9, 50, tyX9, rfl, by decide, uw9, mw_881, tyX9_ok, nmX9, rfl, by decide +kernel⟩
theorem gX9_227 : zG RX9 227 9 22 .int := ⟨RX9, TX9, 50, tyX9, rfl, by decide, uw9, mw_882, tyX9_ok, nmX9, rfl, by decide +kernel⟩
theorem gX9_230 : zG RX9 230 9 23 .int := ⟨RX9, TX9, 50, tyX9, rfl, by decide, uw9, mw_883, tyX9_ok, nmX9, rfl, by decide +kernel⟩
theorem gX9_233 : zG RX9 233 9 24 .int := ⟨RX9, TX9, 50, tyX9, rfl, by decide, uw9, mw_884, tyX9_ok, nmX9, rfl, by decide +kernel⟩
theorem gX9_236 : zG RX9 236 9 25 .int := ⟨RX9, TX9, 50, tyX9, rfl, by decide, uw9, mw_885, tyX9_ok, nmX9, rfl, by decide +kernel⟩
theorem gX9_239 : zG RX9 239 9 26 .int := ⟨RX9, TX9, 50, tyX9, rfl, by decide, uw9, mw_886, tyX9_ok, nmX9, rfl, by decide +kernel⟩
theorem gX9_242 : zG RX9 242 9 39 .int := ⟨RX9, TX9, 50, tyX9, rfl, by decide, uw9, mw_899, tyX9_ok, nmX9, rfl, by decide +kernel⟩
theorem fX9_78 : zF RX9 78 9 27 "version" := ⟨RX9, TX9, 50, rfl, by decide, uw9, mw_887, rfl⟩
theorem fX9_84 : zF RX9 84 9 29 "isUp" := ⟨RX9, TX9, 50, rfl, by decide, uw9, mw_889, rfl⟩
theorem fX9_81 : zF RX9 81 9 28 "handed" := ⟨RX9, TX9, 50, rfl, by decide, uw9, mw_888, rfl⟩
theorem fX9_88 : zF RX9 88 9 30 "kept" := ⟨RX9, TX9, 50, rfl, by decide, uw9, mw_890, rfl⟩
theorem fX9_91 : zF RX9 91 9 31 "seen" := ⟨RX9, TX9, 50, rfl, by decide, uw9, mw_891, rfl⟩
theorem fX9_208 : zF RX9 208 9 16 "isRun" := ⟨RX9, TX9, 50, rfl, by decide, uw9, mw_876, rfl⟩
theorem sX9_245 : zCS RX9 245 yX9_isReader cX9_isReader 1 (some .boolean) 1 := ⟨z_gS mw_1104 mw_1105 mw_52 mw_1106, ⟨by decide +kernel, by decide +kernel, by decide +kernel⟩⟩
theorem fX9_94 : zF RX9 94 9 32 "when" := ⟨RX9, TX9, 50, rfl, by decide, uw9, mw_892, rfl⟩
theorem fX9_242 : zF RX9 242 9 39 "underWay" := ⟨RX9, TX9, 50, rfl, by decide, uw9, mw_899, rfl⟩
theorem fX9_224 : zF RX9 224 9 21 "tick" := ⟨RX9, TX9, 50, rfl, by decide, uw9, mw_881, rfl⟩
theorem fX9_97 : zF RX9 97 9 33 "order" := ⟨RX9, TX9, 50, rfl, by decide, uw9, mw_893, rfl⟩
theorem fX9_227 : zF RX9 227 9 22 "sent" := ⟨RX9, TX9, 50, rfl, by decide, uw9, mw_882, rfl⟩
theorem fX9_100 : zF RX9 100 9 34 "what" := ⟨RX9, TX9, 50, rfl, by decide, uw9, mw_894, rfl⟩
theorem fX9_103 : zF RX9 103 9 35 "act" := ⟨RX9, TX9, 50, rfl, by decide, uw9, mw_895, rfl⟩
theorem fX9_106 : zF RX9 106 9 36 "who" := ⟨RX9, TX9, 50, rfl, by decide, uw9, mw_896, rfl⟩
theorem fX9_109 : zF RX9 109 9 37 "carries" := ⟨RX9, TX9, 50, rfl, by decide, uw9, mw_897, rfl⟩
theorem fX9_112 : zF RX9 112 9 38 "back" := ⟨RX9, TX9, 50, rfl, by decide, uw9, mw_898, rfl⟩
theorem fX9_215 : zF RX9 215 9 18 "copies" := ⟨RX9, TX9, 50, rfl, by decide, uw9, mw_878, rfl⟩
theorem fX9_236 : zF RX9 236 9 25 "writings" := ⟨RX9, TX9, 50, rfl, by decide, uw9, mw_885, rfl⟩
theorem vX9_250 : zCV RX9 250 9 yX9_wrongDelays cX9_wrongDelays 3 (some .int) 1 := ⟨⟨_, _, rfl⟩, z_gV mw_1111 mw_1113 mw_31 mw_52 mw_1114, ⟨rfl, by decide +kernel, by decide +kernel, by decide +kernel⟩⟩
theorem fX9_115 : zF RX9 115 9 40 "words" := ⟨RX9, TX9, 50, rfl, by decide, uw9, mw_900, rfl⟩
theorem fX9_118 : zF RX9 118 9 41 "written" := ⟨RX9, TX9, 50, rfl, by decide, uw9, mw_901, rfl⟩
theorem vX9_260 : zCV RX9 260 9 yX9_workOff cX9_workOff 7 none 0 := ⟨⟨_, _, rfl⟩, z_gV mw_1124 mw_1126 mw_34 mw_52 mw_1127, ⟨rfl, by decide +kernel, by decide +kernel, by decide +kernel⟩⟩
theorem vX9_256 : zCV RX9 256 9 yX9_send cX9_send 7 none 6 := ⟨⟨_, _, rfl⟩, z_gV mw_1120 mw_1122 mw_33 mw_52 mw_1123, ⟨rfl, by decide +kernel, by decide +kernel, by decide +kernel⟩⟩
theorem vX9_253 : zCV RX9 253 9 yX9_delay cX9_delay 3 (some .int) 2 := ⟨⟨_, _, rfl⟩, z_gV mw_1116 mw_1118 mw_32 mw_52 mw_1119, ⟨rfl, by decide +kernel, by decide +kernel, by decide +kernel⟩⟩
theorem fX9_239 : zF RX9 239 9 26 "readings" := ⟨RX9, TX9, 50, rfl, by decide, uw9, mw_886, rfl⟩
theorem fX9_121 : zF RX9 121 9 42 "began" := ⟨RX9, TX9, 50, rfl, by decide, uw9, mw_902, rfl⟩
theorem fX9_124 : zF RX9 124 9 43 "reader" := ⟨RX9, TX9, 50, rfl, by decide, uw9, mw_903, rfl⟩
theorem fX9_127 : zF RX9 127 9 44 "answers" := ⟨RX9, TX9, 50, rfl, by decide, uw9, mw_904, rfl⟩
theorem fX9_130 : zF RX9 130 9 45 "ended" := ⟨RX9, TX9, 50, rfl, by decide, uw9, mw_905, rfl⟩
theorem vX9_263 : zCV RX9 263 9 yX9_due cX9_due 3 (some .int) 0 := ⟨⟨_, _, rfl⟩, z_gV mw_1128 mw_1130 mw_35 mw_52 mw_1131, ⟨rfl, by decide +kernel, by decide +kernel, by decide +kernel⟩⟩
theorem vX9_267 : zCV RX9 267 9 yX9_comes cX9_comes 6 none 5 := ⟨⟨_, _, rfl⟩, z_gV mw_1132 mw_1134 mw_36 mw_52 mw_1135, ⟨rfl, by decide +kernel, by decide +kernel, by decide +kernel⟩⟩
theorem fX9_218 : zF RX9 218 9 19 "waits" := ⟨RX9, TX9, 50, rfl, by decide, uw9, mw_879, rfl⟩
theorem vX9_275 : zCV RX9 275 9 yX9_hand cX9_hand 4 none 2 := ⟨⟨_, _, rfl⟩, z_gV mw_1137 mw_1139 mw_37 mw_52 mw_1140, ⟨rfl, by decide +kernel, by decide +kernel, by decide +kernel⟩⟩
theorem hX9_270 : zMath RX9 270 Lib.Math.max.name Lib.Math.max.code := ⟨mw_1136, mw_678, mw_53, mw_679⟩
theorem fX9_221 : zF RX9 221 9 20 "asks" := ⟨RX9, TX9, 50, rfl, by decide, uw9, mw_880, rfl⟩
theorem vX9_279 : zCV RX9 279 9 yX9_answer cX9_answer 8 none 3 := ⟨⟨_, _, rfl⟩, z_gV mw_1141 mw_1143 mw_38 mw_52 mw_1144, ⟨rfl, by decide +kernel, by decide +kernel, by decide +kernel⟩⟩
theorem fX9_230 : zF RX9 230 9 23 "lost" := ⟨RX9, TX9, 50, rfl, by decide, uw9, mw_883, rfl⟩
theorem fX9_139 : zF RX9 139 9 48 "answered" := ⟨RX9, TX9, 50, rfl, by decide, uw9, mw_908, rfl⟩
theorem fX9_142 : zF RX9 142 9 49 "answeredBy" := ⟨RX9, TX9, 50, rfl, by decide, uw9, mw_909, rfl⟩
theorem fX9_136 : zF RX9 136 9 47 "greatest" := ⟨RX9, TX9, 50, rfl, by decide, uw9, mw_907, rfl⟩
theorem fX9_133 : zF RX9 133 9 46 "told" := ⟨RX9, TX9, 50, rfl, by decide, uw9, mw_906, rfl⟩
theorem fX9_233 : zF RX9 233 9 24 "raises" := ⟨RX9, TX9, 50, rfl, by decide, uw9, mw_884, rfl⟩
theorem fX9_212 : zF RX9 212 9 17 "mends" := ⟨RX9, TX9, 50, rfl, by decide, uw9, mw_877, rfl⟩
theorem vX9_283 : zCV RX9 283 9 yX9_wrongCopy cX9_wrongCopy 2 (some .int) 1 := ⟨⟨_, _, rfl⟩, z_gV mw_1157 mw_1159 mw_39 mw_52 mw_1160, ⟨rfl, by decide +kernel, by decide +kernel, by decide +kernel⟩⟩
theorem vX9_286 : zCV RX9 286 9 yX9_gives cX9_gives 4 (some .int) 2 := ⟨⟨_, _, rfl⟩, z_gV mw_1165 mw_1167 mw_40 mw_52 mw_1168, ⟨rfl, by decide +kernel, by decide +kernel, by decide +kernel⟩⟩
theorem vX9_289 : zCV RX9 289 9 yX9_missed cX9_missed 4 (some .int) 1 := ⟨⟨_, _, rfl⟩, z_gV mw_1185 mw_1187 mw_41 mw_52 mw_1188, ⟨rfl, by decide +kernel, by decide +kernel, by decide +kernel⟩⟩
