def bc_vT (j p1 p2 p3 : Nat) : Bool := bc_wat p1 (.initialized (bc_yt j).1.cls) && (plainName (bc_yt j).1.cls && (decide ((bc_yt j).1.cls ≠ "java/lang/invoke/MethodHandle") && (decide ((bc_yt j).1.cls ≠ "java/lang/invoke/VarHandle") && (decide ((parseMethodDescriptor (bc_yt j).1.desc).map (fun d => d.parameters.length) = some (bc_yt j).2.2.2.2.1) && (decide ((bc_yt j).2.2.1 ≤ 30) && (match bc_fg j with
  | true => bc_wat p2 (.static (bc_yt j).1)
  | false => bc_wat p2 (.instanceMethod (bc_yt j).1) && bc_wat p3 (.selects (bc_yt j).1.cls (bc_yt j).1 (bc_yt j).1)))))))
theorem bc_vT_ok {j p1 p2 p3 : Nat} (h : bc_vT j p1 p2 p3 = true) (hw : bc_cw (bc_yt j) ∈ bc_W) (hr : (bc_yt j).1.cls = bc_rn (bc_yt j).2.2.2.2.2.1) (ho : bc_ok1 (bc_yt j).2.1 (bc_yt j).2.2.2.2.2.2.2.2) : bc_vY j := by
  unfold bc_vT at h
  obtain ⟨h1, h⟩ := Bool.and_eq_true_iff.mp h
  obtain ⟨h2, h⟩ := Bool.and_eq_true_iff.mp h
  obtain ⟨h3, h⟩ := Bool.and_eq_true_iff.mp h
  obtain ⟨h4, h⟩ := Bool.and_eq_true_iff.mp h
  obtain ⟨h5, h⟩ := Bool.and_eq_true_iff.mp h
  obtain ⟨h7, h⟩ := Bool.and_eq_true_iff.mp h
  refine ⟨hw, bc_wat_ok h1, h2, of_decide_eq_true h3, of_decide_eq_true h4, of_decide_eq_true h5, hr, of_decide_eq_true h7, ho, ?_⟩
  cases hg : bc_fg j with
  | true =>
    rw [hg] at h
    exact bc_wat_ok h
  | false =>
    rw [hg] at h
    obtain ⟨h8, h9⟩ := Bool.and_eq_true_iff.mp h
    exact ⟨bc_wat_ok h8, bc_wat_ok h9⟩
theorem z_X0_init : ∀ pc, 26 ≤ pc → pX0_init pc = none := fun _ h => by unfold pX0_init; exact bc_cut_none h
theorem z_X0_separates : ∀ pc, 66 ≤ pc → pX0_separates pc = none := fun _ h => by unfold pX0_separates; exact bc_cut_none h
theorem z_X0_visit : ∀ pc, 142 ≤ pc → pX0_visit pc = none := fun _ h => by unfold pX0_visit; exact bc_cut_none h
theorem z_X1_forget : ∀ pc, 6 ≤ pc → pX1_forget pc = none := fun _ h => by unfold pX1_forget; exact bc_cut_none h
theorem z_X1_init : ∀ pc, 51 ≤ pc → pX1_init pc = none := fun _ h => by unfold pX1_init; exact bc_cut_none h
theorem z_X1_remember : ∀ pc, 42 ≤ pc → pX1_remember pc = none := fun _ h => by unfold pX1_remember; exact bc_cut_none h
theorem z_X2_append : ∀ pc, 84 ≤ pc → pX2_append pc = none := fun _ h => by unfold pX2_append; exact bc_cut_none h
theorem z_X2_atRank : ∀ pc, 29 ≤ pc → pX2_atRank pc = none := fun _ h => by unfold pX2_atRank; exact bc_cut_none h
theorem z_X2_bearingOf : ∀ pc, 33 ≤ pc → pX2_bearingOf pc = none := fun _ h => by unfold pX2_bearingOf; exact bc_cut_none h
theorem z_X2_bearingSum : ∀ pc, 28 ≤ pc → pX2_bearingSum pc = none := fun _ h => by unfold pX2_bearingSum; exact bc_cut_none h
theorem z_X2_between : ∀ pc, 60 ≤ pc → pX2_between pc = none := fun _ h => by unfold pX2_between; exact bc_cut_none h
theorem z_X2_comesBefore : ∀ pc, 78 ≤ pc → pX2_comesBefore pc = none := fun _ h => by unfold pX2_comesBefore; exact bc_cut_none h
theorem z_X2_connects : ∀ pc, 107 ≤ pc → pX2_connects pc = none := fun _ h => by unfold pX2_connects; exact bc_cut_none h
theorem z_X2_copyFrom : ∀ pc, 110 ≤ pc → pX2_copyFrom pc = none := fun _ h => by unfold pX2_copyFrom; exact bc_cut_none h
theorem z_X2_costOf : ∀ pc, 20 ≤ pc → pX2_costOf pc = none := fun _ h => by unfold pX2_costOf; exact bc_cut_none h
theorem z_X2_crackedCount : ∀ pc, 32 ≤ pc → pX2_crackedCount pc = none := fun _ h => by unfold pX2_crackedCount; exact bc_cut_none h
theorem z_X2_has : ∀ pc, 18 ≤ pc → pX2_has pc = none := fun _ h => by unfold pX2_has; exact bc_cut_none h
theorem z_X2_init : ∀ pc, 58 ≤ pc → pX2_init pc = none := fun _ h => by unfold pX2_init; exact bc_cut_none h
theorem z_X2_leave : ∀ pc, 42 ≤ pc → pX2_leave pc = none := fun _ h => by unfold pX2_leave; exact bc_cut_none h
theorem z_X2_rankOf : ∀ pc, 32 ≤ pc → pX2_rankOf pc = none := fun _ h => by unfold pX2_rankOf; exact bc_cut_none h
theorem z_X2_renew : ∀ pc, 15 ≤ pc → pX2_renew pc = none := fun _ h => by unfold pX2_renew; exact bc_cut_none h
theorem z_X2_someBears : ∀ pc, 29 ≤ pc → pX2_someBears pc = none := fun _ h => by unfold pX2_someBears; exact bc_cut_none h
theorem z_X2_wearDown : ∀ pc, 42 ≤ pc → pX2_wearDown pc = none := fun _ h => by unfold pX2_wearDown; exact bc_cut_none h
theorem z_X3_copyFrom : ∀ pc, 23 ≤ pc → pX3_copyFrom pc = none := fun _ h => by unfold pX3_copyFrom; exact bc_cut_none h
theorem z_X3_dedicate : ∀ pc, 32 ≤ pc → pX3_dedicate pc = none := fun _ h => by unfold pX3_dedicate; exact bc_cut_none h
theorem z_X3_init : ∀ pc, 18 ≤ pc → pX3_init pc = none := fun _ h => by unfold pX3_init; exact bc_cut_none h
theorem z_X3_place : ∀ pc, 12 ≤ pc → pX3_place pc = none := fun _ h => by unfold pX3_place; exact bc_cut_none h
theorem z_X3_total : ∀ pc, 26 ≤ pc → pX3_total pc = none := fun _ h => by unfold pX3_total; exact bc_cut_none h
theorem z_X4_cheapestUnsettled : ∀ pc, 49 ≤ pc → pX4_cheapestUnsettled pc = none := fun _ h => by unfold pX4_cheapestUnsettled; exact bc_cut_none h
theorem z_X4_cheapestWay : ∀ pc, 137 ≤ pc → pX4_cheapestWay pc = none := fun _ h => by unfold pX4_cheapestWay; exact bc_cut_none h
theorem z_X4_closePrices : ∀ pc, 79 ≤ pc → pX4_closePrices pc = none := fun _ h => by unfold pX4_closePrices; exact bc_cut_none h
theorem z_X4_fillTable : ∀ pc, 80 ≤ pc → pX4_fillTable pc = none := fun _ h => by unfold pX4_fillTable; exact bc_cut_none h
theorem z_X4_init : ∀ pc, 45 ≤ pc → pX4_init pc = none := fun _ h => by unfold pX4_init; exact bc_cut_none h
theorem z_X4_isWorthTrying : ∀ pc, 60 ≤ pc → pX4_isWorthTrying pc = none := fun _ h => by unfold pX4_isWorthTrying; exact bc_cut_none h
theorem z_X4_loadByWays : ∀ pc, 49 ≤ pc → pX4_loadByWays pc = none := fun _ h => by unfold pX4_loadByWays; exact bc_cut_none h
theorem z_X4_noteAffordable : ∀ pc, 66 ≤ pc → pX4_noteAffordable pc = none := fun _ h => by unfold pX4_noteAffordable; exact bc_cut_none h
theorem z_X4_priceOf : ∀ pc, 41 ≤ pc → pX4_priceOf pc = none := fun _ h => by unfold pX4_priceOf; exact bc_cut_none h
theorem z_X4_setPrices : ∀ pc, 111 ≤ pc → pX4_setPrices pc = none := fun _ h => by unfold pX4_setPrices; exact bc_cut_none h
theorem z_X5_accept : ∀ pc, 29 ≤ pc → pX5_accept pc = none := fun _ h => by unfold pX5_accept; exact bc_cut_none h
theorem z_X5_argument : ∀ pc, 44 ≤ pc → pX5_argument pc = none := fun _ h => by unfold pX5_argument; exact bc_cut_none h
theorem z_X5_formOf : ∀ pc, 74 ≤ pc → pX5_formOf pc = none := fun _ h => by unfold pX5_formOf; exact bc_cut_none h
theorem z_X5_init : ∀ pc, 45 ≤ pc → pX5_init pc = none := fun _ h => by unfold pX5_init; exact bc_cut_none h
theorem z_X5_isDigit : ∀ pc, 18 ≤ pc → pX5_isDigit pc = none := fun _ h => by unfold pX5_isDigit; exact bc_cut_none h
theorem z_X5_kindAt : ∀ pc, 23 ≤ pc → pX5_kindAt pc = none := fun _ h => by unfold pX5_kindAt; exact bc_cut_none h
theorem z_X5_matchedLength : ∀ pc, 39 ≤ pc → pX5_matchedLength pc = none := fun _ h => by unfold pX5_matchedLength; exact bc_cut_none h
theorem z_X5_parse : ∀ pc, 95 ≤ pc → pX5_parse pc = none := fun _ h => by unfold pX5_parse; exact bc_cut_none h
theorem z_X5_readArguments : ∀ pc, 123 ≤ pc → pX5_readArguments pc = none := fun _ h => by unfold pX5_readArguments; exact bc_cut_none h
theorem z_X5_readValue : ∀ pc, 129 ≤ pc → pX5_readValue pc = none := fun _ h => by unfold pX5_readValue; exact bc_cut_none h
theorem z_X5_readWord : ∀ pc, 66 ≤ pc → pX5_readWord pc = none := fun _ h => by unfold pX5_readWord; exact bc_cut_none h
theorem z_X5_wordOf : ∀ pc, 82 ≤ pc → pX5_wordOf pc = none := fun _ h => by unfold pX5_wordOf; exact bc_cut_none h
theorem z_X6_copyFrom : ∀ pc, 34 ≤ pc → pX6_copyFrom pc = none := fun _ h => by unfold pX6_copyFrom; exact bc_cut_none h
theorem z_X6_init : ∀ pc, 38 ≤ pc → pX6_init pc = none := fun _ h => by unfold pX6_init; exact bc_cut_none h
theorem z_X7_append : ∀ pc, 30 ≤ pc → pX7_append pc = none := fun _ h => by unfold pX7_append; exact bc_cut_none h
theorem z_X7_appendNumber : ∀ pc, 34 ≤ pc → pX7_appendNumber pc = none := fun _ h => by unfold pX7_appendNumber; exact bc_cut_none h
theorem z_X7_at : ∀ pc, 19 ≤ pc → pX7_at pc = none := fun _ h => by unfold pX7_at; exact bc_cut_none h
theorem z_X7_clear : ∀ pc, 6 ≤ pc → pX7_clear pc = none := fun _ h => by unfold pX7_clear; exact bc_cut_none h
theorem z_X7_has : ∀ pc, 18 ≤ pc → pX7_has pc = none := fun _ h => by unfold pX7_has; exact bc_cut_none h
theorem z_X7_init : ∀ pc, 18 ≤ pc → pX7_init pc = none := fun _ h => by unfold pX7_init; exact bc_cut_none h
theorem z_X8_accountedSteel : ∀ pc, 18 ≤ pc → pX8_accountedSteel pc = none := fun _ h => by unfold pX8_accountedSteel; exact bc_cut_none h
theorem z_X8_copyFrom : ∀ pc, 126 ≤ pc → pX8_copyFrom pc = none := fun _ h => by unfold pX8_copyFrom; exact bc_cut_none h
theorem z_X8_greatestFurther : ∀ pc, 49 ≤ pc → pX8_greatestFurther pc = none := fun _ h => by unfold pX8_greatestFurther; exact bc_cut_none h
theorem z_X8_heatForge : ∀ pc, 12 ≤ pc → pX8_heatForge pc = none := fun _ h => by unfold pX8_heatForge; exact bc_cut_none h
theorem z_X8_init : ∀ pc, 80 ≤ pc → pX8_init pc = none := fun _ h => by unfold pX8_init; exact bc_cut_none h
theorem z_X8_isDueDayAllowed : ∀ pc, 25 ≤ pc → pX8_isDueDayAllowed pc = none := fun _ h => by unfold pX8_isDueDayAllowed; exact bc_cut_none h
theorem z_X8_keepsAllBySums : ∀ pc, 33 ≤ pc → pX8_keepsAllBySums pc = none := fun _ h => by unfold pX8_keepsAllBySums; exact bc_cut_none h
theorem z_X8_keepsAllDayByDay : ∀ pc, 74 ≤ pc → pX8_keepsAllDayByDay pc = none := fun _ h => by unfold pX8_keepsAllDayByDay; exact bc_cut_none h
theorem z_X8_pass : ∀ pc, 65 ≤ pc → pX8_pass pc = none := fun _ h => by unfold pX8_pass; exact bc_cut_none h
theorem z_X8_payRepair : ∀ pc, 21 ≤ pc → pX8_payRepair pc = none := fun _ h => by unfold pX8_payRepair; exact bc_cut_none h
theorem z_X8_promise : ∀ pc, 68 ≤ pc → pX8_promise pc = none := fun _ h => by unfold pX8_promise; exact bc_cut_none h
theorem z_X8_rankOfSlot : ∀ pc, 80 ≤ pc → pX8_rankOfSlot pc = none := fun _ h => by unfold pX8_rankOfSlot; exact bc_cut_none h
theorem z_X8_settle : ∀ pc, 52 ≤ pc → pX8_settle pc = none := fun _ h => by unfold pX8_settle; exact bc_cut_none h
theorem z_X8_settleDueVows : ∀ pc, 89 ≤ pc → pX8_settleDueVows pc = none := fun _ h => by unfold pX8_settleDueVows; exact bc_cut_none h
theorem z_X8_slotAtRank : ∀ pc, 29 ≤ pc → pX8_slotAtRank pc = none := fun _ h => by unfold pX8_slotAtRank; exact bc_cut_none h
theorem z_X8_slotOf : ∀ pc, 30 ≤ pc → pX8_slotOf pc = none := fun _ h => by unfold pX8_slotOf; exact bc_cut_none h
theorem z_X8_spareOn : ∀ pc, 54 ≤ pc → pX8_spareOn pc = none := fun _ h => by unfold pX8_spareOn; exact bc_cut_none h
theorem z_X9_findBest : ∀ pc, 89 ≤ pc → pX9_findBest pc = none := fun _ h => by unfold pX9_findBest; exact bc_cut_none h
theorem z_X9_init : ∀ pc, 54 ≤ pc → pX9_init pc = none := fun _ h => by unfold pX9_init; exact bc_cut_none h
theorem z_X9_linkBits : ∀ pc, 58 ≤ pc → pX9_linkBits pc = none := fun _ h => by unfold pX9_linkBits; exact bc_cut_none h
theorem z_X9_lowestNearer : ∀ pc, 45 ≤ pc → pX9_lowestNearer pc = none := fun _ h => by unfold pX9_lowestNearer; exact bc_cut_none h
theorem z_X9_measureFrom : ∀ pc, 80 ≤ pc → pX9_measureFrom pc = none := fun _ h => by unfold pX9_measureFrom; exact bc_cut_none h
theorem z_X9_spread : ∀ pc, 50 ≤ pc → pX9_spread pc = none := fun _ h => by unfold pX9_spread; exact bc_cut_none h
theorem z_X9_survey : ∀ pc, 101 ≤ pc → pX9_survey pc = none := fun _ h => by unfold pX9_survey; exact bc_cut_none h
theorem z_X9_widestByGrowing : ∀ pc, 145 ≤ pc → pX9_widestByGrowing pc = none := fun _ h => by unfold pX9_widestByGrowing; exact bc_cut_none h
theorem z_X9_widestOutside : ∀ pc, 48 ≤ pc → pX9_widestOutside pc = none := fun _ h => by unfold pX9_widestOutside; exact bc_cut_none h
theorem z_X10_abandon : ∀ pc, 33 ≤ pc → pX10_abandon pc = none := fun _ h => by unfold pX10_abandon; exact bc_cut_none h
theorem z_X10_addMember : ∀ pc, 35 ≤ pc → pX10_addMember pc = none := fun _ h => by unfold pX10_addMember; exact bc_cut_none h
theorem z_X10_affordableLoad : ∀ pc, 38 ≤ pc → pX10_affordableLoad pc = none := fun _ h => by unfold pX10_affordableLoad; exact bc_cut_none h
theorem z_X10_affordableLoadByTable : ∀ pc, 47 ≤ pc → pX10_affordableLoadByTable pc = none := fun _ h => by unfold pX10_affordableLoadByTable; exact bc_cut_none h
theorem z_X10_amount : ∀ pc, 38 ≤ pc → pX10_amount pc = none := fun _ h => by unfold pX10_amount; exact bc_cut_none h
theorem z_X10_bearing : ∀ pc, 20 ≤ pc → pX10_bearing pc = none := fun _ h => by unfold pX10_bearing; exact bc_cut_none h
theorem z_X10_bitsOf : ∀ pc, 116 ≤ pc → pX10_bitsOf pc = none := fun _ h => by unfold pX10_bitsOf; exact bc_cut_none h
theorem z_X10_brokenTotal : ∀ pc, 11 ≤ pc → pX10_brokenTotal pc = none := fun _ h => by unfold pX10_brokenTotal; exact bc_cut_none h
theorem z_X10_canKeepAll : ∀ pc, 11 ≤ pc → pX10_canKeepAll pc = none := fun _ h => by unfold pX10_canKeepAll; exact bc_cut_none h
theorem z_X10_canKeepAllBySums : ∀ pc, 11 ≤ pc → pX10_canKeepAllBySums pc = none := fun _ h => by unfold pX10_canKeepAllBySums; exact bc_cut_none h
theorem z_X10_carryOut : ∀ pc, 243 ≤ pc → pX10_carryOut pc = none := fun _ h => by unfold pX10_carryOut; exact bc_cut_none h
theorem z_X10_commandFault : ∀ pc, 165 ≤ pc → pX10_commandFault pc = none := fun _ h => by unfold pX10_commandFault; exact bc_cut_none h
theorem z_X10_crack : ∀ pc, 21 ≤ pc → pX10_crack pc = none := fun _ h => by unfold pX10_crack; exact bc_cut_none h
theorem z_X10_crackedShare : ∀ pc, 39 ≤ pc → pX10_crackedShare pc = none := fun _ h => by unfold pX10_crackedShare; exact bc_cut_none h
theorem z_X10_criticalByRemoval : ∀ pc, 43 ≤ pc → pX10_criticalByRemoval pc = none := fun _ h => by unfold pX10_criticalByRemoval; exact bc_cut_none h
theorem z_X10_criticalBySearch : ∀ pc, 53 ≤ pc → pX10_criticalBySearch pc = none := fun _ h => by unfold pX10_criticalBySearch; exact bc_cut_none h
theorem z_X10_criticalMembersAgree : ∀ pc, 39 ≤ pc → pX10_criticalMembersAgree pc = none := fun _ h => by unfold pX10_criticalMembersAgree; exact bc_cut_none h
theorem z_X10_day : ∀ pc, 11 ≤ pc → pX10_day pc = none := fun _ h => by unfold pX10_day; exact bc_cut_none h
theorem z_X10_daysFault : ∀ pc, 17 ≤ pc → pX10_daysFault pc = none := fun _ h => by unfold pX10_daysFault; exact bc_cut_none h
theorem z_X10_dueDay : ∀ pc, 38 ≤ pc → pX10_dueDay pc = none := fun _ h => by unfold pX10_dueDay; exact bc_cut_none h
theorem z_X10_errorPosition : ∀ pc, 21 ≤ pc → pX10_errorPosition pc = none := fun _ h => by unfold pX10_errorPosition; exact bc_cut_none h
theorem z_X10_failedCommand : ∀ pc, 21 ≤ pc → pX10_failedCommand pc = none := fun _ h => by unfold pX10_failedCommand; exact bc_cut_none h
theorem z_X10_firstJoint : ∀ pc, 21 ≤ pc → pX10_firstJoint pc = none := fun _ h => by unfold pX10_firstJoint; exact bc_cut_none h
theorem z_X10_forgeFault : ∀ pc, 16 ≤ pc → pX10_forgeFault pc = none := fun _ h => by unfold pX10_forgeFault; exact bc_cut_none h
theorem z_X10_found : ∀ pc, 14 ≤ pc → pX10_found pc = none := fun _ h => by unfold pX10_found; exact bc_cut_none h
theorem z_X10_greatestVow : ∀ pc, 55 ≤ pc → pX10_greatestVow pc = none := fun _ h => by unfold pX10_greatestVow; exact bc_cut_none h
theorem z_X10_indexFault : ∀ pc, 20 ≤ pc → pX10_indexFault pc = none := fun _ h => by unfold pX10_indexFault; exact bc_cut_none h
theorem z_X10_init : ∀ pc, 119 ≤ pc → pX10_init pc = none := fun _ h => by unfold pX10_init; exact bc_cut_none h
theorem z_X10_isAbandoned : ∀ pc, 21 ≤ pc → pX10_isAbandoned pc = none := fun _ h => by unfold pX10_isAbandoned; exact bc_cut_none h
theorem z_X10_isConsistent : ∀ pc, 66 ≤ pc → pX10_isConsistent pc = none := fun _ h => by unfold pX10_isConsistent; exact bc_cut_none h
theorem z_X10_isCritical : ∀ pc, 14 ≤ pc → pX10_isCritical pc = none := fun _ h => by unfold pX10_isCritical; exact bc_cut_none h
theorem z_X10_isCriticalByRemoval : ∀ pc, 14 ≤ pc → pX10_isCriticalByRemoval pc = none := fun _ h => by unfold pX10_isCriticalByRemoval; exact bc_cut_none h
theorem z_X10_isJoint : ∀ pc, 16 ≤ pc → pX10_isJoint pc = none := fun _ h => by unfold pX10_isJoint; exact bc_cut_none h
theorem z_X10_isKind : ∀ pc, 18 ≤ pc → pX10_isKind pc = none := fun _ h => by unfold pX10_isKind; exact bc_cut_none h
theorem z_X10_keptTotal : ∀ pc, 11 ≤ pc → pX10_keptTotal pc = none := fun _ h => by unfold pX10_keptTotal; exact bc_cut_none h
theorem z_X10_leaveFault : ∀ pc, 38 ≤ pc → pX10_leaveFault pc = none := fun _ h => by unfold pX10_leaveFault; exact bc_cut_none h
theorem z_X10_links : ∀ pc, 22 ≤ pc → pX10_links pc = none := fun _ h => by unfold pX10_links; exact bc_cut_none h
theorem z_X10_makeVow : ∀ pc, 33 ≤ pc → pX10_makeVow pc = none := fun _ h => by unfold pX10_makeVow; exact bc_cut_none h
theorem z_X10_meanBearing : ∀ pc, 39 ≤ pc → pX10_meanBearing pc = none := fun _ h => by unfold pX10_meanBearing; exact bc_cut_none h
theorem z_X10_memberByBearing : ∀ pc, 27 ≤ pc → pX10_memberByBearing pc = none := fun _ h => by unfold pX10_memberByBearing; exact bc_cut_none h
theorem z_X10_memberCount : ∀ pc, 11 ≤ pc → pX10_memberCount pc = none := fun _ h => by unfold pX10_memberCount; exact bc_cut_none h
theorem z_X10_memberFault : ∀ pc, 77 ≤ pc → pX10_memberFault pc = none := fun _ h => by unfold pX10_memberFault; exact bc_cut_none h
theorem z_X10_mend : ∀ pc, 36 ≤ pc → pX10_mend pc = none := fun _ h => by unfold pX10_mend; exact bc_cut_none h
theorem z_X10_mendFault : ∀ pc, 63 ≤ pc → pX10_mendFault pc = none := fun _ h => by unfold pX10_mendFault; exact bc_cut_none h
theorem z_X10_nicheFault : ∀ pc, 13 ≤ pc → pX10_nicheFault pc = none := fun _ h => by unfold pX10_nicheFault; exact bc_cut_none h
theorem z_X10_nicheKind : ∀ pc, 11 ≤ pc → pX10_nicheKind pc = none := fun _ h => by unfold pX10_nicheKind; exact bc_cut_none h
theorem z_X10_nicheWeight : ∀ pc, 11 ≤ pc → pX10_nicheWeight pc = none := fun _ h => by unfold pX10_nicheWeight; exact bc_cut_none h
theorem z_X10_outputAt : ∀ pc, 28 ≤ pc → pX10_outputAt pc = none := fun _ h => by unfold pX10_outputAt; exact bc_cut_none h
theorem z_X10_pairFault : ∀ pc, 27 ≤ pc → pX10_pairFault pc = none := fun _ h => by unfold pX10_pairFault; exact bc_cut_none h
theorem z_X10_passDays : ∀ pc, 30 ≤ pc → pX10_passDays pc = none := fun _ h => by unfold pX10_passDays; exact bc_cut_none h
theorem z_X10_placeFault : ∀ pc, 68 ≤ pc → pX10_placeFault pc = none := fun _ h => by unfold pX10_placeFault; exact bc_cut_none h
theorem z_X10_procession : ∀ pc, 29 ≤ pc → pX10_procession pc = none := fun _ h => by unfold pX10_procession; exact bc_cut_none h
theorem z_X10_put : ∀ pc, 34 ≤ pc → pX10_put pc = none := fun _ h => by unfold pX10_put; exact bc_cut_none h
theorem z_X10_refuse : ∀ pc, 107 ≤ pc → pX10_refuse pc = none := fun _ h => by unfold pX10_refuse; exact bc_cut_none h
theorem z_X10_renderMember : ∀ pc, 167 ≤ pc → pX10_renderMember pc = none := fun _ h => by unfold pX10_renderMember; exact bc_cut_none h
theorem z_X10_renderWay : ∀ pc, 78 ≤ pc → pX10_renderWay pc = none := fun _ h => by unfold pX10_renderWay; exact bc_cut_none h
theorem z_X10_repair : ∀ pc, 25 ≤ pc → pX10_repair pc = none := fun _ h => by unfold pX10_repair; exact bc_cut_none h
theorem z_X10_repairCost : ∀ pc, 20 ≤ pc → pX10_repairCost pc = none := fun _ h => by unfold pX10_repairCost; exact bc_cut_none h
theorem z_X10_restore : ∀ pc, 44 ≤ pc → pX10_restore pc = none := fun _ h => by unfold pX10_restore; exact bc_cut_none h
theorem z_X10_resume : ∀ pc, 33 ≤ pc → pX10_resume pc = none := fun _ h => by unfold pX10_resume; exact bc_cut_none h
theorem z_X10_runCommands : ∀ pc, 69 ≤ pc → pX10_runCommands pc = none := fun _ h => by unfold pX10_runCommands; exact bc_cut_none h
theorem z_X10_runScript : ∀ pc, 78 ≤ pc → pX10_runScript pc = none := fun _ h => by unfold pX10_runScript; exact bc_cut_none h
theorem z_X10_save : ∀ pc, 27 ≤ pc → pX10_save pc = none := fun _ h => by unfold pX10_save; exact bc_cut_none h
theorem z_X10_secondJoint : ∀ pc, 21 ≤ pc → pX10_secondJoint pc = none := fun _ h => by unfold pX10_secondJoint; exact bc_cut_none h
theorem z_X10_setForge : ∀ pc, 30 ≤ pc → pX10_setForge pc = none := fun _ h => by unfold pX10_setForge; exact bc_cut_none h
theorem z_X10_setNiche : ∀ pc, 30 ≤ pc → pX10_setNiche pc = none := fun _ h => by unfold pX10_setNiche; exact bc_cut_none h
theorem z_X10_steel : ∀ pc, 11 ≤ pc → pX10_steel pc = none := fun _ h => by unfold pX10_steel; exact bc_cut_none h
theorem z_X10_steelByAccounts : ∀ pc, 11 ≤ pc → pX10_steelByAccounts pc = none := fun _ h => by unfold pX10_steelByAccounts; exact bc_cut_none h
theorem z_X10_strain : ∀ pc, 15 ≤ pc → pX10_strain pc = none := fun _ h => by unfold pX10_strain; exact bc_cut_none h
theorem z_X10_strainBits : ∀ pc, 18 ≤ pc → pX10_strainBits pc = none := fun _ h => by unfold pX10_strainBits; exact bc_cut_none h
theorem z_X10_strainFault : ∀ pc, 37 ≤ pc → pX10_strainFault pc = none := fun _ h => by unfold pX10_strainFault; exact bc_cut_none h
theorem z_X10_strainOf : ∀ pc, 26 ≤ pc → pX10_strainOf pc = none := fun _ h => by unfold pX10_strainOf; exact bc_cut_none h
theorem z_X10_vowAt : ∀ pc, 38 ≤ pc → pX10_vowAt pc = none := fun _ h => by unfold pX10_vowAt; exact bc_cut_none h
theorem z_X10_vowCount : ∀ pc, 11 ≤ pc → pX10_vowCount pc = none := fun _ h => by unfold pX10_vowCount; exact bc_cut_none h
theorem z_X10_vowFault : ∀ pc, 48 ≤ pc → pX10_vowFault pc = none := fun _ h => by unfold pX10_vowFault; exact bc_cut_none h
theorem z_X10_walk : ∀ pc, 124 ≤ pc → pX10_walk pc = none := fun _ h => by unfold pX10_walk; exact bc_cut_none h
theorem z_X10_walkFault : ∀ pc, 83 ≤ pc → pX10_walkFault pc = none := fun _ h => by unfold pX10_walkFault; exact bc_cut_none h
theorem z_X10_wayFault : ∀ pc, 44 ≤ pc → pX10_wayFault pc = none := fun _ h => by unfold pX10_wayFault; exact bc_cut_none h
theorem z_X10_wayJoint : ∀ pc, 42 ≤ pc → pX10_wayJoint pc = none := fun _ h => by unfold pX10_wayJoint; exact bc_cut_none h
theorem z_X10_wayLength : ∀ pc, 17 ≤ pc → pX10_wayLength pc = none := fun _ h => by unfold pX10_wayLength; exact bc_cut_none h
theorem z_X10_waysAgree : ∀ pc, 126 ≤ pc → pX10_waysAgree pc = none := fun _ h => by unfold pX10_waysAgree; exact bc_cut_none h
theorem z_X10_wear : ∀ pc, 21 ≤ pc → pX10_wear pc = none := fun _ h => by unfold pX10_wear; exact bc_cut_none h
theorem z_X10_widestByTrial : ∀ pc, 49 ≤ pc → pX10_widestByTrial pc = none := fun _ h => by unfold pX10_widestByTrial; exact bc_cut_none h
theorem z_X10_widestLoad : ∀ pc, 35 ≤ pc → pX10_widestLoad pc = none := fun _ h => by unfold pX10_widestLoad; exact bc_cut_none h
theorem z_X10_widestLoadByTrial : ∀ pc, 18 ≤ pc → pX10_widestLoadByTrial pc = none := fun _ h => by unfold pX10_widestLoadByTrial; exact bc_cut_none h
theorem z_L_any : ∀ pc, 377 ≤ pc → pL_any pc = none := fun _ h => by unfold pL_any; exact bc_cut_none h
theorem z_L_areMembersRight : ∀ pc, 668 ≤ pc → pL_areMembersRight pc = none := fun _ h => by unfold pL_areMembersRight; exact bc_cut_none h
theorem z_L_areVowsRight : ∀ pc, 410 ≤ pc → pL_areVowsRight pc = none := fun _ h => by unfold pL_areVowsRight; exact bc_cut_none h
theorem z_L_areWaysRight : ∀ pc, 405 ≤ pc → pL_areWaysRight pc = none := fun _ h => by unfold pL_areWaysRight; exact bc_cut_none h
theorem z_L_ask : ∀ pc, 28 ≤ pc → pL_ask pc = none := fun _ h => by unfold pL_ask; exact bc_cut_none h
theorem z_L_asked : ∀ pc, 160 ≤ pc → pL_asked pc = none := fun _ h => by unfold pL_asked; exact bc_cut_none h
theorem z_L_cell : ∀ pc, 44 ≤ pc → pL_cell pc = none := fun _ h => by unfold pL_cell; exact bc_cut_none h
theorem z_L_deed : ∀ pc, 40 ≤ pc → pL_deed pc = none := fun _ h => by unfold pL_deed; exact bc_cut_none h
theorem z_L_isAffordable : ∀ pc, 242 ≤ pc → pL_isAffordable pc = none := fun _ h => by unfold pL_isAffordable; exact bc_cut_none h
theorem z_L_isAffordableRight : ∀ pc, 113 ≤ pc → pL_isAffordableRight pc = none := fun _ h => by unfold pL_isAffordableRight; exact bc_cut_none h
theorem z_L_isText : ∀ pc, 59 ≤ pc → pL_isText pc = none := fun _ h => by unfold pL_isText; exact bc_cut_none h
theorem z_L_lay : ∀ pc, 205 ≤ pc → pL_lay pc = none := fun _ h => by unfold pL_lay; exact bc_cut_none h
theorem z_L_looks : ∀ pc, 219 ≤ pc → pL_looks pc = none := fun _ h => by unfold pL_looks; exact bc_cut_none h
theorem z_L_pick : ∀ pc, 11 ≤ pc → pL_pick pc = none := fun _ h => by unfold pL_pick; exact bc_cut_none h
theorem z_L_plain : ∀ pc, 133 ≤ pc → pL_plain pc = none := fun _ h => by unfold pL_plain; exact bc_cut_none h
theorem z_L_reaches : ∀ pc, 110 ≤ pc → pL_reaches pc = none := fun _ h => by unfold pL_reaches; exact bc_cut_none h
theorem z_L_strength : ∀ pc, 89 ≤ pc → pL_strength pc = none := fun _ h => by unfold pL_strength; exact bc_cut_none h
theorem z_L_told : ∀ pc, 10 ≤ pc → pL_told pc = none := fun _ h => by unfold pL_told; exact bc_cut_none h
theorem z_L_tryWays : ∀ pc, 329 ≤ pc → pL_tryWays pc = none := fun _ h => by unfold pL_tryWays; exact bc_cut_none h
theorem v_0 : True := trivial
theorem v_1 : bc_vY 1 := bc_vT_ok (p1 := 51) (p2 := 1021) (p3 := 1022) (by decide +kernel) (bc_mem_W (bc_tk5 (List.mem_of_getElem? (i := 20) rfl)) rfl) rfl (bc_dec_ok kX0_separates z_X0_separates)
theorem v_2 : bc_vY 2 := bc_vT_ok (p1 := 51) (p2 := 1025) (p3 := 0) (by decide +kernel) (bc_mem_W (bc_tk5 (List.mem_of_getElem? (i := 23) rfl)) rfl) rfl (bc_dec_ok kX0_visit z_X0_visit)
theorem v_3 : bc_vY 3 := bc_vT_ok (p1 := 49) (p2 := 1567) (p3 := 1568) (by decide +kernel) (bc_mem_W (bc_tk7 (List.mem_of_getElem? (i := 86) rfl)) rfl) rfl (bc_dec_ok kX1_forget z_X1_forget)
theorem v_4 : True := trivial
theorem v_5 : bc_vY 5 := bc_vT_ok (p1 := 49) (p2 := 602) (p3 := 603) (by decide +kernel) (bc_mem_W (bc_tk3 (List.mem_of_getElem? (i := 81) rfl)) rfl) rfl (bc_dec_ok kX1_remember z_X1_remember)
theorem v_6 : bc_vY 6 := bc_vT_ok (p1 := 46) (p2 := 630) (p3 := 631) (by decide +kernel) (bc_mem_W (bc_tk3 (List.mem_of_getElem? (i := 109) rfl)) rfl) rfl (bc_dec_ok kX2_append z_X2_append)
theorem v_7 : bc_vY 7 := bc_vT_ok (p1 := 46) (p2 := 1084) (p3 := 1085) (by decide +kernel) (bc_mem_W (bc_tk5 (List.mem_of_getElem? (i := 83) rfl)) rfl) rfl (bc_dec_ok kX2_atRank z_X2_atRank)
theorem v_8 : bc_vY 8 := bc_vT_ok (p1 := 46) (p2 := 650) (p3 := 651) (by decide +kernel) (bc_mem_W (bc_tk3 (List.mem_of_getElem? (i := 129) rfl)) rfl) rfl (bc_dec_ok kX2_bearingOf z_X2_bearingOf)
theorem v_9 : bc_vY 9 := bc_vT_ok (p1 := 46) (p2 := 1467) (p3 := 1468) (by decide +kernel) (bc_mem_W (bc_tk6 (List.mem_of_getElem? (i := 226) rfl)) rfl) rfl (bc_dec_ok kX2_bearingSum z_X2_bearingSum)
theorem v_10 : bc_vY 10 := bc_vT_ok (p1 := 46) (p2 := 502) (p3 := 503) (by decide +kernel) (bc_mem_W (bc_tk2 (List.mem_of_getElem? (i := 221) rfl)) rfl) rfl (bc_dec_ok kX2_between z_X2_between)
theorem v_11 : bc_vY 11 := bc_vT_ok (p1 := 46) (p2 := 1093) (p3 := 35) (by decide +kernel) (bc_mem_W (bc_tk5 (List.mem_of_getElem? (i := 91) rfl)) rfl) rfl (bc_dec_ok kX2_comesBefore z_X2_comesBefore)
theorem v_12 : bc_vY 12 := bc_vT_ok (p1 := 46) (p2 := 1001) (p3 := 1002) (by decide +kernel) (bc_mem_W (bc_tk5 (List.mem_of_getElem? (i := 0) rfl)) rfl) rfl (bc_dec_ok kX2_connects z_X2_connects)
theorem v_13 : bc_vY 13 := bc_vT_ok (p1 := 46) (p2 := 610) (p3 := 611) (by decide +kernel) (bc_mem_W (bc_tk3 (List.mem_of_getElem? (i := 89) rfl)) rfl) rfl (bc_dec_ok kX2_copyFrom z_X2_copyFrom)
theorem v_14 : bc_vY 14 := bc_vT_ok (p1 := 46) (p2 := 732) (p3 := 733) (by decide +kernel) (bc_mem_W (bc_tk3 (List.mem_of_getElem? (i := 211) rfl)) rfl) rfl (bc_dec_ok kX2_costOf z_X2_costOf)
theorem v_15 : bc_vY 15 := bc_vT_ok (p1 := 46) (p2 := 1475) (p3 := 1476) (by decide +kernel) (bc_mem_W (bc_tk6 (List.mem_of_getElem? (i := 234) rfl)) rfl) rfl (bc_dec_ok kX2_crackedCount z_X2_crackedCount)
theorem v_16 : bc_vY 16 := bc_vT_ok (p1 := 46) (p2 := 728) (p3 := 729) (by decide +kernel) (bc_mem_W (bc_tk3 (List.mem_of_getElem? (i := 207) rfl)) rfl) rfl (bc_dec_ok kX2_has z_X2_has)
theorem v_17 : True := trivial
theorem v_18 : bc_vY 18 := bc_vT_ok (p1 := 46) (p2 := 756) (p3 := 757) (by decide +kernel) (bc_mem_W (bc_tk3 (List.mem_of_getElem? (i := 235) rfl)) rfl) rfl (bc_dec_ok kX2_leave z_X2_leave)
theorem v_19 : bc_vY 19 := bc_vT_ok (p1 := 46) (p2 := 1089) (p3 := 34) (by decide +kernel) (bc_mem_W (bc_tk5 (List.mem_of_getElem? (i := 87) rfl)) rfl) rfl (bc_dec_ok kX2_rankOf z_X2_rankOf)
theorem v_20 : bc_vY 20 := bc_vT_ok (p1 := 46) (p2 := 744) (p3 := 745) (by decide +kernel) (bc_mem_W (bc_tk3 (List.mem_of_getElem? (i := 223) rfl)) rfl) rfl (bc_dec_ok kX2_renew z_X2_renew)
theorem v_21 : bc_vY 21 := bc_vT_ok (p1 := 46) (p2 := 996) (p3 := 997) (by decide +kernel) (bc_mem_W (bc_tk4 (List.mem_of_getElem? (i := 235) rfl)) rfl) rfl (bc_dec_ok kX2_someBears z_X2_someBears)
theorem v_22 : bc_vY 22 := bc_vT_ok (p1 := 46) (p2 := 689) (p3 := 690) (by decide +kernel) (bc_mem_W (bc_tk3 (List.mem_of_getElem? (i := 168) rfl)) rfl) rfl (bc_dec_ok kX2_wearDown z_X2_wearDown)
theorem v_23 : bc_vY 23 := bc_vT_ok (p1 := 47) (p2 := 617) (p3 := 618) (by decide +kernel) (bc_mem_W (bc_tk3 (List.mem_of_getElem? (i := 96) rfl)) rfl) rfl (bc_dec_ok kX3_copyFrom z_X3_copyFrom)
theorem v_24 : bc_vY 24 := bc_vT_ok (p1 := 47) (p2 := 774) (p3 := 775) (by decide +kernel) (bc_mem_W (bc_tk4 (List.mem_of_getElem? (i := 13) rfl)) rfl) rfl (bc_dec_ok kX3_dedicate z_X3_dedicate)
theorem v_25 : True := trivial
theorem v_26 : bc_vY 26 := bc_vT_ok (p1 := 47) (p2 := 787) (p3 := 788) (by decide +kernel) (bc_mem_W (bc_tk4 (List.mem_of_getElem? (i := 26) rfl)) rfl) rfl (bc_dec_ok kX3_place z_X3_place)
theorem v_27 : bc_vY 27 := bc_vT_ok (p1 := 47) (p2 := 664) (p3 := 665) (by decide +kernel) (bc_mem_W (bc_tk3 (List.mem_of_getElem? (i := 143) rfl)) rfl) rfl (bc_dec_ok kX3_total z_X3_total)
theorem v_28 : bc_vY 28 := bc_vT_ok (p1 := 52) (p2 := 1060) (p3 := 31) (by decide +kernel) (bc_mem_W (bc_tk5 (List.mem_of_getElem? (i := 58) rfl)) rfl) rfl (bc_dec_ok kX4_cheapestUnsettled z_X4_cheapestUnsettled)
theorem v_29 : bc_vY 29 := bc_vT_ok (p1 := 52) (p2 := 1056) (p3 := 30) (by decide +kernel) (bc_mem_W (bc_tk5 (List.mem_of_getElem? (i := 54) rfl)) rfl) rfl (bc_dec_ok kX4_cheapestWay z_X4_cheapestWay)
theorem v_30 : bc_vY 30 := bc_vT_ok (p1 := 52) (p2 := 1073) (p3 := 32) (by decide +kernel) (bc_mem_W (bc_tk5 (List.mem_of_getElem? (i := 71) rfl)) rfl) rfl (bc_dec_ok kX4_closePrices z_X4_closePrices)
theorem v_31 : bc_vY 31 := bc_vT_ok (p1 := 52) (p2 := 1068) (p3 := 1069) (by decide +kernel) (bc_mem_W (bc_tk5 (List.mem_of_getElem? (i := 67) rfl)) rfl) rfl (bc_dec_ok kX4_fillTable z_X4_fillTable)
theorem v_32 : True := trivial
theorem v_33 : bc_vY 33 := bc_vT_ok (p1 := 52) (p2 := 1041) (p3 := 27) (by decide +kernel) (bc_mem_W (bc_tk5 (List.mem_of_getElem? (i := 39) rfl)) rfl) rfl (bc_dec_ok kX4_isWorthTrying z_X4_isWorthTrying)
theorem v_34 : bc_vY 34 := bc_vT_ok (p1 := 52) (p2 := 1036) (p3 := 1037) (by decide +kernel) (bc_mem_W (bc_tk5 (List.mem_of_getElem? (i := 35) rfl)) rfl) rfl (bc_dec_ok kX4_loadByWays z_X4_loadByWays)
theorem v_35 : bc_vY 35 := bc_vT_ok (p1 := 52) (p2 := 1077) (p3 := 33) (by decide +kernel) (bc_mem_W (bc_tk5 (List.mem_of_getElem? (i := 75) rfl)) rfl) rfl (bc_dec_ok kX4_noteAffordable z_X4_noteAffordable)
theorem v_36 : bc_vY 36 := bc_vT_ok (p1 := 52) (p2 := 1051) (p3 := 29) (by decide +kernel) (bc_mem_W (bc_tk5 (List.mem_of_getElem? (i := 49) rfl)) rfl) rfl (bc_dec_ok kX4_priceOf z_X4_priceOf)
theorem v_37 : bc_vY 37 := bc_vT_ok (p1 := 52) (p2 := 1046) (p3 := 28) (by decide +kernel) (bc_mem_W (bc_tk5 (List.mem_of_getElem? (i := 44) rfl)) rfl) rfl (bc_dec_ok kX4_setPrices z_X4_setPrices)
theorem v_38 : bc_vY 38 := bc_vT_ok (p1 := 53) (p2 := 910) (p3 := 18) (by decide +kernel) (bc_mem_W (bc_tk4 (List.mem_of_getElem? (i := 148) rfl)) rfl) rfl (bc_dec_ok kX5_accept z_X5_accept)
theorem v_39 : bc_vY 39 := bc_vT_ok (p1 := 53) (p2 := 934) (p3 := 935) (by decide +kernel) (bc_mem_W (bc_tk4 (List.mem_of_getElem? (i := 173) rfl)) rfl) rfl (bc_dec_ok kX5_argument z_X5_argument)
theorem v_40 : bc_vY 40 := bc_vT_ok (p1 := 53) (p2 := 900) (p3 := 0) (by decide +kernel) (bc_mem_W (bc_tk4 (List.mem_of_getElem? (i := 138) rfl)) rfl) rfl (bc_dec_ok kX5_formOf z_X5_formOf)
theorem v_41 : True := trivial
theorem v_42 : bc_vY 42 := bc_vT_ok (p1 := 53) (p2 := 917) (p3 := 0) (by decide +kernel) (bc_mem_W (bc_tk4 (List.mem_of_getElem? (i := 155) rfl)) rfl) rfl (bc_dec_ok kX5_isDigit z_X5_isDigit)
theorem v_43 : bc_vY 43 := bc_vT_ok (p1 := 53) (p2 := 938) (p3 := 939) (by decide +kernel) (bc_mem_W (bc_tk4 (List.mem_of_getElem? (i := 177) rfl)) rfl) rfl (bc_dec_ok kX5_kindAt z_X5_kindAt)
theorem v_44 : bc_vY 44 := bc_vT_ok (p1 := 53) (p2 := 836) (p3 := 16) (by decide +kernel) (bc_mem_W (bc_tk4 (List.mem_of_getElem? (i := 74) rfl)) rfl) rfl (bc_dec_ok kX5_matchedLength z_X5_matchedLength)
theorem v_45 : bc_vY 45 := bc_vT_ok (p1 := 53) (p2 := 814) (p3 := 815) (by decide +kernel) (bc_mem_W (bc_tk4 (List.mem_of_getElem? (i := 53) rfl)) rfl) rfl (bc_dec_ok kX5_parse z_X5_parse)
theorem v_46 : bc_vY 46 := bc_vT_ok (p1 := 53) (p2 := 897) (p3 := 17) (by decide +kernel) (bc_mem_W (bc_tk4 (List.mem_of_getElem? (i := 135) rfl)) rfl) rfl (bc_dec_ok kX5_readArguments z_X5_readArguments)
theorem v_47 : bc_vY 47 := bc_vT_ok (p1 := 53) (p2 := 914) (p3 := 19) (by decide +kernel) (bc_mem_W (bc_tk4 (List.mem_of_getElem? (i := 152) rfl)) rfl) rfl (bc_dec_ok kX5_readValue z_X5_readValue)
theorem v_48 : bc_vY 48 := bc_vT_ok (p1 := 53) (p2 := 819) (p3 := 15) (by decide +kernel) (bc_mem_W (bc_tk4 (List.mem_of_getElem? (i := 57) rfl)) rfl) rfl (bc_dec_ok kX5_readWord z_X5_readWord)
theorem v_49 : bc_vY 49 := bc_vT_ok (p1 := 53) (p2 := 822) (p3 := 0) (by decide +kernel) (bc_mem_W (bc_tk4 (List.mem_of_getElem? (i := 60) rfl)) rfl) rfl (bc_dec_ok kX5_wordOf z_X5_wordOf)
theorem v_50 : bc_vY 50 := bc_vT_ok (p1 := 45) (p2 := 606) (p3 := 607) (by decide +kernel) (bc_mem_W (bc_tk3 (List.mem_of_getElem? (i := 85) rfl)) rfl) rfl (bc_dec_ok kX6_copyFrom z_X6_copyFrom)
theorem v_51 : True := trivial
theorem v_52 : bc_vY 52 := bc_vT_ok (p1 := 54) (p2 := 1156) (p3 := 1157) (by decide +kernel) (bc_mem_W (bc_tk5 (List.mem_of_getElem? (i := 155) rfl)) rfl) rfl (bc_dec_ok kX7_append z_X7_append)
theorem v_53 : bc_vY 53 := bc_vT_ok (p1 := 54) (p2 := 1152) (p3 := 1153) (by decide +kernel) (bc_mem_W (bc_tk5 (List.mem_of_getElem? (i := 151) rfl)) rfl) rfl (bc_dec_ok kX7_appendNumber z_X7_appendNumber)
theorem v_54 : bc_vY 54 := bc_vT_ok (p1 := 54) (p2 := 849) (p3 := 850) (by decide +kernel) (bc_mem_W (bc_tk4 (List.mem_of_getElem? (i := 88) rfl)) rfl) rfl (bc_dec_ok kX7_at z_X7_at)
theorem v_55 : bc_vY 55 := bc_vT_ok (p1 := 54) (p2 := 920) (p3 := 921) (by decide +kernel) (bc_mem_W (bc_tk4 (List.mem_of_getElem? (i := 159) rfl)) rfl) rfl (bc_dec_ok kX7_clear z_X7_clear)
theorem v_56 : bc_vY 56 := bc_vT_ok (p1 := 54) (p2 := 853) (p3 := 854) (by decide +kernel) (bc_mem_W (bc_tk4 (List.mem_of_getElem? (i := 92) rfl)) rfl) rfl (bc_dec_ok kX7_has z_X7_has)
theorem v_57 : True := trivial
theorem v_58 : bc_vY 58 := bc_vT_ok (p1 := 48) (p2 := 1495) (p3 := 1496) (by decide +kernel) (bc_mem_W (bc_tk7 (List.mem_of_getElem? (i := 14) rfl)) rfl) rfl (bc_dec_ok kX8_accountedSteel z_X8_accountedSteel)
theorem v_59 : bc_vY 59 := bc_vT_ok (p1 := 48) (p2 := 622) (p3 := 623) (by decide +kernel) (bc_mem_W (bc_tk3 (List.mem_of_getElem? (i := 101) rfl)) rfl) rfl (bc_dec_ok kX8_copyFrom z_X8_copyFrom)
theorem v_60 : bc_vY 60 := bc_vT_ok (p1 := 48) (p2 := 1124) (p3 := 1125) (by decide +kernel) (bc_mem_W (bc_tk5 (List.mem_of_getElem? (i := 123) rfl)) rfl) rfl (bc_dec_ok kX8_greatestFurther z_X8_greatestFurther)
theorem v_61 : bc_vY 61 := bc_vT_ok (p1 := 48) (p2 := 716) (p3 := 717) (by decide +kernel) (bc_mem_W (bc_tk3 (List.mem_of_getElem? (i := 195) rfl)) rfl) rfl (bc_dec_ok kX8_heatForge z_X8_heatForge)
theorem v_62 : True := trivial
theorem v_63 : bc_vY 63 := bc_vT_ok (p1 := 48) (p2 := 701) (p3 := 702) (by decide +kernel) (bc_mem_W (bc_tk3 (List.mem_of_getElem? (i := 180) rfl)) rfl) rfl (bc_dec_ok kX8_isDueDayAllowed z_X8_isDueDayAllowed)
theorem v_64 : bc_vY 64 := bc_vT_ok (p1 := 48) (p2 := 1491) (p3 := 1492) (by decide +kernel) (bc_mem_W (bc_tk7 (List.mem_of_getElem? (i := 10) rfl)) rfl) rfl (bc_dec_ok kX8_keepsAllBySums z_X8_keepsAllBySums)
theorem v_65 : bc_vY 65 := bc_vT_ok (p1 := 48) (p2 := 1120) (p3 := 1121) (by decide +kernel) (bc_mem_W (bc_tk5 (List.mem_of_getElem? (i := 119) rfl)) rfl) rfl (bc_dec_ok kX8_keepsAllDayByDay z_X8_keepsAllDayByDay)
theorem v_66 : bc_vY 66 := bc_vT_ok (p1 := 48) (p2 := 798) (p3 := 799) (by decide +kernel) (bc_mem_W (bc_tk4 (List.mem_of_getElem? (i := 37) rfl)) rfl) rfl (bc_dec_ok kX8_pass z_X8_pass)
theorem v_67 : bc_vY 67 := bc_vT_ok (p1 := 48) (p2 := 740) (p3 := 741) (by decide +kernel) (bc_mem_W (bc_tk3 (List.mem_of_getElem? (i := 219) rfl)) rfl) rfl (bc_dec_ok kX8_payRepair z_X8_payRepair)
theorem v_68 : bc_vY 68 := bc_vT_ok (p1 := 48) (p2 := 705) (p3 := 706) (by decide +kernel) (bc_mem_W (bc_tk3 (List.mem_of_getElem? (i := 184) rfl)) rfl) rfl (bc_dec_ok kX8_promise z_X8_promise)
theorem v_69 : bc_vY 69 := bc_vT_ok (p1 := 48) (p2 := 1105) (p3 := 36) (by decide +kernel) (bc_mem_W (bc_tk5 (List.mem_of_getElem? (i := 103) rfl)) rfl) rfl (bc_dec_ok kX8_rankOfSlot z_X8_rankOfSlot)
theorem v_70 : bc_vY 70 := bc_vT_ok (p1 := 48) (p2 := 807) (p3 := 14) (by decide +kernel) (bc_mem_W (bc_tk4 (List.mem_of_getElem? (i := 45) rfl)) rfl) rfl (bc_dec_ok kX8_settle z_X8_settle)
theorem v_71 : bc_vY 71 := bc_vT_ok (p1 := 48) (p2 := 803) (p3 := 13) (by decide +kernel) (bc_mem_W (bc_tk4 (List.mem_of_getElem? (i := 41) rfl)) rfl) rfl (bc_dec_ok kX8_settleDueVows z_X8_settleDueVows)
theorem v_72 : bc_vY 72 := bc_vT_ok (p1 := 48) (p2 := 1100) (p3 := 1101) (by decide +kernel) (bc_mem_W (bc_tk5 (List.mem_of_getElem? (i := 99) rfl)) rfl) rfl (bc_dec_ok kX8_slotAtRank z_X8_slotAtRank)
theorem v_73 : bc_vY 73 := bc_vT_ok (p1 := 48) (p2 := 1112) (p3 := 1113) (by decide +kernel) (bc_mem_W (bc_tk5 (List.mem_of_getElem? (i := 111) rfl)) rfl) rfl (bc_dec_ok kX8_slotOf z_X8_slotOf)
theorem v_74 : bc_vY 74 := bc_vT_ok (p1 := 48) (p2 := 1129) (p3 := 37) (by decide +kernel) (bc_mem_W (bc_tk5 (List.mem_of_getElem? (i := 127) rfl)) rfl) rfl (bc_dec_ok kX8_spareOn z_X8_spareOn)
theorem v_75 : bc_vY 75 := bc_vT_ok (p1 := 50) (p2 := 672) (p3 := 673) (by decide +kernel) (bc_mem_W (bc_tk3 (List.mem_of_getElem? (i := 151) rfl)) rfl) rfl (bc_dec_ok kX9_findBest z_X9_findBest)
theorem v_76 : True := trivial
theorem v_77 : bc_vY 77 := bc_vT_ok (p1 := 50) (p2 := 1459) (p3 := 1460) (by decide +kernel) (bc_mem_W (bc_tk6 (List.mem_of_getElem? (i := 218) rfl)) rfl) rfl (bc_dec_ok kX9_linkBits z_X9_linkBits)
theorem v_78 : bc_vY 78 := bc_vT_ok (p1 := 50) (p2 := 686) (p3 := 7) (by decide +kernel) (bc_mem_W (bc_tk3 (List.mem_of_getElem? (i := 164) rfl)) rfl) rfl (bc_dec_ok kX9_lowestNearer z_X9_lowestNearer)
theorem v_79 : bc_vY 79 := bc_vT_ok (p1 := 50) (p2 := 678) (p3 := 5) (by decide +kernel) (bc_mem_W (bc_tk3 (List.mem_of_getElem? (i := 156) rfl)) rfl) rfl (bc_dec_ok kX9_measureFrom z_X9_measureFrom)
theorem v_80 : bc_vY 80 := bc_vT_ok (p1 := 50) (p2 := 682) (p3 := 6) (by decide +kernel) (bc_mem_W (bc_tk3 (List.mem_of_getElem? (i := 160) rfl)) rfl) rfl (bc_dec_ok kX9_spread z_X9_spread)
theorem v_81 : bc_vY 81 := bc_vT_ok (p1 := 50) (p2 := 646) (p3 := 647) (by decide +kernel) (bc_mem_W (bc_tk3 (List.mem_of_getElem? (i := 125) rfl)) rfl) rfl (bc_dec_ok kX9_survey z_X9_survey)
theorem v_82 : bc_vY 82 := bc_vT_ok (p1 := 50) (p2 := 654) (p3 := 655) (by decide +kernel) (bc_mem_W (bc_tk3 (List.mem_of_getElem? (i := 133) rfl)) rfl) rfl (bc_dec_ok kX9_widestByGrowing z_X9_widestByGrowing)
theorem v_83 : bc_vY 83 := bc_vT_ok (p1 := 50) (p2 := 659) (p3 := 3) (by decide +kernel) (bc_mem_W (bc_tk3 (List.mem_of_getElem? (i := 137) rfl)) rfl) rfl (bc_dec_ok kX9_widestOutside z_X9_widestOutside)
theorem v_84 : bc_vY 84 := bc_vT_ok (p1 := 44) (p2 := 748) (p3 := 749) (by decide +kernel) (bc_mem_W (bc_tk3 (List.mem_of_getElem? (i := 227) rfl)) rfl) rfl (bc_dec_ok kX10_abandon z_X10_abandon)
theorem v_85 : bc_vY 85 := bc_vT_ok (p1 := 44) (p2 := 488) (p3 := 489) (by decide +kernel) (bc_mem_W (bc_tk2 (List.mem_of_getElem? (i := 207) rfl)) rfl) rfl (bc_dec_ok kX10_addMember z_X10_addMember)
theorem v_86 : bc_vY 86 := bc_vT_ok (p1 := 44) (p2 := 1032) (p3 := 1033) (by decide +kernel) (bc_mem_W (bc_tk5 (List.mem_of_getElem? (i := 31) rfl)) rfl) rfl (bc_dec_ok kX10_affordableLoad z_X10_affordableLoad)
theorem v_87 : bc_vY 87 := bc_vT_ok (p1 := 44) (p2 := 1064) (p3 := 1065) (by decide +kernel) (bc_mem_W (bc_tk5 (List.mem_of_getElem? (i := 63) rfl)) rfl) rfl (bc_dec_ok kX10_affordableLoadByTable z_X10_affordableLoadByTable)
theorem v_88 : bc_vY 88 := bc_vT_ok (p1 := 44) (p2 := 1108) (p3 := 1109) (by decide +kernel) (bc_mem_W (bc_tk5 (List.mem_of_getElem? (i := 107) rfl)) rfl) rfl (bc_dec_ok kX10_amount z_X10_amount)
theorem v_89 : bc_vY 89 := bc_vT_ok (p1 := 44) (p2 := 972) (p3 := 973) (by decide +kernel) (bc_mem_W (bc_tk4 (List.mem_of_getElem? (i := 211) rfl)) rfl) rfl (bc_dec_ok kX10_bearing z_X10_bearing)
theorem v_90 : bc_vY 90 := bc_vT_ok (p1 := 44) (p2 := 1429) (p3 := 0) (by decide +kernel) (bc_mem_W (bc_tk6 (List.mem_of_getElem? (i := 187) rfl)) rfl) rfl (bc_dec_ok kX10_bitsOf z_X10_bitsOf)
theorem v_91 : bc_vY 91 := bc_vT_ok (p1 := 44) (p2 := 1539) (p3 := 1540) (by decide +kernel) (bc_mem_W (bc_tk7 (List.mem_of_getElem? (i := 58) rfl)) rfl) rfl (bc_dec_ok kX10_brokenTotal z_X10_brokenTotal)
theorem v_92 : bc_vY 92 := bc_vT_ok (p1 := 44) (p2 := 1551) (p3 := 1552) (by decide +kernel) (bc_mem_W (bc_tk7 (List.mem_of_getElem? (i := 70) rfl)) rfl) rfl (bc_dec_ok kX10_canKeepAll z_X10_canKeepAll)
theorem v_93 : bc_vY 93 := bc_vT_ok (p1 := 44) (p2 := 1555) (p3 := 1556) (by decide +kernel) (bc_mem_W (bc_tk7 (List.mem_of_getElem? (i := 74) rfl)) rfl) rfl (bc_dec_ok kX10_canKeepAllBySums z_X10_canKeepAllBySums)
theorem v_94 : bc_vY 94 := bc_vT_ok (p1 := 44) (p2 := 943) (p3 := 22) (by decide +kernel) (bc_mem_W (bc_tk4 (List.mem_of_getElem? (i := 181) rfl)) rfl) rfl (bc_dec_ok kX10_carryOut z_X10_carryOut)
theorem v_95 : bc_vY 95 := bc_vT_ok (p1 := 44) (p2 := 931) (p3 := 21) (by decide +kernel) (bc_mem_W (bc_tk4 (List.mem_of_getElem? (i := 169) rfl)) rfl) rfl (bc_dec_ok kX10_commandFault z_X10_commandFault)
theorem v_96 : bc_vY 96 := bc_vT_ok (p1 := 44) (p2 := 1167) (p3 := 1168) (by decide +kernel) (bc_mem_W (bc_tk5 (List.mem_of_getElem? (i := 166) rfl)) rfl) rfl (bc_dec_ok kX10_crack z_X10_crack)
theorem v_97 : bc_vY 97 := bc_vT_ok (p1 := 44) (p2 := 1471) (p3 := 1472) (by decide +kernel) (bc_mem_W (bc_tk6 (List.mem_of_getElem? (i := 230) rfl)) rfl) rfl (bc_dec_ok kX10_crackedShare z_X10_crackedShare)
theorem v_98 : bc_vY 98 := bc_vT_ok (p1 := 44) (p2 := 1452) (p3 := 40) (by decide +kernel) (bc_mem_W (bc_tk6 (List.mem_of_getElem? (i := 210) rfl)) rfl) rfl (bc_dec_ok kX10_criticalByRemoval z_X10_criticalByRemoval)
theorem v_99 : bc_vY 99 := bc_vT_ok (p1 := 44) (p2 := 1018) (p3 := 26) (by decide +kernel) (bc_mem_W (bc_tk5 (List.mem_of_getElem? (i := 16) rfl)) rfl) rfl (bc_dec_ok kX10_criticalBySearch z_X10_criticalBySearch)
theorem v_100 : bc_vY 100 := bc_vT_ok (p1 := 44) (p2 := 1488) (p3 := 42) (by decide +kernel) (bc_mem_W (bc_tk7 (List.mem_of_getElem? (i := 6) rfl)) rfl) rfl (bc_dec_ok kX10_criticalMembersAgree z_X10_criticalMembersAgree)
theorem v_101 : bc_vY 101 := bc_vT_ok (p1 := 44) (p2 := 947) (p3 := 948) (by decide +kernel) (bc_mem_W (bc_tk4 (List.mem_of_getElem? (i := 186) rfl)) rfl) rfl (bc_dec_ok kX10_day z_X10_day)
theorem v_102 : bc_vY 102 := bc_vT_ok (p1 := 44) (p2 := 795) (p3 := 0) (by decide +kernel) (bc_mem_W (bc_tk4 (List.mem_of_getElem? (i := 33) rfl)) rfl) rfl (bc_dec_ok kX10_daysFault z_X10_daysFault)
theorem v_103 : bc_vY 103 := bc_vT_ok (p1 := 44) (p2 := 1141) (p3 := 1142) (by decide +kernel) (bc_mem_W (bc_tk5 (List.mem_of_getElem? (i := 140) rfl)) rfl) rfl (bc_dec_ok kX10_dueDay z_X10_dueDay)
theorem v_104 : bc_vY 104 := bc_vT_ok (p1 := 44) (p2 := 1133) (p3 := 1134) (by decide +kernel) (bc_mem_W (bc_tk5 (List.mem_of_getElem? (i := 132) rfl)) rfl) rfl (bc_dec_ok kX10_errorPosition z_X10_errorPosition)
theorem v_105 : bc_vY 105 := bc_vT_ok (p1 := 44) (p2 := 1137) (p3 := 1138) (by decide +kernel) (bc_mem_W (bc_tk5 (List.mem_of_getElem? (i := 136) rfl)) rfl) rfl (bc_dec_ok kX10_failedCommand z_X10_failedCommand)
theorem v_106 : bc_vY 106 := bc_vT_ok (p1 := 44) (p2 := 1175) (p3 := 1176) (by decide +kernel) (bc_mem_W (bc_tk5 (List.mem_of_getElem? (i := 174) rfl)) rfl) rfl (bc_dec_ok kX10_firstJoint z_X10_firstJoint)
theorem v_107 : bc_vY 107 := bc_vT_ok (p1 := 44) (p2 := 713) (p3 := 0) (by decide +kernel) (bc_mem_W (bc_tk3 (List.mem_of_getElem? (i := 191) rfl)) rfl) rfl (bc_dec_ok kX10_forgeFault z_X10_forgeFault)
theorem v_108 : bc_vY 108 := bc_vT_ok (p1 := 44) (p2 := 985) (p3 := 0) (by decide +kernel) (bc_mem_W (bc_tk4 (List.mem_of_getElem? (i := 223) rfl)) rfl) rfl (bc_dec_ok kX10_found z_X10_found)
theorem v_109 : bc_vY 109 := bc_vT_ok (p1 := 44) (p2 := 1116) (p3 := 1117) (by decide +kernel) (bc_mem_W (bc_tk5 (List.mem_of_getElem? (i := 115) rfl)) rfl) rfl (bc_dec_ok kX10_greatestVow z_X10_greatestVow)
theorem v_110 : bc_vY 110 := bc_vT_ok (p1 := 44) (p2 := 977) (p3 := 23) (by decide +kernel) (bc_mem_W (bc_tk4 (List.mem_of_getElem? (i := 215) rfl)) rfl) rfl (bc_dec_ok kX10_indexFault z_X10_indexFault)
theorem v_111 : True := trivial
theorem v_112 : bc_vY 112 := bc_vT_ok (p1 := 44) (p2 := 1171) (p3 := 1172) (by decide +kernel) (bc_mem_W (bc_tk5 (List.mem_of_getElem? (i := 170) rfl)) rfl) rfl (bc_dec_ok kX10_isAbandoned z_X10_isAbandoned)
theorem v_113 : bc_vY 113 := bc_vT_ok (p1 := 44) (p2 := 1479) (p3 := 1480) (by decide +kernel) (bc_mem_W (bc_tk6 (List.mem_of_getElem? (i := 238) rfl)) rfl) rfl (bc_dec_ok kX10_isConsistent z_X10_isConsistent)
theorem v_114 : bc_vY 114 := bc_vT_ok (p1 := 44) (p2 := 1013) (p3 := 1014) (by decide +kernel) (bc_mem_W (bc_tk5 (List.mem_of_getElem? (i := 12) rfl)) rfl) rfl (bc_dec_ok kX10_isCritical z_X10_isCritical)
theorem v_115 : bc_vY 115 := bc_vT_ok (p1 := 44) (p2 := 1447) (p3 := 1448) (by decide +kernel) (bc_mem_W (bc_tk6 (List.mem_of_getElem? (i := 206) rfl)) rfl) rfl (bc_dec_ok kX10_isCriticalByRemoval z_X10_isCriticalByRemoval)
theorem v_116 : bc_vY 116 := bc_vT_ok (p1 := 44) (p2 := 499) (p3 := 0) (by decide +kernel) (bc_mem_W (bc_tk2 (List.mem_of_getElem? (i := 217) rfl)) rfl) rfl (bc_dec_ok kX10_isJoint z_X10_isJoint)
theorem v_117 : bc_vY 117 := bc_vT_ok (p1 := 44) (p2 := 771) (p3 := 0) (by decide +kernel) (bc_mem_W (bc_tk4 (List.mem_of_getElem? (i := 9) rfl)) rfl) rfl (bc_dec_ok kX10_isKind z_X10_isKind)
theorem v_118 : bc_vY 118 := bc_vT_ok (p1 := 44) (p2 := 1535) (p3 := 1536) (by decide +kernel) (bc_mem_W (bc_tk7 (List.mem_of_getElem? (i := 54) rfl)) rfl) rfl (bc_dec_ok kX10_keptTotal z_X10_keptTotal)
theorem v_119 : bc_vY 119 := bc_vT_ok (p1 := 44) (p2 := 753) (p3 := 11) (by decide +kernel) (bc_mem_W (bc_tk3 (List.mem_of_getElem? (i := 231) rfl)) rfl) rfl (bc_dec_ok kX10_leaveFault z_X10_leaveFault)
theorem v_120 : bc_vY 120 := bc_vT_ok (p1 := 44) (p2 := 1455) (p3 := 1456) (by decide +kernel) (bc_mem_W (bc_tk6 (List.mem_of_getElem? (i := 214) rfl)) rfl) rfl (bc_dec_ok kX10_links z_X10_links)
theorem v_121 : bc_vY 121 := bc_vT_ok (p1 := 44) (p2 := 693) (p3 := 694) (by decide +kernel) (bc_mem_W (bc_tk3 (List.mem_of_getElem? (i := 172) rfl)) rfl) rfl (bc_dec_ok kX10_makeVow z_X10_makeVow)
theorem v_122 : bc_vY 122 := bc_vT_ok (p1 := 44) (p2 := 1463) (p3 := 1464) (by decide +kernel) (bc_mem_W (bc_tk6 (List.mem_of_getElem? (i := 222) rfl)) rfl) rfl (bc_dec_ok kX10_meanBearing z_X10_meanBearing)
theorem v_123 : bc_vY 123 := bc_vT_ok (p1 := 44) (p2 := 1080) (p3 := 1081) (by decide +kernel) (bc_mem_W (bc_tk5 (List.mem_of_getElem? (i := 79) rfl)) rfl) rfl (bc_dec_ok kX10_memberByBearing z_X10_memberByBearing)
theorem v_124 : bc_vY 124 := bc_vT_ok (p1 := 44) (p2 := 954) (p3 := 955) (by decide +kernel) (bc_mem_W (bc_tk4 (List.mem_of_getElem? (i := 193) rfl)) rfl) rfl (bc_dec_ok kX10_memberCount z_X10_memberCount)
theorem v_125 : bc_vY 125 := bc_vT_ok (p1 := 44) (p2 := 493) (p3 := 1) (by decide +kernel) (bc_mem_W (bc_tk2 (List.mem_of_getElem? (i := 211) rfl)) rfl) rfl (bc_dec_ok kX10_memberFault z_X10_memberFault)
theorem v_126 : bc_vY 126 := bc_vT_ok (p1 := 44) (p2 := 737) (p3 := 10) (by decide +kernel) (bc_mem_W (bc_tk3 (List.mem_of_getElem? (i := 215) rfl)) rfl) rfl (bc_dec_ok kX10_mend z_X10_mend)
theorem v_127 : bc_vY 127 := bc_vT_ok (p1 := 44) (p2 := 725) (p3 := 9) (by decide +kernel) (bc_mem_W (bc_tk3 (List.mem_of_getElem? (i := 203) rfl)) rfl) rfl (bc_dec_ok kX10_mendFault z_X10_mendFault)
theorem v_128 : bc_vY 128 := bc_vT_ok (p1 := 44) (p2 := 768) (p3 := 0) (by decide +kernel) (bc_mem_W (bc_tk4 (List.mem_of_getElem? (i := 6) rfl)) rfl) rfl (bc_dec_ok kX10_nicheFault z_X10_nicheFault)
theorem v_129 : bc_vY 129 := bc_vT_ok (p1 := 44) (p2 := 959) (p3 := 960) (by decide +kernel) (bc_mem_W (bc_tk4 (List.mem_of_getElem? (i := 198) rfl)) rfl) rfl (bc_dec_ok kX10_nicheKind z_X10_nicheKind)
theorem v_130 : bc_vY 130 := bc_vT_ok (p1 := 44) (p2 := 1543) (p3 := 1544) (by decide +kernel) (bc_mem_W (bc_tk7 (List.mem_of_getElem? (i := 62) rfl)) rfl) rfl (bc_dec_ok kX10_nicheWeight z_X10_nicheWeight)
theorem v_131 : bc_vY 131 := bc_vT_ok (p1 := 44) (p2 := 1161) (p3 := 1162) (by decide +kernel) (bc_mem_W (bc_tk5 (List.mem_of_getElem? (i := 160) rfl)) rfl) rfl (bc_dec_ok kX10_outputAt z_X10_outputAt)
theorem v_132 : bc_vY 132 := bc_vT_ok (p1 := 44) (p2 := 496) (p3 := 0) (by decide +kernel) (bc_mem_W (bc_tk2 (List.mem_of_getElem? (i := 214) rfl)) rfl) rfl (bc_dec_ok kX10_pairFault z_X10_pairFault)
theorem v_133 : bc_vY 133 := bc_vT_ok (p1 := 44) (p2 := 791) (p3 := 792) (by decide +kernel) (bc_mem_W (bc_tk4 (List.mem_of_getElem? (i := 30) rfl)) rfl) rfl (bc_dec_ok kX10_passDays z_X10_passDays)
theorem v_134 : bc_vY 134 := bc_vT_ok (p1 := 44) (p2 := 784) (p3 := 12) (by decide +kernel) (bc_mem_W (bc_tk4 (List.mem_of_getElem? (i := 22) rfl)) rfl) rfl (bc_dec_ok kX10_placeFault z_X10_placeFault)
theorem v_135 : bc_vY 135 := bc_vT_ok (p1 := 44) (p2 := 638) (p3 := 639) (by decide +kernel) (bc_mem_W (bc_tk3 (List.mem_of_getElem? (i := 117) rfl)) rfl) rfl (bc_dec_ok kX10_procession z_X10_procession)
theorem v_136 : bc_vY 136 := bc_vT_ok (p1 := 44) (p2 := 779) (p3 := 780) (by decide +kernel) (bc_mem_W (bc_tk4 (List.mem_of_getElem? (i := 18) rfl)) rfl) rfl (bc_dec_ok kX10_put z_X10_put)
theorem v_137 : bc_vY 137 := bc_vT_ok (p1 := 44) (p2 := 506) (p3 := 0) (by decide +kernel) (bc_mem_W (bc_tk2 (List.mem_of_getElem? (i := 224) rfl)) rfl) rfl (bc_dec_ok kX10_refuse z_X10_refuse)
theorem v_138 : bc_vY 138 := bc_vT_ok (p1 := 44) (p2 := 1148) (p3 := 1149) (by decide +kernel) (bc_mem_W (bc_tk5 (List.mem_of_getElem? (i := 147) rfl)) rfl) rfl (bc_dec_ok kX10_renderMember z_X10_renderMember)
theorem v_139 : bc_vY 139 := bc_vT_ok (p1 := 44) (p2 := 1511) (p3 := 1512) (by decide +kernel) (bc_mem_W (bc_tk7 (List.mem_of_getElem? (i := 30) rfl)) rfl) rfl (bc_dec_ok kX10_renderWay z_X10_renderWay)
theorem v_140 : bc_vY 140 := bc_vT_ok (p1 := 44) (p2 := 720) (p3 := 721) (by decide +kernel) (bc_mem_W (bc_tk3 (List.mem_of_getElem? (i := 199) rfl)) rfl) rfl (bc_dec_ok kX10_repair z_X10_repair)
theorem v_141 : bc_vY 141 := bc_vT_ok (p1 := 44) (p2 := 1183) (p3 := 1184) (by decide +kernel) (bc_mem_W (bc_tk5 (List.mem_of_getElem? (i := 182) rfl)) rfl) rfl (bc_dec_ok kX10_repairCost z_X10_repairCost)
theorem v_142 : bc_vY 142 := bc_vT_ok (p1 := 44) (p2 := 1563) (p3 := 1564) (by decide +kernel) (bc_mem_W (bc_tk7 (List.mem_of_getElem? (i := 82) rfl)) rfl) rfl (bc_dec_ok kX10_restore z_X10_restore)
theorem v_143 : bc_vY 143 := bc_vT_ok (p1 := 44) (p2 := 760) (p3 := 761) (by decide +kernel) (bc_mem_W (bc_tk3 (List.mem_of_getElem? (i := 239) rfl)) rfl) rfl (bc_dec_ok kX10_resume z_X10_resume)
theorem v_144 : bc_vY 144 := bc_vT_ok (p1 := 44) (p2 := 926) (p3 := 20) (by decide +kernel) (bc_mem_W (bc_tk4 (List.mem_of_getElem? (i := 164) rfl)) rfl) rfl (bc_dec_ok kX10_runCommands z_X10_runCommands)
theorem v_145 : bc_vY 145 := bc_vT_ok (p1 := 44) (p2 := 810) (p3 := 811) (by decide +kernel) (bc_mem_W (bc_tk4 (List.mem_of_getElem? (i := 49) rfl)) rfl) rfl (bc_dec_ok kX10_runScript z_X10_runScript)
theorem v_146 : bc_vY 146 := bc_vT_ok (p1 := 44) (p2 := 1559) (p3 := 1560) (by decide +kernel) (bc_mem_W (bc_tk7 (List.mem_of_getElem? (i := 78) rfl)) rfl) rfl (bc_dec_ok kX10_save z_X10_save)
theorem v_147 : bc_vY 147 := bc_vT_ok (p1 := 44) (p2 := 1179) (p3 := 1180) (by decide +kernel) (bc_mem_W (bc_tk5 (List.mem_of_getElem? (i := 178) rfl)) rfl) rfl (bc_dec_ok kX10_secondJoint z_X10_secondJoint)
theorem v_148 : bc_vY 148 := bc_vT_ok (p1 := 44) (p2 := 709) (p3 := 710) (by decide +kernel) (bc_mem_W (bc_tk3 (List.mem_of_getElem? (i := 188) rfl)) rfl) rfl (bc_dec_ok kX10_setForge z_X10_setForge)
theorem v_149 : bc_vY 149 := bc_vT_ok (p1 := 44) (p2 := 764) (p3 := 765) (by decide +kernel) (bc_mem_W (bc_tk4 (List.mem_of_getElem? (i := 3) rfl)) rfl) rfl (bc_dec_ok kX10_setNiche z_X10_setNiche)
theorem v_150 : bc_vY 150 := bc_vT_ok (p1 := 44) (p2 := 1521) (p3 := 1522) (by decide +kernel) (bc_mem_W (bc_tk7 (List.mem_of_getElem? (i := 40) rfl)) rfl) rfl (bc_dec_ok kX10_steel z_X10_steel)
theorem v_151 : bc_vY 151 := bc_vT_ok (p1 := 44) (p2 := 1547) (p3 := 1548) (by decide +kernel) (bc_mem_W (bc_tk7 (List.mem_of_getElem? (i := 66) rfl)) rfl) rfl (bc_dec_ok kX10_steelByAccounts z_X10_steelByAccounts)
theorem v_152 : bc_vY 152 := bc_vT_ok (p1 := 44) (p2 := 1413) (p3 := 1414) (by decide +kernel) (bc_mem_W (bc_tk6 (List.mem_of_getElem? (i := 172) rfl)) rfl) rfl (bc_dec_ok kX10_strain z_X10_strain)
theorem v_153 : bc_vY 153 := bc_vT_ok (p1 := 44) (p2 := 1425) (p3 := 1426) (by decide +kernel) (bc_mem_W (bc_tk6 (List.mem_of_getElem? (i := 184) rfl)) rfl) rfl (bc_dec_ok kX10_strainBits z_X10_strainBits)
theorem v_154 : bc_vY 154 := bc_vT_ok (p1 := 44) (p2 := 1418) (p3 := 38) (by decide +kernel) (bc_mem_W (bc_tk6 (List.mem_of_getElem? (i := 176) rfl)) rfl) rfl (bc_dec_ok kX10_strainFault z_X10_strainFault)
theorem v_155 : bc_vY 155 := bc_vT_ok (p1 := 44) (p2 := 1422) (p3 := 39) (by decide +kernel) (bc_mem_W (bc_tk6 (List.mem_of_getElem? (i := 180) rfl)) rfl) rfl (bc_dec_ok kX10_strainOf z_X10_strainOf)
theorem v_156 : bc_vY 156 := bc_vT_ok (p1 := 44) (p2 := 1096) (p3 := 1097) (by decide +kernel) (bc_mem_W (bc_tk5 (List.mem_of_getElem? (i := 95) rfl)) rfl) rfl (bc_dec_ok kX10_vowAt z_X10_vowAt)
theorem v_157 : bc_vY 157 := bc_vT_ok (p1 := 44) (p2 := 1528) (p3 := 1529) (by decide +kernel) (bc_mem_W (bc_tk7 (List.mem_of_getElem? (i := 47) rfl)) rfl) rfl (bc_dec_ok kX10_vowCount z_X10_vowCount)
theorem v_158 : bc_vY 158 := bc_vT_ok (p1 := 44) (p2 := 698) (p3 := 8) (by decide +kernel) (bc_mem_W (bc_tk3 (List.mem_of_getElem? (i := 176) rfl)) rfl) rfl (bc_dec_ok kX10_vowFault z_X10_vowFault)
theorem v_159 : bc_vY 159 := bc_vT_ok (p1 := 44) (p2 := 669) (p3 := 4) (by decide +kernel) (bc_mem_W (bc_tk3 (List.mem_of_getElem? (i := 147) rfl)) rfl) rfl (bc_dec_ok kX10_walk z_X10_walk)
theorem v_160 : bc_vY 160 := bc_vT_ok (p1 := 44) (p2 := 643) (p3 := 2) (by decide +kernel) (bc_mem_W (bc_tk3 (List.mem_of_getElem? (i := 121) rfl)) rfl) rfl (bc_dec_ok kX10_walkFault z_X10_walkFault)
theorem v_161 : bc_vY 161 := bc_vT_ok (p1 := 44) (p2 := 1010) (p3 := 25) (by decide +kernel) (bc_mem_W (bc_tk5 (List.mem_of_getElem? (i := 8) rfl)) rfl) rfl (bc_dec_ok kX10_wayFault z_X10_wayFault)
theorem v_162 : bc_vY 162 := bc_vT_ok (p1 := 44) (p2 := 1005) (p3 := 1006) (by decide +kernel) (bc_mem_W (bc_tk5 (List.mem_of_getElem? (i := 4) rfl)) rfl) rfl (bc_dec_ok kX10_wayJoint z_X10_wayJoint)
theorem v_163 : bc_vY 163 := bc_vT_ok (p1 := 44) (p2 := 1507) (p3 := 1508) (by decide +kernel) (bc_mem_W (bc_tk7 (List.mem_of_getElem? (i := 26) rfl)) rfl) rfl (bc_dec_ok kX10_wayLength z_X10_wayLength)
theorem v_164 : bc_vY 164 := bc_vT_ok (p1 := 44) (p2 := 1484) (p3 := 41) (by decide +kernel) (bc_mem_W (bc_tk7 (List.mem_of_getElem? (i := 2) rfl)) rfl) rfl (bc_dec_ok kX10_waysAgree z_X10_waysAgree)
theorem v_165 : bc_vY 165 := bc_vT_ok (p1 := 44) (p2 := 1342) (p3 := 1343) (by decide +kernel) (bc_mem_W (bc_tk6 (List.mem_of_getElem? (i := 101) rfl)) rfl) rfl (bc_dec_ok kX10_wear z_X10_wear)
theorem v_166 : bc_vY 166 := bc_vT_ok (p1 := 44) (p2 := 993) (p3 := 24) (by decide +kernel) (bc_mem_W (bc_tk4 (List.mem_of_getElem? (i := 231) rfl)) rfl) rfl (bc_dec_ok kX10_widestByTrial z_X10_widestByTrial)
theorem v_167 : bc_vY 167 := bc_vT_ok (p1 := 44) (p2 := 981) (p3 := 982) (by decide +kernel) (bc_mem_W (bc_tk4 (List.mem_of_getElem? (i := 220) rfl)) rfl) rfl (bc_dec_ok kX10_widestLoad z_X10_widestLoad)
theorem v_168 : bc_vY 168 := bc_vT_ok (p1 := 44) (p2 := 988) (p3 := 989) (by decide +kernel) (bc_mem_W (bc_tk4 (List.mem_of_getElem? (i := 227) rfl)) rfl) rfl (bc_dec_ok kX10_widestLoadByTrial z_X10_widestLoadByTrial)
theorem v_169 : bc_vY 169 := bc_vT_ok (p1 := 43) (p2 := 951) (p3 := 0) (by decide +kernel) (bc_mem_W (bc_tk4 (List.mem_of_getElem? (i := 189) rfl)) rfl) rfl (bc_dec_ok kL_any z_L_any)
theorem v_170 : bc_vY 170 := bc_vT_ok (p1 := 43) (p2 := 963) (p3 := 0) (by decide +kernel) (bc_mem_W (bc_tk4 (List.mem_of_getElem? (i := 201) rfl)) rfl) rfl (bc_dec_ok kL_areMembersRight z_L_areMembersRight)
theorem v_171 : bc_vY 171 := bc_vT_ok (p1 := 43) (p2 := 1525) (p3 := 0) (by decide +kernel) (bc_mem_W (bc_tk7 (List.mem_of_getElem? (i := 43) rfl)) rfl) rfl (bc_dec_ok kL_areVowsRight z_L_areVowsRight)
theorem v_172 : bc_vY 172 := bc_vT_ok (p1 := 43) (p2 := 1499) (p3 := 0) (by decide +kernel) (bc_mem_W (bc_tk7 (List.mem_of_getElem? (i := 17) rfl)) rfl) rfl (bc_dec_ok kL_areWaysRight z_L_areWaysRight)
theorem v_173 : bc_vY 173 := bc_vT_ok (p1 := 43) (p2 := 966) (p3 := 0) (by decide +kernel) (bc_mem_W (bc_tk4 (List.mem_of_getElem? (i := 204) rfl)) rfl) rfl (bc_dec_ok kL_ask z_L_ask)
theorem v_174 : bc_vY 174 := bc_vT_ok (p1 := 43) (p2 := 969) (p3 := 0) (by decide +kernel) (bc_mem_W (bc_tk4 (List.mem_of_getElem? (i := 207) rfl)) rfl) rfl (bc_dec_ok kL_asked z_L_asked)
theorem v_175 : bc_vY 175 := bc_vT_ok (p1 := 43) (p2 := 390) (p3 := 0) (by decide +kernel) (bc_mem_W (bc_tk2 (List.mem_of_getElem? (i := 108) rfl)) rfl) rfl (bc_dec_ok kL_cell z_L_cell)
theorem v_176 : bc_vY 176 := bc_vT_ok (p1 := 43) (p2 := 398) (p3 := 0) (by decide +kernel) (bc_mem_W (bc_tk2 (List.mem_of_getElem? (i := 116) rfl)) rfl) rfl (bc_dec_ok kL_deed z_L_deed)
theorem v_177 : bc_vY 177 := bc_vT_ok (p1 := 43) (p2 := 1518) (p3 := 0) (by decide +kernel) (bc_mem_W (bc_tk7 (List.mem_of_getElem? (i := 36) rfl)) rfl) rfl (bc_dec_ok kL_isAffordable z_L_isAffordable)
theorem v_178 : bc_vY 178 := bc_vT_ok (p1 := 43) (p2 := 1515) (p3 := 0) (by decide +kernel) (bc_mem_W (bc_tk7 (List.mem_of_getElem? (i := 33) rfl)) rfl) rfl (bc_dec_ok kL_isAffordableRight z_L_isAffordableRight)
theorem v_179 : bc_vY 179 := bc_vT_ok (p1 := 43) (p2 := 1408) (p3 := 0) (by decide +kernel) (bc_mem_W (bc_tk6 (List.mem_of_getElem? (i := 166) rfl)) rfl) rfl (bc_dec_ok kL_isText z_L_isText)
theorem v_180 : bc_vY 180 := bc_vT_ok (p1 := 43) (p2 := 395) (p3 := 0) (by decide +kernel) (bc_mem_W (bc_tk2 (List.mem_of_getElem? (i := 113) rfl)) rfl) rfl (bc_dec_ok kL_lay z_L_lay)
theorem v_181 : bc_vY 181 := bc_vT_ok (p1 := 43) (p2 := 1532) (p3 := 0) (by decide +kernel) (bc_mem_W (bc_tk7 (List.mem_of_getElem? (i := 50) rfl)) rfl) rfl (bc_dec_ok kL_looks z_L_looks)
theorem v_182 : bc_vY 182 := bc_vT_ok (p1 := 43) (p2 := 387) (p3 := 0) (by decide +kernel) (bc_mem_W (bc_tk2 (List.mem_of_getElem? (i := 105) rfl)) rfl) rfl (bc_dec_ok kL_pick z_L_pick)
theorem v_183 : bc_vY 183 := bc_vT_ok (p1 := 43) (p2 := 485) (p3 := 0) (by decide +kernel) (bc_mem_W (bc_tk2 (List.mem_of_getElem? (i := 203) rfl)) rfl) rfl (bc_dec_ok kL_plain z_L_plain)
theorem v_184 : bc_vY 184 := bc_vT_ok (p1 := 43) (p2 := 1444) (p3 := 0) (by decide +kernel) (bc_mem_W (bc_tk6 (List.mem_of_getElem? (i := 202) rfl)) rfl) rfl (bc_dec_ok kL_reaches z_L_reaches)
theorem v_185 : bc_vY 185 := bc_vT_ok (p1 := 43) (p2 := 1145) (p3 := 0) (by decide +kernel) (bc_mem_W (bc_tk5 (List.mem_of_getElem? (i := 143) rfl)) rfl) rfl (bc_dec_ok kL_strength z_L_strength)
theorem v_186 : bc_vY 186 := bc_vT_ok (p1 := 43) (p2 := 1029) (p3 := 0) (by decide +kernel) (bc_mem_W (bc_tk5 (List.mem_of_getElem? (i := 27) rfl)) rfl) rfl (bc_dec_ok kL_told z_L_told)
theorem v_187 : bc_vY 187 := bc_vT_ok (p1 := 43) (p2 := 1502) (p3 := 0) (by decide +kernel) (bc_mem_W (bc_tk7 (List.mem_of_getElem? (i := 20) rfl)) rfl) rfl (bc_dec_ok kL_tryWays z_L_tryWays)
