noncomputable def bc_vT (j p1 p2 p3 : Nat) : Bool := bc_wat p1 (.initialized (bc_yt j).1.cls) && (plainName (bc_yt j).1.cls && (decide ((bc_yt j).1.cls ≠ "java/lang/invoke/MethodHandle") && (decide ((bc_yt j).1.cls ≠ "java/lang/invoke/VarHandle") && (decide ((parseMethodDescriptor (bc_yt j).1.desc).map (fun d => d.parameters.length) = some (bc_yt j).2.2.2.2.1) && (decide ((bc_yt j).2.2.1 ≤ 30) && (match bc_fg j with
  | true => bc_wat p2 (.static (bc_yt j).1)
  | false => bc_wat p2 (.instanceMethod (bc_yt j).1) && bc_wat p3 (.selects (bc_yt j).1.cls (bc_yt j).1 (bc_yt j).1)))))))
theorem bc_vT_ok {j p1 p2 p3 : Nat} (h : bc_vT j p1 p2 p3 = true) (hw : bc_cw (bc_yt j) ∈ bc_W) (hr : (bc_yt j).1.cls = bc_rn (bc_yt j).2.2.2.2.2.1) (ho : bc_ok1 (bc_yt j).2.1 (bc_yt j).2.2.2.2.2.2.2.2) : bc_vY j := by
  unfold bc_vT at h
  obtain ⟨h1, h⟩ := Bool.and_eq_true_iff.mp h
  obtain ⟨h2, h⟩ := Bool.and_eq_true_iff.mp h
  obtain ⟨h3, h⟩ := Bool.and_eq_true_iff.mp h
  obtain ⟨h4, h⟩ := Bool.and_eq_true_iff.mp h
  obtain ⟨h5, h⟩ := Bool.and_eq_true_iff.mp h
  obtain ⟨h7, h⟩ := Bool.and_eq_true_iff.mp h
  refine ⟨hw, bc_wat_ok h1, h2, of_decide_eq_true h3, of_decide_eq_true h4, of_decide_eq_true h5, hr, of_decide_eq_true h7, ho, ?_⟩
  cases hg : bc_fg j with
  | true =>
    rw [hg] at h
    exact bc_wat_ok h
  | false =>
    rw [hg] at h
    obtain ⟨h8, h9⟩ := Bool.and_eq_true_iff.mp h
    exact ⟨bc_wat_ok h8, bc_wat_ok h9⟩
theorem z_X0_separates : ∀ pc, 66 ≤ pc → pX0_separates pc = none := fun _ h => by unfold pX0_separates; exact bc_cut_none h
theorem z_X0_visit : ∀ pc, 142 ≤ pc → pX0_visit pc = none := fun _ h => by unfold pX0_visit; exact bc_cut_none h
theorem z_X1_forget : ∀ pc, 6 ≤ pc → pX1_forget pc = none := fun _ h => by unfold pX1_forget; exact bc_cut_none h
theorem z_X1_remember : ∀ pc, 42 ≤ pc → pX1_remember pc = none := fun _ h => by unfold pX1_remember; exact bc_cut_none h
theorem z_X1_takeBack : ∀ pc, 48 ≤ pc → pX1_takeBack pc = none := fun _ h => by unfold pX1_takeBack; exact bc_cut_none h
theorem z_X2_append : ∀ pc, 84 ≤ pc → pX2_append pc = none := fun _ h => by unfold pX2_append; exact bc_cut_none h
theorem z_X2_atRank : ∀ pc, 29 ≤ pc → pX2_atRank pc = none := fun _ h => by unfold pX2_atRank; exact bc_cut_none h
theorem z_X2_bearingOf : ∀ pc, 33 ≤ pc → pX2_bearingOf pc = none := fun _ h => by unfold pX2_bearingOf; exact bc_cut_none h
theorem z_X2_bearingSum : ∀ pc, 28 ≤ pc → pX2_bearingSum pc = none := fun _ h => by unfold pX2_bearingSum; exact bc_cut_none h
theorem z_X2_between : ∀ pc, 60 ≤ pc → pX2_between pc = none := fun _ h => by unfold pX2_between; exact bc_cut_none h
theorem z_X2_comesBefore : ∀ pc, 78 ≤ pc → pX2_comesBefore pc = none := fun _ h => by unfold pX2_comesBefore; exact bc_cut_none h
theorem z_X2_connects : ∀ pc, 107 ≤ pc → pX2_connects pc = none := fun _ h => by unfold pX2_connects; exact bc_cut_none h
theorem z_X2_copyFrom : ∀ pc, 110 ≤ pc → pX2_copyFrom pc = none := fun _ h => by unfold pX2_copyFrom; exact bc_cut_none h
theorem z_X2_costOf : ∀ pc, 20 ≤ pc → pX2_costOf pc = none := fun _ h => by unfold pX2_costOf; exact bc_cut_none h
theorem z_X2_crackedCount : ∀ pc, 32 ≤ pc → pX2_crackedCount pc = none := fun _ h => by unfold pX2_crackedCount; exact bc_cut_none h
theorem z_X2_has : ∀ pc, 18 ≤ pc → pX2_has pc = none := fun _ h => by unfold pX2_has; exact bc_cut_none h
theorem z_X2_leave : ∀ pc, 42 ≤ pc → pX2_leave pc = none := fun _ h => by unfold pX2_leave; exact bc_cut_none h
theorem z_X2_rankOf : ∀ pc, 32 ≤ pc → pX2_rankOf pc = none := fun _ h => by unfold pX2_rankOf; exact bc_cut_none h
theorem z_X2_renew : ∀ pc, 15 ≤ pc → pX2_renew pc = none := fun _ h => by unfold pX2_renew; exact bc_cut_none h
theorem z_X2_someBears : ∀ pc, 29 ≤ pc → pX2_someBears pc = none := fun _ h => by unfold pX2_someBears; exact bc_cut_none h
theorem z_X2_wearDown : ∀ pc, 42 ≤ pc → pX2_wearDown pc = none := fun _ h => by unfold pX2_wearDown; exact bc_cut_none h
theorem z_X3_copyFrom : ∀ pc, 23 ≤ pc → pX3_copyFrom pc = none := fun _ h => by unfold pX3_copyFrom; exact bc_cut_none h
theorem z_X3_dedicate : ∀ pc, 32 ≤ pc → pX3_dedicate pc = none := fun _ h => by unfold pX3_dedicate; exact bc_cut_none h
theorem z_X3_place : ∀ pc, 12 ≤ pc → pX3_place pc = none := fun _ h => by unfold pX3_place; exact bc_cut_none h
theorem z_X3_total : ∀ pc, 26 ≤ pc → pX3_total pc = none := fun _ h => by unfold pX3_total; exact bc_cut_none h
theorem z_X4_cheapestUnsettled : ∀ pc, 49 ≤ pc → pX4_cheapestUnsettled pc = none := fun _ h => by unfold pX4_cheapestUnsettled; exact bc_cut_none h
theorem z_X4_cheapestWay : ∀ pc, 137 ≤ pc → pX4_cheapestWay pc = none := fun _ h => by unfold pX4_cheapestWay; exact bc_cut_none h
theorem z_X4_closePrices : ∀ pc, 79 ≤ pc → pX4_closePrices pc = none := fun _ h => by unfold pX4_closePrices; exact bc_cut_none h
theorem z_X4_fillTable : ∀ pc, 80 ≤ pc → pX4_fillTable pc = none := fun _ h => by unfold pX4_fillTable; exact bc_cut_none h
theorem z_X4_isWorthTrying : ∀ pc, 60 ≤ pc → pX4_isWorthTrying pc = none := fun _ h => by unfold pX4_isWorthTrying; exact bc_cut_none h
theorem z_X4_loadByWays : ∀ pc, 49 ≤ pc → pX4_loadByWays pc = none := fun _ h => by unfold pX4_loadByWays; exact bc_cut_none h
theorem z_X4_noteAffordable : ∀ pc, 66 ≤ pc → pX4_noteAffordable pc = none := fun _ h => by unfold pX4_noteAffordable; exact bc_cut_none h
theorem z_X4_priceOf : ∀ pc, 41 ≤ pc → pX4_priceOf pc = none := fun _ h => by unfold pX4_priceOf; exact bc_cut_none h
theorem z_X4_setPrices : ∀ pc, 111 ≤ pc → pX4_setPrices pc = none := fun _ h => by unfold pX4_setPrices; exact bc_cut_none h
theorem z_X5_accept : ∀ pc, 29 ≤ pc → pX5_accept pc = none := fun _ h => by unfold pX5_accept; exact bc_cut_none h
theorem z_X5_argument : ∀ pc, 44 ≤ pc → pX5_argument pc = none := fun _ h => by unfold pX5_argument; exact bc_cut_none h
theorem z_X5_formOf : ∀ pc, 74 ≤ pc → pX5_formOf pc = none := fun _ h => by unfold pX5_formOf; exact bc_cut_none h
theorem z_X5_isDigit : ∀ pc, 18 ≤ pc → pX5_isDigit pc = none := fun _ h => by unfold pX5_isDigit; exact bc_cut_none h
theorem z_X5_kindAt : ∀ pc, 23 ≤ pc → pX5_kindAt pc = none := fun _ h => by unfold pX5_kindAt; exact bc_cut_none h
theorem z_X5_matchedLength : ∀ pc, 39 ≤ pc → pX5_matchedLength pc = none := fun _ h => by unfold pX5_matchedLength; exact bc_cut_none h
theorem z_X5_parse : ∀ pc, 95 ≤ pc → pX5_parse pc = none := fun _ h => by unfold pX5_parse; exact bc_cut_none h
theorem z_X5_readArguments : ∀ pc, 123 ≤ pc → pX5_readArguments pc = none := fun _ h => by unfold pX5_readArguments; exact bc_cut_none h
theorem z_X5_readValue : ∀ pc, 129 ≤ pc → pX5_readValue pc = none := fun _ h => by unfold pX5_readValue; exact bc_cut_none h
theorem z_X5_readWord : ∀ pc, 66 ≤ pc → pX5_readWord pc = none := fun _ h => by unfold pX5_readWord; exact bc_cut_none h
theorem z_X5_wordOf : ∀ pc, 82 ≤ pc → pX5_wordOf pc = none := fun _ h => by unfold pX5_wordOf; exact bc_cut_none h
theorem z_X6_copyFrom : ∀ pc, 34 ≤ pc → pX6_copyFrom pc = none := fun _ h => by unfold pX6_copyFrom; exact bc_cut_none h
theorem z_X7_append : ∀ pc, 30 ≤ pc → pX7_append pc = none := fun _ h => by unfold pX7_append; exact bc_cut_none h
theorem z_X7_appendNumber : ∀ pc, 34 ≤ pc → pX7_appendNumber pc = none := fun _ h => by unfold pX7_appendNumber; exact bc_cut_none h
theorem z_X7_at : ∀ pc, 19 ≤ pc → pX7_at pc = none := fun _ h => by unfold pX7_at; exact bc_cut_none h
theorem z_X7_clear : ∀ pc, 6 ≤ pc → pX7_clear pc = none := fun _ h => by unfold pX7_clear; exact bc_cut_none h
theorem z_X7_has : ∀ pc, 18 ≤ pc → pX7_has pc = none := fun _ h => by unfold pX7_has; exact bc_cut_none h
theorem z_X8_accountedSteel : ∀ pc, 18 ≤ pc → pX8_accountedSteel pc = none := fun _ h => by unfold pX8_accountedSteel; exact bc_cut_none h
theorem z_X8_copyFrom : ∀ pc, 126 ≤ pc → pX8_copyFrom pc = none := fun _ h => by unfold pX8_copyFrom; exact bc_cut_none h
theorem z_X8_greatestFurther : ∀ pc, 49 ≤ pc → pX8_greatestFurther pc = none := fun _ h => by unfold pX8_greatestFurther; exact bc_cut_none h
theorem z_X8_heatForge : ∀ pc, 12 ≤ pc → pX8_heatForge pc = none := fun _ h => by unfold pX8_heatForge; exact bc_cut_none h
theorem z_X8_isDueDayAllowed : ∀ pc, 25 ≤ pc → pX8_isDueDayAllowed pc = none := fun _ h => by unfold pX8_isDueDayAllowed; exact bc_cut_none h
theorem z_X8_keepsAllBySums : ∀ pc, 33 ≤ pc → pX8_keepsAllBySums pc = none := fun _ h => by unfold pX8_keepsAllBySums; exact bc_cut_none h
theorem z_X8_keepsAllDayByDay : ∀ pc, 74 ≤ pc → pX8_keepsAllDayByDay pc = none := fun _ h => by unfold pX8_keepsAllDayByDay; exact bc_cut_none h
theorem z_X8_pass : ∀ pc, 65 ≤ pc → pX8_pass pc = none := fun _ h => by unfold pX8_pass; exact bc_cut_none h
theorem z_X8_payRepair : ∀ pc, 21 ≤ pc → pX8_payRepair pc = none := fun _ h => by unfold pX8_payRepair; exact bc_cut_none h
theorem z_X8_promise : ∀ pc, 68 ≤ pc → pX8_promise pc = none := fun _ h => by unfold pX8_promise; exact bc_cut_none h
theorem z_X8_rankOfSlot : ∀ pc, 80 ≤ pc → pX8_rankOfSlot pc = none := fun _ h => by unfold pX8_rankOfSlot; exact bc_cut_none h
theorem z_X8_settle : ∀ pc, 52 ≤ pc → pX8_settle pc = none := fun _ h => by unfold pX8_settle; exact bc_cut_none h
theorem z_X8_settleDueVows : ∀ pc, 89 ≤ pc → pX8_settleDueVows pc = none := fun _ h => by unfold pX8_settleDueVows; exact bc_cut_none h
theorem z_X8_slotAtRank : ∀ pc, 29 ≤ pc → pX8_slotAtRank pc = none := fun _ h => by unfold pX8_slotAtRank; exact bc_cut_none h
theorem z_X8_slotOf : ∀ pc, 30 ≤ pc → pX8_slotOf pc = none := fun _ h => by unfold pX8_slotOf; exact bc_cut_none h
theorem z_X8_spareOn : ∀ pc, 54 ≤ pc → pX8_spareOn pc = none := fun _ h => by unfold pX8_spareOn; exact bc_cut_none h
theorem z_X9_findBest : ∀ pc, 89 ≤ pc → pX9_findBest pc = none := fun _ h => by unfold pX9_findBest; exact bc_cut_none h
theorem z_X9_linkBits : ∀ pc, 58 ≤ pc → pX9_linkBits pc = none := fun _ h => by unfold pX9_linkBits; exact bc_cut_none h
theorem z_X9_lowestNearer : ∀ pc, 45 ≤ pc → pX9_lowestNearer pc = none := fun _ h => by unfold pX9_lowestNearer; exact bc_cut_none h
theorem z_X9_measureFrom : ∀ pc, 80 ≤ pc → pX9_measureFrom pc = none := fun _ h => by unfold pX9_measureFrom; exact bc_cut_none h
theorem z_X9_spread : ∀ pc, 50 ≤ pc → pX9_spread pc = none := fun _ h => by unfold pX9_spread; exact bc_cut_none h
theorem z_X9_survey : ∀ pc, 101 ≤ pc → pX9_survey pc = none := fun _ h => by unfold pX9_survey; exact bc_cut_none h
theorem z_X9_widestByGrowing : ∀ pc, 145 ≤ pc → pX9_widestByGrowing pc = none := fun _ h => by unfold pX9_widestByGrowing; exact bc_cut_none h
theorem z_X9_widestOutside : ∀ pc, 48 ≤ pc → pX9_widestOutside pc = none := fun _ h => by unfold pX9_widestOutside; exact bc_cut_none h
theorem z_X10_abandon : ∀ pc, 33 ≤ pc → pX10_abandon pc = none := fun _ h => by unfold pX10_abandon; exact bc_cut_none h
theorem z_X10_addMember : ∀ pc, 35 ≤ pc → pX10_addMember pc = none := fun _ h => by unfold pX10_addMember; exact bc_cut_none h
theorem z_X10_affordableLoad : ∀ pc, 38 ≤ pc → pX10_affordableLoad pc = none := fun _ h => by unfold pX10_affordableLoad; exact bc_cut_none h
theorem z_X10_affordableLoadByTable : ∀ pc, 47 ≤ pc → pX10_affordableLoadByTable pc = none := fun _ h => by unfold pX10_affordableLoadByTable; exact bc_cut_none h
theorem z_X10_amount : ∀ pc, 38 ≤ pc → pX10_amount pc = none := fun _ h => by unfold pX10_amount; exact bc_cut_none h
theorem z_X10_bearing : ∀ pc, 20 ≤ pc → pX10_bearing pc = none := fun _ h => by unfold pX10_bearing; exact bc_cut_none h
theorem z_X10_bitsOf : ∀ pc, 116 ≤ pc → pX10_bitsOf pc = none := fun _ h => by unfold pX10_bitsOf; exact bc_cut_none h
theorem z_X10_brokenTotal : ∀ pc, 11 ≤ pc → pX10_brokenTotal pc = none := fun _ h => by unfold pX10_brokenTotal; exact bc_cut_none h
theorem z_X10_canKeepAll : ∀ pc, 11 ≤ pc → pX10_canKeepAll pc = none := fun _ h => by unfold pX10_canKeepAll; exact bc_cut_none h
theorem z_X10_canKeepAllBySums : ∀ pc, 11 ≤ pc → pX10_canKeepAllBySums pc = none := fun _ h => by unfold pX10_canKeepAllBySums; exact bc_cut_none h
theorem z_X10_carryOut : ∀ pc, 243 ≤ pc → pX10_carryOut pc = none := fun _ h => by unfold pX10_carryOut; exact bc_cut_none h
theorem z_X10_commandFault : ∀ pc, 165 ≤ pc → pX10_commandFault pc = none := fun _ h => by unfold pX10_commandFault; exact bc_cut_none h
theorem z_X10_crack : ∀ pc, 21 ≤ pc → pX10_crack pc = none := fun _ h => by unfold pX10_crack; exact bc_cut_none h
theorem z_X10_crackedShare : ∀ pc, 39 ≤ pc → pX10_crackedShare pc = none := fun _ h => by unfold pX10_crackedShare; exact bc_cut_none h
theorem z_X10_criticalByRemoval : ∀ pc, 43 ≤ pc → pX10_criticalByRemoval pc = none := fun _ h => by unfold pX10_criticalByRemoval; exact bc_cut_none h
theorem z_X10_criticalBySearch : ∀ pc, 53 ≤ pc → pX10_criticalBySearch pc = none := fun _ h => by unfold pX10_criticalBySearch; exact bc_cut_none h
theorem z_X10_criticalMembersAgree : ∀ pc, 39 ≤ pc → pX10_criticalMembersAgree pc = none := fun _ h => by unfold pX10_criticalMembersAgree; exact bc_cut_none h
theorem z_X10_day : ∀ pc, 11 ≤ pc → pX10_day pc = none := fun _ h => by unfold pX10_day; exact bc_cut_none h
theorem z_X10_daysFault : ∀ pc, 17 ≤ pc → pX10_daysFault pc = none := fun _ h => by unfold pX10_daysFault; exact bc_cut_none h
theorem z_X10_dueDay : ∀ pc, 38 ≤ pc → pX10_dueDay pc = none := fun _ h => by unfold pX10_dueDay; exact bc_cut_none h
theorem z_X10_errorPosition : ∀ pc, 21 ≤ pc → pX10_errorPosition pc = none := fun _ h => by unfold pX10_errorPosition; exact bc_cut_none h
theorem z_X10_failedCommand : ∀ pc, 21 ≤ pc → pX10_failedCommand pc = none := fun _ h => by unfold pX10_failedCommand; exact bc_cut_none h
theorem z_X10_firstJoint : ∀ pc, 21 ≤ pc → pX10_firstJoint pc = none := fun _ h => by unfold pX10_firstJoint; exact bc_cut_none h
theorem z_X10_forgeFault : ∀ pc, 16 ≤ pc → pX10_forgeFault pc = none := fun _ h => by unfold pX10_forgeFault; exact bc_cut_none h
theorem z_X10_found : ∀ pc, 14 ≤ pc → pX10_found pc = none := fun _ h => by unfold pX10_found; exact bc_cut_none h
theorem z_X10_greatestVow : ∀ pc, 55 ≤ pc → pX10_greatestVow pc = none := fun _ h => by unfold pX10_greatestVow; exact bc_cut_none h
theorem z_X10_indexFault : ∀ pc, 20 ≤ pc → pX10_indexFault pc = none := fun _ h => by unfold pX10_indexFault; exact bc_cut_none h
theorem z_X10_isAbandoned : ∀ pc, 21 ≤ pc → pX10_isAbandoned pc = none := fun _ h => by unfold pX10_isAbandoned; exact bc_cut_none h
theorem z_X10_isConsistent : ∀ pc, 66 ≤ pc → pX10_isConsistent pc = none := fun _ h => by unfold pX10_isConsistent; exact bc_cut_none h
theorem z_X10_isCritical : ∀ pc, 14 ≤ pc → pX10_isCritical pc = none := fun _ h => by unfold pX10_isCritical; exact bc_cut_none h
theorem z_X10_isCriticalByRemoval : ∀ pc, 14 ≤ pc → pX10_isCriticalByRemoval pc = none := fun _ h => by unfold pX10_isCriticalByRemoval; exact bc_cut_none h
theorem z_X10_isJoint : ∀ pc, 16 ≤ pc → pX10_isJoint pc = none := fun _ h => by unfold pX10_isJoint; exact bc_cut_none h
theorem z_X10_isKind : ∀ pc, 18 ≤ pc → pX10_isKind pc = none := fun _ h => by unfold pX10_isKind; exact bc_cut_none h
theorem z_X10_keptTotal : ∀ pc, 11 ≤ pc → pX10_keptTotal pc = none := fun _ h => by unfold pX10_keptTotal; exact bc_cut_none h
theorem z_X10_leaveFault : ∀ pc, 38 ≤ pc → pX10_leaveFault pc = none := fun _ h => by unfold pX10_leaveFault; exact bc_cut_none h
theorem z_X10_links : ∀ pc, 22 ≤ pc → pX10_links pc = none := fun _ h => by unfold pX10_links; exact bc_cut_none h
theorem z_X10_makeVow : ∀ pc, 33 ≤ pc → pX10_makeVow pc = none := fun _ h => by unfold pX10_makeVow; exact bc_cut_none h
theorem z_X10_meanBearing : ∀ pc, 39 ≤ pc → pX10_meanBearing pc = none := fun _ h => by unfold pX10_meanBearing; exact bc_cut_none h
theorem z_X10_memberByBearing : ∀ pc, 27 ≤ pc → pX10_memberByBearing pc = none := fun _ h => by unfold pX10_memberByBearing; exact bc_cut_none h
theorem z_X10_memberCount : ∀ pc, 11 ≤ pc → pX10_memberCount pc = none := fun _ h => by unfold pX10_memberCount; exact bc_cut_none h
theorem z_X10_memberFault : ∀ pc, 77 ≤ pc → pX10_memberFault pc = none := fun _ h => by unfold pX10_memberFault; exact bc_cut_none h
theorem z_X10_mend : ∀ pc, 36 ≤ pc → pX10_mend pc = none := fun _ h => by unfold pX10_mend; exact bc_cut_none h
theorem z_X10_mendFault : ∀ pc, 63 ≤ pc → pX10_mendFault pc = none := fun _ h => by unfold pX10_mendFault; exact bc_cut_none h
theorem z_X10_nicheFault : ∀ pc, 13 ≤ pc → pX10_nicheFault pc = none := fun _ h => by unfold pX10_nicheFault; exact bc_cut_none h
theorem z_X10_nicheKind : ∀ pc, 11 ≤ pc → pX10_nicheKind pc = none := fun _ h => by unfold pX10_nicheKind; exact bc_cut_none h
theorem z_X10_nicheWeight : ∀ pc, 11 ≤ pc → pX10_nicheWeight pc = none := fun _ h => by unfold pX10_nicheWeight; exact bc_cut_none h
theorem z_X10_outputAt : ∀ pc, 28 ≤ pc → pX10_outputAt pc = none := fun _ h => by unfold pX10_outputAt; exact bc_cut_none h
theorem z_X10_pairFault : ∀ pc, 27 ≤ pc → pX10_pairFault pc = none := fun _ h => by unfold pX10_pairFault; exact bc_cut_none h
theorem z_X10_passDays : ∀ pc, 30 ≤ pc → pX10_passDays pc = none := fun _ h => by unfold pX10_passDays; exact bc_cut_none h
theorem z_X10_placeFault : ∀ pc, 68 ≤ pc → pX10_placeFault pc = none := fun _ h => by unfold pX10_placeFault; exact bc_cut_none h
theorem z_X10_procession : ∀ pc, 29 ≤ pc → pX10_procession pc = none := fun _ h => by unfold pX10_procession; exact bc_cut_none h
theorem z_X10_put : ∀ pc, 34 ≤ pc → pX10_put pc = none := fun _ h => by unfold pX10_put; exact bc_cut_none h
theorem z_X10_refuse : ∀ pc, 107 ≤ pc → pX10_refuse pc = none := fun _ h => by unfold pX10_refuse; exact bc_cut_none h
theorem z_X10_renderMember : ∀ pc, 167 ≤ pc → pX10_renderMember pc = none := fun _ h => by unfold pX10_renderMember; exact bc_cut_none h
theorem z_X10_renderWay : ∀ pc, 78 ≤ pc → pX10_renderWay pc = none := fun _ h => by unfold pX10_renderWay; exact bc_cut_none h
theorem z_X10_repair : ∀ pc, 25 ≤ pc → pX10_repair pc = none := fun _ h => by unfold pX10_repair; exact bc_cut_none h
theorem z_X10_repairCost : ∀ pc, 20 ≤ pc → pX10_repairCost pc = none := fun _ h => by unfold pX10_repairCost; exact bc_cut_none h
theorem z_X10_restore : ∀ pc, 44 ≤ pc → pX10_restore pc = none := fun _ h => by unfold pX10_restore; exact bc_cut_none h
theorem z_X10_resume : ∀ pc, 33 ≤ pc → pX10_resume pc = none := fun _ h => by unfold pX10_resume; exact bc_cut_none h
theorem z_X10_runCommands : ∀ pc, 69 ≤ pc → pX10_runCommands pc = none := fun _ h => by unfold pX10_runCommands; exact bc_cut_none h
theorem z_X10_runScript : ∀ pc, 78 ≤ pc → pX10_runScript pc = none := fun _ h => by unfold pX10_runScript; exact bc_cut_none h
theorem z_X10_save : ∀ pc, 27 ≤ pc → pX10_save pc = none := fun _ h => by unfold pX10_save; exact bc_cut_none h
theorem z_X10_secondJoint : ∀ pc, 21 ≤ pc → pX10_secondJoint pc = none := fun _ h => by unfold pX10_secondJoint; exact bc_cut_none h
theorem z_X10_setForge : ∀ pc, 30 ≤ pc → pX10_setForge pc = none := fun _ h => by unfold pX10_setForge; exact bc_cut_none h
theorem z_X10_setNiche : ∀ pc, 30 ≤ pc → pX10_setNiche pc = none := fun _ h => by unfold pX10_setNiche; exact bc_cut_none h
theorem z_X10_steel : ∀ pc, 11 ≤ pc → pX10_steel pc = none := fun _ h => by unfold pX10_steel; exact bc_cut_none h
theorem z_X10_steelByAccounts : ∀ pc, 11 ≤ pc → pX10_steelByAccounts pc = none := fun _ h => by unfold pX10_steelByAccounts; exact bc_cut_none h
theorem z_X10_strain : ∀ pc, 15 ≤ pc → pX10_strain pc = none := fun _ h => by unfold pX10_strain; exact bc_cut_none h
theorem z_X10_strainBits : ∀ pc, 18 ≤ pc → pX10_strainBits pc = none := fun _ h => by unfold pX10_strainBits; exact bc_cut_none h
theorem z_X10_strainFault : ∀ pc, 37 ≤ pc → pX10_strainFault pc = none := fun _ h => by unfold pX10_strainFault; exact bc_cut_none h
theorem z_X10_strainOf : ∀ pc, 26 ≤ pc → pX10_strainOf pc = none := fun _ h => by unfold pX10_strainOf; exact bc_cut_none h
theorem z_X10_type : ∀ pc, 65 ≤ pc → pX10_type pc = none := fun _ h => by unfold pX10_type; exact bc_cut_none h
theorem z_X10_undo : ∀ pc, 37 ≤ pc → pX10_undo pc = none := fun _ h => by unfold pX10_undo; exact bc_cut_none h
theorem z_X10_vowAt : ∀ pc, 38 ≤ pc → pX10_vowAt pc = none := fun _ h => by unfold pX10_vowAt; exact bc_cut_none h
theorem z_X10_vowCount : ∀ pc, 11 ≤ pc → pX10_vowCount pc = none := fun _ h => by unfold pX10_vowCount; exact bc_cut_none h
theorem z_X10_vowFault : ∀ pc, 48 ≤ pc → pX10_vowFault pc = none := fun _ h => by unfold pX10_vowFault; exact bc_cut_none h
theorem z_X10_walk : ∀ pc, 124 ≤ pc → pX10_walk pc = none := fun _ h => by unfold pX10_walk; exact bc_cut_none h
theorem z_X10_walkFault : ∀ pc, 83 ≤ pc → pX10_walkFault pc = none := fun _ h => by unfold pX10_walkFault; exact bc_cut_none h
theorem z_X10_wayFault : ∀ pc, 44 ≤ pc → pX10_wayFault pc = none := fun _ h => by unfold pX10_wayFault; exact bc_cut_none h
theorem z_X10_wayJoint : ∀ pc, 42 ≤ pc → pX10_wayJoint pc = none := fun _ h => by unfold pX10_wayJoint; exact bc_cut_none h
theorem z_X10_wayLength : ∀ pc, 17 ≤ pc → pX10_wayLength pc = none := fun _ h => by unfold pX10_wayLength; exact bc_cut_none h
theorem z_X10_waysAgree : ∀ pc, 126 ≤ pc → pX10_waysAgree pc = none := fun _ h => by unfold pX10_waysAgree; exact bc_cut_none h
theorem z_X10_wear : ∀ pc, 21 ≤ pc → pX10_wear pc = none := fun _ h => by unfold pX10_wear; exact bc_cut_none h
theorem z_X10_widestByTrial : ∀ pc, 49 ≤ pc → pX10_widestByTrial pc = none := fun _ h => by unfold pX10_widestByTrial; exact bc_cut_none h
theorem z_X10_widestLoad : ∀ pc, 35 ≤ pc → pX10_widestLoad pc = none := fun _ h => by unfold pX10_widestLoad; exact bc_cut_none h
theorem z_X10_widestLoadByTrial : ∀ pc, 18 ≤ pc → pX10_widestLoadByTrial pc = none := fun _ h => by unfold pX10_widestLoadByTrial; exact bc_cut_none h
theorem z_X11_abandon : ∀ pc, 15 ≤ pc → pX11_abandon pc = none := fun _ h => by unfold pX11_abandon; exact bc_cut_none h
theorem z_X11_addMember : ∀ pc, 16 ≤ pc → pX11_addMember pc = none := fun _ h => by unfold pX11_addMember; exact bc_cut_none h
theorem z_X11_adds : ∀ pc, 172 ≤ pc → pX11_adds pc = none := fun _ h => by unfold pX11_adds; exact bc_cut_none h
theorem z_X11_affordableLoad : ∀ pc, 7 ≤ pc → pX11_affordableLoad pc = none := fun _ h => by unfold pX11_affordableLoad; exact bc_cut_none h
theorem z_X11_affordableLoadByTable : ∀ pc, 7 ≤ pc → pX11_affordableLoadByTable pc = none := fun _ h => by unfold pX11_affordableLoadByTable; exact bc_cut_none h
theorem z_X11_affords : ∀ pc, 31 ≤ pc → pX11_affords pc = none := fun _ h => by unfold pX11_affords; exact bc_cut_none h
theorem z_X11_amount : ∀ pc, 7 ≤ pc → pX11_amount pc = none := fun _ h => by unfold pX11_amount; exact bc_cut_none h
theorem z_X11_areJoints : ∀ pc, 26 ≤ pc → pX11_areJoints pc = none := fun _ h => by unfold pX11_areJoints; exact bc_cut_none h
theorem z_X11_asks : ∀ pc, 23 ≤ pc → pX11_asks pc = none := fun _ h => by unfold pX11_asks; exact bc_cut_none h
theorem z_X11_asksAffordable : ∀ pc, 67 ≤ pc → pX11_asksAffordable pc = none := fun _ h => by unfold pX11_asksAffordable; exact bc_cut_none h
theorem z_X11_asksCritical : ∀ pc, 56 ≤ pc → pX11_asksCritical pc = none := fun _ h => by unfold pX11_asksCritical; exact bc_cut_none h
theorem z_X11_asksVow : ∀ pc, 68 ≤ pc → pX11_asksVow pc = none := fun _ h => by unfold pX11_asksVow; exact bc_cut_none h
theorem z_X11_asksWay : ∀ pc, 67 ≤ pc → pX11_asksWay pc = none := fun _ h => by unfold pX11_asksWay; exact bc_cut_none h
theorem z_X11_bearing : ∀ pc, 22 ≤ pc → pX11_bearing pc = none := fun _ h => by unfold pX11_bearing; exact bc_cut_none h
theorem z_X11_bears : ∀ pc, 34 ≤ pc → pX11_bears pc = none := fun _ h => by unfold pX11_bears; exact bc_cut_none h
theorem z_X11_begins : ∀ pc, 14 ≤ pc → pX11_begins pc = none := fun _ h => by unfold pX11_begins; exact bc_cut_none h
theorem z_X11_between : ∀ pc, 73 ≤ pc → pX11_between pc = none := fun _ h => by unfold pX11_between; exact bc_cut_none h
theorem z_X11_blank : ∀ pc, 10 ≤ pc → pX11_blank pc = none := fun _ h => by unfold pX11_blank; exact bc_cut_none h
theorem z_X11_brokenTotal : ∀ pc, 7 ≤ pc → pX11_brokenTotal pc = none := fun _ h => by unfold pX11_brokenTotal; exact bc_cut_none h
theorem z_X11_canKeepAll : ∀ pc, 10 ≤ pc → pX11_canKeepAll pc = none := fun _ h => by unfold pX11_canKeepAll; exact bc_cut_none h
theorem z_X11_canKeepAllBySums : ∀ pc, 10 ≤ pc → pX11_canKeepAllBySums pc = none := fun _ h => by unfold pX11_canKeepAllBySums; exact bc_cut_none h
theorem z_X11_copies : ∀ pc, 30 ≤ pc → pX11_copies pc = none := fun _ h => by unfold pX11_copies; exact bc_cut_none h
theorem z_X11_costFor : ∀ pc, 188 ≤ pc → pX11_costFor pc = none := fun _ h => by unfold pX11_costFor; exact bc_cut_none h
theorem z_X11_costOf : ∀ pc, 20 ≤ pc → pX11_costOf pc = none := fun _ h => by unfold pX11_costOf; exact bc_cut_none h
theorem z_X11_crack : ∀ pc, 7 ≤ pc → pX11_crack pc = none := fun _ h => by unfold pX11_crack; exact bc_cut_none h
theorem z_X11_crackedShare : ∀ pc, 73 ≤ pc → pX11_crackedShare pc = none := fun _ h => by unfold pX11_crackedShare; exact bc_cut_none h
theorem z_X11_day : ∀ pc, 6 ≤ pc → pX11_day pc = none := fun _ h => by unfold pX11_day; exact bc_cut_none h
theorem z_X11_digit : ∀ pc, 12 ≤ pc → pX11_digit pc = none := fun _ h => by unfold pX11_digit; exact bc_cut_none h
theorem z_X11_does : ∀ pc, 156 ≤ pc → pX11_does pc = none := fun _ h => by unfold pX11_does; exact bc_cut_none h
theorem z_X11_dueDay : ∀ pc, 7 ≤ pc → pX11_dueDay pc = none := fun _ h => by unfold pX11_dueDay; exact bc_cut_none h
theorem z_X11_empties : ∀ pc, 49 ≤ pc → pX11_empties pc = none := fun _ h => by unfold pX11_empties; exact bc_cut_none h
theorem z_X11_ends : ∀ pc, 28 ≤ pc → pX11_ends pc = none := fun _ h => by unfold pX11_ends; exact bc_cut_none h
theorem z_X11_errorPosition : ∀ pc, 29 ≤ pc → pX11_errorPosition pc = none := fun _ h => by unfold pX11_errorPosition; exact bc_cut_none h
theorem z_X11_failedCommand : ∀ pc, 29 ≤ pc → pX11_failedCommand pc = none := fun _ h => by unfold pX11_failedCommand; exact bc_cut_none h
theorem z_X11_fills : ∀ pc, 22 ≤ pc → pX11_fills pc = none := fun _ h => by unfold pX11_fills; exact bc_cut_none h
theorem z_X11_finds : ∀ pc, 137 ≤ pc → pX11_finds pc = none := fun _ h => by unfold pX11_finds; exact bc_cut_none h
theorem z_X11_firstJoint : ∀ pc, 7 ≤ pc → pX11_firstJoint pc = none := fun _ h => by unfold pX11_firstJoint; exact bc_cut_none h
theorem z_X11_forges : ∀ pc, 30 ≤ pc → pX11_forges pc = none := fun _ h => by unfold pX11_forges; exact bc_cut_none h
theorem z_X11_goes : ∀ pc, 9 ≤ pc → pX11_goes pc = none := fun _ h => by unfold pX11_goes; exact bc_cut_none h
theorem z_X11_greatestVow : ∀ pc, 95 ≤ pc → pX11_greatestVow pc = none := fun _ h => by unfold pX11_greatestVow; exact bc_cut_none h
theorem z_X11_holds : ∀ pc, 51 ≤ pc → pX11_holds pc = none := fun _ h => by unfold pX11_holds; exact bc_cut_none h
theorem z_X11_isAbandoned : ∀ pc, 16 ≤ pc → pX11_isAbandoned pc = none := fun _ h => by unfold pX11_isAbandoned; exact bc_cut_none h
theorem z_X11_isConsistent : ∀ pc, 7 ≤ pc → pX11_isConsistent pc = none := fun _ h => by unfold pX11_isConsistent; exact bc_cut_none h
theorem z_X11_isCritical : ∀ pc, 6 ≤ pc → pX11_isCritical pc = none := fun _ h => by unfold pX11_isCritical; exact bc_cut_none h
theorem z_X11_isCriticalByRemoval : ∀ pc, 6 ≤ pc → pX11_isCriticalByRemoval pc = none := fun _ h => by unfold pX11_isCriticalByRemoval; exact bc_cut_none h
theorem z_X11_isDue : ∀ pc, 29 ≤ pc → pX11_isDue pc = none := fun _ h => by unfold pX11_isDue; exact bc_cut_none h
theorem z_X11_isIn : ∀ pc, 16 ≤ pc → pX11_isIn pc = none := fun _ h => by unfold pX11_isIn; exact bc_cut_none h
theorem z_X11_isKind : ∀ pc, 18 ≤ pc → pX11_isKind pc = none := fun _ h => by unfold pX11_isKind; exact bc_cut_none h
theorem z_X11_isMember : ∀ pc, 14 ≤ pc → pX11_isMember pc = none := fun _ h => by unfold pX11_isMember; exact bc_cut_none h
theorem z_X11_keepsAll : ∀ pc, 45 ≤ pc → pX11_keepsAll pc = none := fun _ h => by unfold pX11_keepsAll; exact bc_cut_none h
theorem z_X11_keptTotal : ∀ pc, 7 ≤ pc → pX11_keptTotal pc = none := fun _ h => by unfold pX11_keptTotal; exact bc_cut_none h
theorem z_X11_kindHere : ∀ pc, 169 ≤ pc → pX11_kindHere pc = none := fun _ h => by unfold pX11_kindHere; exact bc_cut_none h
theorem z_X11_kindOf : ∀ pc, 29 ≤ pc → pX11_kindOf pc = none := fun _ h => by unfold pX11_kindOf; exact bc_cut_none h
theorem z_X11_lays : ∀ pc, 11 ≤ pc → pX11_lays pc = none := fun _ h => by unfold pX11_lays; exact bc_cut_none h
theorem z_X11_leaves : ∀ pc, 48 ≤ pc → pX11_leaves pc = none := fun _ h => by unfold pX11_leaves; exact bc_cut_none h
theorem z_X11_leftOnes : ∀ pc, 31 ≤ pc → pX11_leftOnes pc = none := fun _ h => by unfold pX11_leftOnes; exact bc_cut_none h
theorem z_X11_letterHere : ∀ pc, 25 ≤ pc → pX11_letterHere pc = none := fun _ h => by unfold pX11_letterHere; exact bc_cut_none h
theorem z_X11_links : ∀ pc, 75 ≤ pc → pX11_links pc = none := fun _ h => by unfold pX11_links; exact bc_cut_none h
theorem z_X11_makeVow : ∀ pc, 15 ≤ pc → pX11_makeVow pc = none := fun _ h => by unfold pX11_makeVow; exact bc_cut_none h
theorem z_X11_meanBearing : ∀ pc, 64 ≤ pc → pX11_meanBearing pc = none := fun _ h => by unfold pX11_meanBearing; exact bc_cut_none h
theorem z_X11_measures : ∀ pc, 148 ≤ pc → pX11_measures pc = none := fun _ h => by unfold pX11_measures; exact bc_cut_none h
theorem z_X11_memberByBearing : ∀ pc, 144 ≤ pc → pX11_memberByBearing pc = none := fun _ h => by unfold pX11_memberByBearing; exact bc_cut_none h
theorem z_X11_memberCount : ∀ pc, 6 ≤ pc → pX11_memberCount pc = none := fun _ h => by unfold pX11_memberCount; exact bc_cut_none h
theorem z_X11_nicheKind : ∀ pc, 8 ≤ pc → pX11_nicheKind pc = none := fun _ h => by unfold pX11_nicheKind; exact bc_cut_none h
theorem z_X11_nicheWeight : ∀ pc, 10 ≤ pc → pX11_nicheWeight pc = none := fun _ h => by unfold pX11_nicheWeight; exact bc_cut_none h
theorem z_X11_number : ∀ pc, 52 ≤ pc → pX11_number pc = none := fun _ h => by unfold pX11_number; exact bc_cut_none h
theorem z_X11_of : ∀ pc, 12 ≤ pc → pX11_of pc = none := fun _ h => by unfold pX11_of; exact bc_cut_none h
theorem z_X11_ofVow : ∀ pc, 14 ≤ pc → pX11_ofVow pc = none := fun _ h => by unfold pX11_ofVow; exact bc_cut_none h
theorem z_X11_outputAt : ∀ pc, 30 ≤ pc → pX11_outputAt pc = none := fun _ h => by unfold pX11_outputAt; exact bc_cut_none h
theorem z_X11_passDays : ∀ pc, 14 ≤ pc → pX11_passDays pc = none := fun _ h => by unfold pX11_passDays; exact bc_cut_none h
theorem z_X11_passes : ∀ pc, 276 ≤ pc → pX11_passes pc = none := fun _ h => by unfold pX11_passes; exact bc_cut_none h
theorem z_X11_place : ∀ pc, 22 ≤ pc → pX11_place pc = none := fun _ h => by unfold pX11_place; exact bc_cut_none h
theorem z_X11_procession : ∀ pc, 16 ≤ pc → pX11_procession pc = none := fun _ h => by unfold pX11_procession; exact bc_cut_none h
theorem z_X11_put : ∀ pc, 16 ≤ pc → pX11_put pc = none := fun _ h => by unfold pX11_put; exact bc_cut_none h
theorem z_X11_puts : ∀ pc, 98 ≤ pc → pX11_puts pc = none := fun _ h => by unfold pX11_puts; exact bc_cut_none h
theorem z_X11_reads : ∀ pc, 68 ≤ pc → pX11_reads pc = none := fun _ h => by unfold pX11_reads; exact bc_cut_none h
theorem z_X11_readsAll : ∀ pc, 76 ≤ pc → pX11_readsAll pc = none := fun _ h => by unfold pX11_readsAll; exact bc_cut_none h
theorem z_X11_readsCommand : ∀ pc, 221 ≤ pc → pX11_readsCommand pc = none := fun _ h => by unfold pX11_readsCommand; exact bc_cut_none h
theorem z_X11_remembers : ∀ pc, 81 ≤ pc → pX11_remembers pc = none := fun _ h => by unfold pX11_remembers; exact bc_cut_none h
theorem z_X11_renderMember : ∀ pc, 139 ≤ pc → pX11_renderMember pc = none := fun _ h => by unfold pX11_renderMember; exact bc_cut_none h
theorem z_X11_renderWay : ∀ pc, 81 ≤ pc → pX11_renderWay pc = none := fun _ h => by unfold pX11_renderWay; exact bc_cut_none h
theorem z_X11_repair : ∀ pc, 14 ≤ pc → pX11_repair pc = none := fun _ h => by unfold pX11_repair; exact bc_cut_none h
theorem z_X11_repairCost : ∀ pc, 22 ≤ pc → pX11_repairCost pc = none := fun _ h => by unfold pX11_repairCost; exact bc_cut_none h
theorem z_X11_repairs : ∀ pc, 97 ≤ pc → pX11_repairs pc = none := fun _ h => by unfold pX11_repairs; exact bc_cut_none h
theorem z_X11_restore : ∀ pc, 38 ≤ pc → pX11_restore pc = none := fun _ h => by unfold pX11_restore; exact bc_cut_none h
theorem z_X11_resume : ∀ pc, 15 ≤ pc → pX11_resume pc = none := fun _ h => by unfold pX11_resume; exact bc_cut_none h
theorem z_X11_runScript : ∀ pc, 101 ≤ pc → pX11_runScript pc = none := fun _ h => by unfold pX11_runScript; exact bc_cut_none h
theorem z_X11_save : ∀ pc, 30 ≤ pc → pX11_save pc = none := fun _ h => by unfold pX11_save; exact bc_cut_none h
theorem z_X11_secondJoint : ∀ pc, 7 ≤ pc → pX11_secondJoint pc = none := fun _ h => by unfold pX11_secondJoint; exact bc_cut_none h
theorem z_X11_setForge : ∀ pc, 14 ≤ pc → pX11_setForge pc = none := fun _ h => by unfold pX11_setForge; exact bc_cut_none h
theorem z_X11_setNiche : ∀ pc, 14 ≤ pc → pX11_setNiche pc = none := fun _ h => by unfold pX11_setNiche; exact bc_cut_none h
theorem z_X11_spareOn : ∀ pc, 66 ≤ pc → pX11_spareOn pc = none := fun _ h => by unfold pX11_spareOn; exact bc_cut_none h
theorem z_X11_startOf : ∀ pc, 88 ≤ pc → pX11_startOf pc = none := fun _ h => by unfold pX11_startOf; exact bc_cut_none h
theorem z_X11_steel : ∀ pc, 6 ≤ pc → pX11_steel pc = none := fun _ h => by unfold pX11_steel; exact bc_cut_none h
theorem z_X11_steelByAccounts : ∀ pc, 32 ≤ pc → pX11_steelByAccounts pc = none := fun _ h => by unfold pX11_steelByAccounts; exact bc_cut_none h
theorem z_X11_strain : ∀ pc, 7 ≤ pc → pX11_strain pc = none := fun _ h => by unfold pX11_strain; exact bc_cut_none h
theorem z_X11_strainBits : ∀ pc, 23 ≤ pc → pX11_strainBits pc = none := fun _ h => by unfold pX11_strainBits; exact bc_cut_none h
theorem z_X11_strains : ∀ pc, 47 ≤ pc → pX11_strains pc = none := fun _ h => by unfold pX11_strains; exact bc_cut_none h
theorem z_X11_thrown : ∀ pc, 5 ≤ pc → pX11_thrown pc = none := fun _ h => by unfold pX11_thrown; exact bc_cut_none h
theorem z_X11_total : ∀ pc, 12 ≤ pc → pX11_total pc = none := fun _ h => by unfold pX11_total; exact bc_cut_none h
theorem z_X11_type : ∀ pc, 58 ≤ pc → pX11_type pc = none := fun _ h => by unfold pX11_type; exact bc_cut_none h
theorem z_X11_undo : ∀ pc, 56 ≤ pc → pX11_undo pc = none := fun _ h => by unfold pX11_undo; exact bc_cut_none h
theorem z_X11_vowAt : ∀ pc, 125 ≤ pc → pX11_vowAt pc = none := fun _ h => by unfold pX11_vowAt; exact bc_cut_none h
theorem z_X11_vowCount : ∀ pc, 6 ≤ pc → pX11_vowCount pc = none := fun _ h => by unfold pX11_vowCount; exact bc_cut_none h
theorem z_X11_vows : ∀ pc, 123 ≤ pc → pX11_vows pc = none := fun _ h => by unfold pX11_vows; exact bc_cut_none h
theorem z_X11_waits : ∀ pc, 50 ≤ pc → pX11_waits pc = none := fun _ h => by unfold pX11_waits; exact bc_cut_none h
theorem z_X11_walks : ∀ pc, 213 ≤ pc → pX11_walks pc = none := fun _ h => by unfold pX11_walks; exact bc_cut_none h
theorem z_X11_wayJoint : ∀ pc, 64 ≤ pc → pX11_wayJoint pc = none := fun _ h => by unfold pX11_wayJoint; exact bc_cut_none h
theorem z_X11_wayLength : ∀ pc, 26 ≤ pc → pX11_wayLength pc = none := fun _ h => by unfold pX11_wayLength; exact bc_cut_none h
theorem z_X11_wear : ∀ pc, 7 ≤ pc → pX11_wear pc = none := fun _ h => by unfold pX11_wear; exact bc_cut_none h
theorem z_X11_weighs : ∀ pc, 29 ≤ pc → pX11_weighs pc = none := fun _ h => by unfold pX11_weighs; exact bc_cut_none h
theorem z_X11_widest : ∀ pc, 138 ≤ pc → pX11_widest pc = none := fun _ h => by unfold pX11_widest; exact bc_cut_none h
theorem z_X11_widestLoad : ∀ pc, 7 ≤ pc → pX11_widestLoad pc = none := fun _ h => by unfold pX11_widestLoad; exact bc_cut_none h
theorem z_X11_widestLoadByTrial : ∀ pc, 7 ≤ pc → pX11_widestLoadByTrial pc = none := fun _ h => by unfold pX11_widestLoadByTrial; exact bc_cut_none h
theorem z_X11_writesNumber : ∀ pc, 61 ≤ pc → pX11_writesNumber pc = none := fun _ h => by unfold pX11_writesNumber; exact bc_cut_none h
theorem z_L_abandon : ∀ pc, 20 ≤ pc → pL_abandon pc = none := fun _ h => by unfold pL_abandon; exact bc_cut_none h
theorem z_L_addMember : ∀ pc, 29 ≤ pc → pL_addMember pc = none := fun _ h => by unfold pL_addMember; exact bc_cut_none h
theorem z_L_affordableLoad : ∀ pc, 27 ≤ pc → pL_affordableLoad pc = none := fun _ h => by unfold pL_affordableLoad; exact bc_cut_none h
theorem z_L_affordableLoadByTable : ∀ pc, 27 ≤ pc → pL_affordableLoadByTable pc = none := fun _ h => by unfold pL_affordableLoadByTable; exact bc_cut_none h
theorem z_L_amount : ∀ pc, 17 ≤ pc → pL_amount pc = none := fun _ h => by unfold pL_amount; exact bc_cut_none h
theorem z_L_bearing : ∀ pc, 17 ≤ pc → pL_bearing pc = none := fun _ h => by unfold pL_bearing; exact bc_cut_none h
theorem z_L_crack : ∀ pc, 17 ≤ pc → pL_crack pc = none := fun _ h => by unfold pL_crack; exact bc_cut_none h
theorem z_L_crackedShare : ∀ pc, 16 ≤ pc → pL_crackedShare pc = none := fun _ h => by unfold pL_crackedShare; exact bc_cut_none h
theorem z_L_dueDay : ∀ pc, 17 ≤ pc → pL_dueDay pc = none := fun _ h => by unfold pL_dueDay; exact bc_cut_none h
theorem z_L_errorPosition : ∀ pc, 16 ≤ pc → pL_errorPosition pc = none := fun _ h => by unfold pL_errorPosition; exact bc_cut_none h
theorem z_L_failedCommand : ∀ pc, 16 ≤ pc → pL_failedCommand pc = none := fun _ h => by unfold pL_failedCommand; exact bc_cut_none h
theorem z_L_firstJoint : ∀ pc, 17 ≤ pc → pL_firstJoint pc = none := fun _ h => by unfold pL_firstJoint; exact bc_cut_none h
theorem z_L_greatestVow : ∀ pc, 20 ≤ pc → pL_greatestVow pc = none := fun _ h => by unfold pL_greatestVow; exact bc_cut_none h
theorem z_L_isAbandoned : ∀ pc, 24 ≤ pc → pL_isAbandoned pc = none := fun _ h => by unfold pL_isAbandoned; exact bc_cut_none h
theorem z_L_isCritical : ∀ pc, 24 ≤ pc → pL_isCritical pc = none := fun _ h => by unfold pL_isCritical; exact bc_cut_none h
theorem z_L_isCriticalByRemoval : ∀ pc, 24 ≤ pc → pL_isCriticalByRemoval pc = none := fun _ h => by unfold pL_isCriticalByRemoval; exact bc_cut_none h
theorem z_L_makeVow : ∀ pc, 23 ≤ pc → pL_makeVow pc = none := fun _ h => by unfold pL_makeVow; exact bc_cut_none h
theorem z_L_meanBearing : ∀ pc, 15 ≤ pc → pL_meanBearing pc = none := fun _ h => by unfold pL_meanBearing; exact bc_cut_none h
theorem z_L_memberByBearing : ∀ pc, 17 ≤ pc → pL_memberByBearing pc = none := fun _ h => by unfold pL_memberByBearing; exact bc_cut_none h
theorem z_L_outputAt : ∀ pc, 17 ≤ pc → pL_outputAt pc = none := fun _ h => by unfold pL_outputAt; exact bc_cut_none h
theorem z_L_passDays : ∀ pc, 17 ≤ pc → pL_passDays pc = none := fun _ h => by unfold pL_passDays; exact bc_cut_none h
theorem z_L_procession : ∀ pc, 33 ≤ pc → pL_procession pc = none := fun _ h => by unfold pL_procession; exact bc_cut_none h
theorem z_L_put : ∀ pc, 33 ≤ pc → pL_put pc = none := fun _ h => by unfold pL_put; exact bc_cut_none h
theorem z_L_renderMember : ∀ pc, 17 ≤ pc → pL_renderMember pc = none := fun _ h => by unfold pL_renderMember; exact bc_cut_none h
theorem z_L_renderWay : ∀ pc, 27 ≤ pc → pL_renderWay pc = none := fun _ h => by unfold pL_renderWay; exact bc_cut_none h
theorem z_L_repair : ∀ pc, 23 ≤ pc → pL_repair pc = none := fun _ h => by unfold pL_repair; exact bc_cut_none h
theorem z_L_repairCost : ∀ pc, 17 ≤ pc → pL_repairCost pc = none := fun _ h => by unfold pL_repairCost; exact bc_cut_none h
theorem z_L_restore : ∀ pc, 16 ≤ pc → pL_restore pc = none := fun _ h => by unfold pL_restore; exact bc_cut_none h
theorem z_L_resume : ∀ pc, 20 ≤ pc → pL_resume pc = none := fun _ h => by unfold pL_resume; exact bc_cut_none h
theorem z_L_runScript : ∀ pc, 19 ≤ pc → pL_runScript pc = none := fun _ h => by unfold pL_runScript; exact bc_cut_none h
theorem z_L_secondJoint : ∀ pc, 17 ≤ pc → pL_secondJoint pc = none := fun _ h => by unfold pL_secondJoint; exact bc_cut_none h
theorem z_L_setForge : ∀ pc, 17 ≤ pc → pL_setForge pc = none := fun _ h => by unfold pL_setForge; exact bc_cut_none h
theorem z_L_setNiche : ∀ pc, 17 ≤ pc → pL_setNiche pc = none := fun _ h => by unfold pL_setNiche; exact bc_cut_none h
theorem z_L_strain : ∀ pc, 23 ≤ pc → pL_strain pc = none := fun _ h => by unfold pL_strain; exact bc_cut_none h
theorem z_L_strainBits : ∀ pc, 23 ≤ pc → pL_strainBits pc = none := fun _ h => by unfold pL_strainBits; exact bc_cut_none h
theorem z_L_type : ∀ pc, 20 ≤ pc → pL_type pc = none := fun _ h => by unfold pL_type; exact bc_cut_none h
theorem z_L_undo : ∀ pc, 16 ≤ pc → pL_undo pc = none := fun _ h => by unfold pL_undo; exact bc_cut_none h
theorem z_L_vowAt : ∀ pc, 17 ≤ pc → pL_vowAt pc = none := fun _ h => by unfold pL_vowAt; exact bc_cut_none h
theorem z_L_wayJoint : ∀ pc, 29 ≤ pc → pL_wayJoint pc = none := fun _ h => by unfold pL_wayJoint; exact bc_cut_none h
theorem z_L_wayLength : ∀ pc, 27 ≤ pc → pL_wayLength pc = none := fun _ h => by unfold pL_wayLength; exact bc_cut_none h
theorem z_L_wear : ∀ pc, 17 ≤ pc → pL_wear pc = none := fun _ h => by unfold pL_wear; exact bc_cut_none h
theorem z_L_widestLoad : ∀ pc, 27 ≤ pc → pL_widestLoad pc = none := fun _ h => by unfold pL_widestLoad; exact bc_cut_none h
theorem z_L_widestLoadByTrial : ∀ pc, 27 ≤ pc → pL_widestLoadByTrial pc = none := fun _ h => by unfold pL_widestLoadByTrial; exact bc_cut_none h
theorem v_1 : bc_vY 1 := bc_vT_ok (p1 := 103) (p2 := 603) (p3 := 604) (by decide +kernel) (bc_mem_W (bc_tk3 (List.mem_of_getElem? (i := 30) rfl)) rfl) rfl (bc_dec_ok kX0_separates z_X0_separates)
theorem v_2 : bc_vY 2 := bc_vT_ok (p1 := 103) (p2 := 607) (p3 := 0) (by decide +kernel) (bc_mem_W (bc_tk3 (List.mem_of_getElem? (i := 33) rfl)) rfl) rfl (bc_dec_ok kX0_visit z_X0_visit)
theorem v_3 : bc_vY 3 := bc_vT_ok (p1 := 101) (p2 := 1467) (p3 := 1468) (by decide +kernel) (bc_mem_W (bc_tk6 (List.mem_of_getElem? (i := 174) rfl)) rfl) rfl (bc_dec_ok kX1_forget z_X1_forget)
theorem v_5 : bc_vY 5 := bc_vT_ok (p1 := 101) (p2 := 839) (p3 := 840) (by decide +kernel) (bc_mem_W (bc_tk4 (List.mem_of_getElem? (i := 26) rfl)) rfl) rfl (bc_dec_ok kX1_remember z_X1_remember)
theorem v_6 : bc_vY 6 := bc_vT_ok (p1 := 101) (p2 := 1456) (p3 := 1457) (by decide +kernel) (bc_mem_W (bc_tk6 (List.mem_of_getElem? (i := 163) rfl)) rfl) rfl (bc_dec_ok kX1_takeBack z_X1_takeBack)
theorem v_7 : bc_vY 7 := bc_vT_ok (p1 := 98) (p2 := 845) (p3 := 846) (by decide +kernel) (bc_mem_W (bc_tk4 (List.mem_of_getElem? (i := 32) rfl)) rfl) rfl (bc_dec_ok kX2_append z_X2_append)
theorem v_8 : bc_vY 8 := bc_vT_ok (p1 := 98) (p2 := 1178) (p3 := 1179) (by decide +kernel) (bc_mem_W (bc_tk5 (List.mem_of_getElem? (i := 125) rfl)) rfl) rfl (bc_dec_ok kX2_atRank z_X2_atRank)
theorem v_9 : bc_vY 9 := bc_vT_ok (p1 := 98) (p2 := 448) (p3 := 449) (by decide +kernel) (bc_mem_W (bc_tk2 (List.mem_of_getElem? (i := 115) rfl)) rfl) rfl (bc_dec_ok kX2_bearingOf z_X2_bearingOf)
theorem v_10 : bc_vY 10 := bc_vT_ok (p1 := 98) (p2 := 1242) (p3 := 1243) (by decide +kernel) (bc_mem_W (bc_tk5 (List.mem_of_getElem? (i := 189) rfl)) rfl) rfl (bc_dec_ok kX2_bearingSum z_X2_bearingSum)
theorem v_11 : bc_vY 11 := bc_vT_ok (p1 := 98) (p2 := 739) (p3 := 740) (by decide +kernel) (bc_mem_W (bc_tk3 (List.mem_of_getElem? (i := 166) rfl)) rfl) rfl (bc_dec_ok kX2_between z_X2_between)
theorem v_12 : bc_vY 12 := bc_vT_ok (p1 := 98) (p2 := 1187) (p3 := 33) (by decide +kernel) (bc_mem_W (bc_tk5 (List.mem_of_getElem? (i := 133) rfl)) rfl) rfl (bc_dec_ok kX2_comesBefore z_X2_comesBefore)
theorem v_13 : bc_vY 13 := bc_vT_ok (p1 := 98) (p2 := 578) (p3 := 579) (by decide +kernel) (bc_mem_W (bc_tk3 (List.mem_of_getElem? (i := 5) rfl)) rfl) rfl (bc_dec_ok kX2_connects z_X2_connects)
theorem v_14 : bc_vY 14 := bc_vT_ok (p1 := 98) (p2 := 623) (p3 := 624) (by decide +kernel) (bc_mem_W (bc_tk3 (List.mem_of_getElem? (i := 50) rfl)) rfl) rfl (bc_dec_ok kX2_copyFrom z_X2_copyFrom)
theorem v_15 : bc_vY 15 := bc_vT_ok (p1 := 98) (p2 := 542) (p3 := 543) (by decide +kernel) (bc_mem_W (bc_tk2 (List.mem_of_getElem? (i := 209) rfl)) rfl) rfl (bc_dec_ok kX2_costOf z_X2_costOf)
theorem v_16 : bc_vY 16 := bc_vT_ok (p1 := 98) (p2 := 1253) (p3 := 1254) (by decide +kernel) (bc_mem_W (bc_tk5 (List.mem_of_getElem? (i := 200) rfl)) rfl) rfl (bc_dec_ok kX2_crackedCount z_X2_crackedCount)
theorem v_17 : bc_vY 17 := bc_vT_ok (p1 := 98) (p2 := 933) (p3 := 934) (by decide +kernel) (bc_mem_W (bc_tk4 (List.mem_of_getElem? (i := 120) rfl)) rfl) rfl (bc_dec_ok kX2_has z_X2_has)
theorem v_19 : bc_vY 19 := bc_vT_ok (p1 := 98) (p2 := 961) (p3 := 962) (by decide +kernel) (bc_mem_W (bc_tk4 (List.mem_of_getElem? (i := 148) rfl)) rfl) rfl (bc_dec_ok kX2_leave z_X2_leave)
theorem v_20 : bc_vY 20 := bc_vT_ok (p1 := 98) (p2 := 1183) (p3 := 32) (by decide +kernel) (bc_mem_W (bc_tk5 (List.mem_of_getElem? (i := 129) rfl)) rfl) rfl (bc_dec_ok kX2_rankOf z_X2_rankOf)
theorem v_21 : bc_vY 21 := bc_vT_ok (p1 := 98) (p2 := 946) (p3 := 947) (by decide +kernel) (bc_mem_W (bc_tk4 (List.mem_of_getElem? (i := 133) rfl)) rfl) rfl (bc_dec_ok kX2_renew z_X2_renew)
theorem v_22 : bc_vY 22 := bc_vT_ok (p1 := 98) (p2 := 573) (p3 := 574) (by decide +kernel) (bc_mem_W (bc_tk3 (List.mem_of_getElem? (i := 0) rfl)) rfl) rfl (bc_dec_ok kX2_someBears z_X2_someBears)
theorem v_23 : bc_vY 23 := bc_vT_ok (p1 := 98) (p2 := 885) (p3 := 886) (by decide +kernel) (bc_mem_W (bc_tk4 (List.mem_of_getElem? (i := 72) rfl)) rfl) rfl (bc_dec_ok kX2_wearDown z_X2_wearDown)
theorem v_24 : bc_vY 24 := bc_vT_ok (p1 := 99) (p2 := 630) (p3 := 631) (by decide +kernel) (bc_mem_W (bc_tk3 (List.mem_of_getElem? (i := 57) rfl)) rfl) rfl (bc_dec_ok kX3_copyFrom z_X3_copyFrom)
theorem v_25 : bc_vY 25 := bc_vT_ok (p1 := 99) (p2 := 985) (p3 := 986) (by decide +kernel) (bc_mem_W (bc_tk4 (List.mem_of_getElem? (i := 172) rfl)) rfl) rfl (bc_dec_ok kX3_dedicate z_X3_dedicate)
theorem v_27 : bc_vY 27 := bc_vT_ok (p1 := 99) (p2 := 1001) (p3 := 1002) (by decide +kernel) (bc_mem_W (bc_tk4 (List.mem_of_getElem? (i := 188) rfl)) rfl) rfl (bc_dec_ok kX3_place z_X3_place)
theorem v_28 : bc_vY 28 := bc_vT_ok (p1 := 99) (p2 := 464) (p3 := 465) (by decide +kernel) (bc_mem_W (bc_tk2 (List.mem_of_getElem? (i := 131) rfl)) rfl) rfl (bc_dec_ok kX3_total z_X3_total)
theorem v_29 : bc_vY 29 := bc_vT_ok (p1 := 104) (p2 := 591) (p3 := 10) (by decide +kernel) (bc_mem_W (bc_tk3 (List.mem_of_getElem? (i := 17) rfl)) rfl) rfl (bc_dec_ok kX4_cheapestUnsettled z_X4_cheapestUnsettled)
theorem v_30 : bc_vY 30 := bc_vT_ok (p1 := 104) (p2 := 587) (p3 := 9) (by decide +kernel) (bc_mem_W (bc_tk3 (List.mem_of_getElem? (i := 13) rfl)) rfl) rfl (bc_dec_ok kX4_cheapestWay z_X4_cheapestWay)
theorem v_31 : bc_vY 31 := bc_vT_ok (p1 := 104) (p2 := 547) (p3 := 5) (by decide +kernel) (bc_mem_W (bc_tk2 (List.mem_of_getElem? (i := 213) rfl)) rfl) rfl (bc_dec_ok kX4_closePrices z_X4_closePrices)
theorem v_32 : bc_vY 32 := bc_vT_ok (p1 := 104) (p2 := 524) (p3 := 525) (by decide +kernel) (bc_mem_W (bc_tk2 (List.mem_of_getElem? (i := 191) rfl)) rfl) rfl (bc_dec_ok kX4_fillTable z_X4_fillTable)
theorem v_34 : bc_vY 34 := bc_vT_ok (p1 := 104) (p2 := 529) (p3 := 2) (by decide +kernel) (bc_mem_W (bc_tk2 (List.mem_of_getElem? (i := 195) rfl)) rfl) rfl (bc_dec_ok kX4_isWorthTrying z_X4_isWorthTrying)
theorem v_35 : bc_vY 35 := bc_vT_ok (p1 := 104) (p2 := 582) (p3 := 583) (by decide +kernel) (bc_mem_W (bc_tk3 (List.mem_of_getElem? (i := 9) rfl)) rfl) rfl (bc_dec_ok kX4_loadByWays z_X4_loadByWays)
theorem v_36 : bc_vY 36 := bc_vT_ok (p1 := 104) (p2 := 554) (p3 := 6) (by decide +kernel) (bc_mem_W (bc_tk2 (List.mem_of_getElem? (i := 220) rfl)) rfl) rfl (bc_dec_ok kX4_noteAffordable z_X4_noteAffordable)
theorem v_37 : bc_vY 37 := bc_vT_ok (p1 := 104) (p2 := 539) (p3 := 4) (by decide +kernel) (bc_mem_W (bc_tk2 (List.mem_of_getElem? (i := 205) rfl)) rfl) rfl (bc_dec_ok kX4_priceOf z_X4_priceOf)
theorem v_38 : bc_vY 38 := bc_vT_ok (p1 := 104) (p2 := 534) (p3 := 3) (by decide +kernel) (bc_mem_W (bc_tk2 (List.mem_of_getElem? (i := 200) rfl)) rfl) rfl (bc_dec_ok kX4_setPrices z_X4_setPrices)
theorem v_39 : bc_vY 39 := bc_vT_ok (p1 := 105) (p2 := 1403) (p3 := 38) (by decide +kernel) (bc_mem_W (bc_tk6 (List.mem_of_getElem? (i := 109) rfl)) rfl) rfl (bc_dec_ok kX5_accept z_X5_accept)
theorem v_40 : bc_vY 40 := bc_vT_ok (p1 := 105) (p2 := 1422) (p3 := 1423) (by decide +kernel) (bc_mem_W (bc_tk6 (List.mem_of_getElem? (i := 129) rfl)) rfl) rfl (bc_dec_ok kX5_argument z_X5_argument)
theorem v_41 : bc_vY 41 := bc_vT_ok (p1 := 105) (p2 := 1393) (p3 := 0) (by decide +kernel) (bc_mem_W (bc_tk6 (List.mem_of_getElem? (i := 99) rfl)) rfl) rfl (bc_dec_ok kX5_formOf z_X5_formOf)
theorem v_43 : bc_vY 43 := bc_vT_ok (p1 := 105) (p2 := 1410) (p3 := 0) (by decide +kernel) (bc_mem_W (bc_tk6 (List.mem_of_getElem? (i := 116) rfl)) rfl) rfl (bc_dec_ok kX5_isDigit z_X5_isDigit)
theorem v_44 : bc_vY 44 := bc_vT_ok (p1 := 105) (p2 := 1426) (p3 := 1427) (by decide +kernel) (bc_mem_W (bc_tk6 (List.mem_of_getElem? (i := 133) rfl)) rfl) rfl (bc_dec_ok kX5_kindAt z_X5_kindAt)
theorem v_45 : bc_vY 45 := bc_vT_ok (p1 := 105) (p2 := 1336) (p3 := 36) (by decide +kernel) (bc_mem_W (bc_tk6 (List.mem_of_getElem? (i := 42) rfl)) rfl) rfl (bc_dec_ok kX5_matchedLength z_X5_matchedLength)
theorem v_46 : bc_vY 46 := bc_vT_ok (p1 := 105) (p2 := 1314) (p3 := 1315) (by decide +kernel) (bc_mem_W (bc_tk6 (List.mem_of_getElem? (i := 21) rfl)) rfl) rfl (bc_dec_ok kX5_parse z_X5_parse)
theorem v_47 : bc_vY 47 := bc_vT_ok (p1 := 105) (p2 := 1390) (p3 := 37) (by decide +kernel) (bc_mem_W (bc_tk6 (List.mem_of_getElem? (i := 96) rfl)) rfl) rfl (bc_dec_ok kX5_readArguments z_X5_readArguments)
theorem v_48 : bc_vY 48 := bc_vT_ok (p1 := 105) (p2 := 1407) (p3 := 39) (by decide +kernel) (bc_mem_W (bc_tk6 (List.mem_of_getElem? (i := 113) rfl)) rfl) rfl (bc_dec_ok kX5_readValue z_X5_readValue)
theorem v_49 : bc_vY 49 := bc_vT_ok (p1 := 105) (p2 := 1319) (p3 := 35) (by decide +kernel) (bc_mem_W (bc_tk6 (List.mem_of_getElem? (i := 25) rfl)) rfl) rfl (bc_dec_ok kX5_readWord z_X5_readWord)
theorem v_50 : bc_vY 50 := bc_vT_ok (p1 := 105) (p2 := 1322) (p3 := 0) (by decide +kernel) (bc_mem_W (bc_tk6 (List.mem_of_getElem? (i := 28) rfl)) rfl) rfl (bc_dec_ok kX5_wordOf z_X5_wordOf)
theorem v_51 : bc_vY 51 := bc_vT_ok (p1 := 97) (p2 := 619) (p3 := 620) (by decide +kernel) (bc_mem_W (bc_tk3 (List.mem_of_getElem? (i := 46) rfl)) rfl) rfl (bc_dec_ok kX6_copyFrom z_X6_copyFrom)
theorem v_53 : bc_vY 53 := bc_vT_ok (p1 := 106) (p2 := 1272) (p3 := 1273) (by decide +kernel) (bc_mem_W (bc_tk5 (List.mem_of_getElem? (i := 219) rfl)) rfl) rfl (bc_dec_ok kX7_append z_X7_append)
theorem v_54 : bc_vY 54 := bc_vT_ok (p1 := 106) (p2 := 1268) (p3 := 1269) (by decide +kernel) (bc_mem_W (bc_tk5 (List.mem_of_getElem? (i := 215) rfl)) rfl) rfl (bc_dec_ok kX7_appendNumber z_X7_appendNumber)
theorem v_55 : bc_vY 55 := bc_vT_ok (p1 := 106) (p2 := 1295) (p3 := 1296) (by decide +kernel) (bc_mem_W (bc_tk6 (List.mem_of_getElem? (i := 2) rfl)) rfl) rfl (bc_dec_ok kX7_at z_X7_at)
theorem v_56 : bc_vY 56 := bc_vT_ok (p1 := 106) (p2 := 1264) (p3 := 1265) (by decide +kernel) (bc_mem_W (bc_tk5 (List.mem_of_getElem? (i := 211) rfl)) rfl) rfl (bc_dec_ok kX7_clear z_X7_clear)
theorem v_57 : bc_vY 57 := bc_vT_ok (p1 := 106) (p2 := 1291) (p3 := 1292) (by decide +kernel) (bc_mem_W (bc_tk5 (List.mem_of_getElem? (i := 238) rfl)) rfl) rfl (bc_dec_ok kX7_has z_X7_has)
theorem v_59 : bc_vY 59 := bc_vT_ok (p1 := 100) (p2 := 508) (p3 := 509) (by decide +kernel) (bc_mem_W (bc_tk2 (List.mem_of_getElem? (i := 175) rfl)) rfl) rfl (bc_dec_ok kX8_accountedSteel z_X8_accountedSteel)
theorem v_60 : bc_vY 60 := bc_vT_ok (p1 := 100) (p2 := 635) (p3 := 636) (by decide +kernel) (bc_mem_W (bc_tk3 (List.mem_of_getElem? (i := 62) rfl)) rfl) rfl (bc_dec_ok kX8_copyFrom z_X8_copyFrom)
theorem v_61 : bc_vY 61 := bc_vT_ok (p1 := 100) (p2 := 1230) (p3 := 1231) (by decide +kernel) (bc_mem_W (bc_tk5 (List.mem_of_getElem? (i := 177) rfl)) rfl) rfl (bc_dec_ok kX8_greatestFurther z_X8_greatestFurther)
theorem v_62 : bc_vY 62 := bc_vT_ok (p1 := 100) (p2 := 918) (p3 := 919) (by decide +kernel) (bc_mem_W (bc_tk4 (List.mem_of_getElem? (i := 105) rfl)) rfl) rfl (bc_dec_ok kX8_heatForge z_X8_heatForge)
theorem v_64 : bc_vY 64 := bc_vT_ok (p1 := 100) (p2 := 900) (p3 := 901) (by decide +kernel) (bc_mem_W (bc_tk4 (List.mem_of_getElem? (i := 87) rfl)) rfl) rfl (bc_dec_ok kX8_isDueDayAllowed z_X8_isDueDayAllowed)
theorem v_65 : bc_vY 65 := bc_vT_ok (p1 := 100) (p2 := 484) (p3 := 485) (by decide +kernel) (bc_mem_W (bc_tk2 (List.mem_of_getElem? (i := 151) rfl)) rfl) rfl (bc_dec_ok kX8_keepsAllBySums z_X8_keepsAllBySums)
theorem v_66 : bc_vY 66 := bc_vT_ok (p1 := 100) (p2 := 476) (p3 := 477) (by decide +kernel) (bc_mem_W (bc_tk2 (List.mem_of_getElem? (i := 143) rfl)) rfl) rfl (bc_dec_ok kX8_keepsAllDayByDay z_X8_keepsAllDayByDay)
theorem v_67 : bc_vY 67 := bc_vT_ok (p1 := 100) (p2 := 1015) (p3 := 1016) (by decide +kernel) (bc_mem_W (bc_tk4 (List.mem_of_getElem? (i := 202) rfl)) rfl) rfl (bc_dec_ok kX8_pass z_X8_pass)
theorem v_68 : bc_vY 68 := bc_vT_ok (p1 := 100) (p2 := 942) (p3 := 943) (by decide +kernel) (bc_mem_W (bc_tk4 (List.mem_of_getElem? (i := 129) rfl)) rfl) rfl (bc_dec_ok kX8_payRepair z_X8_payRepair)
theorem v_69 : bc_vY 69 := bc_vT_ok (p1 := 100) (p2 := 904) (p3 := 905) (by decide +kernel) (bc_mem_W (bc_tk4 (List.mem_of_getElem? (i := 91) rfl)) rfl) rfl (bc_dec_ok kX8_promise z_X8_promise)
theorem v_70 : bc_vY 70 := bc_vT_ok (p1 := 100) (p2 := 1202) (p3 := 34) (by decide +kernel) (bc_mem_W (bc_tk5 (List.mem_of_getElem? (i := 148) rfl)) rfl) rfl (bc_dec_ok kX8_rankOfSlot z_X8_rankOfSlot)
theorem v_71 : bc_vY 71 := bc_vT_ok (p1 := 100) (p2 := 1024) (p3 := 27) (by decide +kernel) (bc_mem_W (bc_tk4 (List.mem_of_getElem? (i := 210) rfl)) rfl) rfl (bc_dec_ok kX8_settle z_X8_settle)
theorem v_72 : bc_vY 72 := bc_vT_ok (p1 := 100) (p2 := 1020) (p3 := 26) (by decide +kernel) (bc_mem_W (bc_tk4 (List.mem_of_getElem? (i := 206) rfl)) rfl) rfl (bc_dec_ok kX8_settleDueVows z_X8_settleDueVows)
theorem v_73 : bc_vY 73 := bc_vT_ok (p1 := 100) (p2 := 1197) (p3 := 1198) (by decide +kernel) (bc_mem_W (bc_tk5 (List.mem_of_getElem? (i := 144) rfl)) rfl) rfl (bc_dec_ok kX8_slotAtRank z_X8_slotAtRank)
theorem v_74 : bc_vY 74 := bc_vT_ok (p1 := 100) (p2 := 1212) (p3 := 1213) (by decide +kernel) (bc_mem_W (bc_tk5 (List.mem_of_getElem? (i := 159) rfl)) rfl) rfl (bc_dec_ok kX8_slotOf z_X8_slotOf)
theorem v_75 : bc_vY 75 := bc_vT_ok (p1 := 100) (p2 := 489) (p3 := 0) (by decide +kernel) (bc_mem_W (bc_tk2 (List.mem_of_getElem? (i := 155) rfl)) rfl) rfl (bc_dec_ok kX8_spareOn z_X8_spareOn)
theorem v_76 : bc_vY 76 := bc_vT_ok (p1 := 102) (p2 := 868) (p3 := 869) (by decide +kernel) (bc_mem_W (bc_tk4 (List.mem_of_getElem? (i := 55) rfl)) rfl) rfl (bc_dec_ok kX9_findBest z_X9_findBest)
theorem v_78 : bc_vY 78 := bc_vT_ok (p1 := 102) (p2 := 452) (p3 := 453) (by decide +kernel) (bc_mem_W (bc_tk2 (List.mem_of_getElem? (i := 119) rfl)) rfl) rfl (bc_dec_ok kX9_linkBits z_X9_linkBits)
theorem v_79 : bc_vY 79 := bc_vT_ok (p1 := 102) (p2 := 882) (p3 := 20) (by decide +kernel) (bc_mem_W (bc_tk4 (List.mem_of_getElem? (i := 68) rfl)) rfl) rfl (bc_dec_ok kX9_lowestNearer z_X9_lowestNearer)
theorem v_80 : bc_vY 80 := bc_vT_ok (p1 := 102) (p2 := 874) (p3 := 18) (by decide +kernel) (bc_mem_W (bc_tk4 (List.mem_of_getElem? (i := 60) rfl)) rfl) rfl (bc_dec_ok kX9_measureFrom z_X9_measureFrom)
theorem v_81 : bc_vY 81 := bc_vT_ok (p1 := 102) (p2 := 878) (p3 := 19) (by decide +kernel) (bc_mem_W (bc_tk4 (List.mem_of_getElem? (i := 64) rfl)) rfl) rfl (bc_dec_ok kX9_spread z_X9_spread)
theorem v_82 : bc_vY 82 := bc_vT_ok (p1 := 102) (p2 := 444) (p3 := 445) (by decide +kernel) (bc_mem_W (bc_tk2 (List.mem_of_getElem? (i := 111) rfl)) rfl) rfl (bc_dec_ok kX9_survey z_X9_survey)
theorem v_83 : bc_vY 83 := bc_vT_ok (p1 := 102) (p2 := 557) (p3 := 558) (by decide +kernel) (bc_mem_W (bc_tk2 (List.mem_of_getElem? (i := 224) rfl)) rfl) rfl (bc_dec_ok kX9_widestByGrowing z_X9_widestByGrowing)
theorem v_84 : bc_vY 84 := bc_vT_ok (p1 := 102) (p2 := 562) (p3 := 7) (by decide +kernel) (bc_mem_W (bc_tk2 (List.mem_of_getElem? (i := 228) rfl)) rfl) rfl (bc_dec_ok kX9_widestOutside z_X9_widestOutside)
theorem v_85 : bc_vY 85 := bc_vT_ok (p1 := 96) (p2 := 953) (p3 := 954) (by decide +kernel) (bc_mem_W (bc_tk4 (List.mem_of_getElem? (i := 140) rfl)) rfl) rfl (bc_dec_ok kX10_abandon z_X10_abandon)
theorem v_86 : bc_vY 86 := bc_vT_ok (p1 := 96) (p2 := 725) (p3 := 726) (by decide +kernel) (bc_mem_W (bc_tk3 (List.mem_of_getElem? (i := 152) rfl)) rfl) rfl (bc_dec_ok kX10_addMember z_X10_addMember)
theorem v_87 : bc_vY 87 := bc_vT_ok (p1 := 96) (p2 := 1160) (p3 := 1161) (by decide +kernel) (bc_mem_W (bc_tk5 (List.mem_of_getElem? (i := 107) rfl)) rfl) rfl (bc_dec_ok kX10_affordableLoad z_X10_affordableLoad)
theorem v_88 : bc_vY 88 := bc_vT_ok (p1 := 96) (p2 := 1167) (p3 := 1168) (by decide +kernel) (bc_mem_W (bc_tk5 (List.mem_of_getElem? (i := 114) rfl)) rfl) rfl (bc_dec_ok kX10_affordableLoadByTable z_X10_affordableLoadByTable)
theorem v_89 : bc_vY 89 := bc_vT_ok (p1 := 96) (p2 := 1219) (p3 := 1220) (by decide +kernel) (bc_mem_W (bc_tk5 (List.mem_of_getElem? (i := 166) rfl)) rfl) rfl (bc_dec_ok kX10_amount z_X10_amount)
theorem v_90 : bc_vY 90 := bc_vT_ok (p1 := 96) (p2 := 1069) (p3 := 1070) (by decide +kernel) (bc_mem_W (bc_tk5 (List.mem_of_getElem? (i := 16) rfl)) rfl) rfl (bc_dec_ok kX10_bearing z_X10_bearing)
theorem v_91 : bc_vY 91 := bc_vT_ok (p1 := 96) (p2 := 1103) (p3 := 0) (by decide +kernel) (bc_mem_W (bc_tk5 (List.mem_of_getElem? (i := 49) rfl)) rfl) rfl (bc_dec_ok kX10_bitsOf z_X10_bitsOf)
theorem v_92 : bc_vY 92 := bc_vT_ok (p1 := 96) (p2 := 496) (p3 := 497) (by decide +kernel) (bc_mem_W (bc_tk2 (List.mem_of_getElem? (i := 163) rfl)) rfl) rfl (bc_dec_ok kX10_brokenTotal z_X10_brokenTotal)
theorem v_93 : bc_vY 93 := bc_vT_ok (p1 := 96) (p2 := 472) (p3 := 473) (by decide +kernel) (bc_mem_W (bc_tk2 (List.mem_of_getElem? (i := 139) rfl)) rfl) rfl (bc_dec_ok kX10_canKeepAll z_X10_canKeepAll)
theorem v_94 : bc_vY 94 := bc_vT_ok (p1 := 96) (p2 := 480) (p3 := 481) (by decide +kernel) (bc_mem_W (bc_tk2 (List.mem_of_getElem? (i := 147) rfl)) rfl) rfl (bc_dec_ok kX10_canKeepAllBySums z_X10_canKeepAllBySums)
theorem v_95 : bc_vY 95 := bc_vT_ok (p1 := 96) (p2 := 1431) (p3 := 42) (by decide +kernel) (bc_mem_W (bc_tk6 (List.mem_of_getElem? (i := 137) rfl)) rfl) rfl (bc_dec_ok kX10_carryOut z_X10_carryOut)
theorem v_96 : bc_vY 96 := bc_vT_ok (p1 := 96) (p2 := 1419) (p3 := 41) (by decide +kernel) (bc_mem_W (bc_tk6 (List.mem_of_getElem? (i := 125) rfl)) rfl) rfl (bc_dec_ok kX10_commandFault z_X10_commandFault)
theorem v_97 : bc_vY 97 := bc_vT_ok (p1 := 96) (p2 := 1048) (p3 := 1049) (by decide +kernel) (bc_mem_W (bc_tk4 (List.mem_of_getElem? (i := 235) rfl)) rfl) rfl (bc_dec_ok kX10_crack z_X10_crack)
theorem v_98 : bc_vY 98 := bc_vT_ok (p1 := 96) (p2 := 1249) (p3 := 1250) (by decide +kernel) (bc_mem_W (bc_tk5 (List.mem_of_getElem? (i := 196) rfl)) rfl) rfl (bc_dec_ok kX10_crackedShare z_X10_crackedShare)
theorem v_99 : bc_vY 99 := bc_vT_ok (p1 := 96) (p2 := 612) (p3 := 13) (by decide +kernel) (bc_mem_W (bc_tk3 (List.mem_of_getElem? (i := 38) rfl)) rfl) rfl (bc_dec_ok kX10_criticalByRemoval z_X10_criticalByRemoval)
theorem v_100 : bc_vY 100 := bc_vT_ok (p1 := 96) (p2 := 599) (p3 := 12) (by decide +kernel) (bc_mem_W (bc_tk3 (List.mem_of_getElem? (i := 25) rfl)) rfl) rfl (bc_dec_ok kX10_criticalBySearch z_X10_criticalBySearch)
theorem v_101 : bc_vY 101 := bc_vT_ok (p1 := 96) (p2 := 595) (p3 := 11) (by decide +kernel) (bc_mem_W (bc_tk3 (List.mem_of_getElem? (i := 21) rfl)) rfl) rfl (bc_dec_ok kX10_criticalMembersAgree z_X10_criticalMembersAgree)
theorem v_102 : bc_vY 102 := bc_vT_ok (p1 := 96) (p2 := 512) (p3 := 513) (by decide +kernel) (bc_mem_W (bc_tk2 (List.mem_of_getElem? (i := 179) rfl)) rfl) rfl (bc_dec_ok kX10_day z_X10_day)
theorem v_103 : bc_vY 103 := bc_vT_ok (p1 := 96) (p2 := 1012) (p3 := 0) (by decide +kernel) (bc_mem_W (bc_tk4 (List.mem_of_getElem? (i := 198) rfl)) rfl) rfl (bc_dec_ok kX10_daysFault z_X10_daysFault)
theorem v_104 : bc_vY 104 := bc_vT_ok (p1 := 96) (p2 := 1208) (p3 := 1209) (by decide +kernel) (bc_mem_W (bc_tk5 (List.mem_of_getElem? (i := 155) rfl)) rfl) rfl (bc_dec_ok kX10_dueDay z_X10_dueDay)
theorem v_105 : bc_vY 105 := bc_vT_ok (p1 := 96) (p2 := 1438) (p3 := 1439) (by decide +kernel) (bc_mem_W (bc_tk6 (List.mem_of_getElem? (i := 145) rfl)) rfl) rfl (bc_dec_ok kX10_errorPosition z_X10_errorPosition)
theorem v_106 : bc_vY 106 := bc_vT_ok (p1 := 96) (p2 := 1445) (p3 := 1446) (by decide +kernel) (bc_mem_W (bc_tk6 (List.mem_of_getElem? (i := 152) rfl)) rfl) rfl (bc_dec_ok kX10_failedCommand z_X10_failedCommand)
theorem v_107 : bc_vY 107 := bc_vT_ok (p1 := 96) (p2 := 1030) (p3 := 1031) (by decide +kernel) (bc_mem_W (bc_tk4 (List.mem_of_getElem? (i := 217) rfl)) rfl) rfl (bc_dec_ok kX10_firstJoint z_X10_firstJoint)
theorem v_108 : bc_vY 108 := bc_vT_ok (p1 := 96) (p2 := 915) (p3 := 0) (by decide +kernel) (bc_mem_W (bc_tk4 (List.mem_of_getElem? (i := 101) rfl)) rfl) rfl (bc_dec_ok kX10_forgeFault z_X10_forgeFault)
theorem v_109 : bc_vY 109 := bc_vT_ok (p1 := 96) (p2 := 1115) (p3 := 0) (by decide +kernel) (bc_mem_W (bc_tk5 (List.mem_of_getElem? (i := 61) rfl)) rfl) rfl (bc_dec_ok kX10_found z_X10_found)
theorem v_110 : bc_vY 110 := bc_vT_ok (p1 := 96) (p2 := 1226) (p3 := 1227) (by decide +kernel) (bc_mem_W (bc_tk5 (List.mem_of_getElem? (i := 173) rfl)) rfl) rfl (bc_dec_ok kX10_greatestVow z_X10_greatestVow)
theorem v_111 : bc_vY 111 := bc_vT_ok (p1 := 96) (p2 := 1035) (p3 := 28) (by decide +kernel) (bc_mem_W (bc_tk4 (List.mem_of_getElem? (i := 221) rfl)) rfl) rfl (bc_dec_ok kX10_indexFault z_X10_indexFault)
theorem v_113 : bc_vY 113 := bc_vT_ok (p1 := 96) (p2 := 1062) (p3 := 1063) (by decide +kernel) (bc_mem_W (bc_tk5 (List.mem_of_getElem? (i := 9) rfl)) rfl) rfl (bc_dec_ok kX10_isAbandoned z_X10_isAbandoned)
theorem v_114 : bc_vY 114 := bc_vT_ok (p1 := 96) (p2 := 516) (p3 := 517) (by decide +kernel) (bc_mem_W (bc_tk2 (List.mem_of_getElem? (i := 183) rfl)) rfl) rfl (bc_dec_ok kX10_isConsistent z_X10_isConsistent)
theorem v_115 : bc_vY 115 := bc_vT_ok (p1 := 96) (p2 := 1146) (p3 := 1147) (by decide +kernel) (bc_mem_W (bc_tk5 (List.mem_of_getElem? (i := 93) rfl)) rfl) rfl (bc_dec_ok kX10_isCritical z_X10_isCritical)
theorem v_116 : bc_vY 116 := bc_vT_ok (p1 := 96) (p2 := 1153) (p3 := 1154) (by decide +kernel) (bc_mem_W (bc_tk5 (List.mem_of_getElem? (i := 100) rfl)) rfl) rfl (bc_dec_ok kX10_isCriticalByRemoval z_X10_isCriticalByRemoval)
theorem v_117 : bc_vY 117 := bc_vT_ok (p1 := 96) (p2 := 736) (p3 := 0) (by decide +kernel) (bc_mem_W (bc_tk3 (List.mem_of_getElem? (i := 162) rfl)) rfl) rfl (bc_dec_ok kX10_isJoint z_X10_isJoint)
theorem v_118 : bc_vY 118 := bc_vT_ok (p1 := 96) (p2 := 982) (p3 := 0) (by decide +kernel) (bc_mem_W (bc_tk4 (List.mem_of_getElem? (i := 168) rfl)) rfl) rfl (bc_dec_ok kX10_isKind z_X10_isKind)
theorem v_119 : bc_vY 119 := bc_vT_ok (p1 := 96) (p2 := 492) (p3 := 493) (by decide +kernel) (bc_mem_W (bc_tk2 (List.mem_of_getElem? (i := 159) rfl)) rfl) rfl (bc_dec_ok kX10_keptTotal z_X10_keptTotal)
theorem v_120 : bc_vY 120 := bc_vT_ok (p1 := 96) (p2 := 958) (p3 := 24) (by decide +kernel) (bc_mem_W (bc_tk4 (List.mem_of_getElem? (i := 144) rfl)) rfl) rfl (bc_dec_ok kX10_leaveFault z_X10_leaveFault)
theorem v_121 : bc_vY 121 := bc_vT_ok (p1 := 96) (p2 := 440) (p3 := 441) (by decide +kernel) (bc_mem_W (bc_tk2 (List.mem_of_getElem? (i := 107) rfl)) rfl) rfl (bc_dec_ok kX10_links z_X10_links)
theorem v_122 : bc_vY 122 := bc_vT_ok (p1 := 96) (p2 := 892) (p3 := 893) (by decide +kernel) (bc_mem_W (bc_tk4 (List.mem_of_getElem? (i := 79) rfl)) rfl) rfl (bc_dec_ok kX10_makeVow z_X10_makeVow)
theorem v_123 : bc_vY 123 := bc_vT_ok (p1 := 96) (p2 := 1238) (p3 := 1239) (by decide +kernel) (bc_mem_W (bc_tk5 (List.mem_of_getElem? (i := 185) rfl)) rfl) rfl (bc_dec_ok kX10_meanBearing z_X10_meanBearing)
theorem v_124 : bc_vY 124 := bc_vT_ok (p1 := 96) (p2 := 1174) (p3 := 1175) (by decide +kernel) (bc_mem_W (bc_tk5 (List.mem_of_getElem? (i := 121) rfl)) rfl) rfl (bc_dec_ok kX10_memberByBearing z_X10_memberByBearing)
theorem v_125 : bc_vY 125 := bc_vT_ok (p1 := 96) (p2 := 436) (p3 := 437) (by decide +kernel) (bc_mem_W (bc_tk2 (List.mem_of_getElem? (i := 103) rfl)) rfl) rfl (bc_dec_ok kX10_memberCount z_X10_memberCount)
theorem v_126 : bc_vY 126 := bc_vT_ok (p1 := 96) (p2 := 730) (p3 := 15) (by decide +kernel) (bc_mem_W (bc_tk3 (List.mem_of_getElem? (i := 156) rfl)) rfl) rfl (bc_dec_ok kX10_memberFault z_X10_memberFault)
theorem v_127 : bc_vY 127 := bc_vT_ok (p1 := 96) (p2 := 939) (p3 := 23) (by decide +kernel) (bc_mem_W (bc_tk4 (List.mem_of_getElem? (i := 125) rfl)) rfl) rfl (bc_dec_ok kX10_mend z_X10_mend)
theorem v_128 : bc_vY 128 := bc_vT_ok (p1 := 96) (p2 := 930) (p3 := 22) (by decide +kernel) (bc_mem_W (bc_tk4 (List.mem_of_getElem? (i := 116) rfl)) rfl) rfl (bc_dec_ok kX10_mendFault z_X10_mendFault)
theorem v_129 : bc_vY 129 := bc_vT_ok (p1 := 96) (p2 := 979) (p3 := 0) (by decide +kernel) (bc_mem_W (bc_tk4 (List.mem_of_getElem? (i := 165) rfl)) rfl) rfl (bc_dec_ok kX10_nicheFault z_X10_nicheFault)
theorem v_130 : bc_vY 130 := bc_vT_ok (p1 := 96) (p2 := 456) (p3 := 457) (by decide +kernel) (bc_mem_W (bc_tk2 (List.mem_of_getElem? (i := 123) rfl)) rfl) rfl (bc_dec_ok kX10_nicheKind z_X10_nicheKind)
theorem v_131 : bc_vY 131 := bc_vT_ok (p1 := 96) (p2 := 460) (p3 := 461) (by decide +kernel) (bc_mem_W (bc_tk2 (List.mem_of_getElem? (i := 127) rfl)) rfl) rfl (bc_dec_ok kX10_nicheWeight z_X10_nicheWeight)
theorem v_132 : bc_vY 132 := bc_vT_ok (p1 := 96) (p2 := 1287) (p3 := 1288) (by decide +kernel) (bc_mem_W (bc_tk5 (List.mem_of_getElem? (i := 234) rfl)) rfl) rfl (bc_dec_ok kX10_outputAt z_X10_outputAt)
theorem v_133 : bc_vY 133 := bc_vT_ok (p1 := 96) (p2 := 733) (p3 := 0) (by decide +kernel) (bc_mem_W (bc_tk3 (List.mem_of_getElem? (i := 159) rfl)) rfl) rfl (bc_dec_ok kX10_pairFault z_X10_pairFault)
theorem v_134 : bc_vY 134 := bc_vT_ok (p1 := 96) (p2 := 1008) (p3 := 1009) (by decide +kernel) (bc_mem_W (bc_tk4 (List.mem_of_getElem? (i := 195) rfl)) rfl) rfl (bc_dec_ok kX10_passDays z_X10_passDays)
theorem v_135 : bc_vY 135 := bc_vT_ok (p1 := 96) (p2 := 998) (p3 := 25) (by decide +kernel) (bc_mem_W (bc_tk4 (List.mem_of_getElem? (i := 184) rfl)) rfl) rfl (bc_dec_ok kX10_placeFault z_X10_placeFault)
theorem v_136 : bc_vY 136 := bc_vT_ok (p1 := 96) (p2 := 856) (p3 := 857) (by decide +kernel) (bc_mem_W (bc_tk4 (List.mem_of_getElem? (i := 43) rfl)) rfl) rfl (bc_dec_ok kX10_procession z_X10_procession)
theorem v_137 : bc_vY 137 := bc_vT_ok (p1 := 96) (p2 := 993) (p3 := 994) (by decide +kernel) (bc_mem_W (bc_tk4 (List.mem_of_getElem? (i := 180) rfl)) rfl) rfl (bc_dec_ok kX10_put z_X10_put)
theorem v_138 : bc_vY 138 := bc_vT_ok (p1 := 96) (p2 := 743) (p3 := 0) (by decide +kernel) (bc_mem_W (bc_tk3 (List.mem_of_getElem? (i := 169) rfl)) rfl) rfl (bc_dec_ok kX10_refuse z_X10_refuse)
theorem v_139 : bc_vY 139 := bc_vT_ok (p1 := 96) (p2 := 1260) (p3 := 1261) (by decide +kernel) (bc_mem_W (bc_tk5 (List.mem_of_getElem? (i := 207) rfl)) rfl) rfl (bc_dec_ok kX10_renderMember z_X10_renderMember)
theorem v_140 : bc_vY 140 := bc_vT_ok (p1 := 96) (p2 := 1280) (p3 := 1281) (by decide +kernel) (bc_mem_W (bc_tk5 (List.mem_of_getElem? (i := 227) rfl)) rfl) rfl (bc_dec_ok kX10_renderWay z_X10_renderWay)
theorem v_141 : bc_vY 141 := bc_vT_ok (p1 := 96) (p2 := 925) (p3 := 926) (by decide +kernel) (bc_mem_W (bc_tk4 (List.mem_of_getElem? (i := 112) rfl)) rfl) rfl (bc_dec_ok kX10_repair z_X10_repair)
theorem v_142 : bc_vY 142 := bc_vT_ok (p1 := 96) (p2 := 1076) (p3 := 1077) (by decide +kernel) (bc_mem_W (bc_tk5 (List.mem_of_getElem? (i := 23) rfl)) rfl) rfl (bc_dec_ok kX10_repairCost z_X10_repairCost)
theorem v_143 : bc_vY 143 := bc_vT_ok (p1 := 96) (p2 := 1463) (p3 := 1464) (by decide +kernel) (bc_mem_W (bc_tk6 (List.mem_of_getElem? (i := 170) rfl)) rfl) rfl (bc_dec_ok kX10_restore z_X10_restore)
theorem v_144 : bc_vY 144 := bc_vT_ok (p1 := 96) (p2 := 968) (p3 := 969) (by decide +kernel) (bc_mem_W (bc_tk4 (List.mem_of_getElem? (i := 155) rfl)) rfl) rfl (bc_dec_ok kX10_resume z_X10_resume)
theorem v_145 : bc_vY 145 := bc_vT_ok (p1 := 96) (p2 := 1415) (p3 := 40) (by decide +kernel) (bc_mem_W (bc_tk6 (List.mem_of_getElem? (i := 121) rfl)) rfl) rfl (bc_dec_ok kX10_runCommands z_X10_runCommands)
theorem v_146 : bc_vY 146 := bc_vT_ok (p1 := 96) (p2 := 1310) (p3 := 1311) (by decide +kernel) (bc_mem_W (bc_tk6 (List.mem_of_getElem? (i := 17) rfl)) rfl) rfl (bc_dec_ok kX10_runScript z_X10_runScript)
theorem v_147 : bc_vY 147 := bc_vT_ok (p1 := 96) (p2 := 615) (p3 := 616) (by decide +kernel) (bc_mem_W (bc_tk3 (List.mem_of_getElem? (i := 42) rfl)) rfl) rfl (bc_dec_ok kX10_save z_X10_save)
theorem v_148 : bc_vY 148 := bc_vT_ok (p1 := 96) (p2 := 1041) (p3 := 1042) (by decide +kernel) (bc_mem_W (bc_tk4 (List.mem_of_getElem? (i := 228) rfl)) rfl) rfl (bc_dec_ok kX10_secondJoint z_X10_secondJoint)
theorem v_149 : bc_vY 149 := bc_vT_ok (p1 := 96) (p2 := 911) (p3 := 912) (by decide +kernel) (bc_mem_W (bc_tk4 (List.mem_of_getElem? (i := 98) rfl)) rfl) rfl (bc_dec_ok kX10_setForge z_X10_setForge)
theorem v_150 : bc_vY 150 := bc_vT_ok (p1 := 96) (p2 := 975) (p3 := 976) (by decide +kernel) (bc_mem_W (bc_tk4 (List.mem_of_getElem? (i := 162) rfl)) rfl) rfl (bc_dec_ok kX10_setNiche z_X10_setNiche)
theorem v_151 : bc_vY 151 := bc_vT_ok (p1 := 96) (p2 := 500) (p3 := 501) (by decide +kernel) (bc_mem_W (bc_tk2 (List.mem_of_getElem? (i := 167) rfl)) rfl) rfl (bc_dec_ok kX10_steel z_X10_steel)
theorem v_152 : bc_vY 152 := bc_vT_ok (p1 := 96) (p2 := 504) (p3 := 505) (by decide +kernel) (bc_mem_W (bc_tk2 (List.mem_of_getElem? (i := 171) rfl)) rfl) rfl (bc_dec_ok kX10_steelByAccounts z_X10_steelByAccounts)
theorem v_153 : bc_vY 153 := bc_vT_ok (p1 := 96) (p2 := 1084) (p3 := 1085) (by decide +kernel) (bc_mem_W (bc_tk5 (List.mem_of_getElem? (i := 31) rfl)) rfl) rfl (bc_dec_ok kX10_strain z_X10_strain)
theorem v_154 : bc_vY 154 := bc_vT_ok (p1 := 96) (p2 := 1099) (p3 := 1100) (by decide +kernel) (bc_mem_W (bc_tk5 (List.mem_of_getElem? (i := 46) rfl)) rfl) rfl (bc_dec_ok kX10_strainBits z_X10_strainBits)
theorem v_155 : bc_vY 155 := bc_vT_ok (p1 := 96) (p2 := 1089) (p3 := 29) (by decide +kernel) (bc_mem_W (bc_tk5 (List.mem_of_getElem? (i := 35) rfl)) rfl) rfl (bc_dec_ok kX10_strainFault z_X10_strainFault)
theorem v_156 : bc_vY 156 := bc_vT_ok (p1 := 96) (p2 := 1093) (p3 := 30) (by decide +kernel) (bc_mem_W (bc_tk5 (List.mem_of_getElem? (i := 39) rfl)) rfl) rfl (bc_dec_ok kX10_strainOf z_X10_strainOf)
theorem v_157 : bc_vY 157 := bc_vT_ok (p1 := 96) (p2 := 1303) (p3 := 1304) (by decide +kernel) (bc_mem_W (bc_tk6 (List.mem_of_getElem? (i := 10) rfl)) rfl) rfl (bc_dec_ok kX10_type z_X10_type)
theorem v_158 : bc_vY 158 := bc_vT_ok (p1 := 96) (p2 := 1452) (p3 := 1453) (by decide +kernel) (bc_mem_W (bc_tk6 (List.mem_of_getElem? (i := 159) rfl)) rfl) rfl (bc_dec_ok kX10_undo z_X10_undo)
theorem v_159 : bc_vY 159 := bc_vT_ok (p1 := 96) (p2 := 1193) (p3 := 1194) (by decide +kernel) (bc_mem_W (bc_tk5 (List.mem_of_getElem? (i := 140) rfl)) rfl) rfl (bc_dec_ok kX10_vowAt z_X10_vowAt)
theorem v_160 : bc_vY 160 := bc_vT_ok (p1 := 96) (p2 := 468) (p3 := 469) (by decide +kernel) (bc_mem_W (bc_tk2 (List.mem_of_getElem? (i := 135) rfl)) rfl) rfl (bc_dec_ok kX10_vowCount z_X10_vowCount)
theorem v_161 : bc_vY 161 := bc_vT_ok (p1 := 96) (p2 := 897) (p3 := 21) (by decide +kernel) (bc_mem_W (bc_tk4 (List.mem_of_getElem? (i := 83) rfl)) rfl) rfl (bc_dec_ok kX10_vowFault z_X10_vowFault)
theorem v_162 : bc_vY 162 := bc_vT_ok (p1 := 96) (p2 := 865) (p3 := 17) (by decide +kernel) (bc_mem_W (bc_tk4 (List.mem_of_getElem? (i := 51) rfl)) rfl) rfl (bc_dec_ok kX10_walk z_X10_walk)
theorem v_163 : bc_vY 163 := bc_vT_ok (p1 := 96) (p2 := 861) (p3 := 16) (by decide +kernel) (bc_mem_W (bc_tk4 (List.mem_of_getElem? (i := 47) rfl)) rfl) rfl (bc_dec_ok kX10_walkFault z_X10_walkFault)
theorem v_164 : bc_vY 164 := bc_vT_ok (p1 := 96) (p2 := 1133) (p3 := 31) (by decide +kernel) (bc_mem_W (bc_tk5 (List.mem_of_getElem? (i := 79) rfl)) rfl) rfl (bc_dec_ok kX10_wayFault z_X10_wayFault)
theorem v_165 : bc_vY 165 := bc_vT_ok (p1 := 96) (p2 := 1139) (p3 := 1140) (by decide +kernel) (bc_mem_W (bc_tk5 (List.mem_of_getElem? (i := 86) rfl)) rfl) rfl (bc_dec_ok kX10_wayJoint z_X10_wayJoint)
theorem v_166 : bc_vY 166 := bc_vT_ok (p1 := 96) (p2 := 1128) (p3 := 1129) (by decide +kernel) (bc_mem_W (bc_tk5 (List.mem_of_getElem? (i := 75) rfl)) rfl) rfl (bc_dec_ok kX10_wayLength z_X10_wayLength)
theorem v_167 : bc_vY 167 := bc_vT_ok (p1 := 96) (p2 := 521) (p3 := 1) (by decide +kernel) (bc_mem_W (bc_tk2 (List.mem_of_getElem? (i := 187) rfl)) rfl) rfl (bc_dec_ok kX10_waysAgree z_X10_waysAgree)
theorem v_168 : bc_vY 168 := bc_vT_ok (p1 := 96) (p2 := 1055) (p3 := 1056) (by decide +kernel) (bc_mem_W (bc_tk5 (List.mem_of_getElem? (i := 2) rfl)) rfl) rfl (bc_dec_ok kX10_wear z_X10_wear)
theorem v_169 : bc_vY 169 := bc_vT_ok (p1 := 96) (p2 := 570) (p3 := 8) (by decide +kernel) (bc_mem_W (bc_tk2 (List.mem_of_getElem? (i := 236) rfl)) rfl) rfl (bc_dec_ok kX10_widestByTrial z_X10_widestByTrial)
theorem v_170 : bc_vY 170 := bc_vT_ok (p1 := 96) (p2 := 1111) (p3 := 1112) (by decide +kernel) (bc_mem_W (bc_tk5 (List.mem_of_getElem? (i := 58) rfl)) rfl) rfl (bc_dec_ok kX10_widestLoad z_X10_widestLoad)
theorem v_171 : bc_vY 171 := bc_vT_ok (p1 := 96) (p2 := 1121) (p3 := 1122) (by decide +kernel) (bc_mem_W (bc_tk5 (List.mem_of_getElem? (i := 68) rfl)) rfl) rfl (bc_dec_ok kX10_widestLoadByTrial z_X10_widestLoadByTrial)
theorem v_172 : bc_vY 172 := bc_vT_ok (p1 := 107) (p2 := 1654) (p3 := 1655) (by decide +kernel) (bc_mem_W (bc_tk7 (List.mem_of_getElem? (i := 121) rfl)) rfl) rfl (bc_dec_ok kX11_abandon z_X11_abandon)
theorem v_173 : bc_vY 173 := bc_vT_ok (p1 := 107) (p2 := 1565) (p3 := 1566) (by decide +kernel) (bc_mem_W (bc_tk7 (List.mem_of_getElem? (i := 32) rfl)) rfl) rfl (bc_dec_ok kX11_addMember z_X11_addMember)
theorem v_174 : bc_vY 174 := bc_vT_ok (p1 := 107) (p2 := 1574) (p3 := 46) (by decide +kernel) (bc_mem_W (bc_tk7 (List.mem_of_getElem? (i := 40) rfl)) rfl) rfl (bc_dec_ok kX11_adds z_X11_adds)
theorem v_175 : bc_vY 175 := bc_vT_ok (p1 := 107) (p2 := 1823) (p3 := 1824) (by decide +kernel) (bc_mem_W (bc_tk8 (List.mem_of_getElem? (i := 50) rfl)) rfl) rfl (bc_dec_ok kX11_affordableLoad z_X11_affordableLoad)
theorem v_176 : bc_vY 176 := bc_vT_ok (p1 := 107) (p2 := 1839) (p3 := 1840) (by decide +kernel) (bc_mem_W (bc_tk8 (List.mem_of_getElem? (i := 66) rfl)) rfl) rfl (bc_dec_ok kX11_affordableLoadByTable z_X11_affordableLoadByTable)
theorem v_177 : bc_vY 177 := bc_vT_ok (p1 := 107) (p2 := 1832) (p3 := 78) (by decide +kernel) (bc_mem_W (bc_tk8 (List.mem_of_getElem? (i := 58) rfl)) rfl) rfl (bc_dec_ok kX11_affords z_X11_affords)
theorem v_178 : bc_vY 178 := bc_vT_ok (p1 := 107) (p2 := 1871) (p3 := 1872) (by decide +kernel) (bc_mem_W (bc_tk8 (List.mem_of_getElem? (i := 98) rfl)) rfl) rfl (bc_dec_ok kX11_amount z_X11_amount)
theorem v_179 : bc_vY 179 := bc_vT_ok (p1 := 107) (p2 := 1580) (p3 := 0) (by decide +kernel) (bc_mem_W (bc_tk7 (List.mem_of_getElem? (i := 46) rfl)) rfl) rfl (bc_dec_ok kX11_areJoints z_X11_areJoints)
theorem v_180 : bc_vY 180 := bc_vT_ok (p1 := 107) (p2 := 1738) (p3 := 73) (by decide +kernel) (bc_mem_W (bc_tk7 (List.mem_of_getElem? (i := 204) rfl)) rfl) rfl (bc_dec_ok kX11_asks z_X11_asks)
theorem v_181 : bc_vY 181 := bc_vT_ok (p1 := 107) (p2 := 1828) (p3 := 77) (by decide +kernel) (bc_mem_W (bc_tk8 (List.mem_of_getElem? (i := 54) rfl)) rfl) rfl (bc_dec_ok kX11_asksAffordable z_X11_asksAffordable)
theorem v_182 : bc_vY 182 := bc_vT_ok (p1 := 107) (p2 := 1816) (p3 := 76) (by decide +kernel) (bc_mem_W (bc_tk8 (List.mem_of_getElem? (i := 42) rfl)) rfl) rfl (bc_dec_ok kX11_asksCritical z_X11_asksCritical)
theorem v_183 : bc_vY 183 := bc_vT_ok (p1 := 107) (p2 := 1868) (p3 := 80) (by decide +kernel) (bc_mem_W (bc_tk8 (List.mem_of_getElem? (i := 94) rfl)) rfl) rfl (bc_dec_ok kX11_asksVow z_X11_asksVow)
theorem v_184 : bc_vY 184 := bc_vT_ok (p1 := 107) (p2 := 1796) (p3 := 75) (by decide +kernel) (bc_mem_W (bc_tk8 (List.mem_of_getElem? (i := 22) rfl)) rfl) rfl (bc_dec_ok kX11_asksWay z_X11_asksWay)
theorem v_185 : bc_vY 185 := bc_vT_ok (p1 := 107) (p2 := 1757) (p3 := 1758) (by decide +kernel) (bc_mem_W (bc_tk7 (List.mem_of_getElem? (i := 224) rfl)) rfl) rfl (bc_dec_ok kX11_bearing z_X11_bearing)
theorem v_186 : bc_vY 186 := bc_vT_ok (p1 := 107) (p2 := 1627) (p3 := 56) (by decide +kernel) (bc_mem_W (bc_tk7 (List.mem_of_getElem? (i := 93) rfl)) rfl) rfl (bc_dec_ok kX11_bears z_X11_bears)
theorem v_187 : bc_vY 187 := bc_vT_ok (p1 := 107) (p2 := 1570) (p3 := 45) (by decide +kernel) (bc_mem_W (bc_tk7 (List.mem_of_getElem? (i := 36) rfl)) rfl) rfl (bc_dec_ok kX11_begins z_X11_begins)
theorem v_188 : bc_vY 188 := bc_vT_ok (p1 := 107) (p2 := 1584) (p3 := 47) (by decide +kernel) (bc_mem_W (bc_tk7 (List.mem_of_getElem? (i := 50) rfl)) rfl) rfl (bc_dec_ok kX11_between z_X11_between)
theorem v_189 : bc_vY 189 := bc_vT_ok (p1 := 107) (p2 := 1977) (p3 := 89) (by decide +kernel) (bc_mem_W (bc_tk8 (List.mem_of_getElem? (i := 203) rfl)) rfl) rfl (bc_dec_ok kX11_blank z_X11_blank)
theorem v_190 : bc_vY 190 := bc_vT_ok (p1 := 107) (p2 := 1899) (p3 := 1900) (by decide +kernel) (bc_mem_W (bc_tk8 (List.mem_of_getElem? (i := 126) rfl)) rfl) rfl (bc_dec_ok kX11_brokenTotal z_X11_brokenTotal)
theorem v_191 : bc_vY 191 := bc_vT_ok (p1 := 107) (p2 := 1875) (p3 := 1876) (by decide +kernel) (bc_mem_W (bc_tk8 (List.mem_of_getElem? (i := 102) rfl)) rfl) rfl (bc_dec_ok kX11_canKeepAll z_X11_canKeepAll)
theorem v_192 : bc_vY 192 := bc_vT_ok (p1 := 107) (p2 := 1887) (p3 := 1888) (by decide +kernel) (bc_mem_W (bc_tk8 (List.mem_of_getElem? (i := 114) rfl)) rfl) rfl (bc_dec_ok kX11_canKeepAllBySums z_X11_canKeepAllBySums)
theorem v_193 : bc_vY 193 := bc_vT_ok (p1 := 107) (p2 := 1554) (p3 := 0) (by decide +kernel) (bc_mem_W (bc_tk7 (List.mem_of_getElem? (i := 20) rfl)) rfl) rfl (bc_dec_ok kX11_copies z_X11_copies)
theorem v_194 : bc_vY 194 := bc_vT_ok (p1 := 107) (p2 := 1836) (p3 := 79) (by decide +kernel) (bc_mem_W (bc_tk8 (List.mem_of_getElem? (i := 62) rfl)) rfl) rfl (bc_dec_ok kX11_costFor z_X11_costFor)
theorem v_195 : bc_vY 195 := bc_vT_ok (p1 := 107) (p2 := 1651) (p3 := 61) (by decide +kernel) (bc_mem_W (bc_tk7 (List.mem_of_getElem? (i := 117) rfl)) rfl) rfl (bc_dec_ok kX11_costOf z_X11_costOf)
theorem v_196 : bc_vY 196 := bc_vT_ok (p1 := 107) (p2 := 1745) (p3 := 1746) (by decide +kernel) (bc_mem_W (bc_tk7 (List.mem_of_getElem? (i := 212) rfl)) rfl) rfl (bc_dec_ok kX11_crack z_X11_crack)
theorem v_197 : bc_vY 197 := bc_vT_ok (p1 := 107) (p2 := 1919) (p3 := 1920) (by decide +kernel) (bc_mem_W (bc_tk8 (List.mem_of_getElem? (i := 146) rfl)) rfl) rfl (bc_dec_ok kX11_crackedShare z_X11_crackedShare)
theorem v_198 : bc_vY 198 := bc_vT_ok (p1 := 107) (p2 := 1911) (p3 := 1912) (by decide +kernel) (bc_mem_W (bc_tk8 (List.mem_of_getElem? (i := 138) rfl)) rfl) rfl (bc_dec_ok kX11_day z_X11_day)
theorem v_199 : bc_vY 199 := bc_vT_ok (p1 := 107) (p2 := 1989) (p3 := 92) (by decide +kernel) (bc_mem_W (bc_tk8 (List.mem_of_getElem? (i := 215) rfl)) rfl) rfl (bc_dec_ok kX11_digit z_X11_digit)
theorem v_200 : bc_vY 200 := bc_vT_ok (p1 := 107) (p2 := 1997) (p3 := 94) (by decide +kernel) (bc_mem_W (bc_tk8 (List.mem_of_getElem? (i := 223) rfl)) rfl) rfl (bc_dec_ok kX11_does z_X11_does)
theorem v_201 : bc_vY 201 := bc_vT_ok (p1 := 107) (p2 := 1863) (p3 := 1864) (by decide +kernel) (bc_mem_W (bc_tk8 (List.mem_of_getElem? (i := 90) rfl)) rfl) rfl (bc_dec_ok kX11_dueDay z_X11_dueDay)
theorem v_202 : bc_vY 202 := bc_vT_ok (p1 := 107) (p2 := 1675) (p3 := 64) (by decide +kernel) (bc_mem_W (bc_tk7 (List.mem_of_getElem? (i := 141) rfl)) rfl) rfl (bc_dec_ok kX11_empties z_X11_empties)
theorem v_203 : bc_vY 203 := bc_vT_ok (p1 := 107) (p2 := 1602) (p3 := 51) (by decide +kernel) (bc_mem_W (bc_tk7 (List.mem_of_getElem? (i := 68) rfl)) rfl) rfl (bc_dec_ok kX11_ends z_X11_ends)
theorem v_204 : bc_vY 204 := bc_vT_ok (p1 := 107) (p2 := 2000) (p3 := 2001) (by decide +kernel) (bc_mem_W (bc_tk8 (List.mem_of_getElem? (i := 227) rfl)) rfl) rfl (bc_dec_ok kX11_errorPosition z_X11_errorPosition)
theorem v_205 : bc_vY 205 := bc_vT_ok (p1 := 107) (p2 := 2004) (p3 := 2005) (by decide +kernel) (bc_mem_W (bc_tk8 (List.mem_of_getElem? (i := 231) rfl)) rfl) rfl (bc_dec_ok kX11_failedCommand z_X11_failedCommand)
theorem v_206 : bc_vY 206 := bc_vT_ok (p1 := 107) (p2 := 1622) (p3 := 55) (by decide +kernel) (bc_mem_W (bc_tk7 (List.mem_of_getElem? (i := 88) rfl)) rfl) rfl (bc_dec_ok kX11_fills z_X11_fills)
theorem v_207 : bc_vY 207 := bc_vT_ok (p1 := 107) (p2 := 1635) (p3 := 58) (by decide +kernel) (bc_mem_W (bc_tk7 (List.mem_of_getElem? (i := 101) rfl)) rfl) rfl (bc_dec_ok kX11_finds z_X11_finds)
theorem v_208 : bc_vY 208 := bc_vT_ok (p1 := 107) (p2 := 1733) (p3 := 1734) (by decide +kernel) (bc_mem_W (bc_tk7 (List.mem_of_getElem? (i := 200) rfl)) rfl) rfl (bc_dec_ok kX11_firstJoint z_X11_firstJoint)
theorem v_209 : bc_vY 209 := bc_vT_ok (p1 := 107) (p2 := 1706) (p3 := 68) (by decide +kernel) (bc_mem_W (bc_tk7 (List.mem_of_getElem? (i := 172) rfl)) rfl) rfl (bc_dec_ok kX11_forges z_X11_forges)
theorem v_210 : bc_vY 210 := bc_vT_ok (p1 := 107) (p2 := 1547) (p3 := 43) (by decide +kernel) (bc_mem_W (bc_tk7 (List.mem_of_getElem? (i := 13) rfl)) rfl) rfl (bc_dec_ok kX11_goes z_X11_goes)
theorem v_211 : bc_vY 211 := bc_vT_ok (p1 := 107) (p2 := 1891) (p3 := 1892) (by decide +kernel) (bc_mem_W (bc_tk8 (List.mem_of_getElem? (i := 118) rfl)) rfl) rfl (bc_dec_ok kX11_greatestVow z_X11_greatestVow)
theorem v_212 : bc_vY 212 := bc_vT_ok (p1 := 107) (p2 := 1551) (p3 := 44) (by decide +kernel) (bc_mem_W (bc_tk7 (List.mem_of_getElem? (i := 17) rfl)) rfl) rfl (bc_dec_ok kX11_holds z_X11_holds)
theorem v_214 : bc_vY 214 := bc_vT_ok (p1 := 107) (p2 := 1753) (p3 := 1754) (by decide +kernel) (bc_mem_W (bc_tk7 (List.mem_of_getElem? (i := 220) rfl)) rfl) rfl (bc_dec_ok kX11_isAbandoned z_X11_isAbandoned)
theorem v_215 : bc_vY 215 := bc_vT_ok (p1 := 107) (p2 := 1923) (p3 := 1924) (by decide +kernel) (bc_mem_W (bc_tk8 (List.mem_of_getElem? (i := 150) rfl)) rfl) rfl (bc_dec_ok kX11_isConsistent z_X11_isConsistent)
theorem v_216 : bc_vY 216 := bc_vT_ok (p1 := 107) (p2 := 1811) (p3 := 1812) (by decide +kernel) (bc_mem_W (bc_tk8 (List.mem_of_getElem? (i := 38) rfl)) rfl) rfl (bc_dec_ok kX11_isCritical z_X11_isCritical)
theorem v_217 : bc_vY 217 := bc_vT_ok (p1 := 107) (p2 := 1819) (p3 := 1820) (by decide +kernel) (bc_mem_W (bc_tk8 (List.mem_of_getElem? (i := 46) rfl)) rfl) rfl (bc_dec_ok kX11_isCriticalByRemoval z_X11_isCriticalByRemoval)
theorem v_218 : bc_vY 218 := bc_vT_ok (p1 := 107) (p2 := 1698) (p3 := 67) (by decide +kernel) (bc_mem_W (bc_tk7 (List.mem_of_getElem? (i := 164) rfl)) rfl) rfl (bc_dec_ok kX11_isDue z_X11_isDue)
theorem v_219 : bc_vY 219 := bc_vT_ok (p1 := 107) (p2 := 1577) (p3 := 0) (by decide +kernel) (bc_mem_W (bc_tk7 (List.mem_of_getElem? (i := 43) rfl)) rfl) rfl (bc_dec_ok kX11_isIn z_X11_isIn)
theorem v_220 : bc_vY 220 := bc_vT_ok (p1 := 107) (p2 := 1678) (p3 := 0) (by decide +kernel) (bc_mem_W (bc_tk7 (List.mem_of_getElem? (i := 144) rfl)) rfl) rfl (bc_dec_ok kX11_isKind z_X11_isKind)
theorem v_221 : bc_vY 221 := bc_vT_ok (p1 := 107) (p2 := 1596) (p3 := 50) (by decide +kernel) (bc_mem_W (bc_tk7 (List.mem_of_getElem? (i := 62) rfl)) rfl) rfl (bc_dec_ok kX11_isMember z_X11_isMember)
theorem v_222 : bc_vY 222 := bc_vT_ok (p1 := 107) (p2 := 1880) (p3 := 81) (by decide +kernel) (bc_mem_W (bc_tk8 (List.mem_of_getElem? (i := 106) rfl)) rfl) rfl (bc_dec_ok kX11_keepsAll z_X11_keepsAll)
theorem v_223 : bc_vY 223 := bc_vT_ok (p1 := 107) (p2 := 1895) (p3 := 1896) (by decide +kernel) (bc_mem_W (bc_tk8 (List.mem_of_getElem? (i := 122) rfl)) rfl) rfl (bc_dec_ok kX11_keptTotal z_X11_keptTotal)
theorem v_224 : bc_vY 224 := bc_vT_ok (p1 := 107) (p2 := 1964) (p3 := 87) (by decide +kernel) (bc_mem_W (bc_tk8 (List.mem_of_getElem? (i := 190) rfl)) rfl) rfl (bc_dec_ok kX11_kindHere z_X11_kindHere)
theorem v_225 : bc_vY 225 := bc_vT_ok (p1 := 107) (p2 := 1993) (p3 := 93) (by decide +kernel) (bc_mem_W (bc_tk8 (List.mem_of_getElem? (i := 219) rfl)) rfl) rfl (bc_dec_ok kX11_kindOf z_X11_kindOf)
theorem v_226 : bc_vY 226 := bc_vT_ok (p1 := 107) (p2 := 1936) (p3 := 84) (by decide +kernel) (bc_mem_W (bc_tk8 (List.mem_of_getElem? (i := 162) rfl)) rfl) rfl (bc_dec_ok kX11_lays z_X11_lays)
theorem v_227 : bc_vY 227 := bc_vT_ok (p1 := 107) (p2 := 1659) (p3 := 62) (by decide +kernel) (bc_mem_W (bc_tk7 (List.mem_of_getElem? (i := 125) rfl)) rfl) rfl (bc_dec_ok kX11_leaves z_X11_leaves)
theorem v_228 : bc_vY 228 := bc_vT_ok (p1 := 107) (p2 := 1663) (p3 := 63) (by decide +kernel) (bc_mem_W (bc_tk7 (List.mem_of_getElem? (i := 129) rfl)) rfl) rfl (bc_dec_ok kX11_leftOnes z_X11_leftOnes)
theorem v_229 : bc_vY 229 := bc_vT_ok (p1 := 107) (p2 := 1973) (p3 := 88) (by decide +kernel) (bc_mem_W (bc_tk8 (List.mem_of_getElem? (i := 199) rfl)) rfl) rfl (bc_dec_ok kX11_letterHere z_X11_letterHere)
theorem v_230 : bc_vY 230 := bc_vT_ok (p1 := 107) (p2 := 1787) (p3 := 1788) (by decide +kernel) (bc_mem_W (bc_tk8 (List.mem_of_getElem? (i := 14) rfl)) rfl) rfl (bc_dec_ok kX11_links z_X11_links)
theorem v_231 : bc_vY 231 := bc_vT_ok (p1 := 107) (p2 := 1689) (p3 := 1690) (by decide +kernel) (bc_mem_W (bc_tk7 (List.mem_of_getElem? (i := 156) rfl)) rfl) rfl (bc_dec_ok kX11_makeVow z_X11_makeVow)
theorem v_232 : bc_vY 232 := bc_vT_ok (p1 := 107) (p2 := 1915) (p3 := 1916) (by decide +kernel) (bc_mem_W (bc_tk8 (List.mem_of_getElem? (i := 142) rfl)) rfl) rfl (bc_dec_ok kX11_meanBearing z_X11_meanBearing)
theorem v_233 : bc_vY 233 := bc_vT_ok (p1 := 107) (p2 := 1639) (p3 := 59) (by decide +kernel) (bc_mem_W (bc_tk7 (List.mem_of_getElem? (i := 105) rfl)) rfl) rfl (bc_dec_ok kX11_measures z_X11_measures)
theorem v_234 : bc_vY 234 := bc_vT_ok (p1 := 107) (p2 := 1843) (p3 := 1844) (by decide +kernel) (bc_mem_W (bc_tk8 (List.mem_of_getElem? (i := 70) rfl)) rfl) rfl (bc_dec_ok kX11_memberByBearing z_X11_memberByBearing)
theorem v_235 : bc_vY 235 := bc_vT_ok (p1 := 107) (p2 := 1725) (p3 := 1726) (by decide +kernel) (bc_mem_W (bc_tk7 (List.mem_of_getElem? (i := 192) rfl)) rfl) rfl (bc_dec_ok kX11_memberCount z_X11_memberCount)
theorem v_236 : bc_vY 236 := bc_vT_ok (p1 := 107) (p2 := 1847) (p3 := 1848) (by decide +kernel) (bc_mem_W (bc_tk8 (List.mem_of_getElem? (i := 74) rfl)) rfl) rfl (bc_dec_ok kX11_nicheKind z_X11_nicheKind)
theorem v_237 : bc_vY 237 := bc_vT_ok (p1 := 107) (p2 := 1851) (p3 := 1852) (by decide +kernel) (bc_mem_W (bc_tk8 (List.mem_of_getElem? (i := 78) rfl)) rfl) rfl (bc_dec_ok kX11_nicheWeight z_X11_nicheWeight)
theorem v_238 : bc_vY 238 := bc_vT_ok (p1 := 107) (p2 := 1985) (p3 := 91) (by decide +kernel) (bc_mem_W (bc_tk8 (List.mem_of_getElem? (i := 211) rfl)) rfl) rfl (bc_dec_ok kX11_number z_X11_number)
theorem v_239 : bc_vY 239 := bc_vT_ok (p1 := 107) (p2 := 1588) (p3 := 48) (by decide +kernel) (bc_mem_W (bc_tk7 (List.mem_of_getElem? (i := 54) rfl)) rfl) rfl (bc_dec_ok kX11_of z_X11_of)
theorem v_240 : bc_vY 240 := bc_vT_ok (p1 := 107) (p2 := 1722) (p3 := 71) (by decide +kernel) (bc_mem_W (bc_tk7 (List.mem_of_getElem? (i := 188) rfl)) rfl) rfl (bc_dec_ok kX11_ofVow z_X11_ofVow)
theorem v_241 : bc_vY 241 := bc_vT_ok (p1 := 107) (p2 := 1943) (p3 := 1944) (by decide +kernel) (bc_mem_W (bc_tk8 (List.mem_of_getElem? (i := 170) rfl)) rfl) rfl (bc_dec_ok kX11_outputAt z_X11_outputAt)
theorem v_242 : bc_vY 242 := bc_vT_ok (p1 := 107) (p2 := 1709) (p3 := 1710) (by decide +kernel) (bc_mem_W (bc_tk7 (List.mem_of_getElem? (i := 176) rfl)) rfl) rfl (bc_dec_ok kX11_passDays z_X11_passDays)
theorem v_243 : bc_vY 243 := bc_vT_ok (p1 := 107) (p2 := 1718) (p3 := 70) (by decide +kernel) (bc_mem_W (bc_tk7 (List.mem_of_getElem? (i := 184) rfl)) rfl) rfl (bc_dec_ok kX11_passes z_X11_passes)
theorem v_244 : bc_vY 244 := bc_vT_ok (p1 := 107) (p2 := 1592) (p3 := 49) (by decide +kernel) (bc_mem_W (bc_tk7 (List.mem_of_getElem? (i := 58) rfl)) rfl) rfl (bc_dec_ok kX11_place z_X11_place)
theorem v_245 : bc_vY 245 := bc_vT_ok (p1 := 107) (p2 := 1609) (p3 := 1610) (by decide +kernel) (bc_mem_W (bc_tk7 (List.mem_of_getElem? (i := 76) rfl)) rfl) rfl (bc_dec_ok kX11_procession z_X11_procession)
theorem v_246 : bc_vY 246 := bc_vT_ok (p1 := 107) (p2 := 1681) (p3 := 1682) (by decide +kernel) (bc_mem_W (bc_tk7 (List.mem_of_getElem? (i := 148) rfl)) rfl) rfl (bc_dec_ok kX11_put z_X11_put)
theorem v_247 : bc_vY 247 := bc_vT_ok (p1 := 107) (p2 := 1686) (p3 := 65) (by decide +kernel) (bc_mem_W (bc_tk7 (List.mem_of_getElem? (i := 152) rfl)) rfl) rfl (bc_dec_ok kX11_puts z_X11_puts)
theorem v_248 : bc_vY 248 := bc_vT_ok (p1 := 107) (p2 := 1981) (p3 := 90) (by decide +kernel) (bc_mem_W (bc_tk8 (List.mem_of_getElem? (i := 207) rfl)) rfl) rfl (bc_dec_ok kX11_reads z_X11_reads)
theorem v_249 : bc_vY 249 := bc_vT_ok (p1 := 107) (p2 := 1956) (p3 := 85) (by decide +kernel) (bc_mem_W (bc_tk8 (List.mem_of_getElem? (i := 182) rfl)) rfl) rfl (bc_dec_ok kX11_readsAll z_X11_readsAll)
theorem v_250 : bc_vY 250 := bc_vT_ok (p1 := 107) (p2 := 1960) (p3 := 86) (by decide +kernel) (bc_mem_W (bc_tk8 (List.mem_of_getElem? (i := 186) rfl)) rfl) rfl (bc_dec_ok kX11_readsCommand z_X11_readsCommand)
theorem v_251 : bc_vY 251 := bc_vT_ok (p1 := 107) (p2 := 1606) (p3 := 52) (by decide +kernel) (bc_mem_W (bc_tk7 (List.mem_of_getElem? (i := 72) rfl)) rfl) rfl (bc_dec_ok kX11_remembers z_X11_remembers)
theorem v_252 : bc_vY 252 := bc_vT_ok (p1 := 107) (p2 := 1927) (p3 := 1928) (by decide +kernel) (bc_mem_W (bc_tk8 (List.mem_of_getElem? (i := 154) rfl)) rfl) rfl (bc_dec_ok kX11_renderMember z_X11_renderMember)
theorem v_253 : bc_vY 253 := bc_vT_ok (p1 := 107) (p2 := 1939) (p3 := 1940) (by decide +kernel) (bc_mem_W (bc_tk8 (List.mem_of_getElem? (i := 166) rfl)) rfl) rfl (bc_dec_ok kX11_renderWay z_X11_renderWay)
theorem v_254 : bc_vY 254 := bc_vT_ok (p1 := 107) (p2 := 1642) (p3 := 1643) (by decide +kernel) (bc_mem_W (bc_tk7 (List.mem_of_getElem? (i := 109) rfl)) rfl) rfl (bc_dec_ok kX11_repair z_X11_repair)
theorem v_255 : bc_vY 255 := bc_vT_ok (p1 := 107) (p2 := 1761) (p3 := 1762) (by decide +kernel) (bc_mem_W (bc_tk7 (List.mem_of_getElem? (i := 228) rfl)) rfl) rfl (bc_dec_ok kX11_repairCost z_X11_repairCost)
theorem v_256 : bc_vY 256 := bc_vT_ok (p1 := 107) (p2 := 1647) (p3 := 60) (by decide +kernel) (bc_mem_W (bc_tk7 (List.mem_of_getElem? (i := 113) rfl)) rfl) rfl (bc_dec_ok kX11_repairs z_X11_repairs)
theorem v_257 : bc_vY 257 := bc_vT_ok (p1 := 107) (p2 := 1561) (p3 := 1562) (by decide +kernel) (bc_mem_W (bc_tk7 (List.mem_of_getElem? (i := 28) rfl)) rfl) rfl (bc_dec_ok kX11_restore z_X11_restore)
theorem v_258 : bc_vY 258 := bc_vT_ok (p1 := 107) (p2 := 1666) (p3 := 1667) (by decide +kernel) (bc_mem_W (bc_tk7 (List.mem_of_getElem? (i := 133) rfl)) rfl) rfl (bc_dec_ok kX11_resume z_X11_resume)
theorem v_259 : bc_vY 259 := bc_vT_ok (p1 := 107) (p2 := 1951) (p3 := 1952) (by decide +kernel) (bc_mem_W (bc_tk8 (List.mem_of_getElem? (i := 178) rfl)) rfl) rfl (bc_dec_ok kX11_runScript z_X11_runScript)
theorem v_260 : bc_vY 260 := bc_vT_ok (p1 := 107) (p2 := 1557) (p3 := 1558) (by decide +kernel) (bc_mem_W (bc_tk7 (List.mem_of_getElem? (i := 24) rfl)) rfl) rfl (bc_dec_ok kX11_save z_X11_save)
theorem v_261 : bc_vY 261 := bc_vT_ok (p1 := 107) (p2 := 1741) (p3 := 1742) (by decide +kernel) (bc_mem_W (bc_tk7 (List.mem_of_getElem? (i := 208) rfl)) rfl) rfl (bc_dec_ok kX11_secondJoint z_X11_secondJoint)
theorem v_262 : bc_vY 262 := bc_vT_ok (p1 := 107) (p2 := 1701) (p3 := 1702) (by decide +kernel) (bc_mem_W (bc_tk7 (List.mem_of_getElem? (i := 168) rfl)) rfl) rfl (bc_dec_ok kX11_setForge z_X11_setForge)
theorem v_263 : bc_vY 263 := bc_vT_ok (p1 := 107) (p2 := 1670) (p3 := 1671) (by decide +kernel) (bc_mem_W (bc_tk7 (List.mem_of_getElem? (i := 137) rfl)) rfl) rfl (bc_dec_ok kX11_setNiche z_X11_setNiche)
theorem v_264 : bc_vY 264 := bc_vT_ok (p1 := 107) (p2 := 1884) (p3 := 82) (by decide +kernel) (bc_mem_W (bc_tk8 (List.mem_of_getElem? (i := 110) rfl)) rfl) rfl (bc_dec_ok kX11_spareOn z_X11_spareOn)
theorem v_265 : bc_vY 265 := bc_vT_ok (p1 := 107) (p2 := 1967) (p3 := 0) (by decide +kernel) (bc_mem_W (bc_tk8 (List.mem_of_getElem? (i := 193) rfl)) rfl) rfl (bc_dec_ok kX11_startOf z_X11_startOf)
theorem v_266 : bc_vY 266 := bc_vT_ok (p1 := 107) (p2 := 1903) (p3 := 1904) (by decide +kernel) (bc_mem_W (bc_tk8 (List.mem_of_getElem? (i := 130) rfl)) rfl) rfl (bc_dec_ok kX11_steel z_X11_steel)
theorem v_267 : bc_vY 267 := bc_vT_ok (p1 := 107) (p2 := 1907) (p3 := 1908) (by decide +kernel) (bc_mem_W (bc_tk8 (List.mem_of_getElem? (i := 134) rfl)) rfl) rfl (bc_dec_ok kX11_steelByAccounts z_X11_steelByAccounts)
theorem v_268 : bc_vY 268 := bc_vT_ok (p1 := 107) (p2 := 1765) (p3 := 1766) (by decide +kernel) (bc_mem_W (bc_tk7 (List.mem_of_getElem? (i := 232) rfl)) rfl) rfl (bc_dec_ok kX11_strain z_X11_strain)
theorem v_269 : bc_vY 269 := bc_vT_ok (p1 := 107) (p2 := 1773) (p3 := 1774) (by decide +kernel) (bc_mem_W (bc_tk8 (List.mem_of_getElem? (i := 0) rfl)) rfl) rfl (bc_dec_ok kX11_strainBits z_X11_strainBits)
theorem v_270 : bc_vY 270 := bc_vT_ok (p1 := 107) (p2 := 1770) (p3 := 74) (by decide +kernel) (bc_mem_W (bc_tk7 (List.mem_of_getElem? (i := 236) rfl)) rfl) rfl (bc_dec_ok kX11_strains z_X11_strains)
theorem v_271 : bc_vY 271 := bc_vT_ok (p1 := 107) (p2 := 1538) (p3 := 1539) (by decide +kernel) (bc_mem_W (bc_tk7 (List.mem_of_getElem? (i := 5) rfl)) rfl) rfl (bc_dec_ok kX11_thrown z_X11_thrown)
theorem v_272 : bc_vY 272 := bc_vT_ok (p1 := 107) (p2 := 1730) (p3 := 72) (by decide +kernel) (bc_mem_W (bc_tk7 (List.mem_of_getElem? (i := 196) rfl)) rfl) rfl (bc_dec_ok kX11_total z_X11_total)
theorem v_273 : bc_vY 273 := bc_vT_ok (p1 := 107) (p2 := 1947) (p3 := 1948) (by decide +kernel) (bc_mem_W (bc_tk8 (List.mem_of_getElem? (i := 174) rfl)) rfl) rfl (bc_dec_ok kX11_type z_X11_type)
theorem v_274 : bc_vY 274 := bc_vT_ok (p1 := 107) (p2 := 1542) (p3 := 1543) (by decide +kernel) (bc_mem_W (bc_tk7 (List.mem_of_getElem? (i := 9) rfl)) rfl) rfl (bc_dec_ok kX11_undo z_X11_undo)
theorem v_275 : bc_vY 275 := bc_vT_ok (p1 := 107) (p2 := 1859) (p3 := 1860) (by decide +kernel) (bc_mem_W (bc_tk8 (List.mem_of_getElem? (i := 86) rfl)) rfl) rfl (bc_dec_ok kX11_vowAt z_X11_vowAt)
theorem v_276 : bc_vY 276 := bc_vT_ok (p1 := 107) (p2 := 1855) (p3 := 1856) (by decide +kernel) (bc_mem_W (bc_tk8 (List.mem_of_getElem? (i := 82) rfl)) rfl) rfl (bc_dec_ok kX11_vowCount z_X11_vowCount)
theorem v_277 : bc_vY 277 := bc_vT_ok (p1 := 107) (p2 := 1694) (p3 := 66) (by decide +kernel) (bc_mem_W (bc_tk7 (List.mem_of_getElem? (i := 160) rfl)) rfl) rfl (bc_dec_ok kX11_vows z_X11_vows)
theorem v_278 : bc_vY 278 := bc_vT_ok (p1 := 107) (p2 := 1714) (p3 := 69) (by decide +kernel) (bc_mem_W (bc_tk7 (List.mem_of_getElem? (i := 180) rfl)) rfl) rfl (bc_dec_ok kX11_waits z_X11_waits)
theorem v_279 : bc_vY 279 := bc_vT_ok (p1 := 107) (p2 := 1614) (p3 := 53) (by decide +kernel) (bc_mem_W (bc_tk7 (List.mem_of_getElem? (i := 80) rfl)) rfl) rfl (bc_dec_ok kX11_walks z_X11_walks)
theorem v_280 : bc_vY 280 := bc_vT_ok (p1 := 107) (p2 := 1807) (p3 := 1808) (by decide +kernel) (bc_mem_W (bc_tk8 (List.mem_of_getElem? (i := 34) rfl)) rfl) rfl (bc_dec_ok kX11_wayJoint z_X11_wayJoint)
theorem v_281 : bc_vY 281 := bc_vT_ok (p1 := 107) (p2 := 1803) (p3 := 1804) (by decide +kernel) (bc_mem_W (bc_tk8 (List.mem_of_getElem? (i := 30) rfl)) rfl) rfl (bc_dec_ok kX11_wayLength z_X11_wayLength)
theorem v_282 : bc_vY 282 := bc_vT_ok (p1 := 107) (p2 := 1749) (p3 := 1750) (by decide +kernel) (bc_mem_W (bc_tk7 (List.mem_of_getElem? (i := 216) rfl)) rfl) rfl (bc_dec_ok kX11_wear z_X11_wear)
theorem v_283 : bc_vY 283 := bc_vT_ok (p1 := 107) (p2 := 1631) (p3 := 57) (by decide +kernel) (bc_mem_W (bc_tk7 (List.mem_of_getElem? (i := 97) rfl)) rfl) rfl (bc_dec_ok kX11_weighs z_X11_weighs)
theorem v_284 : bc_vY 284 := bc_vT_ok (p1 := 107) (p2 := 1618) (p3 := 54) (by decide +kernel) (bc_mem_W (bc_tk7 (List.mem_of_getElem? (i := 84) rfl)) rfl) rfl (bc_dec_ok kX11_widest z_X11_widest)
theorem v_285 : bc_vY 285 := bc_vT_ok (p1 := 107) (p2 := 1791) (p3 := 1792) (by decide +kernel) (bc_mem_W (bc_tk8 (List.mem_of_getElem? (i := 18) rfl)) rfl) rfl (bc_dec_ok kX11_widestLoad z_X11_widestLoad)
theorem v_286 : bc_vY 286 := bc_vT_ok (p1 := 107) (p2 := 1799) (p3 := 1800) (by decide +kernel) (bc_mem_W (bc_tk8 (List.mem_of_getElem? (i := 26) rfl)) rfl) rfl (bc_dec_ok kX11_widestLoadByTrial z_X11_widestLoadByTrial)
theorem v_287 : bc_vY 287 := bc_vT_ok (p1 := 107) (p2 := 1932) (p3 := 83) (by decide +kernel) (bc_mem_W (bc_tk8 (List.mem_of_getElem? (i := 158) rfl)) rfl) rfl (bc_dec_ok kX11_writesNumber z_X11_writesNumber)
theorem v_288 : bc_vY 288 := bc_vT_ok (p1 := 95) (p2 := 950) (p3 := 0) (by decide +kernel) (bc_mem_W (bc_tk4 (List.mem_of_getElem? (i := 136) rfl)) rfl) rfl (bc_dec_ok kL_abandon z_L_abandon)
theorem v_289 : bc_vY 289 := bc_vT_ok (p1 := 95) (p2 := 640) (p3 := 0) (by decide +kernel) (bc_mem_W (bc_tk3 (List.mem_of_getElem? (i := 66) rfl)) rfl) rfl (bc_dec_ok kL_addMember z_L_addMember)
theorem v_290 : bc_vY 290 := bc_vT_ok (p1 := 95) (p2 := 1157) (p3 := 0) (by decide +kernel) (bc_mem_W (bc_tk5 (List.mem_of_getElem? (i := 103) rfl)) rfl) rfl (bc_dec_ok kL_affordableLoad z_L_affordableLoad)
theorem v_291 : bc_vY 291 := bc_vT_ok (p1 := 95) (p2 := 1164) (p3 := 0) (by decide +kernel) (bc_mem_W (bc_tk5 (List.mem_of_getElem? (i := 110) rfl)) rfl) rfl (bc_dec_ok kL_affordableLoadByTable z_L_affordableLoadByTable)
theorem v_292 : bc_vY 292 := bc_vT_ok (p1 := 95) (p2 := 1216) (p3 := 0) (by decide +kernel) (bc_mem_W (bc_tk5 (List.mem_of_getElem? (i := 162) rfl)) rfl) rfl (bc_dec_ok kL_amount z_L_amount)
theorem v_293 : bc_vY 293 := bc_vT_ok (p1 := 95) (p2 := 1066) (p3 := 0) (by decide +kernel) (bc_mem_W (bc_tk5 (List.mem_of_getElem? (i := 12) rfl)) rfl) rfl (bc_dec_ok kL_bearing z_L_bearing)
theorem v_294 : bc_vY 294 := bc_vT_ok (p1 := 95) (p2 := 1045) (p3 := 0) (by decide +kernel) (bc_mem_W (bc_tk4 (List.mem_of_getElem? (i := 231) rfl)) rfl) rfl (bc_dec_ok kL_crack z_L_crack)
theorem v_295 : bc_vY 295 := bc_vT_ok (p1 := 95) (p2 := 1246) (p3 := 0) (by decide +kernel) (bc_mem_W (bc_tk5 (List.mem_of_getElem? (i := 192) rfl)) rfl) rfl (bc_dec_ok kL_crackedShare z_L_crackedShare)
theorem v_296 : bc_vY 296 := bc_vT_ok (p1 := 95) (p2 := 1205) (p3 := 0) (by decide +kernel) (bc_mem_W (bc_tk5 (List.mem_of_getElem? (i := 151) rfl)) rfl) rfl (bc_dec_ok kL_dueDay z_L_dueDay)
theorem v_297 : bc_vY 297 := bc_vT_ok (p1 := 95) (p2 := 1435) (p3 := 0) (by decide +kernel) (bc_mem_W (bc_tk6 (List.mem_of_getElem? (i := 141) rfl)) rfl) rfl (bc_dec_ok kL_errorPosition z_L_errorPosition)
theorem v_298 : bc_vY 298 := bc_vT_ok (p1 := 95) (p2 := 1442) (p3 := 0) (by decide +kernel) (bc_mem_W (bc_tk6 (List.mem_of_getElem? (i := 148) rfl)) rfl) rfl (bc_dec_ok kL_failedCommand z_L_failedCommand)
theorem v_299 : bc_vY 299 := bc_vT_ok (p1 := 95) (p2 := 1027) (p3 := 0) (by decide +kernel) (bc_mem_W (bc_tk4 (List.mem_of_getElem? (i := 213) rfl)) rfl) rfl (bc_dec_ok kL_firstJoint z_L_firstJoint)
theorem v_300 : bc_vY 300 := bc_vT_ok (p1 := 95) (p2 := 1223) (p3 := 0) (by decide +kernel) (bc_mem_W (bc_tk5 (List.mem_of_getElem? (i := 169) rfl)) rfl) rfl (bc_dec_ok kL_greatestVow z_L_greatestVow)
theorem v_301 : bc_vY 301 := bc_vT_ok (p1 := 95) (p2 := 1059) (p3 := 0) (by decide +kernel) (bc_mem_W (bc_tk5 (List.mem_of_getElem? (i := 5) rfl)) rfl) rfl (bc_dec_ok kL_isAbandoned z_L_isAbandoned)
theorem v_302 : bc_vY 302 := bc_vT_ok (p1 := 95) (p2 := 1143) (p3 := 0) (by decide +kernel) (bc_mem_W (bc_tk5 (List.mem_of_getElem? (i := 89) rfl)) rfl) rfl (bc_dec_ok kL_isCritical z_L_isCritical)
theorem v_303 : bc_vY 303 := bc_vT_ok (p1 := 95) (p2 := 1150) (p3 := 0) (by decide +kernel) (bc_mem_W (bc_tk5 (List.mem_of_getElem? (i := 96) rfl)) rfl) rfl (bc_dec_ok kL_isCriticalByRemoval z_L_isCriticalByRemoval)
theorem v_304 : bc_vY 304 := bc_vT_ok (p1 := 95) (p2 := 889) (p3 := 0) (by decide +kernel) (bc_mem_W (bc_tk4 (List.mem_of_getElem? (i := 75) rfl)) rfl) rfl (bc_dec_ok kL_makeVow z_L_makeVow)
theorem v_305 : bc_vY 305 := bc_vT_ok (p1 := 95) (p2 := 1235) (p3 := 0) (by decide +kernel) (bc_mem_W (bc_tk5 (List.mem_of_getElem? (i := 181) rfl)) rfl) rfl (bc_dec_ok kL_meanBearing z_L_meanBearing)
theorem v_306 : bc_vY 306 := bc_vT_ok (p1 := 95) (p2 := 1171) (p3 := 0) (by decide +kernel) (bc_mem_W (bc_tk5 (List.mem_of_getElem? (i := 117) rfl)) rfl) rfl (bc_dec_ok kL_memberByBearing z_L_memberByBearing)
theorem v_307 : bc_vY 307 := bc_vT_ok (p1 := 95) (p2 := 1284) (p3 := 0) (by decide +kernel) (bc_mem_W (bc_tk5 (List.mem_of_getElem? (i := 230) rfl)) rfl) rfl (bc_dec_ok kL_outputAt z_L_outputAt)
theorem v_308 : bc_vY 308 := bc_vT_ok (p1 := 95) (p2 := 1005) (p3 := 0) (by decide +kernel) (bc_mem_W (bc_tk4 (List.mem_of_getElem? (i := 191) rfl)) rfl) rfl (bc_dec_ok kL_passDays z_L_passDays)
theorem v_309 : bc_vY 309 := bc_vT_ok (p1 := 95) (p2 := 851) (p3 := 0) (by decide +kernel) (bc_mem_W (bc_tk4 (List.mem_of_getElem? (i := 37) rfl)) rfl) rfl (bc_dec_ok kL_procession z_L_procession)
theorem v_310 : bc_vY 310 := bc_vT_ok (p1 := 95) (p2 := 990) (p3 := 0) (by decide +kernel) (bc_mem_W (bc_tk4 (List.mem_of_getElem? (i := 176) rfl)) rfl) rfl (bc_dec_ok kL_put z_L_put)
theorem v_311 : bc_vY 311 := bc_vT_ok (p1 := 95) (p2 := 1257) (p3 := 0) (by decide +kernel) (bc_mem_W (bc_tk5 (List.mem_of_getElem? (i := 203) rfl)) rfl) rfl (bc_dec_ok kL_renderMember z_L_renderMember)
theorem v_312 : bc_vY 312 := bc_vT_ok (p1 := 95) (p2 := 1277) (p3 := 0) (by decide +kernel) (bc_mem_W (bc_tk5 (List.mem_of_getElem? (i := 223) rfl)) rfl) rfl (bc_dec_ok kL_renderWay z_L_renderWay)
theorem v_313 : bc_vY 313 := bc_vT_ok (p1 := 95) (p2 := 922) (p3 := 0) (by decide +kernel) (bc_mem_W (bc_tk4 (List.mem_of_getElem? (i := 108) rfl)) rfl) rfl (bc_dec_ok kL_repair z_L_repair)
theorem v_314 : bc_vY 314 := bc_vT_ok (p1 := 95) (p2 := 1073) (p3 := 0) (by decide +kernel) (bc_mem_W (bc_tk5 (List.mem_of_getElem? (i := 19) rfl)) rfl) rfl (bc_dec_ok kL_repairCost z_L_repairCost)
theorem v_315 : bc_vY 315 := bc_vT_ok (p1 := 95) (p2 := 1460) (p3 := 0) (by decide +kernel) (bc_mem_W (bc_tk6 (List.mem_of_getElem? (i := 166) rfl)) rfl) rfl (bc_dec_ok kL_restore z_L_restore)
theorem v_316 : bc_vY 316 := bc_vT_ok (p1 := 95) (p2 := 965) (p3 := 0) (by decide +kernel) (bc_mem_W (bc_tk4 (List.mem_of_getElem? (i := 151) rfl)) rfl) rfl (bc_dec_ok kL_resume z_L_resume)
theorem v_317 : bc_vY 317 := bc_vT_ok (p1 := 95) (p2 := 1307) (p3 := 0) (by decide +kernel) (bc_mem_W (bc_tk6 (List.mem_of_getElem? (i := 13) rfl)) rfl) rfl (bc_dec_ok kL_runScript z_L_runScript)
theorem v_318 : bc_vY 318 := bc_vT_ok (p1 := 95) (p2 := 1038) (p3 := 0) (by decide +kernel) (bc_mem_W (bc_tk4 (List.mem_of_getElem? (i := 224) rfl)) rfl) rfl (bc_dec_ok kL_secondJoint z_L_secondJoint)
theorem v_319 : bc_vY 319 := bc_vT_ok (p1 := 95) (p2 := 908) (p3 := 0) (by decide +kernel) (bc_mem_W (bc_tk4 (List.mem_of_getElem? (i := 94) rfl)) rfl) rfl (bc_dec_ok kL_setForge z_L_setForge)
theorem v_320 : bc_vY 320 := bc_vT_ok (p1 := 95) (p2 := 972) (p3 := 0) (by decide +kernel) (bc_mem_W (bc_tk4 (List.mem_of_getElem? (i := 158) rfl)) rfl) rfl (bc_dec_ok kL_setNiche z_L_setNiche)
theorem v_321 : bc_vY 321 := bc_vT_ok (p1 := 95) (p2 := 1080) (p3 := 0) (by decide +kernel) (bc_mem_W (bc_tk5 (List.mem_of_getElem? (i := 26) rfl)) rfl) rfl (bc_dec_ok kL_strain z_L_strain)
theorem v_322 : bc_vY 322 := bc_vT_ok (p1 := 95) (p2 := 1096) (p3 := 0) (by decide +kernel) (bc_mem_W (bc_tk5 (List.mem_of_getElem? (i := 42) rfl)) rfl) rfl (bc_dec_ok kL_strainBits z_L_strainBits)
theorem v_323 : bc_vY 323 := bc_vT_ok (p1 := 95) (p2 := 1300) (p3 := 0) (by decide +kernel) (bc_mem_W (bc_tk6 (List.mem_of_getElem? (i := 6) rfl)) rfl) rfl (bc_dec_ok kL_type z_L_type)
theorem v_324 : bc_vY 324 := bc_vT_ok (p1 := 95) (p2 := 1449) (p3 := 0) (by decide +kernel) (bc_mem_W (bc_tk6 (List.mem_of_getElem? (i := 155) rfl)) rfl) rfl (bc_dec_ok kL_undo z_L_undo)
theorem v_325 : bc_vY 325 := bc_vT_ok (p1 := 95) (p2 := 1190) (p3 := 0) (by decide +kernel) (bc_mem_W (bc_tk5 (List.mem_of_getElem? (i := 136) rfl)) rfl) rfl (bc_dec_ok kL_vowAt z_L_vowAt)
theorem v_326 : bc_vY 326 := bc_vT_ok (p1 := 95) (p2 := 1136) (p3 := 0) (by decide +kernel) (bc_mem_W (bc_tk5 (List.mem_of_getElem? (i := 82) rfl)) rfl) rfl (bc_dec_ok kL_wayJoint z_L_wayJoint)
theorem v_327 : bc_vY 327 := bc_vT_ok (p1 := 95) (p2 := 1125) (p3 := 0) (by decide +kernel) (bc_mem_W (bc_tk5 (List.mem_of_getElem? (i := 71) rfl)) rfl) rfl (bc_dec_ok kL_wayLength z_L_wayLength)
theorem v_328 : bc_vY 328 := bc_vT_ok (p1 := 95) (p2 := 1052) (p3 := 0) (by decide +kernel) (bc_mem_W (bc_tk4 (List.mem_of_getElem? (i := 238) rfl)) rfl) rfl (bc_dec_ok kL_wear z_L_wear)
theorem v_329 : bc_vY 329 := bc_vT_ok (p1 := 95) (p2 := 1108) (p3 := 0) (by decide +kernel) (bc_mem_W (bc_tk5 (List.mem_of_getElem? (i := 54) rfl)) rfl) rfl (bc_dec_ok kL_widestLoad z_L_widestLoad)
theorem v_330 : bc_vY 330 := bc_vT_ok (p1 := 95) (p2 := 1118) (p3 := 0) (by decide +kernel) (bc_mem_W (bc_tk5 (List.mem_of_getElem? (i := 64) rfl)) rfl) rfl (bc_dec_ok kL_widestLoadByTrial z_L_widestLoadByTrial)
