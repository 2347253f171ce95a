/-! the law's loop on a script of four numbers at most -/
section BOD
variable {g : bc_C} {d L : Nat} {xs : Nat → Int32} {K : bc_KT} {σ : bc_M}
theorem lw_body (G : lw_G g (d + 20) L xs K) (hL : L ≤ 4) (hF : fa_ 0 σ v0_) (hR : rf_ σ) : K 28 [(0, bc_R 999), (1, bc_R 0), (2, bc_R 218), (3, bc_R 228), (4, bc_R 229), (5, bc_I 0)] [] σ 0 := by
  have E : ∀ (z : bc_LV) (σ' : bc_M) (n : Nat), K 3091 ([(0, bc_R 999), (1, bc_R 0), (2, bc_R 218), (3, bc_R 228), (4, bc_R 229), (5, bc_I 0)] ++ z) [] σ' n := by
    intro z σ' n
    refine G.1.2 _ _ [(0, bc_R 999), (1, bc_R 0), (2, bc_R 218), (3, bc_R 228), (4, bc_R 229), (5, bc_I 0)] _ _ _ (ls_ _ _) ?_
    refine G.1.1 [31] 60 _ _ _ _ _ ?_
    refine G.2.2 _ _ _ _ _ rfl ?_
    refine G.1.1 [] 60 _ _ _ _ _ ?_
    refine bc_ob_i ⟨by constructor <;> omega, by constructor <;> omega⟩ ?_
    refine bc_br_i (fun _ => ?_) (fun c => absurd (by omega) c)
    exact bc_ob_i (by decide) rfl
  refine G.1.1 [31] 60 _ _ _ _ _ ?_
  refine G.2.2 _ _ _ _ _ rfl ?_
  refine G.1.1 [40] 60 _ _ _ _ _ ?_
  refine bc_ob_i ⟨by constructor <;> omega, by constructor <;> omega⟩ ?_
  refine bc_br_i (fun _ => ?_) (fun c => ?_)
  · exact bc_ob_i (by decide) rfl
  have h4 : (0 : Int) + 3 < (L : Int) := by omega
  refine G.2.1 _ _ _ _ _ _ rfl (by omega) (by omega) ?_
  refine G.1.1 [288, 368, 448, 516, 572, 628, 684, 740, 798, 880, 936, 949, 1005, 1061, 1117, 1173, 1236, 1292, 1348, 1438, 1506, 1520, 1588, 1656, 1724, 1804, 1867, 1930, 1998, 2066, 2122, 2135, 2148, 2161, 2217, 2273, 2329, 2342, 2355, 2411, 2424, 2437, 2450, 2463, 2476, 2541, 2607, 2620, 2676, 2744, 2800, 2858, 2902, 2946, 2990, 3034, 3047, 3091] 60 _ _ _ _ _ ?_
  refine bc_ob_i (i32_in _) ?_
  refine bc_br_i (fun _ => k_addMember G (Int.le_refl 0) h4 hF hR E) (fun _ => ?_)
  refine bc_br_i (fun _ => k_procession G (Int.le_refl 0) h4 hF hR E) (fun _ => ?_)
  refine bc_br_i (fun _ => k_makeVow G (Int.le_refl 0) h4 hF hR E) (fun _ => ?_)
  refine bc_br_i (fun _ => k_setForge G (Int.le_refl 0) h4 hF hR E) (fun _ => ?_)
  refine bc_br_i (fun _ => k_repair G (Int.le_refl 0) h4 hF hR E) (fun _ => ?_)
  refine bc_br_i (fun _ => k_abandon G (Int.le_refl 0) h4 hF hR E) (fun _ => ?_)
  refine bc_br_i (fun _ => k_resume G (Int.le_refl 0) h4 hF hR E) (fun _ => ?_)
  refine bc_br_i (fun _ => k_setNiche G (Int.le_refl 0) h4 hF hR E) (fun _ => ?_)
  refine bc_br_i (fun _ => k_put G (Int.le_refl 0) h4 hF hR E) (fun _ => ?_)
  refine bc_br_i (fun _ => k_passDays G (Int.le_refl 0) h4 hF hR E) (fun _ => ?_)
  refine bc_br_i (fun _ => k_memberCount G (Int.le_refl 0) h4 hF hR E) (fun _ => ?_)
  refine bc_br_i (fun _ => k_firstJoint G (Int.le_refl 0) h4 hF hR E) (fun _ => ?_)
  refine bc_br_i (fun _ => k_secondJoint G (Int.le_refl 0) h4 hF hR E) (fun _ => ?_)
  refine bc_br_i (fun _ => k_crack G (Int.le_refl 0) h4 hF hR E) (fun _ => ?_)
  refine bc_br_i (fun _ => k_wear G (Int.le_refl 0) h4 hF hR E) (fun _ => ?_)
  refine bc_br_i (fun _ => k_isAbandoned G (Int.le_refl 0) h4 hF hR E) (fun _ => ?_)
  refine bc_br_i (fun _ => k_bearing G (Int.le_refl 0) h4 hF hR E) (fun _ => ?_)
  refine bc_br_i (fun _ => k_repairCost G (Int.le_refl 0) h4 hF hR E) (fun _ => ?_)
  refine bc_br_i (fun _ => k_strain G (Int.le_refl 0) h4 hF hR E) (fun _ => ?_)
  refine bc_br_i (fun _ => k_strainBits G (Int.le_refl 0) h4 hF hR E) (fun _ => ?_)
  refine bc_br_i (fun _ => k_links G (Int.le_refl 0) h4 hF hR E) (fun _ => ?_)
  refine bc_br_i (fun _ => k_widestLoad G (Int.le_refl 0) h4 hF hR E) (fun _ => ?_)
  refine bc_br_i (fun _ => k_widestLoadByTrial G (Int.le_refl 0) h4 hF hR E) (fun _ => ?_)
  refine bc_br_i (fun _ => k_wayLength G (Int.le_refl 0) h4 hF hR E) (fun _ => ?_)
  refine bc_br_i (fun _ => k_wayJoint G (Int.le_refl 0) h4 hF hR E) (fun _ => ?_)
  refine bc_br_i (fun _ => k_isCritical G (Int.le_refl 0) h4 hF hR E) (fun _ => ?_)
  refine bc_br_i (fun _ => k_isCriticalByRemoval G (Int.le_refl 0) h4 hF hR E) (fun _ => ?_)
  refine bc_br_i (fun _ => k_affordableLoad G (Int.le_refl 0) h4 hF hR E) (fun _ => ?_)
  refine bc_br_i (fun _ => k_affordableLoadByTable G (Int.le_refl 0) h4 hF hR E) (fun _ => ?_)
  refine bc_br_i (fun _ => k_memberByBearing G (Int.le_refl 0) h4 hF hR E) (fun _ => ?_)
  refine bc_br_i (fun _ => k_nicheKind G (Int.le_refl 0) h4 hF hR E) (fun _ => ?_)
  refine bc_br_i (fun _ => k_nicheWeight G (Int.le_refl 0) h4 hF hR E) (fun _ => ?_)
  refine bc_br_i (fun _ => k_vowCount G (Int.le_refl 0) h4 hF hR E) (fun _ => ?_)
  refine bc_br_i (fun _ => k_vowAt G (Int.le_refl 0) h4 hF hR E) (fun _ => ?_)
  refine bc_br_i (fun _ => k_dueDay G (Int.le_refl 0) h4 hF hR E) (fun _ => ?_)
  refine bc_br_i (fun _ => k_amount G (Int.le_refl 0) h4 hF hR E) (fun _ => ?_)
  refine bc_br_i (fun _ => k_canKeepAll G (Int.le_refl 0) h4 hF hR E) (fun _ => ?_)
  refine bc_br_i (fun _ => k_canKeepAllBySums G (Int.le_refl 0) h4 hF hR E) (fun _ => ?_)
  refine bc_br_i (fun _ => k_greatestVow G (Int.le_refl 0) h4 hF hR E) (fun _ => ?_)
  refine bc_br_i (fun _ => k_keptTotal G (Int.le_refl 0) h4 hF hR E) (fun _ => ?_)
  refine bc_br_i (fun _ => k_brokenTotal G (Int.le_refl 0) h4 hF hR E) (fun _ => ?_)
  refine bc_br_i (fun _ => k_steel G (Int.le_refl 0) h4 hF hR E) (fun _ => ?_)
  refine bc_br_i (fun _ => k_steelByAccounts G (Int.le_refl 0) h4 hF hR E) (fun _ => ?_)
  refine bc_br_i (fun _ => k_day G (Int.le_refl 0) h4 hF hR E) (fun _ => ?_)
  refine bc_br_i (fun _ => k_meanBearing G (Int.le_refl 0) h4 hF hR E) (fun _ => ?_)
  refine bc_br_i (fun _ => k_crackedShare G (Int.le_refl 0) h4 hF hR E) (fun _ => ?_)
  refine bc_br_i (fun _ => k_isConsistent G (Int.le_refl 0) h4 hF hR E) (fun _ => ?_)
  refine bc_br_i (fun _ => k_renderMember G (Int.le_refl 0) h4 hF hR E) (fun _ => ?_)
  refine bc_br_i (fun _ => k_renderWay G (Int.le_refl 0) h4 hF hR E) (fun _ => ?_)
  refine bc_br_i (fun _ => k_outputAt G (Int.le_refl 0) h4 hF hR E) (fun _ => ?_)
  refine bc_br_i (fun _ => k_type G (Int.le_refl 0) h4 hF hR E) (fun _ => ?_)
  refine bc_br_i (fun _ => k_runScript G (Int.le_refl 0) h4 hF hR E) (fun _ => ?_)
  refine bc_br_i (fun _ => k_errorPosition G (Int.le_refl 0) h4 hF hR E) (fun _ => ?_)
  refine bc_br_i (fun _ => k_failedCommand G (Int.le_refl 0) h4 hF hR E) (fun _ => ?_)
  refine bc_br_i (fun _ => k_undo G (Int.le_refl 0) h4 hF hR E) (fun _ => ?_)
  refine bc_br_i (fun _ => k_save G (Int.le_refl 0) h4 hF hR E) (fun _ => ?_)
  refine bc_br_i (fun _ => k_restore G (Int.le_refl 0) h4 hF hR E) (fun _ => ?_)
  exact E [] _ _
end BOD
