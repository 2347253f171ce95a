/-! the law's body on any state, and its loop -/
section BOD
variable {g : bc_C} {d L : Nat} {xs : Nat → Int32} {K : bc_KT} {σ : bc_M} {i B : Int} {v : cs_t}
theorem lw_body (G : lw_G g (d + 20) L xs K) (i0 : 0 ≤ i) (i9 : i ≤ 3000) (hL : L ≤ 2048) (hB : B ≤ 998000) (J : jnt_ B σ v) (E0 : i + 3 < (L : Int) → ∀ (σ' : bc_M) (n : Nat) (v' : cs_t), jnt_ (B + 480) σ' v' → K 28 [(0, bc_R 999), (1, bc_R 0), (2, bc_R 218), (3, bc_R 228), (4, bc_R 229), (5, bc_I (i + 4))] [] σ' n) : K 28 [(0, bc_R 999), (1, bc_R 0), (2, bc_R 218), (3, bc_R 228), (4, bc_R 229), (5, bc_I i)] [] σ 0 := by
  refine G.1.1 [31] 60 _ _ _ _ _ ?_
  refine G.2.2.1 _ _ _ _ _ rfl ?_
  refine G.1.1 [40] 60 _ _ _ _ _ ?_
  refine bc_ob_i ⟨by constructor <;> omega, by constructor <;> omega⟩ ?_
  refine bc_br_i (fun _ => ?_) (fun c => ?_)
  · exact bc_ob_i (by decide) rfl
  have h4 : i + 3 < (L : Int) := by omega
  have E : ∀ (z : bc_LV) (σ' : bc_M) (n : Nat) (v' : cs_t), jnt_ (B + 480) σ' v' → K 1831 ([(0, bc_R 999), (1, bc_R 0), (2, bc_R 218), (3, bc_R 228), (4, bc_R 229), (5, bc_I i)] ++ z) [] σ' n := by
    intro z σ' n v' J'
    refine G.1.2 _ _ [(0, bc_R 999), (1, bc_R 0), (2, bc_R 218), (3, bc_R 228), (4, bc_R 229), (5, bc_I i)] _ _ _ (ls_ _ _) ?_
    refine G.1.1 [28] 60 _ _ _ _ _ ?_
    exact E0 h4 σ' n v' J'
  refine G.2.1 _ _ _ _ _ _ rfl (by omega) (by omega) ?_
  refine G.1.1 [288, 368, 420, 460, 488, 516, 544, 572, 602, 656, 684, 697, 725, 753, 781, 809, 837, 865, 893, 934, 974, 987, 1027, 1067, 1107, 1159, 1187, 1215, 1255, 1295, 1323, 1336, 1349, 1362, 1390, 1418, 1446, 1459, 1472, 1500, 1513, 1526, 1539, 1552, 1565, 1582, 1599, 1612, 1640, 1680, 1708, 1738, 1754, 1770, 1786, 1802, 1815, 1831] 60 _ _ _ _ _ ?_
  refine bc_ob_i (i32_in _) ?_
  refine bc_br_i (fun _ => k_addMember G i0 h4 hB J E) (fun _ => ?_)
  refine bc_br_i (fun _ => k_procession G i0 h4 hB J E) (fun _ => ?_)
  refine bc_br_i (fun _ => k_makeVow G i0 h4 hB J E) (fun _ => ?_)
  refine bc_br_i (fun _ => k_setForge G i0 h4 hB J E) (fun _ => ?_)
  refine bc_br_i (fun _ => k_repair G i0 h4 hB J E) (fun _ => ?_)
  refine bc_br_i (fun _ => k_abandon G i0 h4 hB J E) (fun _ => ?_)
  refine bc_br_i (fun _ => k_resume G i0 h4 hB J E) (fun _ => ?_)
  refine bc_br_i (fun _ => k_setNiche G i0 h4 hB J E) (fun _ => ?_)
  refine bc_br_i (fun _ => k_put G i0 h4 hB J E) (fun _ => ?_)
  refine bc_br_i (fun _ => k_passDays G i0 h4 hB J E) (fun _ => ?_)
  refine bc_br_i (fun _ => k_memberCount G i0 h4 hB J E) (fun _ => ?_)
  refine bc_br_i (fun _ => k_firstJoint G i0 h4 hB J E) (fun _ => ?_)
  refine bc_br_i (fun _ => k_secondJoint G i0 h4 hB J E) (fun _ => ?_)
  refine bc_br_i (fun _ => k_crack G i0 h4 hB J E) (fun _ => ?_)
  refine bc_br_i (fun _ => k_wear G i0 h4 hB J E) (fun _ => ?_)
  refine bc_br_i (fun _ => k_isAbandoned G i0 h4 hB J E) (fun _ => ?_)
  refine bc_br_i (fun _ => k_bearing G i0 h4 hB J E) (fun _ => ?_)
  refine bc_br_i (fun _ => k_repairCost G i0 h4 hB J E) (fun _ => ?_)
  refine bc_br_i (fun _ => k_strain G i0 h4 hB J E) (fun _ => ?_)
  refine bc_br_i (fun _ => k_strainBits G i0 h4 hB J E) (fun _ => ?_)
  refine bc_br_i (fun _ => k_links G i0 h4 hB J E) (fun _ => ?_)
  refine bc_br_i (fun _ => k_widestLoad G i0 h4 hB J E) (fun _ => ?_)
  refine bc_br_i (fun _ => k_widestLoadByTrial G i0 h4 hB J E) (fun _ => ?_)
  refine bc_br_i (fun _ => k_wayLength G i0 h4 hB J E) (fun _ => ?_)
  refine bc_br_i (fun _ => k_wayJoint G i0 h4 hB J E) (fun _ => ?_)
  refine bc_br_i (fun _ => k_isCritical G i0 h4 hB J E) (fun _ => ?_)
  refine bc_br_i (fun _ => k_isCriticalByRemoval G i0 h4 hB J E) (fun _ => ?_)
  refine bc_br_i (fun _ => k_affordableLoad G i0 h4 hB J E) (fun _ => ?_)
  refine bc_br_i (fun _ => k_affordableLoadByTable G i0 h4 hB J E) (fun _ => ?_)
  refine bc_br_i (fun _ => k_memberByBearing G i0 h4 hB J E) (fun _ => ?_)
  refine bc_br_i (fun _ => k_nicheKind G i0 h4 hB J E) (fun _ => ?_)
  refine bc_br_i (fun _ => k_nicheWeight G i0 h4 hB J E) (fun _ => ?_)
  refine bc_br_i (fun _ => k_vowCount G i0 h4 hB J E) (fun _ => ?_)
  refine bc_br_i (fun _ => k_vowAt G i0 h4 hB J E) (fun _ => ?_)
  refine bc_br_i (fun _ => k_dueDay G i0 h4 hB J E) (fun _ => ?_)
  refine bc_br_i (fun _ => k_amount G i0 h4 hB J E) (fun _ => ?_)
  refine bc_br_i (fun _ => k_canKeepAll G i0 h4 hB J E) (fun _ => ?_)
  refine bc_br_i (fun _ => k_canKeepAllBySums G i0 h4 hB J E) (fun _ => ?_)
  refine bc_br_i (fun _ => k_greatestVow G i0 h4 hB J E) (fun _ => ?_)
  refine bc_br_i (fun _ => k_keptTotal G i0 h4 hB J E) (fun _ => ?_)
  refine bc_br_i (fun _ => k_brokenTotal G i0 h4 hB J E) (fun _ => ?_)
  refine bc_br_i (fun _ => k_steel G i0 h4 hB J E) (fun _ => ?_)
  refine bc_br_i (fun _ => k_steelByAccounts G i0 h4 hB J E) (fun _ => ?_)
  refine bc_br_i (fun _ => k_day G i0 h4 hB J E) (fun _ => ?_)
  refine bc_br_i (fun _ => k_meanBearing G i0 h4 hB J E) (fun _ => ?_)
  refine bc_br_i (fun _ => k_crackedShare G i0 h4 hB J E) (fun _ => ?_)
  refine bc_br_i (fun _ => k_isConsistent G i0 h4 hB J E) (fun _ => ?_)
  refine bc_br_i (fun _ => k_renderMember G i0 h4 hB J E) (fun _ => ?_)
  refine bc_br_i (fun _ => k_renderWay G i0 h4 hB J E) (fun _ => ?_)
  refine bc_br_i (fun _ => k_outputAt G i0 h4 hB J E) (fun _ => ?_)
  refine bc_br_i (fun _ => k_type G i0 h4 hB J E) (fun _ => ?_)
  refine bc_br_i (fun _ => k_runScript G i0 h4 hB J E) (fun _ => ?_)
  refine bc_br_i (fun _ => k_errorPosition G i0 h4 hB J E) (fun _ => ?_)
  refine bc_br_i (fun _ => k_failedCommand G i0 h4 hB J E) (fun _ => ?_)
  refine bc_br_i (fun _ => k_undo G i0 h4 hB J E) (fun _ => ?_)
  refine bc_br_i (fun _ => k_save G i0 h4 hB J E) (fun _ => ?_)
  refine bc_br_i (fun _ => k_restore G i0 h4 hB J E) (fun _ => ?_)
  exact E [] _ _ v (jo_mono J (by omega))
end BOD
section LOOP
variable {p : Program} {e : Env} {s : State} {m : MethodId} {below : List Frame} {meth : Method} {c : Code} {g : bc_C} {b L : Nat} {xs : Nat → Int32}
theorem lw_loop {c9 s9 : Nat} (F : bc_Fx g mL_law 20 p room_1 s m #[Value.ref b] meth c c9 s9) (hz : bc_z g = s.heap.size) (had : bc_ad g 999 = b) (hX : va_X b L xs s s.heap) (hbl : b < s.heap.size) (hL : L ≤ 2048) : ∀ (k j c0 s0 : Nat) (σ : bc_M) (v : cs_t), j + k = 513 → c0 ≤ 230 + 50 * j → s0 ≤ 3939 + 300 * j → jnt_ (480 * (j : Int)) σ v → bc_T g mL_law p e room_1 s m #[Value.ref b] below meth c (lw_Z below #[Value.ref b] s) c0 s0 28 [(0, bc_R 999), (1, bc_R 0), (2, bc_R 218), (3, bc_R 228), (4, bc_R 229), (5, bc_I (4 * (j : Int)))] [] σ 0 := by
  have Fx : ∀ c0 s0 : Nat, c0 + 50 ≤ 603072 → s0 + 300 ≤ 7178346 → bc_Fx g mL_law 20 p room_1 s m #[Value.ref b] meth c c0 s0 := by
    intro c0 s0 hc hs
    obtain ⟨hx, hb, hml, hts, hown, hlocks, hap, htr, hE, hz0, hok, q1, q2, -, -, hret⟩ := F
    exact ⟨hx, hb, hml, hts, hown, hlocks, hap, htr, hE, hz0, hok, q1, q2, hc, hs, hret⟩
  intro k
  induction k with
  | zero =>
    intro j c0 s0 σ v hj hc hs J
    have G := lw_good (e := e) (below := below) (Fx c0 s0 (by omega) (by omega)) hz ⟨by omega, by omega⟩ had hX hbl (by omega)
    refine lw_body (d := 0) G (by omega) (by omega) hL (by omega) J (fun h4 => ?_)
    omega
  | succ k ih =>
    intro j c0 s0 σ v hj hc hs J
    have G := lw_good (e := e) (below := below) (Fx c0 s0 (by omega) (by omega)) hz ⟨by omega, by omega⟩ had hX hbl (by omega)
    refine lw_body (d := 0) G (by omega) (by omega) hL (by omega) J (fun h4 σ' n v' J' => ?_)
    intro H locs ls hn hH hS hl
    have hn : n ≤ 50 := hn
    have J2 : jnt_ (480 * ((j + 1 : Nat) : Int)) σ' v' := by
      rw [show 480 * ((j + 1 : Nat) : Int) = 480 * (j : Int) + 480 by omega]
      exact J'
    have q := ih (j + 1) (c0 + n) (s0 + 6 * n) σ' v' (by omega) (by omega) (by omega) J2
    rw [show 4 * ((j + 1 : Nat) : Int) = 4 * (j : Int) + 4 by omega] at q
    exact q H locs ls (Nat.zero_le _) hH hS hl
end LOOP
