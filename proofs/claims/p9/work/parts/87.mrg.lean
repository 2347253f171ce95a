section
/-! the law's cases over any state -/
section CAS
variable {g : bc_C} {d L : Nat} {xs : Nat → Int32} {K : bc_KT} {σ : bc_M} {i B : Int} {v : cs_t}
theorem k_addMember (G : lw_G g (d + 20) L xs K) (i0 : 0 ≤ i) (i1 : i + 3 < (L : Int)) (hB : B ≤ 998000) (J : jnt_ B σ v) (E : ∀ (z : bc_LV) (σ' : bc_M) (n : Nat) (v' : cs_t), jnt_ (B + 480) σ' v' → K 1831 ([(0, bc_R 999), (1, bc_R 0), (2, bc_R 218), (3, bc_R 228), (4, bc_R 229), (5, bc_I i)] ++ z) [] σ' n) : K 288 [(0, bc_R 999), (1, bc_R 0), (2, bc_R 218), (3, bc_R 228), (4, bc_R 229), (5, bc_I i)] [] σ 0 := by
  refine G.1.1 [294] 60 _ _ _ _ _ ?_
  refine G.2.1 _ _ _ _ _ _ rfl (by omega) (by omega) ?_
  refine G.1.1 [300] 60 _ _ _ _ _ ?_
  refine G.2.1 _ _ _ _ _ _ rfl (by omega) (by omega) ?_
  refine G.1.1 [306] 60 _ _ _ _ _ ?_
  refine G.2.1 _ _ _ _ _ _ rfl (by omega) (by omega) ?_
  refine G.1.1 [319] 80 _ _ _ _ _ ?_
  refine w_addMember J (by omega) (i32_in _) (i32_in _) (i32_in _) (fun σ1 t x v1 F1 y lt H hout => ?_)
  refine G.2.1 _ _ _ _ _ _ rfl (by omega) (by omega) ?_
  refine G.1.1 [325] 80 _ _ _ _ _ ?_
  refine G.2.1 _ _ _ _ _ _ rfl (by omega) (by omega) ?_
  refine G.1.1 [331] 80 _ _ _ _ _ ?_
  refine G.2.1 _ _ _ _ _ _ rfl (by omega) (by omega) ?_
  refine G.1.1 [1831] 80 _ _ _ _ _ ?_
  refine z_addMember J (by omega) F1 y (i32_in _) (i32_in _) (i32_in _) H (fun σ2 u J2 h14 hux h2 => ?_)
  exact E [(6, bc_I t), (7, bc_I u)] _ _ _ (jo_mono J2 (by omega))
theorem k_procession (G : lw_G g (d + 20) L xs K) (i0 : 0 ≤ i) (i1 : i + 3 < (L : Int)) (hB : B ≤ 998000) (J : jnt_ B σ v) (E : ∀ (z : bc_LV) (σ' : bc_M) (n : Nat) (v' : cs_t), jnt_ (B + 480) σ' v' → K 1831 ([(0, bc_R 999), (1, bc_R 0), (2, bc_R 218), (3, bc_R 228), (4, bc_R 229), (5, bc_I i)] ++ z) [] σ' n) : K 340 [(0, bc_R 999), (1, bc_R 0), (2, bc_R 218), (3, bc_R 228), (4, bc_R 229), (5, bc_I i)] [] σ 0 := by
  refine G.1.1 [346] 60 _ _ _ _ _ ?_
  refine G.2.1 _ _ _ _ _ _ rfl (by omega) (by omega) ?_
  refine G.1.1 [352] 60 _ _ _ _ _ ?_
  refine G.2.1 _ _ _ _ _ _ rfl (by omega) (by omega) ?_
  refine G.1.1 [358] 60 _ _ _ _ _ ?_
  refine G.2.1 _ _ _ _ _ _ rfl (by omega) (by omega) ?_
  refine G.1.1 [371] 80 _ _ _ _ _ ?_
  refine w_procession J (by omega) (i32_in _) (i32_in _) (i32_in _) (fun σ1 t x v1 F1 y lt H hout => ?_)
  refine G.2.1 _ _ _ _ _ _ rfl (by omega) (by omega) ?_
  refine G.1.1 [377] 80 _ _ _ _ _ ?_
  refine G.2.1 _ _ _ _ _ _ rfl (by omega) (by omega) ?_
  refine G.1.1 [383] 80 _ _ _ _ _ ?_
  refine G.2.1 _ _ _ _ _ _ rfl (by omega) (by omega) ?_
  refine G.1.1 [1831] 80 _ _ _ _ _ ?_
  refine z_procession J (by omega) F1 y (i32_in _) (i32_in _) (i32_in _) H (fun σ2 u J2 h14 hux h2 => ?_)
  exact E [(6, bc_I t), (7, bc_I u)] _ _ _ (jo_mono J2 (by omega))
theorem k_makeVow (G : lw_G g (d + 20) L xs K) (i0 : 0 ≤ i) (i1 : i + 3 < (L : Int)) (hB : B ≤ 998000) (J : jnt_ B σ v) (E : ∀ (z : bc_LV) (σ' : bc_M) (n : Nat) (v' : cs_t), jnt_ (B + 480) σ' v' → K 1831 ([(0, bc_R 999), (1, bc_R 0), (2, bc_R 218), (3, bc_R 228), (4, bc_R 229), (5, bc_I i)] ++ z) [] σ' n) : K 392 [(0, bc_R 999), (1, bc_R 0), (2, bc_R 218), (3, bc_R 228), (4, bc_R 229), (5, bc_I i)] [] σ 0 := by
  refine G.1.1 [398] 60 _ _ _ _ _ ?_
  refine G.2.1 _ _ _ _ _ _ rfl (by omega) (by omega) ?_
  refine G.1.1 [404] 60 _ _ _ _ _ ?_
  refine G.2.1 _ _ _ _ _ _ rfl (by omega) (by omega) ?_
  refine G.1.1 [417] 80 _ _ _ _ _ ?_
  refine w_makeVow J (by omega) (i32_in _) (i32_in _) (fun σ1 t x v1 F1 y lt H hout => ?_)
  refine G.2.1 _ _ _ _ _ _ rfl (by omega) (by omega) ?_
  refine G.1.1 [423] 80 _ _ _ _ _ ?_
  refine G.2.1 _ _ _ _ _ _ rfl (by omega) (by omega) ?_
  refine G.1.1 [1831] 80 _ _ _ _ _ ?_
  refine z_makeVow J (by omega) F1 y (i32_in _) (i32_in _) H (fun σ2 u J2 h14 hux h2 => ?_)
  exact E [(6, bc_I t), (7, bc_I u)] _ _ _ (jo_mono J2 (by omega))
theorem k_setForge (G : lw_G g (d + 20) L xs K) (i0 : 0 ≤ i) (i1 : i + 3 < (L : Int)) (hB : B ≤ 998000) (J : jnt_ B σ v) (E : ∀ (z : bc_LV) (σ' : bc_M) (n : Nat) (v' : cs_t), jnt_ (B + 480) σ' v' → K 1831 ([(0, bc_R 999), (1, bc_R 0), (2, bc_R 218), (3, bc_R 228), (4, bc_R 229), (5, bc_I i)] ++ z) [] σ' n) : K 432 [(0, bc_R 999), (1, bc_R 0), (2, bc_R 218), (3, bc_R 228), (4, bc_R 229), (5, bc_I i)] [] σ 0 := by
  refine G.1.1 [438] 60 _ _ _ _ _ ?_
  refine G.2.1 _ _ _ _ _ _ rfl (by omega) (by omega) ?_
  refine G.1.1 [451] 80 _ _ _ _ _ ?_
  refine w_setForge J (by omega) (i32_in _) (fun σ1 t x v1 F1 y lt H hout => ?_)
  refine G.2.1 _ _ _ _ _ _ rfl (by omega) (by omega) ?_
  refine G.1.1 [1831] 80 _ _ _ _ _ ?_
  refine z_setForge J (by omega) F1 y (i32_in _) H (fun σ2 u J2 h14 hux h2 => ?_)
  exact E [(6, bc_I t), (7, bc_I u)] _ _ _ (jo_mono J2 (by omega))
theorem k_repair (G : lw_G g (d + 20) L xs K) (i0 : 0 ≤ i) (i1 : i + 3 < (L : Int)) (hB : B ≤ 998000) (J : jnt_ B σ v) (E : ∀ (z : bc_LV) (σ' : bc_M) (n : Nat) (v' : cs_t), jnt_ (B + 480) σ' v' → K 1831 ([(0, bc_R 999), (1, bc_R 0), (2, bc_R 218), (3, bc_R 228), (4, bc_R 229), (5, bc_I i)] ++ z) [] σ' n) : K 460 [(0, bc_R 999), (1, bc_R 0), (2, bc_R 218), (3, bc_R 228), (4, bc_R 229), (5, bc_I i)] [] σ 0 := by
  refine G.1.1 [466] 60 _ _ _ _ _ ?_
  refine G.2.1 _ _ _ _ _ _ rfl (by omega) (by omega) ?_
  refine G.1.1 [479] 80 _ _ _ _ _ ?_
  refine w_repair J (by omega) (i32_in _) (fun σ1 t x v1 F1 y lt H hout => ?_)
  refine G.2.1 _ _ _ _ _ _ rfl (by omega) (by omega) ?_
  refine G.1.1 [1831] 80 _ _ _ _ _ ?_
  refine z_repair J (by omega) F1 y (i32_in _) H (fun σ2 u J2 h14 hux h2 => ?_)
  exact E [(6, bc_I t), (7, bc_I u)] _ _ _ (jo_mono J2 (by omega))
theorem k_abandon (G : lw_G g (d + 20) L xs K) (i0 : 0 ≤ i) (i1 : i + 3 < (L : Int)) (hB : B ≤ 998000) (J : jnt_ B σ v) (E : ∀ (z : bc_LV) (σ' : bc_M) (n : Nat) (v' : cs_t), jnt_ (B + 480) σ' v' → K 1831 ([(0, bc_R 999), (1, bc_R 0), (2, bc_R 218), (3, bc_R 228), (4, bc_R 229), (5, bc_I i)] ++ z) [] σ' n) : K 488 [(0, bc_R 999), (1, bc_R 0), (2, bc_R 218), (3, bc_R 228), (4, bc_R 229), (5, bc_I i)] [] σ 0 := by
  refine G.1.1 [494] 60 _ _ _ _ _ ?_
  refine G.2.1 _ _ _ _ _ _ rfl (by omega) (by omega) ?_
  refine G.1.1 [507] 80 _ _ _ _ _ ?_
  refine w_abandon J (by omega) (i32_in _) (fun σ1 t x v1 F1 y lt H hout => ?_)
  refine G.2.1 _ _ _ _ _ _ rfl (by omega) (by omega) ?_
  refine G.1.1 [1831] 80 _ _ _ _ _ ?_
  refine z_abandon J (by omega) F1 y (i32_in _) H (fun σ2 u J2 h14 hux h2 => ?_)
  exact E [(6, bc_I t), (7, bc_I u)] _ _ _ (jo_mono J2 (by omega))
theorem k_resume (G : lw_G g (d + 20) L xs K) (i0 : 0 ≤ i) (i1 : i + 3 < (L : Int)) (hB : B ≤ 998000) (J : jnt_ B σ v) (E : ∀ (z : bc_LV) (σ' : bc_M) (n : Nat) (v' : cs_t), jnt_ (B + 480) σ' v' → K 1831 ([(0, bc_R 999), (1, bc_R 0), (2, bc_R 218), (3, bc_R 228), (4, bc_R 229), (5, bc_I i)] ++ z) [] σ' n) : K 516 [(0, bc_R 999), (1, bc_R 0), (2, bc_R 218), (3, bc_R 228), (4, bc_R 229), (5, bc_I i)] [] σ 0 := by
  refine G.1.1 [522] 60 _ _ _ _ _ ?_
  refine G.2.1 _ _ _ _ _ _ rfl (by omega) (by omega) ?_
  refine G.1.1 [535] 80 _ _ _ _ _ ?_
  refine w_resume J (by omega) (i32_in _) (fun σ1 t x v1 F1 y lt H hout => ?_)
  refine G.2.1 _ _ _ _ _ _ rfl (by omega) (by omega) ?_
  refine G.1.1 [1831] 80 _ _ _ _ _ ?_
  refine z_resume J (by omega) F1 y (i32_in _) H (fun σ2 u J2 h14 hux h2 => ?_)
  exact E [(6, bc_I t), (7, bc_I u)] _ _ _ (jo_mono J2 (by omega))
theorem k_setNiche (G : lw_G g (d + 20) L xs K) (i0 : 0 ≤ i) (i1 : i + 3 < (L : Int)) (hB : B ≤ 998000) (J : jnt_ B σ v) (E : ∀ (z : bc_LV) (σ' : bc_M) (n : Nat) (v' : cs_t), jnt_ (B + 480) σ' v' → K 1831 ([(0, bc_R 999), (1, bc_R 0), (2, bc_R 218), (3, bc_R 228), (4, bc_R 229), (5, bc_I i)] ++ z) [] σ' n) : K 544 [(0, bc_R 999), (1, bc_R 0), (2, bc_R 218), (3, bc_R 228), (4, bc_R 229), (5, bc_I i)] [] σ 0 := by
  refine G.1.1 [550] 60 _ _ _ _ _ ?_
  refine G.2.1 _ _ _ _ _ _ rfl (by omega) (by omega) ?_
  refine G.1.1 [564] 80 _ _ _ _ _ ?_
  refine w_setNiche J (by omega) (by omega) (fun σ1 t x v1 F1 y lt H hout => ?_)
  refine G.2.1 _ _ _ _ _ _ rfl (by omega) (by omega) ?_
  refine G.1.1 [1831] 80 _ _ _ _ _ ?_
  refine z_setNiche J (by omega) F1 y (by omega) H (fun σ2 u J2 h14 hux h2 => ?_)
  have ee : t = t := rfl
  refine t_X11_thrown h14 ?_
  refine bc_ob_i ⟨by constructor <;> omega, by constructor <;> omega⟩ ?_
  refine bc_br_i (fun _ => ?_) (fun c => absurd ee c)
  refine bc_ob_i (by constructor <;> omega) ?_
  refine bc_br_i (fun c0 => ?_) (fun _ => E [(6, bc_I t), (7, bc_I u)] _ _ _ (jo_mono J2 (by omega)))
  refine bc_ob_i rfl ?_
  have e : σ2.2.1 = (Int32.ofInt u).toInt64 := by rw [h2, hux c0]; exact hout c0
  refine bc_ob_i (by rw [e, lg0]; decide) ?_
  exact bc_br_i (fun _ => E [(6, bc_I t), (7, bc_I u)] _ _ _ (jo_mono J2 (by omega))) (fun c => absurd (by rw [e, lg0]; rfl) c)
theorem k_put (G : lw_G g (d + 20) L xs K) (i0 : 0 ≤ i) (i1 : i + 3 < (L : Int)) (hB : B ≤ 998000) (J : jnt_ B σ v) (E : ∀ (z : bc_LV) (σ' : bc_M) (n : Nat) (v' : cs_t), jnt_ (B + 480) σ' v' → K 1831 ([(0, bc_R 999), (1, bc_R 0), (2, bc_R 218), (3, bc_R 228), (4, bc_R 229), (5, bc_I i)] ++ z) [] σ' n) : K 602 [(0, bc_R 999), (1, bc_R 0), (2, bc_R 218), (3, bc_R 228), (4, bc_R 229), (5, bc_I i)] [] σ 0 := by
  refine G.1.1 [608] 60 _ _ _ _ _ ?_
  refine G.2.1 _ _ _ _ _ _ rfl (by omega) (by omega) ?_
  refine G.1.1 [614] 60 _ _ _ _ _ ?_
  refine G.2.1 _ _ _ _ _ _ rfl (by omega) (by omega) ?_
  refine G.1.1 [621] 60 _ _ _ _ _ ?_
  refine G.2.1 _ _ _ _ _ _ rfl (by omega) (by omega) ?_
  refine G.1.1 [634] 80 _ _ _ _ _ ?_
  refine w_put J (by omega) (i32_in _) (by omega) (i32_in _) (fun σ1 t x v1 F1 y lt H hout => ?_)
  refine G.2.1 _ _ _ _ _ _ rfl (by omega) (by omega) ?_
  refine G.1.1 [640] 80 _ _ _ _ _ ?_
  refine G.2.1 _ _ _ _ _ _ rfl (by omega) (by omega) ?_
  refine G.1.1 [647] 80 _ _ _ _ _ ?_
  refine G.2.1 _ _ _ _ _ _ rfl (by omega) (by omega) ?_
  refine G.1.1 [1831] 80 _ _ _ _ _ ?_
  refine z_put J (by omega) F1 y (i32_in _) (by omega) (i32_in _) H (fun σ2 u J2 h14 hux h2 => ?_)
  exact E [(6, bc_I t), (7, bc_I u)] _ _ _ (jo_mono J2 (by omega))
theorem k_passDays (G : lw_G g (d + 20) L xs K) (i0 : 0 ≤ i) (i1 : i + 3 < (L : Int)) (hB : B ≤ 998000) (J : jnt_ B σ v) (E : ∀ (z : bc_LV) (σ' : bc_M) (n : Nat) (v' : cs_t), jnt_ (B + 480) σ' v' → K 1831 ([(0, bc_R 999), (1, bc_R 0), (2, bc_R 218), (3, bc_R 228), (4, bc_R 229), (5, bc_I i)] ++ z) [] σ' n) : K 656 [(0, bc_R 999), (1, bc_R 0), (2, bc_R 218), (3, bc_R 228), (4, bc_R 229), (5, bc_I i)] [] σ 0 := by
  refine G.1.1 [662] 60 _ _ _ _ _ ?_
  refine G.2.1 _ _ _ _ _ _ rfl (by omega) (by omega) ?_
  refine G.1.1 [675] 80 _ _ _ _ _ ?_
  refine w_passDays J (by omega) (i32_in _) (fun σ1 t x v1 F1 y lt H hout => ?_)
  refine G.2.1 _ _ _ _ _ _ rfl (by omega) (by omega) ?_
  refine G.1.1 [1831] 80 _ _ _ _ _ ?_
  refine z_passDays J (by omega) F1 y (i32_in _) H (fun σ2 u J2 h14 hux h2 => ?_)
  exact E [(6, bc_I t), (7, bc_I u)] _ _ _ (jo_mono J2 (by omega))
theorem k_memberCount (G : lw_G g (d + 20) L xs K) (i0 : 0 ≤ i) (i1 : i + 3 < (L : Int)) (hB : B ≤ 998000) (J : jnt_ B σ v) (E : ∀ (z : bc_LV) (σ' : bc_M) (n : Nat) (v' : cs_t), jnt_ (B + 480) σ' v' → K 1831 ([(0, bc_R 999), (1, bc_R 0), (2, bc_R 218), (3, bc_R 228), (4, bc_R 229), (5, bc_I i)] ++ z) [] σ' n) : K 684 [(0, bc_R 999), (1, bc_R 0), (2, bc_R 218), (3, bc_R 228), (4, bc_R 229), (5, bc_I i)] [] σ 0 := by
  refine G.1.1 [1831] 60 _ _ _ _ _ ?_
  refine t_X10_memberCount J.1 ?_
  refine z_memberCount J (by omega) (fun σ2 t2 u J2 h14 lt hrelz h2 => ?_)
  exact E [] _ _ _ (jo_mono J2 (by omega))
theorem k_firstJoint (G : lw_G g (d + 20) L xs K) (i0 : 0 ≤ i) (i1 : i + 3 < (L : Int)) (hB : B ≤ 998000) (J : jnt_ B σ v) (E : ∀ (z : bc_LV) (σ' : bc_M) (n : Nat) (v' : cs_t), jnt_ (B + 480) σ' v' → K 1831 ([(0, bc_R 999), (1, bc_R 0), (2, bc_R 218), (3, bc_R 228), (4, bc_R 229), (5, bc_I i)] ++ z) [] σ' n) : K 697 [(0, bc_R 999), (1, bc_R 0), (2, bc_R 218), (3, bc_R 228), (4, bc_R 229), (5, bc_I i)] [] σ 0 := by
  refine G.1.1 [703] 60 _ _ _ _ _ ?_
  refine G.2.1 _ _ _ _ _ _ rfl (by omega) (by omega) ?_
  refine G.1.1 [716] 80 _ _ _ _ _ ?_
  refine w_firstJoint J (by omega) (i32_in _) (fun σ1 t x v1 J1 hr hrel hout => ?_)
  refine G.2.1 _ _ _ _ _ _ rfl (by omega) (by omega) ?_
  refine G.1.1 [1831] 80 _ _ _ _ _ ?_
  refine z_firstJoint J1 (by omega) (i32_in _) (fun σ2 t2 u J2 h14 lt hrelz h2 => ?_)
  exact E [(6, bc_I t), (7, bc_I u)] _ _ _ (jo_mono J2 (by omega))
theorem k_secondJoint (G : lw_G g (d + 20) L xs K) (i0 : 0 ≤ i) (i1 : i + 3 < (L : Int)) (hB : B ≤ 998000) (J : jnt_ B σ v) (E : ∀ (z : bc_LV) (σ' : bc_M) (n : Nat) (v' : cs_t), jnt_ (B + 480) σ' v' → K 1831 ([(0, bc_R 999), (1, bc_R 0), (2, bc_R 218), (3, bc_R 228), (4, bc_R 229), (5, bc_I i)] ++ z) [] σ' n) : K 725 [(0, bc_R 999), (1, bc_R 0), (2, bc_R 218), (3, bc_R 228), (4, bc_R 229), (5, bc_I i)] [] σ 0 := by
  refine G.1.1 [731] 60 _ _ _ _ _ ?_
  refine G.2.1 _ _ _ _ _ _ rfl (by omega) (by omega) ?_
  refine G.1.1 [744] 80 _ _ _ _ _ ?_
  refine w_secondJoint J (by omega) (i32_in _) (fun σ1 t x v1 J1 hr hrel hout => ?_)
  refine G.2.1 _ _ _ _ _ _ rfl (by omega) (by omega) ?_
  refine G.1.1 [1831] 80 _ _ _ _ _ ?_
  refine z_secondJoint J1 (by omega) (i32_in _) (fun σ2 t2 u J2 h14 lt hrelz h2 => ?_)
  exact E [(6, bc_I t), (7, bc_I u)] _ _ _ (jo_mono J2 (by omega))
theorem k_crack (G : lw_G g (d + 20) L xs K) (i0 : 0 ≤ i) (i1 : i + 3 < (L : Int)) (hB : B ≤ 998000) (J : jnt_ B σ v) (E : ∀ (z : bc_LV) (σ' : bc_M) (n : Nat) (v' : cs_t), jnt_ (B + 480) σ' v' → K 1831 ([(0, bc_R 999), (1, bc_R 0), (2, bc_R 218), (3, bc_R 228), (4, bc_R 229), (5, bc_I i)] ++ z) [] σ' n) : K 753 [(0, bc_R 999), (1, bc_R 0), (2, bc_R 218), (3, bc_R 228), (4, bc_R 229), (5, bc_I i)] [] σ 0 := by
  refine G.1.1 [759] 60 _ _ _ _ _ ?_
  refine G.2.1 _ _ _ _ _ _ rfl (by omega) (by omega) ?_
  refine G.1.1 [772] 80 _ _ _ _ _ ?_
  refine w_crack J (by omega) (i32_in _) (fun σ1 t x v1 J1 hr hrel hout => ?_)
  refine G.2.1 _ _ _ _ _ _ rfl (by omega) (by omega) ?_
  refine G.1.1 [1831] 80 _ _ _ _ _ ?_
  refine z_crack J1 (by omega) (i32_in _) (fun σ2 t2 u J2 h14 lt hrelz h2 => ?_)
  exact E [(6, bc_I t), (7, bc_I u)] _ _ _ (jo_mono J2 (by omega))
theorem k_wear (G : lw_G g (d + 20) L xs K) (i0 : 0 ≤ i) (i1 : i + 3 < (L : Int)) (hB : B ≤ 998000) (J : jnt_ B σ v) (E : ∀ (z : bc_LV) (σ' : bc_M) (n : Nat) (v' : cs_t), jnt_ (B + 480) σ' v' → K 1831 ([(0, bc_R 999), (1, bc_R 0), (2, bc_R 218), (3, bc_R 228), (4, bc_R 229), (5, bc_I i)] ++ z) [] σ' n) : K 781 [(0, bc_R 999), (1, bc_R 0), (2, bc_R 218), (3, bc_R 228), (4, bc_R 229), (5, bc_I i)] [] σ 0 := by
  refine G.1.1 [787] 60 _ _ _ _ _ ?_
  refine G.2.1 _ _ _ _ _ _ rfl (by omega) (by omega) ?_
  refine G.1.1 [800] 80 _ _ _ _ _ ?_
  refine w_wear J (by omega) (i32_in _) (fun σ1 t x v1 J1 hr hrel hout => ?_)
  refine G.2.1 _ _ _ _ _ _ rfl (by omega) (by omega) ?_
  refine G.1.1 [1831] 80 _ _ _ _ _ ?_
  refine z_wear J1 (by omega) (i32_in _) (fun σ2 t2 u J2 h14 lt hrelz h2 => ?_)
  exact E [(6, bc_I t), (7, bc_I u)] _ _ _ (jo_mono J2 (by omega))
theorem k_isAbandoned (G : lw_G g (d + 20) L xs K) (i0 : 0 ≤ i) (i1 : i + 3 < (L : Int)) (hB : B ≤ 998000) (J : jnt_ B σ v) (E : ∀ (z : bc_LV) (σ' : bc_M) (n : Nat) (v' : cs_t), jnt_ (B + 480) σ' v' → K 1831 ([(0, bc_R 999), (1, bc_R 0), (2, bc_R 218), (3, bc_R 228), (4, bc_R 229), (5, bc_I i)] ++ z) [] σ' n) : K 809 [(0, bc_R 999), (1, bc_R 0), (2, bc_R 218), (3, bc_R 228), (4, bc_R 229), (5, bc_I i)] [] σ 0 := by
  refine G.1.1 [815] 60 _ _ _ _ _ ?_
  refine G.2.1 _ _ _ _ _ _ rfl (by omega) (by omega) ?_
  refine G.1.1 [828] 80 _ _ _ _ _ ?_
  refine w_isAbandoned J (by omega) (i32_in _) (fun σ1 t x v1 J1 hr hrel hout => ?_)
  refine G.2.1 _ _ _ _ _ _ rfl (by omega) (by omega) ?_
  refine G.1.1 [1831] 80 _ _ _ _ _ ?_
  refine z_isAbandoned J1 (by omega) (i32_in _) (fun σ2 t2 u J2 h14 lt hrelz h2 => ?_)
  exact E [(6, bc_I t), (7, bc_I u)] _ _ _ (jo_mono J2 (by omega))
theorem k_bearing (G : lw_G g (d + 20) L xs K) (i0 : 0 ≤ i) (i1 : i + 3 < (L : Int)) (hB : B ≤ 998000) (J : jnt_ B σ v) (E : ∀ (z : bc_LV) (σ' : bc_M) (n : Nat) (v' : cs_t), jnt_ (B + 480) σ' v' → K 1831 ([(0, bc_R 999), (1, bc_R 0), (2, bc_R 218), (3, bc_R 228), (4, bc_R 229), (5, bc_I i)] ++ z) [] σ' n) : K 837 [(0, bc_R 999), (1, bc_R 0), (2, bc_R 218), (3, bc_R 228), (4, bc_R 229), (5, bc_I i)] [] σ 0 := by
  refine G.1.1 [843] 60 _ _ _ _ _ ?_
  refine G.2.1 _ _ _ _ _ _ rfl (by omega) (by omega) ?_
  refine G.1.1 [856] 80 _ _ _ _ _ ?_
  refine w_bearing J (by omega) (i32_in _) (fun σ1 t x v1 J1 hr hrel hout => ?_)
  refine G.2.1 _ _ _ _ _ _ rfl (by omega) (by omega) ?_
  refine G.1.1 [1831] 80 _ _ _ _ _ ?_
  refine z_bearing J1 (by omega) (i32_in _) (fun σ2 t2 u J2 h14 lt hrelz h2 => ?_)
  exact E [(6, bc_I t), (7, bc_I u)] _ _ _ (jo_mono J2 (by omega))
theorem k_repairCost (G : lw_G g (d + 20) L xs K) (i0 : 0 ≤ i) (i1 : i + 3 < (L : Int)) (hB : B ≤ 998000) (J : jnt_ B σ v) (E : ∀ (z : bc_LV) (σ' : bc_M) (n : Nat) (v' : cs_t), jnt_ (B + 480) σ' v' → K 1831 ([(0, bc_R 999), (1, bc_R 0), (2, bc_R 218), (3, bc_R 228), (4, bc_R 229), (5, bc_I i)] ++ z) [] σ' n) : K 865 [(0, bc_R 999), (1, bc_R 0), (2, bc_R 218), (3, bc_R 228), (4, bc_R 229), (5, bc_I i)] [] σ 0 := by
  refine G.1.1 [871] 60 _ _ _ _ _ ?_
  refine G.2.1 _ _ _ _ _ _ rfl (by omega) (by omega) ?_
  refine G.1.1 [884] 80 _ _ _ _ _ ?_
  refine w_repairCost J (by omega) (i32_in _) (fun σ1 t x v1 J1 hr hrel hout => ?_)
  refine G.2.1 _ _ _ _ _ _ rfl (by omega) (by omega) ?_
  refine G.1.1 [1831] 80 _ _ _ _ _ ?_
  refine z_repairCost J1 (by omega) (i32_in _) (fun σ2 t2 u J2 h14 lt hrelz h2 => ?_)
  exact E [(6, bc_I t), (7, bc_I u)] _ _ _ (jo_mono J2 (by omega))
theorem k_strain (G : lw_G g (d + 20) L xs K) (i0 : 0 ≤ i) (i1 : i + 3 < (L : Int)) (hB : B ≤ 998000) (J : jnt_ B σ v) (E : ∀ (z : bc_LV) (σ' : bc_M) (n : Nat) (v' : cs_t), jnt_ (B + 480) σ' v' → K 1831 ([(0, bc_R 999), (1, bc_R 0), (2, bc_R 218), (3, bc_R 228), (4, bc_R 229), (5, bc_I i)] ++ z) [] σ' n) : K 893 [(0, bc_R 999), (1, bc_R 0), (2, bc_R 218), (3, bc_R 228), (4, bc_R 229), (5, bc_I i)] [] σ 0 := by
  refine G.1.1 [899] 60 _ _ _ _ _ ?_
  refine G.2.1 _ _ _ _ _ _ rfl (by omega) (by omega) ?_
  refine G.1.1 [905] 60 _ _ _ _ _ ?_
  refine G.2.1 _ _ _ _ _ _ rfl (by omega) (by omega) ?_
  refine G.1.1 [919] 80 _ _ _ _ _ ?_
  refine w_strain J (by omega) (i32_in _) (i32_in _) (fun σ1 t v1 J1 hr hrel => ?_)
  refine G.2.1 _ _ _ _ _ _ rfl (by omega) (by omega) ?_
  refine G.1.1 [925] 80 _ _ _ _ _ ?_
  refine G.2.1 _ _ _ _ _ _ rfl (by omega) (by omega) ?_
  refine G.1.1 [1831] 80 _ _ _ _ _ ?_
  refine z_strain J1 (by omega) (i32_in _) (i32_in _) (fun σ2 t2 u J2 h14 lt hrelz h2 => ?_)
  exact E [(6, bc_I t), (7, bc_F u)] _ _ _ (jo_mono J2 (by omega))
theorem k_strainBits (G : lw_G g (d + 20) L xs K) (i0 : 0 ≤ i) (i1 : i + 3 < (L : Int)) (hB : B ≤ 998000) (J : jnt_ B σ v) (E : ∀ (z : bc_LV) (σ' : bc_M) (n : Nat) (v' : cs_t), jnt_ (B + 480) σ' v' → K 1831 ([(0, bc_R 999), (1, bc_R 0), (2, bc_R 218), (3, bc_R 228), (4, bc_R 229), (5, bc_I i)] ++ z) [] σ' n) : K 934 [(0, bc_R 999), (1, bc_R 0), (2, bc_R 218), (3, bc_R 228), (4, bc_R 229), (5, bc_I i)] [] σ 0 := by
  refine G.1.1 [940] 60 _ _ _ _ _ ?_
  refine G.2.1 _ _ _ _ _ _ rfl (by omega) (by omega) ?_
  refine G.1.1 [946] 60 _ _ _ _ _ ?_
  refine G.2.1 _ _ _ _ _ _ rfl (by omega) (by omega) ?_
  refine G.1.1 [959] 80 _ _ _ _ _ ?_
  refine w_strainBits J (by omega) (i32_in _) (i32_in _) (fun σ1 t x v1 J1 hr hrel hout => ?_)
  refine G.2.1 _ _ _ _ _ _ rfl (by omega) (by omega) ?_
  refine G.1.1 [965] 80 _ _ _ _ _ ?_
  refine G.2.1 _ _ _ _ _ _ rfl (by omega) (by omega) ?_
  refine G.1.1 [1831] 80 _ _ _ _ _ ?_
  refine z_strainBits J1 (by omega) (i32_in _) (i32_in _) (fun σ2 t2 u J2 h14 lt hrelz h2 => ?_)
  exact E [(6, bc_I t), (7, bc_I u)] _ _ _ (jo_mono J2 (by omega))
theorem k_links (G : lw_G g (d + 20) L xs K) (i0 : 0 ≤ i) (i1 : i + 3 < (L : Int)) (hB : B ≤ 998000) (J : jnt_ B σ v) (E : ∀ (z : bc_LV) (σ' : bc_M) (n : Nat) (v' : cs_t), jnt_ (B + 480) σ' v' → K 1831 ([(0, bc_R 999), (1, bc_R 0), (2, bc_R 218), (3, bc_R 228), (4, bc_R 229), (5, bc_I i)] ++ z) [] σ' n) : K 974 [(0, bc_R 999), (1, bc_R 0), (2, bc_R 218), (3, bc_R 228), (4, bc_R 229), (5, bc_I i)] [] σ 0 := by
  refine G.1.1 [978] 60 _ _ _ _ _ ?_
  refine t_X10_links J.1 (fun σ1 F1 f1 => ?_)
  have J1 := jo_cls J F1 (yo_fr f1 ob_le)
  refine G.2.2.2 _ _ _ _ _ _ rfl ?_
  refine G.1.1 [983] 60 _ _ _ _ _ ?_
  refine z_links J1 (by omega) (fun σ2 t2 u J2 h14 lt hrelz h2 => ?_)
  refine G.2.2.2 _ _ _ _ _ _ rfl ?_
  refine G.1.1 [1831] 60 _ _ _ _ _ ?_
  exact E [] _ _ _ (jo_mono J2 (by omega))
theorem k_widestLoad (G : lw_G g (d + 20) L xs K) (i0 : 0 ≤ i) (i1 : i + 3 < (L : Int)) (hB : B ≤ 998000) (J : jnt_ B σ v) (E : ∀ (z : bc_LV) (σ' : bc_M) (n : Nat) (v' : cs_t), jnt_ (B + 480) σ' v' → K 1831 ([(0, bc_R 999), (1, bc_R 0), (2, bc_R 218), (3, bc_R 228), (4, bc_R 229), (5, bc_I i)] ++ z) [] σ' n) : K 987 [(0, bc_R 999), (1, bc_R 0), (2, bc_R 218), (3, bc_R 228), (4, bc_R 229), (5, bc_I i)] [] σ 0 := by
  refine G.1.1 [993] 60 _ _ _ _ _ ?_
  refine G.2.1 _ _ _ _ _ _ rfl (by omega) (by omega) ?_
  refine G.1.1 [999] 60 _ _ _ _ _ ?_
  refine G.2.1 _ _ _ _ _ _ rfl (by omega) (by omega) ?_
  refine G.1.1 [1012] 80 _ _ _ _ _ ?_
  refine w_widestLoad J (by omega) (i32_in _) (i32_in _) (fun σ1 t x v1 J1 hr hrel hout => ?_)
  refine G.2.1 _ _ _ _ _ _ rfl (by omega) (by omega) ?_
  refine G.1.1 [1018] 80 _ _ _ _ _ ?_
  refine G.2.1 _ _ _ _ _ _ rfl (by omega) (by omega) ?_
  refine G.1.1 [1831] 80 _ _ _ _ _ ?_
  refine z_widestLoad J1 (by omega) (i32_in _) (i32_in _) (fun σ2 t2 u J2 h14 lt hrelz h2 => ?_)
  exact E [(6, bc_I t), (7, bc_I u)] _ _ _ (jo_mono J2 (by omega))
theorem k_widestLoadByTrial (G : lw_G g (d + 20) L xs K) (i0 : 0 ≤ i) (i1 : i + 3 < (L : Int)) (hB : B ≤ 998000) (J : jnt_ B σ v) (E : ∀ (z : bc_LV) (σ' : bc_M) (n : Nat) (v' : cs_t), jnt_ (B + 480) σ' v' → K 1831 ([(0, bc_R 999), (1, bc_R 0), (2, bc_R 218), (3, bc_R 228), (4, bc_R 229), (5, bc_I i)] ++ z) [] σ' n) : K 1027 [(0, bc_R 999), (1, bc_R 0), (2, bc_R 218), (3, bc_R 228), (4, bc_R 229), (5, bc_I i)] [] σ 0 := by
  refine G.1.1 [1033] 60 _ _ _ _ _ ?_
  refine G.2.1 _ _ _ _ _ _ rfl (by omega) (by omega) ?_
  refine G.1.1 [1039] 60 _ _ _ _ _ ?_
  refine G.2.1 _ _ _ _ _ _ rfl (by omega) (by omega) ?_
  refine G.1.1 [1052] 80 _ _ _ _ _ ?_
  refine w_widestLoadByTrial J (by omega) (i32_in _) (i32_in _) (fun σ1 t x v1 J1 hr hrel hout => ?_)
  refine G.2.1 _ _ _ _ _ _ rfl (by omega) (by omega) ?_
  refine G.1.1 [1058] 80 _ _ _ _ _ ?_
  refine G.2.1 _ _ _ _ _ _ rfl (by omega) (by omega) ?_
  refine G.1.1 [1831] 80 _ _ _ _ _ ?_
  refine z_widestLoadByTrial J1 (by omega) (i32_in _) (i32_in _) (fun σ2 t2 u J2 h14 lt hrelz h2 => ?_)
  exact E [(6, bc_I t), (7, bc_I u)] _ _ _ (jo_mono J2 (by omega))
theorem k_wayLength (G : lw_G g (d + 20) L xs K) (i0 : 0 ≤ i) (i1 : i + 3 < (L : Int)) (hB : B ≤ 998000) (J : jnt_ B σ v) (E : ∀ (z : bc_LV) (σ' : bc_M) (n : Nat) (v' : cs_t), jnt_ (B + 480) σ' v' → K 1831 ([(0, bc_R 999), (1, bc_R 0), (2, bc_R 218), (3, bc_R 228), (4, bc_R 229), (5, bc_I i)] ++ z) [] σ' n) : K 1067 [(0, bc_R 999), (1, bc_R 0), (2, bc_R 218), (3, bc_R 228), (4, bc_R 229), (5, bc_I i)] [] σ 0 := by
  refine G.1.1 [1073] 60 _ _ _ _ _ ?_
  refine G.2.1 _ _ _ _ _ _ rfl (by omega) (by omega) ?_
  refine G.1.1 [1079] 60 _ _ _ _ _ ?_
  refine G.2.1 _ _ _ _ _ _ rfl (by omega) (by omega) ?_
  refine G.1.1 [1092] 80 _ _ _ _ _ ?_
  refine w_wayLength J (by omega) (i32_in _) (i32_in _) (fun σ1 t x v1 J1 hr hrel hout => ?_)
  refine G.2.1 _ _ _ _ _ _ rfl (by omega) (by omega) ?_
  refine G.1.1 [1098] 80 _ _ _ _ _ ?_
  refine G.2.1 _ _ _ _ _ _ rfl (by omega) (by omega) ?_
  refine G.1.1 [1831] 80 _ _ _ _ _ ?_
  refine z_wayLength J1 (by omega) (i32_in _) (i32_in _) (fun σ2 t2 u J2 h14 lt hrelz h2 => ?_)
  exact E [(6, bc_I t), (7, bc_I u)] _ _ _ (jo_mono J2 (by omega))
theorem k_wayJoint (G : lw_G g (d + 20) L xs K) (i0 : 0 ≤ i) (i1 : i + 3 < (L : Int)) (hB : B ≤ 998000) (J : jnt_ B σ v) (E : ∀ (z : bc_LV) (σ' : bc_M) (n : Nat) (v' : cs_t), jnt_ (B + 480) σ' v' → K 1831 ([(0, bc_R 999), (1, bc_R 0), (2, bc_R 218), (3, bc_R 228), (4, bc_R 229), (5, bc_I i)] ++ z) [] σ' n) : K 1107 [(0, bc_R 999), (1, bc_R 0), (2, bc_R 218), (3, bc_R 228), (4, bc_R 229), (5, bc_I i)] [] σ 0 := by
  refine G.1.1 [1113] 60 _ _ _ _ _ ?_
  refine G.2.1 _ _ _ _ _ _ rfl (by omega) (by omega) ?_
  refine G.1.1 [1119] 60 _ _ _ _ _ ?_
  refine G.2.1 _ _ _ _ _ _ rfl (by omega) (by omega) ?_
  refine G.1.1 [1125] 60 _ _ _ _ _ ?_
  refine G.2.1 _ _ _ _ _ _ rfl (by omega) (by omega) ?_
  refine G.1.1 [1138] 80 _ _ _ _ _ ?_
  refine w_wayJoint J (by omega) (i32_in _) (i32_in _) (i32_in _) (fun σ1 t x v1 J1 hr hrel hout => ?_)
  refine G.2.1 _ _ _ _ _ _ rfl (by omega) (by omega) ?_
  refine G.1.1 [1144] 80 _ _ _ _ _ ?_
  refine G.2.1 _ _ _ _ _ _ rfl (by omega) (by omega) ?_
  refine G.1.1 [1150] 80 _ _ _ _ _ ?_
  refine G.2.1 _ _ _ _ _ _ rfl (by omega) (by omega) ?_
  refine G.1.1 [1831] 80 _ _ _ _ _ ?_
  refine z_wayJoint J1 (by omega) (i32_in _) (i32_in _) (i32_in _) (fun σ2 t2 u J2 h14 lt hrelz h2 => ?_)
  exact E [(6, bc_I t), (7, bc_I u)] _ _ _ (jo_mono J2 (by omega))
theorem k_isCritical (G : lw_G g (d + 20) L xs K) (i0 : 0 ≤ i) (i1 : i + 3 < (L : Int)) (hB : B ≤ 998000) (J : jnt_ B σ v) (E : ∀ (z : bc_LV) (σ' : bc_M) (n : Nat) (v' : cs_t), jnt_ (B + 480) σ' v' → K 1831 ([(0, bc_R 999), (1, bc_R 0), (2, bc_R 218), (3, bc_R 228), (4, bc_R 229), (5, bc_I i)] ++ z) [] σ' n) : K 1159 [(0, bc_R 999), (1, bc_R 0), (2, bc_R 218), (3, bc_R 228), (4, bc_R 229), (5, bc_I i)] [] σ 0 := by
  refine G.1.1 [1165] 60 _ _ _ _ _ ?_
  refine G.2.1 _ _ _ _ _ _ rfl (by omega) (by omega) ?_
  refine G.1.1 [1178] 80 _ _ _ _ _ ?_
  refine w_isCritical J (by omega) (i32_in _) (fun σ1 t x v1 J1 hr hrel hout => ?_)
  refine G.2.1 _ _ _ _ _ _ rfl (by omega) (by omega) ?_
  refine G.1.1 [1831] 80 _ _ _ _ _ ?_
  refine z_isCritical J1 (by omega) (i32_in _) (fun σ2 t2 u J2 h14 lt hrelz h2 => ?_)
  exact E [(6, bc_I t), (7, bc_I u)] _ _ _ (jo_mono J2 (by omega))
theorem k_isCriticalByRemoval (G : lw_G g (d + 20) L xs K) (i0 : 0 ≤ i) (i1 : i + 3 < (L : Int)) (hB : B ≤ 998000) (J : jnt_ B σ v) (E : ∀ (z : bc_LV) (σ' : bc_M) (n : Nat) (v' : cs_t), jnt_ (B + 480) σ' v' → K 1831 ([(0, bc_R 999), (1, bc_R 0), (2, bc_R 218), (3, bc_R 228), (4, bc_R 229), (5, bc_I i)] ++ z) [] σ' n) : K 1187 [(0, bc_R 999), (1, bc_R 0), (2, bc_R 218), (3, bc_R 228), (4, bc_R 229), (5, bc_I i)] [] σ 0 := by
  refine G.1.1 [1193] 60 _ _ _ _ _ ?_
  refine G.2.1 _ _ _ _ _ _ rfl (by omega) (by omega) ?_
  refine G.1.1 [1206] 80 _ _ _ _ _ ?_
  refine w_isCriticalByRemoval J (by omega) (i32_in _) (fun σ1 t x v1 J1 hr hrel hout => ?_)
  refine G.2.1 _ _ _ _ _ _ rfl (by omega) (by omega) ?_
  refine G.1.1 [1831] 80 _ _ _ _ _ ?_
  refine z_isCriticalByRemoval J1 (by omega) (i32_in _) (fun σ2 t2 u J2 h14 lt hrelz h2 => ?_)
  exact E [(6, bc_I t), (7, bc_I u)] _ _ _ (jo_mono J2 (by omega))
theorem k_affordableLoad (G : lw_G g (d + 20) L xs K) (i0 : 0 ≤ i) (i1 : i + 3 < (L : Int)) (hB : B ≤ 998000) (J : jnt_ B σ v) (E : ∀ (z : bc_LV) (σ' : bc_M) (n : Nat) (v' : cs_t), jnt_ (B + 480) σ' v' → K 1831 ([(0, bc_R 999), (1, bc_R 0), (2, bc_R 218), (3, bc_R 228), (4, bc_R 229), (5, bc_I i)] ++ z) [] σ' n) : K 1215 [(0, bc_R 999), (1, bc_R 0), (2, bc_R 218), (3, bc_R 228), (4, bc_R 229), (5, bc_I i)] [] σ 0 := by
  refine G.1.1 [1221] 60 _ _ _ _ _ ?_
  refine G.2.1 _ _ _ _ _ _ rfl (by omega) (by omega) ?_
  refine G.1.1 [1227] 60 _ _ _ _ _ ?_
  refine G.2.1 _ _ _ _ _ _ rfl (by omega) (by omega) ?_
  refine G.1.1 [1240] 80 _ _ _ _ _ ?_
  refine w_affordableLoad J (by omega) (i32_in _) (i32_in _) (fun σ1 t x v1 J1 hr hrel hout => ?_)
  refine G.2.1 _ _ _ _ _ _ rfl (by omega) (by omega) ?_
  refine G.1.1 [1246] 80 _ _ _ _ _ ?_
  refine G.2.1 _ _ _ _ _ _ rfl (by omega) (by omega) ?_
  refine G.1.1 [1831] 80 _ _ _ _ _ ?_
  refine z_affordableLoad J1 (by omega) (i32_in _) (i32_in _) (fun σ2 t2 u J2 h14 lt hrelz h2 => ?_)
  exact E [(6, bc_I t), (7, bc_I u)] _ _ _ (jo_mono J2 (by omega))
theorem k_affordableLoadByTable (G : lw_G g (d + 20) L xs K) (i0 : 0 ≤ i) (i1 : i + 3 < (L : Int)) (hB : B ≤ 998000) (J : jnt_ B σ v) (E : ∀ (z : bc_LV) (σ' : bc_M) (n : Nat) (v' : cs_t), jnt_ (B + 480) σ' v' → K 1831 ([(0, bc_R 999), (1, bc_R 0), (2, bc_R 218), (3, bc_R 228), (4, bc_R 229), (5, bc_I i)] ++ z) [] σ' n) : K 1255 [(0, bc_R 999), (1, bc_R 0), (2, bc_R 218), (3, bc_R 228), (4, bc_R 229), (5, bc_I i)] [] σ 0 := by
  refine G.1.1 [1261] 60 _ _ _ _ _ ?_
  refine G.2.1 _ _ _ _ _ _ rfl (by omega) (by omega) ?_
  refine G.1.1 [1267] 60 _ _ _ _ _ ?_
  refine G.2.1 _ _ _ _ _ _ rfl (by omega) (by omega) ?_
  refine G.1.1 [1280] 80 _ _ _ _ _ ?_
  refine w_affordableLoadByTable J (by omega) (i32_in _) (i32_in _) (fun σ1 t x v1 J1 hr hrel hout => ?_)
  refine G.2.1 _ _ _ _ _ _ rfl (by omega) (by omega) ?_
  refine G.1.1 [1286] 80 _ _ _ _ _ ?_
  refine G.2.1 _ _ _ _ _ _ rfl (by omega) (by omega) ?_
  refine G.1.1 [1831] 80 _ _ _ _ _ ?_
  refine z_affordableLoadByTable J1 (by omega) (i32_in _) (i32_in _) (fun σ2 t2 u J2 h14 lt hrelz h2 => ?_)
  exact E [(6, bc_I t), (7, bc_I u)] _ _ _ (jo_mono J2 (by omega))
theorem k_memberByBearing (G : lw_G g (d + 20) L xs K) (i0 : 0 ≤ i) (i1 : i + 3 < (L : Int)) (hB : B ≤ 998000) (J : jnt_ B σ v) (E : ∀ (z : bc_LV) (σ' : bc_M) (n : Nat) (v' : cs_t), jnt_ (B + 480) σ' v' → K 1831 ([(0, bc_R 999), (1, bc_R 0), (2, bc_R 218), (3, bc_R 228), (4, bc_R 229), (5, bc_I i)] ++ z) [] σ' n) : K 1295 [(0, bc_R 999), (1, bc_R 0), (2, bc_R 218), (3, bc_R 228), (4, bc_R 229), (5, bc_I i)] [] σ 0 := by
  refine G.1.1 [1301] 60 _ _ _ _ _ ?_
  refine G.2.1 _ _ _ _ _ _ rfl (by omega) (by omega) ?_
  refine G.1.1 [1314] 80 _ _ _ _ _ ?_
  refine w_memberByBearing J (by omega) (i32_in _) (fun σ1 t x v1 J1 hr hrel hout => ?_)
  refine G.2.1 _ _ _ _ _ _ rfl (by omega) (by omega) ?_
  refine G.1.1 [1831] 80 _ _ _ _ _ ?_
  refine z_memberByBearing J1 (by omega) (i32_in _) (fun σ2 t2 u J2 h14 lt hrelz h2 => ?_)
  exact E [(6, bc_I t), (7, bc_I u)] _ _ _ (jo_mono J2 (by omega))
theorem k_nicheKind (G : lw_G g (d + 20) L xs K) (i0 : 0 ≤ i) (i1 : i + 3 < (L : Int)) (hB : B ≤ 998000) (J : jnt_ B σ v) (E : ∀ (z : bc_LV) (σ' : bc_M) (n : Nat) (v' : cs_t), jnt_ (B + 480) σ' v' → K 1831 ([(0, bc_R 999), (1, bc_R 0), (2, bc_R 218), (3, bc_R 228), (4, bc_R 229), (5, bc_I i)] ++ z) [] σ' n) : K 1323 [(0, bc_R 999), (1, bc_R 0), (2, bc_R 218), (3, bc_R 228), (4, bc_R 229), (5, bc_I i)] [] σ 0 := by
  refine G.1.1 [1831] 60 _ _ _ _ _ ?_
  refine t_X10_nicheKind J.1 ?_
  refine z_nicheKind J (by omega) (fun σ2 t2 u J2 h14 lt hrelz h2 => ?_)
  exact E [] _ _ _ (jo_mono J2 (by omega))
theorem k_nicheWeight (G : lw_G g (d + 20) L xs K) (i0 : 0 ≤ i) (i1 : i + 3 < (L : Int)) (hB : B ≤ 998000) (J : jnt_ B σ v) (E : ∀ (z : bc_LV) (σ' : bc_M) (n : Nat) (v' : cs_t), jnt_ (B + 480) σ' v' → K 1831 ([(0, bc_R 999), (1, bc_R 0), (2, bc_R 218), (3, bc_R 228), (4, bc_R 229), (5, bc_I i)] ++ z) [] σ' n) : K 1336 [(0, bc_R 999), (1, bc_R 0), (2, bc_R 218), (3, bc_R 228), (4, bc_R 229), (5, bc_I i)] [] σ 0 := by
  refine G.1.1 [1831] 60 _ _ _ _ _ ?_
  refine t_X10_nicheWeight J.1 ?_
  refine z_nicheWeight J (by omega) (fun σ2 t2 u J2 h14 lt hrelz h2 => ?_)
  exact E [] _ _ _ (jo_mono J2 (by omega))
theorem k_vowCount (G : lw_G g (d + 20) L xs K) (i0 : 0 ≤ i) (i1 : i + 3 < (L : Int)) (hB : B ≤ 998000) (J : jnt_ B σ v) (E : ∀ (z : bc_LV) (σ' : bc_M) (n : Nat) (v' : cs_t), jnt_ (B + 480) σ' v' → K 1831 ([(0, bc_R 999), (1, bc_R 0), (2, bc_R 218), (3, bc_R 228), (4, bc_R 229), (5, bc_I i)] ++ z) [] σ' n) : K 1349 [(0, bc_R 999), (1, bc_R 0), (2, bc_R 218), (3, bc_R 228), (4, bc_R 229), (5, bc_I i)] [] σ 0 := by
  refine G.1.1 [1831] 60 _ _ _ _ _ ?_
  refine t_X10_vowCount J.1 ?_
  refine z_vowCount J (by omega) (fun σ2 t2 u J2 h14 lt hrelz h2 => ?_)
  exact E [] _ _ _ (jo_mono J2 (by omega))
theorem k_vowAt (G : lw_G g (d + 20) L xs K) (i0 : 0 ≤ i) (i1 : i + 3 < (L : Int)) (hB : B ≤ 998000) (J : jnt_ B σ v) (E : ∀ (z : bc_LV) (σ' : bc_M) (n : Nat) (v' : cs_t), jnt_ (B + 480) σ' v' → K 1831 ([(0, bc_R 999), (1, bc_R 0), (2, bc_R 218), (3, bc_R 228), (4, bc_R 229), (5, bc_I i)] ++ z) [] σ' n) : K 1362 [(0, bc_R 999), (1, bc_R 0), (2, bc_R 218), (3, bc_R 228), (4, bc_R 229), (5, bc_I i)] [] σ 0 := by
  refine G.1.1 [1368] 60 _ _ _ _ _ ?_
  refine G.2.1 _ _ _ _ _ _ rfl (by omega) (by omega) ?_
  refine G.1.1 [1381] 80 _ _ _ _ _ ?_
  refine w_vowAt J (by omega) (i32_in _) (fun σ1 t x v1 J1 hr hrel hout => ?_)
  refine G.2.1 _ _ _ _ _ _ rfl (by omega) (by omega) ?_
  refine G.1.1 [1831] 80 _ _ _ _ _ ?_
  refine z_vowAt J1 (by omega) (i32_in _) (fun σ2 t2 u J2 h14 lt hrelz h2 => ?_)
  exact E [(6, bc_I t), (7, bc_I u)] _ _ _ (jo_mono J2 (by omega))
theorem k_dueDay (G : lw_G g (d + 20) L xs K) (i0 : 0 ≤ i) (i1 : i + 3 < (L : Int)) (hB : B ≤ 998000) (J : jnt_ B σ v) (E : ∀ (z : bc_LV) (σ' : bc_M) (n : Nat) (v' : cs_t), jnt_ (B + 480) σ' v' → K 1831 ([(0, bc_R 999), (1, bc_R 0), (2, bc_R 218), (3, bc_R 228), (4, bc_R 229), (5, bc_I i)] ++ z) [] σ' n) : K 1390 [(0, bc_R 999), (1, bc_R 0), (2, bc_R 218), (3, bc_R 228), (4, bc_R 229), (5, bc_I i)] [] σ 0 := by
  refine G.1.1 [1396] 60 _ _ _ _ _ ?_
  refine G.2.1 _ _ _ _ _ _ rfl (by omega) (by omega) ?_
  refine G.1.1 [1409] 80 _ _ _ _ _ ?_
  refine w_dueDay J (by omega) (i32_in _) (fun σ1 t x v1 J1 hr hrel hout => ?_)
  refine G.2.1 _ _ _ _ _ _ rfl (by omega) (by omega) ?_
  refine G.1.1 [1831] 80 _ _ _ _ _ ?_
  refine z_dueDay J1 (by omega) (i32_in _) (fun σ2 t2 u J2 h14 lt hrelz h2 => ?_)
  exact E [(6, bc_I t), (7, bc_I u)] _ _ _ (jo_mono J2 (by omega))
theorem k_amount (G : lw_G g (d + 20) L xs K) (i0 : 0 ≤ i) (i1 : i + 3 < (L : Int)) (hB : B ≤ 998000) (J : jnt_ B σ v) (E : ∀ (z : bc_LV) (σ' : bc_M) (n : Nat) (v' : cs_t), jnt_ (B + 480) σ' v' → K 1831 ([(0, bc_R 999), (1, bc_R 0), (2, bc_R 218), (3, bc_R 228), (4, bc_R 229), (5, bc_I i)] ++ z) [] σ' n) : K 1418 [(0, bc_R 999), (1, bc_R 0), (2, bc_R 218), (3, bc_R 228), (4, bc_R 229), (5, bc_I i)] [] σ 0 := by
  refine G.1.1 [1424] 60 _ _ _ _ _ ?_
  refine G.2.1 _ _ _ _ _ _ rfl (by omega) (by omega) ?_
  refine G.1.1 [1437] 80 _ _ _ _ _ ?_
  refine w_amount J (by omega) (i32_in _) (fun σ1 t x v1 J1 hr hrel hout => ?_)
  refine G.2.1 _ _ _ _ _ _ rfl (by omega) (by omega) ?_
  refine G.1.1 [1831] 80 _ _ _ _ _ ?_
  refine z_amount J1 (by omega) (i32_in _) (fun σ2 t2 u J2 h14 lt hrelz h2 => ?_)
  exact E [(6, bc_I t), (7, bc_I u)] _ _ _ (jo_mono J2 (by omega))
theorem k_canKeepAll (G : lw_G g (d + 20) L xs K) (i0 : 0 ≤ i) (i1 : i + 3 < (L : Int)) (hB : B ≤ 998000) (J : jnt_ B σ v) (E : ∀ (z : bc_LV) (σ' : bc_M) (n : Nat) (v' : cs_t), jnt_ (B + 480) σ' v' → K 1831 ([(0, bc_R 999), (1, bc_R 0), (2, bc_R 218), (3, bc_R 228), (4, bc_R 229), (5, bc_I i)] ++ z) [] σ' n) : K 1446 [(0, bc_R 999), (1, bc_R 0), (2, bc_R 218), (3, bc_R 228), (4, bc_R 229), (5, bc_I i)] [] σ 0 := by
  refine G.1.1 [1831] 60 _ _ _ _ _ ?_
  refine t_X10_canKeepAll J.1 (by omega) (fun x hx => ?_)
  refine z_canKeepAll J (by omega) (fun σ2 t2 u J2 h14 lt hrelz h2 => ?_)
  exact E [] _ _ _ (jo_mono J2 (by omega))
theorem k_canKeepAllBySums (G : lw_G g (d + 20) L xs K) (i0 : 0 ≤ i) (i1 : i + 3 < (L : Int)) (hB : B ≤ 998000) (J : jnt_ B σ v) (E : ∀ (z : bc_LV) (σ' : bc_M) (n : Nat) (v' : cs_t), jnt_ (B + 480) σ' v' → K 1831 ([(0, bc_R 999), (1, bc_R 0), (2, bc_R 218), (3, bc_R 228), (4, bc_R 229), (5, bc_I i)] ++ z) [] σ' n) : K 1459 [(0, bc_R 999), (1, bc_R 0), (2, bc_R 218), (3, bc_R 228), (4, bc_R 229), (5, bc_I i)] [] σ 0 := by
  refine G.1.1 [1831] 60 _ _ _ _ _ ?_
  refine t_X10_canKeepAllBySums J.1 (by omega) (fun x hx => ?_)
  refine z_canKeepAllBySums J (by omega) (fun σ2 t2 u J2 h14 lt hrelz h2 => ?_)
  exact E [] _ _ _ (jo_mono J2 (by omega))
theorem k_greatestVow (G : lw_G g (d + 20) L xs K) (i0 : 0 ≤ i) (i1 : i + 3 < (L : Int)) (hB : B ≤ 998000) (J : jnt_ B σ v) (E : ∀ (z : bc_LV) (σ' : bc_M) (n : Nat) (v' : cs_t), jnt_ (B + 480) σ' v' → K 1831 ([(0, bc_R 999), (1, bc_R 0), (2, bc_R 218), (3, bc_R 228), (4, bc_R 229), (5, bc_I i)] ++ z) [] σ' n) : K 1472 [(0, bc_R 999), (1, bc_R 0), (2, bc_R 218), (3, bc_R 228), (4, bc_R 229), (5, bc_I i)] [] σ 0 := by
  refine G.1.1 [1478] 60 _ _ _ _ _ ?_
  refine G.2.1 _ _ _ _ _ _ rfl (by omega) (by omega) ?_
  refine G.1.1 [1491] 80 _ _ _ _ _ ?_
  refine w_greatestVow J (by omega) (i32_in _) (fun σ1 t x v1 J1 hr hrel hout => ?_)
  refine G.2.1 _ _ _ _ _ _ rfl (by omega) (by omega) ?_
  refine G.1.1 [1831] 80 _ _ _ _ _ ?_
  refine z_greatestVow J1 (by omega) (i32_in _) (fun σ2 t2 u J2 h14 lt hrelz h2 => ?_)
  exact E [(6, bc_I t), (7, bc_I u)] _ _ _ (jo_mono J2 (by omega))
theorem k_keptTotal (G : lw_G g (d + 20) L xs K) (i0 : 0 ≤ i) (i1 : i + 3 < (L : Int)) (hB : B ≤ 998000) (J : jnt_ B σ v) (E : ∀ (z : bc_LV) (σ' : bc_M) (n : Nat) (v' : cs_t), jnt_ (B + 480) σ' v' → K 1831 ([(0, bc_R 999), (1, bc_R 0), (2, bc_R 218), (3, bc_R 228), (4, bc_R 229), (5, bc_I i)] ++ z) [] σ' n) : K 1500 [(0, bc_R 999), (1, bc_R 0), (2, bc_R 218), (3, bc_R 228), (4, bc_R 229), (5, bc_I i)] [] σ 0 := by
  refine G.1.1 [1831] 60 _ _ _ _ _ ?_
  refine t_X10_keptTotal J.1 ?_
  refine z_keptTotal J (by omega) (fun σ2 t2 u J2 h14 lt hrelz h2 => ?_)
  exact E [] _ _ _ (jo_mono J2 (by omega))
theorem k_brokenTotal (G : lw_G g (d + 20) L xs K) (i0 : 0 ≤ i) (i1 : i + 3 < (L : Int)) (hB : B ≤ 998000) (J : jnt_ B σ v) (E : ∀ (z : bc_LV) (σ' : bc_M) (n : Nat) (v' : cs_t), jnt_ (B + 480) σ' v' → K 1831 ([(0, bc_R 999), (1, bc_R 0), (2, bc_R 218), (3, bc_R 228), (4, bc_R 229), (5, bc_I i)] ++ z) [] σ' n) : K 1513 [(0, bc_R 999), (1, bc_R 0), (2, bc_R 218), (3, bc_R 228), (4, bc_R 229), (5, bc_I i)] [] σ 0 := by
  refine G.1.1 [1831] 60 _ _ _ _ _ ?_
  refine t_X10_brokenTotal J.1 ?_
  refine z_brokenTotal J (by omega) (fun σ2 t2 u J2 h14 lt hrelz h2 => ?_)
  exact E [] _ _ _ (jo_mono J2 (by omega))
theorem k_steel (G : lw_G g (d + 20) L xs K) (i0 : 0 ≤ i) (i1 : i + 3 < (L : Int)) (hB : B ≤ 998000) (J : jnt_ B σ v) (E : ∀ (z : bc_LV) (σ' : bc_M) (n : Nat) (v' : cs_t), jnt_ (B + 480) σ' v' → K 1831 ([(0, bc_R 999), (1, bc_R 0), (2, bc_R 218), (3, bc_R 228), (4, bc_R 229), (5, bc_I i)] ++ z) [] σ' n) : K 1526 [(0, bc_R 999), (1, bc_R 0), (2, bc_R 218), (3, bc_R 228), (4, bc_R 229), (5, bc_I i)] [] σ 0 := by
  refine G.1.1 [1831] 60 _ _ _ _ _ ?_
  refine t_X10_steel J.1 ?_
  refine z_steel J (by omega) (fun σ2 t2 u J2 h14 lt hrelz h2 => ?_)
  exact E [] _ _ _ (jo_mono J2 (by omega))
theorem k_steelByAccounts (G : lw_G g (d + 20) L xs K) (i0 : 0 ≤ i) (i1 : i + 3 < (L : Int)) (hB : B ≤ 998000) (J : jnt_ B σ v) (E : ∀ (z : bc_LV) (σ' : bc_M) (n : Nat) (v' : cs_t), jnt_ (B + 480) σ' v' → K 1831 ([(0, bc_R 999), (1, bc_R 0), (2, bc_R 218), (3, bc_R 228), (4, bc_R 229), (5, bc_I i)] ++ z) [] σ' n) : K 1539 [(0, bc_R 999), (1, bc_R 0), (2, bc_R 218), (3, bc_R 228), (4, bc_R 229), (5, bc_I i)] [] σ 0 := by
  refine G.1.1 [1831] 60 _ _ _ _ _ ?_
  refine t_X10_steelByAccounts J.1 ?_
  refine z_steelByAccounts J (by omega) (fun σ2 t2 u J2 h14 lt hrelz h2 => ?_)
  exact E [] _ _ _ (jo_mono J2 (by omega))
theorem k_day (G : lw_G g (d + 20) L xs K) (i0 : 0 ≤ i) (i1 : i + 3 < (L : Int)) (hB : B ≤ 998000) (J : jnt_ B σ v) (E : ∀ (z : bc_LV) (σ' : bc_M) (n : Nat) (v' : cs_t), jnt_ (B + 480) σ' v' → K 1831 ([(0, bc_R 999), (1, bc_R 0), (2, bc_R 218), (3, bc_R 228), (4, bc_R 229), (5, bc_I i)] ++ z) [] σ' n) : K 1552 [(0, bc_R 999), (1, bc_R 0), (2, bc_R 218), (3, bc_R 228), (4, bc_R 229), (5, bc_I i)] [] σ 0 := by
  refine G.1.1 [1831] 60 _ _ _ _ _ ?_
  refine t_X10_day J.1 ?_
  refine z_day J (by omega) (fun σ2 t2 u J2 h14 lt hrelz h2 => ?_)
  exact E [] _ _ _ (jo_mono J2 (by omega))
theorem k_meanBearing (G : lw_G g (d + 20) L xs K) (i0 : 0 ≤ i) (i1 : i + 3 < (L : Int)) (hB : B ≤ 998000) (J : jnt_ B σ v) (E : ∀ (z : bc_LV) (σ' : bc_M) (n : Nat) (v' : cs_t), jnt_ (B + 480) σ' v' → K 1831 ([(0, bc_R 999), (1, bc_R 0), (2, bc_R 218), (3, bc_R 228), (4, bc_R 229), (5, bc_I i)] ++ z) [] σ' n) : K 1565 [(0, bc_R 999), (1, bc_R 0), (2, bc_R 218), (3, bc_R 228), (4, bc_R 229), (5, bc_I i)] [] σ 0 := by
  refine G.1.1 [1831] 80 _ _ _ _ _ ?_
  refine w_meanBearing J (by omega)  (fun σ1 t v1 J1 hr hrel => ?_)
  refine z_meanBearing J1 (by omega)  (fun σ2 t2 u J2 h14 lt hrelz h2 => ?_)
  exact E [(6, bc_I t), (7, bc_D u)] _ _ _ (jo_mono J2 (by omega))
theorem k_crackedShare (G : lw_G g (d + 20) L xs K) (i0 : 0 ≤ i) (i1 : i + 3 < (L : Int)) (hB : B ≤ 998000) (J : jnt_ B σ v) (E : ∀ (z : bc_LV) (σ' : bc_M) (n : Nat) (v' : cs_t), jnt_ (B + 480) σ' v' → K 1831 ([(0, bc_R 999), (1, bc_R 0), (2, bc_R 218), (3, bc_R 228), (4, bc_R 229), (5, bc_I i)] ++ z) [] σ' n) : K 1582 [(0, bc_R 999), (1, bc_R 0), (2, bc_R 218), (3, bc_R 228), (4, bc_R 229), (5, bc_I i)] [] σ 0 := by
  refine G.1.1 [1831] 80 _ _ _ _ _ ?_
  refine w_crackedShare J (by omega)  (fun σ1 t v1 J1 hr hrel => ?_)
  refine z_crackedShare J1 (by omega)  (fun σ2 t2 u J2 h14 lt hrelz h2 => ?_)
  exact E [(6, bc_I t), (7, bc_F u)] _ _ _ (jo_mono J2 (by omega))
theorem k_isConsistent (G : lw_G g (d + 20) L xs K) (i0 : 0 ≤ i) (i1 : i + 3 < (L : Int)) (hB : B ≤ 998000) (J : jnt_ B σ v) (E : ∀ (z : bc_LV) (σ' : bc_M) (n : Nat) (v' : cs_t), jnt_ (B + 480) σ' v' → K 1831 ([(0, bc_R 999), (1, bc_R 0), (2, bc_R 218), (3, bc_R 228), (4, bc_R 229), (5, bc_I i)] ++ z) [] σ' n) : K 1599 [(0, bc_R 999), (1, bc_R 0), (2, bc_R 218), (3, bc_R 228), (4, bc_R 229), (5, bc_I i)] [] σ 0 := by
  refine G.1.1 [1831] 60 _ _ _ _ _ ?_
  refine t_X10_isConsistent J.1 (by omega) (fun hc σ1 F1 f1 => ?_) (fun hc σ1 F1 f1 => ?_)
  · refine z_isConsistent (jo_cls J F1 (yo_fr f1 ob_le)) (by omega) (fun σ2 t2 u J2 h14 lt hrelz h2 => ?_)
    exact E [] _ _ _ (jo_mono J2 (by omega))
  · refine z_isConsistent (jo_cls J F1 (yo_fr f1 ob_le)) (by omega) (fun σ2 t2 u J2 h14 lt hrelz h2 => ?_)
    exact E [] _ _ _ (jo_mono J2 (by omega))
theorem k_renderMember (G : lw_G g (d + 20) L xs K) (i0 : 0 ≤ i) (i1 : i + 3 < (L : Int)) (hB : B ≤ 998000) (J : jnt_ B σ v) (E : ∀ (z : bc_LV) (σ' : bc_M) (n : Nat) (v' : cs_t), jnt_ (B + 480) σ' v' → K 1831 ([(0, bc_R 999), (1, bc_R 0), (2, bc_R 218), (3, bc_R 228), (4, bc_R 229), (5, bc_I i)] ++ z) [] σ' n) : K 1612 [(0, bc_R 999), (1, bc_R 0), (2, bc_R 218), (3, bc_R 228), (4, bc_R 229), (5, bc_I i)] [] σ 0 := by
  refine G.1.1 [1618] 60 _ _ _ _ _ ?_
  refine G.2.1 _ _ _ _ _ _ rfl (by omega) (by omega) ?_
  refine G.1.1 [1631] 80 _ _ _ _ _ ?_
  refine w_renderMember J (by omega) (i32_in _) (fun σ1 t x v1 F1 y lt H hout => ?_)
  refine G.2.1 _ _ _ _ _ _ rfl (by omega) (by omega) ?_
  refine G.1.1 [1831] 80 _ _ _ _ _ ?_
  refine z_renderMember J (by omega) F1 y (i32_in _) H (fun σ2 u J2 h14 hux h2 => ?_)
  exact E [(6, bc_I t), (7, bc_I u)] _ _ _ (jo_mono J2 (by omega))
theorem k_renderWay (G : lw_G g (d + 20) L xs K) (i0 : 0 ≤ i) (i1 : i + 3 < (L : Int)) (hB : B ≤ 998000) (J : jnt_ B σ v) (E : ∀ (z : bc_LV) (σ' : bc_M) (n : Nat) (v' : cs_t), jnt_ (B + 480) σ' v' → K 1831 ([(0, bc_R 999), (1, bc_R 0), (2, bc_R 218), (3, bc_R 228), (4, bc_R 229), (5, bc_I i)] ++ z) [] σ' n) : K 1640 [(0, bc_R 999), (1, bc_R 0), (2, bc_R 218), (3, bc_R 228), (4, bc_R 229), (5, bc_I i)] [] σ 0 := by
  refine G.1.1 [1646] 60 _ _ _ _ _ ?_
  refine G.2.1 _ _ _ _ _ _ rfl (by omega) (by omega) ?_
  refine G.1.1 [1652] 60 _ _ _ _ _ ?_
  refine G.2.1 _ _ _ _ _ _ rfl (by omega) (by omega) ?_
  refine G.1.1 [1665] 80 _ _ _ _ _ ?_
  refine w_renderWay J (by omega) (i32_in _) (i32_in _) (fun σ1 t x v1 F1 y lt H hout => ?_)
  refine G.2.1 _ _ _ _ _ _ rfl (by omega) (by omega) ?_
  refine G.1.1 [1671] 80 _ _ _ _ _ ?_
  refine G.2.1 _ _ _ _ _ _ rfl (by omega) (by omega) ?_
  refine G.1.1 [1831] 80 _ _ _ _ _ ?_
  refine z_renderWay J (by omega) F1 y (i32_in _) (i32_in _) H (fun σ2 u J2 h14 hux h2 => ?_)
  exact E [(6, bc_I t), (7, bc_I u)] _ _ _ (jo_mono J2 (by omega))
theorem k_outputAt (G : lw_G g (d + 20) L xs K) (i0 : 0 ≤ i) (i1 : i + 3 < (L : Int)) (hB : B ≤ 998000) (J : jnt_ B σ v) (E : ∀ (z : bc_LV) (σ' : bc_M) (n : Nat) (v' : cs_t), jnt_ (B + 480) σ' v' → K 1831 ([(0, bc_R 999), (1, bc_R 0), (2, bc_R 218), (3, bc_R 228), (4, bc_R 229), (5, bc_I i)] ++ z) [] σ' n) : K 1680 [(0, bc_R 999), (1, bc_R 0), (2, bc_R 218), (3, bc_R 228), (4, bc_R 229), (5, bc_I i)] [] σ 0 := by
  refine G.1.1 [1686] 60 _ _ _ _ _ ?_
  refine G.2.1 _ _ _ _ _ _ rfl (by omega) (by omega) ?_
  refine G.1.1 [1699] 80 _ _ _ _ _ ?_
  refine w_outputAt J (by omega) (i32_in _) (fun σ1 t x v1 J1 hr hrel hout => ?_)
  refine G.2.1 _ _ _ _ _ _ rfl (by omega) (by omega) ?_
  refine G.1.1 [1831] 80 _ _ _ _ _ ?_
  refine z_outputAt J1 (by omega) (i32_in _) (fun σ2 t2 u J2 h14 lt hrelz h2 => ?_)
  exact E [(6, bc_I t), (7, bc_I u)] _ _ _ (jo_mono J2 (by omega))
theorem k_type (G : lw_G g (d + 20) L xs K) (i0 : 0 ≤ i) (i1 : i + 3 < (L : Int)) (hB : B ≤ 998000) (J : jnt_ B σ v) (E : ∀ (z : bc_LV) (σ' : bc_M) (n : Nat) (v' : cs_t), jnt_ (B + 480) σ' v' → K 1831 ([(0, bc_R 999), (1, bc_R 0), (2, bc_R 218), (3, bc_R 228), (4, bc_R 229), (5, bc_I i)] ++ z) [] σ' n) : K 1708 [(0, bc_R 999), (1, bc_R 0), (2, bc_R 218), (3, bc_R 228), (4, bc_R 229), (5, bc_I i)] [] σ 0 := by
  refine G.1.1 [1714] 60 _ _ _ _ _ ?_
  refine G.2.1 _ _ _ _ _ _ rfl (by omega) (by omega) ?_
  refine G.1.1 [1728] 80 _ _ _ _ _ ?_
  refine w_type J (by omega) (by omega) (fun σ1 t x v1 F1 y lt H hout => ?_)
  refine G.2.1 _ _ _ _ _ _ rfl (by omega) (by omega) ?_
  refine G.1.1 [1831] 80 _ _ _ _ _ ?_
  refine z_type J (by omega) F1 y (by omega) H (fun σ2 u J2 h14 hux h2 => ?_)
  exact E [(6, bc_I t), (7, bc_I u)] _ _ _ (jo_mono J2 (by omega))
theorem k_runScript (G : lw_G g (d + 20) L xs K) (i0 : 0 ≤ i) (i1 : i + 3 < (L : Int)) (hB : B ≤ 998000) (J : jnt_ B σ v) (E : ∀ (z : bc_LV) (σ' : bc_M) (n : Nat) (v' : cs_t), jnt_ (B + 480) σ' v' → K 1831 ([(0, bc_R 999), (1, bc_R 0), (2, bc_R 218), (3, bc_R 228), (4, bc_R 229), (5, bc_I i)] ++ z) [] σ' n) : K 1738 [(0, bc_R 999), (1, bc_R 0), (2, bc_R 218), (3, bc_R 228), (4, bc_R 229), (5, bc_I i)] [] σ 0 := by
  refine G.1.1 [1831] 80 _ _ _ _ _ ?_
  refine w_runScript J (by omega)  (fun σ1 t x v1 F1 y lt H hout => ?_)
  refine z_runScript J (by omega) F1 y  H (fun σ2 u J2 h14 hux h2 => ?_)
  exact E [(6, bc_I t), (7, bc_I u)] _ _ _ (jo_mono J2 (by omega))
theorem k_errorPosition (G : lw_G g (d + 20) L xs K) (i0 : 0 ≤ i) (i1 : i + 3 < (L : Int)) (hB : B ≤ 998000) (J : jnt_ B σ v) (E : ∀ (z : bc_LV) (σ' : bc_M) (n : Nat) (v' : cs_t), jnt_ (B + 480) σ' v' → K 1831 ([(0, bc_R 999), (1, bc_R 0), (2, bc_R 218), (3, bc_R 228), (4, bc_R 229), (5, bc_I i)] ++ z) [] σ' n) : K 1754 [(0, bc_R 999), (1, bc_R 0), (2, bc_R 218), (3, bc_R 228), (4, bc_R 229), (5, bc_I i)] [] σ 0 := by
  refine G.1.1 [1831] 80 _ _ _ _ _ ?_
  refine w_errorPosition J (by omega)  (fun σ1 t x v1 J1 hr hrel hout => ?_)
  refine z_errorPosition J1 (by omega)  (fun σ2 t2 u J2 h14 lt hrelz h2 => ?_)
  exact E [(6, bc_I t), (7, bc_I u)] _ _ _ (jo_mono J2 (by omega))
theorem k_failedCommand (G : lw_G g (d + 20) L xs K) (i0 : 0 ≤ i) (i1 : i + 3 < (L : Int)) (hB : B ≤ 998000) (J : jnt_ B σ v) (E : ∀ (z : bc_LV) (σ' : bc_M) (n : Nat) (v' : cs_t), jnt_ (B + 480) σ' v' → K 1831 ([(0, bc_R 999), (1, bc_R 0), (2, bc_R 218), (3, bc_R 228), (4, bc_R 229), (5, bc_I i)] ++ z) [] σ' n) : K 1770 [(0, bc_R 999), (1, bc_R 0), (2, bc_R 218), (3, bc_R 228), (4, bc_R 229), (5, bc_I i)] [] σ 0 := by
  refine G.1.1 [1831] 80 _ _ _ _ _ ?_
  refine w_failedCommand J (by omega)  (fun σ1 t x v1 J1 hr hrel hout => ?_)
  refine z_failedCommand J1 (by omega)  (fun σ2 t2 u J2 h14 lt hrelz h2 => ?_)
  exact E [(6, bc_I t), (7, bc_I u)] _ _ _ (jo_mono J2 (by omega))
theorem k_undo (G : lw_G g (d + 20) L xs K) (i0 : 0 ≤ i) (i1 : i + 3 < (L : Int)) (hB : B ≤ 998000) (J : jnt_ B σ v) (E : ∀ (z : bc_LV) (σ' : bc_M) (n : Nat) (v' : cs_t), jnt_ (B + 480) σ' v' → K 1831 ([(0, bc_R 999), (1, bc_R 0), (2, bc_R 218), (3, bc_R 228), (4, bc_R 229), (5, bc_I i)] ++ z) [] σ' n) : K 1786 [(0, bc_R 999), (1, bc_R 0), (2, bc_R 218), (3, bc_R 228), (4, bc_R 229), (5, bc_I i)] [] σ 0 := by
  refine G.1.1 [1831] 80 _ _ _ _ _ ?_
  refine w_undo J (by omega)  (fun σ1 t x v1 F1 y lt H hout => ?_)
  refine z_undo J (by omega) F1 y  H (fun σ2 u J2 h14 hux h2 => ?_)
  exact E [(6, bc_I t), (7, bc_I u)] _ _ _ (jo_mono J2 (by omega))
theorem k_save (G : lw_G g (d + 20) L xs K) (i0 : 0 ≤ i) (i1 : i + 3 < (L : Int)) (hB : B ≤ 998000) (J : jnt_ B σ v) (E : ∀ (z : bc_LV) (σ' : bc_M) (n : Nat) (v' : cs_t), jnt_ (B + 480) σ' v' → K 1831 ([(0, bc_R 999), (1, bc_R 0), (2, bc_R 218), (3, bc_R 228), (4, bc_R 229), (5, bc_I i)] ++ z) [] σ' n) : K 1802 [(0, bc_R 999), (1, bc_R 0), (2, bc_R 218), (3, bc_R 228), (4, bc_R 229), (5, bc_I i)] [] σ 0 := by
  refine G.1.1 [1831] 60 _ _ _ _ _ ?_
  refine t_X10_save J.1 (fun σ1 F1 f1 => ?_)
  refine z_save (t := 0) (x := c_r v 3) J (by omega) (fa_mono F1 (by omega)) (yo_fr f1 ob_le) ⟨rfl, rfl, rfl⟩ (fun σ2 u J2 h14 hux h2 => ?_)
  exact E [] _ _ _ (jo_mono J2 (by omega))
theorem k_restore (G : lw_G g (d + 20) L xs K) (i0 : 0 ≤ i) (i1 : i + 3 < (L : Int)) (hB : B ≤ 998000) (J : jnt_ B σ v) (E : ∀ (z : bc_LV) (σ' : bc_M) (n : Nat) (v' : cs_t), jnt_ (B + 480) σ' v' → K 1831 ([(0, bc_R 999), (1, bc_R 0), (2, bc_R 218), (3, bc_R 228), (4, bc_R 229), (5, bc_I i)] ++ z) [] σ' n) : K 1815 [(0, bc_R 999), (1, bc_R 0), (2, bc_R 218), (3, bc_R 228), (4, bc_R 229), (5, bc_I i)] [] σ 0 := by
  refine G.1.1 [1831] 80 _ _ _ _ _ ?_
  refine w_restore J (by omega)  (fun σ1 t x v1 F1 y lt H hout => ?_)
  refine z_restore J (by omega) F1 y  H (fun σ2 u J2 h14 hux h2 => ?_)
  exact E [(6, bc_I t), (7, bc_I u)] _ _ _ (jo_mono J2 (by omega))
end CAS
end
section
/-! the law's body on any state, and its loop -/
section BOD
variable {g : bc_C} {d L : Nat} {xs : Nat → Int32} {K : bc_KT} {σ : bc_M} {i B : Int} {v : cs_t}
theorem lw_body (G : lw_G g (d + 20) L xs K) (i0 : 0 ≤ i) (i9 : i ≤ 3000) (hL : L ≤ 2048) (hB : B ≤ 998000) (J : jnt_ B σ v) (E0 : i + 3 < (L : Int) → ∀ (σ' : bc_M) (n : Nat) (v' : cs_t), jnt_ (B + 480) σ' v' → K 28 [(0, bc_R 999), (1, bc_R 0), (2, bc_R 218), (3, bc_R 228), (4, bc_R 229), (5, bc_I (i + 4))] [] σ' n) : K 28 [(0, bc_R 999), (1, bc_R 0), (2, bc_R 218), (3, bc_R 228), (4, bc_R 229), (5, bc_I i)] [] σ 0 := by
  refine G.1.1 [31] 60 _ _ _ _ _ ?_
  refine G.2.2.1 _ _ _ _ _ rfl ?_
  refine G.1.1 [40] 60 _ _ _ _ _ ?_
  refine bc_ob_i ⟨by constructor <;> omega, by constructor <;> omega⟩ ?_
  refine bc_br_i (fun _ => ?_) (fun c => ?_)
  · exact bc_ob_i (by decide) rfl
  have h4 : i + 3 < (L : Int) := by omega
  have E : ∀ (z : bc_LV) (σ' : bc_M) (n : Nat) (v' : cs_t), jnt_ (B + 480) σ' v' → K 1831 ([(0, bc_R 999), (1, bc_R 0), (2, bc_R 218), (3, bc_R 228), (4, bc_R 229), (5, bc_I i)] ++ z) [] σ' n := by
    intro z σ' n v' J'
    refine G.1.2 _ _ [(0, bc_R 999), (1, bc_R 0), (2, bc_R 218), (3, bc_R 228), (4, bc_R 229), (5, bc_I i)] _ _ _ (ls_ _ _) ?_
    refine G.1.1 [28] 60 _ _ _ _ _ ?_
    exact E0 h4 σ' n v' J'
  refine G.2.1 _ _ _ _ _ _ rfl (by omega) (by omega) ?_
  refine G.1.1 [288, 340, 392, 432, 460, 488, 516, 544, 602, 656, 684, 697, 725, 753, 781, 809, 837, 865, 893, 934, 974, 987, 1027, 1067, 1107, 1159, 1187, 1215, 1255, 1295, 1323, 1336, 1349, 1362, 1390, 1418, 1446, 1459, 1472, 1500, 1513, 1526, 1539, 1552, 1565, 1582, 1599, 1612, 1640, 1680, 1708, 1738, 1754, 1770, 1786, 1802, 1815, 1831] 60 _ _ _ _ _ ?_
  refine bc_ob_i (i32_in _) ?_
  refine bc_br_i (fun _ => k_addMember G i0 h4 hB J E) (fun _ => ?_)
  refine bc_br_i (fun _ => k_procession G i0 h4 hB J E) (fun _ => ?_)
  refine bc_br_i (fun _ => k_makeVow G i0 h4 hB J E) (fun _ => ?_)
  refine bc_br_i (fun _ => k_setForge G i0 h4 hB J E) (fun _ => ?_)
  refine bc_br_i (fun _ => k_repair G i0 h4 hB J E) (fun _ => ?_)
  refine bc_br_i (fun _ => k_abandon G i0 h4 hB J E) (fun _ => ?_)
  refine bc_br_i (fun _ => k_resume G i0 h4 hB J E) (fun _ => ?_)
  refine bc_br_i (fun _ => k_setNiche G i0 h4 hB J E) (fun _ => ?_)
  refine bc_br_i (fun _ => k_put G i0 h4 hB J E) (fun _ => ?_)
  refine bc_br_i (fun _ => k_passDays G i0 h4 hB J E) (fun _ => ?_)
  refine bc_br_i (fun _ => k_memberCount G i0 h4 hB J E) (fun _ => ?_)
  refine bc_br_i (fun _ => k_firstJoint G i0 h4 hB J E) (fun _ => ?_)
  refine bc_br_i (fun _ => k_secondJoint G i0 h4 hB J E) (fun _ => ?_)
  refine bc_br_i (fun _ => k_crack G i0 h4 hB J E) (fun _ => ?_)
  refine bc_br_i (fun _ => k_wear G i0 h4 hB J E) (fun _ => ?_)
  refine bc_br_i (fun _ => k_isAbandoned G i0 h4 hB J E) (fun _ => ?_)
  refine bc_br_i (fun _ => k_bearing G i0 h4 hB J E) (fun _ => ?_)
  refine bc_br_i (fun _ => k_repairCost G i0 h4 hB J E) (fun _ => ?_)
  refine bc_br_i (fun _ => k_strain G i0 h4 hB J E) (fun _ => ?_)
  refine bc_br_i (fun _ => k_strainBits G i0 h4 hB J E) (fun _ => ?_)
  refine bc_br_i (fun _ => k_links G i0 h4 hB J E) (fun _ => ?_)
  refine bc_br_i (fun _ => k_widestLoad G i0 h4 hB J E) (fun _ => ?_)
  refine bc_br_i (fun _ => k_widestLoadByTrial G i0 h4 hB J E) (fun _ => ?_)
  refine bc_br_i (fun _ => k_wayLength G i0 h4 hB J E) (fun _ => ?_)
  refine bc_br_i (fun _ => k_wayJoint G i0 h4 hB J E) (fun _ => ?_)
  refine bc_br_i (fun _ => k_isCritical G i0 h4 hB J E) (fun _ => ?_)
  refine bc_br_i (fun _ => k_isCriticalByRemoval G i0 h4 hB J E) (fun _ => ?_)
  refine bc_br_i (fun _ => k_affordableLoad G i0 h4 hB J E) (fun _ => ?_)
  refine bc_br_i (fun _ => k_affordableLoadByTable G i0 h4 hB J E) (fun _ => ?_)
  refine bc_br_i (fun _ => k_memberByBearing G i0 h4 hB J E) (fun _ => ?_)
  refine bc_br_i (fun _ => k_nicheKind G i0 h4 hB J E) (fun _ => ?_)
  refine bc_br_i (fun _ => k_nicheWeight G i0 h4 hB J E) (fun _ => ?_)
  refine bc_br_i (fun _ => k_vowCount G i0 h4 hB J E) (fun _ => ?_)
  refine bc_br_i (fun _ => k_vowAt G i0 h4 hB J E) (fun _ => ?_)
  refine bc_br_i (fun _ => k_dueDay G i0 h4 hB J E) (fun _ => ?_)
  refine bc_br_i (fun _ => k_amount G i0 h4 hB J E) (fun _ => ?_)
  refine bc_br_i (fun _ => k_canKeepAll G i0 h4 hB J E) (fun _ => ?_)
  refine bc_br_i (fun _ => k_canKeepAllBySums G i0 h4 hB J E) (fun _ => ?_)
  refine bc_br_i (fun _ => k_greatestVow G i0 h4 hB J E) (fun _ => ?_)
  refine bc_br_i (fun _ => k_keptTotal G i0 h4 hB J E) (fun _ => ?_)
  refine bc_br_i (fun _ => k_brokenTotal G i0 h4 hB J E) (fun _ => ?_)
  refine bc_br_i (fun _ => k_steel G i0 h4 hB J E) (fun _ => ?_)
  refine bc_br_i (fun _ => k_steelByAccounts G i0 h4 hB J E) (fun _ => ?_)
  refine bc_br_i (fun _ => k_day G i0 h4 hB J E) (fun _ => ?_)
  refine bc_br_i (fun _ => k_meanBearing G i0 h4 hB J E) (fun _ => ?_)
  refine bc_br_i (fun _ => k_crackedShare G i0 h4 hB J E) (fun _ => ?_)
  refine bc_br_i (fun _ => k_isConsistent G i0 h4 hB J E) (fun _ => ?_)
  refine bc_br_i (fun _ => k_renderMember G i0 h4 hB J E) (fun _ => ?_)
  refine bc_br_i (fun _ => k_renderWay G i0 h4 hB J E) (fun _ => ?_)
  refine bc_br_i (fun _ => k_outputAt G i0 h4 hB J E) (fun _ => ?_)
  refine bc_br_i (fun _ => k_type G i0 h4 hB J E) (fun _ => ?_)
  refine bc_br_i (fun _ => k_runScript G i0 h4 hB J E) (fun _ => ?_)
  refine bc_br_i (fun _ => k_errorPosition G i0 h4 hB J E) (fun _ => ?_)
  refine bc_br_i (fun _ => k_failedCommand G i0 h4 hB J E) (fun _ => ?_)
  refine bc_br_i (fun _ => k_undo G i0 h4 hB J E) (fun _ => ?_)
  refine bc_br_i (fun _ => k_save G i0 h4 hB J E) (fun _ => ?_)
  refine bc_br_i (fun _ => k_restore G i0 h4 hB J E) (fun _ => ?_)
  exact E [] _ _ v (jo_mono J (by omega))
end BOD
section LOOP
variable {p : Program} {e : Env} {s : State} {m : MethodId} {below : List Frame} {meth : Method} {c : Code} {g : bc_C} {b L : Nat} {xs : Nat → Int32}
theorem lw_loop {c9 s9 : Nat} (F : bc_Fx g mL_law 20 p room_1 s m #[Value.ref b] meth c c9 s9) (hz : bc_z g = s.heap.size) (had : bc_ad g 999 = b) (hX : va_X b L xs s s.heap) (hbl : b < s.heap.size) (hL : L ≤ 2048) : ∀ (k j c0 s0 : Nat) (σ : bc_M) (v : cs_t), j + k = 513 → c0 ≤ 230 + 50 * j → s0 ≤ 3939 + 300 * j → jnt_ (480 * (j : Int)) σ v → bc_T g mL_law p e room_1 s m #[Value.ref b] below meth c (lw_Z below #[Value.ref b] s) c0 s0 28 [(0, bc_R 999), (1, bc_R 0), (2, bc_R 218), (3, bc_R 228), (4, bc_R 229), (5, bc_I (4 * (j : Int)))] [] σ 0 := by
  have Fx : ∀ c0 s0 : Nat, c0 + 50 ≤ 603072 → s0 + 300 ≤ 7178346 → bc_Fx g mL_law 20 p room_1 s m #[Value.ref b] meth c c0 s0 := by
    intro c0 s0 hc hs
    obtain ⟨hx, hb, hml, hts, hown, hlocks, hap, htr, hE, hz0, hok, q1, q2, -, -, hret⟩ := F
    exact ⟨hx, hb, hml, hts, hown, hlocks, hap, htr, hE, hz0, hok, q1, q2, hc, hs, hret⟩
  intro k
  induction k with
  | zero =>
    intro j c0 s0 σ v hj hc hs J
    have G := lw_good (e := e) (below := below) (Fx c0 s0 (by omega) (by omega)) hz ⟨by omega, by omega⟩ had hX hbl (by omega)
    refine lw_body (d := 0) G (by omega) (by omega) hL (by omega) J (fun h4 => ?_)
    omega
  | succ k ih =>
    intro j c0 s0 σ v hj hc hs J
    have G := lw_good (e := e) (below := below) (Fx c0 s0 (by omega) (by omega)) hz ⟨by omega, by omega⟩ had hX hbl (by omega)
    refine lw_body (d := 0) G (by omega) (by omega) hL (by omega) J (fun h4 σ' n v' J' => ?_)
    intro H locs ls hn hH hS hl
    have hn : n ≤ 50 := hn
    have J2 : jnt_ (480 * ((j + 1 : Nat) : Int)) σ' v' := by
      rw [show 480 * ((j + 1 : Nat) : Int) = 480 * (j : Int) + 480 by omega]
      exact J'
    have q := ih (j + 1) (c0 + n) (s0 + 6 * n) σ' v' (by omega) (by omega) (by omega) J2
    rw [show 4 * ((j + 1 : Nat) : Int) = 4 * (j : Int) + 4 by omega] at q
    exact q H locs ls (Nat.zero_le _) hH hS hl
end LOOP
end
