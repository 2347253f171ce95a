/-! the law's cases over fresh objects -/
abbrev lb_i (i : Int) : bc_LV := [(0, bc_R 999), (1, bc_R 0), (2, bc_R 218), (3, bc_R 228), (4, bc_R 229), (5, bc_I i)]
section CAS
variable {g : bc_C} {d L : Nat} {xs : Nat → Int32} {K : bc_KT} {σ : bc_M} {i : Int}
theorem k_addMember (G : lw_G g (d + 20) L xs K) (i0 : 0 ≤ i) (i1 : i + 3 < (L : Int)) (hF : fa_ 0 σ v0_) (hR : rf_ σ) (E : ∀ (z : bc_LV) (σ' : bc_M) (n : Nat), K 3091 ([(0, bc_R 999), (1, bc_R 0), (2, bc_R 218), (3, bc_R 228), (4, bc_R 229), (5, bc_I i)] ++ z) [] σ' n) : K 288 [(0, bc_R 999), (1, bc_R 0), (2, bc_R 218), (3, bc_R 228), (4, bc_R 229), (5, bc_I i)] [] σ 0 := by
  refine G.1.1 [294] 60 _ _ _ _ _ ?_
  refine G.2.1 _ _ _ _ _ _ rfl (by omega) (by omega) ?_
  refine G.1.1 [300] 60 _ _ _ _ _ ?_
  refine G.2.1 _ _ _ _ _ _ rfl (by omega) (by omega) ?_
  refine G.1.1 [306] 60 _ _ _ _ _ ?_
  refine G.2.1 _ _ _ _ _ _ rfl (by omega) (by omega) ?_
  refine G.1.1 [319] 80 _ _ _ _ _ ?_
  refine w_addMember hF (i32_in _) (i32_in _) (i32_in _) (fun σ1 t ht yo hv => ?_)
  refine G.2.1 _ _ _ _ _ _ rfl (by omega) (by omega) ?_
  refine G.1.1 [325] 80 _ _ _ _ _ ?_
  refine G.2.1 _ _ _ _ _ _ rfl (by omega) (by omega) ?_
  refine G.1.1 [331] 80 _ _ _ _ _ ?_
  refine G.2.1 _ _ _ _ _ _ rfl (by omega) (by omega) ?_
  refine G.1.1 [3091] 80 _ _ _ _ _ ?_
  refine z_addMember (rf_yo hR yo) (i32_in _) (i32_in _) (i32_in _) (fun σ2 t2 u ht2 hu l2 => ?_)
  have hb : 0 ≤ t ∧ t ≤ 4 := by rw [ht]; exact adt_in _ _ _
  refine t_X11_thrown l2.1 ?_
  have ee : t2 = t := ht2.trans ht.symm
  refine bc_ob_i ⟨by constructor <;> omega, by constructor <;> omega⟩ ?_
  refine bc_br_i (fun _ => ?_) (fun c => absurd ee c)
  refine bc_ob_i (by constructor <;> omega) ?_
  refine bc_br_i (fun c0 => ?_) (fun _ => E [(6, bc_I t), (7, bc_I u)] _ _)
  refine bc_ob_i rfl ?_
  have e : σ2.2.1 = (Int32.ofInt u).toInt64 := by rw [l2.2.2, hu (by omega)]; exact hv c0
  refine bc_ob_i (by rw [e, lg0]; decide) ?_
  exact bc_br_i (fun _ => E [(6, bc_I t), (7, bc_I u)] _ _) (fun c => absurd (by rw [e, lg0]; rfl) c)
theorem k_procession (G : lw_G g (d + 20) L xs K) (i0 : 0 ≤ i) (i1 : i + 3 < (L : Int)) (hF : fa_ 0 σ v0_) (hR : rf_ σ) (E : ∀ (z : bc_LV) (σ' : bc_M) (n : Nat), K 3091 ([(0, bc_R 999), (1, bc_R 0), (2, bc_R 218), (3, bc_R 228), (4, bc_R 229), (5, bc_I i)] ++ z) [] σ' n) : K 368 [(0, bc_R 999), (1, bc_R 0), (2, bc_R 218), (3, bc_R 228), (4, bc_R 229), (5, bc_I i)] [] σ 0 := by
  refine G.1.1 [374] 60 _ _ _ _ _ ?_
  refine G.2.1 _ _ _ _ _ _ rfl (by omega) (by omega) ?_
  refine G.1.1 [380] 60 _ _ _ _ _ ?_
  refine G.2.1 _ _ _ _ _ _ rfl (by omega) (by omega) ?_
  refine G.1.1 [386] 60 _ _ _ _ _ ?_
  refine G.2.1 _ _ _ _ _ _ rfl (by omega) (by omega) ?_
  refine G.1.1 [399] 80 _ _ _ _ _ ?_
  refine w_procession hF (i32_in _) (i32_in _) (i32_in _) (fun σ1 t ht yo => ?_)
  refine G.2.1 _ _ _ _ _ _ rfl (by omega) (by omega) ?_
  refine G.1.1 [405] 80 _ _ _ _ _ ?_
  refine G.2.1 _ _ _ _ _ _ rfl (by omega) (by omega) ?_
  refine G.1.1 [411] 80 _ _ _ _ _ ?_
  refine G.2.1 _ _ _ _ _ _ rfl (by omega) (by omega) ?_
  refine G.1.1 [3091] 80 _ _ _ _ _ ?_
  refine z_procession (rf_yo hR yo) (i32_in _) (i32_in _) (i32_in _) (fun σ2 t2 u ht2 hu l2 => ?_)
  have w9 := wat_in (xs (i + 1).toNat).toInt (xs (i + 2).toNat).toInt (xs (i + 3).toNat).toInt
  have hb : 1 ≤ t ∧ t ≤ 4 := by omega
  refine t_X11_thrown l2.1 ?_
  have ee : t2 = t := ht2.trans ht.symm
  refine bc_ob_i ⟨by constructor <;> omega, by constructor <;> omega⟩ ?_
  refine bc_br_i (fun _ => ?_) (fun c => absurd ee c)
  refine bc_ob_i (by constructor <;> omega) ?_
  exact bc_br_i (fun c0 => absurd c0 (by omega)) (fun _ => E [(6, bc_I t), (7, bc_I u)] _ _)
theorem k_makeVow (G : lw_G g (d + 20) L xs K) (i0 : 0 ≤ i) (i1 : i + 3 < (L : Int)) (hF : fa_ 0 σ v0_) (hR : rf_ σ) (E : ∀ (z : bc_LV) (σ' : bc_M) (n : Nat), K 3091 ([(0, bc_R 999), (1, bc_R 0), (2, bc_R 218), (3, bc_R 228), (4, bc_R 229), (5, bc_I i)] ++ z) [] σ' n) : K 448 [(0, bc_R 999), (1, bc_R 0), (2, bc_R 218), (3, bc_R 228), (4, bc_R 229), (5, bc_I i)] [] σ 0 := by
  refine G.1.1 [454] 60 _ _ _ _ _ ?_
  refine G.2.1 _ _ _ _ _ _ rfl (by omega) (by omega) ?_
  refine G.1.1 [460] 60 _ _ _ _ _ ?_
  refine G.2.1 _ _ _ _ _ _ rfl (by omega) (by omega) ?_
  refine G.1.1 [473] 80 _ _ _ _ _ ?_
  refine w_makeVow hF (i32_in _) (i32_in _) (fun σ1 t ht yo hv => ?_)
  refine G.2.1 _ _ _ _ _ _ rfl (by omega) (by omega) ?_
  refine G.1.1 [479] 80 _ _ _ _ _ ?_
  refine G.2.1 _ _ _ _ _ _ rfl (by omega) (by omega) ?_
  refine G.1.1 [3091] 80 _ _ _ _ _ ?_
  refine z_makeVow (rf_yo hR yo) (i32_in _) (i32_in _) (fun σ2 t2 u ht2 hu l2 => ?_)
  have hb : 0 ≤ t ∧ t ≤ 4 := by rw [ht]; exact by split <;> decide
  refine t_X11_thrown l2.1 ?_
  have ee : t2 = t := ht2.trans ht.symm
  refine bc_ob_i ⟨by constructor <;> omega, by constructor <;> omega⟩ ?_
  refine bc_br_i (fun _ => ?_) (fun c => absurd ee c)
  refine bc_ob_i (by constructor <;> omega) ?_
  refine bc_br_i (fun c0 => ?_) (fun _ => E [(6, bc_I t), (7, bc_I u)] _ _)
  refine bc_ob_i rfl ?_
  have e : σ2.2.1 = (Int32.ofInt u).toInt64 := by rw [l2.2.2, hu (by omega)]; exact hv c0
  refine bc_ob_i (by rw [e, lg0]; decide) ?_
  exact bc_br_i (fun _ => E [(6, bc_I t), (7, bc_I u)] _ _) (fun c => absurd (by rw [e, lg0]; rfl) c)
theorem k_setForge (G : lw_G g (d + 20) L xs K) (i0 : 0 ≤ i) (i1 : i + 3 < (L : Int)) (hF : fa_ 0 σ v0_) (hR : rf_ σ) (E : ∀ (z : bc_LV) (σ' : bc_M) (n : Nat), K 3091 ([(0, bc_R 999), (1, bc_R 0), (2, bc_R 218), (3, bc_R 228), (4, bc_R 229), (5, bc_I i)] ++ z) [] σ' n) : K 516 [(0, bc_R 999), (1, bc_R 0), (2, bc_R 218), (3, bc_R 228), (4, bc_R 229), (5, bc_I i)] [] σ 0 := by
  refine G.1.1 [522] 60 _ _ _ _ _ ?_
  refine G.2.1 _ _ _ _ _ _ rfl (by omega) (by omega) ?_
  refine G.1.1 [535] 80 _ _ _ _ _ ?_
  refine w_setForge hF (i32_in _) (fun σ1 t ht yo hv => ?_)
  refine G.2.1 _ _ _ _ _ _ rfl (by omega) (by omega) ?_
  refine G.1.1 [3091] 80 _ _ _ _ _ ?_
  refine z_setForge (rf_yo hR yo) (i32_in _) (fun σ2 t2 u ht2 hu l2 => ?_)
  have hb : 0 ≤ t ∧ t ≤ 4 := by rw [ht]; exact by split <;> decide
  refine t_X11_thrown l2.1 ?_
  have ee : t2 = t := ht2.trans ht.symm
  refine bc_ob_i ⟨by constructor <;> omega, by constructor <;> omega⟩ ?_
  refine bc_br_i (fun _ => ?_) (fun c => absurd ee c)
  refine bc_ob_i (by constructor <;> omega) ?_
  refine bc_br_i (fun c0 => ?_) (fun _ => E [(6, bc_I t), (7, bc_I u)] _ _)
  refine bc_ob_i rfl ?_
  have e : σ2.2.1 = (Int32.ofInt u).toInt64 := by rw [l2.2.2, hu (by omega)]; exact hv c0
  refine bc_ob_i (by rw [e, lg0]; decide) ?_
  exact bc_br_i (fun _ => E [(6, bc_I t), (7, bc_I u)] _ _) (fun c => absurd (by rw [e, lg0]; rfl) c)
theorem k_repair (G : lw_G g (d + 20) L xs K) (i0 : 0 ≤ i) (i1 : i + 3 < (L : Int)) (hF : fa_ 0 σ v0_) (hR : rf_ σ) (E : ∀ (z : bc_LV) (σ' : bc_M) (n : Nat), K 3091 ([(0, bc_R 999), (1, bc_R 0), (2, bc_R 218), (3, bc_R 228), (4, bc_R 229), (5, bc_I i)] ++ z) [] σ' n) : K 572 [(0, bc_R 999), (1, bc_R 0), (2, bc_R 218), (3, bc_R 228), (4, bc_R 229), (5, bc_I i)] [] σ 0 := by
  refine G.1.1 [578] 60 _ _ _ _ _ ?_
  refine G.2.1 _ _ _ _ _ _ rfl (by omega) (by omega) ?_
  refine G.1.1 [591] 80 _ _ _ _ _ ?_
  refine w_repair hF (i32_in _) (fun σ1 t ht yo => ?_)
  refine G.2.1 _ _ _ _ _ _ rfl (by omega) (by omega) ?_
  refine G.1.1 [3091] 80 _ _ _ _ _ ?_
  refine z_repair (rf_yo hR yo) (i32_in _) (fun σ2 t2 u ht2 hu l2 => ?_)
  have hb : 0 ≤ t ∧ t ≤ 4 := by omega
  refine t_X11_thrown l2.1 ?_
  have ee : t2 = t := ht2.trans ht.symm
  refine bc_ob_i ⟨by constructor <;> omega, by constructor <;> omega⟩ ?_
  refine bc_br_i (fun _ => ?_) (fun c => absurd ee c)
  refine bc_ob_i (by constructor <;> omega) ?_
  exact bc_br_i (fun c0 => absurd c0 (by omega)) (fun _ => E [(6, bc_I t), (7, bc_I u)] _ _)
theorem k_abandon (G : lw_G g (d + 20) L xs K) (i0 : 0 ≤ i) (i1 : i + 3 < (L : Int)) (hF : fa_ 0 σ v0_) (hR : rf_ σ) (E : ∀ (z : bc_LV) (σ' : bc_M) (n : Nat), K 3091 ([(0, bc_R 999), (1, bc_R 0), (2, bc_R 218), (3, bc_R 228), (4, bc_R 229), (5, bc_I i)] ++ z) [] σ' n) : K 628 [(0, bc_R 999), (1, bc_R 0), (2, bc_R 218), (3, bc_R 228), (4, bc_R 229), (5, bc_I i)] [] σ 0 := by
  refine G.1.1 [634] 60 _ _ _ _ _ ?_
  refine G.2.1 _ _ _ _ _ _ rfl (by omega) (by omega) ?_
  refine G.1.1 [647] 80 _ _ _ _ _ ?_
  refine w_abandon hF (i32_in _) (fun σ1 t ht yo => ?_)
  refine G.2.1 _ _ _ _ _ _ rfl (by omega) (by omega) ?_
  refine G.1.1 [3091] 80 _ _ _ _ _ ?_
  refine z_abandon (rf_yo hR yo) (i32_in _) (fun σ2 t2 u ht2 hu l2 => ?_)
  have hb : 0 ≤ t ∧ t ≤ 4 := by omega
  refine t_X11_thrown l2.1 ?_
  have ee : t2 = t := ht2.trans ht.symm
  refine bc_ob_i ⟨by constructor <;> omega, by constructor <;> omega⟩ ?_
  refine bc_br_i (fun _ => ?_) (fun c => absurd ee c)
  refine bc_ob_i (by constructor <;> omega) ?_
  exact bc_br_i (fun c0 => absurd c0 (by omega)) (fun _ => E [(6, bc_I t), (7, bc_I u)] _ _)
theorem k_resume (G : lw_G g (d + 20) L xs K) (i0 : 0 ≤ i) (i1 : i + 3 < (L : Int)) (hF : fa_ 0 σ v0_) (hR : rf_ σ) (E : ∀ (z : bc_LV) (σ' : bc_M) (n : Nat), K 3091 ([(0, bc_R 999), (1, bc_R 0), (2, bc_R 218), (3, bc_R 228), (4, bc_R 229), (5, bc_I i)] ++ z) [] σ' n) : K 684 [(0, bc_R 999), (1, bc_R 0), (2, bc_R 218), (3, bc_R 228), (4, bc_R 229), (5, bc_I i)] [] σ 0 := by
  refine G.1.1 [690] 60 _ _ _ _ _ ?_
  refine G.2.1 _ _ _ _ _ _ rfl (by omega) (by omega) ?_
  refine G.1.1 [703] 80 _ _ _ _ _ ?_
  refine w_resume hF (i32_in _) (fun σ1 t ht yo => ?_)
  refine G.2.1 _ _ _ _ _ _ rfl (by omega) (by omega) ?_
  refine G.1.1 [3091] 80 _ _ _ _ _ ?_
  refine z_resume (rf_yo hR yo) (i32_in _) (fun σ2 t2 u ht2 hu l2 => ?_)
  have hb : 0 ≤ t ∧ t ≤ 4 := by omega
  refine t_X11_thrown l2.1 ?_
  have ee : t2 = t := ht2.trans ht.symm
  refine bc_ob_i ⟨by constructor <;> omega, by constructor <;> omega⟩ ?_
  refine bc_br_i (fun _ => ?_) (fun c => absurd ee c)
  refine bc_ob_i (by constructor <;> omega) ?_
  exact bc_br_i (fun c0 => absurd c0 (by omega)) (fun _ => E [(6, bc_I t), (7, bc_I u)] _ _)
theorem k_setNiche (G : lw_G g (d + 20) L xs K) (i0 : 0 ≤ i) (i1 : i + 3 < (L : Int)) (hF : fa_ 0 σ v0_) (hR : rf_ σ) (E : ∀ (z : bc_LV) (σ' : bc_M) (n : Nat), K 3091 ([(0, bc_R 999), (1, bc_R 0), (2, bc_R 218), (3, bc_R 228), (4, bc_R 229), (5, bc_I i)] ++ z) [] σ' n) : K 740 [(0, bc_R 999), (1, bc_R 0), (2, bc_R 218), (3, bc_R 228), (4, bc_R 229), (5, bc_I i)] [] σ 0 := by
  refine G.1.1 [746] 60 _ _ _ _ _ ?_
  refine G.2.1 _ _ _ _ _ _ rfl (by omega) (by omega) ?_
  refine G.1.1 [760] 80 _ _ _ _ _ ?_
  refine w_setNiche hF (by omega) (fun σ1 t ht yo hv => ?_)
  refine G.2.1 _ _ _ _ _ _ rfl (by omega) (by omega) ?_
  refine G.1.1 [3091] 80 _ _ _ _ _ ?_
  refine z_setNiche (rf_yo hR yo) (by omega) (fun σ2 t2 u ht2 hu l2 => ?_)
  have hb : 0 ≤ t ∧ t ≤ 4 := by rw [ht]; exact by split <;> decide
  refine t_X11_thrown l2.1 ?_
  have ee : t2 = t := ht2.trans ht.symm
  refine bc_ob_i ⟨by constructor <;> omega, by constructor <;> omega⟩ ?_
  refine bc_br_i (fun _ => ?_) (fun c => absurd ee c)
  refine bc_ob_i (by constructor <;> omega) ?_
  refine bc_br_i (fun c0 => ?_) (fun _ => E [(6, bc_I t), (7, bc_I u)] _ _)
  refine bc_ob_i rfl ?_
  have e : σ2.2.1 = (Int32.ofInt u).toInt64 := by rw [l2.2.2, hu (by omega)]; exact hv c0
  refine bc_ob_i (by rw [e, lg0]; decide) ?_
  exact bc_br_i (fun _ => E [(6, bc_I t), (7, bc_I u)] _ _) (fun c => absurd (by rw [e, lg0]; rfl) c)
theorem k_put (G : lw_G g (d + 20) L xs K) (i0 : 0 ≤ i) (i1 : i + 3 < (L : Int)) (hF : fa_ 0 σ v0_) (hR : rf_ σ) (E : ∀ (z : bc_LV) (σ' : bc_M) (n : Nat), K 3091 ([(0, bc_R 999), (1, bc_R 0), (2, bc_R 218), (3, bc_R 228), (4, bc_R 229), (5, bc_I i)] ++ z) [] σ' n) : K 798 [(0, bc_R 999), (1, bc_R 0), (2, bc_R 218), (3, bc_R 228), (4, bc_R 229), (5, bc_I i)] [] σ 0 := by
  refine G.1.1 [804] 60 _ _ _ _ _ ?_
  refine G.2.1 _ _ _ _ _ _ rfl (by omega) (by omega) ?_
  refine G.1.1 [810] 60 _ _ _ _ _ ?_
  refine G.2.1 _ _ _ _ _ _ rfl (by omega) (by omega) ?_
  refine G.1.1 [817] 60 _ _ _ _ _ ?_
  refine G.2.1 _ _ _ _ _ _ rfl (by omega) (by omega) ?_
  refine G.1.1 [830] 80 _ _ _ _ _ ?_
  refine w_put hF (i32_in _) (by omega) (i32_in _) (fun σ1 t ht yo hv => ?_)
  refine G.2.1 _ _ _ _ _ _ rfl (by omega) (by omega) ?_
  refine G.1.1 [836] 80 _ _ _ _ _ ?_
  refine G.2.1 _ _ _ _ _ _ rfl (by omega) (by omega) ?_
  refine G.1.1 [843] 80 _ _ _ _ _ ?_
  refine G.2.1 _ _ _ _ _ _ rfl (by omega) (by omega) ?_
  refine G.1.1 [3091] 80 _ _ _ _ _ ?_
  refine z_put (rf_yo hR yo) (i32_in _) (by omega) (i32_in _) (fun σ2 t2 u ht2 hu l2 => ?_)
  have hb : 0 ≤ t ∧ t ≤ 4 := by rw [ht]; exact put_in _ _ _ _
  refine t_X11_thrown l2.1 ?_
  have ee : t2 = t := ht2.trans ht.symm
  refine bc_ob_i ⟨by constructor <;> omega, by constructor <;> omega⟩ ?_
  refine bc_br_i (fun _ => ?_) (fun c => absurd ee c)
  refine bc_ob_i (by constructor <;> omega) ?_
  refine bc_br_i (fun c0 => ?_) (fun _ => E [(6, bc_I t), (7, bc_I u)] _ _)
  refine bc_ob_i rfl ?_
  have e : σ2.2.1 = (Int32.ofInt u).toInt64 := by rw [l2.2.2, hu (by omega)]; exact hv c0
  refine bc_ob_i (by rw [e, lg0]; decide) ?_
  exact bc_br_i (fun _ => E [(6, bc_I t), (7, bc_I u)] _ _) (fun c => absurd (by rw [e, lg0]; rfl) c)
theorem k_passDays (G : lw_G g (d + 20) L xs K) (i0 : 0 ≤ i) (i1 : i + 3 < (L : Int)) (hF : fa_ 0 σ v0_) (hR : rf_ σ) (E : ∀ (z : bc_LV) (σ' : bc_M) (n : Nat), K 3091 ([(0, bc_R 999), (1, bc_R 0), (2, bc_R 218), (3, bc_R 228), (4, bc_R 229), (5, bc_I i)] ++ z) [] σ' n) : K 880 [(0, bc_R 999), (1, bc_R 0), (2, bc_R 218), (3, bc_R 228), (4, bc_R 229), (5, bc_I i)] [] σ 0 := by
  refine G.1.1 [886] 60 _ _ _ _ _ ?_
  refine G.2.1 _ _ _ _ _ _ rfl (by omega) (by omega) ?_
  refine G.1.1 [899] 80 _ _ _ _ _ ?_
  refine w_passDays hF (i32_in _) (fun σ1 t ht yo hv => ?_)
  refine G.2.1 _ _ _ _ _ _ rfl (by omega) (by omega) ?_
  refine G.1.1 [3091] 80 _ _ _ _ _ ?_
  refine z_passDays (rf_yo hR yo) (i32_in _) (fun σ2 t2 u ht2 hu l2 => ?_)
  have hb : 0 ≤ t ∧ t ≤ 4 := by rw [ht]; exact by split <;> decide
  refine t_X11_thrown l2.1 ?_
  have ee : t2 = t := ht2.trans ht.symm
  refine bc_ob_i ⟨by constructor <;> omega, by constructor <;> omega⟩ ?_
  refine bc_br_i (fun _ => ?_) (fun c => absurd ee c)
  refine bc_ob_i (by constructor <;> omega) ?_
  refine bc_br_i (fun c0 => ?_) (fun _ => E [(6, bc_I t), (7, bc_I u)] _ _)
  refine bc_ob_i rfl ?_
  have e : σ2.2.1 = (Int32.ofInt u).toInt64 := by rw [l2.2.2, hu (by omega)]; exact hv c0
  refine bc_ob_i (by rw [e, lg0]; decide) ?_
  exact bc_br_i (fun _ => E [(6, bc_I t), (7, bc_I u)] _ _) (fun c => absurd (by rw [e, lg0]; rfl) c)
theorem k_memberCount (G : lw_G g (d + 20) L xs K) (i0 : 0 ≤ i) (i1 : i + 3 < (L : Int)) (hF : fa_ 0 σ v0_) (hR : rf_ σ) (E : ∀ (z : bc_LV) (σ' : bc_M) (n : Nat), K 3091 ([(0, bc_R 999), (1, bc_R 0), (2, bc_R 218), (3, bc_R 228), (4, bc_R 229), (5, bc_I i)] ++ z) [] σ' n) : K 936 [(0, bc_R 999), (1, bc_R 0), (2, bc_R 218), (3, bc_R 228), (4, bc_R 229), (5, bc_I i)] [] σ 0 := by
  refine G.1.1 [3091] 60 _ _ _ _ _ ?_
  refine t_X10_memberCount hF ?_
  refine z_memberCount hR (fun σ2 => ?_)
  refine bc_ob_i ⟨by decide, by decide⟩ ?_
  exact bc_br_i (fun _ => E [] _ _) (fun c => absurd (by decide) c)
theorem k_firstJoint (G : lw_G g (d + 20) L xs K) (i0 : 0 ≤ i) (i1 : i + 3 < (L : Int)) (hF : fa_ 0 σ v0_) (hR : rf_ σ) (E : ∀ (z : bc_LV) (σ' : bc_M) (n : Nat), K 3091 ([(0, bc_R 999), (1, bc_R 0), (2, bc_R 218), (3, bc_R 228), (4, bc_R 229), (5, bc_I i)] ++ z) [] σ' n) : K 949 [(0, bc_R 999), (1, bc_R 0), (2, bc_R 218), (3, bc_R 228), (4, bc_R 229), (5, bc_I i)] [] σ 0 := by
  refine G.1.1 [955] 60 _ _ _ _ _ ?_
  refine G.2.1 _ _ _ _ _ _ rfl (by omega) (by omega) ?_
  refine G.1.1 [968] 80 _ _ _ _ _ ?_
  refine w_firstJoint hF (i32_in _) (fun σ1 t ht yo => ?_)
  refine G.2.1 _ _ _ _ _ _ rfl (by omega) (by omega) ?_
  refine G.1.1 [3091] 80 _ _ _ _ _ ?_
  refine z_firstJoint (rf_yo hR yo) (i32_in _) (fun σ2 t2 u ht2 hu l2 => ?_)
  have hb : 0 ≤ t ∧ t ≤ 4 := by omega
  refine t_X11_thrown l2.1 ?_
  have ee : t2 = t := ht2.trans ht.symm
  refine bc_ob_i ⟨by constructor <;> omega, by constructor <;> omega⟩ ?_
  refine bc_br_i (fun _ => ?_) (fun c => absurd ee c)
  refine bc_ob_i (by constructor <;> omega) ?_
  exact bc_br_i (fun c0 => absurd c0 (by omega)) (fun _ => E [(6, bc_I t), (7, bc_I u)] _ _)
theorem k_secondJoint (G : lw_G g (d + 20) L xs K) (i0 : 0 ≤ i) (i1 : i + 3 < (L : Int)) (hF : fa_ 0 σ v0_) (hR : rf_ σ) (E : ∀ (z : bc_LV) (σ' : bc_M) (n : Nat), K 3091 ([(0, bc_R 999), (1, bc_R 0), (2, bc_R 218), (3, bc_R 228), (4, bc_R 229), (5, bc_I i)] ++ z) [] σ' n) : K 1005 [(0, bc_R 999), (1, bc_R 0), (2, bc_R 218), (3, bc_R 228), (4, bc_R 229), (5, bc_I i)] [] σ 0 := by
  refine G.1.1 [1011] 60 _ _ _ _ _ ?_
  refine G.2.1 _ _ _ _ _ _ rfl (by omega) (by omega) ?_
  refine G.1.1 [1024] 80 _ _ _ _ _ ?_
  refine w_secondJoint hF (i32_in _) (fun σ1 t ht yo => ?_)
  refine G.2.1 _ _ _ _ _ _ rfl (by omega) (by omega) ?_
  refine G.1.1 [3091] 80 _ _ _ _ _ ?_
  refine z_secondJoint (rf_yo hR yo) (i32_in _) (fun σ2 t2 u ht2 hu l2 => ?_)
  have hb : 0 ≤ t ∧ t ≤ 4 := by omega
  refine t_X11_thrown l2.1 ?_
  have ee : t2 = t := ht2.trans ht.symm
  refine bc_ob_i ⟨by constructor <;> omega, by constructor <;> omega⟩ ?_
  refine bc_br_i (fun _ => ?_) (fun c => absurd ee c)
  refine bc_ob_i (by constructor <;> omega) ?_
  exact bc_br_i (fun c0 => absurd c0 (by omega)) (fun _ => E [(6, bc_I t), (7, bc_I u)] _ _)
theorem k_crack (G : lw_G g (d + 20) L xs K) (i0 : 0 ≤ i) (i1 : i + 3 < (L : Int)) (hF : fa_ 0 σ v0_) (hR : rf_ σ) (E : ∀ (z : bc_LV) (σ' : bc_M) (n : Nat), K 3091 ([(0, bc_R 999), (1, bc_R 0), (2, bc_R 218), (3, bc_R 228), (4, bc_R 229), (5, bc_I i)] ++ z) [] σ' n) : K 1061 [(0, bc_R 999), (1, bc_R 0), (2, bc_R 218), (3, bc_R 228), (4, bc_R 229), (5, bc_I i)] [] σ 0 := by
  refine G.1.1 [1067] 60 _ _ _ _ _ ?_
  refine G.2.1 _ _ _ _ _ _ rfl (by omega) (by omega) ?_
  refine G.1.1 [1080] 80 _ _ _ _ _ ?_
  refine w_crack hF (i32_in _) (fun σ1 t ht yo => ?_)
  refine G.2.1 _ _ _ _ _ _ rfl (by omega) (by omega) ?_
  refine G.1.1 [3091] 80 _ _ _ _ _ ?_
  refine z_crack (rf_yo hR yo) (i32_in _) (fun σ2 t2 u ht2 hu l2 => ?_)
  have hb : 0 ≤ t ∧ t ≤ 4 := by omega
  refine t_X11_thrown l2.1 ?_
  have ee : t2 = t := ht2.trans ht.symm
  refine bc_ob_i ⟨by constructor <;> omega, by constructor <;> omega⟩ ?_
  refine bc_br_i (fun _ => ?_) (fun c => absurd ee c)
  refine bc_ob_i (by constructor <;> omega) ?_
  exact bc_br_i (fun c0 => absurd c0 (by omega)) (fun _ => E [(6, bc_I t), (7, bc_I u)] _ _)
theorem k_wear (G : lw_G g (d + 20) L xs K) (i0 : 0 ≤ i) (i1 : i + 3 < (L : Int)) (hF : fa_ 0 σ v0_) (hR : rf_ σ) (E : ∀ (z : bc_LV) (σ' : bc_M) (n : Nat), K 3091 ([(0, bc_R 999), (1, bc_R 0), (2, bc_R 218), (3, bc_R 228), (4, bc_R 229), (5, bc_I i)] ++ z) [] σ' n) : K 1117 [(0, bc_R 999), (1, bc_R 0), (2, bc_R 218), (3, bc_R 228), (4, bc_R 229), (5, bc_I i)] [] σ 0 := by
  refine G.1.1 [1123] 60 _ _ _ _ _ ?_
  refine G.2.1 _ _ _ _ _ _ rfl (by omega) (by omega) ?_
  refine G.1.1 [1136] 80 _ _ _ _ _ ?_
  refine w_wear hF (i32_in _) (fun σ1 t ht yo => ?_)
  refine G.2.1 _ _ _ _ _ _ rfl (by omega) (by omega) ?_
  refine G.1.1 [3091] 80 _ _ _ _ _ ?_
  refine z_wear (rf_yo hR yo) (i32_in _) (fun σ2 t2 u ht2 hu l2 => ?_)
  have hb : 0 ≤ t ∧ t ≤ 4 := by omega
  refine t_X11_thrown l2.1 ?_
  have ee : t2 = t := ht2.trans ht.symm
  refine bc_ob_i ⟨by constructor <;> omega, by constructor <;> omega⟩ ?_
  refine bc_br_i (fun _ => ?_) (fun c => absurd ee c)
  refine bc_ob_i (by constructor <;> omega) ?_
  exact bc_br_i (fun c0 => absurd c0 (by omega)) (fun _ => E [(6, bc_I t), (7, bc_I u)] _ _)
theorem k_isAbandoned (G : lw_G g (d + 20) L xs K) (i0 : 0 ≤ i) (i1 : i + 3 < (L : Int)) (hF : fa_ 0 σ v0_) (hR : rf_ σ) (E : ∀ (z : bc_LV) (σ' : bc_M) (n : Nat), K 3091 ([(0, bc_R 999), (1, bc_R 0), (2, bc_R 218), (3, bc_R 228), (4, bc_R 229), (5, bc_I i)] ++ z) [] σ' n) : K 1173 [(0, bc_R 999), (1, bc_R 0), (2, bc_R 218), (3, bc_R 228), (4, bc_R 229), (5, bc_I i)] [] σ 0 := by
  refine G.1.1 [1179] 60 _ _ _ _ _ ?_
  refine G.2.1 _ _ _ _ _ _ rfl (by omega) (by omega) ?_
  refine G.1.1 [1192] 80 _ _ _ _ _ ?_
  refine w_isAbandoned hF (i32_in _) (fun σ1 t ht yo => ?_)
  refine G.2.1 _ _ _ _ _ _ rfl (by omega) (by omega) ?_
  refine G.1.1 [3091] 80 _ _ _ _ _ ?_
  refine z_isAbandoned (rf_yo hR yo) (i32_in _) (fun σ2 t2 u ht2 hu l2 => ?_)
  have hb : 0 ≤ t ∧ t ≤ 4 := by omega
  refine t_X11_thrown l2.1 ?_
  have ee : t2 = t := ht2.trans ht.symm
  refine bc_ob_i ⟨by constructor <;> omega, by constructor <;> omega⟩ ?_
  refine bc_br_i (fun _ => ?_) (fun c => absurd ee c)
  refine bc_ob_i (by constructor <;> omega) ?_
  exact bc_br_i (fun c0 => absurd c0 (by omega)) (fun _ => E [(6, bc_I t), (7, bc_I u)] _ _)
theorem k_bearing (G : lw_G g (d + 20) L xs K) (i0 : 0 ≤ i) (i1 : i + 3 < (L : Int)) (hF : fa_ 0 σ v0_) (hR : rf_ σ) (E : ∀ (z : bc_LV) (σ' : bc_M) (n : Nat), K 3091 ([(0, bc_R 999), (1, bc_R 0), (2, bc_R 218), (3, bc_R 228), (4, bc_R 229), (5, bc_I i)] ++ z) [] σ' n) : K 1236 [(0, bc_R 999), (1, bc_R 0), (2, bc_R 218), (3, bc_R 228), (4, bc_R 229), (5, bc_I i)] [] σ 0 := by
  refine G.1.1 [1242] 60 _ _ _ _ _ ?_
  refine G.2.1 _ _ _ _ _ _ rfl (by omega) (by omega) ?_
  refine G.1.1 [1255] 80 _ _ _ _ _ ?_
  refine w_bearing hF (i32_in _) (fun σ1 t ht yo => ?_)
  refine G.2.1 _ _ _ _ _ _ rfl (by omega) (by omega) ?_
  refine G.1.1 [3091] 80 _ _ _ _ _ ?_
  refine z_bearing (rf_yo hR yo) (i32_in _) (fun σ2 t2 u ht2 hu l2 => ?_)
  have hb : 0 ≤ t ∧ t ≤ 4 := by omega
  refine t_X11_thrown l2.1 ?_
  have ee : t2 = t := ht2.trans ht.symm
  refine bc_ob_i ⟨by constructor <;> omega, by constructor <;> omega⟩ ?_
  refine bc_br_i (fun _ => ?_) (fun c => absurd ee c)
  refine bc_ob_i (by constructor <;> omega) ?_
  exact bc_br_i (fun c0 => absurd c0 (by omega)) (fun _ => E [(6, bc_I t), (7, bc_I u)] _ _)
theorem k_repairCost (G : lw_G g (d + 20) L xs K) (i0 : 0 ≤ i) (i1 : i + 3 < (L : Int)) (hF : fa_ 0 σ v0_) (hR : rf_ σ) (E : ∀ (z : bc_LV) (σ' : bc_M) (n : Nat), K 3091 ([(0, bc_R 999), (1, bc_R 0), (2, bc_R 218), (3, bc_R 228), (4, bc_R 229), (5, bc_I i)] ++ z) [] σ' n) : K 1292 [(0, bc_R 999), (1, bc_R 0), (2, bc_R 218), (3, bc_R 228), (4, bc_R 229), (5, bc_I i)] [] σ 0 := by
  refine G.1.1 [1298] 60 _ _ _ _ _ ?_
  refine G.2.1 _ _ _ _ _ _ rfl (by omega) (by omega) ?_
  refine G.1.1 [1311] 80 _ _ _ _ _ ?_
  refine w_repairCost hF (i32_in _) (fun σ1 t ht yo => ?_)
  refine G.2.1 _ _ _ _ _ _ rfl (by omega) (by omega) ?_
  refine G.1.1 [3091] 80 _ _ _ _ _ ?_
  refine z_repairCost (rf_yo hR yo) (i32_in _) (fun σ2 t2 u ht2 hu l2 => ?_)
  have hb : 0 ≤ t ∧ t ≤ 4 := by omega
  refine t_X11_thrown l2.1 ?_
  have ee : t2 = t := ht2.trans ht.symm
  refine bc_ob_i ⟨by constructor <;> omega, by constructor <;> omega⟩ ?_
  refine bc_br_i (fun _ => ?_) (fun c => absurd ee c)
  refine bc_ob_i (by constructor <;> omega) ?_
  exact bc_br_i (fun c0 => absurd c0 (by omega)) (fun _ => E [(6, bc_I t), (7, bc_I u)] _ _)
theorem k_strain (G : lw_G g (d + 20) L xs K) (i0 : 0 ≤ i) (i1 : i + 3 < (L : Int)) (hF : fa_ 0 σ v0_) (hR : rf_ σ) (E : ∀ (z : bc_LV) (σ' : bc_M) (n : Nat), K 3091 ([(0, bc_R 999), (1, bc_R 0), (2, bc_R 218), (3, bc_R 228), (4, bc_R 229), (5, bc_I i)] ++ z) [] σ' n) : K 1348 [(0, bc_R 999), (1, bc_R 0), (2, bc_R 218), (3, bc_R 228), (4, bc_R 229), (5, bc_I i)] [] σ 0 := by
  refine G.1.1 [1354] 60 _ _ _ _ _ ?_
  refine G.2.1 _ _ _ _ _ _ rfl (by omega) (by omega) ?_
  refine G.1.1 [1360] 60 _ _ _ _ _ ?_
  refine G.2.1 _ _ _ _ _ _ rfl (by omega) (by omega) ?_
  refine G.1.1 [1374] 80 _ _ _ _ _ ?_
  refine w_strain hF (i32_in _) (i32_in _) (fun σ1 t ht yo => ?_)
  refine G.2.1 _ _ _ _ _ _ rfl (by omega) (by omega) ?_
  refine G.1.1 [1380] 80 _ _ _ _ _ ?_
  refine G.2.1 _ _ _ _ _ _ rfl (by omega) (by omega) ?_
  refine G.1.1 [3091] 80 _ _ _ _ _ ?_
  refine m_strain (rf_yo hR yo).1 r0_3 (i32_in _) (fun σ2 x l2 => ?_)
  refine t_X11_thrown l2.1 ?_
  refine bc_ob_i ⟨by decide, by constructor <;> omega⟩ ?_
  refine bc_br_i (fun _ => ?_) (fun c => absurd ht.symm c)
  refine bc_ob_i (by constructor <;> omega) ?_
  exact bc_br_i (fun c0 => absurd c0 (by omega)) (fun _ => E [(6, bc_I t), (7, bc_F x)] _ _)
theorem k_strainBits (G : lw_G g (d + 20) L xs K) (i0 : 0 ≤ i) (i1 : i + 3 < (L : Int)) (hF : fa_ 0 σ v0_) (hR : rf_ σ) (E : ∀ (z : bc_LV) (σ' : bc_M) (n : Nat), K 3091 ([(0, bc_R 999), (1, bc_R 0), (2, bc_R 218), (3, bc_R 228), (4, bc_R 229), (5, bc_I i)] ++ z) [] σ' n) : K 1438 [(0, bc_R 999), (1, bc_R 0), (2, bc_R 218), (3, bc_R 228), (4, bc_R 229), (5, bc_I i)] [] σ 0 := by
  refine G.1.1 [1444] 60 _ _ _ _ _ ?_
  refine G.2.1 _ _ _ _ _ _ rfl (by omega) (by omega) ?_
  refine G.1.1 [1450] 60 _ _ _ _ _ ?_
  refine G.2.1 _ _ _ _ _ _ rfl (by omega) (by omega) ?_
  refine G.1.1 [1463] 80 _ _ _ _ _ ?_
  refine w_strainBits hF (i32_in _) (i32_in _) (fun σ1 t ht yo => ?_)
  refine G.2.1 _ _ _ _ _ _ rfl (by omega) (by omega) ?_
  refine G.1.1 [1469] 80 _ _ _ _ _ ?_
  refine G.2.1 _ _ _ _ _ _ rfl (by omega) (by omega) ?_
  refine G.1.1 [3091] 80 _ _ _ _ _ ?_
  refine z_strainBits (rf_yo hR yo) (i32_in _) (i32_in _) (fun σ2 t2 u ht2 hu l2 => ?_)
  have hb : 0 ≤ t ∧ t ≤ 4 := by omega
  refine t_X11_thrown l2.1 ?_
  have ee : t2 = t := ht2.trans ht.symm
  refine bc_ob_i ⟨by constructor <;> omega, by constructor <;> omega⟩ ?_
  refine bc_br_i (fun _ => ?_) (fun c => absurd ee c)
  refine bc_ob_i (by constructor <;> omega) ?_
  exact bc_br_i (fun c0 => absurd c0 (by omega)) (fun _ => E [(6, bc_I t), (7, bc_I u)] _ _)
theorem k_links (G : lw_G g (d + 20) L xs K) (i0 : 0 ≤ i) (i1 : i + 3 < (L : Int)) (hF : fa_ 0 σ v0_) (hR : rf_ σ) (E : ∀ (z : bc_LV) (σ' : bc_M) (n : Nat), K 3091 ([(0, bc_R 999), (1, bc_R 0), (2, bc_R 218), (3, bc_R 228), (4, bc_R 229), (5, bc_I i)] ++ z) [] σ' n) : K 1506 [(0, bc_R 999), (1, bc_R 0), (2, bc_R 218), (3, bc_R 228), (4, bc_R 229), (5, bc_I i)] [] σ 0 := by
  refine G.1.1 [3091] 60 _ _ _ _ _ ?_
  refine t_X10_links hF (fun σ1 _ F => ?_)
  refine m_links (rf_yo hR (yo_fr F ob_le)).1 r0_3 (fun σ2 _ => ?_)
  have e : lf_ (sa_ (c_r v0_)) 8 = 0 := lf0
  refine bc_ob_i (by rw [e, lg0]; decide) ?_
  exact bc_br_i (fun _ => E [] _ _) (fun c => absurd (by rw [e, lg0]; rfl) c)
theorem k_widestLoad (G : lw_G g (d + 20) L xs K) (i0 : 0 ≤ i) (i1 : i + 3 < (L : Int)) (hF : fa_ 0 σ v0_) (hR : rf_ σ) (E : ∀ (z : bc_LV) (σ' : bc_M) (n : Nat), K 3091 ([(0, bc_R 999), (1, bc_R 0), (2, bc_R 218), (3, bc_R 228), (4, bc_R 229), (5, bc_I i)] ++ z) [] σ' n) : K 1520 [(0, bc_R 999), (1, bc_R 0), (2, bc_R 218), (3, bc_R 228), (4, bc_R 229), (5, bc_I i)] [] σ 0 := by
  refine G.1.1 [1526] 60 _ _ _ _ _ ?_
  refine G.2.1 _ _ _ _ _ _ rfl (by omega) (by omega) ?_
  refine G.1.1 [1532] 60 _ _ _ _ _ ?_
  refine G.2.1 _ _ _ _ _ _ rfl (by omega) (by omega) ?_
  refine G.1.1 [1545] 80 _ _ _ _ _ ?_
  refine w_widestLoad hF (i32_in _) (i32_in _) (fun σ1 t ht yo => ?_)
  refine G.2.1 _ _ _ _ _ _ rfl (by omega) (by omega) ?_
  refine G.1.1 [1551] 80 _ _ _ _ _ ?_
  refine G.2.1 _ _ _ _ _ _ rfl (by omega) (by omega) ?_
  refine G.1.1 [3091] 80 _ _ _ _ _ ?_
  refine z_widestLoad (rf_yo hR yo) (i32_in _) (i32_in _) (fun σ2 t2 u ht2 hu l2 => ?_)
  have w9 := aw0_in (xs (i + 1).toNat).toInt (xs (i + 2).toNat).toInt
  have hb : 1 ≤ t ∧ t ≤ 4 := by omega
  refine t_X11_thrown l2.1 ?_
  have ee : t2 = t := ht2.trans ht.symm
  refine bc_ob_i ⟨by constructor <;> omega, by constructor <;> omega⟩ ?_
  refine bc_br_i (fun _ => ?_) (fun c => absurd ee c)
  refine bc_ob_i (by constructor <;> omega) ?_
  exact bc_br_i (fun c0 => absurd c0 (by omega)) (fun _ => E [(6, bc_I t), (7, bc_I u)] _ _)
theorem k_widestLoadByTrial (G : lw_G g (d + 20) L xs K) (i0 : 0 ≤ i) (i1 : i + 3 < (L : Int)) (hF : fa_ 0 σ v0_) (hR : rf_ σ) (E : ∀ (z : bc_LV) (σ' : bc_M) (n : Nat), K 3091 ([(0, bc_R 999), (1, bc_R 0), (2, bc_R 218), (3, bc_R 228), (4, bc_R 229), (5, bc_I i)] ++ z) [] σ' n) : K 1588 [(0, bc_R 999), (1, bc_R 0), (2, bc_R 218), (3, bc_R 228), (4, bc_R 229), (5, bc_I i)] [] σ 0 := by
  refine G.1.1 [1594] 60 _ _ _ _ _ ?_
  refine G.2.1 _ _ _ _ _ _ rfl (by omega) (by omega) ?_
  refine G.1.1 [1600] 60 _ _ _ _ _ ?_
  refine G.2.1 _ _ _ _ _ _ rfl (by omega) (by omega) ?_
  refine G.1.1 [1613] 80 _ _ _ _ _ ?_
  refine w_widestLoadByTrial hF (i32_in _) (i32_in _) (fun σ1 t ht yo => ?_)
  refine G.2.1 _ _ _ _ _ _ rfl (by omega) (by omega) ?_
  refine G.1.1 [1619] 80 _ _ _ _ _ ?_
  refine G.2.1 _ _ _ _ _ _ rfl (by omega) (by omega) ?_
  refine G.1.1 [3091] 80 _ _ _ _ _ ?_
  refine z_widestLoadByTrial (rf_yo hR yo) (i32_in _) (i32_in _) (fun σ2 t2 u ht2 hu l2 => ?_)
  have w9 := aw0_in (xs (i + 1).toNat).toInt (xs (i + 2).toNat).toInt
  have hb : 1 ≤ t ∧ t ≤ 4 := by omega
  refine t_X11_thrown l2.1 ?_
  have ee : t2 = t := ht2.trans ht.symm
  refine bc_ob_i ⟨by constructor <;> omega, by constructor <;> omega⟩ ?_
  refine bc_br_i (fun _ => ?_) (fun c => absurd ee c)
  refine bc_ob_i (by constructor <;> omega) ?_
  exact bc_br_i (fun c0 => absurd c0 (by omega)) (fun _ => E [(6, bc_I t), (7, bc_I u)] _ _)
theorem k_wayLength (G : lw_G g (d + 20) L xs K) (i0 : 0 ≤ i) (i1 : i + 3 < (L : Int)) (hF : fa_ 0 σ v0_) (hR : rf_ σ) (E : ∀ (z : bc_LV) (σ' : bc_M) (n : Nat), K 3091 ([(0, bc_R 999), (1, bc_R 0), (2, bc_R 218), (3, bc_R 228), (4, bc_R 229), (5, bc_I i)] ++ z) [] σ' n) : K 1656 [(0, bc_R 999), (1, bc_R 0), (2, bc_R 218), (3, bc_R 228), (4, bc_R 229), (5, bc_I i)] [] σ 0 := by
  refine G.1.1 [1662] 60 _ _ _ _ _ ?_
  refine G.2.1 _ _ _ _ _ _ rfl (by omega) (by omega) ?_
  refine G.1.1 [1668] 60 _ _ _ _ _ ?_
  refine G.2.1 _ _ _ _ _ _ rfl (by omega) (by omega) ?_
  refine G.1.1 [1681] 80 _ _ _ _ _ ?_
  refine w_wayLength hF (i32_in _) (i32_in _) (fun σ1 t ht yo => ?_)
  refine G.2.1 _ _ _ _ _ _ rfl (by omega) (by omega) ?_
  refine G.1.1 [1687] 80 _ _ _ _ _ ?_
  refine G.2.1 _ _ _ _ _ _ rfl (by omega) (by omega) ?_
  refine G.1.1 [3091] 80 _ _ _ _ _ ?_
  refine z_wayLength (rf_yo hR yo) (i32_in _) (i32_in _) (fun σ2 t2 u ht2 hu l2 => ?_)
  have w9 := aw0_in (xs (i + 1).toNat).toInt (xs (i + 2).toNat).toInt
  have hb : 1 ≤ t ∧ t ≤ 4 := by omega
  refine t_X11_thrown l2.1 ?_
  have ee : t2 = t := ht2.trans ht.symm
  refine bc_ob_i ⟨by constructor <;> omega, by constructor <;> omega⟩ ?_
  refine bc_br_i (fun _ => ?_) (fun c => absurd ee c)
  refine bc_ob_i (by constructor <;> omega) ?_
  exact bc_br_i (fun c0 => absurd c0 (by omega)) (fun _ => E [(6, bc_I t), (7, bc_I u)] _ _)
theorem k_wayJoint (G : lw_G g (d + 20) L xs K) (i0 : 0 ≤ i) (i1 : i + 3 < (L : Int)) (hF : fa_ 0 σ v0_) (hR : rf_ σ) (E : ∀ (z : bc_LV) (σ' : bc_M) (n : Nat), K 3091 ([(0, bc_R 999), (1, bc_R 0), (2, bc_R 218), (3, bc_R 228), (4, bc_R 229), (5, bc_I i)] ++ z) [] σ' n) : K 1724 [(0, bc_R 999), (1, bc_R 0), (2, bc_R 218), (3, bc_R 228), (4, bc_R 229), (5, bc_I i)] [] σ 0 := by
  refine G.1.1 [1730] 60 _ _ _ _ _ ?_
  refine G.2.1 _ _ _ _ _ _ rfl (by omega) (by omega) ?_
  refine G.1.1 [1736] 60 _ _ _ _ _ ?_
  refine G.2.1 _ _ _ _ _ _ rfl (by omega) (by omega) ?_
  refine G.1.1 [1742] 60 _ _ _ _ _ ?_
  refine G.2.1 _ _ _ _ _ _ rfl (by omega) (by omega) ?_
  refine G.1.1 [1755] 80 _ _ _ _ _ ?_
  refine w_wayJoint hF (i32_in _) (i32_in _) (i32_in _) (fun σ1 t ht yo => ?_)
  refine G.2.1 _ _ _ _ _ _ rfl (by omega) (by omega) ?_
  refine G.1.1 [1761] 80 _ _ _ _ _ ?_
  refine G.2.1 _ _ _ _ _ _ rfl (by omega) (by omega) ?_
  refine G.1.1 [1767] 80 _ _ _ _ _ ?_
  refine G.2.1 _ _ _ _ _ _ rfl (by omega) (by omega) ?_
  refine G.1.1 [3091] 80 _ _ _ _ _ ?_
  refine z_wayJoint (rf_yo hR yo) (i32_in _) (i32_in _) (i32_in _) (fun σ2 t2 u ht2 hu l2 => ?_)
  have w9 := aw0_in (xs (i + 1).toNat).toInt (xs (i + 2).toNat).toInt
  have hb : 1 ≤ t ∧ t ≤ 4 := by omega
  refine t_X11_thrown l2.1 ?_
  have ee : t2 = t := ht2.trans ht.symm
  refine bc_ob_i ⟨by constructor <;> omega, by constructor <;> omega⟩ ?_
  refine bc_br_i (fun _ => ?_) (fun c => absurd ee c)
  refine bc_ob_i (by constructor <;> omega) ?_
  exact bc_br_i (fun c0 => absurd c0 (by omega)) (fun _ => E [(6, bc_I t), (7, bc_I u)] _ _)
theorem k_isCritical (G : lw_G g (d + 20) L xs K) (i0 : 0 ≤ i) (i1 : i + 3 < (L : Int)) (hF : fa_ 0 σ v0_) (hR : rf_ σ) (E : ∀ (z : bc_LV) (σ' : bc_M) (n : Nat), K 3091 ([(0, bc_R 999), (1, bc_R 0), (2, bc_R 218), (3, bc_R 228), (4, bc_R 229), (5, bc_I i)] ++ z) [] σ' n) : K 1804 [(0, bc_R 999), (1, bc_R 0), (2, bc_R 218), (3, bc_R 228), (4, bc_R 229), (5, bc_I i)] [] σ 0 := by
  refine G.1.1 [1810] 60 _ _ _ _ _ ?_
  refine G.2.1 _ _ _ _ _ _ rfl (by omega) (by omega) ?_
  refine G.1.1 [1823] 80 _ _ _ _ _ ?_
  refine w_isCritical hF (i32_in _) (fun σ1 t ht yo => ?_)
  refine G.2.1 _ _ _ _ _ _ rfl (by omega) (by omega) ?_
  refine G.1.1 [3091] 80 _ _ _ _ _ ?_
  refine z_isCritical (rf_yo hR yo) (i32_in _) (fun σ2 t2 u ht2 hu l2 => ?_)
  have hb : 0 ≤ t ∧ t ≤ 4 := by omega
  refine t_X11_thrown l2.1 ?_
  have ee : t2 = t := ht2.trans ht.symm
  refine bc_ob_i ⟨by constructor <;> omega, by constructor <;> omega⟩ ?_
  refine bc_br_i (fun _ => ?_) (fun c => absurd ee c)
  refine bc_ob_i (by constructor <;> omega) ?_
  exact bc_br_i (fun c0 => absurd c0 (by omega)) (fun _ => E [(6, bc_I t), (7, bc_I u)] _ _)
theorem k_isCriticalByRemoval (G : lw_G g (d + 20) L xs K) (i0 : 0 ≤ i) (i1 : i + 3 < (L : Int)) (hF : fa_ 0 σ v0_) (hR : rf_ σ) (E : ∀ (z : bc_LV) (σ' : bc_M) (n : Nat), K 3091 ([(0, bc_R 999), (1, bc_R 0), (2, bc_R 218), (3, bc_R 228), (4, bc_R 229), (5, bc_I i)] ++ z) [] σ' n) : K 1867 [(0, bc_R 999), (1, bc_R 0), (2, bc_R 218), (3, bc_R 228), (4, bc_R 229), (5, bc_I i)] [] σ 0 := by
  refine G.1.1 [1873] 60 _ _ _ _ _ ?_
  refine G.2.1 _ _ _ _ _ _ rfl (by omega) (by omega) ?_
  refine G.1.1 [1886] 80 _ _ _ _ _ ?_
  refine w_isCriticalByRemoval hF (i32_in _) (fun σ1 t ht yo => ?_)
  refine G.2.1 _ _ _ _ _ _ rfl (by omega) (by omega) ?_
  refine G.1.1 [3091] 80 _ _ _ _ _ ?_
  refine z_isCriticalByRemoval (rf_yo hR yo) (i32_in _) (fun σ2 t2 u ht2 hu l2 => ?_)
  have hb : 0 ≤ t ∧ t ≤ 4 := by omega
  refine t_X11_thrown l2.1 ?_
  have ee : t2 = t := ht2.trans ht.symm
  refine bc_ob_i ⟨by constructor <;> omega, by constructor <;> omega⟩ ?_
  refine bc_br_i (fun _ => ?_) (fun c => absurd ee c)
  refine bc_ob_i (by constructor <;> omega) ?_
  exact bc_br_i (fun c0 => absurd c0 (by omega)) (fun _ => E [(6, bc_I t), (7, bc_I u)] _ _)
theorem k_affordableLoad (G : lw_G g (d + 20) L xs K) (i0 : 0 ≤ i) (i1 : i + 3 < (L : Int)) (hF : fa_ 0 σ v0_) (hR : rf_ σ) (E : ∀ (z : bc_LV) (σ' : bc_M) (n : Nat), K 3091 ([(0, bc_R 999), (1, bc_R 0), (2, bc_R 218), (3, bc_R 228), (4, bc_R 229), (5, bc_I i)] ++ z) [] σ' n) : K 1930 [(0, bc_R 999), (1, bc_R 0), (2, bc_R 218), (3, bc_R 228), (4, bc_R 229), (5, bc_I i)] [] σ 0 := by
  refine G.1.1 [1936] 60 _ _ _ _ _ ?_
  refine G.2.1 _ _ _ _ _ _ rfl (by omega) (by omega) ?_
  refine G.1.1 [1942] 60 _ _ _ _ _ ?_
  refine G.2.1 _ _ _ _ _ _ rfl (by omega) (by omega) ?_
  refine G.1.1 [1955] 80 _ _ _ _ _ ?_
  refine w_affordableLoad hF (i32_in _) (i32_in _) (fun σ1 t ht yo => ?_)
  refine G.2.1 _ _ _ _ _ _ rfl (by omega) (by omega) ?_
  refine G.1.1 [1961] 80 _ _ _ _ _ ?_
  refine G.2.1 _ _ _ _ _ _ rfl (by omega) (by omega) ?_
  refine G.1.1 [3091] 80 _ _ _ _ _ ?_
  refine z_affordableLoad (rf_yo hR yo) (i32_in _) (i32_in _) (fun σ2 t2 u ht2 hu l2 => ?_)
  have w9 := aw0_in (xs (i + 1).toNat).toInt (xs (i + 2).toNat).toInt
  have hb : 1 ≤ t ∧ t ≤ 4 := by omega
  refine t_X11_thrown l2.1 ?_
  have ee : t2 = t := ht2.trans ht.symm
  refine bc_ob_i ⟨by constructor <;> omega, by constructor <;> omega⟩ ?_
  refine bc_br_i (fun _ => ?_) (fun c => absurd ee c)
  refine bc_ob_i (by constructor <;> omega) ?_
  exact bc_br_i (fun c0 => absurd c0 (by omega)) (fun _ => E [(6, bc_I t), (7, bc_I u)] _ _)
theorem k_affordableLoadByTable (G : lw_G g (d + 20) L xs K) (i0 : 0 ≤ i) (i1 : i + 3 < (L : Int)) (hF : fa_ 0 σ v0_) (hR : rf_ σ) (E : ∀ (z : bc_LV) (σ' : bc_M) (n : Nat), K 3091 ([(0, bc_R 999), (1, bc_R 0), (2, bc_R 218), (3, bc_R 228), (4, bc_R 229), (5, bc_I i)] ++ z) [] σ' n) : K 1998 [(0, bc_R 999), (1, bc_R 0), (2, bc_R 218), (3, bc_R 228), (4, bc_R 229), (5, bc_I i)] [] σ 0 := by
  refine G.1.1 [2004] 60 _ _ _ _ _ ?_
  refine G.2.1 _ _ _ _ _ _ rfl (by omega) (by omega) ?_
  refine G.1.1 [2010] 60 _ _ _ _ _ ?_
  refine G.2.1 _ _ _ _ _ _ rfl (by omega) (by omega) ?_
  refine G.1.1 [2023] 80 _ _ _ _ _ ?_
  refine w_affordableLoadByTable hF (i32_in _) (i32_in _) (fun σ1 t ht yo => ?_)
  refine G.2.1 _ _ _ _ _ _ rfl (by omega) (by omega) ?_
  refine G.1.1 [2029] 80 _ _ _ _ _ ?_
  refine G.2.1 _ _ _ _ _ _ rfl (by omega) (by omega) ?_
  refine G.1.1 [3091] 80 _ _ _ _ _ ?_
  refine z_affordableLoadByTable (rf_yo hR yo) (i32_in _) (i32_in _) (fun σ2 t2 u ht2 hu l2 => ?_)
  have w9 := aw0_in (xs (i + 1).toNat).toInt (xs (i + 2).toNat).toInt
  have hb : 1 ≤ t ∧ t ≤ 4 := by omega
  refine t_X11_thrown l2.1 ?_
  have ee : t2 = t := ht2.trans ht.symm
  refine bc_ob_i ⟨by constructor <;> omega, by constructor <;> omega⟩ ?_
  refine bc_br_i (fun _ => ?_) (fun c => absurd ee c)
  refine bc_ob_i (by constructor <;> omega) ?_
  exact bc_br_i (fun c0 => absurd c0 (by omega)) (fun _ => E [(6, bc_I t), (7, bc_I u)] _ _)
theorem k_memberByBearing (G : lw_G g (d + 20) L xs K) (i0 : 0 ≤ i) (i1 : i + 3 < (L : Int)) (hF : fa_ 0 σ v0_) (hR : rf_ σ) (E : ∀ (z : bc_LV) (σ' : bc_M) (n : Nat), K 3091 ([(0, bc_R 999), (1, bc_R 0), (2, bc_R 218), (3, bc_R 228), (4, bc_R 229), (5, bc_I i)] ++ z) [] σ' n) : K 2066 [(0, bc_R 999), (1, bc_R 0), (2, bc_R 218), (3, bc_R 228), (4, bc_R 229), (5, bc_I i)] [] σ 0 := by
  refine G.1.1 [2072] 60 _ _ _ _ _ ?_
  refine G.2.1 _ _ _ _ _ _ rfl (by omega) (by omega) ?_
  refine G.1.1 [2085] 80 _ _ _ _ _ ?_
  refine w_memberByBearing hF (i32_in _) (fun σ1 t ht yo => ?_)
  refine G.2.1 _ _ _ _ _ _ rfl (by omega) (by omega) ?_
  refine G.1.1 [3091] 80 _ _ _ _ _ ?_
  refine z_memberByBearing (rf_yo hR yo) (i32_in _) (fun σ2 t2 u ht2 hu l2 => ?_)
  have hb : 0 ≤ t ∧ t ≤ 4 := by omega
  refine t_X11_thrown l2.1 ?_
  have ee : t2 = t := ht2.trans ht.symm
  refine bc_ob_i ⟨by constructor <;> omega, by constructor <;> omega⟩ ?_
  refine bc_br_i (fun _ => ?_) (fun c => absurd ee c)
  refine bc_ob_i (by constructor <;> omega) ?_
  exact bc_br_i (fun c0 => absurd c0 (by omega)) (fun _ => E [(6, bc_I t), (7, bc_I u)] _ _)
theorem k_nicheKind (G : lw_G g (d + 20) L xs K) (i0 : 0 ≤ i) (i1 : i + 3 < (L : Int)) (hF : fa_ 0 σ v0_) (hR : rf_ σ) (E : ∀ (z : bc_LV) (σ' : bc_M) (n : Nat), K 3091 ([(0, bc_R 999), (1, bc_R 0), (2, bc_R 218), (3, bc_R 228), (4, bc_R 229), (5, bc_I i)] ++ z) [] σ' n) : K 2122 [(0, bc_R 999), (1, bc_R 0), (2, bc_R 218), (3, bc_R 228), (4, bc_R 229), (5, bc_I i)] [] σ 0 := by
  refine G.1.1 [3091] 60 _ _ _ _ _ ?_
  refine t_X10_nicheKind hF ?_
  refine z_nicheKind hR (fun σ2 => ?_)
  refine bc_ob_i ⟨by decide, by decide⟩ ?_
  exact bc_br_i (fun _ => E [] _ _) (fun c => absurd (by decide) c)
theorem k_nicheWeight (G : lw_G g (d + 20) L xs K) (i0 : 0 ≤ i) (i1 : i + 3 < (L : Int)) (hF : fa_ 0 σ v0_) (hR : rf_ σ) (E : ∀ (z : bc_LV) (σ' : bc_M) (n : Nat), K 3091 ([(0, bc_R 999), (1, bc_R 0), (2, bc_R 218), (3, bc_R 228), (4, bc_R 229), (5, bc_I i)] ++ z) [] σ' n) : K 2135 [(0, bc_R 999), (1, bc_R 0), (2, bc_R 218), (3, bc_R 228), (4, bc_R 229), (5, bc_I i)] [] σ 0 := by
  refine G.1.1 [3091] 60 _ _ _ _ _ ?_
  refine t_X10_nicheWeight hF ?_
  refine m_nicheWeight hR.1 (fun σ2 _ => ?_)
  refine bc_ob_i ⟨by decide, by decide⟩ ?_
  exact bc_br_i (fun _ => E [] _ _) (fun c => absurd rfl c)
theorem k_vowCount (G : lw_G g (d + 20) L xs K) (i0 : 0 ≤ i) (i1 : i + 3 < (L : Int)) (hF : fa_ 0 σ v0_) (hR : rf_ σ) (E : ∀ (z : bc_LV) (σ' : bc_M) (n : Nat), K 3091 ([(0, bc_R 999), (1, bc_R 0), (2, bc_R 218), (3, bc_R 228), (4, bc_R 229), (5, bc_I i)] ++ z) [] σ' n) : K 2148 [(0, bc_R 999), (1, bc_R 0), (2, bc_R 218), (3, bc_R 228), (4, bc_R 229), (5, bc_I i)] [] σ 0 := by
  refine G.1.1 [3091] 60 _ _ _ _ _ ?_
  refine t_X10_vowCount hF ?_
  refine z_vowCount hR (fun σ2 => ?_)
  refine bc_ob_i ⟨by decide, by decide⟩ ?_
  exact bc_br_i (fun _ => E [] _ _) (fun c => absurd (by decide) c)
theorem k_vowAt (G : lw_G g (d + 20) L xs K) (i0 : 0 ≤ i) (i1 : i + 3 < (L : Int)) (hF : fa_ 0 σ v0_) (hR : rf_ σ) (E : ∀ (z : bc_LV) (σ' : bc_M) (n : Nat), K 3091 ([(0, bc_R 999), (1, bc_R 0), (2, bc_R 218), (3, bc_R 228), (4, bc_R 229), (5, bc_I i)] ++ z) [] σ' n) : K 2161 [(0, bc_R 999), (1, bc_R 0), (2, bc_R 218), (3, bc_R 228), (4, bc_R 229), (5, bc_I i)] [] σ 0 := by
  refine G.1.1 [2167] 60 _ _ _ _ _ ?_
  refine G.2.1 _ _ _ _ _ _ rfl (by omega) (by omega) ?_
  refine G.1.1 [2180] 80 _ _ _ _ _ ?_
  refine w_vowAt hF (i32_in _) (fun σ1 t ht yo => ?_)
  refine G.2.1 _ _ _ _ _ _ rfl (by omega) (by omega) ?_
  refine G.1.1 [3091] 80 _ _ _ _ _ ?_
  refine z_vowAt (rf_yo hR yo) (i32_in _) (fun σ2 t2 u ht2 hu l2 => ?_)
  have hb : 0 ≤ t ∧ t ≤ 4 := by omega
  refine t_X11_thrown l2.1 ?_
  have ee : t2 = t := ht2.trans ht.symm
  refine bc_ob_i ⟨by constructor <;> omega, by constructor <;> omega⟩ ?_
  refine bc_br_i (fun _ => ?_) (fun c => absurd ee c)
  refine bc_ob_i (by constructor <;> omega) ?_
  exact bc_br_i (fun c0 => absurd c0 (by omega)) (fun _ => E [(6, bc_I t), (7, bc_I u)] _ _)
theorem k_dueDay (G : lw_G g (d + 20) L xs K) (i0 : 0 ≤ i) (i1 : i + 3 < (L : Int)) (hF : fa_ 0 σ v0_) (hR : rf_ σ) (E : ∀ (z : bc_LV) (σ' : bc_M) (n : Nat), K 3091 ([(0, bc_R 999), (1, bc_R 0), (2, bc_R 218), (3, bc_R 228), (4, bc_R 229), (5, bc_I i)] ++ z) [] σ' n) : K 2217 [(0, bc_R 999), (1, bc_R 0), (2, bc_R 218), (3, bc_R 228), (4, bc_R 229), (5, bc_I i)] [] σ 0 := by
  refine G.1.1 [2223] 60 _ _ _ _ _ ?_
  refine G.2.1 _ _ _ _ _ _ rfl (by omega) (by omega) ?_
  refine G.1.1 [2236] 80 _ _ _ _ _ ?_
  refine w_dueDay hF (i32_in _) (fun σ1 t ht yo => ?_)
  refine G.2.1 _ _ _ _ _ _ rfl (by omega) (by omega) ?_
  refine G.1.1 [3091] 80 _ _ _ _ _ ?_
  refine z_dueDay (rf_yo hR yo) (i32_in _) (fun σ2 t2 u ht2 hu l2 => ?_)
  have hb : 0 ≤ t ∧ t ≤ 4 := by omega
  refine t_X11_thrown l2.1 ?_
  have ee : t2 = t := ht2.trans ht.symm
  refine bc_ob_i ⟨by constructor <;> omega, by constructor <;> omega⟩ ?_
  refine bc_br_i (fun _ => ?_) (fun c => absurd ee c)
  refine bc_ob_i (by constructor <;> omega) ?_
  exact bc_br_i (fun c0 => absurd c0 (by omega)) (fun _ => E [(6, bc_I t), (7, bc_I u)] _ _)
theorem k_amount (G : lw_G g (d + 20) L xs K) (i0 : 0 ≤ i) (i1 : i + 3 < (L : Int)) (hF : fa_ 0 σ v0_) (hR : rf_ σ) (E : ∀ (z : bc_LV) (σ' : bc_M) (n : Nat), K 3091 ([(0, bc_R 999), (1, bc_R 0), (2, bc_R 218), (3, bc_R 228), (4, bc_R 229), (5, bc_I i)] ++ z) [] σ' n) : K 2273 [(0, bc_R 999), (1, bc_R 0), (2, bc_R 218), (3, bc_R 228), (4, bc_R 229), (5, bc_I i)] [] σ 0 := by
  refine G.1.1 [2279] 60 _ _ _ _ _ ?_
  refine G.2.1 _ _ _ _ _ _ rfl (by omega) (by omega) ?_
  refine G.1.1 [2292] 80 _ _ _ _ _ ?_
  refine w_amount hF (i32_in _) (fun σ1 t ht yo => ?_)
  refine G.2.1 _ _ _ _ _ _ rfl (by omega) (by omega) ?_
  refine G.1.1 [3091] 80 _ _ _ _ _ ?_
  refine z_amount (rf_yo hR yo) (i32_in _) (fun σ2 t2 u ht2 hu l2 => ?_)
  have hb : 0 ≤ t ∧ t ≤ 4 := by omega
  refine t_X11_thrown l2.1 ?_
  have ee : t2 = t := ht2.trans ht.symm
  refine bc_ob_i ⟨by constructor <;> omega, by constructor <;> omega⟩ ?_
  refine bc_br_i (fun _ => ?_) (fun c => absurd ee c)
  refine bc_ob_i (by constructor <;> omega) ?_
  exact bc_br_i (fun c0 => absurd c0 (by omega)) (fun _ => E [(6, bc_I t), (7, bc_I u)] _ _)
theorem k_canKeepAll (G : lw_G g (d + 20) L xs K) (i0 : 0 ≤ i) (i1 : i + 3 < (L : Int)) (hF : fa_ 0 σ v0_) (hR : rf_ σ) (E : ∀ (z : bc_LV) (σ' : bc_M) (n : Nat), K 3091 ([(0, bc_R 999), (1, bc_R 0), (2, bc_R 218), (3, bc_R 228), (4, bc_R 229), (5, bc_I i)] ++ z) [] σ' n) : K 2329 [(0, bc_R 999), (1, bc_R 0), (2, bc_R 218), (3, bc_R 228), (4, bc_R 229), (5, bc_I i)] [] σ 0 := by
  refine G.1.1 [3091] 60 _ _ _ _ _ ?_
  refine t_X10_canKeepAll hF (by decide) (fun x hx => ?_)
  have x1 : x = 1 := by
    rcases hx with hx | ⟨-, a, a0, a1, a2⟩
    · exact hx.1
    · have q : sp_ r0_ (r0_ 0 + a) < 0 := a2
      rw [sp0, r0_0] at q
      omega
  refine m_canKeepAll hR.1 r0_4 (fun σ2 _ => ?_)
  refine bc_ob_i ⟨by constructor <;> omega, by decide⟩ ?_
  exact bc_br_i (fun _ => E [] _ _) (fun c => absurd x1 c)
theorem k_canKeepAllBySums (G : lw_G g (d + 20) L xs K) (i0 : 0 ≤ i) (i1 : i + 3 < (L : Int)) (hF : fa_ 0 σ v0_) (hR : rf_ σ) (E : ∀ (z : bc_LV) (σ' : bc_M) (n : Nat), K 3091 ([(0, bc_R 999), (1, bc_R 0), (2, bc_R 218), (3, bc_R 228), (4, bc_R 229), (5, bc_I i)] ++ z) [] σ' n) : K 2342 [(0, bc_R 999), (1, bc_R 0), (2, bc_R 218), (3, bc_R 228), (4, bc_R 229), (5, bc_I i)] [] σ 0 := by
  refine G.1.1 [3091] 60 _ _ _ _ _ ?_
  refine t_X10_canKeepAllBySums hF (by decide) (fun x hx => ?_)
  have x1 : x = 1 := by
    rcases hx with hx | ⟨-, a, a0, a1, a2⟩
    · exact hx.1
    · have q : a < r0_ 4 := a1
      rw [r0_4] at q
      omega
  refine m_canKeepAllBySums hR.1 r0_4 (fun σ2 _ => ?_)
  refine bc_ob_i ⟨by constructor <;> omega, by decide⟩ ?_
  exact bc_br_i (fun _ => E [] _ _) (fun c => absurd x1 c)
theorem k_greatestVow (G : lw_G g (d + 20) L xs K) (i0 : 0 ≤ i) (i1 : i + 3 < (L : Int)) (hF : fa_ 0 σ v0_) (hR : rf_ σ) (E : ∀ (z : bc_LV) (σ' : bc_M) (n : Nat), K 3091 ([(0, bc_R 999), (1, bc_R 0), (2, bc_R 218), (3, bc_R 228), (4, bc_R 229), (5, bc_I i)] ++ z) [] σ' n) : K 2355 [(0, bc_R 999), (1, bc_R 0), (2, bc_R 218), (3, bc_R 228), (4, bc_R 229), (5, bc_I i)] [] σ 0 := by
  refine G.1.1 [2361] 60 _ _ _ _ _ ?_
  refine G.2.1 _ _ _ _ _ _ rfl (by omega) (by omega) ?_
  refine G.1.1 [2374] 80 _ _ _ _ _ ?_
  refine w_greatestVow hF (i32_in _) (fun σ1 t ht yo hv => ?_)
  refine G.2.1 _ _ _ _ _ _ rfl (by omega) (by omega) ?_
  refine G.1.1 [3091] 80 _ _ _ _ _ ?_
  refine z_greatestVow (rf_yo hR yo) (i32_in _) (fun σ2 t2 u ht2 hu l2 => ?_)
  have hb : 0 ≤ t ∧ t ≤ 4 := by rw [ht]; exact by split <;> decide
  refine t_X11_thrown l2.1 ?_
  have ee : t2 = t := ht2.trans ht.symm
  refine bc_ob_i ⟨by constructor <;> omega, by constructor <;> omega⟩ ?_
  refine bc_br_i (fun _ => ?_) (fun c => absurd ee c)
  refine bc_ob_i (by constructor <;> omega) ?_
  refine bc_br_i (fun c0 => ?_) (fun _ => E [(6, bc_I t), (7, bc_I u)] _ _)
  refine bc_ob_i rfl ?_
  have e : σ2.2.1 = (Int32.ofInt u).toInt64 := by rw [l2.2.2, hu (by omega)]; exact hv c0
  refine bc_ob_i (by rw [e, lg0]; decide) ?_
  exact bc_br_i (fun _ => E [(6, bc_I t), (7, bc_I u)] _ _) (fun c => absurd (by rw [e, lg0]; rfl) c)
theorem k_keptTotal (G : lw_G g (d + 20) L xs K) (i0 : 0 ≤ i) (i1 : i + 3 < (L : Int)) (hF : fa_ 0 σ v0_) (hR : rf_ σ) (E : ∀ (z : bc_LV) (σ' : bc_M) (n : Nat), K 3091 ([(0, bc_R 999), (1, bc_R 0), (2, bc_R 218), (3, bc_R 228), (4, bc_R 229), (5, bc_I i)] ++ z) [] σ' n) : K 2411 [(0, bc_R 999), (1, bc_R 0), (2, bc_R 218), (3, bc_R 228), (4, bc_R 229), (5, bc_I i)] [] σ 0 := by
  refine G.1.1 [3091] 60 _ _ _ _ _ ?_
  refine t_X10_keptTotal hF ?_
  refine z_keptTotal hR (fun σ2 => ?_)
  refine bc_ob_i ⟨by decide, by decide⟩ ?_
  exact bc_br_i (fun _ => E [] _ _) (fun c => absurd (by decide) c)
theorem k_brokenTotal (G : lw_G g (d + 20) L xs K) (i0 : 0 ≤ i) (i1 : i + 3 < (L : Int)) (hF : fa_ 0 σ v0_) (hR : rf_ σ) (E : ∀ (z : bc_LV) (σ' : bc_M) (n : Nat), K 3091 ([(0, bc_R 999), (1, bc_R 0), (2, bc_R 218), (3, bc_R 228), (4, bc_R 229), (5, bc_I i)] ++ z) [] σ' n) : K 2424 [(0, bc_R 999), (1, bc_R 0), (2, bc_R 218), (3, bc_R 228), (4, bc_R 229), (5, bc_I i)] [] σ 0 := by
  refine G.1.1 [3091] 60 _ _ _ _ _ ?_
  refine t_X10_brokenTotal hF ?_
  refine z_brokenTotal hR (fun σ2 => ?_)
  refine bc_ob_i ⟨by decide, by decide⟩ ?_
  exact bc_br_i (fun _ => E [] _ _) (fun c => absurd (by decide) c)
theorem k_steel (G : lw_G g (d + 20) L xs K) (i0 : 0 ≤ i) (i1 : i + 3 < (L : Int)) (hF : fa_ 0 σ v0_) (hR : rf_ σ) (E : ∀ (z : bc_LV) (σ' : bc_M) (n : Nat), K 3091 ([(0, bc_R 999), (1, bc_R 0), (2, bc_R 218), (3, bc_R 228), (4, bc_R 229), (5, bc_I i)] ++ z) [] σ' n) : K 2437 [(0, bc_R 999), (1, bc_R 0), (2, bc_R 218), (3, bc_R 228), (4, bc_R 229), (5, bc_I i)] [] σ 0 := by
  refine G.1.1 [3091] 60 _ _ _ _ _ ?_
  refine t_X10_steel hF ?_
  refine z_steel hR (fun σ2 => ?_)
  refine bc_ob_i ⟨by decide, by decide⟩ ?_
  exact bc_br_i (fun _ => E [] _ _) (fun c => absurd (by decide) c)
theorem k_steelByAccounts (G : lw_G g (d + 20) L xs K) (i0 : 0 ≤ i) (i1 : i + 3 < (L : Int)) (hF : fa_ 0 σ v0_) (hR : rf_ σ) (E : ∀ (z : bc_LV) (σ' : bc_M) (n : Nat), K 3091 ([(0, bc_R 999), (1, bc_R 0), (2, bc_R 218), (3, bc_R 228), (4, bc_R 229), (5, bc_I i)] ++ z) [] σ' n) : K 2450 [(0, bc_R 999), (1, bc_R 0), (2, bc_R 218), (3, bc_R 228), (4, bc_R 229), (5, bc_I i)] [] σ 0 := by
  refine G.1.1 [3091] 60 _ _ _ _ _ ?_
  refine t_X10_steelByAccounts hF ?_
  refine m_steelByAccounts hR.1 (fun σ2 _ => ?_)
  refine bc_ob_i ⟨by decide, by decide⟩ ?_
  exact bc_br_i (fun _ => E [] _ _) (fun c => absurd (by decide) c)
theorem k_day (G : lw_G g (d + 20) L xs K) (i0 : 0 ≤ i) (i1 : i + 3 < (L : Int)) (hF : fa_ 0 σ v0_) (hR : rf_ σ) (E : ∀ (z : bc_LV) (σ' : bc_M) (n : Nat), K 3091 ([(0, bc_R 999), (1, bc_R 0), (2, bc_R 218), (3, bc_R 228), (4, bc_R 229), (5, bc_I i)] ++ z) [] σ' n) : K 2463 [(0, bc_R 999), (1, bc_R 0), (2, bc_R 218), (3, bc_R 228), (4, bc_R 229), (5, bc_I i)] [] σ 0 := by
  refine G.1.1 [3091] 60 _ _ _ _ _ ?_
  refine t_X10_day hF ?_
  refine z_day hR (fun σ2 => ?_)
  refine bc_ob_i ⟨by decide, by decide⟩ ?_
  exact bc_br_i (fun _ => E [] _ _) (fun c => absurd (by decide) c)
theorem k_meanBearing (G : lw_G g (d + 20) L xs K) (i0 : 0 ≤ i) (i1 : i + 3 < (L : Int)) (hF : fa_ 0 σ v0_) (hR : rf_ σ) (E : ∀ (z : bc_LV) (σ' : bc_M) (n : Nat), K 3091 ([(0, bc_R 999), (1, bc_R 0), (2, bc_R 218), (3, bc_R 228), (4, bc_R 229), (5, bc_I i)] ++ z) [] σ' n) : K 2476 [(0, bc_R 999), (1, bc_R 0), (2, bc_R 218), (3, bc_R 228), (4, bc_R 229), (5, bc_I i)] [] σ 0 := by
  refine G.1.1 [3091] 80 _ _ _ _ _ ?_
  refine w_meanBearing hF  (fun σ1 t ht yo => ?_)
  refine m_meanBearing (rf_yo hR yo).1 r0_3 (fun σ2 x l2 => ?_)
  refine t_X11_thrown l2.1 ?_
  refine bc_ob_i ⟨by decide, by constructor <;> omega⟩ ?_
  refine bc_br_i (fun _ => ?_) (fun c => absurd ht.symm c)
  refine bc_ob_i (by constructor <;> omega) ?_
  exact bc_br_i (fun c0 => absurd c0 (by omega)) (fun _ => E [(6, bc_I t), (7, bc_D x)] _ _)
theorem k_crackedShare (G : lw_G g (d + 20) L xs K) (i0 : 0 ≤ i) (i1 : i + 3 < (L : Int)) (hF : fa_ 0 σ v0_) (hR : rf_ σ) (E : ∀ (z : bc_LV) (σ' : bc_M) (n : Nat), K 3091 ([(0, bc_R 999), (1, bc_R 0), (2, bc_R 218), (3, bc_R 228), (4, bc_R 229), (5, bc_I i)] ++ z) [] σ' n) : K 2541 [(0, bc_R 999), (1, bc_R 0), (2, bc_R 218), (3, bc_R 228), (4, bc_R 229), (5, bc_I i)] [] σ 0 := by
  refine G.1.1 [3091] 80 _ _ _ _ _ ?_
  refine w_crackedShare hF  (fun σ1 t ht yo => ?_)
  refine m_crackedShare (rf_yo hR yo).1 r0_3 (fun σ2 x l2 => ?_)
  refine t_X11_thrown l2.1 ?_
  refine bc_ob_i ⟨by decide, by constructor <;> omega⟩ ?_
  refine bc_br_i (fun _ => ?_) (fun c => absurd ht.symm c)
  refine bc_ob_i (by constructor <;> omega) ?_
  exact bc_br_i (fun c0 => absurd c0 (by omega)) (fun _ => E [(6, bc_I t), (7, bc_F x)] _ _)
theorem k_isConsistent (G : lw_G g (d + 20) L xs K) (i0 : 0 ≤ i) (i1 : i + 3 < (L : Int)) (hF : fa_ 0 σ v0_) (hR : rf_ σ) (E : ∀ (z : bc_LV) (σ' : bc_M) (n : Nat), K 3091 ([(0, bc_R 999), (1, bc_R 0), (2, bc_R 218), (3, bc_R 228), (4, bc_R 229), (5, bc_I i)] ++ z) [] σ' n) : K 2607 [(0, bc_R 999), (1, bc_R 0), (2, bc_R 218), (3, bc_R 228), (4, bc_R 229), (5, bc_I i)] [] σ 0 := by
  refine G.1.1 [3091] 60 _ _ _ _ _ ?_
  refine t_X10_isConsistent hF (by decide) (fun _ σ1 _ F => ?_) (fun c => absurd ak0 c)
  refine m_isConsistent (fun σ2 _ => ?_)
  refine bc_ob_i ⟨by decide, by decide⟩ ?_
  exact bc_br_i (fun _ => E [] _ _) (fun c => absurd rfl c)
theorem k_renderMember (G : lw_G g (d + 20) L xs K) (i0 : 0 ≤ i) (i1 : i + 3 < (L : Int)) (hF : fa_ 0 σ v0_) (hR : rf_ σ) (E : ∀ (z : bc_LV) (σ' : bc_M) (n : Nat), K 3091 ([(0, bc_R 999), (1, bc_R 0), (2, bc_R 218), (3, bc_R 228), (4, bc_R 229), (5, bc_I i)] ++ z) [] σ' n) : K 2620 [(0, bc_R 999), (1, bc_R 0), (2, bc_R 218), (3, bc_R 228), (4, bc_R 229), (5, bc_I i)] [] σ 0 := by
  refine G.1.1 [2626] 60 _ _ _ _ _ ?_
  refine G.2.1 _ _ _ _ _ _ rfl (by omega) (by omega) ?_
  refine G.1.1 [2639] 80 _ _ _ _ _ ?_
  refine w_renderMember hF (i32_in _) (fun σ1 t ht yo => ?_)
  refine G.2.1 _ _ _ _ _ _ rfl (by omega) (by omega) ?_
  refine G.1.1 [3091] 80 _ _ _ _ _ ?_
  refine z_renderMember (rf_yo hR yo) (i32_in _) (fun σ2 t2 u ht2 hu l2 => ?_)
  have hb : 0 ≤ t ∧ t ≤ 4 := by omega
  refine t_X11_thrown l2.1 ?_
  have ee : t2 = t := ht2.trans ht.symm
  refine bc_ob_i ⟨by constructor <;> omega, by constructor <;> omega⟩ ?_
  refine bc_br_i (fun _ => ?_) (fun c => absurd ee c)
  refine bc_ob_i (by constructor <;> omega) ?_
  exact bc_br_i (fun c0 => absurd c0 (by omega)) (fun _ => E [(6, bc_I t), (7, bc_I u)] _ _)
theorem k_renderWay (G : lw_G g (d + 20) L xs K) (i0 : 0 ≤ i) (i1 : i + 3 < (L : Int)) (hF : fa_ 0 σ v0_) (hR : rf_ σ) (E : ∀ (z : bc_LV) (σ' : bc_M) (n : Nat), K 3091 ([(0, bc_R 999), (1, bc_R 0), (2, bc_R 218), (3, bc_R 228), (4, bc_R 229), (5, bc_I i)] ++ z) [] σ' n) : K 2676 [(0, bc_R 999), (1, bc_R 0), (2, bc_R 218), (3, bc_R 228), (4, bc_R 229), (5, bc_I i)] [] σ 0 := by
  refine G.1.1 [2682] 60 _ _ _ _ _ ?_
  refine G.2.1 _ _ _ _ _ _ rfl (by omega) (by omega) ?_
  refine G.1.1 [2688] 60 _ _ _ _ _ ?_
  refine G.2.1 _ _ _ _ _ _ rfl (by omega) (by omega) ?_
  refine G.1.1 [2701] 80 _ _ _ _ _ ?_
  refine w_renderWay hF (i32_in _) (i32_in _) (fun σ1 t ht yo => ?_)
  refine G.2.1 _ _ _ _ _ _ rfl (by omega) (by omega) ?_
  refine G.1.1 [2707] 80 _ _ _ _ _ ?_
  refine G.2.1 _ _ _ _ _ _ rfl (by omega) (by omega) ?_
  refine G.1.1 [3091] 80 _ _ _ _ _ ?_
  refine z_renderWay (rf_yo hR yo) (i32_in _) (i32_in _) (fun σ2 t2 u ht2 hu l2 => ?_)
  have w9 := aw0_in (xs (i + 1).toNat).toInt (xs (i + 2).toNat).toInt
  have hb : 1 ≤ t ∧ t ≤ 4 := by omega
  refine t_X11_thrown l2.1 ?_
  have ee : t2 = t := ht2.trans ht.symm
  refine bc_ob_i ⟨by constructor <;> omega, by constructor <;> omega⟩ ?_
  refine bc_br_i (fun _ => ?_) (fun c => absurd ee c)
  refine bc_ob_i (by constructor <;> omega) ?_
  exact bc_br_i (fun c0 => absurd c0 (by omega)) (fun _ => E [(6, bc_I t), (7, bc_I u)] _ _)
theorem k_outputAt (G : lw_G g (d + 20) L xs K) (i0 : 0 ≤ i) (i1 : i + 3 < (L : Int)) (hF : fa_ 0 σ v0_) (hR : rf_ σ) (E : ∀ (z : bc_LV) (σ' : bc_M) (n : Nat), K 3091 ([(0, bc_R 999), (1, bc_R 0), (2, bc_R 218), (3, bc_R 228), (4, bc_R 229), (5, bc_I i)] ++ z) [] σ' n) : K 2744 [(0, bc_R 999), (1, bc_R 0), (2, bc_R 218), (3, bc_R 228), (4, bc_R 229), (5, bc_I i)] [] σ 0 := by
  refine G.1.1 [2750] 60 _ _ _ _ _ ?_
  refine G.2.1 _ _ _ _ _ _ rfl (by omega) (by omega) ?_
  refine G.1.1 [2763] 80 _ _ _ _ _ ?_
  refine w_outputAt hF (i32_in _) (fun σ1 t ht yo => ?_)
  refine G.2.1 _ _ _ _ _ _ rfl (by omega) (by omega) ?_
  refine G.1.1 [3091] 80 _ _ _ _ _ ?_
  refine z_outputAt (rf_yo hR yo) (i32_in _) (fun σ2 t2 u ht2 hu l2 => ?_)
  have hb : 0 ≤ t ∧ t ≤ 4 := by omega
  refine t_X11_thrown l2.1 ?_
  have ee : t2 = t := ht2.trans ht.symm
  refine bc_ob_i ⟨by constructor <;> omega, by constructor <;> omega⟩ ?_
  refine bc_br_i (fun _ => ?_) (fun c => absurd ee c)
  refine bc_ob_i (by constructor <;> omega) ?_
  exact bc_br_i (fun c0 => absurd c0 (by omega)) (fun _ => E [(6, bc_I t), (7, bc_I u)] _ _)
theorem k_type (G : lw_G g (d + 20) L xs K) (i0 : 0 ≤ i) (i1 : i + 3 < (L : Int)) (hF : fa_ 0 σ v0_) (hR : rf_ σ) (E : ∀ (z : bc_LV) (σ' : bc_M) (n : Nat), K 3091 ([(0, bc_R 999), (1, bc_R 0), (2, bc_R 218), (3, bc_R 228), (4, bc_R 229), (5, bc_I i)] ++ z) [] σ' n) : K 2800 [(0, bc_R 999), (1, bc_R 0), (2, bc_R 218), (3, bc_R 228), (4, bc_R 229), (5, bc_I i)] [] σ 0 := by
  refine G.1.1 [2806] 60 _ _ _ _ _ ?_
  refine G.2.1 _ _ _ _ _ _ rfl (by omega) (by omega) ?_
  refine G.1.1 [2820] 80 _ _ _ _ _ ?_
  refine w_type hF (by omega) (fun σ1 t ht yo hv => ?_)
  refine G.2.1 _ _ _ _ _ _ rfl (by omega) (by omega) ?_
  refine G.1.1 [3091] 80 _ _ _ _ _ ?_
  refine z_type (rf_yo hR yo) (by omega) (fun σ2 t2 u ht2 hu l2 => ?_)
  have hb : 0 ≤ t ∧ t ≤ 4 := by rw [ht]; exact by split <;> decide
  refine t_X11_thrown l2.1 ?_
  have ee : t2 = t := ht2.trans ht.symm
  refine bc_ob_i ⟨by constructor <;> omega, by constructor <;> omega⟩ ?_
  refine bc_br_i (fun _ => ?_) (fun c => absurd ee c)
  refine bc_ob_i (by constructor <;> omega) ?_
  refine bc_br_i (fun c0 => ?_) (fun _ => E [(6, bc_I t), (7, bc_I u)] _ _)
  refine bc_ob_i rfl ?_
  have e : σ2.2.1 = (Int32.ofInt u).toInt64 := by rw [l2.2.2, hu (by omega)]; exact hv c0
  refine bc_ob_i (by rw [e, lg0]; decide) ?_
  exact bc_br_i (fun _ => E [(6, bc_I t), (7, bc_I u)] _ _) (fun c => absurd (by rw [e, lg0]; rfl) c)
theorem k_runScript (G : lw_G g (d + 20) L xs K) (i0 : 0 ≤ i) (i1 : i + 3 < (L : Int)) (hF : fa_ 0 σ v0_) (hR : rf_ σ) (E : ∀ (z : bc_LV) (σ' : bc_M) (n : Nat), K 3091 ([(0, bc_R 999), (1, bc_R 0), (2, bc_R 218), (3, bc_R 228), (4, bc_R 229), (5, bc_I i)] ++ z) [] σ' n) : K 2858 [(0, bc_R 999), (1, bc_R 0), (2, bc_R 218), (3, bc_R 228), (4, bc_R 229), (5, bc_I i)] [] σ 0 := by
  refine G.1.1 [3091] 80 _ _ _ _ _ ?_
  refine w_runScript hF  (fun σ1 t ht yo => ?_)
  refine z_runScript (rf_yo hR yo)  (fun σ2 t2 u ht2 hu l2 => ?_)
  have hb : 0 ≤ t ∧ t ≤ 4 := by omega
  refine t_X11_thrown l2.1 ?_
  have ee : t2 = t := ht2.trans ht.symm
  refine bc_ob_i ⟨by constructor <;> omega, by constructor <;> omega⟩ ?_
  refine bc_br_i (fun _ => ?_) (fun c => absurd ee c)
  refine bc_ob_i (by constructor <;> omega) ?_
  exact bc_br_i (fun c0 => absurd c0 (by omega)) (fun _ => E [(6, bc_I t), (7, bc_I u)] _ _)
theorem k_errorPosition (G : lw_G g (d + 20) L xs K) (i0 : 0 ≤ i) (i1 : i + 3 < (L : Int)) (hF : fa_ 0 σ v0_) (hR : rf_ σ) (E : ∀ (z : bc_LV) (σ' : bc_M) (n : Nat), K 3091 ([(0, bc_R 999), (1, bc_R 0), (2, bc_R 218), (3, bc_R 228), (4, bc_R 229), (5, bc_I i)] ++ z) [] σ' n) : K 2902 [(0, bc_R 999), (1, bc_R 0), (2, bc_R 218), (3, bc_R 228), (4, bc_R 229), (5, bc_I i)] [] σ 0 := by
  refine G.1.1 [3091] 80 _ _ _ _ _ ?_
  refine w_errorPosition hF  (fun σ1 t ht yo => ?_)
  refine z_errorPosition (rf_yo hR yo)  (fun σ2 t2 u ht2 hu l2 => ?_)
  have hb : 0 ≤ t ∧ t ≤ 4 := by omega
  refine t_X11_thrown l2.1 ?_
  have ee : t2 = t := ht2.trans ht.symm
  refine bc_ob_i ⟨by constructor <;> omega, by constructor <;> omega⟩ ?_
  refine bc_br_i (fun _ => ?_) (fun c => absurd ee c)
  refine bc_ob_i (by constructor <;> omega) ?_
  exact bc_br_i (fun c0 => absurd c0 (by omega)) (fun _ => E [(6, bc_I t), (7, bc_I u)] _ _)
theorem k_failedCommand (G : lw_G g (d + 20) L xs K) (i0 : 0 ≤ i) (i1 : i + 3 < (L : Int)) (hF : fa_ 0 σ v0_) (hR : rf_ σ) (E : ∀ (z : bc_LV) (σ' : bc_M) (n : Nat), K 3091 ([(0, bc_R 999), (1, bc_R 0), (2, bc_R 218), (3, bc_R 228), (4, bc_R 229), (5, bc_I i)] ++ z) [] σ' n) : K 2946 [(0, bc_R 999), (1, bc_R 0), (2, bc_R 218), (3, bc_R 228), (4, bc_R 229), (5, bc_I i)] [] σ 0 := by
  refine G.1.1 [3091] 80 _ _ _ _ _ ?_
  refine w_failedCommand hF  (fun σ1 t ht yo => ?_)
  refine z_failedCommand (rf_yo hR yo)  (fun σ2 t2 u ht2 hu l2 => ?_)
  have hb : 0 ≤ t ∧ t ≤ 4 := by omega
  refine t_X11_thrown l2.1 ?_
  have ee : t2 = t := ht2.trans ht.symm
  refine bc_ob_i ⟨by constructor <;> omega, by constructor <;> omega⟩ ?_
  refine bc_br_i (fun _ => ?_) (fun c => absurd ee c)
  refine bc_ob_i (by constructor <;> omega) ?_
  exact bc_br_i (fun c0 => absurd c0 (by omega)) (fun _ => E [(6, bc_I t), (7, bc_I u)] _ _)
theorem k_undo (G : lw_G g (d + 20) L xs K) (i0 : 0 ≤ i) (i1 : i + 3 < (L : Int)) (hF : fa_ 0 σ v0_) (hR : rf_ σ) (E : ∀ (z : bc_LV) (σ' : bc_M) (n : Nat), K 3091 ([(0, bc_R 999), (1, bc_R 0), (2, bc_R 218), (3, bc_R 228), (4, bc_R 229), (5, bc_I i)] ++ z) [] σ' n) : K 2990 [(0, bc_R 999), (1, bc_R 0), (2, bc_R 218), (3, bc_R 228), (4, bc_R 229), (5, bc_I i)] [] σ 0 := by
  refine G.1.1 [3091] 80 _ _ _ _ _ ?_
  refine w_undo hF  (fun σ1 t ht yo => ?_)
  refine z_undo (rf_yo hR yo)  (fun σ2 t2 u ht2 hu l2 => ?_)
  have hb : 0 ≤ t ∧ t ≤ 4 := by omega
  refine t_X11_thrown l2.1 ?_
  have ee : t2 = t := ht2.trans ht.symm
  refine bc_ob_i ⟨by constructor <;> omega, by constructor <;> omega⟩ ?_
  refine bc_br_i (fun _ => ?_) (fun c => absurd ee c)
  refine bc_ob_i (by constructor <;> omega) ?_
  exact bc_br_i (fun c0 => absurd c0 (by omega)) (fun _ => E [(6, bc_I t), (7, bc_I u)] _ _)
theorem k_save (G : lw_G g (d + 20) L xs K) (i0 : 0 ≤ i) (i1 : i + 3 < (L : Int)) (hF : fa_ 0 σ v0_) (hR : rf_ σ) (E : ∀ (z : bc_LV) (σ' : bc_M) (n : Nat), K 3091 ([(0, bc_R 999), (1, bc_R 0), (2, bc_R 218), (3, bc_R 228), (4, bc_R 229), (5, bc_I i)] ++ z) [] σ' n) : K 3034 [(0, bc_R 999), (1, bc_R 0), (2, bc_R 218), (3, bc_R 228), (4, bc_R 229), (5, bc_I i)] [] σ 0 := by
  refine G.1.1 [3091] 60 _ _ _ _ _ ?_
  refine t_X10_save hF (fun σ1 _ F => ?_)
  refine m_save (rf_yo hR (yo_fr F ob_le)).1 (fun σ2 _ => ?_)
  refine bc_ob_i ⟨by decide, by decide⟩ ?_
  exact bc_br_i (fun _ => E [] _ _) (fun c => absurd rfl c)
theorem k_restore (G : lw_G g (d + 20) L xs K) (i0 : 0 ≤ i) (i1 : i + 3 < (L : Int)) (hF : fa_ 0 σ v0_) (hR : rf_ σ) (E : ∀ (z : bc_LV) (σ' : bc_M) (n : Nat), K 3091 ([(0, bc_R 999), (1, bc_R 0), (2, bc_R 218), (3, bc_R 228), (4, bc_R 229), (5, bc_I i)] ++ z) [] σ' n) : K 3047 [(0, bc_R 999), (1, bc_R 0), (2, bc_R 218), (3, bc_R 228), (4, bc_R 229), (5, bc_I i)] [] σ 0 := by
  refine G.1.1 [3091] 80 _ _ _ _ _ ?_
  refine w_restore hF  (fun σ1 t ht yo => ?_)
  refine z_restore (rf_yo hR yo)  (fun σ2 t2 u ht2 hu l2 => ?_)
  have hb : 0 ≤ t ∧ t ≤ 4 := by omega
  refine t_X11_thrown l2.1 ?_
  have ee : t2 = t := ht2.trans ht.symm
  refine bc_ob_i ⟨by constructor <;> omega, by constructor <;> omega⟩ ?_
  refine bc_br_i (fun _ => ?_) (fun c => absurd ee c)
  refine bc_ob_i (by constructor <;> omega) ?_
  exact bc_br_i (fun c0 => absurd c0 (by omega)) (fun _ => E [(6, bc_I t), (7, bc_I u)] _ _)
end CAS
