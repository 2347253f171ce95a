theorem bd_cd_e {f : Nat → Option bc_IC} {n : Nat} (h : bd_cd f n = true) (hn : ∀ pc, n ≤ pc → f pc = none) : ∀ (pc : Nat) (i : Instr) (len : Nat) (ts : List Nat), f pc = some (i, len, ts) → (∀ x, i ≠ .putfield x) ∧ i ≠ .castore ∧ i ≠ .bastore := by
  intro pc i len ts hc
  have hlt : pc < n := by
    rcases Nat.lt_or_ge pc n with q | q
    · exact q
    · rw [hn pc q] at hc; cases hc
  have h1 := List.all_eq_true.mp h pc (List.mem_range.mpr hlt)
  rw [hc] at h1
  refine ⟨fun x e => ?_, fun e => ?_, fun e => ?_⟩
  · subst e; exact absurd h1 Bool.false_ne_true
  · subst e; exact absurd h1 Bool.false_ne_true
  · subst e; exact absurd h1 Bool.false_ne_true
def bd_hk (ix : Nat) : Bool := match bc_ml 12 ix with
  | some (.inl (j, _)) => !bd_m2 j || (bc_hh (bc_yt j)).isEmpty
  | _ => true
theorem bd_hkk : (List.range 512).all bd_hk = true := by decide +kernel
theorem bd_hk_ok {ix j pos : Nat} (h : bc_ml 12 ix = some (.inl (j, pos))) (h2 : bd_m2 j = true) : bc_hh (bc_yt j) = [] := by
  have h3 := List.all_eq_true.mp bd_hkk ix (List.mem_range.mpr (bc_ml_lt h).2)
  unfold bd_hk at h3
  rw [h] at h3
  have h3 : (!bd_m2 j || (bc_hh (bc_yt j)).isEmpty) = true := h3
  rw [h2] at h3
  exact List.isEmpty_iff.mp h3
theorem bd_rt {Rr : Option bc_A → List bd_O → bc_M → Prop} {r : Option bc_A} {D : List bd_O} {σ : bc_M} (h : Rr r D σ) : Rr r (D.take D.length) σ := by
  rw [List.take_length]
  exact h
theorem mt_L_cell : bd_mt mL_cell := ⟨bd_cd_e (n := 44) (by decide +kernel) z_L_cell, cv_all _, fun _ _ _ h h2 => bd_hk_ok h h2, fun t h => by cases h⟩
theorem m_L_cell {sc : Nat × (Nat → Int32)} {g : bc_C} {D : List bd_O} {d : Nat} {as : List bc_A} {σ : bc_M} {Rr : Option bc_A → List bd_O → bc_M → Prop} (hsc : sc.1 < 2000) (ha : (as.all (fun v => !bc_wide v) && Nat.ble as.length (bc_nL mL_cell)) = true) (body : ∀ K : bd_KT, bd_Good sc mL_cell d (fun r D' σ' => Rr r (D'.take D.length) σ') K → K g D 0 (bc_lv0 0 as) [] σ 0) : bd_Sem sc g D (d + 1) mL_cell as σ Rr := bd_enter hsc v_175 rfl mt_L_cell ha body
theorem mt_L_pick : bd_mt mL_pick := ⟨bd_cd_e (n := 11) (by decide +kernel) z_L_pick, cv_all _, fun _ _ _ h h2 => bd_hk_ok h h2, fun t h => by cases h⟩
theorem m_L_pick {sc : Nat × (Nat → Int32)} {g : bc_C} {D : List bd_O} {d : Nat} {as : List bc_A} {σ : bc_M} {Rr : Option bc_A → List bd_O → bc_M → Prop} (hsc : sc.1 < 2000) (ha : (as.all (fun v => !bc_wide v) && Nat.ble as.length (bc_nL mL_pick)) = true) (body : ∀ K : bd_KT, bd_Good sc mL_pick d (fun r D' σ' => Rr r (D'.take D.length) σ') K → K g D 0 (bc_lv0 0 as) [] σ 0) : bd_Sem sc g D (d + 1) mL_pick as σ Rr := bd_enter hsc v_182 rfl mt_L_pick ha body
theorem mt_L_lay : bd_mt mL_lay := ⟨bd_cd_e (n := 205) (by decide +kernel) z_L_lay, cv_all _, fun _ _ _ h h2 => bd_hk_ok h h2, fun t h => by cases h⟩
theorem m_L_lay {sc : Nat × (Nat → Int32)} {g : bc_C} {D : List bd_O} {d : Nat} {as : List bc_A} {σ : bc_M} {Rr : Option bc_A → List bd_O → bc_M → Prop} (hsc : sc.1 < 2000) (ha : (as.all (fun v => !bc_wide v) && Nat.ble as.length (bc_nL mL_lay)) = true) (body : ∀ K : bd_KT, bd_Good sc mL_lay d (fun r D' σ' => Rr r (D'.take D.length) σ') K → K g D 0 (bc_lv0 0 as) [] σ 0) : bd_Sem sc g D (d + 1) mL_lay as σ Rr := bd_enter hsc v_180 rfl mt_L_lay ha body
theorem mt_L_any : bd_mt mL_any := ⟨bd_cd_e (n := 377) (by decide +kernel) z_L_any, cv_all _, fun _ _ _ h h2 => bd_hk_ok h h2, fun t h => by cases h⟩
theorem m_L_any {sc : Nat × (Nat → Int32)} {g : bc_C} {D : List bd_O} {d : Nat} {as : List bc_A} {σ : bc_M} {Rr : Option bc_A → List bd_O → bc_M → Prop} (hsc : sc.1 < 2000) (ha : (as.all (fun v => !bc_wide v) && Nat.ble as.length (bc_nL mL_any)) = true) (body : ∀ K : bd_KT, bd_Good sc mL_any d (fun r D' σ' => Rr r (D'.take D.length) σ') K → K g D 0 (bc_lv0 0 as) [] σ 0) : bd_Sem sc g D (d + 1) mL_any as σ Rr := bd_enter hsc v_169 rfl mt_L_any ha body
theorem mt_L_looks : bd_mt mL_looks := ⟨bd_cd_e (n := 219) (by decide +kernel) z_L_looks, cv_all _, fun _ _ _ h h2 => bd_hk_ok h h2, fun t h => by cases h⟩
theorem m_L_looks {sc : Nat × (Nat → Int32)} {g : bc_C} {D : List bd_O} {d : Nat} {as : List bc_A} {σ : bc_M} {Rr : Option bc_A → List bd_O → bc_M → Prop} (hsc : sc.1 < 2000) (ha : (as.all (fun v => !bc_wide v) && Nat.ble as.length (bc_nL mL_looks)) = true) (body : ∀ K : bd_KT, bd_Good sc mL_looks d (fun r D' σ' => Rr r (D'.take D.length) σ') K → K g D 0 (bc_lv0 0 as) [] σ 0) : bd_Sem sc g D (d + 1) mL_looks as σ Rr := bd_enter hsc v_181 rfl mt_L_looks ha body
theorem mt_L_isText : bd_mt mL_isText := ⟨bd_cd_e (n := 59) (by decide +kernel) z_L_isText, cv_all _, fun _ _ _ h h2 => bd_hk_ok h h2, fun t h => by cases h⟩
theorem m_L_isText {sc : Nat × (Nat → Int32)} {g : bc_C} {D : List bd_O} {d : Nat} {as : List bc_A} {σ : bc_M} {Rr : Option bc_A → List bd_O → bc_M → Prop} (hsc : sc.1 < 2000) (ha : (as.all (fun v => !bc_wide v) && Nat.ble as.length (bc_nL mL_isText)) = true) (body : ∀ K : bd_KT, bd_Good sc mL_isText d (fun r D' σ' => Rr r (D'.take D.length) σ') K → K g D 0 (bc_lv0 0 as) [] σ 0) : bd_Sem sc g D (d + 1) mL_isText as σ Rr := bd_enter hsc v_179 rfl mt_L_isText ha body
theorem mt_L_strength : bd_mt mL_strength := ⟨bd_cd_e (n := 89) (by decide +kernel) z_L_strength, cv_all _, fun _ _ _ h h2 => bd_hk_ok h h2, fun t h => by cases h⟩
theorem m_L_strength {sc : Nat × (Nat → Int32)} {g : bc_C} {D : List bd_O} {d : Nat} {as : List bc_A} {σ : bc_M} {Rr : Option bc_A → List bd_O → bc_M → Prop} (hsc : sc.1 < 2000) (ha : (as.all (fun v => !bc_wide v) && Nat.ble as.length (bc_nL mL_strength)) = true) (body : ∀ K : bd_KT, bd_Good sc mL_strength d (fun r D' σ' => Rr r (D'.take D.length) σ') K → K g D 0 (bc_lv0 0 as) [] σ 0) : bd_Sem sc g D (d + 1) mL_strength as σ Rr := bd_enter hsc v_185 rfl mt_L_strength ha body
theorem mt_L_areMembersRight : bd_mt mL_areMembersRight := ⟨bd_cd_e (n := 668) (by decide +kernel) z_L_areMembersRight, cv_all _, fun _ _ _ h h2 => bd_hk_ok h h2, fun t h => by cases h⟩
theorem m_L_areMembersRight {sc : Nat × (Nat → Int32)} {g : bc_C} {D : List bd_O} {d : Nat} {as : List bc_A} {σ : bc_M} {Rr : Option bc_A → List bd_O → bc_M → Prop} (hsc : sc.1 < 2000) (ha : (as.all (fun v => !bc_wide v) && Nat.ble as.length (bc_nL mL_areMembersRight)) = true) (body : ∀ K : bd_KT, bd_Good sc mL_areMembersRight d (fun r D' σ' => Rr r (D'.take D.length) σ') K → K g D 0 (bc_lv0 0 as) [] σ 0) : bd_Sem sc g D (d + 1) mL_areMembersRight as σ Rr := bd_enter hsc v_170 rfl mt_L_areMembersRight ha body
theorem mt_L_reaches : bd_mt mL_reaches := ⟨bd_cd_e (n := 110) (by decide +kernel) z_L_reaches, cv_all _, fun _ _ _ h h2 => bd_hk_ok h h2, fun t h => by cases h⟩
theorem m_L_reaches {sc : Nat × (Nat → Int32)} {g : bc_C} {D : List bd_O} {d : Nat} {as : List bc_A} {σ : bc_M} {Rr : Option bc_A → List bd_O → bc_M → Prop} (hsc : sc.1 < 2000) (ha : (as.all (fun v => !bc_wide v) && Nat.ble as.length (bc_nL mL_reaches)) = true) (body : ∀ K : bd_KT, bd_Good sc mL_reaches d (fun r D' σ' => Rr r (D'.take D.length) σ') K → K g D 0 (bc_lv0 0 as) [] σ 0) : bd_Sem sc g D (d + 1) mL_reaches as σ Rr := bd_enter hsc v_184 rfl mt_L_reaches ha body
theorem mt_L_tryWays : bd_mt mL_tryWays := ⟨bd_cd_e (n := 329) (by decide +kernel) z_L_tryWays, cv_all _, fun _ _ _ h h2 => bd_hk_ok h h2, fun t h => by cases h⟩
theorem m_L_tryWays {sc : Nat × (Nat → Int32)} {g : bc_C} {D : List bd_O} {d : Nat} {as : List bc_A} {σ : bc_M} {Rr : Option bc_A → List bd_O → bc_M → Prop} (hsc : sc.1 < 2000) (ha : (as.all (fun v => !bc_wide v) && Nat.ble as.length (bc_nL mL_tryWays)) = true) (body : ∀ K : bd_KT, bd_Good sc mL_tryWays d (fun r D' σ' => Rr r (D'.take D.length) σ') K → K g D 0 (bc_lv0 0 as) [] σ 0) : bd_Sem sc g D (d + 1) mL_tryWays as σ Rr := bd_enter hsc v_187 rfl mt_L_tryWays ha body
theorem mt_L_areWaysRight : bd_mt mL_areWaysRight := ⟨bd_cd_e (n := 405) (by decide +kernel) z_L_areWaysRight, cv_all _, fun _ _ _ h h2 => bd_hk_ok h h2, fun t h => by cases h⟩
theorem m_L_areWaysRight {sc : Nat × (Nat → Int32)} {g : bc_C} {D : List bd_O} {d : Nat} {as : List bc_A} {σ : bc_M} {Rr : Option bc_A → List bd_O → bc_M → Prop} (hsc : sc.1 < 2000) (ha : (as.all (fun v => !bc_wide v) && Nat.ble as.length (bc_nL mL_areWaysRight)) = true) (body : ∀ K : bd_KT, bd_Good sc mL_areWaysRight d (fun r D' σ' => Rr r (D'.take D.length) σ') K → K g D 0 (bc_lv0 0 as) [] σ 0) : bd_Sem sc g D (d + 1) mL_areWaysRight as σ Rr := bd_enter hsc v_172 rfl mt_L_areWaysRight ha body
theorem mt_L_isAffordable : bd_mt mL_isAffordable := ⟨bd_cd_e (n := 242) (by decide +kernel) z_L_isAffordable, cv_all _, fun _ _ _ h h2 => bd_hk_ok h h2, fun t h => by cases h⟩
theorem m_L_isAffordable {sc : Nat × (Nat → Int32)} {g : bc_C} {D : List bd_O} {d : Nat} {as : List bc_A} {σ : bc_M} {Rr : Option bc_A → List bd_O → bc_M → Prop} (hsc : sc.1 < 2000) (ha : (as.all (fun v => !bc_wide v) && Nat.ble as.length (bc_nL mL_isAffordable)) = true) (body : ∀ K : bd_KT, bd_Good sc mL_isAffordable d (fun r D' σ' => Rr r (D'.take D.length) σ') K → K g D 0 (bc_lv0 0 as) [] σ 0) : bd_Sem sc g D (d + 1) mL_isAffordable as σ Rr := bd_enter hsc v_177 rfl mt_L_isAffordable ha body
theorem mt_L_isAffordableRight : bd_mt mL_isAffordableRight := ⟨bd_cd_e (n := 113) (by decide +kernel) z_L_isAffordableRight, cv_all _, fun _ _ _ h h2 => bd_hk_ok h h2, fun t h => by cases h⟩
theorem m_L_isAffordableRight {sc : Nat × (Nat → Int32)} {g : bc_C} {D : List bd_O} {d : Nat} {as : List bc_A} {σ : bc_M} {Rr : Option bc_A → List bd_O → bc_M → Prop} (hsc : sc.1 < 2000) (ha : (as.all (fun v => !bc_wide v) && Nat.ble as.length (bc_nL mL_isAffordableRight)) = true) (body : ∀ K : bd_KT, bd_Good sc mL_isAffordableRight d (fun r D' σ' => Rr r (D'.take D.length) σ') K → K g D 0 (bc_lv0 0 as) [] σ 0) : bd_Sem sc g D (d + 1) mL_isAffordableRight as σ Rr := bd_enter hsc v_178 rfl mt_L_isAffordableRight ha body
theorem mt_L_areVowsRight : bd_mt mL_areVowsRight := ⟨bd_cd_e (n := 410) (by decide +kernel) z_L_areVowsRight, cv_all _, fun _ _ _ h h2 => bd_hk_ok h h2, fun t h => by cases h⟩
theorem m_L_areVowsRight {sc : Nat × (Nat → Int32)} {g : bc_C} {D : List bd_O} {d : Nat} {as : List bc_A} {σ : bc_M} {Rr : Option bc_A → List bd_O → bc_M → Prop} (hsc : sc.1 < 2000) (ha : (as.all (fun v => !bc_wide v) && Nat.ble as.length (bc_nL mL_areVowsRight)) = true) (body : ∀ K : bd_KT, bd_Good sc mL_areVowsRight d (fun r D' σ' => Rr r (D'.take D.length) σ') K → K g D 0 (bc_lv0 0 as) [] σ 0) : bd_Sem sc g D (d + 1) mL_areVowsRight as σ Rr := bd_enter hsc v_171 rfl mt_L_areVowsRight ha body
