/-! the law's beginning, and its turns -/
theorem bd_nb_i {x y : Nat} {q : Bool} {A : Prop} (h : x ≤ y) (hq : q = true) (hA : A) : bif Nat.ble x y && q then A else False := by
  rw [Nat.ble_eq_true_of_le h, hq]
  exact hA
section BDLAY
variable {sc : Nat × (Nat → Int32)} {g : bc_C} {D : List bd_O} {d : Nat} {σ : bc_M} {B : Int} {v : cs_t} {Rr : Option bc_A → List bd_O → bc_M → Prop}
theorem t_L_lay (hsc : sc.1 < 2000) (hF : fa_ B σ v) (hU : uj_ (c_r v)) (hB : B ≤ 900000) (h : ∀ (σ' : bc_M) (v' : cs_t), fa_ (B + 1500) σ' v' → uj_ (c_r v') → (c_r v') 1 ≤ (c_r v) 1 → Rr none D σ') : bd_Sem sc g D (d + 24) mL_lay [bc_R 0, bc_R 999] σ Rr := by
  refine m_L_lay hsc rfl (fun K hK => ?_)
  have L3 : ∀ k : Int, ∀ (σ1 : bc_M) (v1 : cs_t) (B1 w : Int) (n : Nat), 0 ≤ k → k ≤ 19 → fa_ B1 σ1 v1 → uj_ (c_r v1) → (c_r v1) 1 ≤ (c_r v) 1 → B1 ≤ B + 900 + 30 * k → (n : Int) ≤ 286 + 11 * k → K g D 146 [(0, bc_R 0), (1, bc_R 999), (2, bc_I w), (3, bc_I k)] [] σ1 n := by
    refine up_ind 19 (fun k hk σ1 v1 B1 w n k0 k1 F1 U1 S1 b1 hn => ?_) (fun k hk ih σ1 v1 B1 w n k0 k1 F1 U1 S1 b1 hn => ?_)
    · refine hK.1 [4, 89, 146] 60 _ _ _ _ _ _ _ ?_
      refine bd_nb_i (by show n + 0 ≤ 500; omega) rfl ?_
      refine t_L_pick hsc ⟨by decide, by decide⟩ ⟨by decide, by decide⟩ (fun x x0 x1 => ?_)
      refine bc_ob_i (by omega) ?_
      refine bc_br_i (fun c => (by omega : False).elim) (fun _ => ?_)
      exact bd_rt (h σ1 v1 (fa_mono F1 (by omega)) U1 S1)
    · refine hK.1 [4, 89, 146] 60 _ _ _ _ _ _ _ ?_
      refine bd_nb_i (by show n + 0 ≤ 500; omega) rfl ?_
      refine t_L_pick hsc ⟨by decide, by decide⟩ ⟨by decide, by decide⟩ (fun x x0 x1 => ?_)
      refine bc_ob_i (by omega) ?_
      refine bc_br_i (fun c => ?_) (fun _ => bd_rt (h σ1 v1 (fa_mono F1 (by omega)) U1 S1))
      repeat' first
        | refine bd_nb_i (by show n + 0 ≤ 500; omega) rfl ?_
        | refine t_L_pick hsc ⟨by omega, by omega⟩ ⟨by decide, by decide⟩ (fun _ _ _ => ?_)
        | refine bc_nb_i (by show n + 11 ≤ 500; omega) rfl rfl ?_
        | exact fun Z => t_L_deed F1 (by omega) U1 ⟨by decide, by decide⟩ (by constructor <;> omega) (by constructor <;> omega) (by constructor <;> omega) (fun x σ2 v2 F2 U2 S2 => ih σ2 v2 (B1 + 30) (w + x) (n + 11) (by omega) (by omega) F2 U2 (by rw [if_neg (by decide)] at S2; omega) (by omega) (by omega))
  have L2 : ∀ k : Int, ∀ (σ1 : bc_M) (v1 : cs_t) (B1 w : Int) (n : Nat), 0 ≤ k → k ≤ 7 → fa_ B1 σ1 v1 → uj_ (c_r v1) → (c_r v1) 1 ≤ (c_r v) 1 → B1 ≤ B + 600 + 30 * k → (n : Int) ≤ 209 + 11 * k → K g D 89 [(0, bc_R 0), (1, bc_R 999), (2, bc_I w), (3, bc_I k)] [] σ1 n := by
    refine up_ind 7 (fun k hk σ1 v1 B1 w n k0 k1 F1 U1 S1 b1 hn => ?_) (fun k hk ih σ1 v1 B1 w n k0 k1 F1 U1 S1 b1 hn => ?_)
    · refine hK.1 [4, 89, 146] 60 _ _ _ _ _ _ _ ?_
      refine bd_nb_i (by show n + 0 ≤ 500; omega) rfl ?_
      refine t_L_pick hsc ⟨by decide, by decide⟩ ⟨by decide, by decide⟩ (fun x x0 x1 => ?_)
      refine bc_ob_i (by omega) ?_
      refine bc_br_i (fun c => (by omega : False).elim) (fun _ => ?_)
      exact L3 0 σ1 v1 B1 w (n + 0) (by decide) (by decide) F1 U1 S1 (by omega) (by omega)
    · have w0 : 0 ≤ (c_r v1) 0 ∧ (c_r v1) 0 ≤ B1 := F1.1.1.2.2.2.1
      refine hK.1 [4, 89, 146] 60 _ _ _ _ _ _ _ ?_
      refine bd_nb_i (by show n + 0 ≤ 500; omega) rfl ?_
      refine t_L_pick hsc ⟨by decide, by decide⟩ ⟨by decide, by decide⟩ (fun x x0 x1 => ?_)
      refine bc_ob_i (by omega) ?_
      refine bc_br_i (fun c => ?_) (fun _ => L3 0 σ1 v1 B1 w (n + 0) (by decide) (by decide) F1 U1 S1 (by omega) (by omega))
      refine bc_nb_i (by show n + 0 ≤ 500; omega) rfl rfl ?_
      refine fun Z => t_X10_day F1 ?_
      repeat' first
        | refine bd_nb_i (by show n + 0 ≤ 500; omega) rfl ?_
        | refine t_L_pick hsc ⟨by omega, by omega⟩ ⟨by decide, by decide⟩ (fun _ _ _ => ?_)
        | refine bc_nb_i (by show n + 11 ≤ 500; omega) rfl rfl ?_
        | exact fun Z => t_L_deed F1 (by omega) U1 ⟨by decide, by decide⟩ (by constructor <;> omega) (by constructor <;> omega) (by constructor <;> omega) (fun x σ2 v2 F2 U2 S2 => ih σ2 v2 (B1 + 30) (w + x) (n + 11) (by omega) (by omega) F2 U2 (by rw [if_neg (by decide)] at S2; omega) (by omega) (by omega))
  have L1 : ∀ k : Int, ∀ (σ1 : bc_M) (v1 : cs_t) (B1 w : Int) (n : Nat), 0 ≤ k → k ≤ 19 → fa_ B1 σ1 v1 → uj_ (c_r v1) → (c_r v1) 1 ≤ (c_r v) 1 → B1 ≤ B + 30 * k → (n : Int) ≤ 11 * k → K g D 4 [(0, bc_R 0), (1, bc_R 999), (2, bc_I w), (3, bc_I k)] [] σ1 n := by
    refine up_ind 19 (fun k hk σ1 v1 B1 w n k0 k1 F1 U1 S1 b1 hn => ?_) (fun k hk ih σ1 v1 B1 w n k0 k1 F1 U1 S1 b1 hn => ?_)
    · refine hK.1 [4, 89, 146] 60 _ _ _ _ _ _ _ ?_
      refine bd_nb_i (by show n + 0 ≤ 500; omega) rfl ?_
      refine t_L_pick hsc ⟨by decide, by decide⟩ ⟨by decide, by decide⟩ (fun x x0 x1 => ?_)
      refine bc_ob_i (by omega) ?_
      refine bc_br_i (fun c => (by omega : False).elim) (fun _ => ?_)
      exact L2 0 σ1 v1 B1 w (n + 0) (by decide) (by decide) F1 U1 S1 (by omega) (by omega)
    · refine hK.1 [4, 89, 146] 60 _ _ _ _ _ _ _ ?_
      refine bd_nb_i (by show n + 0 ≤ 500; omega) rfl ?_
      refine t_L_pick hsc ⟨by decide, by decide⟩ ⟨by decide, by decide⟩ (fun x x0 x1 => ?_)
      refine bc_ob_i (by omega) ?_
      refine bc_br_i (fun c => ?_) (fun _ => L2 0 σ1 v1 B1 w (n + 0) (by decide) (by decide) F1 U1 S1 (by omega) (by omega))
      repeat' first
        | refine bd_nb_i (by show n + 0 ≤ 500; omega) rfl ?_
        | refine t_L_pick hsc ⟨by omega, by omega⟩ ⟨by decide, by decide⟩ (fun _ _ _ => ?_)
        | refine bc_br_i (fun _ => ?_) (fun _ => ?_)
        | refine bc_ob_i (by omega) ?_
        | refine bc_nb_i (by show n + 11 ≤ 500; omega) rfl rfl ?_
        | exact fun Z => t_L_deed F1 (by omega) U1 ⟨by decide, by decide⟩ (by constructor <;> omega) (by constructor <;> omega) (by constructor <;> omega) (fun x σ2 v2 F2 U2 S2 => ih σ2 v2 (B1 + 30) (w + x) (n + 11) (by omega) (by omega) F2 U2 (by rw [if_neg (by decide)] at S2; omega) (by omega) (by omega))
  refine hK.1 [4, 89, 146] 60 _ _ _ _ _ _ _ ?_
  exact L1 0 σ v B 0 0 (by decide) (by decide) hF hU (Int.le_refl _) (by omega) (by decide)
theorem t_L_any {i : Int} (hsc : sc.1 < 2000) (hi : 0 ≤ i ∧ i ≤ 1000) (hF : fa_ B σ v) (hU : uj_ (c_r v)) (hB : B ≤ 900000) (h : ∀ (x : Int) (σ' : bc_M) (v' : cs_t), fa_ (B + 30) σ' v' → uj_ (c_r v') → (c_r v') 1 ≤ (c_r v) 1 + 600 → Rr (some (bc_I x)) D σ') : bd_Sem sc g D (d + 24) mL_any [bc_R 0, bc_R 999, bc_I i] σ Rr := by
  have w3 := hF.1.1.2.1.1
  have w0 : 0 ≤ (c_r v) 0 ∧ (c_r v) 0 ≤ B := hF.1.1.2.2.2.1
  have w11 := hF.1.1.2.2.1.1
  have go : ∀ (x : Int) (σ' : bc_M) (v' : cs_t) (w : Int), fa_ (B + 30) σ' v' → uj_ (c_r v') → (c_r v') 1 ≤ (c_r v) 1 + (if w = 9 then 600 else 0) → Rr (some (bc_I x)) (D.take D.length) σ' := fun x σ' v' w F U S => bd_rt (h x σ' v' F U (by split at S <;> omega))
  refine m_L_any hsc rfl (fun K hK => ?_)
  refine hK.1 [] 60 _ _ _ _ _ _ _ ?_
  refine fun Z => t_X10_memberCount hF ?_
  refine bc_ob_i ⟨by omega, by omega, by show 2 ≤ 8; decide⟩ ?_
  refine t_L_pick hsc ⟨by omega, by omega⟩ ⟨by omega, by omega⟩ (fun m m0 m1 => ?_)
  refine t_L_pick hsc ⟨by omega, by omega⟩ ⟨by decide, by decide⟩ (fun y y0 y1 => ?_)
  refine bc_ob_i (by omega) ?_
  repeat' first
    | refine bc_br_i (fun _ => ?_) (fun _ => ?_)
    | refine t_L_pick hsc ⟨by omega, by omega⟩ ⟨by decide, by decide⟩ (fun _ _ _ => ?_)
    | refine bc_ob_i (by omega) ?_
    | refine fun Z => t_X10_day hF ?_
    | refine fun Z => t_X10_nicheKind hF ?_
    | exact fun Z => t_L_deed hF (by omega) hU ⟨by decide, by decide⟩ (by constructor <;> omega) (by constructor <;> omega) (by constructor <;> omega) (fun x σ2 v2 F2 U2 S2 => go x σ2 v2 _ F2 U2 S2)
end BDLAY
