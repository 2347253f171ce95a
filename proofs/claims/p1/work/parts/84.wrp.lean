/-! the law's wrappers over a fresh object -/
/-- the reference's cells are as before -/
def yo_ (σ σ' : bc_M) : Prop := ∀ k : Nat, 218 ≤ k → σ'.1 k = σ.1 k
theorem yo_rf (σ : bc_M) : yo_ σ σ := fun _ _ => rfl
theorem yo_fr {P : Nat → Prop} {σ σ' : bc_M} (h : fr_ P σ σ') (hp : ∀ k, P k → k ≤ 217) : yo_ σ σ' := fun k hk => h.1 k (fun q => by have := hp k q; omega)
theorem ob_le (k : Nat) (h : ob_ k) : k ≤ 217 := h.1
theorem ov_le (k : Nat) (h : ov_ k) : k ≤ 217 := h
section WRP
variable {g : bc_C} {d : Nat} {σ : bc_M} {B : Int} {v : cs_t} {Rr : Option bc_A → bc_M → Prop} {X : Nat → bc_M → Prop}
theorem t0_X10_strain {m u : Int} (hF : fa_ B σ v) (hm : bc_in m) (z : tq_ (c_r v) m = 1) (h : X 0 σ) : bc_Sem g (d + 3) mX10_strain [bc_R 0, bc_I m, bc_I u] σ Rr X := by
  refine e_X10_strain rfl (fun K hK => ?_)
  refine hK.1 [] 60 _ _ _ _ _ ?_
  refine t_X10_strainFault hF hm ?_
  rw [z]
  refine t_X10_refuse (by decide) (by decide) (fun e => absurd e (by decide)) (fun e he => ?_)
  have e0 : e = 0 := by omega
  rw [e0]
  exact h
theorem t0_X10_strainBits {m u : Int} (hF : fa_ B σ v) (hm : bc_in m) (z : tq_ (c_r v) m = 1) (h : X 0 σ) : bc_Sem g (d + 3) mX10_strainBits [bc_R 0, bc_I m, bc_I u] σ Rr X := by
  refine e_X10_strainBits rfl (fun K hK => ?_)
  refine hK.1 [] 60 _ _ _ _ _ ?_
  refine t_X10_strainFault hF hm ?_
  rw [z]
  refine t_X10_refuse (by decide) (by decide) (fun e => absurd e (by decide)) (fun e he => ?_)
  have e0 : e = 0 := by omega
  rw [e0]
  exact h
theorem t0_X10_meanBearing (hF : fa_ B σ v) (z : (c_r v) 3 = 0) (h : X 5 σ) : bc_Sem g (d + 2) mX10_meanBearing [bc_R 0] σ Rr X := by
  have e3 := (st_M1 hF.1.1.1.1).1
  refine e_X10_meanBearing rfl (fun K hK => ?_)
  refine hK.1 [] 60 _ _ _ _ _ ?_
  refine bc_ob_i (by rw [e3, z]; decide) ?_
  refine bc_br_i (fun _ => ?_) (fun c => absurd (e3.trans z) c)
  refine t_X10_refuse (by decide) (by decide) (fun e => absurd e (by decide)) (fun e he => ?_)
  have e0 : e = 5 := by omega
  rw [e0]
  exact h
theorem t0_X10_crackedShare (hF : fa_ B σ v) (z : (c_r v) 3 = 0) (h : X 5 σ) : bc_Sem g (d + 2) mX10_crackedShare [bc_R 0] σ Rr X := by
  have e3 := (st_M1 hF.1.1.1.1).1
  refine e_X10_crackedShare rfl (fun K hK => ?_)
  refine hK.1 [] 60 _ _ _ _ _ ?_
  refine bc_ob_i (by rw [e3, z]; decide) ?_
  refine bc_br_i (fun _ => ?_) (fun c => absurd (e3.trans z) c)
  refine t_X10_refuse (by decide) (by decide) (fun e => absurd e (by decide)) (fun e he => ?_)
  have e0 : e = 5 := by omega
  rw [e0]
  exact h
end WRP
section WRP
variable {g : bc_C} {d : Nat} {σ : bc_M} {Rr : Option bc_A → bc_M → Prop}
theorem w_firstJoint {m : Int} (hF : fa_ 0 σ v0_) (hm : bc_in m) (f : ∀ (σ' : bc_M) (t : Int), t = 1 → yo_ σ σ' → Rr (some (bc_I t)) σ') : bc_Sem g (d + 20) mL_firstJoint [bc_R 0, bc_I m, bc_R 228] σ Rr (fun _ _ => False) := by
  refine e_L_firstJoint rfl (fun K hK => ?_)
  refine hK.1 [] 60 _ _ _ _ _ ?_
  refine t_X10_firstJoint (v := v0_) hF hm (fun _ => ?_) (fun m0 m1 => absurd m1 (by show ¬ m < r0_ 3; rw [r0_3]; omega))
  exact f σ 1 rfl (yo_rf σ)
theorem w_secondJoint {m : Int} (hF : fa_ 0 σ v0_) (hm : bc_in m) (f : ∀ (σ' : bc_M) (t : Int), t = 1 → yo_ σ σ' → Rr (some (bc_I t)) σ') : bc_Sem g (d + 20) mL_secondJoint [bc_R 0, bc_I m, bc_R 228] σ Rr (fun _ _ => False) := by
  refine e_L_secondJoint rfl (fun K hK => ?_)
  refine hK.1 [] 60 _ _ _ _ _ ?_
  refine t_X10_secondJoint (v := v0_) hF hm (fun _ => ?_) (fun m0 m1 => absurd m1 (by show ¬ m < r0_ 3; rw [r0_3]; omega))
  exact f σ 1 rfl (yo_rf σ)
theorem w_crack {m : Int} (hF : fa_ 0 σ v0_) (hm : bc_in m) (f : ∀ (σ' : bc_M) (t : Int), t = 1 → yo_ σ σ' → Rr (some (bc_I t)) σ') : bc_Sem g (d + 20) mL_crack [bc_R 0, bc_I m, bc_R 228] σ Rr (fun _ _ => False) := by
  refine e_L_crack rfl (fun K hK => ?_)
  refine hK.1 [] 60 _ _ _ _ _ ?_
  refine t_X10_crack (v := v0_) hF hm (fun _ => ?_) (fun m0 m1 => absurd m1 (by show ¬ m < r0_ 3; rw [r0_3]; omega))
  exact f σ 1 rfl (yo_rf σ)
theorem w_wear {m : Int} (hF : fa_ 0 σ v0_) (hm : bc_in m) (f : ∀ (σ' : bc_M) (t : Int), t = 1 → yo_ σ σ' → Rr (some (bc_I t)) σ') : bc_Sem g (d + 20) mL_wear [bc_R 0, bc_I m, bc_R 228] σ Rr (fun _ _ => False) := by
  refine e_L_wear rfl (fun K hK => ?_)
  refine hK.1 [] 60 _ _ _ _ _ ?_
  refine t_X10_wear (v := v0_) hF hm (fun _ => ?_) (fun m0 m1 => absurd m1 (by show ¬ m < r0_ 3; rw [r0_3]; omega))
  exact f σ 1 rfl (yo_rf σ)
theorem w_isAbandoned {m : Int} (hF : fa_ 0 σ v0_) (hm : bc_in m) (f : ∀ (σ' : bc_M) (t : Int), t = 1 → yo_ σ σ' → Rr (some (bc_I t)) σ') : bc_Sem g (d + 20) mL_isAbandoned [bc_R 0, bc_I m, bc_R 228] σ Rr (fun _ _ => False) := by
  refine e_L_isAbandoned rfl (fun K hK => ?_)
  refine hK.1 [] 60 _ _ _ _ _ ?_
  refine t_X10_isAbandoned (v := v0_) hF hm (fun _ => ?_) (fun m0 m1 => absurd m1 (by show ¬ m < r0_ 3; rw [r0_3]; omega))
  exact f σ 1 rfl (yo_rf σ)
theorem w_bearing {m : Int} (hF : fa_ 0 σ v0_) (hm : bc_in m) (f : ∀ (σ' : bc_M) (t : Int), t = 1 → yo_ σ σ' → Rr (some (bc_I t)) σ') : bc_Sem g (d + 20) mL_bearing [bc_R 0, bc_I m, bc_R 228] σ Rr (fun _ _ => False) := by
  refine e_L_bearing rfl (fun K hK => ?_)
  refine hK.1 [] 60 _ _ _ _ _ ?_
  refine t_X10_bearing (v := v0_) hF hm (fun _ => ?_) (fun m0 m1 => absurd m1 (by show ¬ m < r0_ 3; rw [r0_3]; omega))
  exact f σ 1 rfl (yo_rf σ)
theorem w_repairCost {m : Int} (hF : fa_ 0 σ v0_) (hm : bc_in m) (f : ∀ (σ' : bc_M) (t : Int), t = 1 → yo_ σ σ' → Rr (some (bc_I t)) σ') : bc_Sem g (d + 20) mL_repairCost [bc_R 0, bc_I m, bc_R 228] σ Rr (fun _ _ => False) := by
  refine e_L_repairCost rfl (fun K hK => ?_)
  refine hK.1 [] 60 _ _ _ _ _ ?_
  refine t_X10_repairCost (v := v0_) hF hm (fun _ => ?_) (fun m0 m1 => absurd m1 (by show ¬ m < r0_ 3; rw [r0_3]; omega))
  exact f σ 1 rfl (yo_rf σ)
theorem w_renderMember {m : Int} (hF : fa_ 0 σ v0_) (hm : bc_in m) (f : ∀ (σ' : bc_M) (t : Int), t = 1 → yo_ σ σ' → Rr (some (bc_I t)) σ') : bc_Sem g (d + 20) mL_renderMember [bc_R 0, bc_I m, bc_R 228] σ Rr (fun _ _ => False) := by
  refine e_L_renderMember rfl (fun K hK => ?_)
  refine hK.1 [] 60 _ _ _ _ _ ?_
  refine t_X10_renderMember (v := v0_) hF hm (fun _ => ?_) (fun m0 m1 => absurd m1 (by show ¬ m < r0_ 3; rw [r0_3]; omega))
  exact f σ 1 rfl (yo_rf σ)
theorem w_isCritical {m : Int} (hF : fa_ 0 σ v0_) (hm : bc_in m) (f : ∀ (σ' : bc_M) (t : Int), t = 1 → yo_ σ σ' → Rr (some (bc_I t)) σ') : bc_Sem g (d + 20) mL_isCritical [bc_R 0, bc_I m, bc_R 228] σ Rr (fun _ _ => False) := by
  refine e_L_isCritical rfl (fun K hK => ?_)
  refine hK.1 [] 60 _ _ _ _ _ ?_
  refine t_X10_isCritical (v := v0_) hF hm (fun _ => ?_) (fun m0 m1 => absurd m1 (by show ¬ m < r0_ 3; rw [r0_3]; omega))
  exact f σ 1 rfl (yo_rf σ)
theorem w_isCriticalByRemoval {m : Int} (hF : fa_ 0 σ v0_) (hm : bc_in m) (f : ∀ (σ' : bc_M) (t : Int), t = 1 → yo_ σ σ' → Rr (some (bc_I t)) σ') : bc_Sem g (d + 20) mL_isCriticalByRemoval [bc_R 0, bc_I m, bc_R 228] σ Rr (fun _ _ => False) := by
  refine e_L_isCriticalByRemoval rfl (fun K hK => ?_)
  refine hK.1 [] 60 _ _ _ _ _ ?_
  refine t_X10_isCriticalByRemoval (v := v0_) hF hm (fun _ => ?_) (fun m0 m1 => absurd m1 (by show ¬ m < r0_ 3; rw [r0_3]; omega))
  exact f σ 1 rfl (yo_rf σ)
theorem w_strain {m u : Int} (hF : fa_ 0 σ v0_) (hm : bc_in m) (hu : bc_in u) (f : ∀ (σ' : bc_M) (t : Int), t = 1 → yo_ σ σ' → Rr (some (bc_I t)) σ') : bc_Sem g (d + 20) mL_strain [bc_R 0, bc_I m, bc_I u, bc_R 229] σ Rr (fun _ _ => False) := by
  refine e_L_strain rfl (fun K hK => ?_)
  refine hK.1 [] 60 _ _ _ _ _ ?_
  refine t0_X10_strain (v := v0_) hF hm (tq0 m) ?_
  exact f σ 1 rfl (yo_rf σ)
theorem w_strainBits {m u : Int} (hF : fa_ 0 σ v0_) (hm : bc_in m) (hu : bc_in u) (f : ∀ (σ' : bc_M) (t : Int), t = 1 → yo_ σ σ' → Rr (some (bc_I t)) σ') : bc_Sem g (d + 20) mL_strainBits [bc_R 0, bc_I m, bc_I u, bc_R 228] σ Rr (fun _ _ => False) := by
  refine e_L_strainBits rfl (fun K hK => ?_)
  refine hK.1 [] 60 _ _ _ _ _ ?_
  refine t0_X10_strainBits (v := v0_) hF hm (tq0 m) ?_
  exact f σ 1 rfl (yo_rf σ)
theorem w_meanBearing (hF : fa_ 0 σ v0_) (f : ∀ (σ' : bc_M) (t : Int), t = 1 → yo_ σ σ' → Rr (some (bc_I t)) σ') : bc_Sem g (d + 20) mL_meanBearing [bc_R 0, bc_R 229] σ Rr (fun _ _ => False) := by
  refine e_L_meanBearing rfl (fun K hK => ?_)
  refine hK.1 [] 60 _ _ _ _ _ ?_
  refine t0_X10_meanBearing (v := v0_) hF r0_3 ?_
  exact f σ 1 rfl (yo_rf σ)
theorem w_crackedShare (hF : fa_ 0 σ v0_) (f : ∀ (σ' : bc_M) (t : Int), t = 1 → yo_ σ σ' → Rr (some (bc_I t)) σ') : bc_Sem g (d + 20) mL_crackedShare [bc_R 0, bc_R 229] σ Rr (fun _ _ => False) := by
  refine e_L_crackedShare rfl (fun K hK => ?_)
  refine hK.1 [] 60 _ _ _ _ _ ?_
  refine t0_X10_crackedShare (v := v0_) hF r0_3 ?_
  exact f σ 1 rfl (yo_rf σ)
theorem w_memberByBearing {a : Int} (hF : fa_ 0 σ v0_) (ha : bc_in a) (f : ∀ (σ' : bc_M) (t : Int), t = 1 → yo_ σ σ' → Rr (some (bc_I t)) σ') : bc_Sem g (d + 20) mL_memberByBearing [bc_R 0, bc_I a, bc_R 228] σ Rr (fun _ _ => False) := by
  refine e_L_memberByBearing rfl (fun K hK => ?_)
  refine hK.1 [] 60 _ _ _ _ _ ?_
  refine t_X10_memberByBearing (v := v0_) hF ha (fun _ => ?_) (fun s s0 s1 => absurd s1 (by show ¬ s < r0_ 3; rw [r0_3]; omega))
  exact f σ 1 rfl (yo_rf σ)
theorem w_vowAt {a : Int} (hF : fa_ 0 σ v0_) (ha : bc_in a) (f : ∀ (σ' : bc_M) (t : Int), t = 1 → yo_ σ σ' → Rr (some (bc_I t)) σ') : bc_Sem g (d + 20) mL_vowAt [bc_R 0, bc_I a, bc_R 228] σ Rr (fun _ _ => False) := by
  refine e_L_vowAt rfl (fun K hK => ?_)
  refine hK.1 [] 60 _ _ _ _ _ ?_
  refine t_X10_vowAt (v := v0_) hF (by decide) ha (fun _ => ?_) (fun s s0 s1 => absurd s1 (by show ¬ s < r0_ 4; rw [r0_4]; omega))
  exact f σ 1 rfl (yo_rf σ)
theorem w_dueDay {a : Int} (hF : fa_ 0 σ v0_) (ha : bc_in a) (f : ∀ (σ' : bc_M) (t : Int), t = 1 → yo_ σ σ' → Rr (some (bc_I t)) σ') : bc_Sem g (d + 20) mL_dueDay [bc_R 0, bc_I a, bc_R 228] σ Rr (fun _ _ => False) := by
  refine e_L_dueDay rfl (fun K hK => ?_)
  refine hK.1 [] 60 _ _ _ _ _ ?_
  refine t_X10_dueDay (v := v0_) hF (by decide) ha (fun _ => ?_) (fun s s0 s1 => absurd s1 (by show ¬ s < r0_ 4; rw [r0_4]; omega))
  exact f σ 1 rfl (yo_rf σ)
theorem w_amount {a : Int} (hF : fa_ 0 σ v0_) (ha : bc_in a) (f : ∀ (σ' : bc_M) (t : Int), t = 1 → yo_ σ σ' → Rr (some (bc_I t)) σ') : bc_Sem g (d + 20) mL_amount [bc_R 0, bc_I a, bc_R 228] σ Rr (fun _ _ => False) := by
  refine e_L_amount rfl (fun K hK => ?_)
  refine hK.1 [] 60 _ _ _ _ _ ?_
  refine t_X10_amount (v := v0_) hF (by decide) ha (fun _ => ?_) (fun s s0 s1 => absurd s1 (by show ¬ s < r0_ 4; rw [r0_4]; omega))
  exact f σ 1 rfl (yo_rf σ)
theorem w_outputAt {i : Int} (hF : fa_ 0 σ v0_) (hi : bc_in i) (f : ∀ (σ' : bc_M) (t : Int), t = 1 → yo_ σ σ' → Rr (some (bc_I t)) σ') : bc_Sem g (d + 20) mL_outputAt [bc_R 0, bc_I i, bc_R 228] σ Rr (fun _ _ => False) := by
  refine e_L_outputAt rfl (fun K hK => ?_)
  refine hK.1 [] 60 _ _ _ _ _ ?_
  refine t_X10_outputAt (v := v0_) hF hi (fun _ => ?_) (fun i0 i1 => absurd i1 (by show ¬ i < (([] : List Int).length : Int); simp only [List.length_nil]; omega))
  exact f σ 1 rfl (yo_rf σ)
theorem w_errorPosition (hF : fa_ 0 σ v0_) (f : ∀ (σ' : bc_M) (t : Int), t = 1 → yo_ σ σ' → Rr (some (bc_I t)) σ') : bc_Sem g (d + 20) mL_errorPosition [bc_R 0, bc_R 228] σ Rr (fun _ _ => False) := by
  refine e_L_errorPosition rfl (fun K hK => ?_)
  refine hK.1 [] 60 _ _ _ _ _ ?_
  refine t_X10_errorPosition (v := v0_) hF (fun _ => ?_) (fun c => absurd rfl c)
  exact f σ 1 rfl (yo_rf σ)
theorem w_failedCommand (hF : fa_ 0 σ v0_) (f : ∀ (σ' : bc_M) (t : Int), t = 1 → yo_ σ σ' → Rr (some (bc_I t)) σ') : bc_Sem g (d + 20) mL_failedCommand [bc_R 0, bc_R 228] σ Rr (fun _ _ => False) := by
  refine e_L_failedCommand rfl (fun K hK => ?_)
  refine hK.1 [] 60 _ _ _ _ _ ?_
  refine t_X10_failedCommand (v := v0_) hF (fun _ => ?_) (fun c => absurd rfl c)
  exact f σ 1 rfl (yo_rf σ)
theorem w_undo (hF : fa_ 0 σ v0_) (f : ∀ (σ' : bc_M) (t : Int), t = 1 → yo_ σ σ' → Rr (some (bc_I t)) σ') : bc_Sem g (d + 20) mL_undo [bc_R 0, bc_R 228] σ Rr (fun _ _ => False) := by
  refine e_L_undo rfl (fun K hK => ?_)
  refine hK.1 [] 60 _ _ _ _ _ ?_
  refine t_X10_undo (v := v0_) hF (fun _ => ?_) (fun q t e => by cases e)
  exact f σ 1 rfl (yo_rf σ)
theorem w_restore (hF : fa_ 0 σ v0_) (f : ∀ (σ' : bc_M) (t : Int), t = 1 → yo_ σ σ' → Rr (some (bc_I t)) σ') : bc_Sem g (d + 20) mL_restore [bc_R 0, bc_R 228] σ Rr (fun _ _ => False) := by
  refine e_L_restore rfl (fun K hK => ?_)
  refine hK.1 [] 60 _ _ _ _ _ ?_
  refine t_X10_restore (v := v0_) hF (fun _ => ?_) (fun c => absurd c (by decide))
  exact f σ 1 rfl (yo_rf σ)
theorem w_runScript (hF : fa_ 0 σ v0_) (f : ∀ (σ' : bc_M) (t : Int), t = 1 → yo_ σ σ' → Rr (some (bc_I t)) σ') : bc_Sem g (d + 20) mL_runScript [bc_R 0, bc_R 228] σ Rr (fun _ _ => False) := by
  refine e_L_runScript rfl (fun K hK => ?_)
  refine hK.1 [] 60 _ _ _ _ _ ?_
  refine t_X10_runScript (v := v0_) hF (by decide) (fun _ σ' _ F => ?_) (fun c => absurd (zp0.symm.trans c) (by decide)) (fun c => absurd (zp0.symm.trans c) (by decide))
  exact f σ' 1 rfl (yo_fr F ov_le)
theorem w_repair {m : Int} (hF : fa_ 0 σ v0_) (hm : bc_in m) (f : ∀ (σ' : bc_M) (t : Int), t = 1 → yo_ σ σ' → Rr (some (bc_I t)) σ') : bc_Sem g (d + 20) mL_repair [bc_R 0, bc_I m, bc_R 228] σ Rr (fun _ _ => False) := by
  refine e_L_repair rfl (fun K hK => ?_)
  refine hK.1 [] 60 _ _ _ _ _ ?_
  refine t_X10_repair (v := v0_) hF (by decide) hm (fun e he => ?_) (fun c => absurd ((eq0 m).symm.trans c) (by decide))
  have h1 : eq_ r0_ m = e + 1 := he
  rw [eq0] at h1
  have e0 : e = 0 := by omega
  subst e0
  exact f σ 1 rfl (yo_rf σ)
theorem w_abandon {m : Int} (hF : fa_ 0 σ v0_) (hm : bc_in m) (f : ∀ (σ' : bc_M) (t : Int), t = 1 → yo_ σ σ' → Rr (some (bc_I t)) σ') : bc_Sem g (d + 20) mL_abandon [bc_R 0, bc_I m, bc_R 228] σ Rr (fun _ _ => False) := by
  refine e_L_abandon rfl (fun K hK => ?_)
  refine hK.1 [] 60 _ _ _ _ _ ?_
  refine t_X10_abandon (v := v0_) hF hm (fun e he => ?_) (fun c => absurd ((lq0 m 0).symm.trans c) (by decide))
  have h1 : lq_ r0_ m 0 = e + 1 := he
  rw [lq0] at h1
  have e0 : e = 0 := by omega
  subst e0
  exact f σ 1 rfl (yo_rf σ)
theorem w_resume {m : Int} (hF : fa_ 0 σ v0_) (hm : bc_in m) (f : ∀ (σ' : bc_M) (t : Int), t = 1 → yo_ σ σ' → Rr (some (bc_I t)) σ') : bc_Sem g (d + 20) mL_resume [bc_R 0, bc_I m, bc_R 228] σ Rr (fun _ _ => False) := by
  refine e_L_resume rfl (fun K hK => ?_)
  refine hK.1 [] 60 _ _ _ _ _ ?_
  refine t_X10_resume (v := v0_) hF hm (fun e he => ?_) (fun c => absurd ((lq0 m 1).symm.trans c) (by decide))
  have h1 : lq_ r0_ m 1 = e + 1 := he
  rw [lq0] at h1
  have e0 : e = 0 := by omega
  subst e0
  exact f σ 1 rfl (yo_rf σ)
theorem w_wayLength {a b : Int} (hF : fa_ 0 σ v0_) (ha : bc_in a) (hb : bc_in b) (f : ∀ (σ' : bc_M) (t : Int), t = aw0_ a b → yo_ σ σ' → Rr (some (bc_I t)) σ') : bc_Sem g (d + 20) mL_wayLength [bc_R 0, bc_I a, bc_I b, bc_R 228] σ Rr (fun _ _ => False) := by
  refine e_L_wayLength rfl (fun K hK => ?_)
  refine hK.1 [] 60 _ _ _ _ _ ?_
  have w := aw0_in a b
  refine t_X10_wayLength (v := v0_) hF ha hb (fun e he σ' _ F => ?_) (fun c => absurd ((yq0 a b).symm.trans c) (by have := aw0_in a b; split <;> omega))
  have h1 : yq_ r0_ a b = e + 1 := he
  rw [yq0] at h1
  have e0 : (e = 0 ∧ aw0_ a b = 1) ∨ (e = 1 ∧ aw0_ a b = 2) ∨ (e = 3 ∧ aw0_ a b = 3) := by split at h1 <;> omega
  rcases e0 with ⟨rfl, k⟩ | ⟨rfl, k⟩ | ⟨rfl, k⟩
  · exact f σ' 1 k.symm (yo_fr F ob_le)
  · exact f σ' 2 k.symm (yo_fr F ob_le)
  · exact f σ' 3 k.symm (yo_fr F ob_le)
theorem w_wayJoint {a b i : Int} (hF : fa_ 0 σ v0_) (ha : bc_in a) (hb : bc_in b) (hi : bc_in i) (f : ∀ (σ' : bc_M) (t : Int), t = aw0_ a b → yo_ σ σ' → Rr (some (bc_I t)) σ') : bc_Sem g (d + 20) mL_wayJoint [bc_R 0, bc_I a, bc_I b, bc_I i, bc_R 228] σ Rr (fun _ _ => False) := by
  refine e_L_wayJoint rfl (fun K hK => ?_)
  refine hK.1 [] 60 _ _ _ _ _ ?_
  have w := aw0_in a b
  refine t_X10_wayJoint (v := v0_) hF ha hb hi (fun e he σ' _ F => ?_) (fun c => absurd ((yq0 a b).symm.trans c) (by have := aw0_in a b; split <;> omega)) (fun c => absurd ((yq0 a b).symm.trans c) (by have := aw0_in a b; split <;> omega))
  have h1 : yq_ r0_ a b = e + 1 := he
  rw [yq0] at h1
  have e0 : (e = 0 ∧ aw0_ a b = 1) ∨ (e = 1 ∧ aw0_ a b = 2) ∨ (e = 3 ∧ aw0_ a b = 3) := by split at h1 <;> omega
  rcases e0 with ⟨rfl, k⟩ | ⟨rfl, k⟩ | ⟨rfl, k⟩
  · exact f σ' 1 k.symm (yo_fr F ob_le)
  · exact f σ' 2 k.symm (yo_fr F ob_le)
  · exact f σ' 3 k.symm (yo_fr F ob_le)
theorem w_renderWay {a b : Int} (hF : fa_ 0 σ v0_) (ha : bc_in a) (hb : bc_in b) (f : ∀ (σ' : bc_M) (t : Int), t = aw0_ a b → yo_ σ σ' → Rr (some (bc_I t)) σ') : bc_Sem g (d + 20) mL_renderWay [bc_R 0, bc_I a, bc_I b, bc_R 228] σ Rr (fun _ _ => False) := by
  refine e_L_renderWay rfl (fun K hK => ?_)
  refine hK.1 [] 60 _ _ _ _ _ ?_
  have w := aw0_in a b
  refine t_X10_renderWay (v := v0_) hF ha hb (fun e he σ' _ F => ?_) (fun c => absurd ((yq0 a b).symm.trans c) (by have := aw0_in a b; split <;> omega))
  have h1 : yq_ r0_ a b = e + 1 := he
  rw [yq0] at h1
  have e0 : (e = 0 ∧ aw0_ a b = 1) ∨ (e = 1 ∧ aw0_ a b = 2) ∨ (e = 3 ∧ aw0_ a b = 3) := by split at h1 <;> omega
  rcases e0 with ⟨rfl, k⟩ | ⟨rfl, k⟩ | ⟨rfl, k⟩
  · exact f σ' 1 k.symm (yo_fr F ob_le)
  · exact f σ' 2 k.symm (yo_fr F ob_le)
  · exact f σ' 3 k.symm (yo_fr F ob_le)
theorem w_widestLoad {a b : Int} (hF : fa_ 0 σ v0_) (ha : bc_in a) (hb : bc_in b) (f : ∀ (σ' : bc_M) (t : Int), t = aw0_ a b → yo_ σ σ' → Rr (some (bc_I t)) σ') : bc_Sem g (d + 20) mL_widestLoad [bc_R 0, bc_I a, bc_I b, bc_R 228] σ Rr (fun _ _ => False) := by
  refine e_L_widestLoad rfl (fun K hK => ?_)
  refine hK.1 [] 60 _ _ _ _ _ ?_
  refine t_X10_widestLoad (v := v0_) hF ha hb (fun e he => ?_) (fun p0 _ σ' _ F => ?_) (fun _ c => absurd (by show wb_ (sa_ r0_) a b = 0; rw [sa0]; exact wb0 a b) c)
  · have p := pf_le a b
    have h1 : pf_ a b = e + 1 := he
    have e0 : (e = 0 ∧ pf_ a b = 1) ∨ (e = 1 ∧ pf_ a b = 2) := by omega
    rcases e0 with ⟨rfl, k⟩ | ⟨rfl, k⟩
    · exact f σ 1 (by unfold aw0_; rw [k]; rfl) (yo_rf σ)
    · exact f σ 2 (by unfold aw0_; rw [k]; rfl) (yo_rf σ)
  · exact f σ' 3 (by unfold aw0_; rw [if_pos p0]) (yo_fr F ob_le)
theorem w_widestLoadByTrial {a b : Int} (hF : fa_ 0 σ v0_) (ha : bc_in a) (hb : bc_in b) (f : ∀ (σ' : bc_M) (t : Int), t = aw0_ a b → yo_ σ σ' → Rr (some (bc_I t)) σ') : bc_Sem g (d + 20) mL_widestLoadByTrial [bc_R 0, bc_I a, bc_I b, bc_R 228] σ Rr (fun _ _ => False) := by
  refine e_L_widestLoadByTrial rfl (fun K hK => ?_)
  refine hK.1 [] 60 _ _ _ _ _ ?_
  refine t_X10_widestLoadByTrial (v := v0_) hF ha hb (fun e he => ?_) (fun p0 _ => ?_) (fun _ x hx c => absurd (wt0 hx) c)
  · have p := pf_le a b
    have h1 : pf_ a b = e + 1 := he
    have e0 : (e = 0 ∧ pf_ a b = 1) ∨ (e = 1 ∧ pf_ a b = 2) := by omega
    rcases e0 with ⟨rfl, k⟩ | ⟨rfl, k⟩
    · exact f σ 1 (by unfold aw0_; rw [k]; rfl) (yo_rf σ)
    · exact f σ 2 (by unfold aw0_; rw [k]; rfl) (yo_rf σ)
  · exact f σ 3 (by unfold aw0_; rw [if_pos p0]) (yo_rf σ)
theorem w_affordableLoad {a b : Int} (hF : fa_ 0 σ v0_) (ha : bc_in a) (hb : bc_in b) (f : ∀ (σ' : bc_M) (t : Int), t = aw0_ a b → yo_ σ σ' → Rr (some (bc_I t)) σ') : bc_Sem g (d + 20) mL_affordableLoad [bc_R 0, bc_I a, bc_I b, bc_R 228] σ Rr (fun _ _ => False) := by
  refine e_L_affordableLoad rfl (fun K hK => ?_)
  refine hK.1 [] 60 _ _ _ _ _ ?_
  refine t_X10_affordableLoad (v := v0_) hF (by decide) ha hb (fun e he => ?_) (fun p0 _ σ' _ F => ?_) (fun _ c => absurd (la0 _ a b 99) c)
  · have p := pf_le a b
    have h1 : pf_ a b = e + 1 := he
    have e0 : (e = 0 ∧ pf_ a b = 1) ∨ (e = 1 ∧ pf_ a b = 2) := by omega
    rcases e0 with ⟨rfl, k⟩ | ⟨rfl, k⟩
    · exact f σ 1 (by unfold aw0_; rw [k]; rfl) (yo_rf σ)
    · exact f σ 2 (by unfold aw0_; rw [k]; rfl) (yo_rf σ)
  · exact f σ' 3 (by unfold aw0_; rw [if_pos p0]) (yo_fr F ob_le)
theorem w_affordableLoadByTable {a b : Int} (hF : fa_ 0 σ v0_) (ha : bc_in a) (hb : bc_in b) (f : ∀ (σ' : bc_M) (t : Int), t = aw0_ a b → yo_ σ σ' → Rr (some (bc_I t)) σ') : bc_Sem g (d + 20) mL_affordableLoadByTable [bc_R 0, bc_I a, bc_I b, bc_R 228] σ Rr (fun _ _ => False) := by
  refine e_L_affordableLoadByTable rfl (fun K hK => ?_)
  refine hK.1 [] 60 _ _ _ _ _ ?_
  refine t_X10_affordableLoadByTable (v := v0_) hF (by decide) ha hb (fun e he => ?_) (fun p0 _ σ' _ F => ?_) (fun _ c => absurd (tb0 _ a b) c)
  · have p := pf_le a b
    have h1 : pf_ a b = e + 1 := he
    have e0 : (e = 0 ∧ pf_ a b = 1) ∨ (e = 1 ∧ pf_ a b = 2) := by omega
    rcases e0 with ⟨rfl, k⟩ | ⟨rfl, k⟩
    · exact f σ 1 (by unfold aw0_; rw [k]; rfl) (yo_rf σ)
    · exact f σ 2 (by unfold aw0_; rw [k]; rfl) (yo_rf σ)
  · exact f σ' 3 (by unfold aw0_; rw [if_pos p0]) (yo_fr F ob_le)
theorem w_addMember {a b s : Int} (hF : fa_ 0 σ v0_) (ha : bc_in a) (hb : bc_in b) (hs : bc_in s) (f : ∀ (σ' : bc_M) (t : Int), t = adt_ a b s → yo_ σ σ' → (t = 0 → σ'.2.1 = (Int32.ofInt (0)).toInt64) → Rr (some (bc_I t)) σ') : bc_Sem g (d + 20) mL_addMember [bc_R 0, bc_I a, bc_I b, bc_I s, bc_R 228] σ Rr (fun _ _ => False) := by
  refine e_L_addMember rfl (fun K hK => ?_)
  refine hK.1 [] 60 _ _ _ _ _ ?_
  refine t_X10_addMember (v := v0_) hF ha hb hs (fun e he => ?_) (fun he σ' _ F => ?_)
  · obtain ⟨h1, h2⟩ := mq0 he
    have e0 : (e = 0 ∧ adt_ a b s = 1) ∨ (e = 1 ∧ adt_ a b s = 2) := by omega
    rcases e0 with ⟨rfl, k⟩ | ⟨rfl, k⟩
    · exact f σ 1 k.symm (yo_rf σ) (fun h => absurd h (by decide))
    · exact f σ 2 k.symm (yo_rf σ) (fun h => absurd h (by decide))
  · obtain ⟨h1, h2⟩ := mq0 he
    refine bc_ob_i rfl ?_
    exact f _ 0 h1 (yo_fr (σ' := σ') F ob_le) (fun _ => rfl)
theorem w_procession {a b n : Int} (hF : fa_ 0 σ v0_) (ha : bc_in a) (hb : bc_in b) (hn : bc_in n) (f : ∀ (σ' : bc_M) (t : Int), t = wat_ a b n → yo_ σ σ' → Rr (some (bc_I t)) σ') : bc_Sem g (d + 20) mL_procession [bc_R 0, bc_I a, bc_I b, bc_I n, bc_R 228] σ Rr (fun _ _ => False) := by
  refine e_L_procession rfl (fun K hK => ?_)
  refine hK.1 [] 60 _ _ _ _ _ ?_
  have w := wat_in a b n
  refine t_X10_procession (v := v0_) hF ha hb hn (fun e he σ' _ F => ?_) (fun c => absurd ((wq0 a b n).symm.trans c) (by split <;> omega))
  have h1 : wq_ r0_ a b n = e + 1 := he
  rw [wq0] at h1
  have w3 : wat_ a b n ≤ 3 := by unfold wat_; split <;> (try split) <;> omega
  have e0 : (e = 0 ∧ wat_ a b n = 1) ∨ (e = 1 ∧ wat_ a b n = 2) ∨ (e = 3 ∧ wat_ a b n = 3) := by split at h1 <;> omega
  rcases e0 with ⟨rfl, k⟩ | ⟨rfl, k⟩ | ⟨rfl, k⟩
  · exact f σ' 1 k.symm (yo_fr F ob_le)
  · exact f σ' 2 k.symm (yo_fr F ob_le)
  · exact f σ' 3 k.symm (yo_fr F ob_le)
theorem w_makeVow {a u : Int} (hF : fa_ 0 σ v0_) (ha : bc_in a) (hu : bc_in u) (f : ∀ (σ' : bc_M) (t : Int), t = (if vq_ r0_ a u = 0 then 0 else 1) → yo_ σ σ' → (t = 0 → σ'.2.1 = (Int32.ofInt (0)).toInt64) → Rr (some (bc_I t)) σ') : bc_Sem g (d + 20) mL_makeVow [bc_R 0, bc_I a, bc_I u, bc_R 228] σ Rr (fun _ _ => False) := by
  refine e_L_makeVow rfl (fun K hK => ?_)
  refine hK.1 [] 60 _ _ _ _ _ ?_
  refine t_X10_makeVow (v := v0_) hF (by decide) ha hu (fun e he => ?_) (fun he σ' _ F => ?_)
  · have h1 : vq_ r0_ a u = e + 1 := he
    have h2 := vq0 a u
    have e0 : e = 1 := by omega
    subst e0
    exact f σ 1 (by rw [if_neg (by omega)]) (yo_rf σ) (fun h => absurd h (by decide))
  · have h1 : vq_ r0_ a u = 0 := he
    refine bc_ob_i rfl ?_
    exact f _ 0 (by rw [if_pos h1]) (yo_fr (σ' := σ') F ob_le) (fun _ => rfl)
theorem w_setForge {n : Int} (hF : fa_ 0 σ v0_) (hn : bc_in n) (f : ∀ (σ' : bc_M) (t : Int), t = (if 0 ≤ n ∧ n ≤ 20 then 0 else 1) → yo_ σ σ' → (t = 0 → σ'.2.1 = (Int32.ofInt (5)).toInt64) → Rr (some (bc_I t)) σ') : bc_Sem g (d + 20) mL_setForge [bc_R 0, bc_I n, bc_R 228] σ Rr (fun _ _ => False) := by
  refine e_L_setForge rfl (fun K hK => ?_)
  refine hK.1 [] 60 _ _ _ _ _ ?_
  refine t_X10_setForge (v := v0_) hF hn (fun e he => ?_) (fun he σ' _ F => ?_)
  · unfold fq1_ at he
    have e0 : e = 1 ∧ ¬ (0 ≤ n ∧ n ≤ 20) := by split at he <;> omega
    obtain ⟨rfl, k⟩ := e0
    exact f σ 1 (by rw [if_neg k]) (yo_rf σ) (fun h => absurd h (by decide))
  · unfold fq1_ at he
    have k : 0 ≤ n ∧ n ≤ 20 := by split at he <;> omega
    refine bc_ob_i rfl ?_
    exact f _ 0 (by rw [if_pos k]) (yo_fr (σ' := σ') F ob_le) (fun _ => rfl)
theorem w_setNiche {c : Int} (hF : fa_ 0 σ v0_) (hc : 0 ≤ c ∧ c ≤ 65535) (f : ∀ (σ' : bc_M) (t : Int), t = (if c = 99 ∨ c = 108 then 0 else 1) → yo_ σ σ' → (t = 0 → σ'.2.1 = (Int32.ofInt (0)).toInt64) → Rr (some (bc_I t)) σ') : bc_Sem g (d + 20) mL_setNiche [bc_R 0, bc_I c, bc_R 228] σ Rr (fun _ _ => False) := by
  refine e_L_setNiche rfl (fun K hK => ?_)
  refine hK.1 [] 60 _ _ _ _ _ ?_
  refine t_X10_setNiche (v := v0_) hF hc (fun e he => ?_) (fun he σ' _ F => ?_)
  · unfold nq1_ at he
    have e0 : e = 1 ∧ ¬ (c = 99 ∨ c = 108) := by split at he <;> omega
    obtain ⟨rfl, k⟩ := e0
    exact f σ 1 (by rw [if_neg k]) (yo_rf σ) (fun h => absurd h (by decide))
  · unfold nq1_ at he
    have k : c = 99 ∨ c = 108 := by split at he <;> omega
    refine bc_ob_i rfl ?_
    exact f _ 0 (by rw [if_pos k]) (yo_fr (σ' := σ') F ob_le) (fun _ => rfl)
theorem w_put {p c w : Int} (hF : fa_ 0 σ v0_) (hp : bc_in p) (hc : 0 ≤ c ∧ c ≤ 65535) (hw : bc_in w) (f : ∀ (σ' : bc_M) (t : Int), t = put_ r0_ p c w → yo_ σ σ' → (t = 0 → σ'.2.1 = (Int32.ofInt (if put_ r0_ p c w = 0 then tw_ (rp_ r0_ p w) else 0)).toInt64) → Rr (some (bc_I t)) σ') : bc_Sem g (d + 20) mL_put [bc_R 0, bc_I p, bc_I c, bc_I w, bc_R 228] σ Rr (fun _ _ => False) := by
  refine e_L_put rfl (fun K hK => ?_)
  refine hK.1 [] 60 _ _ _ _ _ ?_
  refine t_X10_put (v := v0_) hF hp hc hw (fun e he => ?_) (fun he σ' _ F => ?_)
  · have h1 : pq_ r0_ p c w = e + 1 := he
    have h2 := pq0 p c w
    have e0 : (e = 0 ∧ put_ r0_ p c w = 1) ∨ (e = 1 ∧ put_ r0_ p c w = 2) ∨ (e = 4 ∧ put_ r0_ p c w = 3) := by omega
    rcases e0 with ⟨rfl, k⟩ | ⟨rfl, k⟩ | ⟨rfl, k⟩
    · exact f σ 1 k.symm (yo_rf σ) (fun h => absurd h (by decide))
    · exact f σ 2 k.symm (yo_rf σ) (fun h => absurd h (by decide))
    · exact f σ 3 k.symm (yo_rf σ) (fun h => absurd h (by decide))
  · have h1 : pq_ r0_ p c w = 0 := he
    have h2 := pq0 p c w
    have k : put_ r0_ p c w = 0 := by omega
    refine bc_ob_i rfl ?_
    exact f _ 0 k.symm (yo_fr (σ' := σ') F ob_le) (fun _ => by rw [if_pos k]; rfl)
theorem w_passDays {n : Int} (hF : fa_ 0 σ v0_) (hn : bc_in n) (f : ∀ (σ' : bc_M) (t : Int), t = (if 1 ≤ n ∧ n ≤ 30 then 0 else 1) → yo_ σ σ' → (t = 0 → σ'.2.1 = (Int32.ofInt (0)).toInt64) → Rr (some (bc_I t)) σ') : bc_Sem g (d + 20) mL_passDays [bc_R 0, bc_I n, bc_R 228] σ Rr (fun _ _ => False) := by
  refine e_L_passDays rfl (fun K hK => ?_)
  refine hK.1 [] 60 _ _ _ _ _ ?_
  refine t_X10_passDays (v := v0_) hF (by decide) hn (fun e he => ?_) (fun he σ' _ F => ?_)
  · unfold dq_ at he
    have e0 : e = 1 ∧ ¬ (1 ≤ n ∧ n ≤ 30) := by split at he <;> omega
    obtain ⟨rfl, k⟩ := e0
    exact f σ 1 (by rw [if_neg k]) (yo_rf σ) (fun h => absurd h (by decide))
  · unfold dq_ at he
    have k : 1 ≤ n ∧ n ≤ 30 := by split at he <;> omega
    refine bc_ob_i rfl ?_
    exact f _ 0 (by rw [if_pos k]) (yo_fr (σ' := σ') F ob_le) (fun _ => by
      have q := (ps0 n.toNat).2
      show (Int32.ofInt (ps_ r0_ n.toNat 6 - r0_ 6)).toInt64 = _
      rw [q]
      rfl)
theorem w_greatestVow {a : Int} (hF : fa_ 0 σ v0_) (ha : bc_in a) (f : ∀ (σ' : bc_M) (t : Int), t = (if 0 < a ∧ a ≤ 50 then 0 else 1) → yo_ σ σ' → (t = 0 → σ'.2.1 = (Int32.ofInt (30 + 5 * a)).toInt64) → Rr (some (bc_I t)) σ') : bc_Sem g (d + 20) mL_greatestVow [bc_R 0, bc_I a, bc_R 228] σ Rr (fun _ _ => False) := by
  refine e_L_greatestVow rfl (fun K hK => ?_)
  refine hK.1 [] 60 _ _ _ _ _ ?_
  refine t_X10_greatestVow (v := v0_) hF (by decide) ha (fun c => ?_) (fun _ c => ?_) (fun c _ x _ _ hx => ?_)
  · have k : ¬ (r0_ 0 < a ∧ a ≤ r0_ 0 + 50) := c
    rw [r0_0] at k
    exact f σ 1 (by rw [if_neg (by omega)]) (yo_rf σ) (fun h => absurd h (by decide))
  · obtain ⟨b, b0, b1, b2⟩ := c
    have k : sp_ r0_ (r0_ 0 + b) < 0 := b2
    rw [sp0, r0_0] at k
    omega
  · have k : r0_ 0 < a ∧ a ≤ r0_ 0 + 50 := c
    rw [r0_0] at k
    have ex : x = 30 + 5 * a := by
      rcases hx with hx | ⟨s, s0, s1, -⟩
      · have h1 : x = sp_ r0_ a := hx
        rw [h1, sp0]
      · have h1 : s < r0_ 4 := s1
        rw [r0_4] at h1
        omega
    refine bc_ob_i rfl ?_
    exact f _ 0 (by rw [if_pos (by omega)]) (yo_rf σ) (fun _ => by rw [← ex])
theorem w_type {c : Int} (hF : fa_ 0 σ v0_) (hc : 0 ≤ c ∧ c ≤ 65535) (f : ∀ (σ' : bc_M) (t : Int), t = (if 32 ≤ c ∧ c ≤ 126 then 0 else 1) → yo_ σ σ' → (t = 0 → σ'.2.1 = (Int32.ofInt (1)).toInt64) → Rr (some (bc_I t)) σ') : bc_Sem g (d + 20) mL_type [bc_R 0, bc_I c, bc_R 228] σ Rr (fun _ _ => False) := by
  refine e_L_type rfl (fun K hK => ?_)
  refine hK.1 [] 60 _ _ _ _ _ ?_
  refine t_X10_type (v := v0_) hF hc (fun k => ?_) (fun _ _ k => absurd k (by decide)) (fun k0 k1 _ σ' _ F => ?_)
  · exact f σ 1 (by rw [if_neg (by omega)]) (yo_rf σ) (fun h => absurd h (by decide))
  · refine bc_ob_i rfl ?_
    exact f _ 0 (by rw [if_pos (by omega)]) (yo_fr (σ' := σ') F ov_le) (fun _ => rfl)
end WRP
