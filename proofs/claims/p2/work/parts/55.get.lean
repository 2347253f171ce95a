/-! reading calls -/
section FAC
variable {g : bc_C} {d : Nat} {σ : bc_M} {B : Int} {v : cs_t} {Rr : Option bc_A → bc_M → Prop} {X : Nat → bc_M → Prop}
theorem t_X10_memberCount (hF : fa_ B σ v) (h : Rr (some (bc_I ((c_r v) 3))) σ) : bc_Sem g (d + 1) mX10_memberCount [bc_R 0] σ Rr X := by
  refine e_X10_memberCount rfl (fun K hK => ?_)
  refine hK.1 [] 60 _ _ _ _ _ ?_
  exact rt_ h hF.1.1.1.1.1
theorem t_X10_day (hF : fa_ B σ v) (h : Rr (some (bc_I ((c_r v) 0))) σ) : bc_Sem g (d + 1) mX10_day [bc_R 0] σ Rr X := by
  refine e_X10_day rfl (fun K hK => ?_)
  refine hK.1 [] 60 _ _ _ _ _ ?_
  exact rt_ h hF.1.1.1.2.2.1.1
theorem t_X10_steel (hF : fa_ B σ v) (h : Rr (some (bc_I ((c_r v) 1))) σ) : bc_Sem g (d + 1) mX10_steel [bc_R 0] σ Rr X := by
  refine e_X10_steel rfl (fun K hK => ?_)
  refine hK.1 [] 60 _ _ _ _ _ ?_
  exact rt_ h hF.1.1.1.2.2.1.2.1
theorem t_X10_keptTotal (hF : fa_ B σ v) (h : Rr (some (bc_I ((c_r v) 6))) σ) : bc_Sem g (d + 1) mX10_keptTotal [bc_R 0] σ Rr X := by
  refine e_X10_keptTotal rfl (fun K hK => ?_)
  refine hK.1 [] 60 _ _ _ _ _ ?_
  exact rt_ h hF.1.1.1.2.2.1.2.2.2.2.2.2.1
theorem t_X10_brokenTotal (hF : fa_ B σ v) (h : Rr (some (bc_I ((c_r v) 7))) σ) : bc_Sem g (d + 1) mX10_brokenTotal [bc_R 0] σ Rr X := by
  refine e_X10_brokenTotal rfl (fun K hK => ?_)
  refine hK.1 [] 60 _ _ _ _ _ ?_
  exact rt_ h hF.1.1.1.2.2.1.2.2.2.2.2.2.2.1
theorem t_X10_vowCount (hF : fa_ B σ v) (h : Rr (some (bc_I ((c_r v) 4))) σ) : bc_Sem g (d + 1) mX10_vowCount [bc_R 0] σ Rr X := by
  refine e_X10_vowCount rfl (fun K hK => ?_)
  refine hK.1 [] 60 _ _ _ _ _ ?_
  exact rt_ h hF.1.1.1.2.2.1.2.2.2.2.2.2.2.2.2
theorem t_X10_nicheKind (hF : fa_ B σ v) (h : Rr (some (bc_I ((c_r v) 11))) σ) : bc_Sem g (d + 1) mX10_nicheKind [bc_R 0] σ Rr X := by
  refine e_X10_nicheKind rfl (fun K hK => ?_)
  refine hK.1 [] 60 _ _ _ _ _ ?_
  have w := hF.1.1.2.2.1.1
  have e : σ.1 9 ((0 : Nat) : Int) = (c_r v) 11 := hF.1.1.1.2.1.1
  refine bc_ob_i (by rw [e]; omega) ?_
  exact rt_ h e
theorem t_X10_nicheWeight (hF : fa_ B σ v) (h : Rr (some (bc_I (tw_ (c_r v)))) σ) : bc_Sem g (d + 2) mX10_nicheWeight [bc_R 0] σ Rr X := by
  refine e_X10_nicheWeight rfl (fun K hK => ?_)
  refine hK.1 [] 60 _ _ _ _ _ ?_
  refine t_X3_total hF.1.1.1.2.1 hF.1.1.2.2.1 ?_
  exact h
theorem t_X10_steelByAccounts (hF : fa_ B σ v) (h : Rr (some (bc_I ((c_r v) 1))) σ) : bc_Sem g (d + 2) mX10_steelByAccounts [bc_R 0] σ Rr X := by
  refine e_X10_steelByAccounts rfl (fun K hK => ?_)
  refine hK.1 [] 60 _ _ _ _ _ ?_
  refine t_X8_accountedSteel hF.1.1.1.2.2 hF.1.1.2.2.2 ?_
  exact h
theorem t_X10_links (hF : fa_ B σ v) (h : ∀ σ', fa_ B σ' v → fr_ ob_ σ σ' → Rr (some (bc_J (lf_ (sa_ (c_r v)) 8))) σ') : bc_Sem g (d + 3) mX10_links [bc_R 0] σ Rr X := by
  refine e_X10_links rfl (fun K hK => ?_)
  refine hK.1 [] 60 _ _ _ _ _ ?_
  refine t_X9_survey hF.1.1.1.1 hF.1.1.2.1 (fun σ1 p1 f1 => ?_)
  refine t_X9_linkBits p1 (sa_le hF.1.1.2.1) ?_
  exact h σ1 (fa_x hF f1 (by omega)) (fr_mono f1 (by omega))
theorem t_X10_firstJoint {m : Int} (hF : fa_ B σ v) (hm : bc_in m) (h1 : ix_ (c_r v) m = 1 → X 0 σ) (h0 : 0 ≤ m → m < (c_r v) 3 → Rr (some (bc_I ((c_r v) (16 + 6 * m)))) σ) : bc_Sem g (d + 3) mX10_firstJoint [bc_R 0, bc_I m] σ Rr X := by
  have w0 := hF.1.1.2.1.1
  refine e_X10_firstJoint rfl (fun K hK => ?_)
  refine hK.1 [] 60 _ _ _ _ _ ?_
  refine t_X10_indexFault hF hm ?_
  have hl := ix_le (c_r v) m
  refine t_X10_refuse hl.1 hl.2 (fun e0 => ?_) (fun e he => ?_)
  · have hp : 0 ≤ m ∧ m < (c_r v) 3 := by unfold ix_ at e0; split at e0 <;> omega
    obtain ⟨e1, e2, e3, e4, e5, e6⟩ := (st_M1 hF.1.1.1.1).2 m hp.1 (by omega)
    obtain ⟨g1, g2, g3, g4, g5, g6⟩ := hF.1.1.2.1.2 m hp.1 (by omega)
    refine bc_ob_i (by omega) ?_
    exact rt_ (h0 hp.1 hp.2) e1
  · have he1 : e = 0 ∧ ix_ (c_r v) m = 1 := by unfold ix_ at he ⊢; split at he <;> split <;> omega
    rw [he1.1]
    exact h1 he1.2
theorem t_X10_secondJoint {m : Int} (hF : fa_ B σ v) (hm : bc_in m) (h1 : ix_ (c_r v) m = 1 → X 0 σ) (h0 : 0 ≤ m → m < (c_r v) 3 → Rr (some (bc_I ((c_r v) (17 + 6 * m)))) σ) : bc_Sem g (d + 3) mX10_secondJoint [bc_R 0, bc_I m] σ Rr X := by
  have w0 := hF.1.1.2.1.1
  refine e_X10_secondJoint rfl (fun K hK => ?_)
  refine hK.1 [] 60 _ _ _ _ _ ?_
  refine t_X10_indexFault hF hm ?_
  have hl := ix_le (c_r v) m
  refine t_X10_refuse hl.1 hl.2 (fun e0 => ?_) (fun e he => ?_)
  · have hp : 0 ≤ m ∧ m < (c_r v) 3 := by unfold ix_ at e0; split at e0 <;> omega
    obtain ⟨e1, e2, e3, e4, e5, e6⟩ := (st_M1 hF.1.1.1.1).2 m hp.1 (by omega)
    obtain ⟨g1, g2, g3, g4, g5, g6⟩ := hF.1.1.2.1.2 m hp.1 (by omega)
    refine bc_ob_i (by omega) ?_
    exact rt_ (h0 hp.1 hp.2) e2
  · have he1 : e = 0 ∧ ix_ (c_r v) m = 1 := by unfold ix_ at he ⊢; split at he <;> split <;> omega
    rw [he1.1]
    exact h1 he1.2
theorem t_X10_crack {m : Int} (hF : fa_ B σ v) (hm : bc_in m) (h1 : ix_ (c_r v) m = 1 → X 0 σ) (h0 : 0 ≤ m → m < (c_r v) 3 → Rr (some (bc_I ((c_r v) (19 + 6 * m)))) σ) : bc_Sem g (d + 3) mX10_crack [bc_R 0, bc_I m] σ Rr X := by
  have w0 := hF.1.1.2.1.1
  refine e_X10_crack rfl (fun K hK => ?_)
  refine hK.1 [] 60 _ _ _ _ _ ?_
  refine t_X10_indexFault hF hm ?_
  have hl := ix_le (c_r v) m
  refine t_X10_refuse hl.1 hl.2 (fun e0 => ?_) (fun e he => ?_)
  · have hp : 0 ≤ m ∧ m < (c_r v) 3 := by unfold ix_ at e0; split at e0 <;> omega
    obtain ⟨e1, e2, e3, e4, e5, e6⟩ := (st_M1 hF.1.1.1.1).2 m hp.1 (by omega)
    obtain ⟨g1, g2, g3, g4, g5, g6⟩ := hF.1.1.2.1.2 m hp.1 (by omega)
    refine bc_ob_i (by omega) ?_
    exact rt_ (h0 hp.1 hp.2) e4
  · have he1 : e = 0 ∧ ix_ (c_r v) m = 1 := by unfold ix_ at he ⊢; split at he <;> split <;> omega
    rw [he1.1]
    exact h1 he1.2
theorem t_X10_wear {m : Int} (hF : fa_ B σ v) (hm : bc_in m) (h1 : ix_ (c_r v) m = 1 → X 0 σ) (h0 : 0 ≤ m → m < (c_r v) 3 → Rr (some (bc_I ((c_r v) (20 + 6 * m)))) σ) : bc_Sem g (d + 3) mX10_wear [bc_R 0, bc_I m] σ Rr X := by
  have w0 := hF.1.1.2.1.1
  refine e_X10_wear rfl (fun K hK => ?_)
  refine hK.1 [] 60 _ _ _ _ _ ?_
  refine t_X10_indexFault hF hm ?_
  have hl := ix_le (c_r v) m
  refine t_X10_refuse hl.1 hl.2 (fun e0 => ?_) (fun e he => ?_)
  · have hp : 0 ≤ m ∧ m < (c_r v) 3 := by unfold ix_ at e0; split at e0 <;> omega
    obtain ⟨e1, e2, e3, e4, e5, e6⟩ := (st_M1 hF.1.1.1.1).2 m hp.1 (by omega)
    obtain ⟨g1, g2, g3, g4, g5, g6⟩ := hF.1.1.2.1.2 m hp.1 (by omega)
    refine bc_ob_i (by omega) ?_
    exact rt_ (h0 hp.1 hp.2) e5
  · have he1 : e = 0 ∧ ix_ (c_r v) m = 1 := by unfold ix_ at he ⊢; split at he <;> split <;> omega
    rw [he1.1]
    exact h1 he1.2
theorem t_X10_isAbandoned {m : Int} (hF : fa_ B σ v) (hm : bc_in m) (h1 : ix_ (c_r v) m = 1 → X 0 σ) (h0 : 0 ≤ m → m < (c_r v) 3 → Rr (some (bc_I ((c_r v) (21 + 6 * m)))) σ) : bc_Sem g (d + 3) mX10_isAbandoned [bc_R 0, bc_I m] σ Rr X := by
  have w0 := hF.1.1.2.1.1
  refine e_X10_isAbandoned rfl (fun K hK => ?_)
  refine hK.1 [] 60 _ _ _ _ _ ?_
  refine t_X10_indexFault hF hm ?_
  have hl := ix_le (c_r v) m
  refine t_X10_refuse hl.1 hl.2 (fun e0 => ?_) (fun e he => ?_)
  · have hp : 0 ≤ m ∧ m < (c_r v) 3 := by unfold ix_ at e0; split at e0 <;> omega
    obtain ⟨e1, e2, e3, e4, e5, e6⟩ := (st_M1 hF.1.1.1.1).2 m hp.1 (by omega)
    obtain ⟨g1, g2, g3, g4, g5, g6⟩ := hF.1.1.2.1.2 m hp.1 (by omega)
    refine bc_ob_i (by omega) ?_
    refine bc_ob_i (by rw [e6]; exact g6) ?_
    exact rt_ (h0 hp.1 hp.2) e6
  · have he1 : e = 0 ∧ ix_ (c_r v) m = 1 := by unfold ix_ at he ⊢; split at he <;> split <;> omega
    rw [he1.1]
    exact h1 he1.2
theorem t_X10_bearing {m : Int} (hF : fa_ B σ v) (hm : bc_in m) (h1 : ix_ (c_r v) m = 1 → X 0 σ) (h0 : 0 ≤ m → m < (c_r v) 3 → Rr (some (bc_I (br_ (c_r v) m))) σ) : bc_Sem g (d + 3) mX10_bearing [bc_R 0, bc_I m] σ Rr X := by
  have w0 := hF.1.1.2.1.1
  refine e_X10_bearing rfl (fun K hK => ?_)
  refine hK.1 [] 60 _ _ _ _ _ ?_
  refine t_X10_indexFault hF hm ?_
  have hl := ix_le (c_r v) m
  refine t_X10_refuse hl.1 hl.2 (fun e0 => ?_) (fun e he => ?_)
  · have hp : 0 ≤ m ∧ m < (c_r v) 3 := by unfold ix_ at e0; split at e0 <;> omega
    refine t_X2_bearingOf hF.1.1.1.1 hF.1.1.2.1 hp.1 (by omega) ?_
    exact h0 hp.1 hp.2
  · have he1 : e = 0 ∧ ix_ (c_r v) m = 1 := by unfold ix_ at he ⊢; split at he <;> split <;> omega
    rw [he1.1]
    exact h1 he1.2
theorem t_X10_repairCost {m : Int} (hF : fa_ B σ v) (hm : bc_in m) (h1 : ix_ (c_r v) m = 1 → X 0 σ) (h0 : 0 ≤ m → m < (c_r v) 3 → Rr (some (bc_I (co_ (c_r v) m))) σ) : bc_Sem g (d + 3) mX10_repairCost [bc_R 0, bc_I m] σ Rr X := by
  have w0 := hF.1.1.2.1.1
  refine e_X10_repairCost rfl (fun K hK => ?_)
  refine hK.1 [] 60 _ _ _ _ _ ?_
  refine t_X10_indexFault hF hm ?_
  have hl := ix_le (c_r v) m
  refine t_X10_refuse hl.1 hl.2 (fun e0 => ?_) (fun e he => ?_)
  · have hp : 0 ≤ m ∧ m < (c_r v) 3 := by unfold ix_ at e0; split at e0 <;> omega
    refine t_X2_costOf hF.1.1.1.1 hF.1.1.2.1 hp.1 (by omega) ?_
    exact h0 hp.1 hp.2
  · have he1 : e = 0 ∧ ix_ (c_r v) m = 1 := by unfold ix_ at he ⊢; split at he <;> split <;> omega
    rw [he1.1]
    exact h1 he1.2
theorem t_X10_vowAt {a : Int} (hF : fa_ B σ v) (hB : B ≤ 1000000) (ha : bc_in a) (h1 : ((∀ k : Int, 0 ≤ k → k < (c_r v) 4 → vk_r (c_r v) k ≠ a) → X 3 σ)) (h0 : (∀ s : Int, 0 ≤ s → s < (c_r v) 4 → vk_r (c_r v) s = a → Rr (some (bc_I ((c_r v) (112 + 3 * s)))) σ)) : bc_Sem g (d + 4) mX10_vowAt [bc_R 0, bc_I a] σ Rr X := by
  have l4 := (wt_le hF.1.1.2.2.2).2.2.2.1
  refine e_X10_vowAt rfl (fun K hK => ?_)
  refine hK.1 [] 60 _ _ _ _ _ ?_
  refine t_X8_slotAtRank hF.1.1.1.2.2 hF.1.1.2.2.2 hB ha (fun s hs => ?_)
  rcases hs with ⟨s0, s1, s2⟩ | ⟨rfl, s2⟩
  · refine bc_ob_i (by omega) ?_
    refine bc_br_i (fun c => by omega) (fun _ => ?_)
    refine t_X10_refuse (f := 0) (by decide) (by decide) (fun _ => ?_) (fun e he => by omega)
    obtain ⟨q1, q2, q3⟩ := (st_T1 hF.1.1.1.2.2).2 s s0 (by omega)
    refine bc_ob_i (by omega) ?_
    exact rt_ (h0 s s0 s1 s2) q1
  · refine bc_ob_i (by decide) ?_
    refine bc_br_i (fun _ => ?_) (fun c => absurd rfl c)
    refine t_X10_refuse (f := 4) (by decide) (by decide) (fun e => by omega) (fun e he => ?_)
    have ee : e = 3 := by omega
    subst ee
    exact h1 s2
theorem t_X10_amount {a : Int} (hF : fa_ B σ v) (hB : B ≤ 1000000) (ha : bc_in a) (h1 : ((∀ k : Int, 0 ≤ k → k < (c_r v) 4 → (c_r v) (112 + 3 * k) ≠ a) → X 3 σ)) (h0 : (∀ s : Int, 0 ≤ s → s < (c_r v) 4 → (c_r v) (112 + 3 * s) = a → Rr (some (bc_I ((c_r v) (114 + 3 * s)))) σ)) : bc_Sem g (d + 4) mX10_amount [bc_R 0, bc_I a] σ Rr X := by
  have l4 := (wt_le hF.1.1.2.2.2).2.2.2.1
  refine e_X10_amount rfl (fun K hK => ?_)
  refine hK.1 [] 60 _ _ _ _ _ ?_
  refine t_X8_slotOf hF.1.1.1.2.2 hF.1.1.2.2.2 hB ha (fun s hs => ?_)
  rcases hs with ⟨s0, s1, s2⟩ | ⟨rfl, s2⟩
  · refine bc_ob_i (by omega) ?_
    refine bc_br_i (fun c => by omega) (fun _ => ?_)
    refine t_X10_refuse (f := 0) (by decide) (by decide) (fun _ => ?_) (fun e he => by omega)
    obtain ⟨q1, q2, q3⟩ := (st_T1 hF.1.1.1.2.2).2 s s0 (by omega)
    refine bc_ob_i (by omega) ?_
    exact rt_ (h0 s s0 s1 s2) q3
  · refine bc_ob_i (by decide) ?_
    refine bc_br_i (fun _ => ?_) (fun c => absurd rfl c)
    refine t_X10_refuse (f := 4) (by decide) (by decide) (fun e => by omega) (fun e he => ?_)
    have ee : e = 3 := by omega
    subst ee
    exact h1 s2
theorem t_X10_dueDay {a : Int} (hF : fa_ B σ v) (hB : B ≤ 1000000) (ha : bc_in a) (h1 : ((∀ k : Int, 0 ≤ k → k < (c_r v) 4 → (c_r v) (112 + 3 * k) ≠ a) → X 3 σ)) (h0 : (∀ s : Int, 0 ≤ s → s < (c_r v) 4 → (c_r v) (112 + 3 * s) = a → Rr (some (bc_I ((c_r v) (113 + 3 * s)))) σ)) : bc_Sem g (d + 4) mX10_dueDay [bc_R 0, bc_I a] σ Rr X := by
  have l4 := (wt_le hF.1.1.2.2.2).2.2.2.1
  refine e_X10_dueDay rfl (fun K hK => ?_)
  refine hK.1 [] 60 _ _ _ _ _ ?_
  refine t_X8_slotOf hF.1.1.1.2.2 hF.1.1.2.2.2 hB ha (fun s hs => ?_)
  rcases hs with ⟨s0, s1, s2⟩ | ⟨rfl, s2⟩
  · refine bc_ob_i (by omega) ?_
    refine bc_br_i (fun c => by omega) (fun _ => ?_)
    refine t_X10_refuse (f := 0) (by decide) (by decide) (fun _ => ?_) (fun e he => by omega)
    obtain ⟨q1, q2, q3⟩ := (st_T1 hF.1.1.1.2.2).2 s s0 (by omega)
    refine bc_ob_i (by omega) ?_
    exact rt_ (h0 s s0 s1 s2) q2
  · refine bc_ob_i (by decide) ?_
    refine bc_br_i (fun _ => ?_) (fun c => absurd rfl c)
    refine t_X10_refuse (f := 4) (by decide) (by decide) (fun e => by omega) (fun e he => ?_)
    have ee : e = 3 := by omega
    subst ee
    exact h1 s2
theorem t_X10_memberByBearing {a : Int} (hF : fa_ B σ v) (ha : bc_in a) (h1 : (∀ k : Int, 0 ≤ k → k < (c_r v) 3 → rk_ (c_r v) k ≠ a) → X 3 σ) (h0 : ∀ s : Int, 0 ≤ s → s < (c_r v) 3 → rk_ (c_r v) s = a → Rr (some (bc_I s)) σ) : bc_Sem g (d + 5) mX10_memberByBearing [bc_R 0, bc_I a] σ Rr X := by
  have l4 := hF.1.1.2.1.1
  refine e_X10_memberByBearing rfl (fun K hK => ?_)
  refine hK.1 [] 60 _ _ _ _ _ ?_
  refine t_X2_atRank hF.1.1.1.1 hF.1.1.2.1 ha (fun s hs => ?_)
  rcases hs with ⟨s0, s1, s2⟩ | ⟨rfl, s2⟩
  · refine bc_ob_i (by omega) ?_
    refine bc_br_i (fun c => by omega) (fun _ => ?_)
    refine t_X10_refuse (f := 0) (by decide) (by decide) (fun _ => ?_) (fun e he => by omega)
    exact h0 s s0 s1 s2
  · refine bc_ob_i (by decide) ?_
    refine bc_br_i (fun _ => ?_) (fun c => absurd rfl c)
    refine t_X10_refuse (f := 4) (by decide) (by decide) (fun e => by omega) (fun e he => ?_)
    have ee : e = 3 := by omega
    subst ee
    exact h1 s2
theorem t_X10_canKeepAll (hF : fa_ B σ v) (hB : B ≤ 1000000) (h : ∀ x : Int, (x = 1 ∧ ∀ a : Int, 1 ≤ a → a ≤ 50 → 0 ≤ sp_ (c_r v) ((c_r v) 0 + a)) ∨ (x = 0 ∧ ∃ a : Int, 1 ≤ a ∧ a ≤ 50 ∧ sp_ (c_r v) ((c_r v) 0 + a) < 0) → Rr (some (bc_I x)) σ) : bc_Sem g (d + 2) mX10_canKeepAll [bc_R 0] σ Rr X := by
  refine e_X10_canKeepAll rfl (fun K hK => ?_)
  refine hK.1 [] 60 _ _ _ _ _ ?_
  refine t_X8_keepsAllDayByDay hF.1.1.1.2.2 hF.1.1.2.2.2 hB (fun x hx => ?_)
  refine bc_ob_i (by rcases hx with ⟨hx, -⟩ | ⟨hx, -⟩ <;> omega) ?_
  exact h x hx
theorem t_X10_canKeepAllBySums (hF : fa_ B σ v) (hB : B ≤ 1000000) (h : ∀ x : Int, (x = 1 ∧ ∀ k : Int, 0 ≤ k → k < (c_r v) 4 → 0 ≤ sp_ (c_r v) ((c_r v) (113 + 3 * k))) ∨ (x = 0 ∧ ∃ k : Int, 0 ≤ k ∧ k < (c_r v) 4 ∧ sp_ (c_r v) ((c_r v) (113 + 3 * k)) < 0) → Rr (some (bc_I x)) σ) : bc_Sem g (d + 3) mX10_canKeepAllBySums [bc_R 0] σ Rr X := by
  refine e_X10_canKeepAllBySums rfl (fun K hK => ?_)
  refine hK.1 [] 60 _ _ _ _ _ ?_
  refine t_X8_keepsAllBySums hF.1.1.1.2.2 hF.1.1.2.2.2 hB (fun x hx => ?_)
  refine bc_ob_i (by rcases hx with ⟨hx, -⟩ | ⟨hx, -⟩ <;> omega) ?_
  exact h x hx
theorem t_X10_greatestVow {a : Int} (hF : fa_ B σ v) (hB : B ≤ 1000000) (ha : bc_in a) (h1 : ¬ ((c_r v) 0 < a ∧ a ≤ (c_r v) 0 + 50) → X 1 σ) (h2 : ((c_r v) 0 < a ∧ a ≤ (c_r v) 0 + 50) → (∃ b : Int, 1 ≤ b ∧ b ≤ 50 ∧ sp_ (c_r v) ((c_r v) 0 + b) < 0) → X 3 σ) (h0 : ((c_r v) 0 < a ∧ a ≤ (c_r v) 0 + 50) → (∀ b : Int, 1 ≤ b → b ≤ 50 → 0 ≤ sp_ (c_r v) ((c_r v) 0 + b)) → ∀ x : Int, x ≤ sp_ (c_r v) a → (∀ k : Int, 0 ≤ k → k < (c_r v) 4 → a < (c_r v) (113 + 3 * k) → x ≤ sp_ (c_r v) ((c_r v) (113 + 3 * k))) → (x = sp_ (c_r v) a ∨ ∃ k : Int, 0 ≤ k ∧ k < (c_r v) 4 ∧ a < (c_r v) (113 + 3 * k) ∧ x = sp_ (c_r v) ((c_r v) (113 + 3 * k))) → Rr (some (bc_I x)) σ) : bc_Sem g (d + 3) mX10_greatestVow [bc_R 0, bc_I a] σ Rr X := by
  have l0 := (wt_le hF.1.1.2.2.2).1
  refine e_X10_greatestVow rfl (fun K hK => ?_)
  refine hK.1 [] 60 _ _ _ _ _ ?_
  refine t_X8_isDueDayAllowed hF.1.1.1.2.2 hF.1.1.2.2.2 hB ha ?_
  by_cases c : (c_r v) 0 < a ∧ a ≤ (c_r v) 0 + 50
  · rw [if_pos c]
    refine bc_ob_i (by decide) ?_
    refine bc_br_i (fun c => absurd c (by decide)) (fun _ => ?_)
    refine t_X10_refuse (f := 0) (by decide) (by decide) (fun _ => ?_) (fun e he => by omega)
    refine t_X8_keepsAllDayByDay hF.1.1.1.2.2 hF.1.1.2.2.2 hB (fun x hx => ?_)
    rcases hx with ⟨rfl, hx⟩ | ⟨rfl, hx⟩
    · refine bc_ob_i (by decide) ?_
      refine bc_br_i (fun c => absurd c (by decide)) (fun _ => ?_)
      refine t_X10_refuse (f := 0) (by decide) (by decide) (fun _ => ?_) (fun e he => by omega)
      refine t_X8_greatestFurther hF.1.1.1.2.2 hF.1.1.2.2.2 hB (by omega) (by omega) (fun x q1 q2 q3 => ?_)
      exact h0 c hx x q1 q2 q3
    · refine bc_ob_i (by decide) ?_
      refine bc_br_i (fun _ => ?_) (fun c => absurd rfl c)
      refine t_X10_refuse (f := 4) (by decide) (by decide) (fun e => by omega) (fun e he => ?_)
      have ee : e = 3 := by omega
      subst ee
      exact h2 c hx
  · rw [if_neg c]
    refine bc_ob_i (by decide) ?_
    refine bc_br_i (fun _ => ?_) (fun c => absurd rfl c)
    refine t_X10_refuse (f := 2) (by decide) (by decide) (fun e => by omega) (fun e he => ?_)
    have ee : e = 1 := by omega
    subst ee
    exact h1 c
end FAC
