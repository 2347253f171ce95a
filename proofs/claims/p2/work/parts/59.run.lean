/-! a script carried out -/
/-- the fault f of a command of kind k -/
def cf_ (r : rw_t) (k x y z f : Int) : Prop :=
  (k = 0 ∧ mq_ r x y z f) ∨ (k = 1 ∧ f = wq_ r x y z) ∨ (k = 2 ∧ f = vq_ r x y) ∨ (k = 3 ∧ f = fq1_ x) ∨ (k = 4 ∧ f = eq_ r x) ∨
  (k = 5 ∧ f = lq_ r x 0) ∨ (k = 6 ∧ f = lq_ r x 1) ∨ (k = 7 ∧ f = nq1_ x) ∨ (k = 8 ∧ f = pq_ r x y z) ∨ (k = 9 ∧ f = dq_ x)
/-- what a command of kind k makes of the object -/
def ck_ (v : cs_t) (k x y z : Int) (w : cs_t) : Prop :=
  (k = 0 ∧ w = u_r v (ra_ (c_r v) x y z)) ∨ (k = 1 ∧ ∃ r', wz_ v x y z r' ∧ w = wv1_ v x y r') ∨ (k = 2 ∧ w = u_r v (rv_ (c_r v) x y)) ∨ (k = 3 ∧ w = u_r v (up_ (c_r v) 2 x)) ∨
  (k = 4 ∧ w = u_r v (rn_ (rs_ (c_r v) (co_ (c_r v) x)) x)) ∨ (k = 5 ∧ w = u_r v (rl_ (c_r v) x 1)) ∨ (k = 6 ∧ w = u_r v (rl_ (c_r v) x 0)) ∨ (k = 7 ∧ w = u_r v (re_ (c_r v) x)) ∨
  (k = 8 ∧ w = u_r v (rp_ (c_r v) x z)) ∨ (k = 9 ∧ w = u_r v (ps_ (c_r v) x.toNat))
section RUN
variable {g : bc_C} {d : Nat} {σ : bc_M} {B : Int} {v : cs_t} {Rr : Option bc_A → bc_M → Prop} {X : Nat → bc_M → Prop} {z : pz_t}
theorem t_X10_commandFault {i : Int} (hF : fa_ B σ v) (hB : B ≤ 1000000) (hS : sz_ σ z) (i0 : 0 ≤ i) (i1 : i < z.2.2.1) (h : ∀ σ' f, cf_ (c_r v) (z.2.2.2.1 i) (z.2.2.2.2 i 0) (z.2.2.2.2 i 1) (z.2.2.2.2 i 2) f → (0 ≤ f ∧ f ≤ 6) → fa_ B σ' v → fr_ ob_ σ σ' → Rr (some (bc_I f)) σ') : bc_Sem g (d + 4) mX10_commandFault [bc_R 0, bc_I i] σ Rr X := by
  obtain ⟨⟨hc, hc0, hc1⟩, ⟨hk, kk⟩, hA, gA⟩ := id hS
  have lk := kk i i0 (by omega)
  have l0 := gA i 0 i0 (by omega) (by decide) (by decide)
  have l1 := gA i 1 i0 (by omega) (by decide) (by decide)
  have l2 := gA i 2 i0 (by omega) (by decide) (by decide)
  have hi : bc_in i := by constructor <;> omega
  have go : ∀ j : Int, 0 ≤ j → j < 3 → ∀ {D : Nat} {R1 : Option bc_A → bc_M → Prop} {X1 : Nat → bc_M → Prop}, R1 (some (bc_I (z.2.2.2.2 i j))) σ → bc_Sem g (D + 1) mX5_argument [bc_R 195, bc_I i, bc_I j] σ R1 X1 := fun j j0 j1 D R1 X1 q => by
    refine t_X5_argument hS hi (by constructor <;> omega) ?_
    exact rt_ q (if_pos ⟨⟨i0, i1⟩, j0, j1⟩)
  have gk : ∀ {D : Nat} {R1 : Option bc_A → bc_M → Prop} {X1 : Nat → bc_M → Prop}, R1 (some (bc_I (z.2.2.2.1 i))) σ → bc_Sem g (D + 1) mX5_kindAt [bc_R 195, bc_I i] σ R1 X1 := fun {D R1 X1} q => by
    refine t_X5_kindAt hS hi ?_
    exact rt_ q (if_pos ⟨i0, i1⟩)
  unfold cf_ at h
  generalize hx : z.2.2.2.2 i 0 = x at *
  generalize hy : z.2.2.2.2 i 1 = y at *
  generalize hz : z.2.2.2.2 i 2 = w at *
  generalize hkk : z.2.2.2.1 i = k at *
  have ix : bc_in x := by constructor <;> omega
  have iy : bc_in y := by constructor <;> omega
  have iw : bc_in w := by constructor <;> omega
  have gx : ∀ {D : Nat} {R1 : Option bc_A → bc_M → Prop} {X1 : Nat → bc_M → Prop}, R1 (some (bc_I x)) σ → bc_Sem g (D + 1) mX5_argument [bc_R 195, bc_I i, bc_I 0] σ R1 X1 := fun {D R1 X1} q => go 0 (by decide) (by decide) (by rw [hx]; exact q)
  have gy : ∀ {D : Nat} {R1 : Option bc_A → bc_M → Prop} {X1 : Nat → bc_M → Prop}, R1 (some (bc_I y)) σ → bc_Sem g (D + 1) mX5_argument [bc_R 195, bc_I i, bc_I 1] σ R1 X1 := fun {D R1 X1} q => go 1 (by decide) (by decide) (by rw [hy]; exact q)
  have gw : ∀ {D : Nat} {R1 : Option bc_A → bc_M → Prop} {X1 : Nat → bc_M → Prop}, R1 (some (bc_I w)) σ → bc_Sem g (D + 1) mX5_argument [bc_R 195, bc_I i, bc_I 2] σ R1 X1 := fun {D R1 X1} q => go 2 (by decide) (by decide) (by rw [hz]; exact q)
  have f0 := fr_refl (P := ob_) σ
  have tail : ∀ f, (0 ≤ f ∧ f ≤ 6) → ((k = 2 ∧ f = vq_ (c_r v) x y) ∨ (k = 3 ∧ f = fq1_ x) ∨ (k = 4 ∧ f = eq_ (c_r v) x) ∨ (k = 5 ∧ f = lq_ (c_r v) x 0) ∨ (k = 6 ∧ f = lq_ (c_r v) x 1) ∨ (k = 7 ∧ f = nq1_ x) ∨ (k = 8 ∧ f = pq_ (c_r v) x y w) ∨ (k = 9 ∧ f = dq_ x)) → Rr (some (bc_I f)) σ := fun f hf q => h σ f (.inr (.inr q)) hf hF f0
  refine e_X10_commandFault rfl (fun K hK => ?_)
  refine hK.1 [] 60 _ _ _ _ _ ?_
  refine gx ?_
  refine gy ?_
  refine gw ?_
  refine gk ?_
  refine bc_ob_i (by omega) ?_
  refine bc_br_i (fun c => ?_) (fun c0 => ?_)
  · refine t_X10_memberFault hF ix iy iw (fun f hf => ?_)
    exact h σ f (.inl ⟨c, hf⟩) (mq_le hf) hF f0
  refine bc_br_i (fun c => ?_) (fun c1 => ?_)
  · refine t_X10_walkFault hF ix iy iw (fun σ1 F1 f1 => ?_)
    exact h σ1 _ (.inr (.inl ⟨c, rfl⟩)) (wq_le _ _ _ _) F1 f1
  refine bc_br_i (fun c => ?_) (fun c2 => ?_)
  · refine t_X10_vowFault hF hB ix iy ?_
    exact tail _ (by unfold vq_; repeat' split
                     all_goals omega) (.inl ⟨c, rfl⟩)
  refine bc_br_i (fun c => ?_) (fun c3 => ?_)
  · refine t_X10_forgeFault ix ?_
    exact tail _ (by unfold fq1_; split <;> omega) (.inr (.inl ⟨c, rfl⟩))
  refine bc_br_i (fun c => ?_) (fun c4 => ?_)
  · refine t_X10_mendFault hF hB ix ?_
    exact tail _ (by unfold eq_; repeat' split
                     all_goals omega) (.inr (.inr (.inl ⟨c, rfl⟩)))
  refine bc_br_i (fun c => ?_) (fun c5 => ?_)
  · refine t_X10_leaveFault hF ix (by decide) ?_
    exact tail _ (by unfold lq_; repeat' split
                     all_goals omega) (.inr (.inr (.inr (.inl ⟨c, rfl⟩))))
  refine bc_br_i (fun c => ?_) (fun c6 => ?_)
  · refine t_X10_leaveFault hF ix (by decide) ?_
    exact tail _ (by unfold lq_; repeat' split
                     all_goals omega) (.inr (.inr (.inr (.inr (.inl ⟨c, rfl⟩)))))
  refine bc_br_i (fun c => ?_) (fun c7 => ?_)
  · have e : x % 65536 = x := by omega
    refine t_X10_nicheFault (by rw [e]; exact ix) ?_
    have q := tail (nq1_ x) (by unfold nq1_; split <;> omega) (.inr (.inr (.inr (.inr (.inr (.inl ⟨c, rfl⟩))))))
    exact rt_ q (by rw [e])
  refine bc_br_i (fun c => ?_) (fun c8 => ?_)
  · have e : y % 65536 = y := by omega
    refine t_X10_placeFault hF ix (by rw [e]; exact iy) iw ?_
    have q := tail (pq_ (c_r v) x y w) (by unfold pq_; repeat' split
                                           all_goals omega) (.inr (.inr (.inr (.inr (.inr (.inr (.inl ⟨c, rfl⟩)))))))
    exact rt_ q (by rw [e])
  refine bc_br_i (fun c => ?_) (fun c9 => ?_)
  · refine t_X10_daysFault ix ?_
    exact tail _ (by unfold dq_; split <;> omega) (.inr (.inr (.inr (.inr (.inr (.inr (.inr ⟨c, rfl⟩)))))))
  · omega
end RUN
