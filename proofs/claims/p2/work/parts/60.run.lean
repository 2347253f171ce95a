theorem mq_0 {r : rw_t} {a b s : Int} (h : mq_ r a b s 0) : pf_ a b = 0 ∧ (1 ≤ s ∧ s ≤ 99) ∧ r 3 < 16 := by
  have := pf_le a b
  rcases h with ⟨q, e⟩ | ⟨q, -, e⟩ | ⟨q, -, -, e⟩ | ⟨q, q1, q2, -, -⟩
  · omega
  · omega
  · omega
  · exact ⟨q, q1, q2⟩
theorem wq_0 {r : rw_t} {a b n : Int} (e0 : 0 = wq_ r a b n) : pf_ a b = 0 ∧ 1 ≤ n ∧ n ≤ 99 := by
  have := pf_le a b
  unfold wq_ at e0
  split at e0
  · omega
  · split at e0 <;> omega
theorem vq_0 {r : rw_t} {a u : Int} (e0 : 0 = vq_ r a u) : (r 0 < a ∧ a ≤ r 0 + 50) ∧ (1 ≤ u ∧ u ≤ 99) ∧ r 4 < 8 := by
  unfold vq_ at e0
  split at e0
  · omega
  · split at e0 <;> omega
theorem eq_0 {r : rw_t} {m : Int} (e0 : 0 = eq_ r m) : (0 ≤ m ∧ m < r 3) ∧ co_ r m ≤ r 1 := by
  unfold eq_ at e0
  split at e0
  · omega
  · split at e0
    · omega
    · split at e0 <;> omega
theorem lq_0 {r : rw_t} {m b : Int} (e0 : 0 = lq_ r m b) : 0 ≤ m ∧ m < r 3 := by unfold lq_ at e0; split at e0 <;> omega
theorem pq_0 {r : rw_t} {p c w : Int} (e0 : 0 = pq_ r p c w) : (0 ≤ p ∧ p < 4) ∧ 0 ≤ w ∧ w ≤ 20 := by
  unfold pq_ at e0
  split at e0
  · omega
  · split at e0 <;> omega
section RUN
variable {g : bc_C} {d : Nat} {σ : bc_M} {B : Int} {v : cs_t} {Rr : Option bc_A → bc_M → Prop} {X : Nat → bc_M → Prop} {z : pz_t}
theorem t_X10_carryOut {i : Int} (hF : fa_ B σ v) (hB : B ≤ 999900) (hS : sz_ σ z) (i0 : 0 ≤ i) (i1 : i < z.2.2.1) (hf : cf_ (c_r v) (z.2.2.2.1 i) (z.2.2.2.2 i 0) (z.2.2.2.2 i 1) (z.2.2.2.2 i 2) 0) (h : ∀ σ' w, ck_ v (z.2.2.2.1 i) (z.2.2.2.2 i 0) (z.2.2.2.2 i 1) (z.2.2.2.2 i 2) w → fa_ (B + 30) σ' w → fr_ ob_ σ σ' → Rr none σ') : bc_Sem g (d + 5) mX10_carryOut [bc_R 0, bc_I i] σ Rr X := by
  obtain ⟨⟨hc, hc0, hc1⟩, ⟨hk, kk⟩, hA, gA⟩ := id hS
  have lk := kk i i0 (by omega)
  have l0 := gA i 0 i0 (by omega) (by decide) (by decide)
  have l1 := gA i 1 i0 (by omega) (by decide) (by decide)
  have l2 := gA i 2 i0 (by omega) (by decide) (by decide)
  have hi : bc_in i := by constructor <;> omega
  have go : ∀ j : Int, 0 ≤ j → j < 3 → ∀ {D : Nat} {R1 : Option bc_A → bc_M → Prop} {X1 : Nat → bc_M → Prop}, R1 (some (bc_I (z.2.2.2.2 i j))) σ → bc_Sem g (D + 1) mX5_argument [bc_R 195, bc_I i, bc_I j] σ R1 X1 := fun j j0 j1 D R1 X1 q => by
    refine t_X5_argument hS hi (by constructor <;> omega) ?_
    exact rt_ q (if_pos ⟨⟨i0, i1⟩, j0, j1⟩)
  have gk : ∀ {D : Nat} {R1 : Option bc_A → bc_M → Prop} {X1 : Nat → bc_M → Prop}, R1 (some (bc_I (z.2.2.2.1 i))) σ → bc_Sem g (D + 1) mX5_kindAt [bc_R 195, bc_I i] σ R1 X1 := fun {D R1 X1} q => by
    refine t_X5_kindAt hS hi ?_
    exact rt_ q (if_pos ⟨i0, i1⟩)
  unfold cf_ at hf
  unfold ck_ at h
  generalize hx : z.2.2.2.2 i 0 = x at *
  generalize hy : z.2.2.2.2 i 1 = y at *
  generalize hz : z.2.2.2.2 i 2 = w at *
  generalize hkk : z.2.2.2.1 i = k at *
  have ix : bc_in x := by constructor <;> omega
  have iy : bc_in y := by constructor <;> omega
  have gx : ∀ {D : Nat} {R1 : Option bc_A → bc_M → Prop} {X1 : Nat → bc_M → Prop}, R1 (some (bc_I x)) σ → bc_Sem g (D + 1) mX5_argument [bc_R 195, bc_I i, bc_I 0] σ R1 X1 := fun {D R1 X1} q => go 0 (by decide) (by decide) (by rw [hx]; exact q)
  have gy : ∀ {D : Nat} {R1 : Option bc_A → bc_M → Prop} {X1 : Nat → bc_M → Prop}, R1 (some (bc_I y)) σ → bc_Sem g (D + 1) mX5_argument [bc_R 195, bc_I i, bc_I 1] σ R1 X1 := fun {D R1 X1} q => go 1 (by decide) (by decide) (by rw [hy]; exact q)
  have gw : ∀ {D : Nat} {R1 : Option bc_A → bc_M → Prop} {X1 : Nat → bc_M → Prop}, R1 (some (bc_I w)) σ → bc_Sem g (D + 1) mX5_argument [bc_R 195, bc_I i, bc_I 2] σ R1 X1 := fun {D R1 X1} q => go 2 (by decide) (by decide) (by rw [hz]; exact q)
  refine e_X10_carryOut rfl (fun K hK => ?_)
  refine hK.1 [] 60 _ _ _ _ _ ?_
  refine gx ?_
  refine gy ?_
  refine gw ?_
  refine gk ?_
  refine bc_ob_i (by omega) ?_
  refine bc_br_i (fun c => ?_) (fun c0 => ?_)
  · have q : mq_ (c_r v) x y w 0 := by
      rcases hf with ⟨-, hf⟩ | ⟨hf, -⟩ | ⟨hf, -⟩ | ⟨hf, -⟩ | ⟨hf, -⟩ | ⟨hf, -⟩ | ⟨hf, -⟩ | ⟨hf, -⟩ | ⟨hf, -⟩ | ⟨hf, -⟩ <;> first | exact hf | omega
    obtain ⟨p0, p1, p2⟩ := mq_0 q
    obtain ⟨a0, b0, -⟩ := pf_0 p0
    obtain ⟨w1, w2, w3⟩ := ra_wf hF.1.1.2.1 p2 a0 b0 p1
    refine t_X2_append hF.1.1.1.1 hF.1.1.2.1 p2 ix iy (fun σ2 s2 f2 => ?_)
    exact h σ2 _ (.inl ⟨c, rfl⟩) (fa_mono (fa_r hF (Int.le_refl _) f2 (by omega) (st_A_M hF.1.1 f2 (by omega) w2 w3 s2 w1)) (by omega)) (fr_mono f2 (by omega))
  refine bc_br_i (fun c => ?_) (fun c1 => ?_)
  · have q : 0 = wq_ (c_r v) x y w := by
      rcases hf with ⟨hf, -⟩ | ⟨-, hf⟩ | ⟨hf, -⟩ | ⟨hf, -⟩ | ⟨hf, -⟩ | ⟨hf, -⟩ | ⟨hf, -⟩ | ⟨hf, -⟩ | ⟨hf, -⟩ | ⟨hf, -⟩ <;> first | exact hf | omega
    obtain ⟨p0, p1⟩ := wq_0 q
    obtain ⟨a0, b0, -⟩ := pf_0 p0
    refine t_X10_walk hF a0.1 a0.2 b0.1 b0.2 p1 (fun σ2 r' hz F2 f2 => ?_)
    exact h σ2 _ (.inr (.inl ⟨c, r', hz, rfl⟩)) (fa_mono F2 (by omega)) f2
  have q : (k = 2 ∧ 0 = vq_ (c_r v) x y) ∨ (k = 3 ∧ 0 = fq1_ x) ∨ (k = 4 ∧ 0 = eq_ (c_r v) x) ∨ (k = 5 ∧ 0 = lq_ (c_r v) x 0) ∨ (k = 6 ∧ 0 = lq_ (c_r v) x 1) ∨ (k = 7 ∧ 0 = nq1_ x) ∨ (k = 8 ∧ 0 = pq_ (c_r v) x y w) ∨ (k = 9 ∧ 0 = dq_ x) := by
    rcases hf with hf | hf | hf
    · exact absurd hf.1 c0
    · exact absurd hf.1 c1
    · exact hf
  have tail := fun (σ' : bc_M) (u : cs_t) (q : (k = 2 ∧ u = u_r v (rv_ (c_r v) x y)) ∨ (k = 3 ∧ u = u_r v (up_ (c_r v) 2 x)) ∨ (k = 4 ∧ u = u_r v (rn_ (rs_ (c_r v) (co_ (c_r v) x)) x)) ∨ (k = 5 ∧ u = u_r v (rl_ (c_r v) x 1)) ∨ (k = 6 ∧ u = u_r v (rl_ (c_r v) x 0)) ∨ (k = 7 ∧ u = u_r v (re_ (c_r v) x)) ∨ (k = 8 ∧ u = u_r v (rp_ (c_r v) x w)) ∨ (k = 9 ∧ u = u_r v (ps_ (c_r v) x.toNat))) => h σ' u (.inr (.inr q))
  have w3 := hF.1.1.2.1.1
  refine bc_br_i (fun c => ?_) (fun c2 => ?_)
  · obtain ⟨p0, p1, p2⟩ := vq_0 (r := c_r v) (a := x) (u := y) (by omega)
    obtain ⟨w1, w2, w3⟩ := rv_wf hF.1.1.2.2.2 p0 p1 p2
    refine t_X8_promise hF.1.1.1.2.2 hF.1.1.2.2.2 p2 (fun σ2 s2 f2 => ?_)
    exact tail σ2 _ (.inl ⟨c, rfl⟩) (fa_mono (fa_r hF (by omega) f2 (by omega) (st_A_T hF.1.1 f2 (by omega) w2 w3 s2 w1)) (by omega)) (fr_mono f2 (by omega))
  refine bc_br_i (fun c => ?_) (fun c3 => ?_)
  · have p0 : 0 ≤ x ∧ x ≤ 20 := by
      have e0 : 0 = fq1_ x := by omega
      unfold fq1_ at e0; split at e0 <;> omega
    obtain ⟨w1, w2, w3⟩ := f2_wf hF.1.1.2.2.2 p0
    refine t_X8_heatForge hF.1.1.1.2.2 (fun σ2 s2 f2 => ?_)
    exact tail σ2 _ (.inr (.inl ⟨c, rfl⟩)) (fa_mono (fa_r hF (Int.le_refl _) f2 (by omega) (st_A_T hF.1.1 f2 (by omega) w2 w3 s2 w1)) (by omega)) (fr_mono f2 (by omega))
  refine bc_br_i (fun c => ?_) (fun c4 => ?_)
  · obtain ⟨p0, p1⟩ := eq_0 (r := c_r v) (m := x) (by omega)
    refine t_X10_mend hF p0 p1 (fun σ2 F2 f2 => ?_)
    exact tail σ2 _ (.inr (.inr (.inl ⟨c, rfl⟩))) (fa_mono F2 (by omega)) f2
  refine bc_br_i (fun c => ?_) (fun c5 => ?_)
  · have p0 := lq_0 (r := c_r v) (m := x) (b := 0) (by omega)
    obtain ⟨w1, w2, w3⟩ := rl_wf (m := x) (b := 1) hF.1.1.2.1 p0.1 (by omega) (by decide)
    refine t_X2_leave hF.1.1.1.1 hF.1.1.2.1 p0.1 (by omega) (by decide) (fun σ2 s2 f2 => ?_)
    exact tail σ2 _ (.inr (.inr (.inr (.inl ⟨c, rfl⟩)))) (fa_mono (fa_r hF (Int.le_refl _) f2 (by omega) (st_A_M hF.1.1 f2 (by omega) w2 w3 s2 w1)) (by omega)) (fr_mono f2 (by omega))
  refine bc_br_i (fun c => ?_) (fun c6 => ?_)
  · have p0 := lq_0 (r := c_r v) (m := x) (b := 1) (by omega)
    obtain ⟨w1, w2, w3⟩ := rl_wf (m := x) (b := 0) hF.1.1.2.1 p0.1 (by omega) (by decide)
    refine t_X2_leave hF.1.1.1.1 hF.1.1.2.1 p0.1 (by omega) (by decide) (fun σ2 s2 f2 => ?_)
    exact tail σ2 _ (.inr (.inr (.inr (.inr (.inl ⟨c, rfl⟩))))) (fa_mono (fa_r hF (Int.le_refl _) f2 (by omega) (st_A_M hF.1.1 f2 (by omega) w2 w3 s2 w1)) (by omega)) (fr_mono f2 (by omega))
  refine bc_br_i (fun c => ?_) (fun c7 => ?_)
  · have p0 : x = 99 ∨ x = 108 := by
      have e0 : 0 = nq1_ x := by omega
      unfold nq1_ at e0; split at e0 <;> omega
    have e : x % 65536 = x := by omega
    obtain ⟨w1, w2, w3⟩ := re_wf (r := c_r v) p0
    refine t_X3_dedicate hF.1.1.1.2.1 hF.1.1.2.2.1 (by omega) (fun σ2 s2 f2 => ?_)
    rw [e] at s2
    exact tail σ2 _ (.inr (.inr (.inr (.inr (.inr (.inl ⟨c, rfl⟩)))))) (fa_mono (fa_r hF (Int.le_refl _) f2 (by omega) (st_A_N hF.1.1 f2 (by omega) w2 w3 s2 w1)) (by omega)) (fr_mono f2 (by omega))
  refine bc_br_i (fun c => ?_) (fun c8 => ?_)
  · obtain ⟨p0, p1⟩ := pq_0 (r := c_r v) (p := x) (c := y) (w := w) (by omega)
    obtain ⟨w1, w2, w3⟩ := rp_wf (p := x) (w := w) hF.1.1.2.2.1 p0.1 p0.2 p1
    refine t_X3_place hF.1.1.1.2.1 hF.1.1.2.2.1 p0.1 p0.2 p1 (fun σ2 s2 f2 => ?_)
    exact tail σ2 _ (.inr (.inr (.inr (.inr (.inr (.inr (.inl ⟨c, rfl⟩))))))) (fa_mono (fa_r hF (Int.le_refl _) f2 (by omega) (st_A_N hF.1.1 f2 (by omega) w2 w3 s2 w1)) (by omega)) (fr_mono f2 (by omega))
  refine bc_br_i (fun c => ?_) (fun c9 => ?_)
  · have p0 : 1 ≤ x ∧ x ≤ 30 := by
      have e0 : 0 = dq_ x := by omega
      unfold dq_ at e0; split at e0 <;> omega
    have w1 := wf_T_mono (ps_wf hF.1.1.2.2.2 x.toNat).1 (show B + (x.toNat : Int) ≤ B + 30 by omega)
    obtain ⟨w2, w3⟩ := ps_e hF.1.1.2.2.2 x.toNat
    refine t_X8_pass hF.1.1.1.2.2 hF.1.1.2.2.2 (by omega) (by omega) (by omega) (fun σ2 s2 f2 => ?_)
    exact tail σ2 _ (.inr (.inr (.inr (.inr (.inr (.inr (.inr ⟨c, rfl⟩))))))) (fa_r hF (by omega) f2 (by omega) (st_A_T hF.1.1 f2 (by omega) w2 w3 s2 w1)) (fr_mono f2 (by omega))
  · omega
end RUN
