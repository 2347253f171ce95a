/-! the class's floats -/
theorem i3i_ (x : Int32) : bc_in x.toInt := by
  have h1 := Int32.le_toInt x
  have h2 := Int32.toInt_lt x
  constructor <;> omega
section FLO
variable {g : bc_C} {d : Nat} {σ : bc_M} {B : Int} {v : cs_t} {Rr : Option bc_A → bc_M → Prop} {X : Nat → bc_M → Prop}
theorem t_X10_strainOf {m l : Int} (hF : fa_ B σ v) (m0 : 0 ≤ m) (m1 : m < (c_r v) 3) (hb : 0 < br_ (c_r v) m) (h : Rr (some (bc_F (stv_ (c_r v) m l))) σ) : bc_Sem g (d + 2) mX10_strainOf [bc_R 0, bc_I m, bc_I l] σ Rr X := by
  have w0 := hF.1.1.2.1.1
  have lb := br_le hF.1.1.2.1 m0 (by omega : m < 16)
  refine e_X10_strainOf rfl (fun K hK => ?_)
  refine hK.1 [] 60 _ _ _ _ _ ?_
  refine t_X2_bearingOf hF.1.1.1.1 hF.1.1.2.1 m0 (by omega) ?_
  refine bc_ob_i (by first | omega | decide | (constructor <;> omega) | (constructor <;> constructor <;> omega)) ?_
  refine bc_br_i (fun c => absurd c (by omega)) (fun _ => ?_)
  refine bc_ob_i (vn_fdiv (vn_if_ _) (nz3_i (by omega) (by omega))) ?_
  exact h
theorem t_X10_strain {m l : Int} (hF : fa_ B σ v) (hm : bc_in m) (h1 : ∀ e : Nat, tq_ (c_r v) m = e + 1 → X e σ) (h0 : tq_ (c_r v) m = 0 → Rr (some (bc_F (stv_ (c_r v) m l))) σ) : bc_Sem g (d + 3) mX10_strain [bc_R 0, bc_I m, bc_I l] σ Rr X := by
  have w0 := hF.1.1.2.1.1
  have hl : 0 ≤ tq_ (c_r v) m ∧ tq_ (c_r v) m ≤ 6 := by unfold tq_; (repeat' split) <;> omega
  refine e_X10_strain rfl (fun K hK => ?_)
  refine hK.1 [] 60 _ _ _ _ _ ?_
  refine t_X10_strainFault hF hm ?_
  refine t_X10_refuse hl.1 hl.2 (fun e0 => ?_) (fun e he => h1 e he)
  have fin := h0 e0
  unfold tq_ at e0
  by_cases c : 0 ≤ m ∧ m < (c_r v) 3
  · rw [if_neg (fun k => k c)] at e0
    have lb := br_le hF.1.1.2.1 c.1 (by omega : m < 16)
    by_cases e : br_ (c_r v) m = 0
    · rw [if_pos e] at e0
      exact absurd e0 (by decide)
    · exact t_X10_strainOf hF c.1 c.2 (by omega) fin
  · rw [if_pos c] at e0
    exact absurd e0 (by decide)
theorem t_X10_bitsOf {x : UInt32} (hx : vf_n32 x) (h : ∀ y, bc_in y → Rr (some (bc_I y)) σ) : bc_Sem g (d + 1) mX10_bitsOf [bc_F x] σ Rr X := by
  refine e_X10_bitsOf rfl (fun K hK => ?_)
  have E : ∀ (s e : Int) (y : UInt32) (i : Int), vf_n32 y → K 96 [(0, bc_F x), (1, bc_I s), (2, bc_F y), (3, bc_I e), (4, bc_I i)] [] σ 0 := by
    intro s e y i hy
    refine hK.1 [] 60 _ _ _ _ _ ?_
    refine bc_ob_i (vn_fsub hy nz3_one) ?_
    refine bc_ob_i (vn_fmul (vn_fsub hy nz3_one) nz3_big) ?_
    exact h _ (i3i_ _)
  have L2 : ∀ (s : Int), ∀ i : Int, ∀ (e : Int) (y : UInt32), 0 ≤ i → i ≤ 32 → vf_n32 y → K 70 [(0, bc_F x), (1, bc_I s), (2, bc_F y), (3, bc_I e), (4, bc_I i)] [] σ 0 := by
    intro s
    refine up_ind 32 (fun i hi e y i0 i1 hy => ?_) (fun i hi ih e y i0 i1 hy => ?_)
    · refine hK.1 [70, 96] 60 _ _ _ _ _ ?_
      refine bc_ob_i (by first | omega | decide | (constructor <;> omega) | (constructor <;> constructor <;> omega)) ?_
      refine bc_br_i (fun c => absurd c (by omega)) (fun _ => ?_)
      exact E s e y i hy
    · refine hK.1 [70, 96] 60 _ _ _ _ _ ?_
      refine bc_ob_i (by first | omega | decide | (constructor <;> omega) | (constructor <;> constructor <;> omega)) ?_
      refine bc_br_i (fun _ => ?_) (fun c => absurd (by omega) c)
      refine bc_ob_i (i3i_ _) ?_
      refine bc_br_i (fun _ => ?_) (fun _ => ?_)
      · refine bc_ob_i (vn_fmul hy nz3_two) ?_
        exact ih _ _ (by omega) (by omega) (vn_fmul hy nz3_two)
      · exact E s e y i hy
  have L1 : ∀ (s : Int), ∀ i : Int, ∀ (e : Int) (y : UInt32), 0 ≤ i → i ≤ 32 → vf_n32 y → K 41 [(0, bc_F x), (1, bc_I s), (2, bc_F y), (3, bc_I e), (4, bc_I i)] [] σ 0 := by
    intro s
    refine up_ind 32 (fun i hi e y i0 i1 hy => ?_) (fun i hi ih e y i0 i1 hy => ?_)
    · refine hK.1 [41, 70] 60 _ _ _ _ _ ?_
      refine bc_ob_i (by first | omega | decide | (constructor <;> omega) | (constructor <;> constructor <;> omega)) ?_
      refine bc_br_i (fun c => absurd c (by omega)) (fun _ => ?_)
      exact L2 s 0 e y (by decide) (by decide) hy
    · refine hK.1 [41, 70] 60 _ _ _ _ _ ?_
      refine bc_ob_i (by first | omega | decide | (constructor <;> omega) | (constructor <;> constructor <;> omega)) ?_
      refine bc_br_i (fun _ => ?_) (fun c => absurd (by omega) c)
      refine bc_ob_i (i3i_ _) ?_
      refine bc_br_i (fun _ => ?_) (fun _ => ?_)
      · exact L2 s 0 e y (by decide) (by decide) hy
      · refine bc_ob_i (vn_fdiv hy nz3_two) ?_
        exact ih _ _ (by omega) (by omega) (vn_fdiv hy nz3_two)
  have S2 : ∀ (s : Int) (y : UInt32), vf_n32 y → K 34 [(0, bc_F x), (1, bc_I s)] [bc_F y] σ 0 := by
    intro s y hy
    refine hK.1 [41] 60 _ _ _ _ _ ?_
    exact L1 s 0 127 y (by decide) (by decide) hy
  have S1 : ∀ (s : Int), K 21 [(0, bc_F x)] [bc_I s] σ 0 := by
    intro s
    refine hK.1 [34] 60 _ _ _ _ _ ?_
    refine bc_ob_i (i3i_ _) ?_
    refine bc_br_i (fun _ => ?_) (fun _ => ?_)
    · exact S2 s _ (vn_fneg hx)
    · exact S2 s x hx
  refine hK.1 [21] 60 _ _ _ _ _ ?_
  refine bc_ob_i (i3i_ _) ?_
  refine bc_br_i (fun _ => ?_) (fun _ => ?_)
  · exact h 0 (by decide)
  · refine bc_ob_i (i3i_ _) ?_
    refine bc_br_i (fun _ => ?_) (fun _ => ?_)
    · exact S1 _
    · exact S1 _
theorem t_X10_strainBits {m l : Int} (hF : fa_ B σ v) (hm : bc_in m) (h1 : ∀ e : Nat, tq_ (c_r v) m = e + 1 → X e σ) (h0 : tq_ (c_r v) m = 0 → ∀ y, bc_in y → Rr (some (bc_I y)) σ) : bc_Sem g (d + 3) mX10_strainBits [bc_R 0, bc_I m, bc_I l] σ Rr X := by
  have w0 := hF.1.1.2.1.1
  have hl : 0 ≤ tq_ (c_r v) m ∧ tq_ (c_r v) m ≤ 6 := by unfold tq_; (repeat' split) <;> omega
  refine e_X10_strainBits rfl (fun K hK => ?_)
  refine hK.1 [] 60 _ _ _ _ _ ?_
  refine t_X10_strainFault hF hm ?_
  refine t_X10_refuse hl.1 hl.2 (fun e0 => ?_) (fun e he => h1 e he)
  have fin := h0 e0
  unfold tq_ at e0
  by_cases c : 0 ≤ m ∧ m < (c_r v) 3
  · rw [if_neg (fun k => k c)] at e0
    have lb := br_le hF.1.1.2.1 c.1 (by omega : m < 16)
    by_cases e : br_ (c_r v) m = 0
    · rw [if_pos e] at e0
      exact absurd e0 (by decide)
    · refine t_X10_strainOf hF c.1 c.2 (by omega) ?_
      exact t_X10_bitsOf (vn_fdiv (vn_if_ _) (nz3_i (by omega) (by omega))) fin
  · rw [if_pos c] at e0
    exact absurd e0 (by decide)
theorem t_X10_meanBearing (hF : fa_ B σ v) (h1 : (c_r v) 3 = 0 → X 5 σ) (h0 : 0 < (c_r v) 3 → Rr (some (bc_D (FP.ddiv (FP.i2d (Int32.ofInt (sm_ (br_ (c_r v)) ((c_r v) 3).toNat))) (FP.i2d (Int32.ofInt ((c_r v) 3)))))) σ) : bc_Sem g (d + 3) mX10_meanBearing [bc_R 0] σ Rr X := by
  have w0 := hF.1.1.2.1.1
  have e3 := (st_M1 hF.1.1.1.1).1
  refine e_X10_meanBearing rfl (fun K hK => ?_)
  refine hK.1 [] 60 _ _ _ _ _ ?_
  refine bc_ob_i (by first | omega | decide | (constructor <;> omega) | (constructor <;> constructor <;> omega)) ?_
  refine bc_br_i (fun c => ?_) (fun c => ?_)
  rotate_left
  · have c' : ¬ σ.1 2 ((0 : Nat) : Int) = 0 := c
    refine t_X10_refuse (f := 0) (by decide) (by decide) (fun _ => ?_) (fun e he => by omega)
    refine t_X2_bearingSum hF.1.1.1.1 hF.1.1.2.1 ?_
    have fin := h0 (by omega)
    have fin2 : Rr (some (bc_D (FP.ddiv (FP.i2d (Int32.ofInt (sm_ (br_ (c_r v)) ((c_r v) 3).toNat))) (FP.i2d (Int32.ofInt (σ.1 2 ((0 : Nat) : Int))))))) σ := by
      rw [e3]
      exact fin
    refine bc_ob_i (vn_ddiv (vn_id_ _) (nz6_i (show (1 : Int) ≤ σ.1 2 ((0 : Nat) : Int) by omega) (show σ.1 2 ((0 : Nat) : Int) ≤ 16 by omega))) ?_
    exact fin2
  · have c' : σ.1 2 ((0 : Nat) : Int) = 0 := c
    refine t_X10_refuse (f := 6) (by decide) (by decide) (fun e => by omega) (fun e he => ?_)
    have ee : e = 5 := by omega
    subst ee
    exact h1 (by omega)
theorem t_X10_crackedShare (hF : fa_ B σ v) (h1 : (c_r v) 3 = 0 → X 5 σ) (h0 : 0 < (c_r v) 3 → Rr (some (bc_F (FP.fdiv (FP.i2f (Int32.ofInt (sm_ (fun k => if 0 < (c_r v) (19 + 6 * k) then 1 else 0) ((c_r v) 3).toNat))) (FP.i2f (Int32.ofInt ((c_r v) 3)))))) σ) : bc_Sem g (d + 2) mX10_crackedShare [bc_R 0] σ Rr X := by
  have w0 := hF.1.1.2.1.1
  have e3 := (st_M1 hF.1.1.1.1).1
  refine e_X10_crackedShare rfl (fun K hK => ?_)
  refine hK.1 [] 60 _ _ _ _ _ ?_
  refine bc_ob_i (by first | omega | decide | (constructor <;> omega) | (constructor <;> constructor <;> omega)) ?_
  refine bc_br_i (fun c => ?_) (fun c => ?_)
  rotate_left
  · have c' : ¬ σ.1 2 ((0 : Nat) : Int) = 0 := c
    refine t_X10_refuse (f := 0) (by decide) (by decide) (fun _ => ?_) (fun e he => by omega)
    refine t_X2_crackedCount hF.1.1.1.1 hF.1.1.2.1 ?_
    have fin := h0 (by omega)
    have fin2 : Rr (some (bc_F (FP.fdiv (FP.i2f (Int32.ofInt (sm_ (fun k => if 0 < (c_r v) (19 + 6 * k) then 1 else 0) ((c_r v) 3).toNat))) (FP.i2f (Int32.ofInt (σ.1 2 ((0 : Nat) : Int))))))) σ := by
      rw [e3]
      exact fin
    refine bc_ob_i (vn_fdiv (vn_if_ _) (nz3_i (show (1 : Int) ≤ σ.1 2 ((0 : Nat) : Int) by omega) (show σ.1 2 ((0 : Nat) : Int) ≤ 99 by omega))) ?_
    exact fin2
  · have c' : σ.1 2 ((0 : Nat) : Int) = 0 := c
    refine t_X10_refuse (f := 6) (by decide) (by decide) (fun e => by omega) (fun e he => ?_)
    have ee : e = 5 := by omega
    subst ee
    exact h1 (by omega)
end FLO
