/-! the reference's floats -/
def stt_ (q : rw_t) (m : Int) : Int := if ¬ (0 ≤ m ∧ m < q 3) then 1 else if ¬ 0 < br_ q m then 2 else 0
def stv_ (q : rw_t) (m l : Int) : UInt32 := FP.fdiv (FP.i2f (Int32.ofInt l)) (FP.i2f (Int32.ofInt (br_ q m)))
theorem stt_le (q : rw_t) (m : Int) : 0 ≤ stt_ q m ∧ stt_ q m ≤ 2 := by
  unfold stt_
  (repeat' split) <;> omega
theorem stt_0 {q : rw_t} {m : Int} (h : stt_ q m = 0) : (0 ≤ m ∧ m < q 3) ∧ 0 < br_ q m := by
  unfold stt_ at h
  by_cases c : 0 ≤ m ∧ m < q 3
  · rw [if_neg (fun k => k c)] at h
    by_cases e : 0 < br_ q m
    · exact ⟨c, e⟩
    · rw [if_pos e] at h
      exact absurd h (by decide)
  · rw [if_pos c] at h
    exact absurd h (by decide)
theorem stv_n {q : rw_t} (hW : wf_M q) {m : Int} (l : Int) (h : stt_ q m = 0) : vf_n32 (stv_ q m l) := by
  obtain ⟨⟨m0, m1⟩, hb⟩ := stt_0 h
  have w3 := hW.1
  have lb := br_le hW m0 (by omega : m < 16)
  exact vn_fdiv (vn_if_ _) (nz3_i (by omega) (by omega))
section REF
variable {g : bc_C} {d : Nat} {σ : bc_M} {q b : rw_t} {h : List rw_t} {Rr : Option bc_A → bc_M → Prop} {X : Nat → bc_M → Prop} {B : Int}
theorem t_X11_strains {m l : Int} (hN : nw_ σ 219 q) (hW : wf_M q) (hm : bc_in m) (f1 : stt_ q m ≠ 0 → ∀ σ', roc_ (stt_ q m) σ σ' → Rr (some (bc_F FP.fconst0)) σ') (f0 : stt_ q m = 0 → ∀ σ', roc_ 0 σ σ' → Rr (some (bc_F (stv_ q m l))) σ') : bc_Sem g (d + 6) mX11_strains [bc_R 218, bc_I m, bc_I l] σ Rr X := by
  have w3 := hW.1
  refine e_X11_strains rfl (fun K hK => ?_)
  have T25 : ∀ x y : Int, (x = if 0 ≤ m ∧ m < q 3 then 1 else 0) → (y = if stt_ q m = 0 then 1 else 0) → ho_ x y 1 1 = stt_ q m → K 25 [(0, bc_R 218), (1, bc_I m), (2, bc_I l), (3, bc_I x)] [bc_I y, bc_I x, bc_R 218] σ 0 := by
    intro x y hx hy ht
    have lx : 0 ≤ x ∧ x ≤ 1 := by rw [hx]; split <;> omega
    have ly : 0 ≤ y ∧ y ≤ 1 := by rw [hy]; split <;> omega
    refine hK.1 [] 60 _ _ _ _ _ ?_
    refine t_X11_holds lx ly (by decide) (by decide) ?_
    rw [ht]
    have R : roc_ (stt_ q m) σ (bc_wr σ 218 ((14 : Nat) : Int) (stt_ q m)) := roc_wr rfl
    generalize bc_wr σ 218 ((14 : Nat) : Int) (stt_ q m) = s at R ⊢
    by_cases e : stt_ q m = 0
    · obtain ⟨⟨m0, m1⟩, hb⟩ := stt_0 e
      have fin := f0 e s (by rw [e] at R; exact R)
      rw [if_pos e]
      refine bc_ob_i (by decide) ?_
      refine bc_br_i (fun c => absurd c (by decide)) (fun _ => ?_)
      refine t_X11_bears (nw_fr hN R.2.1 (by decide)) hW m0 m1 ?_
      refine bc_ob_i (stv_n hW l e) ?_
      exact fin
    · have fin := f1 e s R
      rw [if_neg e]
      refine bc_ob_i (by decide) ?_
      refine bc_br_i (fun _ => ?_) (fun c => absurd (by decide) c)
      exact fin
  refine hK.1 [25] 80 _ _ _ _ _ ?_
  refine t_X11_isMember hN w3 hm ?_
  by_cases c : 0 ≤ m ∧ m < q 3
  · have lb := br_le hW c.1 (by omega : m < 16)
    rw [if_pos c]
    refine bc_ob_i (by decide) ?_
    refine bc_br_i (fun c => absurd c (by decide)) (fun _ => ?_)
    refine t_X11_bears hN hW c.1 c.2 ?_
    refine bc_ob_i (by first | omega | decide | (constructor <;> omega) | (constructor <;> constructor <;> omega)) ?_
    refine bc_br_i (fun e => ?_) (fun e => ?_)
    rotate_left
    · have t2 : stt_ q m = 2 := by
        unfold stt_
        rw [if_neg (fun k => k c), if_pos (by omega)]
      exact T25 1 0 (if_pos c).symm (by rw [t2]; rfl) (by rw [t2]; rfl)
    · have t2 : stt_ q m = 0 := by
        unfold stt_
        rw [if_neg (fun k => k c), if_neg (by omega)]
      exact T25 1 1 (if_pos c).symm (by rw [t2]; rfl) (by rw [t2]; rfl)
  · rw [if_neg c]
    refine bc_ob_i (by decide) ?_
    refine bc_br_i (fun _ => ?_) (fun c => absurd (by decide) c)
    have t2 : stt_ q m = 1 := by
      unfold stt_
      rw [if_pos c]
    exact T25 0 0 (if_neg c).symm (by rw [t2]; rfl) (by rw [t2]; rfl)
theorem t_X11_strain {m l : Int} (hN : nw_ σ 219 q) (hW : wf_M q) (hm : bc_in m) (f1 : stt_ q m ≠ 0 → ∀ σ', roc_ (stt_ q m) σ σ' → Rr (some (bc_F FP.fconst0)) σ') (f0 : stt_ q m = 0 → ∀ σ', roc_ 0 σ σ' → Rr (some (bc_F (stv_ q m l))) σ') : bc_Sem g (d + 7) mX11_strain [bc_R 218, bc_I m, bc_I l] σ Rr X := by
  refine e_X11_strain rfl (fun K hK => ?_)
  refine hK.1 [] 60 _ _ _ _ _ ?_
  exact t_X11_strains hN hW hm f1 f0
theorem t_X11_strainBits {m l : Int} (hN : nw_ σ 219 q) (hW : wf_M q) (hm : bc_in m) (f1 : stt_ q m ≠ 0 → ∀ σ', roc_ (stt_ q m) σ σ' → Rr (some (bc_I 0)) σ') (f0 : stt_ q m = 0 → ∀ σ', roc_ 0 σ σ' → Rr (some (bc_I (stv_ q m l).toInt32.toInt)) σ') : bc_Sem g (d + 7) mX11_strainBits [bc_R 218, bc_I m, bc_I l] σ Rr X := by
  have lt := stt_le q m
  refine e_X11_strainBits rfl (fun K hK => ?_)
  refine hK.1 [] 60 _ _ _ _ _ ?_
  refine t_X11_strains hN hW hm (fun e s R => ?_) (fun e s R => ?_)
  · have t := R.1
    have fin := f1 e s R
    refine bc_ob_i (by constructor <;> omega) ?_
    refine bc_br_i (fun k => absurd k (by omega)) (fun _ => ?_)
    exact fin
  · have t := R.1
    have fin := f0 e s R
    refine bc_ob_i (by constructor <;> omega) ?_
    refine bc_br_i (fun _ => ?_) (fun k => absurd t k)
    refine bc_ob_i ⟨stv_n hW l e, Nat.le_of_ble_eq_true rfl⟩ ?_
    exact fin
theorem t_X11_meanBearing (hN : nw_ σ 219 q) (hW : wf_M q) (f1 : q 3 = 0 → ∀ σ', roc_ 1 σ σ' → Rr (some (bc_D FP.dconst0)) σ') (f0 : 0 < q 3 → ∀ σ', roc_ 0 σ σ' → Rr (some (bc_D (FP.ddiv (FP.i2d (Int32.ofInt (sm_ (fun k => br_ q k) (q 3).toNat))) (FP.i2d (Int32.ofInt (q 3)))))) σ') : bc_Sem g (d + 6) mX11_meanBearing [bc_R 218] σ Rr X := by
  have w3 := hW.1
  have e3 := hN 3 (by decide) (by decide)
  refine e_X11_meanBearing rfl (fun K hK => ?_)
  have T43 : ∀ y : Int, (y = if 0 < q 3 then 1 else 0) → ∀ z : bc_LV, K 43 ([(0, bc_R 218), (1, bc_I (sm_ (fun k => br_ q k) (q 3).toNat))] ++ z) [bc_I y, bc_R 218] σ 0 := by
    intro y hy z
    refine hK.2 _ _ [(0, bc_R 218), (1, bc_I (sm_ (fun k => br_ q k) (q 3).toNat))] _ _ _ (ls_ _ _) ?_
    refine hK.1 [] 60 _ _ _ _ _ ?_
    by_cases c : 0 < q 3
    · rw [if_pos c] at hy
      subst hy
      refine t_X11_goes (by decide) ?_
      have R : roc_ 0 σ (bc_wr σ 218 ((14 : Nat) : Int) (1 - 1)) := roc_wr (by decide)
      generalize bc_wr σ 218 ((14 : Nat) : Int) (1 - 1) = s at R ⊢
      have E3 := (nw_fr hN R.2.1 (by decide)) 3 (by decide) (by decide)
      have fin := f0 c s R
      refine bc_ob_i (by decide) ?_
      refine bc_br_i (fun c => absurd c (by decide)) (fun _ => ?_)
      refine bc_ob_i (by decide) ?_
      refine bc_ob_i (vn_ddiv (vn_id_ _) (nz6_i (by omega) (by omega))) ?_
      rw [E3]
      exact fin
    · rw [if_neg c] at hy
      subst hy
      refine t_X11_goes (by decide) ?_
      refine bc_ob_i (by decide) ?_
      refine bc_br_i (fun _ => ?_) (fun c => absurd (by decide) c)
      exact f1 (by omega) _ (roc_wr (by decide))
  have L : ∀ i : Int, 0 ≤ i → i ≤ q 3 → K 4 [(0, bc_R 218), (1, bc_I (sm_ (fun k => br_ q k) i.toNat)), (2, bc_I i)] [] σ 0 := by
    refine up_ind (q 3) (fun i hi i0 i1 => ?_) (fun i hi ih i0 i1 => ?_)
    · have e : i = q 3 := by omega
      subst e
      refine hK.1 [4, 43] 60 _ _ _ _ _ ?_
      refine bc_ob_i (by first | omega | decide | (constructor <;> omega) | (constructor <;> constructor <;> omega)) ?_
      refine bc_ob_i (by first | omega | decide | (constructor <;> omega) | (constructor <;> constructor <;> omega)) ?_
      refine bc_br_i (fun c => absurd c (by omega)) (fun _ => ?_)
      refine bc_ob_i (by first | omega | decide | (constructor <;> omega) | (constructor <;> constructor <;> omega)) ?_
      refine bc_ob_i (by first | omega | decide | (constructor <;> omega) | (constructor <;> constructor <;> omega)) ?_
      refine bc_br_i (fun c => ?_) (fun c => ?_)
      · exact T43 1 (if_pos (by omega)).symm [(2, bc_I (q 3))]
      · exact T43 0 (if_neg (by omega)).symm [(2, bc_I (q 3))]
    · rw [sm_s i0] at ih
      refine hK.1 [4] 60 _ _ _ _ _ ?_
      refine bc_ob_i (by first | omega | decide | (constructor <;> omega) | (constructor <;> constructor <;> omega)) ?_
      refine bc_ob_i (by first | omega | decide | (constructor <;> omega) | (constructor <;> constructor <;> omega)) ?_
      refine bc_br_i (fun _ => ?_) (fun c => absurd (by omega) c)
      refine t_X11_bears hN hW i0 hi ?_
      exact ih (by omega) (by omega)
  refine hK.1 [4] 60 _ _ _ _ _ ?_
  exact L 0 (Int.le_refl 0) w3.1
theorem t_X11_crackedShare (hN : nw_ σ 219 q) (hW : wf_M q) (f1 : q 3 = 0 → ∀ σ', roc_ 1 σ σ' → Rr (some (bc_F FP.fconst0)) σ') (f0 : 0 < q 3 → ∀ σ', roc_ 0 σ σ' → Rr (some (bc_F (FP.fdiv (FP.i2f (Int32.ofInt (sm_ (fun k => if 0 < q (19 + 6 * k) then 1 else 0) (q 3).toNat))) (FP.i2f (Int32.ofInt (q 3)))))) σ') : bc_Sem g (d + 5) mX11_crackedShare [bc_R 218] σ Rr X := by
  have w3 := hW.1
  have e3 := hN 3 (by decide) (by decide)
  refine e_X11_crackedShare rfl (fun K hK => ?_)
  have T52 : ∀ y : Int, (y = if 0 < q 3 then 1 else 0) → ∀ z : bc_LV, K 52 ([(0, bc_R 218), (1, bc_I (sm_ (fun k => if 0 < q (19 + 6 * k) then 1 else 0) (q 3).toNat))] ++ z) [bc_I y, bc_R 218] σ 0 := by
    intro y hy z
    refine hK.2 _ _ [(0, bc_R 218), (1, bc_I (sm_ (fun k => if 0 < q (19 + 6 * k) then 1 else 0) (q 3).toNat))] _ _ _ (ls_ _ _) ?_
    refine hK.1 [] 60 _ _ _ _ _ ?_
    by_cases c : 0 < q 3
    · rw [if_pos c] at hy
      subst hy
      refine t_X11_goes (by decide) ?_
      have R : roc_ 0 σ (bc_wr σ 218 ((14 : Nat) : Int) (1 - 1)) := roc_wr (by decide)
      generalize bc_wr σ 218 ((14 : Nat) : Int) (1 - 1) = s at R ⊢
      have E3 := (nw_fr hN R.2.1 (by decide)) 3 (by decide) (by decide)
      have fin := f0 c s R
      refine bc_ob_i (by decide) ?_
      refine bc_br_i (fun c => absurd c (by decide)) (fun _ => ?_)
      refine bc_ob_i (by decide) ?_
      refine bc_ob_i (vn_fdiv (vn_if_ _) (nz3_i (by omega) (by omega))) ?_
      rw [E3]
      exact fin
    · rw [if_neg c] at hy
      subst hy
      refine t_X11_goes (by decide) ?_
      refine bc_ob_i (by decide) ?_
      refine bc_br_i (fun _ => ?_) (fun c => absurd (by decide) c)
      exact f1 (by omega) _ (roc_wr (by decide))
  have L : ∀ i : Int, 0 ≤ i → i ≤ q 3 → K 4 [(0, bc_R 218), (1, bc_I (sm_ (fun k => if 0 < q (19 + 6 * k) then 1 else 0) i.toNat)), (2, bc_I i)] [] σ 0 := by
    refine up_ind (q 3) (fun i hi i0 i1 => ?_) (fun i hi ih i0 i1 => ?_)
    · have e : i = q 3 := by omega
      subst e
      refine hK.1 [4, 52] 60 _ _ _ _ _ ?_
      refine bc_ob_i (by first | omega | decide | (constructor <;> omega) | (constructor <;> constructor <;> omega)) ?_
      refine bc_ob_i (by first | omega | decide | (constructor <;> omega) | (constructor <;> constructor <;> omega)) ?_
      refine bc_br_i (fun c => absurd c (by omega)) (fun _ => ?_)
      refine bc_ob_i (by first | omega | decide | (constructor <;> omega) | (constructor <;> constructor <;> omega)) ?_
      refine bc_ob_i (by first | omega | decide | (constructor <;> omega) | (constructor <;> constructor <;> omega)) ?_
      refine bc_br_i (fun c => ?_) (fun c => ?_)
      · exact T52 1 (if_pos (by omega)).symm [(2, bc_I (q 3))]
      · exact T52 0 (if_neg (by omega)).symm [(2, bc_I (q 3))]
    · obtain ⟨g0, g1, g2, g3, g4, g5⟩ := hW.2 i i0 (by omega)
      rw [sm_s i0] at ih
      refine hK.1 [4] 60 _ _ _ _ _ ?_
      refine bc_ob_i (by first | omega | decide | (constructor <;> omega) | (constructor <;> constructor <;> omega)) ?_
      refine bc_ob_i (by first | omega | decide | (constructor <;> omega) | (constructor <;> constructor <;> omega)) ?_
      refine bc_br_i (fun _ => ?_) (fun c => absurd (by omega) c)
      refine t_X11_ofM 19 hN hW i0 hi (by decide) rfl ?_
      refine bc_ob_i (by first | omega | decide | (constructor <;> omega) | (constructor <;> constructor <;> omega)) ?_
      refine bc_br_i (fun c => ?_) (fun c => ?_)
      · rw [if_pos (by omega)] at ih
        exact ih (by omega) (by omega)
      · rw [if_neg (by omega)] at ih
        exact ih (by omega) (by omega)
  refine hK.1 [4] 60 _ _ _ _ _ ?_
  exact L 0 (Int.le_refl 0) w3.1
end REF
