/-! the reference's helpers -/
/-- whether member k joins a and b, as the reference sees it -/
def jr_ (r : rw_t) (k a b : Int) : Prop := r (16 + 6 * k) = min a b ∧ r (17 + 6 * k) = max a b
def bq_ (r : rw_t) (a b v : Int) : Prop := (v = -1 ∧ ∀ k : Int, 0 ≤ k → k < r 3 → ¬ jr_ r k a b) ∨ (0 ≤ v ∧ v < r 3 ∧ jr_ r v a b)
theorem pl_at {r : rw_t} {m j : Int} (m0 : 0 ≤ m) (m1 : m < r 3) : pl_ r m j = 16 + j + 6 * m := by
  unfold pl_
  rw [if_pos ⟨m0, m1⟩]
  omega
section REF
variable {g : bc_C} {d : Nat} {σ : bc_M} {r : rw_t} {Rr : Option bc_A → bc_M → Prop} {X : Nat → bc_M → Prop}
theorem t_X11_ofM {m j : Int} (q : Int) (hN : nw_ σ 219 r) (hW : wf_M r) (m0 : 0 ≤ m) (m1 : m < r 3) (hj : 0 ≤ j ∧ j ≤ 5) (e : q = 16 + j) (h : Rr (some (bc_I (r (q + 6 * m)))) σ) : bc_Sem g (d + 4) mX11_of [bc_R 218, bc_I m, bc_I j] σ Rr X := by
  have w := hW.1
  refine t_X11_of hN w (by constructor <;> omega) hj ?_
  rw [pl_at m0 m1, ← e]
  exact h
theorem t_X11_bears {m : Int} (hN : nw_ σ 219 r) (hW : wf_M r) (m0 : 0 ≤ m) (m1 : m < r 3) (h : Rr (some (bc_I (br_ r m))) σ) : bc_Sem g (d + 5) mX11_bears [bc_R 218, bc_I m] σ Rr X := by
  have w := hW.1
  obtain ⟨g0, g1, g2, g3, g4, g5⟩ := hW.2 m m0 (by omega)
  have hp := mul_le g2.1 g2.2 (b := 10 - r (19 + 6 * m)) (B := 10) (by omega) (by omega)
  refine e_X11_bears rfl (fun K hK => ?_)
  unfold br_ at h
  refine hK.1 [] 60 _ _ _ _ _ ?_
  refine t_X11_ofM 21 hN hW m0 m1 (by decide) rfl ?_
  refine bc_ob_i (by omega) ?_
  refine bc_br_i (fun c => ?_) (fun c => ?_)
  · exact rt_ h (if_neg (by omega)).symm
  · refine t_X11_ofM 18 hN hW m0 m1 (by decide) rfl ?_
    refine t_X11_ofM 19 hN hW m0 m1 (by decide) rfl ?_
    refine bc_ob_i ⟨⟨hp.1, by omega⟩, by decide, by decide⟩ ?_
    exact rt_ h (if_pos (by omega)).symm
theorem t_X11_costOf {m : Int} (hN : nw_ σ 219 r) (hW : wf_M r) (m0 : 0 ≤ m) (m1 : m < r 3) (h : Rr (some (bc_I (co_ r m))) σ) : bc_Sem g (d + 5) mX11_costOf [bc_R 218, bc_I m] σ Rr X := by
  have w := hW.1
  obtain ⟨g0, g1, g2, g3, g4, g5⟩ := hW.2 m m0 (by omega)
  refine e_X11_costOf rfl (fun K hK => ?_)
  unfold co_ at h
  refine hK.1 [] 60 _ _ _ _ _ ?_
  refine t_X11_ofM 18 hN hW m0 m1 (by decide) rfl ?_
  refine bc_ob_i ⟨⟨by omega, by omega⟩, by decide, by decide⟩ ?_
  refine t_X11_ofM 19 hN hW m0 m1 (by decide) rfl ?_
  exact h
theorem t_X11_between {a b : Int} (hN : nw_ σ 219 r) (hW : wf_M r) (ha : bc_in a) (hb : bc_in b) (h : ∀ v, bq_ r a b v → Rr (some (bc_I v)) σ) : bc_Sem g (d + 5) mX11_between [bc_R 218, bc_I a, bc_I b] σ Rr X := by
  obtain ⟨a0, a1⟩ := ha
  obtain ⟨b0, b1⟩ := hb
  have w := hW.1
  have e3 := hN 3 (by decide) (by decide)
  refine e_X11_between rfl (fun K hK => ?_)
  have L : ∀ i : Int, ∀ (v : Int) (z : bc_LV), 0 ≤ i → i ≤ r 3 → ((v = -1 ∧ ∀ k : Int, 0 ≤ k → k < i → ¬ jr_ r k a b) ∨ (0 ≤ v ∧ v < r 3 ∧ jr_ r v a b)) → K 5 ([(0, bc_R 218), (1, bc_I a), (2, bc_I b), (3, bc_I v), (4, bc_I i)] ++ z) [] σ 0 := by
    refine up_ind (r 3) (fun i hi v z i0 i1 hv => ?_) (fun i hi ih v z i0 i1 hv => ?_)
    · refine hK.2 _ _ [(0, bc_R 218), (1, bc_I a), (2, bc_I b), (3, bc_I v), (4, bc_I i)] _ _ _ (ls_ _ _) ?_
      refine hK.1 [5] 60 _ _ _ _ _ ?_
      refine bc_ob_i (by decide) ?_
      refine bc_ob_i (by omega) ?_
      refine bc_br_i (fun c => by omega) (fun _ => ?_)
      refine h v ?_
      rcases hv with ⟨v0, hv⟩ | hv
      · exact .inl ⟨v0, fun k k0 k1 => hv k k0 (by omega)⟩
      · exact .inr hv
    · refine hK.2 _ _ [(0, bc_R 218), (1, bc_I a), (2, bc_I b), (3, bc_I v), (4, bc_I i)] _ _ _ (ls_ _ _) ?_
      obtain ⟨g0, g1, -⟩ := hW.2 i i0 (by omega)
      have no : ¬ jr_ r i a b → K 5 ([(0, bc_R 218), (1, bc_I a), (2, bc_I b), (3, bc_I v), (4, bc_I (i + 1))] ++ [(5, bc_I 0)]) [] σ 0 := fun q => ih v _ (by omega) (by omega) (by
        rcases hv with ⟨v0, hv⟩ | hv
        · refine .inl ⟨v0, fun k k0 k1 => ?_⟩
          by_cases e : k = i
          · rw [e]; exact q
          · exact hv k k0 (by omega)
        · exact .inr hv)
      refine hK.1 [5] 60 _ _ _ _ _ ?_
      refine bc_ob_i (by decide) ?_
      refine bc_ob_i (by omega) ?_
      refine bc_br_i (fun _ => ?_) (fun c => by omega)
      refine t_X11_ofM 16 hN hW i0 hi (by decide) rfl ?_
      refine bc_ob_i ⟨by omega, by omega, Nat.le_of_ble_eq_true rfl⟩ ?_
      refine bc_ob_i (by constructor <;> constructor <;> omega) ?_
      refine bc_br_i (fun c => ?_) (fun c => ?_)
      · refine t_X11_ofM 17 hN hW i0 hi (by decide) rfl ?_
        refine bc_ob_i ⟨by omega, by omega, Nat.le_of_ble_eq_true rfl⟩ ?_
        refine bc_ob_i (by constructor <;> constructor <;> omega) ?_
        refine bc_br_i (fun c2 => ?_) (fun c2 => ?_)
        · refine bc_ob_i (by decide) ?_
          refine bc_br_i (fun q => absurd q (by decide)) (fun _ => ?_)
          exact ih i [(5, bc_I 1)] (by omega) (by omega) (.inr ⟨i0, hi, c, c2⟩)
        · refine bc_ob_i (by decide) ?_
          refine bc_br_i (fun _ => ?_) (fun q => absurd rfl q)
          exact no (fun q => c2 q.2)
      · refine bc_ob_i (by decide) ?_
        refine bc_br_i (fun _ => ?_) (fun q => absurd rfl q)
        exact no (fun q => c q.1)
  refine hK.1 [5] 40 _ _ _ _ _ ?_
  exact L 0 (-1) [] (by omega) w.1 (.inl ⟨rfl, fun k k0 k1 => by omega⟩)
end REF
