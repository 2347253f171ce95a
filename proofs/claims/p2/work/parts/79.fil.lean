/-! the reference: what fills the scratch -/
def put_ (q : rw_t) (p c w : Int) : Int := if ¬ (0 ≤ p ∧ p ≤ 3) then 1 else if ¬ ((c = 99 ∨ c = 108) ∧ 1 ≤ w ∧ w ≤ 20) then 2 else if q 11 ≠ c then 3 else if q (12 + p) ≠ 0 then 4 else 0
section REF
variable {g : bc_C} {d : Nat} {σ : bc_M} {q b : rw_t} {h : List rw_t} {Rr : Option bc_A → bc_M → Prop} {X : Nat → bc_M → Prop}
theorem t_X11_fills {x : Int} (f : ∀ σ', (∀ j : Int, 0 ≤ j → j < 8 → σ'.1 223 j = x) → fr_ (fun k => k = 223) σ σ' → Rr none σ') : bc_Sem g (d + 1) mX11_fills [bc_R 218, bc_I x] σ Rr X := by
  refine e_X11_fills rfl (fun K hK => ?_)
  have L : ∀ i : Int, ∀ σ', 0 ≤ i → i ≤ 8 → (∀ j : Int, 0 ≤ j → j < i → σ'.1 223 j = x) → fr_ (fun k => k = 223) σ σ' → K 2 [(0, bc_R 218), (1, bc_I x), (2, bc_I i)] [] σ' 0 := by
    refine up_ind 8 (fun i hi σ' i0 i1 hs F => ?_) (fun i hi ih σ' i0 i1 hs F => ?_)
    · refine hK.1 [2] 60 _ _ _ _ _ ?_
      refine bc_ob_i (by omega) ?_
      refine bc_br_i (fun c => absurd c (by omega)) (fun _ => ?_)
      exact f σ' (fun j j0 j1 => hs j j0 (by omega)) F
    · refine hK.1 [2] 60 _ _ _ _ _ ?_
      refine bc_ob_i (by omega) ?_
      refine bc_br_i (fun _ => ?_) (fun c => absurd hi c)
      refine bc_ob_i (by omega) ?_
      refine ih _ (by omega) (by omega) (fun j j0 j1 => ?_) (fr_trans F (fr_wr rfl))
      simp only [bc_wr, if_true]
      by_cases e : j = i
      · rw [if_pos e]
      · rw [if_neg e]
        exact hs j j0 (by omega)
  refine hK.1 [2] 40 _ _ _ _ _ ?_
  exact L 0 σ (by decide) (by decide) (fun j j0 j1 => by omega) (fr_refl _)
end REF
