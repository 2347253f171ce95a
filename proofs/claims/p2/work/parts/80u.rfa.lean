/-! the reference: what is left of the steel, whether all vows can be kept -/
section REF
variable {g : bc_C} {d : Nat} {σ : bc_M} {q b : rw_t} {h : List rw_t} {Rr : Option bc_A → bc_M → Prop} {X : Nat → bc_M → Prop} {B : Int}
theorem t_X11_spareOn {a : Int} (hN : nw_ σ 219 q) (hT : wf_T B q) (hB : B ≤ 1000000) (ha : bc_in a) (f : Rr (some (bc_I (sp_ q a))) σ) : bc_Sem g (d + 2) mX11_spareOn [bc_R 218, bc_I a] σ Rr X := by
  obtain ⟨T0, T1, T2, T4, T5, T6, T7, Ts, T8, T9, T10, Te, Tv, -⟩ := hT
  obtain ⟨a0, a1⟩ := ha
  have e0 := hN 0 (by decide) (by decide)
  have e1 := hN 1 (by decide) (by decide)
  have e2 := hN 2 (by decide) (by decide)
  have e4 := hN 4 (by decide) (by decide)
  refine e_X11_spareOn rfl (fun K hK => ?_)
  have L : ∀ i : Int, 0 ≤ i → i ≤ q 4 → K 25 [(0, bc_R 218), (1, bc_I a), (2, bc_I (q 1 + q 2 * (a - q 0) - sm_ (fun k => if q (113 + 3 * k) ≤ a then q (114 + 3 * k) else 0) i.toNat)), (3, bc_I i)] [] σ 0 := by
    refine up_ind (q 4) (fun i hi i0 i1 => ?_) (fun i hi ih i0 i1 => ?_)
    · have ei : i = q 4 := by omega
      subst ei
      refine hK.1 [25] 60 _ _ _ _ _ ?_
      refine bc_ob_i (by decide) ?_
      refine bc_ob_i (by omega) ?_
      refine bc_br_i (fun c => absurd c (by omega)) (fun _ => ?_)
      exact f
    · obtain ⟨v1, v2, v3⟩ := Tv i i0 (by omega)
      have es : sm_ (fun k => if q (113 + 3 * k) ≤ a then q (114 + 3 * k) else 0) (i + 1).toNat = sm_ (fun k => if q (113 + 3 * k) ≤ a then q (114 + 3 * k) else 0) i.toNat + (if q (113 + 3 * i) ≤ a then q (114 + 3 * i) else 0) := by
        rw [show (i + 1).toNat = i.toNat + 1 by omega]
        show sm_ _ i.toNat + (if q (113 + 3 * (i.toNat : Int)) ≤ a then q (114 + 3 * (i.toNat : Int)) else 0) = _
        rw [Int.toNat_of_nonneg i0]
      rw [es] at ih
      have ih := ih (by omega) (by omega)
      generalize sm_ (fun k => if q (113 + 3 * k) ≤ a then q (114 + 3 * k) else 0) i.toNat = y at ih ⊢
      refine hK.1 [25] 80 _ _ _ _ _ ?_
      refine bc_ob_i (by decide) ?_
      refine bc_ob_i (by omega) ?_
      refine bc_br_i (fun _ => ?_) (fun c => absurd c (by omega))
      refine t_X11_ofVow 113 hN (by omega) (by decide) rfl ?_
      refine bc_ob_i (by constructor <;> constructor <;> omega) ?_
      by_cases k : q (113 + 3 * i) ≤ a
      · rw [if_pos k, show q 1 + q 2 * (a - q 0) - (y + q (114 + 3 * i)) = q 1 + q 2 * (a - q 0) - y - q (114 + 3 * i) by omega] at ih
        refine bc_br_i (fun c => ?_) (fun c => ?_)
        · first | exact absurd k (by omega) | exact t_X11_ofVow 114 hN (by omega) (by decide) rfl ih
        · first | exact absurd k (by omega) | exact t_X11_ofVow 114 hN (by omega) (by decide) rfl ih
      · rw [if_neg k, show q 1 + q 2 * (a - q 0) - (y + 0) = q 1 + q 2 * (a - q 0) - y - 0 by omega] at ih
        refine bc_br_i (fun c => ?_) (fun c => ?_)
        · first | exact absurd c (by omega) | exact ih
        · first | exact absurd c (by omega) | exact ih
  refine hK.1 [25] 60 _ _ _ _ _ ?_
  refine bc_ob_i (by decide) ?_
  refine bc_ob_i (by decide) ?_
  refine bc_ob_i (by decide) ?_
  have H := L 0 (by decide) T4.1
  rw [show sm_ (fun k => if q (113 + 3 * k) ≤ a then q (114 + 3 * k) else 0) (0 : Int).toNat = 0 from rfl, show q 1 + q 2 * (a - q 0) - 0 = σ.1 219 1 + σ.1 219 2 * (a - σ.1 219 0) by rw [e0, e1, e2]; omega] at H
  exact H
end REF
