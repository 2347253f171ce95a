/-! the reference: the calls about all vows; a vow by its number -/
section REF
variable {g : bc_C} {d : Nat} {σ : bc_M} {q b : rw_t} {h : List rw_t} {Rr : Option bc_A → bc_M → Prop} {X : Nat → bc_M → Prop} {B : Int}
theorem t_X11_canKeepAll (hN : nw_ σ 219 q) (hT : wf_T B q) (hB : B ≤ 1000000) (f : ∀ σ' x, kpa_ q x → roc_ 0 σ σ' → Rr (some (bc_I x)) σ') : bc_Sem g (d + 4) mX11_canKeepAll [bc_R 218] σ Rr X := by
  refine e_X11_canKeepAll rfl (fun K hK => ?_)
  refine hK.1 [] 60 _ _ _ _ _ ?_
  have R0 : roc_ 0 σ (bc_wr σ 218 ((14 : Nat) : Int) 0) := roc_wr rfl
  refine t_X11_keepsAll (nw_fr hN R0.2.1 (by decide)) hT hB (fun x hx => ?_)
  have lx : 0 ≤ x ∧ x ≤ 1 := by rcases hx with hx | hx <;> omega
  first | exact f _ x hx R0 | exact bc_ob_i (by omega) (f _ x hx R0)
theorem t_X11_canKeepAllBySums (hN : nw_ σ 219 q) (hT : wf_T B q) (hB : B ≤ 1000000) (f : ∀ σ' x, kpa_ q x → roc_ 0 σ σ' → Rr (some (bc_I x)) σ') : bc_Sem g (d + 4) mX11_canKeepAllBySums [bc_R 218] σ Rr X := by
  refine e_X11_canKeepAllBySums rfl (fun K hK => ?_)
  refine hK.1 [] 60 _ _ _ _ _ ?_
  have R0 : roc_ 0 σ (bc_wr σ 218 ((14 : Nat) : Int) 0) := roc_wr rfl
  refine t_X11_keepsAll (nw_fr hN R0.2.1 (by decide)) hT hB (fun x hx => ?_)
  have lx : 0 ≤ x ∧ x ≤ 1 := by rcases hx with hx | hx <;> omega
  first | exact f _ x hx R0 | exact bc_ob_i (by omega) (f _ x hx R0)
/-- the place of a vow with this number -/
def vwp_ (q : rw_t) (w x : Int) : Prop := (x = -1 ∧ ∀ k : Int, 0 ≤ k → k < q 4 → q (112 + 3 * k) ≠ w) ∨ ((0 ≤ x ∧ x < q 4) ∧ q (112 + 3 * x) = w)
theorem t_X11_asksVow {w j : Int} (p : Int) (hN : nw_ σ 219 q) (hT : wf_T B q) (hB : B ≤ 1000000) (hw : bc_in w) (hj : 0 ≤ j ∧ j ≤ 2) (e : p = 112 + j) (f1 : vwp_ q w (-1) → ∀ σ', roc_ 1 σ σ' → Rr (some (bc_I 0)) σ') (f0 : ∀ x, 0 ≤ x → vwp_ q w x → ∀ σ', roc_ 0 σ σ' → Rr (some (bc_I (q (p + 3 * x)))) σ') : bc_Sem g (d + 4) mX11_asksVow [bc_R 218, bc_I w, bc_I j] σ Rr X := by
  obtain ⟨T0, T1, T2, T4, T5, T6, T7, Ts, T8, T9, T10, Te, Tv, -⟩ := hT
  obtain ⟨w0, w1⟩ := hw
  have e4 := hN 4 (by decide) (by decide)
  refine e_X11_asksVow rfl (fun K hK => ?_)
  have L : ∀ i : Int, ∀ (x : Int), 0 ≤ i → i ≤ q 4 → ((x = -1 ∧ ∀ k : Int, 0 ≤ k → k < i → q (112 + 3 * k) ≠ w) ∨ ((0 ≤ x ∧ x < q 4) ∧ q (112 + 3 * x) = w)) → K 5 [(0, bc_R 218), (1, bc_I w), (2, bc_I j), (3, bc_I x), (4, bc_I i)] [] σ 0 := by
    refine up_ind (q 4) (fun i hi x i0 i1 hx => ?_) (fun i hi ih x i0 i1 hx => ?_)
    · have ei : i = q 4 := by omega
      subst ei
      refine hK.1 [5] 80 _ _ _ _ _ ?_
      refine bc_ob_i (by decide) ?_
      refine bc_ob_i (by omega) ?_
      refine bc_br_i (fun c => absurd c (by omega)) (fun _ => ?_)
      rcases hx with ⟨x1, hx⟩ | hx
      · subst x1
        refine bc_ob_i (by decide) ?_
        refine bc_br_i (fun _ => ?_) (fun c => absurd rfl c)
        refine t_X11_goes (by decide) ?_
        refine bc_ob_i (by decide) ?_
        refine bc_br_i (fun _ => ?_) (fun q => absurd rfl q)
        exact f1 (.inl ⟨rfl, hx⟩) _ (roc_wr (by decide))
      · refine bc_ob_i (by constructor <;> constructor <;> omega) ?_
        refine bc_br_i (fun c => absurd c (by omega)) (fun _ => ?_)
        refine t_X11_goes (by decide) ?_
        refine bc_ob_i (by decide) ?_
        refine bc_br_i (fun q => absurd q (by decide)) (fun _ => ?_)
        have R0 : roc_ 0 σ (bc_wr σ 218 ((14 : Nat) : Int) (1 - 1)) := roc_wr (by decide)
        exact t_X11_ofVow p (nw_fr hN R0.2.1 (by decide)) (by omega) hj e (f0 x hx.1.1 (.inr hx) _ R0)
    · obtain ⟨v1, v2, v3⟩ := Tv i i0 (by omega)
      refine hK.1 [5] 80 _ _ _ _ _ ?_
      refine bc_ob_i (by decide) ?_
      refine bc_ob_i (by omega) ?_
      refine bc_br_i (fun _ => ?_) (fun c => absurd c (by omega))
      refine t_X11_ofVow 112 hN (by omega) (by decide) rfl ?_
      refine bc_ob_i (by constructor <;> constructor <;> omega) ?_
      refine bc_br_i (fun c => ?_) (fun c => ?_)
      · exact ih i (by omega) (by omega) (.inr ⟨⟨i0, hi⟩, c⟩)
      · refine ih x (by omega) (by omega) ?_
        rcases hx with ⟨x1, hx⟩ | hx
        · refine .inl ⟨x1, fun k k0 k1 => ?_⟩
          by_cases ek : k = i
          · rw [ek]; exact c
          · exact hx k k0 (by omega)
        · exact .inr hx
  refine hK.1 [5] 60 _ _ _ _ _ ?_
  exact L 0 (-1) (by decide) T4.1 (.inl ⟨rfl, fun k k0 k1 => by omega⟩)
theorem t_X11_dueDay {w : Int} (hN : nw_ σ 219 q) (hT : wf_T B q) (hB : B ≤ 1000000) (hw : bc_in w) (f1 : vwp_ q w (-1) → ∀ σ', roc_ 1 σ σ' → Rr (some (bc_I 0)) σ') (f0 : ∀ x, 0 ≤ x → vwp_ q w x → ∀ σ', roc_ 0 σ σ' → Rr (some (bc_I (q (113 + 3 * x)))) σ') : bc_Sem g (d + 5) mX11_dueDay [bc_R 218, bc_I w] σ Rr X := by
  refine e_X11_dueDay rfl (fun K hK => ?_)
  refine hK.1 [] 60 _ _ _ _ _ ?_
  exact t_X11_asksVow 113 hN hT hB hw (by decide) rfl f1 f0
theorem t_X11_amount {w : Int} (hN : nw_ σ 219 q) (hT : wf_T B q) (hB : B ≤ 1000000) (hw : bc_in w) (f1 : vwp_ q w (-1) → ∀ σ', roc_ 1 σ σ' → Rr (some (bc_I 0)) σ') (f0 : ∀ x, 0 ≤ x → vwp_ q w x → ∀ σ', roc_ 0 σ σ' → Rr (some (bc_I (q (114 + 3 * x)))) σ') : bc_Sem g (d + 5) mX11_amount [bc_R 218, bc_I w] σ Rr X := by
  refine e_X11_amount rfl (fun K hK => ?_)
  refine hK.1 [] 60 _ _ _ _ _ ?_
  exact t_X11_asksVow 114 hN hT hB hw (by decide) rfl f1 f0
end REF
