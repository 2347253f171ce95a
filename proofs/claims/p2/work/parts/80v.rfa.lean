/-! the reference: whether all vows can be kept; a vow by its number -/
section REF
variable {g : bc_C} {d : Nat} {σ : bc_M} {q b : rw_t} {h : List rw_t} {Rr : Option bc_A → bc_M → Prop} {X : Nat → bc_M → Prop} {B : Int}
theorem sp_in {q : rw_t} (hT : wf_T B q) (hB : B ≤ 1000000) {a : Int} (ha : 0 ≤ a ∧ a ≤ B + 100) : bc_in (sp_ q a) := by
  obtain ⟨T0, T1, T2, T4, T5, T6, T7, Ts, T8, T9, T10, Te, Tv, -⟩ := hT
  have key : ∀ n : Nat, n ≤ 8 → 0 ≤ sm_ (fun k => if q (113 + 3 * k) ≤ a then q (114 + 3 * k) else 0) n ∧ sm_ (fun k => if q (113 + 3 * k) ≤ a then q (114 + 3 * k) else 0) n ≤ 99 * n := by
    intro n
    induction n with
    | zero => intro _; exact ⟨by simp [sm_], by simp [sm_]⟩
    | succ n ih =>
      intro hn
      have i := ih (by omega)
      obtain ⟨v1, v2, v3⟩ := Tv n (by omega) (by omega)
      have e : sm_ (fun k => if q (113 + 3 * k) ≤ a then q (114 + 3 * k) else 0) (n + 1) = sm_ (fun k => if q (113 + 3 * k) ≤ a then q (114 + 3 * k) else 0) n + (if q (113 + 3 * (n : Int)) ≤ a then q (114 + 3 * (n : Int)) else 0) := rfl
      rw [e]
      split <;> omega
  have k := key (q 4).toNat (by omega)
  unfold sp_
  have m1 : -20000000 ≤ q 2 * (a - q 0) ∧ q 2 * (a - q 0) ≤ 20002000 := by
    have hh : q 2 = 0 ∨ q 2 = 1 ∨ q 2 = 2 ∨ q 2 = 3 ∨ q 2 = 4 ∨ q 2 = 5 ∨ q 2 = 6 ∨ q 2 = 7 ∨ q 2 = 8 ∨ q 2 = 9 ∨ q 2 = 10 ∨ q 2 = 11 ∨ q 2 = 12 ∨ q 2 = 13 ∨ q 2 = 14 ∨ q 2 = 15 ∨ q 2 = 16 ∨ q 2 = 17 ∨ q 2 = 18 ∨ q 2 = 19 ∨ q 2 = 20 := by omega
    rcases hh with e | e | e | e | e | e | e | e | e | e | e | e | e | e | e | e | e | e | e | e | e <;> rw [e] <;> omega
  constructor <;> omega
/-- all vows can be kept, as the reference sees it -/
def kpa_ (q : rw_t) (x : Int) : Prop := (x = 1 ∧ ∀ k : Int, 0 ≤ k → k < q 4 → 0 ≤ sp_ q (q (113 + 3 * k))) ∨ (x = 0 ∧ ∃ k : Int, (0 ≤ k ∧ k < q 4) ∧ sp_ q (q (113 + 3 * k)) < 0)
theorem t_X11_keepsAll (hN : nw_ σ 219 q) (hT : wf_T B q) (hB : B ≤ 1000000) (f : ∀ x, kpa_ q x → Rr (some (bc_I x)) σ) : bc_Sem g (d + 3) mX11_keepsAll [bc_R 218] σ Rr X := by
  have hT0 := hT
  obtain ⟨T0, T1, T2, T4, T5, T6, T7, Ts, T8, T9, T10, Te, Tv, -⟩ := hT0
  have e4 := hN 4 (by decide) (by decide)
  refine e_X11_keepsAll rfl (fun K hK => ?_)
  have L : ∀ i : Int, ∀ (x : Int), 0 ≤ i → i ≤ q 4 → ((x = 1 ∧ ∀ k : Int, 0 ≤ k → k < i → 0 ≤ sp_ q (q (113 + 3 * k))) ∨ (x = 0 ∧ ∃ k : Int, (0 ≤ k ∧ k < q 4) ∧ sp_ q (q (113 + 3 * k)) < 0)) → K 4 [(0, bc_R 218), (1, bc_I x), (2, bc_I i)] [] σ 0 := by
    refine up_ind (q 4) (fun i hi x i0 i1 hx => ?_) (fun i hi ih x i0 i1 hx => ?_)
    · have ei : i = q 4 := by omega
      subst ei
      have lx : 0 ≤ x ∧ x ≤ 1 := by rcases hx with hx | hx <;> omega
      refine hK.1 [4] 60 _ _ _ _ _ ?_
      refine bc_ob_i (by decide) ?_
      refine bc_ob_i (by omega) ?_
      refine bc_br_i (fun c => absurd c (by omega)) (fun _ => ?_)
      first | exact f x hx | exact bc_ob_i (by omega) (f x hx)
    · obtain ⟨v1, v2, v3⟩ := Tv i i0 (by omega)
      have hs := sp_in hT hB (a := q (113 + 3 * i)) (by omega)
      refine hK.1 [4] 80 _ _ _ _ _ ?_
      refine bc_ob_i (by decide) ?_
      refine bc_ob_i (by omega) ?_
      refine bc_br_i (fun _ => ?_) (fun c => absurd c (by omega))
      rcases hx with ⟨x1, hx⟩ | ⟨x0, hx⟩
      · subst x1
        refine bc_ob_i (by decide) ?_
        refine bc_br_i (fun c => absurd c (by decide)) (fun _ => ?_)
        refine t_X11_ofVow 113 hN (by omega) (by decide) rfl ?_
        refine t_X11_spareOn hN hT hB (by constructor <;> omega) ?_
        refine bc_ob_i hs ?_
        by_cases k : 0 ≤ sp_ q (q (113 + 3 * i))
        · have go := ih 1 (by omega) (by omega) (.inl ⟨rfl, fun j j0 j1 => by
            by_cases e : j = i
            · rw [e]; exact k
            · exact hx j j0 (by omega)⟩)
          refine bc_br_i (fun c => ?_) (fun c => ?_)
          · first | exact absurd c (by omega) | exact go
          · first | exact absurd c (by omega) | exact go
        · have go := ih 0 (by omega) (by omega) (.inr ⟨rfl, i, ⟨i0, hi⟩, by omega⟩)
          refine bc_br_i (fun c => ?_) (fun c => ?_)
          · first | exact absurd c (by omega) | exact go
          · first | exact absurd c (by omega) | exact go
      · subst x0
        refine bc_ob_i (by decide) ?_
        refine bc_br_i (fun _ => ?_) (fun c => absurd rfl c)
        exact ih 0 (by omega) (by omega) (.inr ⟨rfl, hx⟩)
  refine hK.1 [4] 60 _ _ _ _ _ ?_
  exact L 0 1 (by decide) T4.1 (.inl ⟨rfl, fun k k0 k1 => by omega⟩)
end REF
