def st_N (σ : bc_M) (b : Nat) (r : rw_t) : Prop := σ.1 (b + 8) ((0 : Nat) : Int) = r 11 ∧ ∀ k : Int, 0 ≤ k → k < 4 → σ.1 (b + 9) k = r (12 + k)
theorem st_N1 {σ : bc_M} {r : rw_t} (h : st_N σ 1 r) : σ.1 9 ((0 : Nat) : Int) = r 11 ∧ σ.1 10 0 = r 12 ∧ σ.1 10 1 = r 13 ∧ σ.1 10 2 = r 14 ∧ σ.1 10 3 = r 15 :=
  ⟨h.1, h.2 0 (by decide) (by decide), h.2 1 (by decide) (by decide), h.2 2 (by decide) (by decide), h.2 3 (by decide) (by decide)⟩
def wf_N (r : rw_t) : Prop := (r 11 = 99 ∨ r 11 = 108) ∧ (0 ≤ r 12 ∧ r 12 ≤ 20) ∧ (0 ≤ r 13 ∧ r 13 ≤ 20) ∧ (0 ≤ r 14 ∧ r 14 ≤ 20) ∧ (0 ≤ r 15 ∧ r 15 ≤ 20)
def tw_ (r : rw_t) : Int := r 12 + r 13 + r 14 + r 15
def up_ (r : rw_t) (i v : Int) : rw_t := fun j => if j = i then v else r j
theorem up_at {r : rw_t} {i v : Int} : up_ r i v i = v := if_pos rfl
theorem up_ne {r : rw_t} {i v j : Int} (h : j ≠ i) : up_ r i v j = r j := if_neg h
/-- the niche is emptied, for a kind -/
def re_ (r : rw_t) (c : Int) : rw_t := fun j => if j = 11 then c else if 12 ≤ j ∧ j ≤ 15 then 0 else r j
def rp_ (r : rw_t) (p w : Int) : rw_t := up_ r (12 + p) w
section NIC
variable {g : bc_C} {d : Nat} {σ : bc_M} {r : rw_t} {Rr : Option bc_A → bc_M → Prop} {X : Nat → bc_M → Prop}
theorem t_X3_total (hS : st_N σ 1 r) (hW : wf_N r) (h : Rr (some (bc_I (tw_ r))) σ) : bc_Sem g (d + 1) mX3_total [bc_R 9] σ Rr X := by
  obtain ⟨c1, e0, e1, e2, e3⟩ := st_N1 hS
  have w := hW
  unfold wf_N at w
  refine e_X3_total rfl (fun K hK => ?_)
  have L : ∀ i : Int, ∀ s : Int, 0 ≤ i → i ≤ 4 → (i = 0 → s = 0) → (i = 1 → s = r 12) → (i = 2 → s = r 12 + r 13) → (i = 3 → s = r 12 + r 13 + r 14) → (i = 4 → s = tw_ r) → K 4 [(0, bc_R 9), (1, bc_I s), (2, bc_I i)] [] σ 0 := by
    refine up_ind 4 (fun i hi s h0 h1 q0 q1 q2 q3 q4 => ?_) (fun i hi ih s h0 h1 q0 q1 q2 q3 q4 => ?_)
    · refine hK.1 [4] 60 _ _ _ _ _ ?_
      refine bc_ob_i (by omega) ?_
      refine bc_br_i (fun c => by omega) (fun c => ?_)
      exact rt_ h (q4 (by omega))
    · refine hK.1 [4] 60 _ _ _ _ _ ?_
      refine bc_ob_i (by omega) ?_
      refine bc_br_i (fun c => ?_) (fun c => by omega)
      refine bc_ob_i (by omega) ?_
      unfold tw_ at ih
      have hh : i = 0 ∨ i = 1 ∨ i = 2 ∨ i = 3 := by omega
      rcases hh with rfl | rfl | rfl | rfl
      · exact ih _ (by omega) (by omega) (by omega) (by omega) (by omega) (by omega) (by omega)
      · exact ih _ (by omega) (by omega) (by omega) (by omega) (by omega) (by omega) (by omega)
      · exact ih _ (by omega) (by omega) (by omega) (by omega) (by omega) (by omega) (by omega)
      · exact ih _ (by omega) (by omega) (by omega) (by omega) (by omega) (by omega) (by omega)
  refine hK.1 [4] 40 _ _ _ _ _ ?_
  exact L 0 0 (by omega) (by omega) (by omega) (by omega) (by omega) (by omega) (by omega)
theorem t_X3_place {p w : Int} (hS : st_N σ 1 r) (hW : wf_N r) (p0 : 0 ≤ p) (p1 : p < 4) (hw : 0 ≤ w ∧ w ≤ 20) (h : ∀ σ' : bc_M, st_N σ' 1 (rp_ r p w) → fr_ (fun k => 9 ≤ k ∧ k ≤ 10) σ σ' → Rr (some (bc_I (tw_ (rp_ r p w)))) σ') : bc_Sem g (d + 2) mX3_place [bc_R 9, bc_I p, bc_I w] σ Rr X := by
  have hS' : st_N (bc_wr σ 10 p w) 1 (rp_ r p w) := by
    refine ⟨?_, fun k k0 k1 => ?_⟩
    · have := hS.1
      simp only [bc_wr, rp_, up_]
      simp
      rw [if_neg (by omega)]
      exact this
    · have := hS.2 k k0 k1
      simp only [bc_wr, rp_, up_]
      simp
      repeat' split
      all_goals omega
  have hW' : wf_N (rp_ r p w) := by
    unfold wf_N rp_ up_ at *
    refine ⟨?_, ?_, ?_, ?_, ?_⟩ <;> repeat' split
    all_goals omega
  refine e_X3_place rfl (fun K hK => ?_)
  refine hK.1 [] 40 _ _ _ _ _ ?_
  refine bc_ob_i (by omega) ?_
  refine t_X3_total hS' hW' ?_
  exact h _ hS' (fr_wr (by omega))
theorem t_X3_dedicate {c : Int} (hS : st_N σ 1 r) (hW : wf_N r) (hc : 0 ≤ c ∧ c ≤ 65535) (h : ∀ σ' : bc_M, st_N σ' 1 (re_ r c) → fr_ (fun k => 9 ≤ k ∧ k ≤ 10) σ σ' → Rr (some (bc_I (tw_ r))) σ') : bc_Sem g (d + 2) mX3_dedicate [bc_R 9, bc_I c] σ Rr X := by
  refine e_X3_dedicate rfl (fun K hK => ?_)
  have L : ∀ i : Int, ∀ σ' : bc_M, 0 ≤ i → i ≤ 4 → σ'.1 9 ((0 : Nat) : Int) = c → (∀ k : Int, 0 ≤ k → k < i → σ'.1 10 k = 0) → fr_ (fun k => 9 ≤ k ∧ k ≤ 10) σ σ' → K 12 [(0, bc_R 9), (1, bc_I c), (2, bc_I (tw_ r)), (3, bc_I i)] [] σ' 0 := by
    refine up_ind 4 (fun i hi σ' h0 h1 q0 q1 q2 => ?_) (fun i hi ih σ' h0 h1 q0 q1 q2 => ?_)
    · refine hK.1 [12] 60 _ _ _ _ _ ?_
      refine bc_ob_i (by omega) ?_
      refine bc_br_i (fun c => by omega) (fun _ => ?_)
      refine h σ' ⟨q0, fun k k0 k1 => ?_⟩ q2
      have := q1 k k0 (by omega)
      unfold re_
      rw [if_neg (by omega), if_pos (by omega)]
      exact this
    · refine hK.1 [12] 60 _ _ _ _ _ ?_
      refine bc_ob_i (by omega) ?_
      refine bc_br_i (fun c => ?_) (fun c => by omega)
      refine bc_ob_i (by omega) ?_
      refine ih _ (by omega) (by omega) ?_ (fun k k0 k1 => ?_) (fr_trans q2 (fr_wr (by omega)))
      · simp only [bc_wr]
        simp
        exact q0
      · have := q1 k k0
        simp only [bc_wr]
        simp
        omega
  refine hK.1 [12] 40 _ _ _ _ _ ?_
  refine t_X3_total hS hW ?_
  refine bc_ob_i hc ?_
  refine L 0 _ (by omega) (by omega) ?_ (fun k k0 k1 => by omega) (fr_wr (by omega))
  simp only [bc_wr]
  simp
end NIC
