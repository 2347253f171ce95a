def st_T (σ : bc_M) (b : Nat) (r : rw_t) : Prop := (σ.1 (b + 10) ((0 : Nat) : Int) = r 0 ∧ σ.1 (b + 10) ((1 : Nat) : Int) = r 1 ∧ σ.1 (b + 10) ((2 : Nat) : Int) = r 2 ∧ σ.1 (b + 10) ((3 : Nat) : Int) = r 8 ∧ σ.1 (b + 10) ((4 : Nat) : Int) = r 9 ∧ σ.1 (b + 10) ((5 : Nat) : Int) = r 10 ∧ σ.1 (b + 10) ((6 : Nat) : Int) = r 6 ∧ σ.1 (b + 10) ((7 : Nat) : Int) = r 7 ∧ σ.1 (b + 10) ((8 : Nat) : Int) = r 5 ∧ σ.1 (b + 10) ((9 : Nat) : Int) = r 4) ∧
  ∀ k : Int, 0 ≤ k → k < 8 → σ.1 (b + 11) k = r (112 + 3 * k) ∧ σ.1 (b + 12) k = r (113 + 3 * k) ∧ σ.1 (b + 13) k = r (114 + 3 * k)
theorem st_T1 {σ : bc_M} {r : rw_t} (h : st_T σ 1 r) : (σ.1 11 ((0 : Nat) : Int) = r 0 ∧ σ.1 11 ((1 : Nat) : Int) = r 1 ∧ σ.1 11 ((2 : Nat) : Int) = r 2 ∧ σ.1 11 ((3 : Nat) : Int) = r 8 ∧ σ.1 11 ((4 : Nat) : Int) = r 9 ∧ σ.1 11 ((5 : Nat) : Int) = r 10 ∧ σ.1 11 ((6 : Nat) : Int) = r 6 ∧ σ.1 11 ((7 : Nat) : Int) = r 7 ∧ σ.1 11 ((8 : Nat) : Int) = r 5 ∧ σ.1 11 ((9 : Nat) : Int) = r 4) ∧
  ∀ k : Int, 0 ≤ k → k < 8 → σ.1 12 k = r (112 + 3 * k) ∧ σ.1 13 k = r (113 + 3 * k) ∧ σ.1 14 k = r (114 + 3 * k) := h
theorem st_T2 {σ : bc_M} {r : rw_t} (h : st_T σ 1 r) : σ.1 11 0 = r 0 ∧ σ.1 11 1 = r 1 ∧ σ.1 11 2 = r 2 ∧ σ.1 11 3 = r 8 ∧ σ.1 11 4 = r 9 ∧ σ.1 11 5 = r 10 ∧ σ.1 11 6 = r 6 ∧ σ.1 11 7 = r 7 ∧ σ.1 11 8 = r 5 ∧ σ.1 11 9 = r 4 := h.1
/-- the numbers of the treasury when B days at most have gone by, and B vows at most were made -/
def wf_T (B : Int) (r : rw_t) : Prop := (0 ≤ r 0 ∧ r 0 ≤ B) ∧ 0 ≤ r 1 ∧ (0 ≤ r 2 ∧ r 2 ≤ 20) ∧ (0 ≤ r 4 ∧ r 4 ≤ 8) ∧ r 5 ≤ B ∧ 0 ≤ r 6 ∧ 0 ≤ r 7 ∧ r 6 + r 7 + r 4 = r 5 ∧ (0 ≤ r 8 ∧ r 8 ≤ 20 * B) ∧ 0 ≤ r 9 ∧ 0 ≤ r 10 ∧ r 1 = 30 + r 8 - r 9 - r 10 ∧
  (∀ k : Int, 0 ≤ k → k < 8 → (0 ≤ r (112 + 3 * k) ∧ r (112 + 3 * k) ≤ B) ∧ (0 ≤ r (113 + 3 * k) ∧ r (113 + 3 * k) ≤ B + 50) ∧ (0 ≤ r (114 + 3 * k) ∧ r (114 + 3 * k) ≤ 99)) ∧
  (∀ k : Int, 0 ≤ k → k < r 4 → (r 0 < r (113 + 3 * k) ∧ r (113 + 3 * k) ≤ r 0 + 50) ∧ r (112 + 3 * k) < r 5) ∧ ∀ k l : Int, 0 ≤ k → k < l → l < r 4 → r (112 + 3 * k) < r (112 + 3 * l)
def sg_ (r : rw_t) (u : Int) : rw_t := if u ≤ r 1 then up_ (up_ (up_ r 1 (r 1 - u)) 9 (r 9 + u)) 6 (r 6 + 1) else up_ r 7 (r 7 + 1)
def rv_ (r : rw_t) (due u : Int) : rw_t := up_ (up_ (up_ (up_ (up_ r (112 + 3 * r 4) (r 5)) (113 + 3 * r 4) due) (114 + 3 * r 4) u) 4 (r 4 + 1)) 5 (r 5 + 1)
def rs_ (r : rw_t) (c : Int) : rw_t := up_ (up_ r 1 (r 1 - c)) 10 (r 10 + c)
/-- what is left on a day -/
def sp_ (r : rw_t) (due : Int) : Int := r 1 + r 2 * (due - r 0) - sm_ (fun k => if r (113 + 3 * k) ≤ due then r (114 + 3 * k) else 0) (r 4).toNat
section TRE
variable {g : bc_C} {d : Nat} {σ : bc_M} {r : rw_t} {B : Int} {Rr : Option bc_A → bc_M → Prop} {X : Nat → bc_M → Prop}
theorem t_X8_accountedSteel (hS : st_T σ 1 r) (hW : wf_T B r) (h : Rr (some (bc_I (r 1))) σ) : bc_Sem g (d + 1) mX8_accountedSteel [bc_R 11] σ Rr X := by
  obtain ⟨⟨f0, f1, f2, f3, f4, f5, f6, f7, f8, f9⟩, f⟩ := st_T1 hS
  obtain ⟨l0, l1, l2, l3, l4, l5, l6, l7, l8, l9⟩ := st_T2 hS
  have w := hW.2.2.2.2.2.2.2.2.2.2.2.1
  refine e_X8_accountedSteel rfl (fun K hK => ?_)
  refine hK.1 [] 60 _ _ _ _ _ ?_
  exact rt_ h (by omega)
theorem t_X8_isDueDayAllowed {a : Int} (hS : st_T σ 1 r) (hW : wf_T B r) (hB : B ≤ 1000000) (ha : bc_in a) (h : Rr (some (bc_I (if r 0 < a ∧ a ≤ r 0 + 50 then 1 else 0))) σ) : bc_Sem g (d + 1) mX8_isDueDayAllowed [bc_R 11, bc_I a] σ Rr X := by
  obtain ⟨⟨f0, f1, f2, f3, f4, f5, f6, f7, f8, f9⟩, f⟩ := st_T1 hS
  obtain ⟨l0, l1, l2, l3, l4, l5, l6, l7, l8, l9⟩ := st_T2 hS
  have w := hW.1
  refine e_X8_isDueDayAllowed rfl (fun K hK => ?_)
  refine hK.1 [] 60 _ _ _ _ _ ?_
  repeat' first | refine bc_br_i (fun _ => ?_) (fun _ => ?_) | refine bc_ob_i (by omega) ?_
  all_goals first | (exfalso; omega) | exact rt_ h (by split <;> omega)
theorem t_X8_heatForge {a : Int} (hS : st_T σ 1 r) (h : ∀ σ' : bc_M, st_T σ' 1 (up_ r 2 a) → fr_ (fun k => 11 ≤ k ∧ k ≤ 14) σ σ' → Rr (some (bc_I (r 2))) σ') : bc_Sem g (d + 1) mX8_heatForge [bc_R 11, bc_I a] σ Rr X := by
  obtain ⟨⟨f0, f1, f2, f3, f4, f5, f6, f7, f8, f9⟩, f⟩ := st_T1 hS
  obtain ⟨l0, l1, l2, l3, l4, l5, l6, l7, l8, l9⟩ := st_T2 hS
  refine e_X8_heatForge rfl (fun K hK => ?_)
  refine hK.1 [] 60 _ _ _ _ _ ?_
  refine rt_ (h _ ?_ ?_) f2
  · refine ⟨?_, fun k k0 k1 => ?_⟩
    · simp only [bc_wr, up_]
      simp
      exact ⟨l0, l1, l3, l4, l5, l6, l7, l8, l9⟩
    · obtain ⟨q1, q2, q3⟩ := f k k0 k1
      refine ⟨?_, ?_, ?_⟩ <;> simp only [bc_wr, up_] <;> simp <;> (repeat' split) <;> omega
  · repeat (first | exact fr_refl _ | refine fr_trans ?_ (fr_wr (by omega)))
theorem t_X8_payRepair {a : Int} (hS : st_T σ 1 r) (h : ∀ σ' : bc_M, st_T σ' 1 (rs_ r a) → fr_ (fun k => 11 ≤ k ∧ k ≤ 14) σ σ' → Rr none σ') : bc_Sem g (d + 1) mX8_payRepair [bc_R 11, bc_I a] σ Rr X := by
  obtain ⟨⟨f0, f1, f2, f3, f4, f5, f6, f7, f8, f9⟩, f⟩ := st_T1 hS
  obtain ⟨l0, l1, l2, l3, l4, l5, l6, l7, l8, l9⟩ := st_T2 hS
  refine e_X8_payRepair rfl (fun K hK => ?_)
  refine hK.1 [] 60 _ _ _ _ _ ?_
  refine h _ ?_ ?_
  · refine ⟨?_, fun k k0 k1 => ?_⟩
    · simp only [bc_wr, rs_, up_]
      simp
      exact ⟨l0, by rw [l1], l2, l3, l4, by rw [l5], l6, l7, l8, l9⟩
    · obtain ⟨q1, q2, q3⟩ := f k k0 k1
      refine ⟨?_, ?_, ?_⟩ <;> simp only [bc_wr, rs_, up_] <;> simp <;> (repeat' split) <;> omega
  · repeat (first | exact fr_refl _ | refine fr_trans ?_ (fr_wr (by omega)))
theorem t_X8_promise {a u : Int} (hS : st_T σ 1 r) (hW : wf_T B r) (hw : r 4 < 8) (h : ∀ σ' : bc_M, st_T σ' 1 (rv_ r a u) → fr_ (fun k => 11 ≤ k ∧ k ≤ 14) σ σ' → Rr (some (bc_I (r 5))) σ') : bc_Sem g (d + 1) mX8_promise [bc_R 11, bc_I a, bc_I u] σ Rr X := by
  obtain ⟨⟨f0, f1, f2, f3, f4, f5, f6, f7, f8, f9⟩, f⟩ := st_T1 hS
  obtain ⟨l0, l1, l2, l3, l4, l5, l6, l7, l8, l9⟩ := st_T2 hS
  have w := hW.2.2.2.1
  refine e_X8_promise rfl (fun K hK => ?_)
  refine hK.1 [] 80 _ _ _ _ _ ?_
  refine bc_ob_i (by omega) ?_
  refine bc_br_i (fun c => ?_) (fun c => by omega)
  refine bc_ob_i (by omega) ?_
  refine bc_ob_i (by simp only [bc_wr]; simp; omega) ?_
  refine bc_ob_i (by simp only [bc_wr]; simp; omega) ?_
  refine rt_ (h _ ?_ ?_) f8
  · refine ⟨?_, fun k k0 k1 => ?_⟩
    · simp only [bc_wr, rv_, up_]
      simp [l8, l9]
      refine ⟨?_, ?_, ?_, ?_, ?_, ?_, ?_, ?_⟩ <;> (repeat' rw [if_neg (by omega)]) <;> assumption
    · obtain ⟨q1, q2, q3⟩ := f k k0 k1
      refine ⟨?_, ?_, ?_⟩ <;> simp only [bc_wr, rv_, up_] <;> simp [l8, l9] <;> (repeat' split) <;> omega
  · repeat (first | exact fr_refl _ | refine fr_trans ?_ (fr_wr (by omega)))
theorem t_X8_settle {u : Int} (hS : st_T σ 1 r) (hW : 0 ≤ r 1 ∧ r 1 ≤ 1000000000) (hu : bc_in u) (h : ∀ σ' : bc_M, st_T σ' 1 (sg_ r u) → fr_ (fun k => 11 ≤ k ∧ k ≤ 11) σ σ' → Rr none σ') : bc_Sem g (d + 1) mX8_settle [bc_R 11, bc_I u] σ Rr X := by
  obtain ⟨⟨f0, f1, f2, f3, f4, f5, f6, f7, f8, f9⟩, f⟩ := st_T1 hS
  obtain ⟨l0, l1, l2, l3, l4, l5, l6, l7, l8, l9⟩ := st_T2 hS
  refine e_X8_settle rfl (fun K hK => ?_)
  refine hK.1 [] 60 _ _ _ _ _ ?_
  refine bc_ob_i (by omega) ?_
  refine bc_br_i (fun c => ?_) (fun c => ?_)
  · refine h _ ?_ ?_
    · rw [show sg_ r u = up_ r 7 (r 7 + 1) from if_neg (by omega)]
      refine ⟨?_, fun k k0 k1 => ?_⟩
      · simp only [bc_wr, up_]
        simp
        exact ⟨l0, l1, l2, l3, l4, l5, l6, by rw [l7], l8, l9⟩
      · obtain ⟨q1, q2, q3⟩ := f k k0 k1
        refine ⟨?_, ?_, ?_⟩ <;> simp only [bc_wr, up_] <;> simp <;> (repeat' split) <;> omega
    · repeat (first | exact fr_refl _ | refine fr_trans ?_ (fr_wr (by omega)))
  · refine h _ ?_ ?_
    · rw [show sg_ r u = up_ (up_ (up_ r 1 (r 1 - u)) 9 (r 9 + u)) 6 (r 6 + 1) from if_pos (by omega)]
      refine ⟨?_, fun k k0 k1 => ?_⟩
      · simp only [bc_wr, up_]
        simp
        exact ⟨l0, by rw [l1], l2, l3, by rw [l4], l5, by rw [l6], l7, l8, l9⟩
      · obtain ⟨q1, q2, q3⟩ := f k k0 k1
        refine ⟨?_, ?_, ?_⟩ <;> simp only [bc_wr, up_] <;> simp <;> (repeat' split) <;> omega
    · repeat (first | exact fr_refl _ | refine fr_trans ?_ (fr_wr (by omega)))
end TRE
