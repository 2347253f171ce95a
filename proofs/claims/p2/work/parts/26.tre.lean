/-- whether one waiting vow stands ahead of another -/
def vb_ (r : rw_t) (a b : Int) : Int := if r (113 + 3 * a) < r (113 + 3 * b) then 1 else if r (113 + 3 * a) = r (113 + 3 * b) then (if r (112 + 3 * a) < r (112 + 3 * b) then 1 else 0) else 0
theorem vb_01 (r : rw_t) (a b : Int) : 0 ≤ vb_ r a b ∧ vb_ r a b ≤ 1 := by unfold vb_; (repeat' split) <;> omega
def vk_r (r : rw_t) (m : Int) : Int := sm_ (fun k => vb_ r k m) (r 4).toNat
theorem vk_le {r : rw_t} (h : 0 ≤ r 4 ∧ r 4 ≤ 8) (m : Int) : 0 ≤ vk_r r m ∧ vk_r r m ≤ 8 := by
  have := sm_le (f := fun k => vb_ r k m) (A := 0) (B := 1) h.1 (fun k _ _ => vb_01 r k m)
  unfold vk_r
  omega
section TRE4
variable {g : bc_C} {d : Nat} {σ : bc_M} {r : rw_t} {B : Int} {Rr : Option bc_A → bc_M → Prop} {X : Nat → bc_M → Prop}
theorem t_X8_rankOfSlot {m : Int} (hS : st_T σ 1 r) (hW : wf_T B r) (hB : B ≤ 1000000) (m0 : 0 ≤ m) (m1 : m < 8) (h : Rr (some (bc_I (vk_r r m))) σ) : bc_Sem g (d + 1) mX8_rankOfSlot [bc_R 11, bc_I m] σ Rr X := by
  obtain ⟨⟨f0, f1, f2, f3, f4, f5, f6, f7, f8, f9⟩, f⟩ := st_T1 hS
  have w := wt_le hW
  have w12 := hW.2.2.2.2.2.2.2.2.2.2.2.2.1
  obtain ⟨p1, p2, p3⟩ := f m m0 m1
  have w3 := w12 m m0 m1
  refine e_X8_rankOfSlot rfl (fun K hK => ?_)
  have L : ∀ i : Int, ∀ s : Int, ∀ z : bc_LV, 0 ≤ i → i ≤ r 4 → s = sm_ (fun k => vb_ r k m) i.toNat → K 4 [(0, bc_R 11), (1, bc_I m), (2, bc_I s), (3, bc_I i)] [] σ 0 := by
    refine up_ind (r 4) (fun i hi s z h0 h1 h3 => ?_) (fun i hi ih s z h0 h1 h3 => ?_)
    · refine hK.1 [4] 60 _ _ _ _ _ ?_
      refine bc_ob_i (by omega) ?_
      refine bc_br_i (fun c => by omega) (fun c => ?_)
      have e : i = r 4 := by omega
      rw [h3, e]
      exact h
    · obtain ⟨q1, q2, q3⟩ := f i h0 (by omega)
      have w2 := w12 i h0 (by omega)
      have es := sm_s (f := fun k => vb_ r k m) h0
      have hb := sm_le (f := fun k => vb_ r k m) (A := 0) (B := 1) h0 (fun k _ _ => vb_01 r k m)
      have nxt : ∀ s' t, s' = s + vb_ r i m → K 4 [(0, bc_R 11), (1, bc_I m), (2, bc_I s'), (3, bc_I (i + 1)), (4, bc_I t)] [] σ 0 := fun s' t e => hK.2 4 _ [(0, bc_R 11), (1, bc_I m), (2, bc_I s'), (3, bc_I (i + 1))] _ _ _ (by intro q hq; simp at hq ⊢; rcases hq with hq | hq | hq | hq <;> simp [hq]) (ih s' z (by omega) (by omega) (by rw [es, e, h3]))
      refine hK.1 [4] 60 _ _ _ _ _ ?_
      repeat' first | refine bc_br_i (fun _ => ?_) (fun _ => ?_) | refine bc_ob_i (by omega) ?_
      all_goals first | (exfalso; omega) | exact nxt _ _ (by unfold vb_; (repeat' split) <;> omega)
  refine hK.1 [4] 40 _ _ _ _ _ ?_
  exact L 0 0 [] (by omega) (by omega) rfl
theorem t_X8_slotAtRank {q : Int} (hS : st_T σ 1 r) (hW : wf_T B r) (hB : B ≤ 1000000) (hq : bc_in q) (h : ∀ v : Int, (0 ≤ v ∧ v < r 4 ∧ vk_r r v = q) ∨ (v = -1 ∧ ∀ k : Int, 0 ≤ k → k < r 4 → vk_r r k ≠ q) → Rr (some (bc_I v)) σ) : bc_Sem g (d + 2) mX8_slotAtRank [bc_R 11, bc_I q] σ Rr X := by
  obtain ⟨⟨f0, f1, f2, f3, f4, f5, f6, f7, f8, f9⟩, f⟩ := st_T1 hS
  have w := wt_le hW
  obtain ⟨ha0, ha1⟩ := hq
  refine e_X8_slotAtRank rfl (fun K hK => ?_)
  have L : ∀ i : Int, 0 ≤ i → i ≤ r 4 → (∀ k : Int, 0 ≤ k → k < i → vk_r r k ≠ q) → K 2 [(0, bc_R 11), (1, bc_I q), (2, bc_I i)] [] σ 0 := by
    refine up_ind (r 4) (fun i hi h0 h1 h3 => ?_) (fun i hi ih h0 h1 h3 => ?_)
    · refine hK.1 [2] 60 _ _ _ _ _ ?_
      refine bc_ob_i (by omega) ?_
      refine bc_br_i (fun c => by omega) (fun c => ?_)
      exact h (-1) (Or.inr ⟨rfl, fun k k0 k1 => h3 k k0 (by omega)⟩)
    · have hv := vk_le w.2.2.2.1 i
      refine hK.1 [2] 60 _ _ _ _ _ ?_
      refine bc_ob_i (by omega) ?_
      refine bc_br_i (fun c => ?_) (fun c => by omega)
      refine t_X8_rankOfSlot hS hW hB h0 (by omega) ?_
      refine bc_ob_i (by omega) ?_
      refine bc_br_i (fun c => ?_) (fun c => ?_)
      · exact h i (Or.inl ⟨h0, by omega, c⟩)
      · exact ih (by omega) (by omega) (fun k k0 k1 => by
          by_cases hk : k = i
          · rw [hk]; omega
          · exact h3 k k0 (by omega))
  refine hK.1 [2] 40 _ _ _ _ _ ?_
  exact L 0 (by omega) (by omega) (fun k k0 k1 => by omega)
theorem t_X8_pass {n : Int} (hS : st_T σ 1 r) (hW : wf_T B r) (hB : B + n ≤ 1000000) (n0 : 0 ≤ n) (n1 : n ≤ 1000) (h : ∀ σ' : bc_M, st_T σ' 1 (ps_ r n.toNat) → fr_ (fun k => 11 ≤ k ∧ k ≤ 14) σ σ' → Rr (some (bc_I (ps_ r n.toNat 6 - r 6))) σ') : bc_Sem g (d + 3) mX8_pass [bc_R 11, bc_I n] σ Rr X := by
  obtain ⟨⟨f0, f1, f2, f3, f4, f5, f6, f7, f8, f9⟩, f⟩ := st_T1 hS
  have w := wt_le hW
  refine e_X8_pass rfl (fun K hK => ?_)
  have L : ∀ i : Int, ∀ σ' : bc_M, 0 ≤ i → i ≤ n → st_T σ' 1 (ps_ r i.toNat) → fr_ (fun k => 11 ≤ k ∧ k ≤ 14) σ σ' → K 7 [(0, bc_R 11), (1, bc_I n), (2, bc_I (r 6)), (3, bc_I i)] [] σ' 0 := by
    refine up_ind n (fun i hi σ' h0 h1 h2 h3 => ?_) (fun i hi ih σ' h0 h1 h2 h3 => ?_)
    · obtain ⟨⟨x0, x1, x2, x3, x4, x5, x6, x7, x8, x9⟩, x⟩ := st_T1 h2
      refine hK.1 [7] 60 _ _ _ _ _ ?_
      refine bc_ob_i (by omega) ?_
      refine bc_br_i (fun c => by omega) (fun c => ?_)
      have e : i = n := by omega
      subst e
      exact rt_ (h σ' h2 h3) (by omega)
    · obtain ⟨⟨x0, x1, x2, x3, x4, x5, x6, x7, x8, x9⟩, x⟩ := st_T1 h2
      obtain ⟨l0, l1, l2, l3, l4, l5, l6, l7, l8, l9⟩ := st_T2 h2
      have hwi := (ps_wf hW i.toNat).1
      have ei : ((i.toNat : Nat) : Int) = i := Int.toNat_of_nonneg h0
      have e1 : (i + 1).toNat = i.toNat + 1 := by omega
      have ep : ps_ r (i + 1).toNat = vd_ (pi_ (ps_ r i.toNat)) := by rw [e1]; rfl
      refine hK.1 [7] 60 _ _ _ _ _ ?_
      refine bc_ob_i (by omega) ?_
      refine bc_br_i (fun c => ?_) (fun c => by omega)
      refine t_X8_settleDueVows (B := B + (i.toNat : Int) + 1) (r := pi_ (ps_ r i.toNat)) ?_ (pi_wd hwi) (by omega) (fun σ2 hS2 hF2 => ?_)
      · refine ⟨?_, fun k k0 k1 => ?_⟩
        · simp only [bc_wr, pi_, up_]
          simp
          exact ⟨by rw [l0], by rw [l1, l2], l2, by rw [l3, l2], l4, l5, l6, l7, l8, l9⟩
        · obtain ⟨q1, q2, q3⟩ := x k k0 k1
          refine ⟨?_, ?_, ?_⟩ <;> simp only [bc_wr, pi_, up_] <;> simp <;> (repeat' rw [if_neg (by omega)]) <;> assumption
      · refine ih σ2 (by omega) (by omega) (by rw [ep]; exact hS2) (fr_trans (fr_trans (fr_trans (fr_trans h3 (fr_wr (by omega))) (fr_wr (by omega))) (fr_wr (by omega))) hF2)
  refine hK.1 [7] 40 _ _ _ _ _ ?_
  have L0 := L 0 σ (by omega) (by omega) hS (fr_refl _)
  rw [← f6] at L0
  exact L0
end TRE4
