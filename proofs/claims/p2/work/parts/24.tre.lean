theorem st_T_fr {P : Nat → Prop} {σ σ' : bc_M} {b : Nat} {r : rw_t} (h : st_T σ b r) (hf : fr_ P σ σ') (hp : ∀ k, b + 10 ≤ k → k ≤ b + 13 → ¬ P k) : st_T σ' b r := by
  unfold st_T
  rw [hf.1 (b + 10) (hp _ (by omega) (by omega)), hf.1 (b + 11) (hp _ (by omega) (by omega)), hf.1 (b + 12) (hp _ (by omega) (by omega)), hf.1 (b + 13) (hp _ (by omega) (by omega))]
  exact h
theorem st_N_fr {P : Nat → Prop} {σ σ' : bc_M} {b : Nat} {r : rw_t} (h : st_N σ b r) (hf : fr_ P σ σ') (hp : ∀ k, b + 8 ≤ k → k ≤ b + 9 → ¬ P k) : st_N σ' b r := by
  unfold st_N
  rw [hf.1 (b + 8) (hp _ (by omega) (by omega)), hf.1 (b + 9) (hp _ (by omega) (by omega))]
  exact h
theorem st_M_fr {P : Nat → Prop} {σ σ' : bc_M} {b : Nat} {r : rw_t} (h : st_M σ b r) (hf : fr_ P σ σ') (hp : ∀ k, b + 1 ≤ k → k ≤ b + 7 → ¬ P k) : st_M σ' b r := by
  unfold st_M
  rw [hf.1 (b + 1) (hp _ (by omega) (by omega)), hf.1 (b + 2) (hp _ (by omega) (by omega)), hf.1 (b + 3) (hp _ (by omega) (by omega)), hf.1 (b + 4) (hp _ (by omega) (by omega)), hf.1 (b + 5) (hp _ (by omega) (by omega)), hf.1 (b + 6) (hp _ (by omega) (by omega)), hf.1 (b + 7) (hp _ (by omega) (by omega))]
  exact h
section TRE2
variable {g : bc_C} {d : Nat} {σ : bc_M} {r : rw_t} {B : Int} {Rr : Option bc_A → bc_M → Prop} {X : Nat → bc_M → Prop}
theorem st_T_move {σ : bc_M} {p : rw_t} {s i x1 x2 x3 : Int} (hS : st_T σ 1 p) (s0 : 0 ≤ s) (s1 : s ≤ i) (i1 : i < 8) (h1 : x1 = p (112 + 3 * i)) (h2 : x2 = p (113 + 3 * i)) (h3 : x3 = p (114 + 3 * i)) : st_T (bc_wr (bc_wr (bc_wr σ 12 s x1) 13 s x2) 14 s x3) 1 (up_ (up_ (up_ p (112 + 3 * s) (p (112 + 3 * i))) (113 + 3 * s) (p (113 + 3 * i))) (114 + 3 * s) (p (114 + 3 * i))) := by
  subst h1 h2 h3
  obtain ⟨l0, l1, l2, l3, l4, l5, l6, l7, l8, l9⟩ := st_T2 hS
  obtain ⟨-, f⟩ := st_T1 hS
  refine ⟨?_, fun k k0 k1 => ?_⟩
  · simp only [bc_wr, up_]
    simp
    refine ⟨?_, ?_, ?_, ?_, ?_, ?_, ?_, ?_, ?_, ?_⟩ <;> (repeat' rw [if_neg (by omega)]) <;> assumption
  · obtain ⟨q1, q2, q3⟩ := f k k0 k1
    refine ⟨?_, ?_, ?_⟩ <;> simp only [bc_wr, up_] <;> simp <;> (repeat' split) <;> first | omega | (exfalso; omega)
theorem t_X8_settleDueVows (hS : st_T σ 1 r) (hW : wd_ B r) (hB : B ≤ 1000000) (h : ∀ σ' : bc_M, st_T σ' 1 (vd_ r) → fr_ (fun k => 11 ≤ k ∧ k ≤ 14) σ σ' → Rr none σ') : bc_Sem g (d + 2) mX8_settleDueVows [bc_R 11] σ Rr X := by
  have w3 := hW.2.2.2.1
  have w1 := hW.2.1
  have w11 := hW.2.2.2.2.2.2.2.2.2.2.2.1
  have w8 := hW.2.2.2.2.2.2.2.2.1
  have w9 := hW.2.2.2.2.2.2.2.2.2.1
  have w10 := hW.2.2.2.2.2.2.2.2.2.2.1
  have w0 := hW.1
  have e4 : ((r 4).toNat : Int) = r 4 := Int.toNat_of_nonneg w3.1
  refine e_X8_settleDueVows rfl (fun K hK => ?_)
  have L : ∀ (k n : Nat) (σ' : bc_M), k + n = (r 4).toNat → st_T σ' 1 (vf_ r n).1 → fr_ (fun k => 11 ≤ k ∧ k ≤ 14) σ σ' → K 4 [(0, bc_R 11), (1, bc_I (vf_ r n).2), (2, bc_I (n : Int))] [] σ' 0 := by
    intro k
    induction k with
    | zero =>
      intro n σ' hn hS' hF
      obtain ⟨a1, ⟨b0, b2, b3, b4, b5, b8, b10⟩, c1, c2, c3, c4, c5, c6, f1, f2, f3, f4, f5⟩ := wv_n hW n (by omega)
      obtain ⟨⟨x0, x1, x2, x3, x4, x5, x6, x7, x8, x9⟩, x⟩ := st_T1 hS'
      obtain ⟨l0, l1, l2, l3, l4, l5, l6, l7, l8, l9⟩ := st_T2 hS'
      refine hK.1 [4] 60 _ _ _ _ _ ?_
      refine bc_ob_i (by omega) ?_
      refine bc_br_i (fun c => by omega) (fun c => ?_)
      have en : n = (r 4).toNat := by omega
      refine h _ ?_ (fr_trans hF (fr_wr (by omega)))
      unfold vd_
      rw [← en]
      refine ⟨?_, fun k k0 k1 => ?_⟩
      · simp only [bc_wr, up_]
        simp
        exact ⟨l0, l1, l2, l3, l4, l5, l6, l7, l8⟩
      · obtain ⟨q1, q2, q3⟩ := x k k0 k1
        refine ⟨?_, ?_, ?_⟩ <;> simp only [bc_wr, up_] <;> simp <;> (repeat' split) <;> omega
    | succ k ih =>
      intro n σ' hn hS' hF
      obtain ⟨a1, ⟨b0, b2, b3, b4, b5, b8, b10⟩, c1, c2, c3, c4, c5, c6, f1, f2, f3, f4, f5⟩ := wv_n hW n (by omega)
      obtain ⟨⟨x0, x1, x2, x3, x4, x5, x6, x7, x8, x9⟩, x⟩ := st_T1 hS'
      obtain ⟨y1, y2, y3⟩ := x n (by omega) (by omega)
      obtain ⟨z1, z2, z3⟩ := f1 n (by omega) (by omega)
      have ihn := ih (n + 1)
      have e1 : ((n + 1 : Nat) : Int) = (n : Int) + 1 := by omega
      rw [e1] at ihn
      refine hK.1 [4] 80 _ _ _ _ _ ?_
      refine bc_ob_i (by omega) ?_
      refine bc_br_i (fun c => ?_) (fun c => by omega)
      refine bc_ob_i (by omega) ?_
      refine bc_ob_i (by omega) ?_
      refine bc_br_i (fun c => ?_) (fun c => ?_)
      · have hv : vf_ r (n + 1) = (up_ (up_ (up_ (vf_ r n).1 (112 + 3 * (vf_ r n).2) ((vf_ r n).1 (112 + 3 * (n : Int)))) (113 + 3 * (vf_ r n).2) ((vf_ r n).1 (113 + 3 * (n : Int)))) (114 + 3 * (vf_ r n).2) ((vf_ r n).1 (114 + 3 * (n : Int))), (vf_ r n).2 + 1) := if_neg (by omega)
        rw [hv] at ihn
        refine bc_ob_i (by omega) ?_
        refine bc_ob_i (by omega) ?_
        refine bc_ob_i (by omega) ?_
        refine bc_ob_i (by omega) ?_
        refine bc_ob_i (by omega) ?_
        refine bc_ob_i (by omega) ?_
        refine ihn _ (by omega) ?_ ?_
        · exact st_T_move hS' a1.1 a1.2 (by omega) y1 y2 y3
        · exact fr_trans hF (fr_trans (fr_trans (fr_trans (fr_refl _) (fr_wr (by omega))) (fr_wr (by omega))) (fr_wr (by omega)))
      · have hv : vf_ r (n + 1) = (sg_ (vf_ r n).1 ((vf_ r n).1 (114 + 3 * (n : Int))), (vf_ r n).2) := if_pos (by omega)
        rw [hv] at ihn
        refine bc_ob_i (by omega) ?_
        refine t_X8_settle (u := σ'.1 14 (n : Int)) hS' (by omega) (by omega) (fun σ2 hS2 hF2 => ?_)
        refine ihn σ2 (by omega) ?_ (fr_trans hF (fr_mono hF2 (fun k hk => by omega)))
        rw [y3] at hS2
        exact hS2
  refine hK.1 [4] 40 _ _ _ _ _ ?_
  exact L (r 4).toNat 0 σ (by omega) hS (fr_refl _)
end TRE2
