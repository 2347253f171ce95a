/-! the repair plan's two ways -/
abbrev ry_ (k : Nat) : Prop := k = 175 ∨ k = 184 ∨ k = 185
section REP
variable {g : bc_C} {d : Nat} {σ : bc_M} {r : rw_t} {Rr : Option bc_A → bc_M → Prop} {X : Nat → bc_M → Prop} {f : gr_t}
theorem iw_le (r : rw_t) (l : Int) : 0 ≤ iw_ r l ∧ iw_ r l ≤ 1 := by
  unfold iw_ iq_
  refine fo_inv (n := (r 3).toNat) (P := fun e : Int => 0 ≤ e ∧ e ≤ 1) (by decide) (fun i e _ _ _ => ?_) _ (Nat.le_refl _)
  split <;> omega
theorem dc_le {a b : Int} (lf : gl_ f 1000000) (b0 : 0 ≤ b) (b1 : b < 8) : 0 ≤ dc_ f a b ∧ dc_ f a b ≤ 1000000 := (dk_le lf 8).1 b b0 b1
theorem t_X4_loadByWays {s a b : Int} (hS : st_M σ 1 r) (hW : wf_M r) (hs : bc_in s) (a0 : 0 ≤ a) (a1 : a < 8) (b0 : 0 ≤ b) (b1 : b < 8) (h : ∀ σ' : bc_M, fr_ ry_ σ σ' → Rr (some (bc_I (la_ r s a b 99))) σ') : bc_Sem g (d + 4) mX4_loadByWays [bc_R 174, bc_R 2, bc_I s, bc_I a, bc_I b] σ Rr X := by
  refine e_X4_loadByWays rfl (fun K hK => ?_)
  have L : ∀ n : Nat, n ≤ 99 → ∀ σ' : bc_M, la_ r s a b 99 = la_ r s a b n → fr_ ry_ σ σ' → K 4 [(0, bc_R 174), (1, bc_R 2), (2, bc_I s), (3, bc_I a), (4, bc_I b), (5, bc_I n)] [] σ' 0 := by
    intro n
    induction n with
    | zero =>
      intro hn σ' h1 h2
      refine hK.1 [4] 60 _ _ _ _ _ ?_
      refine bc_ob_i (by decide) ?_
      refine bc_br_i (fun c => ?_) (fun c => absurd (by decide) c)
      exact rt_ (h σ' h2) (by rw [h1]; rfl)
    | succ n ih =>
      intro hn σ' h1 h2
      have hM := st_M_fr hS h2 (by omega)
      have li := iw_le r ((n + 1 : Nat) : Int)
      have en : ((n + 1 : Nat) : Int) + -1 = (n : Int) := by omega
      have skip : ¬ (iw_ r ((n + 1 : Nat) : Int) = 1 ∧ dc_ (pr_ r ((n + 1 : Nat) : Int)) a b ≤ s) → ∀ σ'', fr_ ry_ σ' σ'' → K 4 [(0, bc_R 174), (1, bc_R 2), (2, bc_I s), (3, bc_I a), (4, bc_I b), (5, bc_I (((n + 1 : Nat) : Int) + -1))] [] σ'' 0 := by
        intro q σ'' hf
        rw [en]
        refine ih (by omega) σ'' ?_ (fr_trans h2 hf)
        rw [h1]
        exact if_neg q
      refine hK.1 [4] 60 _ _ _ _ _ ?_
      refine bc_ob_i (by omega) ?_
      refine bc_br_i (fun c => by omega) (fun c => ?_)
      refine t_X4_isWorthTrying hM hW (by constructor <;> omega) ?_
      refine bc_ob_i (by omega) ?_
      refine bc_br_i (fun c => ?_) (fun c => ?_)
      · exact skip (by omega) σ' (fr_refl _)
      · refine t_X4_setPrices hM hW (by constructor <;> omega) (fun σ1 p1 f1 => ?_)
        have lp := pr_le hW (l := ((n + 1 : Nat) : Int))
        have ld := dc_le (a := a) lp b0 b1
        refine t_X4_cheapestWay p1 lp a0 a1 b0 b1 (fun σ2 f2 => ?_)
        have F : fr_ ry_ σ' σ2 := fr_trans (fr_mono f1 (by omega)) (fr_mono f2 (by omega))
        refine bc_ob_i ⟨by omega, hs⟩ ?_
        refine bc_br_i (fun c => ?_) (fun c => ?_)
        · exact skip (by omega) σ2 F
        · refine rt_ (h σ2 (fr_trans h2 F)) ?_
          rw [h1]
          exact (if_pos ⟨by omega, by omega⟩).symm
  refine hK.1 [4] 40 _ _ _ _ _ ?_
  exact L 99 (Nat.le_refl _) σ rfl (fr_refl _)
theorem t_X4_fillTable {s : Int} (hS : st_M σ 1 r) (hW : wf_M r) (hs : bc_in s) (h : ∀ σ' : bc_M, sv_ σ' 186 (tb_ r s) → gl_ (tb_ r s) 99 → fr_ rx_ σ σ' → Rr none σ') : bc_Sem g (d + 4) mX4_fillTable [bc_R 174, bc_R 2, bc_I s] σ Rr X := by
  refine e_X4_fillTable rfl (fun K hK => ?_)
  have L : ∀ n : Nat, n ≤ 99 → ∀ (σ' : bc_M) (t : gr_t), tb_ r s = tl_ r s n t → sv_ σ' 186 t → gl_ t 99 → fr_ rx_ σ σ' → K 43 [(0, bc_R 174), (1, bc_R 2), (2, bc_I s), (3, bc_I n)] [] σ' 0 := by
    intro n
    induction n with
    | zero =>
      intro hn σ' t h1 h2 h3 h4
      refine hK.1 [43] 60 _ _ _ _ _ ?_
      refine bc_ob_i (by decide) ?_
      refine bc_br_i (fun c => ?_) (fun c => absurd (by decide) c)
      have e : tb_ r s = t := h1
      rw [← e] at h2 h3
      exact h σ' h2 h3 h4
    | succ n ih =>
      intro hn σ' t h1 h2 h3 h4
      have hM := st_M_fr hS h4 (by omega)
      have li := iw_le r ((n + 1 : Nat) : Int)
      have en : ((n + 1 : Nat) : Int) + -1 = (n : Int) := by omega
      have nxt : ∀ σ'', sv_ σ'' 186 (ta1_ r s ((n + 1 : Nat) : Int) t) → gl_ (ta1_ r s ((n + 1 : Nat) : Int) t) 99 → fr_ rx_ σ' σ'' → K 43 [(0, bc_R 174), (1, bc_R 2), (2, bc_I s), (3, bc_I (((n + 1 : Nat) : Int) + -1))] [] σ'' 0 := by
        intro σ'' p1 p2 hf
        rw [en]
        exact ih (by omega) σ'' _ (by rw [h1]; rfl) p1 p2 (fr_trans h4 hf)
      refine hK.1 [43] 60 _ _ _ _ _ ?_
      refine bc_ob_i (by omega) ?_
      refine bc_br_i (fun c => by omega) (fun c => ?_)
      refine t_X4_isWorthTrying hM hW (by constructor <;> omega) ?_
      refine bc_ob_i (by omega) ?_
      refine bc_br_i (fun c => ?_) (fun c => ?_)
      · have e : ta1_ r s ((n + 1 : Nat) : Int) t = t := if_neg (by omega)
        rw [e] at nxt
        exact nxt σ' h2 h3 (fr_refl _)
      · have e : ta1_ r s ((n + 1 : Nat) : Int) t = na_ (fc_ (pr_ r ((n + 1 : Nat) : Int))) ((n + 1 : Nat) : Int) s t 8 := if_pos (by omega)
        rw [e] at nxt
        refine t_X4_setPrices hM hW (by constructor <;> omega) (fun σ1 p1 f1 => ?_)
        have lp := pr_le hW (l := ((n + 1 : Nat) : Int))
        refine t_X4_closePrices p1 lp (fun σ2 p2 f2 => ?_)
        have lc : gl_ (fc_ (pr_ r ((n + 1 : Nat) : Int))) 1000000 := fr3_le lp 8 (Nat.le_refl _)
        refine t_X4_noteAffordable p2 lc (sv_fr (sv_fr h2 f1 (by decide)) f2 (by decide)) h3 (by omega) hs (fun σ3 p3 f3 => ?_)
        exact nxt σ3 p3 (na_le h3 (by omega) 8) (fr_trans (fr_mono f1 (by omega)) (fr_trans (fr_mono f2 (by omega)) (fr_mono f3 (by omega))))
  have L1 : ∀ i : Int, ∀ σ' : bc_M, 0 ≤ i → i ≤ 8 → (∀ a b : Int, 0 ≤ a → a < i → 0 ≤ b → b < 8 → σ'.1 186 (((8 : Nat) : Int) * a + b) = 0) → fr_ rx_ σ σ' → K 2 [(0, bc_R 174), (1, bc_R 2), (2, bc_I s), (3, bc_I i)] [] σ' 0 := by
    refine up_ind 8 (fun i hi σ' h0 h1 h2 h3 => ?_) (fun i hi ih σ' h0 h1 h2 h3 => ?_)
    · refine hK.1 [2, 43] 60 _ _ _ _ _ ?_
      refine bc_ob_i (by omega) ?_
      refine bc_br_i (fun c => by omega) (fun c => ?_)
      exact L 99 (Nat.le_refl _) _ (fun _ _ => 0) rfl (fun a b a0 a1 b0 b1 => h2 a b a0 (by omega) b0 b1) (fun a b _ _ _ _ => by simp) h3
    · have L0 : ∀ j : Int, ∀ σ' : bc_M, 0 ≤ j → j ≤ 8 → (∀ a b : Int, 0 ≤ a → a < i → 0 ≤ b → b < 8 → σ'.1 186 (((8 : Nat) : Int) * a + b) = 0) → (∀ b : Int, 0 ≤ b → b < j → σ'.1 186 (((8 : Nat) : Int) * i + b) = 0) → fr_ rx_ σ σ' → K 11 [(0, bc_R 174), (1, bc_R 2), (2, bc_I s), (3, bc_I i), (4, bc_I j)] [] σ' 0 := by
        refine up_ind 8 (fun j hj σ' j0 j1 j2 j3 j4 => ?_) (fun j hj jh σ' j0 j1 j2 j3 j4 => ?_)
        · refine hK.1 [2, 11] 60 _ _ _ _ _ ?_
          refine bc_ob_i (by omega) ?_
          refine bc_br_i (fun c => by omega) (fun c => ?_)
          refine hK.2 _ _ [(0, bc_R 174), (1, bc_R 2), (2, bc_I s), (3, bc_I (i + 1))] _ _ _ (ls_ _ _) ?_
          refine ih _ (by omega) (by omega) (fun a b a0 a1 b0 b1 => ?_) j4
          by_cases e : a = i
          · rw [e]; exact j3 b b0 (by omega)
          · exact j2 a b a0 (by omega) b0 b1
        · refine hK.1 [2, 11] 60 _ _ _ _ _ ?_
          refine bc_ob_i (by omega) ?_
          refine bc_br_i (fun c => ?_) (fun c => by omega)
          refine bc_ob_i (by omega) ?_
          refine bc_ob_i (by omega) ?_
          refine jh _ (by omega) (by omega) (fun a b a0 a1 b0 b1 => ?_) (fun b b0 b1 => ?_) (fr_trans j4 (fr_wr (by omega)))
          · have := j2 a b a0 a1 b0 b1
            simp only [bc_wr, if_true]
            split
            · rfl
            · exact this
          · simp only [bc_wr, if_true]
            by_cases e : b = j
            · rw [e]; simp
            · rw [if_neg (by omega)]
              exact j3 b b0 (by omega)
      refine hK.1 [2, 11] 60 _ _ _ _ _ ?_
      refine bc_ob_i (by omega) ?_
      refine bc_br_i (fun c => ?_) (fun c => by omega)
      exact L0 0 _ (by omega) (by omega) h2 (fun b b0 b1 => by omega) h3
  refine hK.1 [2] 40 _ _ _ _ _ ?_
  exact L1 0 _ (by omega) (by omega) (fun a b a0 a1 b0 b1 => by omega) (fr_refl _)
end REP
