section
/-! copies: the pairs that occur -/
noncomputable def cp_ (a b : Nat) : Prop := (a = 15 ∧ b = 1) ∨ (a = 1 ∧ b = 15) ∨ (a = 29 ∧ b = 1) ∨ (a = 1 ∧ b = 29) ∨ (a = 45 ∧ b = 1) ∨ (a = 59 ∧ b = 1) ∨ (a = 73 ∧ b = 1) ∨ (a = 87 ∧ b = 1) ∨ (a = 101 ∧ b = 1) ∨ (a = 115 ∧ b = 1) ∨ (a = 129 ∧ b = 1) ∨ (a = 143 ∧ b = 1) ∨ (a = 45 ∧ b = 29) ∨ (a = 59 ∧ b = 29) ∨ (a = 73 ∧ b = 29) ∨ (a = 87 ∧ b = 29) ∨ (a = 101 ∧ b = 29) ∨ (a = 115 ∧ b = 29) ∨ (a = 129 ∧ b = 29) ∨ (a = 143 ∧ b = 29) ∨ (a = 1 ∧ b = 45) ∨ (a = 1 ∧ b = 59) ∨ (a = 1 ∧ b = 73) ∨ (a = 1 ∧ b = 87) ∨ (a = 1 ∧ b = 101) ∨ (a = 1 ∧ b = 115) ∨ (a = 1 ∧ b = 129) ∨ (a = 1 ∧ b = 143)
theorem cp_to {t : Nat} (h : t < 8) : cp_ (45 + 14 * t) 1 := by
  have : t = 0 ∨ t = 1 ∨ t = 2 ∨ t = 3 ∨ t = 4 ∨ t = 5 ∨ t = 6 ∨ t = 7 := by omega
  rcases this with rfl | rfl | rfl | rfl | rfl | rfl | rfl | rfl <;> (unfold cp_; decide)
theorem cp_to9 {t : Nat} (h : t < 8) : cp_ (45 + 14 * t) 29 := by
  have : t = 0 ∨ t = 1 ∨ t = 2 ∨ t = 3 ∨ t = 4 ∨ t = 5 ∨ t = 6 ∨ t = 7 := by omega
  rcases this with rfl | rfl | rfl | rfl | rfl | rfl | rfl | rfl <;> (unfold cp_; decide)
theorem cp_fr {t : Nat} (h : t < 8) : cp_ 1 (45 + 14 * t) := by
  have : t = 0 ∨ t = 1 ∨ t = 2 ∨ t = 3 ∨ t = 4 ∨ t = 5 ∨ t = 6 ∨ t = 7 := by omega
  rcases this with rfl | rfl | rfl | rfl | rfl | rfl | rfl | rfl <;> (unfold cp_; decide)
noncomputable def ct_ (i : Int) (a b : Nat) (σ σ' : bc_M) : Prop := (∀ k : Int, 0 ≤ k → k < i → σ'.1 (a + 7) k = σ.1 (b + 7) k) ∧ fr_ (fun k => k = a + 7) σ σ'
theorem cy_at {σ : bc_M} {s t : Nat} {n j : Int} (h : 0 ≤ j ∧ j < n) : (bc_cy σ s t 0 0 n).1 t j = σ.1 s j := by
  unfold bc_cy
  simp only [if_true]
  rw [if_pos (by omega), show (0 : Int) + (j - 0) = j by omega]
theorem lp_ {K : bc_KT} {u v : bc_A} {a b : Nat} {σ1 : bc_M} (_hc : cp_ a b) (base : ∀ i σ', i = 16 → ct_ 16 a b σ1 σ' → K 85 [(0, u), (1, v), (2, bc_I i)] [] σ' 0) (step : ∀ i σ', 0 ≤ i → i < 16 → ct_ i a b σ1 σ' → (∀ σ'', ct_ (i + 1) a b σ1 σ'' → K 85 [(0, u), (1, v), (2, bc_I (i + 1))] [] σ'' 0) → K 85 [(0, u), (1, v), (2, bc_I i)] [] σ' 0) : K 85 [(0, u), (1, v), (2, bc_I 0)] [] σ1 0 := by
  have L : ∀ i : Int, ∀ σ' : bc_M, 0 ≤ i → i ≤ 16 → ct_ i a b σ1 σ' → K 85 [(0, u), (1, v), (2, bc_I i)] [] σ' 0 := by
    refine up_ind 16 (fun i hi σ' i0 i1 hs => ?_) (fun i hi ih σ' i0 i1 hs => step i σ' i0 hi hs (fun σ'' h => ih σ'' (by omega) (by omega) h))
    have e : i = 16 := by omega
    rw [e] at hs
    exact base i σ' e hs
  exact L 0 σ1 (by decide) (by decide) ⟨fun k k0 k1 => by omega, fr_refl _⟩
theorem cy_ne {σ : bc_M} {s t k : Nat} {n : Int} (h : k ≠ t) : (bc_cy σ s t 0 0 n).1 k = σ.1 k := by
  funext x
  simp [bc_cy, h]
section CPY
variable {g : bc_C} {d : Nat} {σ : bc_M} {r : rw_t} {Rr : Option bc_A → bc_M → Prop} {X : Nat → bc_M → Prop} {a b : Nat}
set_option maxHeartbeats 4000000 in
theorem t_X3_copyFrom (hc : cp_ a b) (hS : st_N σ b r) (hW : wf_N r) (h : ∀ σ' : bc_M, st_N σ' a r → fr_ (fun k => a + 8 ≤ k ∧ k ≤ a + 9) σ σ' → Rr none σ') : bc_Sem g (d + 1) mX3_copyFrom [bc_R (a + 8), bc_R (b + 8)] σ Rr X := by
  have key : st_N (bc_cy (bc_wr σ (a + 8) ((0 : Nat) : Int) (σ.1 (b + 8) ((0 : Nat) : Int))) (b + 9) (a + 9) 0 0 4) a r := by
    have hne : a ≠ b ∧ a + 1 ≠ b ∧ b + 1 ≠ a := by unfold cp_ at hc; omega
    refine ⟨?_, fun k k0 k1 => ?_⟩
    · rw [cy_ne (by omega)]
      simp only [bc_wr, if_true]
      exact hS.1
    · rw [cy_at (by omega), bc_wr_ne (by omega)]
      exact hS.2 k k0 k1
  have hk : 0 ≤ σ.1 (b + 8) ((0 : Nat) : Int) ∧ σ.1 (b + 8) ((0 : Nat) : Int) ≤ 65535 := by
    have := hS.1
    have := hW.1
    omega
  have fin := h _ key (fr_trans (fr_wr (by omega)) (fr_cy (by omega)))
  rcases hc with ⟨rfl, rfl⟩ | ⟨rfl, rfl⟩ | ⟨rfl, rfl⟩ | ⟨rfl, rfl⟩ | ⟨rfl, rfl⟩ | ⟨rfl, rfl⟩ | ⟨rfl, rfl⟩ | ⟨rfl, rfl⟩ | ⟨rfl, rfl⟩ | ⟨rfl, rfl⟩ | ⟨rfl, rfl⟩ | ⟨rfl, rfl⟩ | ⟨rfl, rfl⟩ | ⟨rfl, rfl⟩ | ⟨rfl, rfl⟩ | ⟨rfl, rfl⟩ | ⟨rfl, rfl⟩ | ⟨rfl, rfl⟩ | ⟨rfl, rfl⟩ | ⟨rfl, rfl⟩ | ⟨rfl, rfl⟩ | ⟨rfl, rfl⟩ | ⟨rfl, rfl⟩ | ⟨rfl, rfl⟩ | ⟨rfl, rfl⟩ | ⟨rfl, rfl⟩ | ⟨rfl, rfl⟩ | ⟨rfl, rfl⟩
  all_goals
    refine e_X3_copyFrom rfl (fun K hK => ?_)
    refine hK.1 [] 40 _ _ _ _ _ ?_
    refine bc_ob_i hk ?_
    refine bc_ob_i (by decide) ?_
    exact fin
set_option maxHeartbeats 4000000 in
theorem t_X8_copyFrom (hc : cp_ a b) (hS : st_T σ b r) (h : ∀ σ' : bc_M, st_T σ' a r → fr_ (fun k => a + 10 ≤ k ∧ k ≤ a + 13) σ σ' → Rr none σ') : bc_Sem g (d + 1) mX8_copyFrom [bc_R (a + 10), bc_R (b + 10)] σ Rr X := by
  have hne : a + 10 < b ∨ b + 10 < a := by unfold cp_ at hc; omega
  have key : ∀ σ1 : bc_M, (∀ j : Nat, j < 10 → σ1.1 (a + 10) (j : Int) = σ.1 (b + 10) (j : Int)) → fr_ (fun k => k = a + 10) σ σ1 → Rr none (bc_cy (bc_cy (bc_cy σ1 (b + 11) (a + 11) 0 0 8) (b + 12) (a + 12) 0 0 8) (b + 13) (a + 13) 0 0 8) := by
    intro σ1 h1 h2
    refine h _ ⟨?_, fun k k0 k1 => ?_⟩ (fr_trans (fr_mono h2 (by omega)) (fr_trans (fr_cy (by omega)) (fr_trans (fr_cy (by omega)) (fr_cy (by omega)))))
    · rw [cy_ne (by omega), cy_ne (by omega), cy_ne (by omega)]
      rw [h1 0 (by decide), h1 1 (by decide), h1 2 (by decide), h1 3 (by decide), h1 4 (by decide), h1 5 (by decide), h1 6 (by decide), h1 7 (by decide), h1 8 (by decide), h1 9 (by decide)]
      exact hS.1
    · obtain ⟨q1, q2, q3⟩ := hS.2 k k0 k1
      refine ⟨?_, ?_, ?_⟩
      · rw [cy_ne (by omega), cy_ne (by omega), cy_at (by omega), h2.1 _ (by omega)]
        exact q1
      · rw [cy_ne (by omega), cy_at (by omega), cy_ne (by omega), h2.1 _ (by omega)]
        exact q2
      · rw [cy_at (by omega), cy_ne (by omega), cy_ne (by omega), h2.1 _ (by omega)]
        exact q3
  rcases hc with ⟨rfl, rfl⟩ | ⟨rfl, rfl⟩ | ⟨rfl, rfl⟩ | ⟨rfl, rfl⟩ | ⟨rfl, rfl⟩ | ⟨rfl, rfl⟩ | ⟨rfl, rfl⟩ | ⟨rfl, rfl⟩ | ⟨rfl, rfl⟩ | ⟨rfl, rfl⟩ | ⟨rfl, rfl⟩ | ⟨rfl, rfl⟩ | ⟨rfl, rfl⟩ | ⟨rfl, rfl⟩ | ⟨rfl, rfl⟩ | ⟨rfl, rfl⟩ | ⟨rfl, rfl⟩ | ⟨rfl, rfl⟩ | ⟨rfl, rfl⟩ | ⟨rfl, rfl⟩ | ⟨rfl, rfl⟩ | ⟨rfl, rfl⟩ | ⟨rfl, rfl⟩ | ⟨rfl, rfl⟩ | ⟨rfl, rfl⟩ | ⟨rfl, rfl⟩ | ⟨rfl, rfl⟩ | ⟨rfl, rfl⟩
  all_goals
    refine e_X8_copyFrom rfl (fun K hK => ?_)
    refine hK.1 [] 100 _ _ _ _ _ ?_
    refine bc_ob_i (by decide) ?_
    refine bc_ob_i (by decide) ?_
    refine bc_ob_i (by decide) ?_
    refine key _ (fun j hj => ?_) ?_
    · have : j = 0 ∨ j = 1 ∨ j = 2 ∨ j = 3 ∨ j = 4 ∨ j = 5 ∨ j = 6 ∨ j = 7 ∨ j = 8 ∨ j = 9 := by omega
      rcases this with rfl | rfl | rfl | rfl | rfl | rfl | rfl | rfl | rfl | rfl <;> rfl
    · repeat (first | exact fr_refl _ | refine fr_trans ?_ (fr_wr rfl))
set_option maxHeartbeats 4000000 in
theorem t_X2_copyFrom (hc : cp_ a b) (hS : st_M σ b r) (hW : wf_M r) (h : ∀ σ' : bc_M, st_M σ' a r → fr_ (fun k => a + 1 ≤ k ∧ k ≤ a + 7) σ σ' → Rr none σ') : bc_Sem g (d + 1) mX2_copyFrom [bc_R (a + 1), bc_R (b + 1)] σ Rr X := by
  have hne : a + 10 < b ∨ b + 10 < a := by unfold cp_ at hc; omega
  have key : ∀ σ1 : bc_M, (∀ j : Nat, j < 1 → σ1.1 (a + 1) (j : Int) = σ.1 (b + 1) (j : Int)) → fr_ (fun k => k = a + 1) σ σ1 → ∀ σ' : bc_M, ct_ 16 a b (bc_cy (bc_cy (bc_cy (bc_cy (bc_cy σ1 (b + 2) (a + 2) 0 0 16) (b + 3) (a + 3) 0 0 16) (b + 4) (a + 4) 0 0 16) (b + 5) (a + 5) 0 0 16) (b + 6) (a + 6) 0 0 16) σ' → Rr none σ' := by
    intro σ1 h1 h2 σ' h3
    refine h _ ⟨?_, fun k k0 k1 => ?_⟩ (fr_trans (fr_mono h2 (by omega)) (fr_trans (fr_cy (by omega)) (fr_trans (fr_cy (by omega)) (fr_trans (fr_cy (by omega)) (fr_trans (fr_cy (by omega)) (fr_trans (fr_cy (by omega)) (fr_mono h3.2 (by omega))))))))
    · rw [h3.2.1 _ (by omega), cy_ne (by omega), cy_ne (by omega), cy_ne (by omega), cy_ne (by omega), cy_ne (by omega), h1 0 (by decide)]
      exact hS.1
    · obtain ⟨q1, q2, q3, q4, q5, q6⟩ := hS.2 k k0 k1
      refine ⟨?_, ?_, ?_, ?_, ?_, ?_⟩
      · rw [h3.2.1 _ (by omega), cy_ne (by omega), cy_ne (by omega), cy_ne (by omega), cy_ne (by omega), cy_at (by omega), h2.1 _ (by omega)]
        exact q1
      · rw [h3.2.1 _ (by omega), cy_ne (by omega), cy_ne (by omega), cy_ne (by omega), cy_at (by omega), cy_ne (by omega), h2.1 _ (by omega)]
        exact q2
      · rw [h3.2.1 _ (by omega), cy_ne (by omega), cy_ne (by omega), cy_at (by omega), cy_ne (by omega), cy_ne (by omega), h2.1 _ (by omega)]
        exact q3
      · rw [h3.2.1 _ (by omega), cy_ne (by omega), cy_at (by omega), cy_ne (by omega), cy_ne (by omega), cy_ne (by omega), h2.1 _ (by omega)]
        exact q4
      · rw [h3.2.1 _ (by omega), cy_at (by omega), cy_ne (by omega), cy_ne (by omega), cy_ne (by omega), cy_ne (by omega), h2.1 _ (by omega)]
        exact q5
      · rw [h3.1 k k0 k1, cy_ne (by omega), cy_ne (by omega), cy_ne (by omega), cy_ne (by omega), cy_ne (by omega), h2.1 _ (by omega)]
        exact q6
  have hb : ∀ (σ1 : bc_M), fr_ (fun k => k = a + 1) σ σ1 → ∀ σ', ∀ i : Int, 0 ≤ i → i < 16 → ct_ i a b (bc_cy (bc_cy (bc_cy (bc_cy (bc_cy σ1 (b + 2) (a + 2) 0 0 16) (b + 3) (a + 3) 0 0 16) (b + 4) (a + 4) 0 0 16) (b + 5) (a + 5) 0 0 16) (b + 6) (a + 6) 0 0 16) σ' → (0 ≤ σ'.1 (b + 7) i ∧ σ'.1 (b + 7) i ≤ 1) ∧ ct_ (i + 1) a b (bc_cy (bc_cy (bc_cy (bc_cy (bc_cy σ1 (b + 2) (a + 2) 0 0 16) (b + 3) (a + 3) 0 0 16) (b + 4) (a + 4) 0 0 16) (b + 5) (a + 5) 0 0 16) (b + 6) (a + 6) 0 0 16) (bc_wr σ' (a + 7) i (σ'.1 (b + 7) i)) := by
    intro σ1 h2 σ' i i0 i1 h3
    have e1 : σ'.1 (b + 7) = (bc_cy (bc_cy (bc_cy (bc_cy (bc_cy σ1 (b + 2) (a + 2) 0 0 16) (b + 3) (a + 3) 0 0 16) (b + 4) (a + 4) 0 0 16) (b + 5) (a + 5) 0 0 16) (b + 6) (a + 6) 0 0 16).1 (b + 7) := h3.2.1 _ (by omega)
    have e2 := e1
    rw [cy_ne (by omega), cy_ne (by omega), cy_ne (by omega), cy_ne (by omega), cy_ne (by omega), h2.1 _ (by omega)] at e2
    obtain ⟨q1, q2, q3, q4, q5, q6⟩ := hS.2 i i0 i1
    have w := (hW.2 i i0 i1).2.2.2.2.2
    refine ⟨?_, fun k k0 k1 => ?_, fr_trans h3.2 (fr_wr rfl)⟩
    · rw [e2, q6]
      exact w
    · by_cases hk : k = i
      · rw [hk, e1]
        simp [bc_wr]
      · have := h3.1 k k0 (by omega)
        rw [← this]
        simp [bc_wr, hk]
  have hc' := id hc
  rcases hc with ⟨rfl, rfl⟩ | ⟨rfl, rfl⟩ | ⟨rfl, rfl⟩ | ⟨rfl, rfl⟩ | ⟨rfl, rfl⟩ | ⟨rfl, rfl⟩ | ⟨rfl, rfl⟩ | ⟨rfl, rfl⟩ | ⟨rfl, rfl⟩ | ⟨rfl, rfl⟩ | ⟨rfl, rfl⟩ | ⟨rfl, rfl⟩ | ⟨rfl, rfl⟩ | ⟨rfl, rfl⟩ | ⟨rfl, rfl⟩ | ⟨rfl, rfl⟩ | ⟨rfl, rfl⟩ | ⟨rfl, rfl⟩ | ⟨rfl, rfl⟩ | ⟨rfl, rfl⟩ | ⟨rfl, rfl⟩ | ⟨rfl, rfl⟩ | ⟨rfl, rfl⟩ | ⟨rfl, rfl⟩ | ⟨rfl, rfl⟩ | ⟨rfl, rfl⟩ | ⟨rfl, rfl⟩ | ⟨rfl, rfl⟩
  all_goals
    refine e_X2_copyFrom rfl (fun K hK => ?_)
    refine hK.1 [85] 60 _ _ _ _ _ ?_
    refine bc_ob_i (by decide) ?_
    refine bc_ob_i (by decide) ?_
    refine bc_ob_i (by decide) ?_
    refine bc_ob_i (by decide) ?_
    refine bc_ob_i (by decide) ?_
    refine lp_ hc' (fun i σ' i0 hs => ?_) (fun i σ' i0 hi hs ih => ?_)
    · refine hK.1 [85] 60 _ _ _ _ _ ?_
      refine bc_ob_i (by omega) ?_
      refine bc_br_i (fun c => by omega) (fun _ => ?_)
      exact key _ (fun j hj => by have : j = 0 := by omega
                                  subst this
                                  rfl) (fr_wr rfl) _ hs
    · obtain ⟨hq, hn⟩ := hb _ (fr_wr rfl) σ' i i0 hi hs
      refine hK.1 [85] 60 _ _ _ _ _ ?_
      refine bc_ob_i (by omega) ?_
      refine bc_br_i (fun _ => ?_) (fun c => by omega)
      refine bc_ob_i ⟨i0, hi⟩ ?_
      refine bc_ob_i ⟨i0, hi⟩ ?_
      refine bc_ob_i hq ?_
      exact ih _ hn
/-- a whole state -/
noncomputable def st_A (B : Int) (σ : bc_M) (a : Nat) (r : rw_t) : Prop := (st_M σ a r ∧ st_N σ a r ∧ st_T σ a r) ∧ wf_M r ∧ wf_N r ∧ wf_T B r
set_option maxHeartbeats 4000000 in
theorem t_X6_copyFrom {B : Int} (hc : cp_ a b) (hS : st_A B σ b r) (h : ∀ σ' : bc_M, st_A B σ' a r → fr_ (fun k => a + 1 ≤ k ∧ k ≤ a + 13) σ σ' → Rr none σ') : bc_Sem g (d + 2) mX6_copyFrom [bc_R a, bc_R b] σ Rr X := by
  have hne : a + 13 < b ∨ b + 13 < a := by unfold cp_ at hc; omega
  obtain ⟨⟨h1, h2, h3⟩, w1, w2, w3⟩ := hS
  have fin : ∀ σ1, st_M σ1 a r → fr_ (fun k => a + 1 ≤ k ∧ k ≤ a + 7) σ σ1 → ∀ σ2, st_N σ2 a r → fr_ (fun k => a + 8 ≤ k ∧ k ≤ a + 9) σ1 σ2 → ∀ σ3, st_T σ3 a r → fr_ (fun k => a + 10 ≤ k ∧ k ≤ a + 13) σ2 σ3 → Rr none σ3 := by
    intro σ1 m1 f1 σ2 m2 f2 σ3 m3 f3
    refine h _ ⟨⟨?_, ?_, m3⟩, w1, w2, w3⟩ (fr_trans (fr_mono f1 (by omega)) (fr_trans (fr_mono f2 (by omega)) (fr_mono f3 (by omega))))
    · exact st_M_fr (st_M_fr m1 f2 (by omega)) f3 (by omega)
    · exact st_N_fr m2 f3 (by omega)
  have g1 : ∀ σ1, fr_ (fun k => a + 1 ≤ k ∧ k ≤ a + 7) σ σ1 → st_N σ1 b r := fun σ1 f1 => st_N_fr h2 f1 (by omega)
  have g2 : ∀ σ1, fr_ (fun k => a + 1 ≤ k ∧ k ≤ a + 7) σ σ1 → ∀ σ2, fr_ (fun k => a + 8 ≤ k ∧ k ≤ a + 9) σ1 σ2 → st_T σ2 b r := fun σ1 f1 σ2 f2 => st_T_fr (st_T_fr h3 f1 (by omega)) f2 (by omega)
  have hc' := id hc
  rcases hc with ⟨rfl, rfl⟩ | ⟨rfl, rfl⟩ | ⟨rfl, rfl⟩ | ⟨rfl, rfl⟩ | ⟨rfl, rfl⟩ | ⟨rfl, rfl⟩ | ⟨rfl, rfl⟩ | ⟨rfl, rfl⟩ | ⟨rfl, rfl⟩ | ⟨rfl, rfl⟩ | ⟨rfl, rfl⟩ | ⟨rfl, rfl⟩ | ⟨rfl, rfl⟩ | ⟨rfl, rfl⟩ | ⟨rfl, rfl⟩ | ⟨rfl, rfl⟩ | ⟨rfl, rfl⟩ | ⟨rfl, rfl⟩ | ⟨rfl, rfl⟩ | ⟨rfl, rfl⟩ | ⟨rfl, rfl⟩ | ⟨rfl, rfl⟩ | ⟨rfl, rfl⟩ | ⟨rfl, rfl⟩ | ⟨rfl, rfl⟩ | ⟨rfl, rfl⟩ | ⟨rfl, rfl⟩ | ⟨rfl, rfl⟩
  all_goals
    refine e_X6_copyFrom rfl (fun K hK => ?_)
    refine hK.1 [] 60 _ _ _ _ _ ?_
    refine t_X2_copyFrom hc' h1 w1 (fun σ1 m1 f1 => ?_)
    refine t_X3_copyFrom hc' (g1 σ1 f1) w2 (fun σ2 m2 f2 => ?_)
    refine t_X8_copyFrom hc' (g2 σ1 f1 σ2 f2) (fun σ3 m3 f3 => ?_)
    exact fin σ1 m1 f1 σ2 m2 f2 σ3 m3 f3
end CPY
end
section
/-! the history: h lists the remembered states, the newest first -/
noncomputable def hs_ (n : Int) (t : Nat) : Nat := 45 + 14 * ((n + 7 - t) % 8).toNat
/-- next slot n, count of slot 2; each remembered state stands where it should -/
noncomputable def st_H (B : Int) (σ : bc_M) (n : Int) (h : List rw_t) : Prop := σ.1 43 ((1 : Nat) : Int) = n ∧ (0 ≤ n ∧ n < 8) ∧ σ.1 43 ((2 : Nat) : Int) = (h.length : Int) ∧ h.length ≤ 8 ∧ ∀ t : Nat, (ht : t < h.length) → st_A B σ (hs_ n t) h[t]
theorem st_A_fr {P : Nat → Prop} {B : Int} {σ σ' : bc_M} {b : Nat} {r : rw_t} (h : st_A B σ b r) (hf : fr_ P σ σ') (hp : ∀ k, b + 1 ≤ k → k ≤ b + 13 → ¬ P k) : st_A B σ' b r := by
  obtain ⟨⟨h1, h2, h3⟩, w⟩ := h
  exact ⟨⟨st_M_fr h1 hf (fun k a b => hp k (by omega) (by omega)), st_N_fr h2 hf (fun k a b => hp k (by omega) (by omega)), st_T_fr h3 hf (fun k a b => hp k (by omega) (by omega))⟩, w⟩
theorem hs_le (n : Int) (t : Nat) : 45 ≤ hs_ n t ∧ hs_ n t ≤ 143 := by unfold hs_; omega
theorem st_H_fr {P : Nat → Prop} {B : Int} {σ σ' : bc_M} {n : Int} {h : List rw_t} (hS : st_H B σ n h) (hf : fr_ P σ σ') (hp : ∀ k, 43 ≤ k → k ≤ 156 → ¬ P k) : st_H B σ' n h := by
  obtain ⟨h1, h2, h3, h4, h5⟩ := hS
  refine ⟨?_, h2, ?_, h4, fun t ht => st_A_fr (h5 t ht) hf (fun k a b => ?_)⟩
  · rw [hf.1 43 (hp 43 (by decide) (by decide))]; exact h1
  · rw [hf.1 43 (hp 43 (by decide) (by decide))]; exact h3
  · have := hs_le n t
    exact hp k (by omega) (by omega)
noncomputable def hr_ (h : List rw_t) (r : rw_t) : List rw_t := (r :: h).take 8
section HIS
variable {g : bc_C} {d : Nat} {σ : bc_M} {r : rw_t} {B n : Int} {h : List rw_t} {Rr : Option bc_A → bc_M → Prop} {X : Nat → bc_M → Prop} {b : Nat}
theorem t_X1_forget (hS : st_H B σ n h) (f : ∀ σ' : bc_M, st_H B σ' n [] → fr_ (fun k => k = 43) σ σ' → Rr none σ') : bc_Sem g (d + 1) mX1_forget [bc_R 43] σ Rr X := by
  obtain ⟨h1, h2, h3, h4, h5⟩ := hS
  refine e_X1_forget rfl (fun K hK => ?_)
  refine hK.1 [] 40 _ _ _ _ _ ?_
  refine f _ ⟨?_, h2, ?_, by decide, fun t ht => absurd ht (Nat.not_lt_zero _)⟩ (fr_wr rfl)
  · simp [bc_wr]
    exact h1
  · simp [bc_wr]
theorem t_X1_remember (hb : b = 1 ∨ b = 29) (hS : st_H B σ n h) (hA : st_A B σ b r) (f : ∀ σ' : bc_M, st_H B σ' ((n + 1) % 8) (hr_ h r) → fr_ (fun k => 43 ≤ k ∧ k ≤ 156) σ σ' → Rr none σ') : bc_Sem g (d + 3) mX1_remember [bc_R 43, bc_R b] σ Rr X := by
  obtain ⟨h1, h2, h3, h4, h5⟩ := hS
  have fin : ∀ t : Nat, t < 8 → n = t → ∀ σ1, st_A B σ1 (45 + 14 * t) r → fr_ (fun k => 45 + 14 * t + 1 ≤ k ∧ k ≤ 45 + 14 * t + 13) σ σ1 → Rr none (bc_wr (bc_wr σ1 43 ((1 : Nat) : Int) ((σ1.1 43 ((1 : Nat) : Int) + 1) % 8)) 43 ((2 : Nat) : Int) (min ((bc_wr σ1 43 ((1 : Nat) : Int) ((σ1.1 43 ((1 : Nat) : Int) + 1) % 8)).1 43 ((2 : Nat) : Int) + 1) 8)) := by
    intro t ht hn σ1 a1 f1
    have e1 : σ1.1 43 = σ.1 43 := f1.1 43 (by omega)
    refine f _ ⟨?_, by omega, ?_, by unfold hr_; simp; omega, fun u hu => ?_⟩ (fr_trans (fr_mono f1 (by omega)) (fr_trans (fr_wr (by omega)) (fr_wr (by omega))))
    · simp [bc_wr]
      rw [e1]
      have : σ.1 43 1 = n := h1
      rw [this]
    · simp [bc_wr]
      rw [e1]
      have : σ.1 43 2 = h.length := h3
      rw [this]
      unfold hr_
      simp
      omega
    · refine st_A_fr ?_ (fr_trans (fr_wr (P := fun k => k = 43) rfl) (fr_wr rfl)) (fun k k0 k1 => by have := hs_le ((n + 1) % 8) u; omega)
      unfold hr_ at hu ⊢
      simp at hu
      cases u with
      | zero =>
        have e : hs_ ((n + 1) % 8) 0 = 45 + 14 * t := by unfold hs_; omega
        rw [e]
        simpa using a1
      | succ u =>
        have e : hs_ ((n + 1) % 8) (u + 1) = hs_ n u := by unfold hs_; omega
        rw [e]
        have := st_A_fr (h5 u (by omega)) f1 (fun k k0 k1 => by
          unfold hs_ at k0 k1
          omega)
        simpa using this
  have hn : n = 0 ∨ n = 1 ∨ n = 2 ∨ n = 3 ∨ n = 4 ∨ n = 5 ∨ n = 6 ∨ n = 7 := by omega
  have hcp : ∀ t : Nat, t < 8 → cp_ (45 + 14 * t) b := fun t ht => by
    rcases hb with rfl | rfl
    · exact cp_to ht
    · exact cp_to9 ht
  have hq : ∀ t : Nat, t < 8 → n = t → ∀ σ1, fr_ (fun k => 45 + 14 * t + 1 ≤ k ∧ k ≤ 45 + 14 * t + 13) σ σ1 → σ1.1 43 ((1 : Nat) : Int) = n ∧ σ1.1 43 ((2 : Nat) : Int) = h.length := by
    intro t ht hn σ1 f1
    have e1 : σ1.1 43 = σ.1 43 := f1.1 43 (by omega)
    rw [e1]
    exact ⟨h1, h3⟩
  rcases hb with rfl | rfl
  all_goals
    refine e_X1_remember rfl (fun K hK => ?_)
    refine hK.1 [] 60 _ _ _ _ _ ?_
    refine bc_ob_i (by omega) ?_
    intro t ht hnt
    have ht8 : t = 0 ∨ t = 1 ∨ t = 2 ∨ t = 3 ∨ t = 4 ∨ t = 5 ∨ t = 6 ∨ t = 7 := by omega
    rcases ht8 with rfl | rfl | rfl | rfl | rfl | rfl | rfl | rfl
    all_goals
      refine t_X6_copyFrom (hcp _ ht) hA (fun σ1 a1 f1 => ?_)
      obtain ⟨q1, q2⟩ := hq _ ht (by omega) σ1 f1
      refine bc_ob_i (by omega) ?_
      refine bc_ob_i ⟨?_, by decide, Nat.le_of_ble_eq_true rfl⟩ ?_
      · simp [bc_wr]
        have : σ1.1 43 2 = h.length := q2
        omega
      exact fin _ ht (by omega) σ1 a1 f1
theorem t_X1_takeBack (hS : st_H B σ n h) (h0 : h = [] → Rr none σ) (f : ∀ q t, h = q :: t → ∀ σ' : bc_M, st_H B σ' ((n + 7) % 8) t → st_A B σ' 1 q → fr_ (fun k => (2 ≤ k ∧ k ≤ 14) ∨ k = 43) σ σ' → Rr none σ') : bc_Sem g (d + 3) mX1_takeBack [bc_R 43, bc_R 1] σ Rr X := by
  obtain ⟨h1, h2, h3, h4, h5⟩ := hS
  have l1 : σ.1 43 1 = n := h1
  have l2 : σ.1 43 2 = h.length := h3
  refine e_X1_takeBack rfl (fun K hK => ?_)
  refine hK.1 [] 60 _ _ _ _ _ ?_
  refine bc_ob_i (by omega) ?_
  refine bc_br_i (fun c => ?_) (fun c => ?_)
  · refine h0 ?_
    have : h.length = 0 := by omega
    exact List.length_eq_zero_iff.mp this
  · cases h with
    | nil => exact absurd (by simpa using h3) c
    | cons q ts =>
      refine bc_ob_i (by omega) ?_
      refine bc_ob_i ?_ ?_
      · simp [bc_wr]
        rw [l1]
        omega
      intro t ht hnt
      have e : 45 + 14 * t = hs_ n 0 := by
        simp [bc_wr] at hnt
        rw [l1] at hnt
        unfold hs_
        omega
      have hA := h5 0 (by simp)
      rw [← e] at hA
      refine t_X6_copyFrom (cp_fr ht) (st_A_fr (P := fun k => k = 43) hA (fr_trans (fr_wr rfl) (fr_wr rfl)) (by omega)) (fun σ1 a1 f1 => ?_)
      have e1 : ∀ j, σ1.1 43 j = _ := fun j => congrFun (f1.1 43 (by omega)) j
      refine f q ts rfl σ1 ⟨?_, by omega, ?_, by simp at h4; omega, fun u hu => ?_⟩ a1 (fr_trans (fr_wr (by omega)) (fr_trans (fr_wr (by omega)) (fr_mono f1 (by omega))))
      · rw [e1]
        simp [bc_wr]
        rw [l1]
        omega
      · rw [e1]
        simp [bc_wr]
        rw [l2]
        simp
      · have e2 : hs_ ((n + 7) % 8) u = hs_ n (u + 1) := by unfold hs_; omega
        rw [e2]
        have hq := h5 (u + 1) (by simp; omega)
        have hl := hs_le n (u + 1)
        refine st_A_fr (st_A_fr (P := fun k => k = 43) (by simpa using hq) (fr_trans (fr_wr rfl) (fr_wr rfl)) (fun k k0 k1 => by omega)) f1 (fun k k0 k1 => by omega)
end HIS
end
section
/-! folds, and the ways as the class finds them, mirrored -/
noncomputable def fo_ {α : Type} (f : Int → α → α) (a : α) : Nat → α
  | 0 => a
  | n + 1 => f n (fo_ f a n)
theorem fo_s {α : Type} {f : Int → α → α} {a : α} {i : Int} (h : 0 ≤ i) : fo_ f a (i + 1).toNat = f i (fo_ f a i.toNat) := by
  have e : (i + 1).toNat = i.toNat + 1 := by omega
  rw [e]
  show f (i.toNat : Int) _ = _
  rw [Int.toNat_of_nonneg h]
theorem fo_inv {α : Type} {f : Int → α → α} {a : α} {n : Nat} {P : α → Prop} (h0 : P a) (hs : ∀ (i : Int) (x : α), 0 ≤ i → i < n → P x → P (f i x)) : ∀ k : Nat, k ≤ n → P (fo_ f a k) := by
  intro k
  induction k with
  | zero => intro _; exact h0
  | succ k ih => intro hk; exact hs k _ (by omega) (by omega) (ih (by omega))
theorem fo_fix {α : Type} {f : Int → α → α} {a : α} {k : Nat} (h : ∀ i : Int, k ≤ i → f i (fo_ f a k) = fo_ f a k) : ∀ n : Nat, k ≤ n → fo_ f a n = fo_ f a k := by
  intro n
  induction n with
  | zero => intro hk; have : k = 0 := by omega
            rw [this]
  | succ n ih =>
    intro hk
    by_cases e : k = n + 1
    · rw [e]
    · show f (n : Int) (fo_ f a n) = _
      rw [ih (by omega)]
      exact h n (by omega)
noncomputable abbrev gr_t := Int → Int → Int
noncomputable def sv_ (σ : bc_M) (c : Nat) (f : gr_t) : Prop := ∀ i j : Int, 0 ≤ i → i < 8 → 0 ≤ j → j < 8 → σ.1 c (((8 : Nat) : Int) * i + j) = f i j
noncomputable def ar_ (σ : bc_M) (c : Nat) (f : Int → Int) : Prop := ∀ j : Int, 0 ≤ j → j < 8 → σ.1 c j = f j
noncomputable def lm_ (f : Int → Int) (m : Int) : Prop := ∀ j : Int, 0 ≤ j → j < 8 → 0 ≤ f j ∧ f j ≤ m
noncomputable def gl_ (f : gr_t) (m : Int) : Prop := ∀ i j : Int, 0 ≤ i → i < 8 → 0 ≤ j → j < 8 → 0 ≤ f i j ∧ f i j ≤ m
theorem sv_fr {P : Nat → Prop} {σ σ' : bc_M} {c : Nat} {f : gr_t} (h : sv_ σ c f) (hf : fr_ P σ σ') (hp : ¬ P c) : sv_ σ' c f := fun i j a b c' d => by rw [hf.1 c hp]; exact h i j a b c' d
theorem ar_fr {P : Nat → Prop} {σ σ' : bc_M} {c : Nat} {f : Int → Int} (h : ar_ σ c f) (hf : fr_ P σ σ') (hp : ¬ P c) : ar_ σ' c f := fun j a b => by rw [hf.1 c hp]; exact h j a b
theorem ar_wr {σ : bc_M} {c : Nat} {f : Int → Int} {i v : Int} (h : ar_ σ c f) : ar_ (bc_wr σ c i v) c (up_ f i v) := fun j a b => by
  have := h j a b
  simp only [bc_wr, up_, if_true]
  split
  · rfl
  · exact this
theorem lm_up {f : Int → Int} {m i v : Int} (h : lm_ f m) (hv : 0 ≤ v ∧ v ≤ m) : lm_ (up_ f i v) m := fun j a b => by
  have := h j a b
  unfold up_
  split <;> omega
noncomputable def ug_ (f : gr_t) (i j v : Int) : gr_t := fun a b => if a = i ∧ b = j then v else f a b
theorem sv_wr {σ : bc_M} {c : Nat} {f : gr_t} {i j v : Int} (i0 : 0 ≤ i) (i1 : i < 8) (j0 : 0 ≤ j) (j1 : j < 8) (h : sv_ σ c f) : sv_ (bc_wr σ c (((8 : Nat) : Int) * i + j) v) c (ug_ f i j v) := fun a b a0 a1 b0 b1 => by
  have := h a b a0 a1 b0 b1
  simp only [bc_wr, ug_, if_true]
  by_cases e : a = i ∧ b = j
  · rw [if_pos e, if_pos (by rw [e.1, e.2])]
  · rw [if_neg e, if_neg (by omega)]
    exact this
/-- the bearings between joints, after k members -/
noncomputable def sb_ (r : rw_t) (k : Nat) : gr_t := fo_ (fun k f => ug_ (ug_ f (r (16 + 6 * k)) (r (17 + 6 * k)) (br_ r k)) (r (17 + 6 * k)) (r (16 + 6 * k)) (br_ r k)) (fun _ _ => 0) k
noncomputable def sa_ (r : rw_t) : gr_t := sb_ r (r 3).toNat
theorem sb_le {r : rw_t} (hW : wf_M r) (k : Nat) (hk : k ≤ 16) : gl_ (sb_ r k) 99 := by
  unfold sb_
  refine fo_inv (n := 16) (P := fun f => gl_ f 99) (fun i j _ _ _ _ => by simp) (fun i f i0 i1 h => fun a b a0 a1 b0 b1 => ?_) k hk
  have := h a b a0 a1 b0 b1
  have hb := br_le hW i0 (by omega)
  simp only [ug_]
  repeat' split
  all_goals omega
theorem sa_le {r : rw_t} (hW : wf_M r) : gl_ (sa_ r) 99 := sb_le hW _ (by have := hW.1; omega)
/-- the first locals of many -/
theorem ls_ (a b : bc_LV) : ∀ q ∈ a, q ∈ a ++ b := fun _ h => List.mem_append_left b h
section WAY
variable {g : bc_C} {d : Nat} {σ : bc_M} {r : rw_t} {Rr : Option bc_A → bc_M → Prop} {X : Nat → bc_M → Prop}
theorem t_X9_survey (hS : st_M σ 1 r) (hW : wf_M r) (h : ∀ σ' : bc_M, sv_ σ' 158 (sa_ r) → fr_ (fun k => k = 158) σ σ' → Rr none σ') : bc_Sem g (d + 2) mX9_survey [bc_R 157, bc_R 2] σ Rr X := by
  have w1 := hW.1
  refine e_X9_survey rfl (fun K hK => ?_)
  have L2 : ∀ i : Int, ∀ σ' : bc_M, 0 ≤ i → i ≤ r 3 → sv_ σ' 158 (sb_ r i.toNat) → fr_ (fun k => k = 158) σ σ' → K 39 [(0, bc_R 157), (1, bc_R 2), (2, bc_I i)] [] σ' 0 := by
    refine up_ind (r 3) (fun i hi σ' h0 h1 h2 h3 => ?_) (fun i hi ih σ' h0 h1 h2 h3 => ?_)
    · obtain ⟨c1, c2⟩ := st_M1 (st_M_fr hS h3 (by omega))
      refine hK.1 [39] 60 _ _ _ _ _ ?_
      refine bc_ob_i (by omega) ?_
      refine bc_br_i (fun c => by omega) (fun c => ?_)
      have e : i = r 3 := by omega
      rw [e] at h2
      exact h σ' h2 h3
    · have hM := st_M_fr hS h3 (by omega)
      obtain ⟨c1, c2⟩ := st_M1 hM
      obtain ⟨e1, e2, e3, e4, e5, e6⟩ := c2 i h0 (by omega)
      obtain ⟨g0, g1, g2, g3, g4, g5⟩ := hW.2 i h0 (by omega)
      refine hK.1 [39] 60 _ _ _ _ _ ?_
      refine bc_ob_i (by omega) ?_
      refine bc_br_i (fun c => ?_) (fun c => by omega)
      refine bc_ob_i (by omega) ?_
      refine bc_ob_i (by omega) ?_
      refine bc_ob_i (by omega) ?_
      refine t_X2_bearingOf hM hW h0 (by omega) ?_
      refine bc_ob_i (by omega) ?_
      refine bc_ob_i (by omega) ?_
      refine bc_ob_i (by omega) ?_
      refine bc_ob_i (by omega) ?_
      refine bc_ob_i (by omega) ?_
      refine hK.2 _ _ [(0, bc_R 157), (1, bc_R 2), (2, bc_I (i + 1))] _ _ _ (ls_ _ _) ?_
      refine ih _ (by omega) (by omega) ?_ (fr_trans h3 (fr_trans (fr_wr rfl) (fr_wr rfl)))
      rw [sb_, fo_s h0]
      rw [e1, e2]
      have q1 := sv_wr (v := br_ r i) g0.1 (by omega) g1.1 (by omega) h2
      have q2 := sv_wr (v := br_ r i) g1.1 (by omega) g0.1 (by omega) q1
      have q3 := q1 _ _ g0.1 (by omega) g1.1 (by omega)
      rw [q3]
      have e : ug_ (sb_ r i.toNat) (r (16 + 6 * i)) (r (17 + 6 * i)) (br_ r i) (r (16 + 6 * i)) (r (17 + 6 * i)) = br_ r i := by simp [ug_]
      rw [e]
      exact q2
  have L1 : ∀ i : Int, ∀ σ' : bc_M, 0 ≤ i → i ≤ 8 → (∀ a b : Int, 0 ≤ a → a < i → 0 ≤ b → b < 8 → σ'.1 158 (((8 : Nat) : Int) * a + b) = 0) → fr_ (fun k => k = 158) σ σ' → K 2 [(0, bc_R 157), (1, bc_R 2), (2, bc_I i)] [] σ' 0 := by
    refine up_ind 8 (fun i hi σ' h0 h1 h2 h3 => ?_) (fun i hi ih σ' h0 h1 h2 h3 => ?_)
    · refine hK.1 [2, 39] 60 _ _ _ _ _ ?_
      refine bc_ob_i (by omega) ?_
      refine bc_br_i (fun c => by omega) (fun c => ?_)
      exact L2 0 _ (by omega) (by omega) (fun a b a0 a1 b0 b1 => h2 a b a0 (by omega) b0 b1) h3
    · have L0 : ∀ j : Int, ∀ σ' : bc_M, 0 ≤ j → j ≤ 8 → (∀ a b : Int, 0 ≤ a → a < i → 0 ≤ b → b < 8 → σ'.1 158 (((8 : Nat) : Int) * a + b) = 0) → (∀ b : Int, 0 ≤ b → b < j → σ'.1 158 (((8 : Nat) : Int) * i + b) = 0) → fr_ (fun k => k = 158) σ σ' → K 10 [(0, bc_R 157), (1, bc_R 2), (2, bc_I i), (3, bc_I j)] [] σ' 0 := by
        refine up_ind 8 (fun j hj σ' j0 j1 j2 j3 j4 => ?_) (fun j hj jh σ' j0 j1 j2 j3 j4 => ?_)
        · refine hK.1 [2, 10] 60 _ _ _ _ _ ?_
          refine bc_ob_i (by omega) ?_
          refine bc_br_i (fun c => by omega) (fun c => ?_)
          refine hK.2 _ _ [(0, bc_R 157), (1, bc_R 2), (2, bc_I (i + 1))] _ _ _ (ls_ _ _) ?_
          refine ih _ (by omega) (by omega) (fun a b a0 a1 b0 b1 => ?_) j4
          by_cases e : a = i
          · rw [e]; exact j3 b b0 (by omega)
          · exact j2 a b a0 (by omega) b0 b1
        · refine hK.1 [2, 10] 60 _ _ _ _ _ ?_
          refine bc_ob_i (by omega) ?_
          refine bc_br_i (fun c => ?_) (fun c => by omega)
          refine bc_ob_i (by omega) ?_
          refine bc_ob_i (by omega) ?_
          refine jh _ (by omega) (by omega) (fun a b a0 a1 b0 b1 => ?_) (fun b b0 b1 => ?_) (fr_trans j4 (fr_wr rfl))
          · have := j2 a b a0 a1 b0 b1
            simp only [bc_wr, if_true]
            split
            · rfl
            · exact this
          · simp only [bc_wr, if_true]
            by_cases e : b = j
            · rw [e]; simp
            · rw [if_neg (by omega)]
              exact j3 b b0 (by omega)
      refine hK.1 [2, 10] 60 _ _ _ _ _ ?_
      refine bc_ob_i (by omega) ?_
      refine bc_br_i (fun c => ?_) (fun c => by omega)
      exact L0 0 _ (by omega) (by omega) h2 (fun b b0 b1 => by omega) h3
  refine hK.1 [2] 40 _ _ _ _ _ ?_
  exact L1 0 _ (by omega) (by omega) (fun a b a0 a1 b0 b1 => by omega) (fr_refl _)
end WAY
end
section
/-! the widest way by growing -/
noncomputable def wo_ (w q : Int → Int) (p : Int × Int) (j : Int) : Int × Int := if q j = 0 ∧ p.2 < w j then (j, w j) else p
noncomputable def wp_ (w q : Int → Int) (k : Nat) : Int × Int := fo_ (fun j p => wo_ w q p j) (-1, 0) k
noncomputable def wn_ (w q : Int → Int) : Int := (wp_ w q 8).1
noncomputable abbrev wq_t := (Int → Int) × (Int → Int)
noncomputable def wg_ (f : gr_t) (s : wq_t) : wq_t := if wn_ s.1 s.2 = -1 then s else (fun j => max (s.1 j) (min (s.1 (wn_ s.1 s.2)) (f (wn_ s.1 s.2) j)), up_ s.2 (wn_ s.1 s.2) 1)
noncomputable def wi_ (f : gr_t) (a : Int) : wq_t := (f a, fun j => if j = a then 1 else 0)
noncomputable def wk_ (f : gr_t) (a : Int) (k : Nat) : wq_t := fo_ (fun _ s => wg_ f s) (wi_ f a) k
noncomputable def wb_ (f : gr_t) (a b : Int) : Int := (wk_ f a 7).1 b
theorem wp_le {w q : Int → Int} (h : lm_ w 99) (k : Nat) (hk : k ≤ 8) : (-1 ≤ (wp_ w q k).1 ∧ (wp_ w q k).1 < 8) ∧ 0 ≤ (wp_ w q k).2 ∧ (wp_ w q k).2 ≤ 99 := by
  unfold wp_
  refine fo_inv (n := 8) (P := fun p : Int × Int => (-1 ≤ p.1 ∧ p.1 < 8) ∧ 0 ≤ p.2 ∧ p.2 ≤ 99) (by decide) (fun i p i0 i1 hp => ?_) k hk
  have := h i i0 (by omega)
  unfold wo_
  split
  · exact ⟨⟨by simp only; omega, by simp only; omega⟩, by simp only; omega⟩
  · exact hp
theorem wg_le {f : gr_t} {s : wq_t} (hf : gl_ f 99) (h : lm_ s.1 99 ∧ lm_ s.2 1) : lm_ (wg_ f s).1 99 ∧ lm_ (wg_ f s).2 1 := by
  unfold wg_
  split
  · exact h
  · rename_i hn
    have hl := (wp_le (q := s.2) h.1 8 (by decide)).1
    refine ⟨fun j j0 j1 => ?_, lm_up h.2 (by decide)⟩
    have := h.1 j j0 j1
    unfold wn_ at *
    have h2 := hf (wp_ s.1 s.2 8).1 j (by omega) (by omega) j0 j1
    have h3 := h.1 (wp_ s.1 s.2 8).1 (by omega) (by omega)
    simp only
    omega
theorem wi_le {f : gr_t} {a : Int} (hf : gl_ f 99) (a0 : 0 ≤ a) (a1 : a < 8) : lm_ (wi_ f a).1 99 ∧ lm_ (wi_ f a).2 1 := by
  refine ⟨fun j j0 j1 => hf a j a0 a1 j0 j1, fun j j0 j1 => ?_⟩
  simp only [wi_]
  split <;> omega
theorem wk_le {f : gr_t} {a : Int} (hf : gl_ f 99) (a0 : 0 ≤ a) (a1 : a < 8) (k : Nat) : lm_ (wk_ f a k).1 99 ∧ lm_ (wk_ f a k).2 1 := by
  unfold wk_
  exact fo_inv (n := k) (P := fun s : wq_t => lm_ s.1 99 ∧ lm_ s.2 1) (wi_le hf a0 a1) (fun i s _ _ h => wg_le hf h) k (Nat.le_refl _)
theorem wb_le {f : gr_t} {a b : Int} (hf : gl_ f 99) (a0 : 0 ≤ a) (a1 : a < 8) (b0 : 0 ≤ b) (b1 : b < 8) : 0 ≤ wb_ f a b ∧ wb_ f a b ≤ 99 := (wk_le hf a0 a1 7).1 b b0 b1
theorem wb_stop {f : gr_t} {a b : Int} {k : Nat} (hk : k ≤ 7) (h : wn_ (wk_ f a k).1 (wk_ f a k).2 = -1) : (wk_ f a k).1 b = wb_ f a b := by
  unfold wb_ wk_
  rw [fo_fix (k := k) (fun i _ => ?_) 7 hk]
  show wg_ f (wk_ f a k) = wk_ f a k
  unfold wg_
  rw [if_pos h]
section WAY
variable {g : bc_C} {d : Nat} {σ : bc_M} {r : rw_t} {Rr : Option bc_A → bc_M → Prop} {X : Nat → bc_M → Prop} {f : gr_t}
theorem t_X9_widestOutside {w q : Int → Int} (hw : ar_ σ 167 w) (hq : ar_ σ 168 q) (lw : lm_ w 99) (lq : lm_ q 1) (h : Rr (some (bc_I (wn_ w q))) σ) : bc_Sem g (d + 1) mX9_widestOutside [bc_R 157] σ Rr X := by
  refine e_X9_widestOutside rfl (fun K hK => ?_)
  have L : ∀ i : Int, ∀ s t : Int, 0 ≤ i → i ≤ 8 → s = (wp_ w q i.toNat).1 → t = (wp_ w q i.toNat).2 → K 6 [(0, bc_R 157), (1, bc_I s), (2, bc_I t), (3, bc_I i)] [] σ 0 := by
    refine up_ind 8 (fun i hi s t h0 h1 h2 h3 => ?_) (fun i hi ih s t h0 h1 h2 h3 => ?_)
    · refine hK.1 [6] 60 _ _ _ _ _ ?_
      refine bc_ob_i (by omega) ?_
      refine bc_br_i (fun c => by omega) (fun c => ?_)
      have e : i = 8 := by omega
      refine rt_ h ?_
      rw [h2, e]
      rfl
    · have e1 := hw i h0 hi
      have e2 := hq i h0 hi
      have l1 := lw i h0 hi
      have l2 := lq i h0 hi
      have l3 := wp_le (q := q) lw i.toNat (by omega)
      have es : wp_ w q (i + 1).toNat = wo_ w q (wp_ w q i.toNat) i := fo_s h0
      have nxt : ∀ s' t', (s', t') = wo_ w q (wp_ w q i.toNat) i → K 6 [(0, bc_R 157), (1, bc_I s'), (2, bc_I t'), (3, bc_I (i + 1))] [] σ 0 := fun s' t' e => ih s' t' (by omega) (by omega) (by rw [es, ← e]) (by rw [es, ← e])
      unfold wo_ at nxt
      rw [← h2, ← h3] at l3
      refine hK.1 [6] 60 _ _ _ _ _ ?_
      repeat' first | refine bc_br_i (fun _ => ?_) (fun _ => ?_) | refine bc_ob_i (by omega) ?_
      all_goals first | (exfalso; omega) | (refine nxt _ _ ?_; rw [if_pos (by omega), e1]; done) | (refine nxt _ _ ?_; rw [if_neg (by omega), h2, h3])
  refine hK.1 [6] 40 _ _ _ _ _ ?_
  exact L 0 (-1) 0 (by omega) (by omega) rfl rfl
noncomputable abbrev wy_ (k : Nat) : Prop := k = 167 ∨ k = 168
theorem t_X9_widestByGrowing {a b : Int} (hf : sv_ σ 158 f) (lf : gl_ f 99) (a0 : 0 ≤ a) (a1 : a < 8) (b0 : 0 ≤ b) (b1 : b < 8) (h : ∀ σ' : bc_M, fr_ wy_ σ σ' → Rr (some (bc_I (wb_ f a b))) σ') : bc_Sem g (d + 2) mX9_widestByGrowing [bc_R 157, bc_I a, bc_I b] σ Rr X := by
  refine e_X9_widestByGrowing rfl (fun K hK => ?_)
  have L : ∀ i : Int, ∀ σ' : bc_M, 1 ≤ i → i ≤ 8 → ar_ σ' 167 (wk_ f a (i - 1).toNat).1 → ar_ σ' 168 (wk_ f a (i - 1).toNat).2 → fr_ wy_ σ σ' → K 46 [(0, bc_R 157), (1, bc_I a), (2, bc_I b), (3, bc_I i)] [] σ' 0 := by
    refine up_ind 8 (fun i hi σ' h0 h1 h2 h3 h4 => ?_) (fun i hi ih σ' h0 h1 h2 h3 h4 => ?_)
    · refine hK.1 [46] 60 _ _ _ _ _ ?_
      refine bc_ob_i (by omega) ?_
      refine bc_br_i (fun c => by omega) (fun c => ?_)
      refine bc_ob_i (by omega) ?_
      have e : i = 8 := by omega
      refine rt_ (h σ' h4) ?_
      rw [h2 b b0 b1, e]
      rfl
    · obtain ⟨l1, l2⟩ := wk_le (a := a) lf a0 a1 (i - 1).toNat
      have hl := (wp_le (q := (wk_ f a (i - 1).toNat).2) l1 8 (by decide)).1
      have es : wk_ f a (i + 1 - 1).toNat = wg_ f (wk_ f a (i - 1).toNat) := by
        have e : i + 1 - 1 = (i - 1) + 1 := by omega
        rw [e]
        exact fo_s (by omega)
      refine hK.1 [46, 82] 60 _ _ _ _ _ ?_
      refine bc_ob_i (by omega) ?_
      refine bc_br_i (fun c => ?_) (fun c => by omega)
      refine t_X9_widestOutside h2 h3 l1 l2 ?_
      rw [show (wp_ (wk_ f a (i - 1).toNat).1 (wk_ f a (i - 1).toNat).2 8).1 = wn_ (wk_ f a (i - 1).toNat).1 (wk_ f a (i - 1).toNat).2 from rfl] at hl
      generalize hz : wn_ (wk_ f a (i - 1).toNat).1 (wk_ f a (i - 1).toNat).2 = z at hl
      refine bc_ob_i (by omega) ?_
      refine bc_br_i (fun c => ?_) (fun c => ?_)
      · refine bc_ob_i (by omega) ?_
        refine rt_ (h σ' h4) ?_
        rw [h2 b b0 b1]
        exact wb_stop (by omega) (by rw [hz, c])
      · refine bc_ob_i (by omega) ?_
        refine bc_ob_i (by decide) ?_
        unfold wg_ at es
        rw [hz, if_neg c] at es
        generalize hw : (wk_ f a (i - 1).toNat).1 = w at *
        generalize hq : (wk_ f a (i - 1).toNat).2 = q at *
        have z0 : 0 ≤ z ∧ z < 8 := by omega
        have L0 : ∀ j : Int, ∀ σ'' : bc_M, 0 ≤ j → j ≤ 8 → ar_ σ'' 167 (fun k => if k < j then max (w k) (min (w z) (f z k)) else w k) → ar_ σ'' 168 (up_ q z 1) → fr_ wy_ σ σ'' → K 82 [(0, bc_R 157), (1, bc_I a), (2, bc_I b), (3, bc_I i), (4, bc_I z), (5, bc_I j)] [] σ'' 0 := by
          refine up_ind 8 (fun j hj σ'' j0 j1 j2 j3 j4 => ?_) (fun j hj jh σ'' j0 j1 j2 j3 j4 => ?_)
          · refine hK.1 [46, 82] 60 _ _ _ _ _ ?_
            refine bc_ob_i (by omega) ?_
            refine bc_br_i (fun c => by omega) (fun c => ?_)
            refine hK.2 _ _ [(0, bc_R 157), (1, bc_I a), (2, bc_I b), (3, bc_I (i + 1))] _ _ _ (ls_ _ _) ?_
            refine ih _ (by omega) (by omega) ?_ ?_ j4
            · rw [es]
              intro k k0 k1
              rw [j2 k k0 k1]
              simp only
              rw [if_pos (by omega)]
            · rw [es]
              exact j3
          · have lj := l1 j j0 hj
            have lz := l1 z z0.1 z0.2
            have lfz := lf z j z0.1 z0.2 j0 hj
            have e1 := j2 j j0 hj
            have e2 := j2 z z0.1 z0.2
            have e3 := sv_fr hf j4 (by decide) z j z0.1 z0.2 j0 hj
            simp only at e1 e2
            rw [if_neg (by omega)] at e1
            have e2 : σ''.1 167 z = w z := by
              rw [e2]
              split
              · omega
              · rfl
            have hy : bc_in (σ''.1 158 (((8 : Nat) : Int) * z + j)) := by constructor <;> omega
            have hm : bc_in (min (σ''.1 167 z) (σ''.1 158 (((8 : Nat) : Int) * z + j))) := by constructor <;> omega
            refine hK.1 [46, 82] 60 _ _ _ _ _ ?_
            refine bc_ob_i (by omega) ?_
            refine bc_br_i (fun c => ?_) (fun c => by omega)
            refine bc_ob_i (by omega) ?_
            refine bc_ob_i (by omega) ?_
            refine bc_ob_i (by omega) ?_
            refine bc_ob_i (by omega) ?_
            refine bc_ob_i ⟨by omega, hy, Nat.le_of_ble_eq_true rfl⟩ ?_
            refine bc_ob_i ⟨by omega, hm, Nat.le_of_ble_eq_true rfl⟩ ?_
            refine bc_ob_i (by omega) ?_
            refine jh _ (by omega) (by omega) (fun k k0 k1 => ?_) ?_ (fr_trans j4 (fr_wr (.inl rfl)))
            · simp only [bc_wr, if_true]
              by_cases ek : k = j
              · rw [if_pos ek, if_pos (by omega), ek, e1, e2, e3]
              · rw [if_neg ek, j2 k k0 k1]
                simp only
                by_cases kj : k < j
                · rw [if_pos kj, if_pos (by omega)]
                · rw [if_neg kj, if_neg (by omega)]
            · exact ar_fr j3 (fr_wr (P := fun k => k = 167) rfl) (by decide)
        refine L0 0 _ (by omega) (by omega) (fun k k0 k1 => ?_) (ar_wr h3) (fr_trans h4 (fr_wr (.inr rfl)))
        have := ar_fr h2 (fr_wr (P := fun k => k = 168) (k := 168) (j := z) (v := 1) rfl) (by decide) k k0 k1
        rw [this]
        simp only
        rw [if_neg (by omega)]
  have L1 : ∀ i : Int, ∀ σ' : bc_M, 0 ≤ i → i ≤ 8 → (∀ k : Int, 0 ≤ k → k < i → σ'.1 167 k = f a k) → (∀ k : Int, 0 ≤ k → k < i → σ'.1 168 k = if k = a then 1 else 0) → fr_ wy_ σ σ' → K 2 [(0, bc_R 157), (1, bc_I a), (2, bc_I b), (3, bc_I i)] [] σ' 0 := by
    refine up_ind 8 (fun i hi σ' h0 h1 h2 h3 h4 => ?_) (fun i hi ih σ' h0 h1 h2 h3 h4 => ?_)
    · refine hK.1 [2, 46] 60 _ _ _ _ _ ?_
      refine bc_ob_i (by omega) ?_
      refine bc_br_i (fun c => by omega) (fun c => ?_)
      exact L 1 _ (by omega) (by omega) (fun k k0 k1 => h2 k k0 (by omega)) (fun k k0 k1 => h3 k k0 (by omega)) h4
    · have e1 := sv_fr hf h4 (by decide) a i a0 a1 h0 hi
      have nxt : ∀ v : Int, v = (if i = a then 1 else 0) → K 2 [(0, bc_R 157), (1, bc_I a), (2, bc_I b), (3, bc_I (i + 1))] [] (bc_wr (bc_wr σ' 167 i (σ'.1 158 (((8 : Nat) : Int) * a + i))) 168 i v) 0 := fun v hv => by
        refine ih _ (by omega) (by omega) (fun k k0 k1 => ?_) (fun k k0 k1 => ?_) (fr_trans h4 (fr_trans (fr_wr (.inl rfl)) (fr_wr (.inr rfl))))
        · by_cases e : k = i
          · simp only [bc_wr]
            simp
            rw [if_pos e, e]
            exact e1
          · have := h2 k k0 (by omega)
            simp only [bc_wr]
            simp
            rw [if_neg e]
            exact this
        · by_cases e : k = i
          · simp only [bc_wr]
            simp
            rw [if_pos e, e]
            exact hv
          · have := h3 k k0 (by omega)
            simp only [bc_wr]
            simp
            rw [if_neg e]
            exact this
      refine hK.1 [2, 46] 60 _ _ _ _ _ ?_
      repeat' first | refine bc_br_i (fun _ => ?_) (fun _ => ?_) | refine bc_ob_i (by omega) ?_
      all_goals first | (exfalso; omega) | (refine nxt _ ?_; rw [if_pos (by omega)]; done) | (refine nxt _ ?_; rw [if_neg (by omega)])
  refine hK.1 [2] 40 _ _ _ _ _ ?_
  exact L1 0 _ (by omega) (by omega) (fun k k0 k1 => by omega) (fun k k0 k1 => by omega) (fr_refl _)
end WAY
end
section
/-! the shortest of the widest ways, mirrored -/
noncomputable def sp1_ (f : gr_t) (l : Int) (dd : Int → Int) (a : Int) : Int → Int := fun k => if l ≤ f a k then min (dd k) (dd a + 1) else dd k
noncomputable def mj_ (f : gr_t) (l c : Int) (dd : Int → Int) (k : Nat) : Int → Int := fo_ (fun j e => if e j = c then sp1_ f l e j else e) dd k
noncomputable def m0_ (t : Int) : Int → Int := fun j => if j = t then 0 else 8
noncomputable def mc_ (f : gr_t) (l t : Int) (k : Nat) : Int → Int := fo_ (fun c e => mj_ f l c e 8) (m0_ t) k
noncomputable def md_ (f : gr_t) (l t : Int) : Int → Int := mc_ f l t 7
noncomputable def lk_ (f : gr_t) (l : Int) (dd : Int → Int) (a : Int) (k : Nat) : Int := fo_ (fun j e => if e = -1 ∧ l ≤ f a j ∧ dd j < dd a then j else e) (-1) k
noncomputable def ln_ (f : gr_t) (l : Int) (dd : Int → Int) (a : Int) : Int := if lk_ f l dd a 8 = -1 then a else lk_ f l dd a 8
noncomputable abbrev jl_t := (Int → Int) × Int
noncomputable def js_ (f : gr_t) (l b : Int) (dd : Int → Int) (p : Int) (s : jl_t) : jl_t := if s.2 = p - 1 ∧ s.1 (p - 1) ≠ b then (up_ s.1 p (ln_ f l dd (s.1 (p - 1))), p) else s
noncomputable def jw_ (f : gr_t) (l a b : Int) (dd : Int → Int) (J : Int → Int) (k : Nat) : jl_t := fo_ (fun p s => js_ f l b dd (p + 1) s) (up_ J 0 a, 0) k
/-- the way that was found: its joints, its length -/
noncomputable def fw_ (f : gr_t) (a b : Int) (J : Int → Int) : jl_t := jw_ f (wb_ f a b) a b (md_ f (wb_ f a b) b) J 7
theorem js_no {f : gr_t} {l b p : Int} {dd : Int → Int} {s : jl_t} (h : ¬ (s.2 = p - 1 ∧ s.1 (p - 1) ≠ b)) : js_ f l b dd p s = s := if_neg h
theorem sp1_le {f : gr_t} {l a : Int} {dd : Int → Int} (h : lm_ dd 8) (a0 : 0 ≤ a) (a1 : a < 8) : lm_ (sp1_ f l dd a) 8 := fun j j0 j1 => by
  have := h j j0 j1
  have := h a a0 a1
  unfold sp1_
  split <;> omega
theorem mj_le {f : gr_t} {l c : Int} {dd : Int → Int} (h : lm_ dd 8) (k : Nat) (hk : k ≤ 8) : lm_ (mj_ f l c dd k) 8 := by
  unfold mj_
  refine fo_inv (n := 8) (P := fun e => lm_ e 8) h (fun i e i0 i1 he => ?_) k hk
  split
  · exact sp1_le he i0 (by omega)
  · exact he
theorem mc_le {f : gr_t} {l t : Int} (k : Nat) : lm_ (mc_ f l t k) 8 := by
  unfold mc_
  refine fo_inv (n := k) (P := fun e => lm_ e 8) (fun j j0 j1 => by unfold m0_; split <;> omega) (fun i e i0 i1 he => mj_le he 8 (Nat.le_refl _)) k (Nat.le_refl _)
theorem lk_le {f : gr_t} {l a : Int} {dd : Int → Int} (k : Nat) (hk : k ≤ 8) : -1 ≤ lk_ f l dd a k ∧ lk_ f l dd a k < 8 := by
  unfold lk_
  refine fo_inv (n := 8) (P := fun e : Int => -1 ≤ e ∧ e < 8) (by decide) (fun i e i0 i1 he => ?_) k hk
  split <;> omega
theorem ln_le {f : gr_t} {l a : Int} {dd : Int → Int} (a0 : 0 ≤ a) (a1 : a < 8) : 0 ≤ ln_ f l dd a ∧ ln_ f l dd a < 8 := by
  have := lk_le (f := f) (l := l) (a := a) (dd := dd) 8 (by decide)
  unfold ln_
  split <;> omega
theorem jw_le {f : gr_t} {l a b : Int} {dd J : Int → Int} (hJ : lm_ J 7) (a0 : 0 ≤ a) (a1 : a < 8) (k : Nat) (hk : k ≤ 7) : lm_ (jw_ f l a b dd J k).1 7 ∧ 0 ≤ (jw_ f l a b dd J k).2 ∧ (jw_ f l a b dd J k).2 ≤ 7 := by
  unfold jw_
  refine fo_inv (n := 7) (P := fun s : jl_t => lm_ s.1 7 ∧ 0 ≤ s.2 ∧ s.2 ≤ 7) ⟨lm_up hJ (by omega), Int.le_refl _, show (0 : Int) ≤ 7 by decide⟩ (fun i s i0 i1 hs => ?_) k hk
  unfold js_
  split
  · have := hs.1 (i + 1 - 1) (by omega) (by omega)
    have := ln_le (f := f) (l := l) (dd := dd) (a := s.1 (i + 1 - 1)) (by omega) (by omega)
    exact ⟨lm_up hs.1 (by omega), by simp only; omega, by simp only; omega⟩
  · exact hs
theorem jw_stop {f : gr_t} {l a b : Int} {dd J : Int → Int} {k : Nat} (hk : k ≤ 7) (h : (jw_ f l a b dd J k).2 < k ∨ (jw_ f l a b dd J k).1 k = b) (h2 : (jw_ f l a b dd J k).2 ≤ k) : jw_ f l a b dd J 7 = jw_ f l a b dd J k := by
  refine fo_fix (f := fun p s => js_ f l b dd (p + 1) s) (a := (up_ J 0 a, 0)) (k := k) (fun i hi => js_no (fun c => ?_)) 7 hk
  obtain ⟨c1, c2⟩ : (jw_ f l a b dd J k).2 = i + 1 - 1 ∧ (jw_ f l a b dd J k).1 (i + 1 - 1) ≠ b := c
  rcases h with h | h
  · omega
  · have e : i = k := by omega
    rw [e] at c2
    exact c2 (by rw [show (k : Int) + 1 - 1 = k by omega]; exact h)
section WAY
variable {g : bc_C} {d : Nat} {σ : bc_M} {r : rw_t} {Rr : Option bc_A → bc_M → Prop} {X : Nat → bc_M → Prop} {f : gr_t}
theorem t_X9_spread {a l : Int} {dd : Int → Int} (hf : sv_ σ 158 f) (lf : gl_ f 99) (hd : ar_ σ 169 dd) (ld : lm_ dd 8) (a0 : 0 ≤ a) (a1 : a < 8) (hl : bc_in l) (h : ∀ σ' : bc_M, ar_ σ' 169 (sp1_ f l dd a) → fr_ (fun k => k = 169) σ σ' → Rr none σ') : bc_Sem g (d + 1) mX9_spread [bc_R 157, bc_I a, bc_I l] σ Rr X := by
  obtain ⟨q0, q1⟩ := hl
  refine e_X9_spread rfl (fun K hK => ?_)
  have L : ∀ i : Int, ∀ σ' : bc_M, 0 ≤ i → i ≤ 8 → ar_ σ' 169 (fun k => if k < i then sp1_ f l dd a k else dd k) → fr_ (fun k => k = 169) σ σ' → K 2 [(0, bc_R 157), (1, bc_I a), (2, bc_I l), (3, bc_I i)] [] σ' 0 := by
    refine up_ind 8 (fun i hi σ' h0 h1 h2 h3 => ?_) (fun i hi ih σ' h0 h1 h2 h3 => ?_)
    · refine hK.1 [2] 60 _ _ _ _ _ ?_
      refine bc_ob_i (by omega) ?_
      refine bc_br_i (fun c => by omega) (fun c => ?_)
      refine h σ' (fun k k0 k1 => ?_) h3
      rw [h2 k k0 k1]
      simp only
      rw [if_pos (by omega)]
    · have e1 := sv_fr hf h3 (by decide) a i a0 a1 h0 hi
      have e2 := h2 i h0 hi
      have e3 := h2 a a0 a1
      have li := ld i h0 hi
      have la := ld a a0 a1
      have lfi := lf a i a0 a1 h0 hi
      simp only at e2 e3
      rw [if_neg (by omega)] at e2
      have e3 : σ'.1 169 a = dd a := by
        rw [e3]
        unfold sp1_
        split
        · split <;> omega
        · rfl
      have hy : bc_in (σ'.1 158 (((8 : Nat) : Int) * a + i)) := by constructor <;> omega
      have nxt : ∀ σ'', ar_ σ'' 169 (up_ (fun k => if k < i then sp1_ f l dd a k else dd k) i (sp1_ f l dd a i)) → fr_ (fun k => k = 169) σ' σ'' → K 2 [(0, bc_R 157), (1, bc_I a), (2, bc_I l), (3, bc_I (i + 1))] [] σ'' 0 := fun σ'' hs hfr => by
        refine ih _ (by omega) (by omega) (fun k k0 k1 => ?_) (fr_trans h3 hfr)
        rw [hs k k0 k1]
        unfold up_
        simp only
        by_cases e : k = i
        · rw [if_pos e, if_pos (by omega), e]
        · rw [if_neg e]
          by_cases e' : k < i
          · rw [if_pos e', if_pos (by omega)]
          · rw [if_neg e', if_neg (by omega)]
      refine hK.1 [2] 60 _ _ _ _ _ ?_
      refine bc_ob_i (by omega) ?_
      refine bc_br_i (fun c => ?_) (fun c => by omega)
      refine bc_ob_i (by omega) ?_
      refine bc_ob_i (by omega) ?_
      refine bc_ob_i ⟨hy, q0, q1⟩ ?_
      refine bc_br_i (fun c => ?_) (fun c => ?_)
      · refine nxt _ ?_ (fr_refl _)
        have c' : σ'.1 158 (((8 : Nat) : Int) * a + i) < l := c
        intro k k0 k1
        rw [h2 k k0 k1]
        unfold up_
        simp only
        by_cases e : k = i
        · rw [if_pos e, if_neg (by omega), e]
          unfold sp1_
          rw [if_neg (by omega)]
        · rw [if_neg e]
      · have c' : ¬ σ'.1 158 (((8 : Nat) : Int) * a + i) < l := c
        refine bc_ob_i (by omega) ?_
        refine bc_ob_i (by omega) ?_
        refine bc_ob_i ⟨by omega, by omega, Nat.le_of_ble_eq_true rfl⟩ ?_
        refine bc_ob_i (by omega) ?_
        refine nxt _ ?_ (fr_wr rfl)
        have e5 : sp1_ f l dd a i = min (σ'.1 169 i) (σ'.1 169 a + 1) := by
          unfold sp1_
          rw [if_pos (by omega), e2, e3]
        rw [e5]
        exact ar_wr h2
  refine hK.1 [2] 40 _ _ _ _ _ ?_
  exact L 0 _ (by omega) (by omega) (fun k k0 k1 => by rw [hd k k0 k1]; simp only; rw [if_neg (by omega)]) (fr_refl _)
theorem t_X9_measureFrom {t l : Int} (hf : sv_ σ 158 f) (lf : gl_ f 99) (t0 : bc_in t) (hl : bc_in l) (h : ∀ σ' : bc_M, ar_ σ' 169 (md_ f l t) → fr_ (fun k => k = 169) σ σ' → Rr none σ') : bc_Sem g (d + 2) mX9_measureFrom [bc_R 157, bc_I t, bc_I l] σ Rr X := by
  obtain ⟨q0, q1⟩ := t0
  refine e_X9_measureFrom rfl (fun K hK => ?_)
  have L : ∀ i : Int, ∀ σ' : bc_M, 0 ≤ i → i ≤ 7 → ar_ σ' 169 (mc_ f l t i.toNat) → fr_ (fun k => k = 169) σ σ' → K 33 [(0, bc_R 157), (1, bc_I t), (2, bc_I l), (3, bc_I i)] [] σ' 0 := by
    refine up_ind 7 (fun i hi σ' h0 h1 h2 h3 => ?_) (fun i hi ih σ' h0 h1 h2 h3 => ?_)
    · refine hK.1 [33] 60 _ _ _ _ _ ?_
      refine bc_ob_i (by omega) ?_
      refine bc_br_i (fun c => by omega) (fun c => ?_)
      have e : i = 7 := by omega
      rw [e] at h2
      exact h σ' h2 h3
    · have es : mc_ f l t (i + 1).toNat = mj_ f l i (mc_ f l t i.toNat) 8 := fo_s h0
      have L0 : ∀ j : Int, ∀ σ' : bc_M, 0 ≤ j → j ≤ 8 → ar_ σ' 169 (mj_ f l i (mc_ f l t i.toNat) j.toNat) → fr_ (fun k => k = 169) σ σ' → K 42 [(0, bc_R 157), (1, bc_I t), (2, bc_I l), (3, bc_I i), (4, bc_I j)] [] σ' 0 := by
        refine up_ind 8 (fun j hj σ' j0 j1 j2 j3 => ?_) (fun j hj jh σ' j0 j1 j2 j3 => ?_)
        · refine hK.1 [33, 42] 60 _ _ _ _ _ ?_
          refine bc_ob_i (by omega) ?_
          refine bc_br_i (fun c => by omega) (fun c => ?_)
          refine hK.2 _ _ [(0, bc_R 157), (1, bc_I t), (2, bc_I l), (3, bc_I (i + 1))] _ _ _ (ls_ _ _) ?_
          refine ih _ (by omega) (by omega) ?_ j3
          have e : j = 8 := by omega
          rw [e] at j2
          rw [es]
          exact j2
        · have ej : mj_ f l i (mc_ f l t i.toNat) (j + 1).toNat = if mj_ f l i (mc_ f l t i.toNat) j.toNat j = i then sp1_ f l (mj_ f l i (mc_ f l t i.toNat) j.toNat) j else mj_ f l i (mc_ f l t i.toNat) j.toNat := fo_s j0
          have lj := mj_le (f := f) (l := l) (c := i) (mc_le (f := f) (l := l) (t := t) i.toNat) j.toNat (by omega)
          have e1 := j2 j j0 hj
          have l1 := lj j j0 hj
          refine hK.1 [33, 42] 60 _ _ _ _ _ ?_
          refine bc_ob_i (by omega) ?_
          refine bc_br_i (fun c => ?_) (fun c => by omega)
          refine bc_ob_i (by omega) ?_
          refine bc_ob_i (by omega) ?_
          refine bc_br_i (fun c => ?_) (fun c => ?_)
          · refine t_X9_spread (sv_fr hf j3 (by decide)) lf j2 lj j0 hj hl (fun σ'' s1 s2 => ?_)
            refine jh _ (by omega) (by omega) ?_ (fr_trans j3 s2)
            rw [ej, if_pos (by omega)]
            exact s1
          · refine jh _ (by omega) (by omega) ?_ j3
            rw [ej, if_neg (by omega)]
            exact j2
      refine hK.1 [33, 42] 60 _ _ _ _ _ ?_
      refine bc_ob_i (by omega) ?_
      refine bc_br_i (fun c => ?_) (fun c => by omega)
      exact L0 0 _ (by omega) (by omega) h2 h3
  have L1 : ∀ i : Int, ∀ σ' : bc_M, 0 ≤ i → i ≤ 8 → (∀ k : Int, 0 ≤ k → k < i → σ'.1 169 k = m0_ t k) → fr_ (fun k => k = 169) σ σ' → K 2 [(0, bc_R 157), (1, bc_I t), (2, bc_I l), (3, bc_I i)] [] σ' 0 := by
    refine up_ind 8 (fun i hi σ' h0 h1 h2 h3 => ?_) (fun i hi ih σ' h0 h1 h2 h3 => ?_)
    · refine hK.1 [2, 33] 60 _ _ _ _ _ ?_
      refine bc_ob_i (by omega) ?_
      refine bc_br_i (fun c => by omega) (fun c => ?_)
      exact L 0 _ (by omega) (by omega) (fun k k0 k1 => h2 k k0 (by omega)) h3
    · have nxt : ∀ v : Int, v = m0_ t i → K 2 [(0, bc_R 157), (1, bc_I t), (2, bc_I l), (3, bc_I (i + 1))] [] (bc_wr σ' 169 i v) 0 := fun v hv => by
        refine ih _ (by omega) (by omega) (fun k k0 k1 => ?_) (fr_trans h3 (fr_wr rfl))
        by_cases e : k = i
        · simp only [bc_wr]
          simp
          rw [if_pos e, e]
          exact hv
        · have := h2 k k0 (by omega)
          simp only [bc_wr]
          simp
          rw [if_neg e]
          exact this
      unfold m0_ at nxt
      refine hK.1 [2, 33] 60 _ _ _ _ _ ?_
      repeat' first | refine bc_br_i (fun _ => ?_) (fun _ => ?_) | refine bc_ob_i (by omega) ?_
      all_goals first | (exfalso; omega) | (refine nxt _ ?_; rw [if_pos (by omega)]; done) | (refine nxt _ ?_; rw [if_neg (by omega)])
  refine hK.1 [2] 40 _ _ _ _ _ ?_
  exact L1 0 _ (by omega) (by omega) (fun k k0 k1 => by omega) (fr_refl _)
theorem t_X9_lowestNearer {a l : Int} {dd : Int → Int} (hf : sv_ σ 158 f) (lf : gl_ f 99) (hd : ar_ σ 169 dd) (ld : lm_ dd 8) (a0 : 0 ≤ a) (a1 : a < 8) (hl : bc_in l) (h : Rr (some (bc_I (ln_ f l dd a))) σ) : bc_Sem g (d + 1) mX9_lowestNearer [bc_R 157, bc_I a, bc_I l] σ Rr X := by
  obtain ⟨q0, q1⟩ := hl
  refine e_X9_lowestNearer rfl (fun K hK => ?_)
  have L : ∀ i : Int, 0 ≤ i → i ≤ 8 → lk_ f l dd a i.toNat = -1 → K 2 [(0, bc_R 157), (1, bc_I a), (2, bc_I l), (3, bc_I i)] [] σ 0 := by
    refine up_ind 8 (fun i hi h0 h1 h2 => ?_) (fun i hi ih h0 h1 h2 => ?_)
    · refine hK.1 [2] 60 _ _ _ _ _ ?_
      refine bc_ob_i (by omega) ?_
      refine bc_br_i (fun c => by omega) (fun c => ?_)
      have e : i = 8 := by omega
      rw [e] at h2
      refine rt_ h ?_
      unfold ln_
      exact (if_pos h2).symm
    · have es : lk_ f l dd a (i + 1).toNat = if lk_ f l dd a i.toNat = -1 ∧ l ≤ f a i ∧ dd i < dd a then i else lk_ f l dd a i.toNat := fo_s h0
      have e1 := hf a i a0 a1 h0 hi
      have e2 := hd i h0 hi
      have e3 := hd a a0 a1
      have li := ld i h0 hi
      have la := ld a a0 a1
      have lfi := lf a i a0 a1 h0 hi
      have hy : bc_in (σ.1 158 (((8 : Nat) : Int) * a + i)) := by constructor <;> omega
      have nxt : ¬ (l ≤ f a i ∧ dd i < dd a) → K 2 [(0, bc_R 157), (1, bc_I a), (2, bc_I l), (3, bc_I (i + 1))] [] σ 0 := fun c => ih (by omega) (by omega) (by rw [es, if_neg (by intro q; exact c q.2), h2])
      refine hK.1 [2] 60 _ _ _ _ _ ?_
      refine bc_ob_i (by omega) ?_
      refine bc_br_i (fun c => ?_) (fun c => by omega)
      refine bc_ob_i (by omega) ?_
      refine bc_ob_i (by omega) ?_
      refine bc_ob_i ⟨hy, q0, q1⟩ ?_
      refine bc_br_i (fun c => ?_) (fun c => ?_)
      · have c' : σ.1 158 (((8 : Nat) : Int) * a + i) < l := c
        exact nxt (by omega)
      · have c' : ¬ σ.1 158 (((8 : Nat) : Int) * a + i) < l := c
        refine bc_ob_i (by omega) ?_
        refine bc_ob_i (by omega) ?_
        refine bc_ob_i (by omega) ?_
        refine bc_br_i (fun c2 => ?_) (fun c2 => ?_)
        · refine rt_ h ?_
          have ek : lk_ f l dd a (i + 1).toNat = i := by rw [es, if_pos ⟨h2, by omega, by omega⟩]
          have e8 : lk_ f l dd a 8 = i := by
            rw [← ek]
            unfold lk_
            refine fo_fix (fun m hm => ?_) 8 (by omega)
            rw [if_neg]
            intro q
            have : lk_ f l dd a (i + 1).toNat = -1 := q.1
            omega
          unfold ln_
          rw [e8, if_neg (by omega)]
        · exact nxt (by omega)
  refine hK.1 [2] 40 _ _ _ _ _ ?_
  exact L 0 (by omega) (by omega) rfl
end WAY
end
section
/-! the best way; the bits of the links -/
noncomputable def lb_ (f : gr_t) (i : Int) (b : Int64) (j : Int) : Int64 := if 0 < f i j then b ||| ((1 : Int64) <<< ((Int32.ofInt (8 * i + j)).toInt64 &&& 63)) else b
noncomputable def lr_ (f : gr_t) (b : Int64) (i : Int) (k : Nat) : Int64 := fo_ (fun j b => lb_ f i b j) b k
noncomputable def lf_ (f : gr_t) (k : Nat) : Int64 := fo_ (fun i b => lr_ f b i 8) 0 k
section WAY
variable {g : bc_C} {d : Nat} {σ : bc_M} {r : rw_t} {Rr : Option bc_A → bc_M → Prop} {X : Nat → bc_M → Prop} {f : gr_t}
noncomputable abbrev wx_ (k : Nat) : Prop := k = 157 ∨ (167 ≤ k ∧ k ≤ 170)
/-- what stands after a search: J, n are what stood before -/
noncomputable def fz_ (f : gr_t) (a b : Int) (J : Int → Int) : jl_t := if wb_ f a b = 0 then (J, 0) else fw_ f a b J
theorem t_X9_findBest {a b : Int} {J : Int → Int} (hf : sv_ σ 158 f) (lf : gl_ f 99) (hJ : ar_ σ 170 J) (lJ : lm_ J 7) (a0 : 0 ≤ a) (a1 : a < 8) (b0 : 0 ≤ b) (b1 : b < 8) (h : ∀ σ' : bc_M, fr_ wx_ σ σ' → ar_ σ' 170 (fz_ f a b J).1 → σ'.1 157 ((5 : Nat) : Int) = (fz_ f a b J).2 → Rr (some (bc_I (wb_ f a b))) σ') : bc_Sem g (d + 3) mX9_findBest [bc_R 157, bc_I a, bc_I b] σ Rr X := by
  refine e_X9_findBest rfl (fun K hK => ?_)
  refine hK.1 [34] 60 _ _ _ _ _ ?_
  refine t_X9_widestByGrowing (sv_fr hf (fr_wr (P := fun k => k = 157) rfl) (by decide)) lf a0 a1 b0 b1 (fun σ1 f1 => ?_)
  have hl := wb_le lf a0 a1 b0 b1
  have F1 : fr_ wx_ σ σ1 := fr_trans (fr_wr (.inl rfl)) (fr_mono f1 (by omega))
  have z1 : σ1.1 157 ((5 : Nat) : Int) = 0 := by
    rw [f1.1 157 (by decide)]
    simp [bc_wr]
  have J1 : ar_ σ1 170 J := ar_fr (ar_fr hJ (fr_wr (P := fun k => k = 157) rfl) (by decide)) f1 (by decide)
  have S1 : sv_ σ1 158 f := sv_fr hf F1 (by decide)
  refine bc_ob_i (by omega) ?_
  refine bc_br_i (fun c => ?_) (fun c => ?_)
  · have e : fz_ f a b J = (J, 0) := if_pos c
    exact rt_ (h σ1 F1 (by rw [e]; exact J1) (by rw [e]; exact z1)) c.symm
  · have e : fz_ f a b J = fw_ f a b J := if_neg c
    rw [e] at h
    unfold fw_ at h
    generalize hw : wb_ f a b = l at *
    refine t_X9_measureFrom S1 lf (by constructor <;> omega) (by constructor <;> omega) (fun σ2 d2 f2 => ?_)
    refine bc_ob_i (by decide) ?_
    have J2 : ar_ (bc_wr σ2 170 0 a) 170 (up_ J 0 a) := ar_wr (ar_fr J1 f2 (by decide))
    have F2 : fr_ wx_ σ (bc_wr σ2 170 0 a) := fr_trans F1 (fr_trans (fr_mono f2 (by omega)) (fr_wr (by omega)))
    have z2 : (bc_wr σ2 170 0 a).1 157 ((5 : Nat) : Int) = 0 := by
      simp [bc_wr]
      rw [f2.1 157 (by decide)]
      exact z1
    have D2 : ar_ (bc_wr σ2 170 0 a) 169 (md_ f l b) := ar_fr d2 (fr_wr (P := fun k => k = 170) rfl) (by decide)
    have ldd : lm_ (md_ f l b) 8 := mc_le 7
    generalize hdd : md_ f l b = dd at *
    have L : ∀ i : Int, ∀ σ' : bc_M, 1 ≤ i → i ≤ 8 → ar_ σ' 170 (jw_ f l a b dd J (i - 1).toNat).1 → σ'.1 157 ((5 : Nat) : Int) = (jw_ f l a b dd J (i - 1).toNat).2 → (jw_ f l a b dd J (i - 1).toNat).2 = i - 1 → ar_ σ' 169 dd → fr_ wx_ σ σ' → K 34 [(0, bc_R 157), (1, bc_I a), (2, bc_I b), (3, bc_I l), (4, bc_I i)] [] σ' 0 := by
      refine up_ind 8 (fun i hi σ' h0 h1 h2 h3 h4 h5 h6 => ?_) (fun i hi ih σ' h0 h1 h2 h3 h4 h5 h6 => ?_)
      · refine hK.1 [34] 60 _ _ _ _ _ ?_
        refine bc_ob_i (by omega) ?_
        refine bc_br_i (fun c => by omega) (fun _ => ?_)
        have e : i = 8 := by omega
        rw [e] at h2 h3
        exact h σ' h6 h2 h3
      · have lw := (jw_le (f := f) (l := l) (b := b) (dd := dd) lJ a0 a1 (i - 1).toNat (by omega)).1
        have es : jw_ f l a b dd J (i + 1 - 1).toNat = js_ f l b dd (i - 1 + 1) (jw_ f l a b dd J (i - 1).toNat) := by
          rw [show i + 1 - 1 = (i - 1) + 1 by omega]
          exact fo_s (by omega)
        rw [show i - 1 + 1 = i by omega] at es
        have l1 := lw (i - 1) (by omega) (by omega)
        have e1 := h2 (i - 1) (by omega) (by omega)
        refine hK.1 [34] 60 _ _ _ _ _ ?_
        refine bc_ob_i (by omega) ?_
        refine bc_br_i (fun c => ?_) (fun c => by omega)
        refine bc_ob_i (by omega) ?_
        refine bc_ob_i (by omega) ?_
        refine bc_br_i (fun c => ?_) (fun c => ?_)
        · have hstop := jw_stop (f := f) (l := l) (a := a) (b := b) (dd := dd) (J := J) (k := (i - 1).toNat) (by omega) (.inr (by rw [Int.toNat_of_nonneg (by omega)]; omega)) (by omega)
          refine h σ' h6 ?_ ?_
          · rw [hstop]; exact h2
          · rw [hstop]; exact h3
        · have ej : jw_ f l a b dd J (i + 1 - 1).toNat = (up_ (jw_ f l a b dd J (i - 1).toNat).1 i (ln_ f l dd ((jw_ f l a b dd J (i - 1).toNat).1 (i - 1))), i) := by
            rw [es]
            exact if_pos ⟨h4, by omega⟩
          refine bc_ob_i (by omega) ?_
          have hs := ln_le (f := f) (l := l) (dd := dd) (a := σ'.1 170 (i - 1)) (by omega) (by omega)
          refine t_X9_lowestNearer (sv_fr hf h6 (by decide)) lf h5 ldd (by omega) (by omega) (by constructor <;> omega) ?_
          refine bc_ob_i (by omega) ?_
          refine ih _ (by omega) (by omega) ?_ ?_ ?_ ?_ (fr_trans h6 (fr_trans (fr_wr (by omega)) (fr_wr (by omega))))
          · rw [ej]
            refine ar_fr ?_ (fr_wr (P := fun k => k = 157) rfl) (by decide)
            rw [e1]
            exact ar_wr h2
          · rw [ej]
            simp [bc_wr]
          · rw [ej]
            simp only
            omega
          · exact ar_fr h5 (fr_trans (fr_wr (P := fun k => k = 157 ∨ k = 170) (by omega)) (fr_wr (by omega))) (by decide)
    exact L 1 _ (by omega) (by omega) J2 z2 rfl D2 F2
theorem t_X9_linkBits (hf : sv_ σ 158 f) (lf : gl_ f 99) (h : Rr (some (bc_J (lf_ f 8))) σ) : bc_Sem g (d + 1) mX9_linkBits [bc_R 157] σ Rr X := by
  refine e_X9_linkBits rfl (fun K hK => ?_)
  have L : ∀ i : Int, ∀ x : Int64, 0 ≤ i → i ≤ 8 → x = lf_ f i.toNat → K 4 [(0, bc_R 157), (1, bc_J x), (3, bc_I i)] [] σ 0 := by
    refine up_ind 8 (fun i hi x h0 h1 h2 => ?_) (fun i hi ih x h0 h1 h2 => ?_)
    · refine hK.1 [4] 60 _ _ _ _ _ ?_
      refine bc_ob_i (by omega) ?_
      refine bc_br_i (fun c => by omega) (fun c => ?_)
      have e : i = 8 := by omega
      rw [h2, e]
      exact h
    · have es : lf_ f (i + 1).toNat = lr_ f (lf_ f i.toNat) i 8 := fo_s h0
      have L0 : ∀ j : Int, ∀ x : Int64, 0 ≤ j → j ≤ 8 → x = lr_ f (lf_ f i.toNat) i j.toNat → K 13 [(0, bc_R 157), (1, bc_J x), (3, bc_I i), (4, bc_I j)] [] σ 0 := by
        refine up_ind 8 (fun j hj x j0 j1 j2 => ?_) (fun j hj jh x j0 j1 j2 => ?_)
        · refine hK.1 [4, 13] 60 _ _ _ _ _ ?_
          refine bc_ob_i (by omega) ?_
          refine bc_br_i (fun c => by omega) (fun c => ?_)
          refine hK.2 _ _ [(0, bc_R 157), (1, bc_J x), (3, bc_I (i + 1))] _ _ _ (ls_ _ _) ?_
          have e : j = 8 := by omega
          exact ih x (by omega) (by omega) (by rw [es, j2, e]; rfl)
        · have ej : lr_ f (lf_ f i.toNat) i (j + 1).toNat = lb_ f i (lr_ f (lf_ f i.toNat) i j.toNat) j := fo_s j0
          have e1 := hf i j h0 hi j0 hj
          have l1 := lf i j h0 hi j0 hj
          have hy : bc_in (σ.1 158 (((8 : Nat) : Int) * i + j)) := by constructor <;> omega
          have nxt : ∀ y, y = lb_ f i x j → K 13 [(0, bc_R 157), (1, bc_J y), (3, bc_I i), (4, bc_I (j + 1))] [] σ 0 := fun y e => jh y (by omega) (by omega) (by rw [ej, e, j2])
          unfold lb_ at nxt
          refine hK.1 [4, 13] 60 _ _ _ _ _ ?_
          refine bc_ob_i (by omega) ?_
          refine bc_br_i (fun c => ?_) (fun c => by omega)
          refine bc_ob_i (by omega) ?_
          refine bc_ob_i (by omega) ?_
          refine bc_ob_i hy ?_
          refine bc_br_i (fun c => ?_) (fun c => ?_)
          · have c' : 0 < σ.1 158 (((8 : Nat) : Int) * i + j) := c
            refine nxt _ ?_
            rw [if_pos (by omega)]
            rfl
          · have c' : ¬ 0 < σ.1 158 (((8 : Nat) : Int) * i + j) := c
            exact nxt _ (by rw [if_neg (by omega)])
      refine hK.1 [4, 13] 60 _ _ _ _ _ ?_
      refine bc_ob_i (by omega) ?_
      refine bc_br_i (fun c => ?_) (fun c => by omega)
      exact L0 0 x (by omega) (by omega) h2
  refine hK.1 [4] 40 _ _ _ _ _ ?_
  exact L 0 _ (by omega) (by omega) rfl
end WAY
end
section
/-! the search for critical members, mirrored: numbers, lowest, how many were numbered -/
noncomputable abbrev vs_t := (Int → Int) × (Int → Int) × Int
noncomputable def vx_ (V : Int → Int → vs_t → vs_t) (f : gr_t) (a c i : Int) (s : vs_t) : vs_t := if i = c ∨ f a i = 0 then s else if s.1 i = 0 then ((V i a s).1, up_ (V i a s).2.1 a (min ((V i a s).2.1 a) ((V i a s).2.1 i)), (V i a s).2.2) else (s.1, up_ s.2.1 a (min (s.2.1 a) (s.1 i)), s.2.2)
noncomputable def vz_ (a : Int) (s : vs_t) : vs_t := (up_ s.1 a (s.2.2 + 1), up_ s.2.1 a (s.2.2 + 1), s.2.2 + 1)
noncomputable def vi_ (f : gr_t) : Nat → Int → Int → vs_t → vs_t
  | 0, _, _, s => s
  | n + 1, a, c, s => fo_ (fun i s => vx_ (vi_ f n) f a c i s) (vz_ a s) 8
noncomputable def vt_ : Nat → Int
  | 0 => 0
  | n + 1 => 1 + 8 * vt_ n
noncomputable def vo_ (s : vs_t) : Prop := lm_ s.1 s.2.2 ∧ lm_ s.2.1 s.2.2
noncomputable def cr_ (σ : bc_M) (s : vs_t) : Prop := ar_ σ 172 s.1 ∧ ar_ σ 173 s.2.1 ∧ σ.1 171 ((2 : Nat) : Int) = s.2.2
noncomputable def se_ (f : gr_t) (a b : Int) : Int := if (vi_ f 8 a (-1) (fun _ => 0, fun _ => 0, 0)).1 a < (vi_ f 8 a (-1) (fun _ => 0, fun _ => 0, 0)).2.1 b then 1 else 0
theorem lm_mono {f : Int → Int} {m n : Int} (h : lm_ f m) (e : m ≤ n) : lm_ f n := fun j a b => by have := h j a b; omega
theorem vt_0 (n : Nat) : 0 ≤ vt_ n := by
  induction n with
  | zero => decide
  | succ n ih => show 0 ≤ 1 + 8 * vt_ n; omega
theorem vz_le {a : Int} {s : vs_t} (h : vo_ s) (h0 : 0 ≤ s.2.2) : vo_ (vz_ a s) := ⟨lm_up (lm_mono h.1 (by simp only [vz_]; omega)) (by simp only [vz_]; omega), lm_up (lm_mono h.2 (by simp only [vz_]; omega)) (by simp only [vz_]; omega)⟩
theorem vx_le {V : Int → Int → vs_t → vs_t} {f : gr_t} {a c i t : Int} {s : vs_t} (ht : 0 ≤ t) (hV : ∀ i s, 0 ≤ i → i < 8 → vo_ s → 0 ≤ s.2.2 → vo_ (V i a s) ∧ s.2.2 ≤ (V i a s).2.2 ∧ (V i a s).2.2 ≤ s.2.2 + t) (a0 : 0 ≤ a) (a1 : a < 8) (i0 : 0 ≤ i) (i1 : i < 8) (h : vo_ s) (h0 : 0 ≤ s.2.2) : vo_ (vx_ V f a c i s) ∧ s.2.2 ≤ (vx_ V f a c i s).2.2 ∧ (vx_ V f a c i s).2.2 ≤ s.2.2 + t := by
  unfold vx_
  split
  · exact ⟨h, Int.le_refl _, by omega⟩
  · split
    · obtain ⟨q1, q2, q3⟩ := hV i s i0 i1 h h0
      have l1 := q1.2 a a0 a1
      have l2 := q1.2 i i0 i1
      exact ⟨⟨q1.1, lm_up q1.2 (by simp only; omega)⟩, q2, q3⟩
    · have l1 := h.2 a a0 a1
      have l2 := h.1 i i0 i1
      exact ⟨⟨h.1, lm_up h.2 (by simp only; omega)⟩, by simp only; omega, by simp only; omega⟩
theorem vxk_le {V : Int → Int → vs_t → vs_t} {f : gr_t} {a c t : Int} {s : vs_t} (ht : 0 ≤ t) (hV : ∀ i s, 0 ≤ i → i < 8 → vo_ s → 0 ≤ s.2.2 → vo_ (V i a s) ∧ s.2.2 ≤ (V i a s).2.2 ∧ (V i a s).2.2 ≤ s.2.2 + t) (a0 : 0 ≤ a) (a1 : a < 8) (h : vo_ s) (h0 : 0 ≤ s.2.2) : ∀ k : Nat, k ≤ 8 → vo_ (fo_ (fun i s => vx_ V f a c i s) s k) ∧ s.2.2 ≤ (fo_ (fun i s => vx_ V f a c i s) s k).2.2 ∧ (fo_ (fun i s => vx_ V f a c i s) s k).2.2 ≤ s.2.2 + k * t := by
  intro k
  induction k with
  | zero => intro _; exact ⟨h, Int.le_refl _, by show s.2.2 ≤ s.2.2 + (0 : Nat) * t; omega⟩
  | succ k ih =>
    intro hk
    obtain ⟨q1, q2, q3⟩ := ih (by omega)
    obtain ⟨p1, p2, p3⟩ := vx_le (f := f) (c := c) (i := k) ht hV a0 a1 (by omega) (by omega) q1 (by omega)
    have e : ((k + 1 : Nat) : Int) * t = k * t + t := by
      rw [Int.natCast_add, Int.add_mul]
      omega
    refine ⟨p1, ?_, ?_⟩
    · exact Int.le_trans q2 p2
    · rw [e]
      refine Int.le_trans p3 ?_
      omega
theorem vi_le {f : gr_t} : ∀ (n : Nat) {a c : Int} {s : vs_t}, 0 ≤ a → a < 8 → vo_ s → 0 ≤ s.2.2 → vo_ (vi_ f n a c s) ∧ s.2.2 ≤ (vi_ f n a c s).2.2 ∧ (vi_ f n a c s).2.2 ≤ s.2.2 + vt_ n := by
  intro n
  induction n with
  | zero => intro a c s _ _ h h0; exact ⟨h, Int.le_refl _, by show s.2.2 ≤ s.2.2 + 0; omega⟩
  | succ n ih =>
    intro a c s a0 a1 h h0
    have hz := vz_le (a := a) h h0
    have e1 : (vz_ a s).2.2 = s.2.2 + 1 := rfl
    have := vxk_le (V := vi_ f n) (f := f) (c := c) (vt_0 n) (fun i s i0 i1 hs h0 => ih i0 i1 hs h0) a0 a1 hz (by omega) 8 (Nat.le_refl _)
    obtain ⟨q1, q2, q3⟩ := this
    have e2 : vt_ (n + 1) = 1 + 8 * vt_ n := rfl
    refine ⟨q1, ?_, ?_⟩
    · show s.2.2 ≤ (fo_ (fun i s => vx_ (vi_ f n) f a c i s) (vz_ a s) 8).2.2
      omega
    · show (fo_ (fun i s => vx_ (vi_ f n) f a c i s) (vz_ a s) 8).2.2 ≤ _
      rw [e1] at q3
      omega
noncomputable abbrev cx_ (k : Nat) : Prop := 171 ≤ k ∧ k ≤ 173
section CRI
variable {g : bc_C} {d : Nat} {f : gr_t}
theorem t_X0_visit (lf : gl_ f 99) : ∀ (n : Nat) {a c : Int} {s : vs_t} {σ : bc_M} {Rr : Option bc_A → bc_M → Prop} {X : Nat → bc_M → Prop}, n ≤ 8 → sv_ σ 158 f → 0 ≤ a → a < 8 → bc_in c → cr_ σ s → vo_ s → 0 ≤ s.2.2 → s.2.2 + vt_ n ≤ 2396745 → (∀ σ' : bc_M, cr_ σ' (vi_ f n a c s) → fr_ cx_ σ σ' → Rr none σ') → bc_Sem g (d + n + 1) mX0_visit [bc_R 171, bc_R 158, bc_I a, bc_I c, bc_I (9 - n)] σ Rr X := by
  intro n
  induction n with
  | zero =>
    intro a c s σ Rr X hn hf a0 a1 hc hS ho h0 hm h
    refine e_X0_visit rfl (fun K hK => ?_)
    refine hK.1 [] 60 _ _ _ _ _ ?_
    refine bc_ob_i (by omega) ?_
    refine bc_br_i (fun _ => ?_) (fun c => by omega)
    exact h σ hS (fr_refl _)
  | succ n ih =>
    intro a c s σ Rr X hn hf a0 a1 hc hS ho h0 hm h
    obtain ⟨c0, c1⟩ := hc
    have hz := vz_le (a := a) ho h0
    have e2 : vt_ (n + 1) = 1 + 8 * vt_ n := rfl
    have v0 := vt_0 n
    have hk := fun k hk => vxk_le (V := vi_ f n) (f := f) (c := c) (s := vz_ a s) (vt_0 n) (fun i s i0 i1 hs h0 => vi_le n i0 i1 hs h0) a0 a1 hz (show 0 ≤ s.2.2 + 1 by omega) k hk
    refine e_X0_visit rfl (fun K hK => ?_)
    have L : ∀ i : Int, ∀ σ' : bc_M, 0 ≤ i → i ≤ 8 → cr_ σ' (fo_ (fun i s => vx_ (vi_ f n) f a c i s) (vz_ a s) i.toNat) → fr_ cx_ σ σ' → K 41 [(0, bc_R 171), (1, bc_R 158), (2, bc_I a), (3, bc_I c), (4, bc_I (9 - ((n + 1 : Nat) : Int))), (5, bc_I i)] [] σ' 0 := by
      refine up_ind 8 (fun i hi σ' i0 i1 h2 h3 => ?_) (fun i hi ih2 σ' i0 i1 h2 h3 => ?_)
      · refine hK.1 [41] 60 _ _ _ _ _ ?_
        refine bc_ob_i (by omega) ?_
        refine bc_br_i (fun c => by omega) (fun _ => ?_)
        have e : i = 8 := by omega
        rw [e] at h2
        exact h σ' h2 h3
      · obtain ⟨q1, q2, q3⟩ := hk i.toNat (by omega)
        have es : fo_ (fun i s => vx_ (vi_ f n) f a c i s) (vz_ a s) (i + 1).toNat = vx_ (vi_ f n) f a c i (fo_ (fun i s => vx_ (vi_ f n) f a c i s) (vz_ a s) i.toNat) := fo_s i0
        generalize hs' : fo_ (fun i s => vx_ (vi_ f n) f a c i s) (vz_ a s) i.toNat = s' at *
        have e3 : (vz_ a s).2.2 = s.2.2 + 1 := rfl
        have hit : (i.toNat : Int) * vt_ n ≤ 7 * vt_ n := Int.mul_le_mul_of_nonneg_right (by omega) v0
        have hk2 : s'.2.2 + vt_ n ≤ 2396745 := by omega
        have hk3 : 0 ≤ s'.2.2 := by omega
        have fi := sv_fr hf h3 (by decide) a i a0 a1 i0 hi
        have li := lf a i a0 a1 i0 hi
        have hy : bc_in (σ'.1 158 (((8 : Nat) : Int) * a + i)) := by constructor <;> omega
        obtain ⟨r1, r2, r3⟩ := h2
        have n1 := r1 i i0 hi
        have n2 := r2 a a0 a1
        have m1 := q1.1 i i0 hi
        have m2 := q1.2 a a0 a1
        have skip : (i = c ∨ f a i = 0) → K 41 [(0, bc_R 171), (1, bc_R 158), (2, bc_I a), (3, bc_I c), (4, bc_I (9 - ((n + 1 : Nat) : Int))), (5, bc_I (i + 1))] [] σ' 0 := fun q => ih2 σ' (by omega) (by omega) (by rw [es]; unfold vx_; rw [if_pos q]; exact ⟨r1, r2, r3⟩) h3
        refine hK.1 [41] 60 _ _ _ _ _ ?_
        refine bc_ob_i (by omega) ?_
        refine bc_br_i (fun _ => ?_) (fun c => by omega)
        refine bc_ob_i (by omega) ?_
        refine bc_br_i (fun q => skip (.inl q)) (fun qc => ?_)
        refine bc_ob_i (by omega) ?_
        refine bc_ob_i (by omega) ?_
        refine bc_ob_i hy ?_
        refine bc_br_i (fun q => skip (.inr ?_)) (fun qf => ?_)
        · have q' : σ'.1 158 (((8 : Nat) : Int) * a + i) = 0 := q
          omega
        · have qf' : ¬ σ'.1 158 (((8 : Nat) : Int) * a + i) = 0 := qf
          have nq : ¬ (i = c ∨ f a i = 0) := by omega
          refine bc_ob_i (by omega) ?_
          refine bc_ob_i (by omega) ?_
          refine bc_br_i (fun q => ?_) (fun q => ?_)
          · obtain ⟨p1, p2, p3⟩ := vi_le (f := f) n (c := a) i0 hi q1 hk3
            have ed : 9 - ((n + 1 : Nat) : Int) + 1 = 9 - (n : Int) := by omega
            have go := ih (a := i) (c := a) (s := s') (σ := σ') (Rr := ?_) (X := ?_) (by omega) (sv_fr hf h3 (by decide)) i0 hi (by constructor <;> omega) ⟨r1, r2, r3⟩ q1 hk3 hk2 (fun σ'' t1 t2 => ?_)
            · rw [← ed] at go
              exact go
            · obtain ⟨u1, u2, u3⟩ := t1
              have w1 := u2 a a0 a1
              have w2 := u2 i i0 hi
              have x1 := p1.2 a a0 a1
              have x2 := p1.2 i i0 hi
              refine bc_ob_i (by omega) ?_
              refine bc_ob_i (by omega) ?_
              refine bc_ob_i ⟨by omega, by omega, Nat.le_of_ble_eq_true rfl⟩ ?_
              refine bc_ob_i (by omega) ?_
              refine ih2 _ (by omega) (by omega) ?_ (fr_trans h3 (fr_trans t2 (fr_wr (by omega))))
              rw [es]
              unfold vx_
              rw [if_neg nq, if_pos (by omega)]
              refine ⟨ar_fr u1 (fr_wr (P := fun k => k = 173) rfl) (by decide), ?_, ?_⟩
              · rw [w1, w2]
                exact ar_wr u2
              · rw [(fr_wr (P := fun k => k = 173) rfl).1 171 (by decide)]
                exact u3
          · refine bc_ob_i (by omega) ?_
            refine bc_ob_i (by omega) ?_
            refine bc_ob_i ⟨by omega, by omega, Nat.le_of_ble_eq_true rfl⟩ ?_
            refine bc_ob_i (by omega) ?_
            refine ih2 _ (by omega) (by omega) ?_ (fr_trans h3 (fr_wr (by omega)))
            rw [es]
            unfold vx_
            rw [if_neg nq, if_neg (by omega)]
            refine ⟨ar_fr r1 (fr_wr (P := fun k => k = 173) rfl) (by decide), ?_, ?_⟩
            · rw [n1, n2]
              exact ar_wr r2
            · rw [(fr_wr (P := fun k => k = 173) rfl).1 171 (by decide)]
              exact r3
    obtain ⟨r1, r2, r3⟩ := hS
    refine hK.1 [41] 60 _ _ _ _ _ ?_
    refine bc_ob_i (by omega) ?_
    refine bc_br_i (fun c => by omega) (fun _ => ?_)
    refine bc_ob_i (by omega) ?_
    refine bc_ob_i (by omega) ?_
    refine L 0 _ (by omega) (by omega) ⟨?_, ?_, ?_⟩ (fr_trans (fr_wr (by omega)) (fr_trans (fr_wr (by omega)) (fr_wr (by omega))))
    · have := ar_fr (ar_wr (i := a) (v := s.2.2 + 1) (ar_fr r1 (fr_wr (P := fun k => k = 171) (k := 171) (j := ((2 : Nat) : Int)) (v := σ.1 171 ((2 : Nat) : Int) + 1) rfl) (by decide))) (fr_wr (P := fun k => k = 173) (k := 173) (j := a) (v := s.2.2 + 1) rfl) (by decide)
      rw [r3] at this ⊢
      simp [bc_wr] at this ⊢
      exact this
    · have := ar_wr (i := a) (v := s.2.2 + 1) (ar_fr (ar_fr r2 (fr_wr (P := fun k => k = 171) (k := 171) (j := ((2 : Nat) : Int)) (v := σ.1 171 ((2 : Nat) : Int) + 1) rfl) (by decide)) (fr_wr (P := fun k => k = 172) (k := 172) (j := a) (v := s.2.2 + 1) rfl) (by decide))
      rw [r3] at this ⊢
      simp [bc_wr] at this ⊢
      exact this
    · simp [bc_wr]
      have : σ.1 171 2 = s.2.2 := r3
      rw [this]
      rfl
theorem t_X0_separates {a b : Int} {σ : bc_M} {Rr : Option bc_A → bc_M → Prop} {X : Nat → bc_M → Prop} (lf : gl_ f 99) (hf : sv_ σ 158 f) (a0 : 0 ≤ a) (a1 : a < 8) (b0 : 0 ≤ b) (b1 : b < 8) (h : ∀ σ' : bc_M, fr_ cx_ σ σ' → Rr (some (bc_I (se_ f a b))) σ') : bc_Sem g (d + 8 + 2) mX0_separates [bc_R 171, bc_R 158, bc_I a, bc_I b] σ Rr X := by
  refine e_X0_separates rfl (fun K hK => ?_)
  have hs0 : vo_ (fun _ => 0, fun _ => 0, 0) := ⟨fun j _ _ => ⟨Int.le_refl _, Int.le_refl _⟩, fun j _ _ => ⟨Int.le_refl _, Int.le_refl _⟩⟩
  have L : ∀ i : Int, ∀ σ' : bc_M, 0 ≤ i → i ≤ 8 → (∀ k : Int, 0 ≤ k → k < i → σ'.1 172 k = 0 ∧ σ'.1 173 k = 0) → σ'.1 171 ((2 : Nat) : Int) = 0 → fr_ cx_ σ σ' → K 8 [(0, bc_R 171), (1, bc_R 158), (2, bc_I a), (3, bc_I b), (4, bc_I i)] [] σ' 0 := by
    refine up_ind 8 (fun i hi σ' h0 h1 h2 h3 h4 => ?_) (fun i hi ih σ' h0 h1 h2 h3 h4 => ?_)
    · refine hK.1 [8] 60 _ _ _ _ _ ?_
      refine bc_ob_i (by omega) ?_
      refine bc_br_i (fun c => by omega) (fun _ => ?_)
      refine t_X0_visit lf 8 (s := (fun _ => 0, fun _ => 0, 0)) (by decide) (sv_fr hf h4 (by decide)) a0 a1 (by decide) ⟨fun k k0 k1 => (h2 k k0 (by omega)).1, fun k k0 k1 => (h2 k k0 (by omega)).2, h3⟩ hs0 (by decide) (by decide) (fun σ'' t1 t2 => ?_)
      obtain ⟨u1, u2, u3⟩ := t1
      obtain ⟨p1, p2, p3⟩ := vi_le (f := f) 8 (a := a) (c := -1) a0 a1 hs0 (by decide)
      have e8 : vt_ 8 = 2396745 := by decide
      have e0 : ((fun _ => 0, fun _ => 0, 0) : vs_t).2.2 = 0 := rfl
      have w1 := u1 a a0 a1
      have w2 := u2 b b0 b1
      have x1 := p1.1 a a0 a1
      have x2 := p1.2 b b0 b1
      have fin := h σ'' (fr_trans h4 t2)
      unfold se_ at fin
      refine bc_ob_i (by omega) ?_
      refine bc_ob_i (by omega) ?_
      refine bc_ob_i (by omega) ?_
      refine bc_br_i (fun c => ?_) (fun c => ?_)
      · refine bc_ob_i (by decide) ?_
        exact rt_ fin (by rw [if_pos (by omega)])
      · refine bc_ob_i (by decide) ?_
        exact rt_ fin (by rw [if_neg (by omega)])
    · refine hK.1 [8] 60 _ _ _ _ _ ?_
      refine bc_ob_i (by omega) ?_
      refine bc_br_i (fun _ => ?_) (fun c => by omega)
      refine bc_ob_i (by omega) ?_
      refine bc_ob_i (by omega) ?_
      refine ih _ (by omega) (by omega) (fun k k0 k1 => ?_) ?_ (fr_trans h4 (fr_trans (fr_wr (by omega)) (fr_wr (by omega))))
      · have := h2 k k0
        simp [bc_wr]
        omega
      · simp [bc_wr]
        exact h3
  refine hK.1 [8] 40 _ _ _ _ _ ?_
  exact L 0 _ (by omega) (by omega) (fun k k0 k1 => by omega) (by simp [bc_wr]) (fr_wr (by omega))
end CRI
end
