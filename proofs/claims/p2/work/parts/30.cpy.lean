/-! copies: the pairs that occur -/
def cp_ (a b : Nat) : Prop := (a = 15 ∧ b = 1) ∨ (a = 1 ∧ b = 15) ∨ (a = 29 ∧ b = 1) ∨ (a = 1 ∧ b = 29) ∨ (a = 45 ∧ b = 1) ∨ (a = 59 ∧ b = 1) ∨ (a = 73 ∧ b = 1) ∨ (a = 87 ∧ b = 1) ∨ (a = 101 ∧ b = 1) ∨ (a = 115 ∧ b = 1) ∨ (a = 129 ∧ b = 1) ∨ (a = 143 ∧ b = 1) ∨ (a = 45 ∧ b = 29) ∨ (a = 59 ∧ b = 29) ∨ (a = 73 ∧ b = 29) ∨ (a = 87 ∧ b = 29) ∨ (a = 101 ∧ b = 29) ∨ (a = 115 ∧ b = 29) ∨ (a = 129 ∧ b = 29) ∨ (a = 143 ∧ b = 29) ∨ (a = 1 ∧ b = 45) ∨ (a = 1 ∧ b = 59) ∨ (a = 1 ∧ b = 73) ∨ (a = 1 ∧ b = 87) ∨ (a = 1 ∧ b = 101) ∨ (a = 1 ∧ b = 115) ∨ (a = 1 ∧ b = 129) ∨ (a = 1 ∧ b = 143)
theorem cp_to {t : Nat} (h : t < 8) : cp_ (45 + 14 * t) 1 := by
  have : t = 0 ∨ t = 1 ∨ t = 2 ∨ t = 3 ∨ t = 4 ∨ t = 5 ∨ t = 6 ∨ t = 7 := by omega
  rcases this with rfl | rfl | rfl | rfl | rfl | rfl | rfl | rfl <;> (unfold cp_; decide)
theorem cp_to9 {t : Nat} (h : t < 8) : cp_ (45 + 14 * t) 29 := by
  have : t = 0 ∨ t = 1 ∨ t = 2 ∨ t = 3 ∨ t = 4 ∨ t = 5 ∨ t = 6 ∨ t = 7 := by omega
  rcases this with rfl | rfl | rfl | rfl | rfl | rfl | rfl | rfl <;> (unfold cp_; decide)
theorem cp_fr {t : Nat} (h : t < 8) : cp_ 1 (45 + 14 * t) := by
  have : t = 0 ∨ t = 1 ∨ t = 2 ∨ t = 3 ∨ t = 4 ∨ t = 5 ∨ t = 6 ∨ t = 7 := by omega
  rcases this with rfl | rfl | rfl | rfl | rfl | rfl | rfl | rfl <;> (unfold cp_; decide)
def ct_ (i : Int) (a b : Nat) (σ σ' : bc_M) : Prop := (∀ k : Int, 0 ≤ k → k < i → σ'.1 (a + 7) k = σ.1 (b + 7) k) ∧ fr_ (fun k => k = a + 7) σ σ'
theorem cy_at {σ : bc_M} {s t : Nat} {n j : Int} (h : 0 ≤ j ∧ j < n) : (bc_cy σ s t 0 0 n).1 t j = σ.1 s j := by
  unfold bc_cy
  simp only [if_true]
  rw [if_pos (by omega), show (0 : Int) + (j - 0) = j by omega]
theorem lp_ {K : bc_KT} {u v : bc_A} {a b : Nat} {σ1 : bc_M} (_hc : cp_ a b) (base : ∀ i σ', i = 16 → ct_ 16 a b σ1 σ' → K 85 [(0, u), (1, v), (2, bc_I i)] [] σ' 0) (step : ∀ i σ', 0 ≤ i → i < 16 → ct_ i a b σ1 σ' → (∀ σ'', ct_ (i + 1) a b σ1 σ'' → K 85 [(0, u), (1, v), (2, bc_I (i + 1))] [] σ'' 0) → K 85 [(0, u), (1, v), (2, bc_I i)] [] σ' 0) : K 85 [(0, u), (1, v), (2, bc_I 0)] [] σ1 0 := by
  have L : ∀ i : Int, ∀ σ' : bc_M, 0 ≤ i → i ≤ 16 → ct_ i a b σ1 σ' → K 85 [(0, u), (1, v), (2, bc_I i)] [] σ' 0 := by
    refine up_ind 16 (fun i hi σ' i0 i1 hs => ?_) (fun i hi ih σ' i0 i1 hs => step i σ' i0 hi hs (fun σ'' h => ih σ'' (by omega) (by omega) h))
    have e : i = 16 := by omega
    rw [e] at hs
    exact base i σ' e hs
  exact L 0 σ1 (by decide) (by decide) ⟨fun k k0 k1 => by omega, fr_refl _⟩
theorem cy_ne {σ : bc_M} {s t k : Nat} {n : Int} (h : k ≠ t) : (bc_cy σ s t 0 0 n).1 k = σ.1 k := by
  funext x
  simp [bc_cy, h]
section CPY
variable {g : bc_C} {d : Nat} {σ : bc_M} {r : rw_t} {Rr : Option bc_A → bc_M → Prop} {X : Nat → bc_M → Prop} {a b : Nat}
set_option maxHeartbeats 4000000 in
theorem t_X3_copyFrom (hc : cp_ a b) (hS : st_N σ b r) (hW : wf_N r) (h : ∀ σ' : bc_M, st_N σ' a r → fr_ (fun k => a + 8 ≤ k ∧ k ≤ a + 9) σ σ' → Rr none σ') : bc_Sem g (d + 1) mX3_copyFrom [bc_R (a + 8), bc_R (b + 8)] σ Rr X := by
  have key : st_N (bc_cy (bc_wr σ (a + 8) ((0 : Nat) : Int) (σ.1 (b + 8) ((0 : Nat) : Int))) (b + 9) (a + 9) 0 0 4) a r := by
    have hne : a ≠ b ∧ a + 1 ≠ b ∧ b + 1 ≠ a := by unfold cp_ at hc; omega
    refine ⟨?_, fun k k0 k1 => ?_⟩
    · rw [cy_ne (by omega)]
      simp only [bc_wr, if_true]
      exact hS.1
    · rw [cy_at (by omega), bc_wr_ne (by omega)]
      exact hS.2 k k0 k1
  have hk : 0 ≤ σ.1 (b + 8) ((0 : Nat) : Int) ∧ σ.1 (b + 8) ((0 : Nat) : Int) ≤ 65535 := by
    have := hS.1
    have := hW.1
    omega
  have fin := h _ key (fr_trans (fr_wr (by omega)) (fr_cy (by omega)))
  rcases hc with ⟨rfl, rfl⟩ | ⟨rfl, rfl⟩ | ⟨rfl, rfl⟩ | ⟨rfl, rfl⟩ | ⟨rfl, rfl⟩ | ⟨rfl, rfl⟩ | ⟨rfl, rfl⟩ | ⟨rfl, rfl⟩ | ⟨rfl, rfl⟩ | ⟨rfl, rfl⟩ | ⟨rfl, rfl⟩ | ⟨rfl, rfl⟩ | ⟨rfl, rfl⟩ | ⟨rfl, rfl⟩ | ⟨rfl, rfl⟩ | ⟨rfl, rfl⟩ | ⟨rfl, rfl⟩ | ⟨rfl, rfl⟩ | ⟨rfl, rfl⟩ | ⟨rfl, rfl⟩ | ⟨rfl, rfl⟩ | ⟨rfl, rfl⟩ | ⟨rfl, rfl⟩ | ⟨rfl, rfl⟩ | ⟨rfl, rfl⟩ | ⟨rfl, rfl⟩ | ⟨rfl, rfl⟩ | ⟨rfl, rfl⟩
  all_goals
    refine e_X3_copyFrom rfl (fun K hK => ?_)
    refine hK.1 [] 40 _ _ _ _ _ ?_
    refine bc_ob_i hk ?_
    refine bc_ob_i (by decide) ?_
    exact fin
set_option maxHeartbeats 4000000 in
theorem t_X8_copyFrom (hc : cp_ a b) (hS : st_T σ b r) (h : ∀ σ' : bc_M, st_T σ' a r → fr_ (fun k => a + 10 ≤ k ∧ k ≤ a + 13) σ σ' → Rr none σ') : bc_Sem g (d + 1) mX8_copyFrom [bc_R (a + 10), bc_R (b + 10)] σ Rr X := by
  have hne : a + 10 < b ∨ b + 10 < a := by unfold cp_ at hc; omega
  have key : ∀ σ1 : bc_M, (∀ j : Nat, j < 10 → σ1.1 (a + 10) (j : Int) = σ.1 (b + 10) (j : Int)) → fr_ (fun k => k = a + 10) σ σ1 → Rr none (bc_cy (bc_cy (bc_cy σ1 (b + 11) (a + 11) 0 0 8) (b + 12) (a + 12) 0 0 8) (b + 13) (a + 13) 0 0 8) := by
    intro σ1 h1 h2
    refine h _ ⟨?_, fun k k0 k1 => ?_⟩ (fr_trans (fr_mono h2 (by omega)) (fr_trans (fr_cy (by omega)) (fr_trans (fr_cy (by omega)) (fr_cy (by omega)))))
    · rw [cy_ne (by omega), cy_ne (by omega), cy_ne (by omega)]
      rw [h1 0 (by decide), h1 1 (by decide), h1 2 (by decide), h1 3 (by decide), h1 4 (by decide), h1 5 (by decide), h1 6 (by decide), h1 7 (by decide), h1 8 (by decide), h1 9 (by decide)]
      exact hS.1
    · obtain ⟨q1, q2, q3⟩ := hS.2 k k0 k1
      refine ⟨?_, ?_, ?_⟩
      · rw [cy_ne (by omega), cy_ne (by omega), cy_at (by omega), h2.1 _ (by omega)]
        exact q1
      · rw [cy_ne (by omega), cy_at (by omega), cy_ne (by omega), h2.1 _ (by omega)]
        exact q2
      · rw [cy_at (by omega), cy_ne (by omega), cy_ne (by omega), h2.1 _ (by omega)]
        exact q3
  rcases hc with ⟨rfl, rfl⟩ | ⟨rfl, rfl⟩ | ⟨rfl, rfl⟩ | ⟨rfl, rfl⟩ | ⟨rfl, rfl⟩ | ⟨rfl, rfl⟩ | ⟨rfl, rfl⟩ | ⟨rfl, rfl⟩ | ⟨rfl, rfl⟩ | ⟨rfl, rfl⟩ | ⟨rfl, rfl⟩ | ⟨rfl, rfl⟩ | ⟨rfl, rfl⟩ | ⟨rfl, rfl⟩ | ⟨rfl, rfl⟩ | ⟨rfl, rfl⟩ | ⟨rfl, rfl⟩ | ⟨rfl, rfl⟩ | ⟨rfl, rfl⟩ | ⟨rfl, rfl⟩ | ⟨rfl, rfl⟩ | ⟨rfl, rfl⟩ | ⟨rfl, rfl⟩ | ⟨rfl, rfl⟩ | ⟨rfl, rfl⟩ | ⟨rfl, rfl⟩ | ⟨rfl, rfl⟩ | ⟨rfl, rfl⟩
  all_goals
    refine e_X8_copyFrom rfl (fun K hK => ?_)
    refine hK.1 [] 100 _ _ _ _ _ ?_
    refine bc_ob_i (by decide) ?_
    refine bc_ob_i (by decide) ?_
    refine bc_ob_i (by decide) ?_
    refine key _ (fun j hj => ?_) ?_
    · have : j = 0 ∨ j = 1 ∨ j = 2 ∨ j = 3 ∨ j = 4 ∨ j = 5 ∨ j = 6 ∨ j = 7 ∨ j = 8 ∨ j = 9 := by omega
      rcases this with rfl | rfl | rfl | rfl | rfl | rfl | rfl | rfl | rfl | rfl <;> rfl
    · repeat (first | exact fr_refl _ | refine fr_trans ?_ (fr_wr rfl))
set_option maxHeartbeats 4000000 in
theorem t_X2_copyFrom (hc : cp_ a b) (hS : st_M σ b r) (hW : wf_M r) (h : ∀ σ' : bc_M, st_M σ' a r → fr_ (fun k => a + 1 ≤ k ∧ k ≤ a + 7) σ σ' → Rr none σ') : bc_Sem g (d + 1) mX2_copyFrom [bc_R (a + 1), bc_R (b + 1)] σ Rr X := by
  have hne : a + 10 < b ∨ b + 10 < a := by unfold cp_ at hc; omega
  have key : ∀ σ1 : bc_M, (∀ j : Nat, j < 1 → σ1.1 (a + 1) (j : Int) = σ.1 (b + 1) (j : Int)) → fr_ (fun k => k = a + 1) σ σ1 → ∀ σ' : bc_M, ct_ 16 a b (bc_cy (bc_cy (bc_cy (bc_cy (bc_cy σ1 (b + 2) (a + 2) 0 0 16) (b + 3) (a + 3) 0 0 16) (b + 4) (a + 4) 0 0 16) (b + 5) (a + 5) 0 0 16) (b + 6) (a + 6) 0 0 16) σ' → Rr none σ' := by
    intro σ1 h1 h2 σ' h3
    refine h _ ⟨?_, fun k k0 k1 => ?_⟩ (fr_trans (fr_mono h2 (by omega)) (fr_trans (fr_cy (by omega)) (fr_trans (fr_cy (by omega)) (fr_trans (fr_cy (by omega)) (fr_trans (fr_cy (by omega)) (fr_trans (fr_cy (by omega)) (fr_mono h3.2 (by omega))))))))
    · rw [h3.2.1 _ (by omega), cy_ne (by omega), cy_ne (by omega), cy_ne (by omega), cy_ne (by omega), cy_ne (by omega), h1 0 (by decide)]
      exact hS.1
    · obtain ⟨q1, q2, q3, q4, q5, q6⟩ := hS.2 k k0 k1
      refine ⟨?_, ?_, ?_, ?_, ?_, ?_⟩
      · rw [h3.2.1 _ (by omega), cy_ne (by omega), cy_ne (by omega), cy_ne (by omega), cy_ne (by omega), cy_at (by omega), h2.1 _ (by omega)]
        exact q1
      · rw [h3.2.1 _ (by omega), cy_ne (by omega), cy_ne (by omega), cy_ne (by omega), cy_at (by omega), cy_ne (by omega), h2.1 _ (by omega)]
        exact q2
      · rw [h3.2.1 _ (by omega), cy_ne (by omega), cy_ne (by omega), cy_at (by omega), cy_ne (by omega), cy_ne (by omega), h2.1 _ (by omega)]
        exact q3
      · rw [h3.2.1 _ (by omega), cy_ne (by omega), cy_at (by omega), cy_ne (by omega), cy_ne (by omega), cy_ne (by omega), h2.1 _ (by omega)]
        exact q4
      · rw [h3.2.1 _ (by omega), cy_at (by omega), cy_ne (by omega), cy_ne (by omega), cy_ne (by omega), cy_ne (by omega), h2.1 _ (by omega)]
        exact q5
      · rw [h3.1 k k0 k1, cy_ne (by omega), cy_ne (by omega), cy_ne (by omega), cy_ne (by omega), cy_ne (by omega), h2.1 _ (by omega)]
        exact q6
  have hb : ∀ (σ1 : bc_M), fr_ (fun k => k = a + 1) σ σ1 → ∀ σ', ∀ i : Int, 0 ≤ i → i < 16 → ct_ i a b (bc_cy (bc_cy (bc_cy (bc_cy (bc_cy σ1 (b + 2) (a + 2) 0 0 16) (b + 3) (a + 3) 0 0 16) (b + 4) (a + 4) 0 0 16) (b + 5) (a + 5) 0 0 16) (b + 6) (a + 6) 0 0 16) σ' → (0 ≤ σ'.1 (b + 7) i ∧ σ'.1 (b + 7) i ≤ 1) ∧ ct_ (i + 1) a b (bc_cy (bc_cy (bc_cy (bc_cy (bc_cy σ1 (b + 2) (a + 2) 0 0 16) (b + 3) (a + 3) 0 0 16) (b + 4) (a + 4) 0 0 16) (b + 5) (a + 5) 0 0 16) (b + 6) (a + 6) 0 0 16) (bc_wr σ' (a + 7) i (σ'.1 (b + 7) i)) := by
    intro σ1 h2 σ' i i0 i1 h3
    have e1 : σ'.1 (b + 7) = (bc_cy (bc_cy (bc_cy (bc_cy (bc_cy σ1 (b + 2) (a + 2) 0 0 16) (b + 3) (a + 3) 0 0 16) (b + 4) (a + 4) 0 0 16) (b + 5) (a + 5) 0 0 16) (b + 6) (a + 6) 0 0 16).1 (b + 7) := h3.2.1 _ (by omega)
    have e2 := e1
    rw [cy_ne (by omega), cy_ne (by omega), cy_ne (by omega), cy_ne (by omega), cy_ne (by omega), h2.1 _ (by omega)] at e2
    obtain ⟨q1, q2, q3, q4, q5, q6⟩ := hS.2 i i0 i1
    have w := (hW.2 i i0 i1).2.2.2.2.2
    refine ⟨?_, fun k k0 k1 => ?_, fr_trans h3.2 (fr_wr rfl)⟩
    · rw [e2, q6]
      exact w
    · by_cases hk : k = i
      · rw [hk, e1]
        simp [bc_wr]
      · have := h3.1 k k0 (by omega)
        rw [← this]
        simp [bc_wr, hk]
  have hc' := id hc
  rcases hc with ⟨rfl, rfl⟩ | ⟨rfl, rfl⟩ | ⟨rfl, rfl⟩ | ⟨rfl, rfl⟩ | ⟨rfl, rfl⟩ | ⟨rfl, rfl⟩ | ⟨rfl, rfl⟩ | ⟨rfl, rfl⟩ | ⟨rfl, rfl⟩ | ⟨rfl, rfl⟩ | ⟨rfl, rfl⟩ | ⟨rfl, rfl⟩ | ⟨rfl, rfl⟩ | ⟨rfl, rfl⟩ | ⟨rfl, rfl⟩ | ⟨rfl, rfl⟩ | ⟨rfl, rfl⟩ | ⟨rfl, rfl⟩ | ⟨rfl, rfl⟩ | ⟨rfl, rfl⟩ | ⟨rfl, rfl⟩ | ⟨rfl, rfl⟩ | ⟨rfl, rfl⟩ | ⟨rfl, rfl⟩ | ⟨rfl, rfl⟩ | ⟨rfl, rfl⟩ | ⟨rfl, rfl⟩ | ⟨rfl, rfl⟩
  all_goals
    refine e_X2_copyFrom rfl (fun K hK => ?_)
    refine hK.1 [85] 60 _ _ _ _ _ ?_
    refine bc_ob_i (by decide) ?_
    refine bc_ob_i (by decide) ?_
    refine bc_ob_i (by decide) ?_
    refine bc_ob_i (by decide) ?_
    refine bc_ob_i (by decide) ?_
    refine lp_ hc' (fun i σ' i0 hs => ?_) (fun i σ' i0 hi hs ih => ?_)
    · refine hK.1 [85] 60 _ _ _ _ _ ?_
      refine bc_ob_i (by omega) ?_
      refine bc_br_i (fun c => by omega) (fun _ => ?_)
      exact key _ (fun j hj => by have : j = 0 := by omega
                                  subst this
                                  rfl) (fr_wr rfl) _ hs
    · obtain ⟨hq, hn⟩ := hb _ (fr_wr rfl) σ' i i0 hi hs
      refine hK.1 [85] 60 _ _ _ _ _ ?_
      refine bc_ob_i (by omega) ?_
      refine bc_br_i (fun _ => ?_) (fun c => by omega)
      refine bc_ob_i ⟨i0, hi⟩ ?_
      refine bc_ob_i ⟨i0, hi⟩ ?_
      refine bc_ob_i hq ?_
      exact ih _ hn
/-- a whole state -/
def st_A (B : Int) (σ : bc_M) (a : Nat) (r : rw_t) : Prop := (st_M σ a r ∧ st_N σ a r ∧ st_T σ a r) ∧ wf_M r ∧ wf_N r ∧ wf_T B r
set_option maxHeartbeats 4000000 in
theorem t_X6_copyFrom {B : Int} (hc : cp_ a b) (hS : st_A B σ b r) (h : ∀ σ' : bc_M, st_A B σ' a r → fr_ (fun k => a + 1 ≤ k ∧ k ≤ a + 13) σ σ' → Rr none σ') : bc_Sem g (d + 2) mX6_copyFrom [bc_R a, bc_R b] σ Rr X := by
  have hne : a + 13 < b ∨ b + 13 < a := by unfold cp_ at hc; omega
  obtain ⟨⟨h1, h2, h3⟩, w1, w2, w3⟩ := hS
  have fin : ∀ σ1, st_M σ1 a r → fr_ (fun k => a + 1 ≤ k ∧ k ≤ a + 7) σ σ1 → ∀ σ2, st_N σ2 a r → fr_ (fun k => a + 8 ≤ k ∧ k ≤ a + 9) σ1 σ2 → ∀ σ3, st_T σ3 a r → fr_ (fun k => a + 10 ≤ k ∧ k ≤ a + 13) σ2 σ3 → Rr none σ3 := by
    intro σ1 m1 f1 σ2 m2 f2 σ3 m3 f3
    refine h _ ⟨⟨?_, ?_, m3⟩, w1, w2, w3⟩ (fr_trans (fr_mono f1 (by omega)) (fr_trans (fr_mono f2 (by omega)) (fr_mono f3 (by omega))))
    · exact st_M_fr (st_M_fr m1 f2 (by omega)) f3 (by omega)
    · exact st_N_fr m2 f3 (by omega)
  have g1 : ∀ σ1, fr_ (fun k => a + 1 ≤ k ∧ k ≤ a + 7) σ σ1 → st_N σ1 b r := fun σ1 f1 => st_N_fr h2 f1 (by omega)
  have g2 : ∀ σ1, fr_ (fun k => a + 1 ≤ k ∧ k ≤ a + 7) σ σ1 → ∀ σ2, fr_ (fun k => a + 8 ≤ k ∧ k ≤ a + 9) σ1 σ2 → st_T σ2 b r := fun σ1 f1 σ2 f2 => st_T_fr (st_T_fr h3 f1 (by omega)) f2 (by omega)
  have hc' := id hc
  rcases hc with ⟨rfl, rfl⟩ | ⟨rfl, rfl⟩ | ⟨rfl, rfl⟩ | ⟨rfl, rfl⟩ | ⟨rfl, rfl⟩ | ⟨rfl, rfl⟩ | ⟨rfl, rfl⟩ | ⟨rfl, rfl⟩ | ⟨rfl, rfl⟩ | ⟨rfl, rfl⟩ | ⟨rfl, rfl⟩ | ⟨rfl, rfl⟩ | ⟨rfl, rfl⟩ | ⟨rfl, rfl⟩ | ⟨rfl, rfl⟩ | ⟨rfl, rfl⟩ | ⟨rfl, rfl⟩ | ⟨rfl, rfl⟩ | ⟨rfl, rfl⟩ | ⟨rfl, rfl⟩ | ⟨rfl, rfl⟩ | ⟨rfl, rfl⟩ | ⟨rfl, rfl⟩ | ⟨rfl, rfl⟩ | ⟨rfl, rfl⟩ | ⟨rfl, rfl⟩ | ⟨rfl, rfl⟩ | ⟨rfl, rfl⟩
  all_goals
    refine e_X6_copyFrom rfl (fun K hK => ?_)
    refine hK.1 [] 60 _ _ _ _ _ ?_
    refine t_X2_copyFrom hc' h1 w1 (fun σ1 m1 f1 => ?_)
    refine t_X3_copyFrom hc' (g1 σ1 f1) w2 (fun σ2 m2 f2 => ?_)
    refine t_X8_copyFrom hc' (g2 σ1 f1 σ2 f2) (fun σ3 m3 f3 => ?_)
    exact fin σ1 m1 f1 σ2 m2 f2 σ3 m3 f3
end CPY
