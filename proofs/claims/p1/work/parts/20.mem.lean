/-! STATES: a row of 136 numbers (as the reference has it) says what a state is -/
abbrev rw_t : Type := Int → Int
abbrev fi_ (j : Nat) : Int := (j : Int)
def st_M (σ : bc_M) (b : Nat) (r : rw_t) : Prop := σ.1 (b + 1) ((0 : Nat) : Int) = r 3 ∧ ∀ k : Int, 0 ≤ k → k < 16 → σ.1 (b + 2) k = r (16 + 6 * k) ∧ σ.1 (b + 3) k = r (17 + 6 * k) ∧ σ.1 (b + 4) k = r (18 + 6 * k) ∧ σ.1 (b + 5) k = r (19 + 6 * k) ∧ σ.1 (b + 6) k = r (20 + 6 * k) ∧ σ.1 (b + 7) k = r (21 + 6 * k)
theorem st_M1 {σ : bc_M} {r : rw_t} (h : st_M σ 1 r) : σ.1 2 ((0 : Nat) : Int) = r 3 ∧ ∀ k : Int, 0 ≤ k → k < 16 → σ.1 3 k = r (16 + 6 * k) ∧ σ.1 4 k = r (17 + 6 * k) ∧ σ.1 5 k = r (18 + 6 * k) ∧ σ.1 6 k = r (19 + 6 * k) ∧ σ.1 7 k = r (20 + 6 * k) ∧ σ.1 8 k = r (21 + 6 * k) := h
def wf_M (r : rw_t) : Prop := (0 ≤ r 3 ∧ r 3 ≤ 16) ∧ ∀ k : Int, 0 ≤ k → k < 16 → (0 ≤ r (16 + 6 * k) ∧ r (16 + 6 * k) ≤ 7) ∧ (0 ≤ r (17 + 6 * k) ∧ r (17 + 6 * k) ≤ 7) ∧ (0 ≤ r (18 + 6 * k) ∧ r (18 + 6 * k) ≤ 99) ∧ (0 ≤ r (19 + 6 * k) ∧ r (19 + 6 * k) ≤ 9) ∧ (0 ≤ r (20 + 6 * k) ∧ r (20 + 6 * k) ≤ 99) ∧ (0 ≤ r (21 + 6 * k) ∧ r (21 + 6 * k) ≤ 1)
def br_ (r : rw_t) (k : Int) : Int := if r (21 + 6 * k) = 0 then r (18 + 6 * k) * (10 - r (19 + 6 * k)) / 10 else 0
def co_ (r : rw_t) (k : Int) : Int := (r (18 + 6 * k) + 9) / 10 * r (19 + 6 * k)
theorem mul_le {a b A B : Int} (h0 : 0 ≤ a) (h1 : a ≤ A) (h2 : 0 ≤ b) (h3 : b ≤ B) : 0 ≤ a * b ∧ a * b ≤ A * B :=
  ⟨Int.mul_nonneg h0 h2, Int.le_trans (Int.mul_le_mul_of_nonneg_right h1 h2) (Int.mul_le_mul_of_nonneg_left h3 (Int.le_trans h0 h1))⟩
theorem br_le {r : rw_t} (h : wf_M r) {k : Int} (h0 : 0 ≤ k) (h1 : k < 16) : 0 ≤ br_ r k ∧ br_ r k ≤ 99 := by
  obtain ⟨-, -, h2, h3, -, -⟩ := h.2 k h0 h1
  have := mul_le h2.1 h2.2 (b := 10 - r (19 + 6 * k)) (B := 10) (by omega) (by omega)
  unfold br_
  split <;> omega
theorem co_le {r : rw_t} (h : wf_M r) {k : Int} (h0 : 0 ≤ k) (h1 : k < 16) : 0 ≤ co_ r k ∧ co_ r k ≤ 90 := by
  obtain ⟨-, -, h2, h3, -, -⟩ := h.2 k h0 h1
  have := mul_le (a := (r (18 + 6 * k) + 9) / 10) (A := 10) (by omega) (by omega) h3.1 h3.2
  unfold co_
  omega
theorem up_ind {P : Int → Prop} (n : Int) (base : ∀ i, n ≤ i → P i) (step : ∀ i, i < n → P (i + 1) → P i) (i : Int) : P i := by
  have key : ∀ (k : Nat) (i : Int), n - i ≤ k → P i := by
    intro k
    induction k with
    | zero => intro i h; exact base i (by omega)
    | succ k ih =>
      intro i h
      by_cases hi : i < n
      · exact step i hi (ih (i + 1) (by omega))
      · exact base i (by omega)
  exact key (n - i).toNat i (by omega)
/-- the answer is had in another writing -/
theorem rt_ {Rr : Option bc_A → bc_M → Prop} {x y : Int} {σ : bc_M} (h : Rr (some (bc_I x)) σ) (e : y = x) : Rr (some (bc_I y)) σ := by rw [e]; exact h
section MEM
variable {g : bc_C} {d : Nat} {σ : bc_M} {r : rw_t} {Rr : Option bc_A → bc_M → Prop} {X : Nat → bc_M → Prop}
theorem t_X2_has {m : Int} (hS : st_M σ 1 r) (hW : wf_M r) (hm : bc_in m) (h : Rr (some (bc_I (if 0 ≤ m ∧ m < r 3 then 1 else 0))) σ) : bc_Sem g (d + 1) mX2_has [bc_R 2, bc_I m] σ Rr X := by
  obtain ⟨c1, c2⟩ := st_M1 hS
  have w1 := hW.1
  refine e_X2_has rfl (fun K hK => ?_)
  refine hK.1 [] 40 _ _ _ _ _ ?_
  refine bc_ob_i hm ?_
  refine bc_br_i (fun c => ?_) (fun c => ?_)
  · refine bc_ob_i (by decide) ?_
    exact rt_ h (by rw [if_neg (by omega)])
  · refine bc_ob_i ⟨hm, by rw [c1]; constructor <;> omega⟩ ?_
    refine bc_br_i (fun c => ?_) (fun c => ?_)
    · refine bc_ob_i (by decide) ?_
      exact rt_ h (by rw [if_pos (by omega)])
    · refine bc_ob_i (by decide) ?_
      exact rt_ h (by rw [if_neg (by omega)])
theorem t_X2_bearingOf {m : Int} (hS : st_M σ 1 r) (hW : wf_M r) (h0 : 0 ≤ m) (h1 : m < 16) (h : Rr (some (bc_I (br_ r m))) σ) : bc_Sem g (d + 1) mX2_bearingOf [bc_R 2, bc_I m] σ Rr X := by
  obtain ⟨c1, c2⟩ := st_M1 hS
  obtain ⟨e1, e2, e3, e4, e5, e6⟩ := c2 m h0 h1
  obtain ⟨-, -, g2, g3, -, g5⟩ := hW.2 m h0 h1
  have hp := mul_le g2.1 g2.2 (b := 10 - r (19 + 6 * m)) (B := 10) (by omega) (by omega)
  refine e_X2_bearingOf rfl (fun K hK => ?_)
  refine hK.1 [] 40 _ _ _ _ _ ?_
  refine bc_ob_i ⟨h0, h1⟩ ?_
  refine bc_ob_i (by rw [e6]; constructor <;> omega) ?_
  refine bc_br_i (fun c => ?_) (fun c => ?_)
  · refine bc_ob_i ⟨h0, h1⟩ ?_
    refine bc_ob_i ⟨h0, h1⟩ ?_
    refine bc_ob_i ⟨by rw [e3, e4]; exact ⟨hp.1, by omega⟩, by decide, by decide⟩ ?_
    exact rt_ h (by unfold br_; rw [if_pos (by omega), e3, e4])
  · exact rt_ h (by unfold br_; rw [if_neg (by omega)])
theorem t_X2_costOf {m : Int} (hS : st_M σ 1 r) (hW : wf_M r) (h0 : 0 ≤ m) (h1 : m < 16) (h : Rr (some (bc_I (co_ r m))) σ) : bc_Sem g (d + 1) mX2_costOf [bc_R 2, bc_I m] σ Rr X := by
  obtain ⟨c1, c2⟩ := st_M1 hS
  obtain ⟨e1, e2, e3, e4, e5, e6⟩ := c2 m h0 h1
  obtain ⟨-, -, g2, g3, -, g5⟩ := hW.2 m h0 h1
  refine e_X2_costOf rfl (fun K hK => ?_)
  refine hK.1 [] 40 _ _ _ _ _ ?_
  refine bc_ob_i ⟨h0, h1⟩ ?_
  refine bc_ob_i ⟨⟨by omega, by omega⟩, by decide, by decide⟩ ?_
  refine bc_ob_i ⟨h0, h1⟩ ?_
  exact rt_ h (by unfold co_; rw [e3, e4])
theorem t_X2_bearingSum (hS : st_M σ 1 r) (hW : wf_M r) (h : ∀ v : Int, bc_in v → (r 3 = 0 → v = 0) → Rr (some (bc_I v)) σ) : bc_Sem g (d + 2) mX2_bearingSum [bc_R 2] σ Rr X := by
  obtain ⟨c1, c2⟩ := st_M1 hS
  have w1 := hW.1
  refine e_X2_bearingSum rfl (fun K hK => ?_)
  have L : ∀ i : Int, ∀ s : Int, 0 ≤ i → i ≤ 16 → 0 ≤ s → s ≤ 99 * i → (r 3 = 0 → s = 0) → K 4 [(0, bc_R 2), (1, bc_I s), (2, bc_I i)] [] σ 0 := by
    refine up_ind (r 3) (fun i hi s h0 h1 h2 h3 h4 => ?_) (fun i hi ih s h0 h1 h2 h3 h4 => ?_)
    · refine hK.1 [4] 40 _ _ _ _ _ ?_
      refine bc_ob_i ⟨⟨by omega, by omega⟩, by rw [c1]; constructor <;> omega⟩ ?_
      refine bc_br_i (fun c => by omega) (fun c => ?_)
      exact h s ⟨by omega, by omega⟩ h4
    · refine hK.1 [4] 40 _ _ _ _ _ ?_
      refine bc_ob_i ⟨⟨by omega, by omega⟩, by rw [c1]; constructor <;> omega⟩ ?_
      refine bc_br_i (fun c => ?_) (fun c => by omega)
      have hb := br_le hW h0 (by omega)
      refine t_X2_bearingOf hS hW h0 (by omega) ?_
      exact ih (s + br_ r i) (by omega) (by omega) (by omega) (by omega) (by omega)
  refine hK.1 [4] 40 _ _ _ _ _ ?_
  exact L 0 0 (by omega) (by omega) (by omega) (by omega) (fun _ => rfl)
end MEM
