theorem qw_s {l : List Int} {p b : Int} {n : Nat} : qw_ l p (n + 1) b = if qm_ l p (bc_tx (9 - n)) = (bc_tx (9 - n)).length then (((9 - n : Nat) : Int), p + qm_ l p (bc_tx (9 - n))) else qw_ l p n (max b (qm_ l p (bc_tx (9 - n)))) := rfl
theorem qw_le {l : List Int} {p : Int} : ∀ (n : Nat) {b : Int}, n ≤ 10 → 0 ≤ p → p ≤ l.length → l.length ≤ 60 → 0 ≤ b → p + b ≤ l.length → p ≤ (qw_ l p n b).2 ∧ (qw_ l p n b).2 ≤ l.length ∧ -1 ≤ (qw_ l p n b).1 ∧ (qw_ l p n b).1 ≤ 9 := by
  intro n
  induction n with
  | zero => intro b _ h0 h1 h2 h3 h4; exact ⟨by show p ≤ p + b; omega, h4, by show -1 ≤ (-1 : Int); omega, by show (-1 : Int) ≤ 9; omega⟩
  | succ n ih =>
    intro b hn h0 h1 h2 h3 h4
    have hz : ∀ c ∈ bc_tx (9 - n), c ≠ 0 := by
      have : n = 0 ∨ n = 1 ∨ n = 2 ∨ n = 3 ∨ n = 4 ∨ n = 5 ∨ n = 6 ∨ n = 7 ∨ n = 8 ∨ n = 9 := by omega
      rcases this with rfl | rfl | rfl | rfl | rfl | rfl | rfl | rfl | rfl | rfl <;> decide
    have q1 := qm_in (bc_tx (9 - n)) p hz h0 h1
    have q2 := qm_le (l := l) (bc_tx (9 - n)) p
    unfold qw_
    split
    · exact ⟨by simp only; omega, by simp only; omega, by simp only; omega, by simp only; omega⟩
    · exact ih (by omega) h0 h1 h2 (by omega) (by omega)
theorem qd_le {l : List Int} : ∀ (n : Nat) {p v : Int}, 0 ≤ p → p ≤ l.length → 0 ≤ v → p ≤ (qd_ l n p v).2 ∧ (qd_ l n p v).2 ≤ p + n ∧ (qd_ l n p v).2 ≤ l.length ∧ 0 ≤ (qd_ l n p v).1 := by
  intro n
  induction n with
  | zero => intro p v h0 h1 h2; exact ⟨Int.le_refl _, by show p ≤ p + 0; omega, h1, h2⟩
  | succ n ih =>
    intro p v h0 h1 h2
    unfold qd_
    split
    · rename_i e
      have hp := tg_in (l := l) (p := p) (by omega)
      have := ih (p := p + 1) (v := v * 10 + tg_ l p - 48) (by omega) (by omega) (by omega)
      omega
    · exact ⟨Int.le_refl _, by simp only; omega, h1, h2⟩
theorem qd_3 {l : List Int} : ∀ (n : Nat) {p v M : Int}, 0 ≤ v → v ≤ M → (qd_ l n p v).1 ≤ (M + 1) * (10 ^ n : Nat) - 1 := by
  intro n
  induction n with
  | zero => intro p v M h0 h1; show v ≤ (M + 1) * 1 - 1; omega
  | succ n ih =>
    intro p v M h0 h1
    have hp : (1 : Int) ≤ (10 ^ n : Nat) := by
      have := Nat.pos_of_ne_zero (show 10 ^ n ≠ 0 by simp)
      omega
    have e : (M + 1) * ((10 ^ (n + 1) : Nat) : Int) = (M + 1) * (10 ^ n : Nat) * 10 := by
      rw [Nat.pow_succ, Int.natCast_mul, ← Int.mul_assoc]
      rfl
    unfold qd_
    split
    · have := ih (p := p + 1) (v := v * 10 + tg_ l p - 48) (M := M * 10 + 9) (by omega) (by omega)
      have e2 : (M * 10 + 9 + 1) * ((10 ^ n : Nat) : Int) = (M + 1) * (10 ^ n : Nat) * 10 := by
        rw [show M * 10 + 9 + 1 = (M + 1) * 10 by omega, Int.mul_assoc, Int.mul_comm 10, ← Int.mul_assoc]
      omega
    · have h5 : (M + 1) * 1 ≤ (M + 1) * ((10 ^ n : Nat) : Int) := Int.mul_le_mul_of_nonneg_left hp (by omega)
      simp only
      omega
theorem qv_le {l : List Int} {p f : Int} (h0 : 0 ≤ p) (h1 : p ≤ l.length) : p ≤ (qv_ l p f).2 ∧ (qv_ l p f).2 ≤ l.length ∧ -1 ≤ (qv_ l p f).1 ∧ (qv_ l p f).1 ≤ 999 := by
  unfold qv_
  split
  · split
    · rename_i e
      have hp := tg_in (l := l) (p := p) (by omega)
      exact ⟨by simp only; omega, by simp only; omega, by simp only; omega, by simp only; omega⟩
    · exact ⟨Int.le_refl _, h1, by simp only; omega, by simp only; omega⟩
  · have q1 := qd_le (l := l) (if f = 110 then 3 else 1) (p := p) (v := 0) h0 h1 (by omega)
    have q2 : (qd_ l (if f = 110 then 3 else 1) p 0).1 ≤ 999 := by
      split
      · have := qd_3 (l := l) 3 (p := p) (v := 0) (M := 0) (by omega) (by omega)
        have e : (0 + 1 : Int) * ((10 ^ 3 : Nat) : Int) - 1 = 999 := by decide
        omega
      · have := qd_3 (l := l) 1 (p := p) (v := 0) (M := 0) (by omega) (by omega)
        have e : (0 + 1 : Int) * ((10 ^ 1 : Nat) : Int) - 1 = 9 := by decide
        omega
    generalize (if f = 110 then (3 : Nat) else 1) = m at *
    refine ⟨q1.1, q1.2.2.1, ?_, ?_⟩
    · simp only; split <;> omega
    · simp only; split <;> omega
section SCR
variable {g : bc_C} {d : Nat} {σ : bc_M} {l : List Int} {p : Int} {Rr : Option bc_A → bc_M → Prop} {X : Nat → bc_M → Prop}
theorem t_X5_readWord (hS : sc_ σ l p) (h : ∀ σ', sc_ σ' l (qw_ l p 10 0).2 → sf_ σ σ' → Rr (some (bc_I (qw_ l p 10 0).1)) σ') : bc_Sem g (d + 4) mX5_readWord [bc_R 195] σ Rr X := by
  obtain ⟨s1, s2, s3, s4⟩ := id hS
  have s5 := s1.2.1
  have l2 : σ.1 195 4 = p := s2
  generalize hW : qw_ l p 10 0 = W at *
  refine e_X5_readWord rfl (fun K hK => ?_)
  have L : ∀ n : Nat, n ≤ 10 → ∀ b z, 0 ≤ b → p + b ≤ l.length → W = qw_ l p n b → K 4 ([(0, bc_R 195), (1, bc_I b), (2, bc_I (10 - n))] ++ z) [] σ 0 := by
    intro n
    induction n with
    | zero =>
      intro hn b z b0 b1 h1
      refine hK.2 _ _ [(0, bc_R 195), (1, bc_I b), (2, bc_I (10 - ((0 : Nat) : Int)))] _ _ _ (ls_ _ _) ?_
      refine hK.1 [4] 60 _ _ _ _ _ ?_
      refine bc_ob_i (by omega) ?_
      refine bc_br_i (fun c => by omega) (fun c => ?_)
      rw [h1] at h
      refine h _ ?_ sf_wr
      rw [s2]
      exact sc_wr hS (by omega) b1
    | succ n ih =>
      intro hn b z b0 b1 h1
      refine hK.2 _ _ [(0, bc_R 195), (1, bc_I b), (2, bc_I (10 - ((n + 1 : Nat) : Int)))] _ _ _ (ls_ _ _) ?_
      have ek : 10 - ((n + 1 : Nat) : Int) = ((9 - n : Nat) : Int) := by omega
      rw [ek]
      have hz : (∀ c ∈ bc_tx (9 - n), c ≠ 0) ∧ (bc_tx (9 - n)).length ≤ 60 := by
        have : n = 0 ∨ n = 1 ∨ n = 2 ∨ n = 3 ∨ n = 4 ∨ n = 5 ∨ n = 6 ∨ n = 7 ∨ n = 8 ∨ n = 9 := by omega
        rcases this with rfl | rfl | rfl | rfl | rfl | rfl | rfl | rfl | rfl | rfl <;> decide
      have q1 := qm_in (bc_tx (9 - n)) p hz.1 s3 s4
      have q2 := qm_le (l := l) (bc_tx (9 - n)) p
      have e1 : 1000 + (9 - n) - 1000 = 9 - n := by omega
      refine hK.1 [4] 60 _ _ _ _ _ ?_
      refine bc_ob_i (by omega) ?_
      refine bc_br_i (fun c => ?_) (fun c => by omega)
      refine t_X5_wordOf (k := 9 - n) (by omega) ?_
      refine t_X5_matchedLength (w := 9 - n) (by omega) hS ?_
      refine t_X5_wordOf (k := 9 - n) (by omega) ?_
      refine bc_ob_i ⟨⟨by omega, by omega⟩, Nat.le_of_ble_eq_true rfl⟩ ?_
      rw [e1]
      rw [qw_s] at h1
      refine bc_ob_i (by constructor <;> constructor <;> omega) ?_
      refine bc_br_i (fun c => ?_) (fun c => ?_)
      · rw [if_pos c] at h1
        rw [h1] at h
        refine h _ ?_ sf_wr
        rw [s2]
        exact sc_wr hS (by omega) q1
      · rw [if_neg c] at h1
        refine bc_ob_i ⟨by constructor <;> omega, by constructor <;> omega, Nat.le_of_ble_eq_true rfl⟩ ?_
        have en : ((9 - n : Nat) : Int) + 1 = 10 - (n : Int) := by omega
        have nx := ih (by omega) _ [(3, bc_I (qm_ l p (bc_tx (9 - n))))] (by omega) (by omega) h1
        rw [← en] at nx
        exact nx
  refine hK.1 [4] 40 _ _ _ _ _ ?_
  exact L 10 (Nat.le_refl _) 0 [] (by omega) (by omega) hW.symm
end SCR
