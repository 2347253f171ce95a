/-! a text: its cell k, its signs in k + 1 -/
def tx_ (σ : bc_M) (k : Nat) (l : List Int) : Prop := σ.1 k ((1 : Nat) : Int) = l.length ∧ l.length ≤ 60 ∧ (∀ j : Nat, j < l.length → σ.1 (k + 1) (j : Int) = l.getD j 0) ∧ ∀ c ∈ l, 0 ≤ c ∧ c ≤ 65535
theorem tx_fr {P : Nat → Prop} {σ σ' : bc_M} {k : Nat} {l : List Int} (h : tx_ σ k l) (hf : fr_ P σ σ') (hp : ¬ P k ∧ ¬ P (k + 1)) : tx_ σ' k l := by
  unfold tx_
  rw [hf.1 k hp.1, hf.1 (k + 1) hp.2]
  exact h
/-- a sign more -/
def ta_ (l : List Int) (c : Int) : List Int := if l.length < 60 then l ++ [c] else l
def tn_ (l : List Int) (n : Int) : List Int := ta_ (if 10 ≤ n then ta_ l (48 + n / 10 % 10) else l) (48 + n % 10)
/-- the sign at a place, 0 outside -/
def tg_ (l : List Int) (i : Int) : Int := if 0 ≤ i ∧ i < l.length then l.getD i.toNat 0 else 0
theorem tg_le {l : List Int} (h : ∀ c ∈ l, 0 ≤ c ∧ c ≤ 65535) (i : Int) : 0 ≤ tg_ l i ∧ tg_ l i ≤ 65535 := by
  unfold tg_
  split
  · rename_i hi
    have hlt : i.toNat < l.length := by omega
    rw [List.getD_eq_getElem?_getD, List.getElem?_eq_getElem hlt]
    exact h _ (List.getElem_mem hlt)
  · omega
def tk_ (k : Nat) : Prop := k = 196 ∨ k = 216
section TXT
variable {g : bc_C} {d : Nat} {σ : bc_M} {k : Nat} {l : List Int} {Rr : Option bc_A → bc_M → Prop} {X : Nat → bc_M → Prop}
theorem t_X7_clear (hk : tk_ k) (hS : tx_ σ k l) (h : ∀ σ' : bc_M, tx_ σ' k [] → fr_ (fun i => i = k) σ σ' → Rr none σ') : bc_Sem g (d + 1) mX7_clear [bc_R k] σ Rr X := by
  rcases hk with rfl | rfl
  all_goals
    refine e_X7_clear rfl (fun K hK => ?_)
    refine hK.1 [] 40 _ _ _ _ _ ?_
    refine h _ ⟨?_, by decide, fun j hj => absurd hj (Nat.not_lt_zero _), fun c hc => by cases hc⟩ (fr_wr rfl)
    simp [bc_wr]
theorem t_X7_has {i : Int} (hk : tk_ k) (hS : tx_ σ k l) (hi : bc_in i) (h : Rr (some (bc_I (if 0 ≤ i ∧ i < l.length then 1 else 0))) σ) : bc_Sem g (d + 1) mX7_has [bc_R k, bc_I i] σ Rr X := by
  obtain ⟨h1, h2, h3, h4⟩ := hS
  obtain ⟨i0, i1⟩ := hi
  rcases hk with rfl | rfl
  all_goals
    refine e_X7_has rfl (fun K hK => ?_)
    refine hK.1 [] 40 _ _ _ _ _ ?_
    repeat' first | refine bc_br_i (fun _ => ?_) (fun _ => ?_) | refine bc_ob_i (by omega) ?_
    all_goals first | (exfalso; omega) | exact rt_ h (by split <;> omega)
theorem t_X7_at {i : Int} (hk : tk_ k) (hS : tx_ σ k l) (hi : bc_in i) (h : Rr (some (bc_I (tg_ l i))) σ) : bc_Sem g (d + 2) mX7_at [bc_R k, bc_I i] σ Rr X := by
  obtain ⟨h1, h2, h3, h4⟩ := id hS
  have hg := tg_le h4 i
  rcases hk with rfl | rfl
  · refine e_X7_at rfl (fun K hK => ?_)
    refine hK.1 [] 40 _ _ _ _ _ ?_
    refine t_X7_has (Or.inl rfl) hS hi ?_
    refine bc_ob_i (by split <;> omega) ?_
    refine bc_br_i (fun c => ?_) (fun c => ?_)
    · have hn : ¬ (0 ≤ i ∧ i < l.length) := fun q => by rw [if_pos q] at c; omega
      refine bc_ob_i (by omega) ?_
      exact rt_ h (by unfold tg_; rw [if_neg hn])
    · have hn : 0 ≤ i ∧ i < l.length := by
        by_cases q : 0 ≤ i ∧ i < l.length
        · exact q
        · rw [if_neg q] at c; omega
      have e := h3 i.toNat (by omega)
      rw [Int.toNat_of_nonneg hn.1] at e
      have e2 : σ.1 197 i = tg_ l i := by unfold tg_; rw [if_pos hn]; exact e
      refine bc_ob_i (by omega) ?_
      refine bc_ob_i (by omega) ?_
      exact rt_ h e2
  · refine e_X7_at rfl (fun K hK => ?_)
    refine hK.1 [] 40 _ _ _ _ _ ?_
    refine t_X7_has (Or.inr rfl) hS hi ?_
    refine bc_ob_i (by split <;> omega) ?_
    refine bc_br_i (fun c => ?_) (fun c => ?_)
    · have hn : ¬ (0 ≤ i ∧ i < l.length) := fun q => by rw [if_pos q] at c; omega
      refine bc_ob_i (by omega) ?_
      exact rt_ h (by unfold tg_; rw [if_neg hn])
    · have hn : 0 ≤ i ∧ i < l.length := by
        by_cases q : 0 ≤ i ∧ i < l.length
        · exact q
        · rw [if_neg q] at c; omega
      have e := h3 i.toNat (by omega)
      rw [Int.toNat_of_nonneg hn.1] at e
      have e2 : σ.1 217 i = tg_ l i := by unfold tg_; rw [if_pos hn]; exact e
      refine bc_ob_i (by omega) ?_
      refine bc_ob_i (by omega) ?_
      exact rt_ h e2
theorem tx_add {c v : Int} (hS : tx_ σ k l) (hl : l.length < 60) (hc : 0 ≤ c ∧ c ≤ 65535) (hv : v = (l.length : Int) + 1) : tx_ (bc_wr (bc_wr σ (k + 1) (l.length : Int) c) k ((1 : Nat) : Int) v) k (ta_ l c) := by
  obtain ⟨h1, h2, h3, h4⟩ := hS
  unfold ta_
  rw [if_pos hl]
  refine ⟨?_, by simp; omega, fun j hj => ?_, fun x hx => ?_⟩
  · simp [bc_wr, hv]
  · have hne : k + 1 ≠ k := by omega
    simp only [bc_wr, if_neg hne, if_true]
    by_cases hjl : j = l.length
    · subst hjl
      simp
    · have hlt : j < l.length := by simp at hj; omega
      have e := h3 j hlt
      rw [if_neg (by omega), e]
      simp [List.getD_eq_getElem?_getD, List.getElem?_append_left hlt]
  · rcases List.mem_append.mp hx with hx | hx
    · exact h4 x hx
    · have : x = c := by simpa using hx
      rw [this]; exact hc
theorem t_X7_append {c : Int} (hk : tk_ k) (hS : tx_ σ k l) (hc : 0 ≤ c ∧ c ≤ 65535) (h : ∀ σ' : bc_M, tx_ σ' k (ta_ l c) → fr_ (fun i => i = k ∨ i = k + 1) σ σ' → Rr none σ') : bc_Sem g (d + 1) mX7_append [bc_R k, bc_I c] σ Rr X := by
  obtain ⟨h1, h2, h3, h4⟩ := id hS
  have hn : ¬ l.length < 60 → tx_ σ k (ta_ l c) := fun q => by unfold ta_; rw [if_neg q]; exact hS
  rcases hk with rfl | rfl
  all_goals
    refine e_X7_append rfl (fun K hK => ?_)
    refine hK.1 [] 40 _ _ _ _ _ ?_
    refine bc_ob_i (by omega) ?_
    refine bc_br_i (fun q => ?_) (fun q => ?_)
    · refine bc_ob_i (by omega) ?_
      refine bc_ob_i hc ?_
      refine h _ ?_ (fr_trans (fr_wr (Or.inr rfl)) (fr_wr (Or.inl rfl)))
      have hm := tx_add (v := σ.1 _ ((1 : Nat) : Int) + 1) hS (by omega) hc (by rw [h1])
      rw [← h1] at hm
      exact hm
    · exact h _ (hn (by omega)) (fr_refl _)
theorem t_X7_appendNumber {n : Int} (hk : tk_ k) (hS : tx_ σ k l) (hn : 0 ≤ n ∧ n ≤ 99) (h : ∀ σ' : bc_M, tx_ σ' k (tn_ l n) → fr_ (fun i => i = k ∨ i = k + 1) σ σ' → Rr none σ') : bc_Sem g (d + 2) mX7_appendNumber [bc_R k, bc_I n] σ Rr X := by
  unfold tn_ at h
  have hkk := hk
  rcases hk with rfl | rfl
  all_goals
    refine e_X7_appendNumber rfl (fun K hK => ?_)
    refine hK.1 [] 60 _ _ _ _ _ ?_
    refine bc_ob_i (by omega) ?_
    refine bc_br_i (fun q => ?_) (fun q => ?_)
    · rw [if_neg (by omega)] at h
      refine bc_ob_i (by omega) ?_
      refine t_X7_append hkk hS (by omega) (fun σ' hS' hF => ?_)
      rw [show (48 + n % 10) % 65536 = 48 + n % 10 by omega] at hS'
      exact h σ' hS' hF
    · rw [if_pos (by omega)] at h
      refine bc_ob_i (by omega) ?_
      refine bc_ob_i (by omega) ?_
      refine t_X7_append hkk hS (by omega) (fun σ1 hS1 hF1 => ?_)
      rw [show (48 + n / 10 % 10) % 65536 = 48 + n / 10 % 10 by omega] at hS1
      refine bc_ob_i (by omega) ?_
      refine t_X7_append hkk hS1 (by omega) (fun σ' hS' hF => ?_)
      rw [show (48 + n % 10) % 65536 = 48 + n % 10 by omega] at hS'
      exact h σ' hS' (fr_trans hF1 hF)
end TXT
