/-! the history: h lists the remembered states, the newest first -/
def hs_ (n : Int) (t : Nat) : Nat := 45 + 14 * ((n + 7 - t) % 8).toNat
/-- next slot n, count of slot 2; each remembered state stands where it should -/
def st_H (B : Int) (σ : bc_M) (n : Int) (h : List rw_t) : Prop := σ.1 43 ((1 : Nat) : Int) = n ∧ (0 ≤ n ∧ n < 8) ∧ σ.1 43 ((2 : Nat) : Int) = (h.length : Int) ∧ h.length ≤ 8 ∧ ∀ t : Nat, (ht : t < h.length) → st_A B σ (hs_ n t) h[t]
theorem st_A_fr {P : Nat → Prop} {B : Int} {σ σ' : bc_M} {b : Nat} {r : rw_t} (h : st_A B σ b r) (hf : fr_ P σ σ') (hp : ∀ k, b + 1 ≤ k → k ≤ b + 13 → ¬ P k) : st_A B σ' b r := by
  obtain ⟨⟨h1, h2, h3⟩, w⟩ := h
  exact ⟨⟨st_M_fr h1 hf (fun k a b => hp k (by omega) (by omega)), st_N_fr h2 hf (fun k a b => hp k (by omega) (by omega)), st_T_fr h3 hf (fun k a b => hp k (by omega) (by omega))⟩, w⟩
theorem hs_le (n : Int) (t : Nat) : 45 ≤ hs_ n t ∧ hs_ n t ≤ 143 := by unfold hs_; omega
theorem st_H_fr {P : Nat → Prop} {B : Int} {σ σ' : bc_M} {n : Int} {h : List rw_t} (hS : st_H B σ n h) (hf : fr_ P σ σ') (hp : ∀ k, 43 ≤ k → k ≤ 156 → ¬ P k) : st_H B σ' n h := by
  obtain ⟨h1, h2, h3, h4, h5⟩ := hS
  refine ⟨?_, h2, ?_, h4, fun t ht => st_A_fr (h5 t ht) hf (fun k a b => ?_)⟩
  · rw [hf.1 43 (hp 43 (by decide) (by decide))]; exact h1
  · rw [hf.1 43 (hp 43 (by decide) (by decide))]; exact h3
  · have := hs_le n t
    exact hp k (by omega) (by omega)
def hr_ (h : List rw_t) (r : rw_t) : List rw_t := (r :: h).take 8
section HIS
variable {g : bc_C} {d : Nat} {σ : bc_M} {r : rw_t} {B n : Int} {h : List rw_t} {Rr : Option bc_A → bc_M → Prop} {X : Nat → bc_M → Prop} {b : Nat}
theorem t_X1_forget (hS : st_H B σ n h) (f : ∀ σ' : bc_M, st_H B σ' n [] → fr_ (fun k => k = 43) σ σ' → Rr none σ') : bc_Sem g (d + 1) mX1_forget [bc_R 43] σ Rr X := by
  obtain ⟨h1, h2, h3, h4, h5⟩ := hS
  refine e_X1_forget rfl (fun K hK => ?_)
  refine hK.1 [] 40 _ _ _ _ _ ?_
  refine f _ ⟨?_, h2, ?_, by decide, fun t ht => absurd ht (Nat.not_lt_zero _)⟩ (fr_wr rfl)
  · simp [bc_wr]
    exact h1
  · simp [bc_wr]
theorem t_X1_remember (hb : b = 1 ∨ b = 29) (hS : st_H B σ n h) (hA : st_A B σ b r) (f : ∀ σ' : bc_M, st_H B σ' ((n + 1) % 8) (hr_ h r) → fr_ (fun k => 43 ≤ k ∧ k ≤ 156) σ σ' → Rr none σ') : bc_Sem g (d + 3) mX1_remember [bc_R 43, bc_R b] σ Rr X := by
  obtain ⟨h1, h2, h3, h4, h5⟩ := hS
  have fin : ∀ t : Nat, t < 8 → n = t → ∀ σ1, st_A B σ1 (45 + 14 * t) r → fr_ (fun k => 45 + 14 * t + 1 ≤ k ∧ k ≤ 45 + 14 * t + 13) σ σ1 → Rr none (bc_wr (bc_wr σ1 43 ((1 : Nat) : Int) ((σ1.1 43 ((1 : Nat) : Int) + 1) % 8)) 43 ((2 : Nat) : Int) (min ((bc_wr σ1 43 ((1 : Nat) : Int) ((σ1.1 43 ((1 : Nat) : Int) + 1) % 8)).1 43 ((2 : Nat) : Int) + 1) 8)) := by
    intro t ht hn σ1 a1 f1
    have e1 : σ1.1 43 = σ.1 43 := f1.1 43 (by omega)
    refine f _ ⟨?_, by omega, ?_, by unfold hr_; simp; omega, fun u hu => ?_⟩ (fr_trans (fr_mono f1 (by omega)) (fr_trans (fr_wr (by omega)) (fr_wr (by omega))))
    · simp [bc_wr]
      rw [e1]
      have : σ.1 43 1 = n := h1
      rw [this]
    · simp [bc_wr]
      rw [e1]
      have : σ.1 43 2 = h.length := h3
      rw [this]
      unfold hr_
      simp
      omega
    · refine st_A_fr ?_ (fr_trans (fr_wr (P := fun k => k = 43) rfl) (fr_wr rfl)) (fun k k0 k1 => by have := hs_le ((n + 1) % 8) u; omega)
      unfold hr_ at hu ⊢
      simp at hu
      cases u with
      | zero =>
        have e : hs_ ((n + 1) % 8) 0 = 45 + 14 * t := by unfold hs_; omega
        rw [e]
        simpa using a1
      | succ u =>
        have e : hs_ ((n + 1) % 8) (u + 1) = hs_ n u := by unfold hs_; omega
        rw [e]
        have := st_A_fr (h5 u (by omega)) f1 (fun k k0 k1 => by
          unfold hs_ at k0 k1
          omega)
        simpa using this
  have hn : n = 0 ∨ n = 1 ∨ n = 2 ∨ n = 3 ∨ n = 4 ∨ n = 5 ∨ n = 6 ∨ n = 7 := by omega
  have hcp : ∀ t : Nat, t < 8 → cp_ (45 + 14 * t) b := fun t ht => by
    rcases hb with rfl | rfl
    · exact cp_to ht
    · exact cp_to9 ht
  have hq : ∀ t : Nat, t < 8 → n = t → ∀ σ1, fr_ (fun k => 45 + 14 * t + 1 ≤ k ∧ k ≤ 45 + 14 * t + 13) σ σ1 → σ1.1 43 ((1 : Nat) : Int) = n ∧ σ1.1 43 ((2 : Nat) : Int) = h.length := by
    intro t ht hn σ1 f1
    have e1 : σ1.1 43 = σ.1 43 := f1.1 43 (by omega)
    rw [e1]
    exact ⟨h1, h3⟩
  rcases hb with rfl | rfl
  all_goals
    refine e_X1_remember rfl (fun K hK => ?_)
    refine hK.1 [] 60 _ _ _ _ _ ?_
    refine bc_ob_i (by omega) ?_
    intro t ht hnt
    have ht8 : t = 0 ∨ t = 1 ∨ t = 2 ∨ t = 3 ∨ t = 4 ∨ t = 5 ∨ t = 6 ∨ t = 7 := by omega
    rcases ht8 with rfl | rfl | rfl | rfl | rfl | rfl | rfl | rfl
    all_goals
      refine t_X6_copyFrom (hcp _ ht) hA (fun σ1 a1 f1 => ?_)
      obtain ⟨q1, q2⟩ := hq _ ht (by omega) σ1 f1
      refine bc_ob_i (by omega) ?_
      refine bc_ob_i ⟨?_, by decide, Nat.le_of_ble_eq_true rfl⟩ ?_
      · simp [bc_wr]
        have : σ1.1 43 2 = h.length := q2
        omega
      exact fin _ ht (by omega) σ1 a1 f1
theorem t_X1_takeBack (hS : st_H B σ n h) (h0 : h = [] → Rr none σ) (f : ∀ q t, h = q :: t → ∀ σ' : bc_M, st_H B σ' ((n + 7) % 8) t → st_A B σ' 1 q → fr_ (fun k => (2 ≤ k ∧ k ≤ 14) ∨ k = 43) σ σ' → Rr none σ') : bc_Sem g (d + 3) mX1_takeBack [bc_R 43, bc_R 1] σ Rr X := by
  obtain ⟨h1, h2, h3, h4, h5⟩ := hS
  have l1 : σ.1 43 1 = n := h1
  have l2 : σ.1 43 2 = h.length := h3
  refine e_X1_takeBack rfl (fun K hK => ?_)
  refine hK.1 [] 60 _ _ _ _ _ ?_
  refine bc_ob_i (by omega) ?_
  refine bc_br_i (fun c => ?_) (fun c => ?_)
  · refine h0 ?_
    have : h.length = 0 := by omega
    exact List.length_eq_zero_iff.mp this
  · cases h with
    | nil => exact absurd (by simpa using h3) c
    | cons q ts =>
      refine bc_ob_i (by omega) ?_
      refine bc_ob_i ?_ ?_
      · simp [bc_wr]
        rw [l1]
        omega
      intro t ht hnt
      have e : 45 + 14 * t = hs_ n 0 := by
        simp [bc_wr] at hnt
        rw [l1] at hnt
        unfold hs_
        omega
      have hA := h5 0 (by simp)
      rw [← e] at hA
      refine t_X6_copyFrom (cp_fr ht) (st_A_fr (P := fun k => k = 43) hA (fr_trans (fr_wr rfl) (fr_wr rfl)) (by omega)) (fun σ1 a1 f1 => ?_)
      have e1 : ∀ j, σ1.1 43 j = _ := fun j => congrFun (f1.1 43 (by omega)) j
      refine f q ts rfl σ1 ⟨?_, by omega, ?_, by simp at h4; omega, fun u hu => ?_⟩ a1 (fr_trans (fr_wr (by omega)) (fr_trans (fr_wr (by omega)) (fr_mono f1 (by omega))))
      · rw [e1]
        simp [bc_wr]
        rw [l1]
        omega
      · rw [e1]
        simp [bc_wr]
        rw [l2]
        simp
      · have e2 : hs_ ((n + 7) % 8) u = hs_ n (u + 1) := by unfold hs_; omega
        rw [e2]
        have hq := h5 (u + 1) (by simp; omega)
        have hl := hs_le n (u + 1)
        refine st_A_fr (st_A_fr (P := fun k => k = 43) (by simpa using hq) (fr_trans (fr_wr rfl) (fr_wr rfl)) (fun k k0 k1 => by omega)) f1 (fun k k0 k1 => by omega)
end HIS
