/-! the reference's history: h lists the remembered rows, the newest first -/
def mh_ (σ : bc_M) (h : List rw_t) : Prop := σ.1 218 ((5 : Nat) : Int) = (h.length : Int) ∧ h.length ≤ 8 ∧ ∀ t : Nat, (ht : t < h.length) → ∀ j : Int, 0 ≤ j → j < 136 → σ.1 222 (136 * ((h.length : Int) - 1 - t) + j) = h[t] j
/-- of the object's own numbers only those of S may change -/
def fj_ (S : Int → Prop) (σ σ' : bc_M) : Prop := ∀ j : Int, ¬ S j → σ'.1 218 j = σ.1 218 j
section REF
variable {g : bc_C} {d : Nat} {σ : bc_M} {r : rw_t} {Rr : Option bc_A → bc_M → Prop} {X : Nat → bc_M → Prop}
theorem t_X11_weighs (hN : nw_ σ 219 r) (h : Rr (some (bc_I (tw_ r))) σ) : bc_Sem g (d + 1) mX11_weighs [bc_R 218] σ Rr X := by
  have e0 := hN 12 (by decide) (by decide)
  have e1 := hN 13 (by decide) (by decide)
  have e2 := hN 14 (by decide) (by decide)
  have e3 := hN 15 (by decide) (by decide)
  refine e_X11_weighs rfl (fun K hK => ?_)
  have L : ∀ i : Int, ∀ s : Int, 0 ≤ i → i ≤ 4 → (i = 0 → s = 0) → (i = 1 → s = r 12) → (i = 2 → s = r 12 + r 13) → (i = 3 → s = r 12 + r 13 + r 14) → (i = 4 → s = tw_ r) → K 4 [(0, bc_R 218), (1, bc_I s), (2, bc_I i)] [] σ 0 := by
    refine up_ind 4 (fun i hi s h0 h1 q0 q1 q2 q3 q4 => ?_) (fun i hi ih s h0 h1 q0 q1 q2 q3 q4 => ?_)
    · refine hK.1 [4] 60 _ _ _ _ _ ?_
      refine bc_ob_i (by omega) ?_
      refine bc_br_i (fun c => by omega) (fun c => ?_)
      exact rt_ h (q4 (by omega))
    · have hv := hN (12 + i) (by omega) (by omega)
      refine hK.1 [4] 60 _ _ _ _ _ ?_
      refine bc_ob_i (by omega) ?_
      refine bc_br_i (fun c => ?_) (fun c => by omega)
      refine bc_ob_i (by omega) ?_
      unfold tw_ at ih
      have hh : i = 0 ∨ i = 1 ∨ i = 2 ∨ i = 3 := by omega
      rcases hh with rfl | rfl | rfl | rfl
      · exact ih _ (by omega) (by omega) (by omega) (fun _ => by rw [hv, q0 rfl]; simp) (by omega) (by omega) (by omega)
      · exact ih _ (by omega) (by omega) (by omega) (by omega) (fun _ => by rw [hv, q1 rfl]; simp) (by omega) (by omega)
      · exact ih _ (by omega) (by omega) (by omega) (by omega) (by omega) (fun _ => by rw [hv, q2 rfl]; simp) (by omega)
      · exact ih _ (by omega) (by omega) (by omega) (by omega) (by omega) (by omega) (fun _ => by rw [hv, q3 rfl]; simp)
  refine hK.1 [4] 40 _ _ _ _ _ ?_
  exact L 0 0 (by omega) (by omega) (by omega) (by omega) (by omega) (by omega) (by omega)
theorem t_X11_begins (hN : nw_ σ 219 r) (h : ∀ σ', nw_ σ' 220 r → fr_ (fun k => k = 220) σ σ' → Rr none σ') : bc_Sem g (d + 2) mX11_begins [bc_R 218] σ Rr X := by
  refine e_X11_begins rfl (fun K hK => ?_)
  refine hK.1 [] 60 _ _ _ _ _ ?_
  refine t_X11_copies (.inl ⟨rfl, rfl⟩) (by decide) (by decide) (fun σ' hc => ?_)
  refine h σ' (fun j j0 j1 => ?_) hc.1
  have := hc.2.1 j j0 j1
  rw [Int.zero_add] at this
  rw [this]
  exact hN j j0 j1
theorem t_X11_remembers {b : rw_t} {h : List rw_t} (hH : mh_ σ h) (hb : nw_ σ 220 b) (f : ∀ σ', mh_ σ' (hr_ h b) → fr_ (fun k => k = 218 ∨ k = 222) σ σ' → fj_ (fun j => j = 5) σ σ' → Rr none σ') : bc_Sem g (d + 2) mX11_remembers [bc_R 218] σ Rr X := by
  obtain ⟨h1, h2, h3⟩ := hH
  refine e_X11_remembers rfl (fun K hK => ?_)
  -- the newest row is laid down
  have last : ∀ (n : Nat) (σ1 : bc_M), n < 8 → ∀ nl : n ≤ h.length, n = min h.length 7 → σ1.1 218 ((5 : Nat) : Int) = n → (∀ t : Nat, (ht : t < n) → ∀ j : Int, 0 ≤ j → j < 136 → σ1.1 222 (136 * ((n : Int) - 1 - t) + j) = (h[t]'(by omega)) j) → fr_ (fun k => k = 218 ∨ k = 222) σ σ1 → fj_ (fun j => j = 5) σ σ1 → ∀ σ2, cc_ 220 222 0 (136 * n) 136 σ1 σ2 → Rr none (bc_wr σ2 218 ((5 : Nat) : Int) (σ2.1 218 ((5 : Nat) : Int) + 1)) := by
    intro n σ1 n8 nl nm e5 old F1 J1 σ2 hc
    have z5 : σ2.1 218 ((5 : Nat) : Int) = n := by rw [hc.1.1 218 (by decide)]; exact e5
    have lenh : (hr_ h b).length = n + 1 := by
      unfold hr_
      rw [List.length_take, List.length_cons]
      omega
    have z222 : (bc_wr σ2 218 ((5 : Nat) : Int) (σ2.1 218 ((5 : Nat) : Int) + 1)).1 222 = σ2.1 222 := bc_wr_ne (by decide)
    refine f _ ⟨?_, by omega, fun t ht j j0 j1 => ?_⟩ (fr_trans F1 (fr_trans (fr_mono hc.1 (fun k hk => .inr hk)) (fr_wr (.inl rfl)))) (fun j hj => ?_)
    · rw [lenh, z5]
      simp [bc_wr]
    · rw [z222, lenh]
      unfold hr_ at ht ⊢
      cases t with
      | zero =>
        have q := hc.2.1 j j0 j1
        have e : 136 * (((n + 1 : Nat) : Int) - 1 - ((0 : Nat) : Int)) + j = 136 * (n : Int) + j := by omega
        rw [e, q, Int.zero_add, F1.1 220 (by decide), hb j j0 j1]
        rfl
      | succ t =>
        have tn : t < n := by
          rw [List.length_take, List.length_cons] at ht
          omega
        have q := hc.2.2 (136 * ((n : Int) - 1 - t) + j) (by omega)
        have e : 136 * (((n + 1 : Nat) : Int) - 1 - ((t + 1 : Nat) : Int)) + j = 136 * ((n : Int) - 1 - t) + j := by omega
        have e9 : (List.take 8 (b :: h))[t + 1]'ht = h[t]'(by omega) := by
          rw [List.getElem_take]
          rfl
        rw [e, q, old t tn j j0 j1]
        exact (congrFun e9 j).symm
    · have hj' : j ≠ 5 := hj
      rw [← J1 j hj]
      simp [bc_wr, hj']
      rw [hc.1.1 218 (by decide)]
  have hn : 0 ≤ σ.1 218 ((5 : Nat) : Int) ∧ σ.1 218 ((5 : Nat) : Int) ≤ 8 := by omega
  by_cases c8 : h.length = 8
  · have L : ∀ i : Int, ∀ σ', 0 ≤ i → i ≤ 952 → (∀ k : Int, 0 ≤ k → k < i → σ'.1 222 k = σ.1 222 (k + 136)) → (∀ k : Int, i ≤ k → σ'.1 222 k = σ.1 222 k) → fr_ (fun k => k = 222) σ σ' → K 11 [(0, bc_R 218), (1, bc_I i)] [] σ' 0 := by
      refine up_ind 952 (fun i hi σ' i0 i1 q1 q2 F => ?_) (fun i hi ih σ' i0 i1 q1 q2 F => ?_)
      · have e5 : σ'.1 218 ((5 : Nat) : Int) = 8 := by rw [F.1 218 (by decide)]; omega
        have z5 : (bc_wr σ' 218 ((5 : Nat) : Int) (σ'.1 218 ((5 : Nat) : Int) - 1)).1 218 ((5 : Nat) : Int) = 7 := by
          rw [e5]
          simp [bc_wr]
        refine hK.1 [11] 60 _ _ _ _ _ ?_
        refine bc_ob_i (by omega) ?_
        refine bc_br_i (fun c => by omega) (fun _ => ?_)
        refine t_X11_copies (.inr (.inr (.inl ⟨rfl, rfl⟩))) (by decide) (by rw [z5]; decide) (fun σ2 hc => ?_)
        rw [z5] at hc
        refine last 7 _ (by decide) (by omega) (by omega) z5 (fun t ht j j0 j1 => ?_) (fr_trans (fr_mono F (fun k hk => .inr hk)) (fr_wr (.inl rfl))) (fun j hj => ?_) σ2 hc
        · rw [show (bc_wr σ' 218 ((5 : Nat) : Int) (σ'.1 218 ((5 : Nat) : Int) - 1)).1 222 = σ'.1 222 from bc_wr_ne (by decide)]
          rw [q1 _ (by omega) (by omega)]
          have := h3 t (by omega) j j0 j1
          have e9 : (h.length : Int) = 8 := by omega
          refine Eq.trans (congrArg (σ.1 222) ?_) this
          omega
        · have hj' : j ≠ 5 := hj
          simp [bc_wr, hj']
          rw [F.1 218 (by decide)]
      · refine hK.1 [11] 60 _ _ _ _ _ ?_
        refine bc_ob_i (by omega) ?_
        refine bc_br_i (fun _ => ?_) (fun c => by omega)
        refine bc_ob_i (by omega) ?_
        refine bc_ob_i (by omega) ?_
        refine ih _ (by omega) (by omega) (fun k k0 k1 => ?_) (fun k k0 => ?_) (fr_trans F (fr_wr rfl))
        · simp only [bc_wr, if_true]
          by_cases e : k = i
          · rw [if_pos e, q2 _ (by omega), e]
          · rw [if_neg e]
            exact q1 k k0 (by omega)
        · simp only [bc_wr, if_true]
          rw [if_neg (by omega)]
          exact q2 k (by omega)
    refine hK.1 [11] 60 _ _ _ _ _ ?_
    refine bc_ob_i (by omega) ?_
    refine bc_br_i (fun _ => ?_) (fun c => by omega)
    exact L 0 σ (by decide) (by decide) (fun k k0 k1 => by omega) (fun k _ => rfl) (fr_refl _)
  · refine hK.1 [11] 60 _ _ _ _ _ ?_
    refine bc_ob_i (by omega) ?_
    refine bc_br_i (fun c => by omega) (fun _ => ?_)
    refine t_X11_copies (.inr (.inr (.inl ⟨rfl, rfl⟩))) (by decide) ?_ (fun σ2 hc => ?_)
    · have : cn_ 222 = 1088 := rfl
      rw [this]
      omega
    · rw [h1, Int.mul_comm] at hc
      exact last h.length σ (by omega) (Nat.le_refl _) (by omega) h1 h3 (fr_refl _) (fun j _ => rfl) σ2 hc
end REF
