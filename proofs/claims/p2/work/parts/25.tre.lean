theorem sm_eq {f h : Int → Int} {n : Nat} (e : ∀ k : Int, 0 ≤ k → k < n → f k = h k) : sm_ f n = sm_ h n := by
  induction n with
  | zero => rfl
  | succ n ih =>
    unfold sm_
    rw [ih (fun k h0 h1 => e k h0 (by omega)), e n (by omega) (by omega)]
theorem sm_add {f h : Int → Int} {n : Nat} : sm_ (fun k => f k + h k) n = sm_ f n + sm_ h n := by
  induction n with
  | zero => rfl
  | succ n ih => unfold sm_; rw [ih]; omega
theorem sm_0 {f : Int → Int} {n : Nat} (e : ∀ k : Int, 0 ≤ k → k < n → f k = 0) : sm_ f n = 0 := by
  induction n with
  | zero => rfl
  | succ n ih =>
    unfold sm_
    rw [ih (fun k h0 h1 => e k h0 (by omega)), e n (by omega) (by omega)]
    rfl
abbrev am_ (r : rw_t) (due k : Int) : Int := if r (113 + 3 * k) ≤ due then r (114 + 3 * k) else 0
abbrev an_ (r : rw_t) (due k : Int) : Int := if r (113 + 3 * k) = due then r (114 + 3 * k) else 0
theorem am_s {r : rw_t} {due : Int} {n : Nat} : sm_ (am_ r (due + 1)) n = sm_ (am_ r due) n + sm_ (an_ r (due + 1)) n := by
  rw [← sm_add]
  refine sm_eq (fun k _ _ => ?_)
  unfold am_ an_
  (repeat' split) <;> omega
theorem am_le {B : Int} {r : rw_t} (hW : wf_T B r) (due : Int) {i : Int} (h0 : 0 ≤ i) (h1 : i ≤ r 4) : 0 ≤ sm_ (am_ r due) i.toNat ∧ sm_ (am_ r due) i.toNat ≤ 99 * i := by
  have w := hW.2.2.2.1
  have := sm_le (f := am_ r due) (A := 0) (B := 99) h0 (fun k k0 k1 => by
    have := (hW.2.2.2.2.2.2.2.2.2.2.2.2.1 k k0 (by omega)).2.2
    unfold am_
    split <;> omega)
  omega
theorem an_le {B : Int} {r : rw_t} (hW : wf_T B r) (due : Int) {i : Int} (h0 : 0 ≤ i) (h1 : i ≤ r 4) : 0 ≤ sm_ (an_ r due) i.toNat ∧ sm_ (an_ r due) i.toNat ≤ 99 * i := by
  have w := hW.2.2.2.1
  have := sm_le (f := an_ r due) (A := 0) (B := 99) h0 (fun k k0 k1 => by
    have := (hW.2.2.2.2.2.2.2.2.2.2.2.2.1 k k0 (by omega)).2.2
    unfold an_
    split <;> omega)
  omega
/-- what a treasury's row bounds -/
theorem wt_le {B : Int} {r : rw_t} (hW : wf_T B r) : (0 ≤ r 0 ∧ r 0 ≤ B) ∧ (0 ≤ r 1 ∧ r 1 ≤ 30 + 20 * B) ∧ (0 ≤ r 2 ∧ r 2 ≤ 20) ∧ (0 ≤ r 4 ∧ r 4 ≤ 8) ∧ (0 ≤ r 6 ∧ r 6 ≤ B) ∧ (0 ≤ r 7 ∧ r 7 ≤ B) ∧ (0 ≤ r 5 ∧ r 5 ≤ B) ∧ (0 ≤ r 8 ∧ r 8 ≤ 20 * B) ∧ (0 ≤ r 9 ∧ r 9 ≤ 30 + 20 * B) ∧ (0 ≤ r 10 ∧ r 10 ≤ 30 + 20 * B) := by
  obtain ⟨h0, h1, h2, h3, h4, h5, h6, h7, h8, h9, h10, h11, -⟩ := hW
  omega
theorem sp_le {B : Int} {r : rw_t} (hW : wf_T B r) (hB : B ≤ 1000000) {a : Int} (a0 : 0 ≤ a) (a1 : a ≤ 2000000) : -100000000 ≤ sp_ r a ∧ sp_ r a ≤ 100000000 := by
  have w := wt_le hW
  have h1 := am_le hW a w.2.2.2.1.1 (Int.le_refl _)
  have h2 := mul_le (a := r 2) (A := 20) (b := a - r 0 + 1000000) (B := 3000000) (by omega) (by omega) (by omega) (by omega)
  have e : r 2 * (a - r 0 + 1000000) = r 2 * (a - r 0) + 1000000 * r 2 := by rw [Int.mul_add]; omega
  unfold sp_
  unfold am_ at h1
  omega
section TRE3
variable {g : bc_C} {d : Nat} {σ : bc_M} {r : rw_t} {B : Int} {Rr : Option bc_A → bc_M → Prop} {X : Nat → bc_M → Prop}
theorem t_X8_spareOn {a : Int} (hS : st_T σ 1 r) (hW : wf_T B r) (hB : B ≤ 1000000) (a0 : 0 ≤ a) (a1 : a ≤ 2000000) (h : Rr (some (bc_I (sp_ r a))) σ) : bc_Sem g (d + 1) mX8_spareOn [bc_R 11, bc_I a] σ Rr X := by
  obtain ⟨⟨f0, f1, f2, f3, f4, f5, f6, f7, f8, f9⟩, f⟩ := st_T1 hS
  have w := wt_le hW
  have h2 := mul_le (a := r 2) (A := 20) (b := a - r 0 + 1000000) (B := 3000000) (by omega) (by omega) (by omega) (by omega)
  have e : r 2 * (a - r 0 + 1000000) = r 2 * (a - r 0) + 1000000 * r 2 := by rw [Int.mul_add]; omega
  have w12 := hW.2.2.2.2.2.2.2.2.2.2.2.2.1
  refine e_X8_spareOn rfl (fun K hK => ?_)
  have L : ∀ i : Int, ∀ s : Int, 0 ≤ i → i ≤ r 4 → s = r 1 + r 2 * (a - r 0) - sm_ (am_ r a) i.toNat → K 19 [(0, bc_R 11), (1, bc_I a), (2, bc_I s), (3, bc_I i)] [] σ 0 := by
    refine up_ind (r 4) (fun i hi s h0 h1 h3 => ?_) (fun i hi ih s h0 h1 h3 => ?_)
    · refine hK.1 [19] 60 _ _ _ _ _ ?_
      refine bc_ob_i (by omega) ?_
      refine bc_br_i (fun c => by omega) (fun c => ?_)
      have e : i = r 4 := by omega
      rw [h3, e]
      exact h
    · obtain ⟨q1, q2, q3⟩ := f i h0 (by omega)
      have w2 := w12 i h0 (by omega)
      have es := sm_s (f := am_ r a) h0
      have hb := am_le hW a h0 h1
      have nxt : ∀ s', s' = s - am_ r a i → K 19 [(0, bc_R 11), (1, bc_I a), (2, bc_I s'), (3, bc_I (i + 1))] [] σ 0 := fun s' e => ih s' (by omega) (by omega) (by rw [es, e, h3]; omega)
      refine hK.1 [19] 60 _ _ _ _ _ ?_
      repeat' first | refine bc_br_i (fun _ => ?_) (fun _ => ?_) | refine bc_ob_i (by omega) ?_
      all_goals first | (exfalso; omega) | exact nxt _ (by unfold am_; split <;> omega)
  refine hK.1 [19] 40 _ _ _ _ _ ?_
  exact L 0 _ (by omega) (by omega) (by show _ = r 1 + r 2 * (a - r 0) - 0; rw [f1, f2, f0]; omega)
theorem t_X8_keepsAllBySums (hS : st_T σ 1 r) (hW : wf_T B r) (hB : B ≤ 1000000) (h : ∀ v : Int, (v = 1 ∧ ∀ k : Int, 0 ≤ k → k < r 4 → 0 ≤ sp_ r (r (113 + 3 * k))) ∨ (v = 0 ∧ ∃ k : Int, 0 ≤ k ∧ k < r 4 ∧ sp_ r (r (113 + 3 * k)) < 0) → Rr (some (bc_I v)) σ) : bc_Sem g (d + 2) mX8_keepsAllBySums [bc_R 11] σ Rr X := by
  obtain ⟨⟨f0, f1, f2, f3, f4, f5, f6, f7, f8, f9⟩, f⟩ := st_T1 hS
  have w := wt_le hW
  have w12 := hW.2.2.2.2.2.2.2.2.2.2.2.2.1
  refine e_X8_keepsAllBySums rfl (fun K hK => ?_)
  have L : ∀ i : Int, 0 ≤ i → i ≤ r 4 → (∀ k : Int, 0 ≤ k → k < i → 0 ≤ sp_ r (r (113 + 3 * k))) → K 2 [(0, bc_R 11), (1, bc_I i)] [] σ 0 := by
    refine up_ind (r 4) (fun i hi h0 h1 h3 => ?_) (fun i hi ih h0 h1 h3 => ?_)
    · refine hK.1 [2] 60 _ _ _ _ _ ?_
      refine bc_ob_i (by omega) ?_
      refine bc_br_i (fun c => by omega) (fun c => ?_)
      refine bc_ob_i (by omega) ?_
      exact h 1 (Or.inl ⟨rfl, fun k k0 k1 => h3 k k0 (by omega)⟩)
    · obtain ⟨q1, q2, q3⟩ := f i h0 (by omega)
      have w2 := w12 i h0 (by omega)
      have hb := sp_le hW hB (a := r (113 + 3 * i)) (by omega) (by omega)
      refine hK.1 [2] 60 _ _ _ _ _ ?_
      refine bc_ob_i (by omega) ?_
      refine bc_br_i (fun c => ?_) (fun c => by omega)
      refine bc_ob_i (by omega) ?_
      refine t_X8_spareOn (a := σ.1 13 i) hS hW hB (by omega) (by omega) ?_
      rw [q2]
      refine bc_ob_i (by omega) ?_
      refine bc_br_i (fun c => ?_) (fun c => ?_)
      · refine bc_ob_i (by omega) ?_
        exact h 0 (Or.inr ⟨rfl, i, h0, by omega, c⟩)
      · exact ih (by omega) (by omega) (fun k k0 k1 => by
          by_cases hk : k = i
          · rw [hk]; omega
          · exact h3 k k0 (by omega))
  refine hK.1 [2] 40 _ _ _ _ _ ?_
  exact L 0 (by omega) (by omega) (fun k k0 k1 => by omega)
theorem t_X8_keepsAllDayByDay (hS : st_T σ 1 r) (hW : wf_T B r) (hB : B ≤ 1000000) (h : ∀ v : Int, (v = 1 ∧ ∀ a : Int, 1 ≤ a → a ≤ 50 → 0 ≤ sp_ r (r 0 + a)) ∨ (v = 0 ∧ ∃ a : Int, 1 ≤ a ∧ a ≤ 50 ∧ sp_ r (r 0 + a) < 0) → Rr (some (bc_I v)) σ) : bc_Sem g (d + 1) mX8_keepsAllDayByDay [bc_R 11] σ Rr X := by
  obtain ⟨⟨f0, f1, f2, f3, f4, f5, f6, f7, f8, f9⟩, f⟩ := st_T1 hS
  have w := wt_le hW
  have w12 := hW.2.2.2.2.2.2.2.2.2.2.2.2.1
  have w13 := hW.2.2.2.2.2.2.2.2.2.2.2.2.2.1
  have e4 : ((r 4).toNat : Int) = r 4 := Int.toNat_of_nonneg w.2.2.2.1.1
  have espo : ∀ a : Int, sp_ r (r 0 + a) = r 1 + r 2 * a - sm_ (am_ r (r 0 + a)) (r 4).toNat := fun a => by
    unfold sp_ am_
    rw [show r 0 + a - r 0 = a by omega]
  have hs0 : sm_ (am_ r (r 0)) (r 4).toNat = 0 := sm_0 (fun k k0 k1 => by
    have := (w13 k k0 (by omega)).1
    unfold am_
    rw [if_neg (by omega)])
  have hbm : ∀ a : Int, 0 ≤ a → a ≤ 50 → 0 ≤ r 2 * a ∧ r 2 * a ≤ 1000 := fun a a0 a1 => mul_le (A := 20) (B := 50) (by omega) (by omega) a0 a1
  refine e_X8_keepsAllDayByDay rfl (fun K hK => ?_)
  have L : ∀ a : Int, ∀ u : Int, ∀ z : List (Nat × bc_A), 1 ≤ a → a ≤ 51 → u = r 1 + r 2 * (a - 1) - sm_ (am_ r (r 0 + (a - 1))) (r 4).toNat → (∀ a' : Int, 1 ≤ a' → a' < a → 0 ≤ sp_ r (r 0 + a')) → K 7 [(0, bc_R 11), (1, bc_I u), (2, bc_I a)] [] σ 0 := by
    refine up_ind 51 (fun a ha u z h0 h1 h3 h4 => ?_) (fun a ha ih u z h0 h1 h3 h4 => ?_)
    · have m1 := hbm (a - 1) (by omega) (by omega)
      have m2 := am_le hW (r 0 + (a - 1)) w.2.2.2.1.1 (Int.le_refl _)
      refine hK.1 [7] 60 _ _ _ _ _ ?_
      refine bc_ob_i (by omega) ?_
      refine bc_br_i (fun c => ?_) (fun c => by omega)
      refine bc_ob_i (by omega) ?_
      exact h 1 (Or.inl ⟨rfl, fun a' a0 a1 => h4 a' a0 (by omega)⟩)
    · have m1 := hbm (a - 1) (by omega) (by omega)
      have m3 := hbm a (by omega) (by omega)
      have m2 := am_le hW (r 0 + (a - 1)) w.2.2.2.1.1 (Int.le_refl _)
      have em : r 2 * a = r 2 * (a - 1) + r 2 := by
        have := Int.mul_add (r 2) (a - 1) 1
        rw [show a - 1 + 1 = a by omega] at this
        omega
      have hsum : sm_ (am_ r (r 0 + a)) (r 4).toNat = sm_ (am_ r (r 0 + (a - 1))) (r 4).toNat + sm_ (an_ r (r 0 + a)) (r 4).toNat := by
        have := am_s (r := r) (due := r 0 + (a - 1)) (n := (r 4).toNat)
        rw [show r 0 + (a - 1) + 1 = r 0 + a by omega] at this
        exact this
      have I : ∀ i : Int, ∀ u' : Int, 0 ≤ i → i ≤ r 4 → u' = u + r 2 - sm_ (an_ r (r 0 + a)) i.toNat → K 22 [(0, bc_R 11), (1, bc_I u'), (2, bc_I a), (3, bc_I i)] [] σ 0 := by
        refine up_ind (r 4) (fun i hi u' h0' h1' h3' => ?_) (fun i hi ih' u' h0' h1' h3' => ?_)
        · have n2 := an_le hW (r 0 + a) h0' h1'
          have ei : i = r 4 := by omega
          rw [ei] at h3' n2
          have eu : u' = sp_ r (r 0 + a) := by rw [espo, hsum]; omega
          refine hK.1 [7, 22] 60 _ _ _ _ _ ?_
          refine bc_ob_i (by omega) ?_
          refine bc_br_i (fun c => by omega) (fun c => ?_)
          refine bc_ob_i (by omega) ?_
          refine bc_br_i (fun c => ?_) (fun c => ?_)
          · refine bc_ob_i (by omega) ?_
            exact h 0 (Or.inr ⟨rfl, a, by omega, by omega, by omega⟩)
          · refine hK.2 7 _ [(0, bc_R 11), (1, bc_I u'), (2, bc_I (a + 1))] _ _ _ (by intro q hq; simp at hq ⊢; rcases hq with hq | hq | hq <;> simp [hq]) (ih u' z (by omega) (by omega) ?_ ?_)
            · rw [show a + 1 - 1 = a by omega, eu, espo]
            · intro a' a0 a1
              by_cases hk : a' = a
              · rw [hk]; omega
              · exact h4 a' a0 (by omega)
        · obtain ⟨q1, q2, q3⟩ := f i h0' (by omega)
          have w2 := w12 i h0' (by omega)
          have es := sm_s (f := an_ r (r 0 + a)) h0'
          have n2 := an_le hW (r 0 + a) h0' h1'
          have nxt : ∀ s', s' = u' - an_ r (r 0 + a) i → K 22 [(0, bc_R 11), (1, bc_I s'), (2, bc_I a), (3, bc_I (i + 1))] [] σ 0 := fun s' e => ih' s' (by omega) (by omega) (by rw [es, e, h3']; omega)
          refine hK.1 [22] 60 _ _ _ _ _ ?_
          repeat' first | refine bc_br_i (fun _ => ?_) (fun _ => ?_) | refine bc_ob_i (by omega) ?_
          all_goals first | (exfalso; omega) | exact nxt _ (by unfold an_; split <;> omega)
      refine hK.1 [22] 60 _ _ _ _ _ ?_
      refine bc_ob_i (by omega) ?_
      refine bc_br_i (fun c => by omega) (fun c => ?_)
      exact I 0 _ (by omega) (by omega) (by show _ = u + r 2 - 0; rw [f2]; omega)
  refine hK.1 [7] 40 _ _ _ _ _ ?_
  exact L 1 _ [] (by omega) (by omega) (by show _ = r 1 + r 2 * (1 - 1) - sm_ (am_ r (r 0 + (1 - 1))) (r 4).toNat; rw [show r 0 + (1 - 1) = r 0 by omega, hs0, f1]; simp) (fun a' a0 a1 => by omega)
theorem t_X8_greatestFurther {a : Int} (hS : st_T σ 1 r) (hW : wf_T B r) (hB : B ≤ 1000000) (a0 : 0 ≤ a) (a1 : a ≤ 2000000) (h : ∀ v : Int, v ≤ sp_ r a → (∀ k : Int, 0 ≤ k → k < r 4 → a < r (113 + 3 * k) → v ≤ sp_ r (r (113 + 3 * k))) → (v = sp_ r a ∨ ∃ k : Int, 0 ≤ k ∧ k < r 4 ∧ a < r (113 + 3 * k) ∧ v = sp_ r (r (113 + 3 * k))) → Rr (some (bc_I v)) σ) : bc_Sem g (d + 2) mX8_greatestFurther [bc_R 11, bc_I a] σ Rr X := by
  obtain ⟨⟨f0, f1, f2, f3, f4, f5, f6, f7, f8, f9⟩, f⟩ := st_T1 hS
  have w := wt_le hW
  have w12 := hW.2.2.2.2.2.2.2.2.2.2.2.2.1
  have hb0 := sp_le hW hB a0 a1
  refine e_X8_greatestFurther rfl (fun K hK => ?_)
  have L : ∀ i : Int, ∀ v : Int, 0 ≤ i → i ≤ r 4 → -100000000 ≤ v → v ≤ sp_ r a → (∀ k : Int, 0 ≤ k → k < i → a < r (113 + 3 * k) → v ≤ sp_ r (r (113 + 3 * k))) → (v = sp_ r a ∨ ∃ k : Int, 0 ≤ k ∧ k < r 4 ∧ a < r (113 + 3 * k) ∧ v = sp_ r (r (113 + 3 * k))) → K 8 [(0, bc_R 11), (1, bc_I a), (2, bc_I v), (3, bc_I i)] [] σ 0 := by
    refine up_ind (r 4) (fun i hi v h0 h1 h2 h3 h4 h5 => ?_) (fun i hi ih v h0 h1 h2 h3 h4 h5 => ?_)
    · refine hK.1 [8] 60 _ _ _ _ _ ?_
      refine bc_ob_i (by omega) ?_
      refine bc_br_i (fun c => by omega) (fun c => ?_)
      exact h v h3 (fun k k0 k1 => h4 k k0 (by omega)) h5
    · obtain ⟨q1, q2, q3⟩ := f i h0 (by omega)
      have w2 := w12 i h0 (by omega)
      have hb := sp_le hW hB (a := r (113 + 3 * i)) (by omega) (by omega)
      refine hK.1 [8] 60 _ _ _ _ _ ?_
      refine bc_ob_i (by omega) ?_
      refine bc_br_i (fun c => ?_) (fun c => by omega)
      refine bc_ob_i (by omega) ?_
      refine bc_ob_i (by omega) ?_
      refine bc_br_i (fun c => ?_) (fun c => ?_)
      · refine bc_ob_i (by omega) ?_
        refine t_X8_spareOn (a := σ.1 13 i) hS hW hB (by omega) (by omega) ?_
        rw [q2] at c ⊢
        refine bc_ob_i ⟨by omega, by omega, Nat.le_of_ble_eq_true rfl⟩ ?_
        refine ih _ (by omega) (by omega) (by omega) (by omega) (fun k k0 k1 k2 => ?_) ?_
        · by_cases hk : k = i
          · rw [hk]; omega
          · have := h4 k k0 (by omega) k2
            omega
        · by_cases hm : v ≤ sp_ r (r (113 + 3 * i))
          · rw [Int.min_eq_left hm]; exact h5
          · rw [Int.min_eq_right (by omega)]; exact Or.inr ⟨i, h0, by omega, c, rfl⟩
      · rw [q2] at c
        exact ih v (by omega) (by omega) h2 h3 (fun k k0 k1 k2 => by
          by_cases hk : k = i
          · rw [hk] at k2; omega
          · exact h4 k k0 (by omega) k2) h5
  refine hK.1 [8] 40 _ _ _ _ _ ?_
  refine t_X8_spareOn hS hW hB a0 a1 ?_
  exact L 0 _ (by omega) (by omega) hb0.1 (Int.le_refl _) (fun k k0 k1 => by omega) (Or.inl rfl)
theorem t_X8_slotOf {a : Int} (hS : st_T σ 1 r) (hW : wf_T B r) (hB : B ≤ 1000000) (ha : bc_in a) (h : ∀ v : Int, (0 ≤ v ∧ v < r 4 ∧ r (112 + 3 * v) = a) ∨ (v = -1 ∧ ∀ k : Int, 0 ≤ k → k < r 4 → r (112 + 3 * k) ≠ a) → Rr (some (bc_I v)) σ) : bc_Sem g (d + 1) mX8_slotOf [bc_R 11, bc_I a] σ Rr X := by
  obtain ⟨⟨f0, f1, f2, f3, f4, f5, f6, f7, f8, f9⟩, f⟩ := st_T1 hS
  have w := wt_le hW
  have w12 := hW.2.2.2.2.2.2.2.2.2.2.2.2.1
  obtain ⟨ha0, ha1⟩ := ha
  refine e_X8_slotOf rfl (fun K hK => ?_)
  have L : ∀ i : Int, 0 ≤ i → i ≤ r 4 → (∀ k : Int, 0 ≤ k → k < i → r (112 + 3 * k) ≠ a) → K 2 [(0, bc_R 11), (1, bc_I a), (2, bc_I i)] [] σ 0 := by
    refine up_ind (r 4) (fun i hi h0 h1 h3 => ?_) (fun i hi ih h0 h1 h3 => ?_)
    · refine hK.1 [2] 60 _ _ _ _ _ ?_
      refine bc_ob_i (by omega) ?_
      refine bc_br_i (fun c => by omega) (fun c => ?_)
      exact h (-1) (Or.inr ⟨rfl, fun k k0 k1 => h3 k k0 (by omega)⟩)
    · obtain ⟨q1, q2, q3⟩ := f i h0 (by omega)
      have w2 := w12 i h0 (by omega)
      refine hK.1 [2] 60 _ _ _ _ _ ?_
      refine bc_ob_i (by omega) ?_
      refine bc_br_i (fun c => ?_) (fun c => by omega)
      refine bc_ob_i (by omega) ?_
      refine bc_ob_i (by omega) ?_
      refine bc_br_i (fun c => ?_) (fun c => ?_)
      · exact h i (Or.inl ⟨h0, by omega, by omega⟩)
      · exact ih (by omega) (by omega) (fun k k0 k1 => by
          by_cases hk : k = i
          · rw [hk]; omega
          · exact h3 k k0 (by omega))
  refine hK.1 [2] 40 _ _ _ _ _ ?_
  exact L 0 (by omega) (by omega) (fun k k0 k1 => by omega)
end TRE3
