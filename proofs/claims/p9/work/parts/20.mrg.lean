section
/-! STATES: a row of 136 numbers (as the reference has it) says what a state is -/
noncomputable abbrev rw_t : Type := Int → Int
noncomputable def st_M (σ : bc_M) (b : Nat) (r : rw_t) : Prop := σ.1 (b + 1) ((0 : Nat) : Int) = r 3 ∧ ∀ k : Int, 0 ≤ k → k < 16 → σ.1 (b + 2) k = r (16 + 6 * k) ∧ σ.1 (b + 3) k = r (17 + 6 * k) ∧ σ.1 (b + 4) k = r (18 + 6 * k) ∧ σ.1 (b + 5) k = r (19 + 6 * k) ∧ σ.1 (b + 6) k = r (20 + 6 * k) ∧ σ.1 (b + 7) k = r (21 + 6 * k)
theorem st_M1 {σ : bc_M} {r : rw_t} (h : st_M σ 1 r) : σ.1 2 ((0 : Nat) : Int) = r 3 ∧ ∀ k : Int, 0 ≤ k → k < 16 → σ.1 3 k = r (16 + 6 * k) ∧ σ.1 4 k = r (17 + 6 * k) ∧ σ.1 5 k = r (18 + 6 * k) ∧ σ.1 6 k = r (19 + 6 * k) ∧ σ.1 7 k = r (20 + 6 * k) ∧ σ.1 8 k = r (21 + 6 * k) := h
noncomputable def wf_M (r : rw_t) : Prop := (0 ≤ r 3 ∧ r 3 ≤ 16) ∧ ∀ k : Int, 0 ≤ k → k < 16 → (0 ≤ r (16 + 6 * k) ∧ r (16 + 6 * k) ≤ 7) ∧ (0 ≤ r (17 + 6 * k) ∧ r (17 + 6 * k) ≤ 7) ∧ (0 ≤ r (18 + 6 * k) ∧ r (18 + 6 * k) ≤ 99) ∧ (0 ≤ r (19 + 6 * k) ∧ r (19 + 6 * k) ≤ 9) ∧ (0 ≤ r (20 + 6 * k) ∧ r (20 + 6 * k) ≤ 99) ∧ (0 ≤ r (21 + 6 * k) ∧ r (21 + 6 * k) ≤ 1)
noncomputable def br_ (r : rw_t) (k : Int) : Int := if r (21 + 6 * k) = 0 then r (18 + 6 * k) * (10 - r (19 + 6 * k)) / 10 else 0
noncomputable def co_ (r : rw_t) (k : Int) : Int := (r (18 + 6 * k) + 9) / 10 * r (19 + 6 * k)
theorem mul_le {a b A B : Int} (h0 : 0 ≤ a) (h1 : a ≤ A) (h2 : 0 ≤ b) (h3 : b ≤ B) : 0 ≤ a * b ∧ a * b ≤ A * B :=
  ⟨Int.mul_nonneg h0 h2, Int.le_trans (Int.mul_le_mul_of_nonneg_right h1 h2) (Int.mul_le_mul_of_nonneg_left h3 (Int.le_trans h0 h1))⟩
theorem br_le {r : rw_t} (h : wf_M r) {k : Int} (h0 : 0 ≤ k) (h1 : k < 16) : 0 ≤ br_ r k ∧ br_ r k ≤ 99 := by
  obtain ⟨-, -, h2, h3, -, -⟩ := h.2 k h0 h1
  have := mul_le h2.1 h2.2 (b := 10 - r (19 + 6 * k)) (B := 10) (by omega) (by omega)
  unfold br_
  split <;> omega
theorem co_le {r : rw_t} (h : wf_M r) {k : Int} (h0 : 0 ≤ k) (h1 : k < 16) : 0 ≤ co_ r k ∧ co_ r k ≤ 90 := by
  obtain ⟨-, -, h2, h3, -, -⟩ := h.2 k h0 h1
  have := mul_le (a := (r (18 + 6 * k) + 9) / 10) (A := 10) (by omega) (by omega) h3.1 h3.2
  unfold co_
  omega
theorem up_ind {P : Int → Prop} (n : Int) (base : ∀ i, n ≤ i → P i) (step : ∀ i, i < n → P (i + 1) → P i) (i : Int) : P i := by
  have key : ∀ (k : Nat) (i : Int), n - i ≤ k → P i := by
    intro k
    induction k with
    | zero => intro i h; exact base i (by omega)
    | succ k ih =>
      intro i h
      by_cases hi : i < n
      · exact step i hi (ih (i + 1) (by omega))
      · exact base i (by omega)
  exact key (n - i).toNat i (by omega)
/-- the answer is had in another writing -/
theorem rt_ {Rr : Option bc_A → bc_M → Prop} {x y : Int} {σ : bc_M} (h : Rr (some (bc_I x)) σ) (e : y = x) : Rr (some (bc_I y)) σ := by rw [e]; exact h
section MEM
variable {g : bc_C} {d : Nat} {σ : bc_M} {r : rw_t} {Rr : Option bc_A → bc_M → Prop} {X : Nat → bc_M → Prop}
theorem t_X2_has {m : Int} (hS : st_M σ 1 r) (hW : wf_M r) (hm : bc_in m) (h : Rr (some (bc_I (if 0 ≤ m ∧ m < r 3 then 1 else 0))) σ) : bc_Sem g (d + 1) mX2_has [bc_R 2, bc_I m] σ Rr X := by
  obtain ⟨c1, c2⟩ := st_M1 hS
  have w1 := hW.1
  refine e_X2_has rfl (fun K hK => ?_)
  refine hK.1 [] 40 _ _ _ _ _ ?_
  refine bc_ob_i hm ?_
  refine bc_br_i (fun c => ?_) (fun c => ?_)
  · refine bc_ob_i (by decide) ?_
    exact rt_ h (by rw [if_neg (by omega)])
  · refine bc_ob_i ⟨hm, by rw [c1]; constructor <;> omega⟩ ?_
    refine bc_br_i (fun c => ?_) (fun c => ?_)
    · refine bc_ob_i (by decide) ?_
      exact rt_ h (by rw [if_pos (by omega)])
    · refine bc_ob_i (by decide) ?_
      exact rt_ h (by rw [if_neg (by omega)])
theorem t_X2_bearingOf {m : Int} (hS : st_M σ 1 r) (hW : wf_M r) (h0 : 0 ≤ m) (h1 : m < 16) (h : Rr (some (bc_I (br_ r m))) σ) : bc_Sem g (d + 1) mX2_bearingOf [bc_R 2, bc_I m] σ Rr X := by
  obtain ⟨c1, c2⟩ := st_M1 hS
  obtain ⟨e1, e2, e3, e4, e5, e6⟩ := c2 m h0 h1
  obtain ⟨-, -, g2, g3, -, g5⟩ := hW.2 m h0 h1
  have hp := mul_le g2.1 g2.2 (b := 10 - r (19 + 6 * m)) (B := 10) (by omega) (by omega)
  refine e_X2_bearingOf rfl (fun K hK => ?_)
  refine hK.1 [] 40 _ _ _ _ _ ?_
  refine bc_ob_i ⟨h0, h1⟩ ?_
  refine bc_ob_i (by rw [e6]; constructor <;> omega) ?_
  refine bc_br_i (fun c => ?_) (fun c => ?_)
  · refine bc_ob_i ⟨h0, h1⟩ ?_
    refine bc_ob_i ⟨h0, h1⟩ ?_
    refine bc_ob_i ⟨by rw [e3, e4]; exact ⟨hp.1, by omega⟩, by decide, by decide⟩ ?_
    exact rt_ h (by unfold br_; rw [if_pos (by omega), e3, e4])
  · exact rt_ h (by unfold br_; rw [if_neg (by omega)])
theorem t_X2_costOf {m : Int} (hS : st_M σ 1 r) (hW : wf_M r) (h0 : 0 ≤ m) (h1 : m < 16) (h : Rr (some (bc_I (co_ r m))) σ) : bc_Sem g (d + 1) mX2_costOf [bc_R 2, bc_I m] σ Rr X := by
  obtain ⟨c1, c2⟩ := st_M1 hS
  obtain ⟨e1, e2, e3, e4, e5, e6⟩ := c2 m h0 h1
  obtain ⟨-, -, g2, g3, -, g5⟩ := hW.2 m h0 h1
  refine e_X2_costOf rfl (fun K hK => ?_)
  refine hK.1 [] 40 _ _ _ _ _ ?_
  refine bc_ob_i ⟨h0, h1⟩ ?_
  refine bc_ob_i ⟨⟨by omega, by omega⟩, by decide, by decide⟩ ?_
  refine bc_ob_i ⟨h0, h1⟩ ?_
  exact rt_ h (by unfold co_; rw [e3, e4])
end MEM
noncomputable def jn_ (r : rw_t) (k a b : Int) : Prop := (r (16 + 6 * k) = a ∧ r (17 + 6 * k) = b) ∨ (r (16 + 6 * k) = b ∧ r (17 + 6 * k) = a)
noncomputable def bt_ (r : rw_t) (a b v : Int) : Prop := (v = -1 ∧ ∀ k : Int, 0 ≤ k → k < r 3 → ¬ jn_ r k a b) ∨ (0 ≤ v ∧ v < r 3 ∧ jn_ r v a b)
/-- all but the cells P, and the law's own numbers, are as before -/
noncomputable def fr_ (P : Nat → Prop) (σ σ' : bc_M) : Prop := (∀ k : Nat, ¬ P k → σ'.1 k = σ.1 k) ∧ σ'.2 = σ.2
theorem fr_refl {P : Nat → Prop} (σ : bc_M) : fr_ P σ σ := ⟨fun _ _ => rfl, rfl⟩
theorem fr_trans {P : Nat → Prop} {a b c : bc_M} (h1 : fr_ P a b) (h2 : fr_ P b c) : fr_ P a c := ⟨fun k hk => (h2.1 k hk).trans (h1.1 k hk), h2.2.trans h1.2⟩
theorem fr_mono {P Q : Nat → Prop} {a b : bc_M} (h : fr_ P a b) (hq : ∀ k, P k → Q k) : fr_ Q a b := ⟨fun k hk => h.1 k (fun q => hk (hq k q)), h.2⟩
theorem fr_wr {P : Nat → Prop} {σ : bc_M} {k : Nat} {j v : Int} (h : P k) : fr_ P σ (bc_wr σ k j v) := ⟨fun i hi => bc_wr_ne (fun e => hi (by rw [e]; exact h)), rfl⟩
theorem fr_cy {P : Nat → Prop} {σ : bc_M} {k k' : Nat} {a b n : Int} (h : P k') : fr_ P σ (bc_cy σ k k' a b n) := ⟨fun i hi => by
  have hne : i ≠ k' := fun e => hi (by rw [e]; exact h)
  funext x
  simp [bc_cy, hne], rfl⟩
noncomputable def sm_ (f : Int → Int) : Nat → Int
  | 0 => 0
  | n + 1 => sm_ f n + f n
theorem sm_s {f : Int → Int} {i : Int} (h : 0 ≤ i) : sm_ f (i + 1).toNat = sm_ f i.toNat + f i := by
  obtain ⟨n, rfl⟩ : ∃ n : Nat, i = n := ⟨i.toNat, by omega⟩
  rw [show ((n : Int) + 1).toNat = n + 1 by omega, show ((n : Int)).toNat = n by omega]
  rfl
theorem sm_le {f : Int → Int} {A B : Int} {i : Int} (h : 0 ≤ i) (hf : ∀ k : Int, 0 ≤ k → k < i → A ≤ f k ∧ f k ≤ B) : A * i ≤ sm_ f i.toNat ∧ sm_ f i.toNat ≤ B * i := by
  obtain ⟨n, rfl⟩ : ∃ n : Nat, i = n := ⟨i.toNat, by omega⟩
  rw [show ((n : Int)).toNat = n by omega]
  clear h
  induction n with
  | zero => simp [sm_]
  | succ n ih =>
    have h1 := ih (fun k h0 h1 => hf k h0 (by omega))
    have h2 := hf n (by omega) (by omega)
    have e1 : A * ((n + 1 : Nat) : Int) = A * (n : Int) + A := by rw [Int.natCast_add]; exact Int.mul_add A n 1 |>.trans (by rw [Int.mul_one])
    have e2 : B * ((n + 1 : Nat) : Int) = B * (n : Int) + B := by rw [Int.natCast_add]; exact Int.mul_add B n 1 |>.trans (by rw [Int.mul_one])
    rw [e1, e2]
    unfold sm_
    omega
noncomputable def ra_ (r : rw_t) (a b s : Int) : rw_t := fun j => if j = 3 then r 3 + 1 else if j = 16 + 6 * r 3 then min a b else if j = 17 + 6 * r 3 then max a b else if j = 18 + 6 * r 3 then s else if j = 19 + 6 * r 3 then 0 else if j = 20 + 6 * r 3 then 0 else if j = 21 + 6 * r 3 then 0 else r j
noncomputable def rd_ (r : rw_t) (m f : Int) : rw_t := fun j => if j = 19 + 6 * m then min 9 (r (19 + 6 * m) + (r (20 + 6 * m) + f) / 100) else if j = 20 + 6 * m then (r (20 + 6 * m) + f) % 100 else r j
noncomputable def rn_ (r : rw_t) (m : Int) : rw_t := fun j => if j = 19 + 6 * m then 0 else if j = 20 + 6 * m then 0 else r j
noncomputable def rl_ (r : rw_t) (m b : Int) : rw_t := fun j => if j = 21 + 6 * m then b else r j
noncomputable def bb_ (r : rw_t) (a b : Int) : Int := if br_ r a ≠ br_ r b then (if br_ r a < br_ r b then 1 else 0) else if r (19 + 6 * a) ≠ r (19 + 6 * b) then (if r (19 + 6 * b) < r (19 + 6 * a) then 1 else 0) else if a < b then 1 else 0
theorem bb_01 (r : rw_t) (a b : Int) : 0 ≤ bb_ r a b ∧ bb_ r a b ≤ 1 := by unfold bb_; (repeat' split) <;> omega
/-- how many members come before one -/
noncomputable def rk_ (r : rw_t) (m : Int) : Int := sm_ (fun k => bb_ r k m) (r 3).toNat
section MEM2
variable {g : bc_C} {d : Nat} {σ : bc_M} {r : rw_t} {Rr : Option bc_A → bc_M → Prop} {X : Nat → bc_M → Prop}
theorem t_X2_between {a b : Int} (hS : st_M σ 1 r) (hW : wf_M r) (ha : bc_in a) (hb : bc_in b) (h : ∀ v : Int, bt_ r a b v → Rr (some (bc_I v)) σ) : bc_Sem g (d + 1) mX2_between [bc_R 2, bc_I a, bc_I b] σ Rr X := by
  obtain ⟨ha0, ha1⟩ := ha
  obtain ⟨hb0, hb1⟩ := hb
  obtain ⟨c1, c2⟩ := st_M1 hS
  have w1 := hW.1
  refine e_X2_between rfl (fun K hK => ?_)
  have L : ∀ i : Int, 0 ≤ i → i ≤ 16 → (∀ k : Int, 0 ≤ k → k < i → ¬ jn_ r k a b) → K 2 [(0, bc_R 2), (1, bc_I a), (2, bc_I b), (3, bc_I i)] [] σ 0 := by
    refine up_ind (r 3) (fun i hi h0 h1 h2 => ?_) (fun i hi ih h0 h1 h2 => ?_)
    · refine hK.1 [2] 60 _ _ _ _ _ ?_
      refine bc_ob_i (by omega) ?_
      refine bc_br_i (fun c => by omega) (fun c => ?_)
      exact h (-1) (Or.inl ⟨rfl, fun k k0 k1 => h2 k k0 (by omega)⟩)
    · obtain ⟨e1, e2, e3, e4, e5, e6⟩ := c2 i h0 (by omega)
      obtain ⟨g0, g1, g2, g3, -, g5⟩ := hW.2 i h0 (by omega)
      have nxt : ¬ jn_ r i a b → K 2 [(0, bc_R 2), (1, bc_I a), (2, bc_I b), (3, bc_I (i + 1))] [] σ 0 := fun hn => ih (by omega) (by omega) (fun k k0 k1 => by
        by_cases hk : k = i
        · rw [hk]; exact hn
        · exact h2 k k0 (by omega))
      have hit : jn_ r i a b → Rr (some (bc_I i)) σ := fun hj => h i (Or.inr ⟨h0, by omega, hj⟩)
      unfold jn_ at nxt hit
      refine hK.1 [2] 60 _ _ _ _ _ ?_
      repeat' first | refine bc_br_i (fun _ => ?_) (fun _ => ?_) | refine bc_ob_i (by omega) ?_
      all_goals first | (exfalso; omega) | exact nxt (by omega) | exact hit (by omega)
  refine hK.1 [2] 40 _ _ _ _ _ ?_
  exact L 0 (by omega) (by omega) (fun k k0 k1 => by omega)
theorem t_X2_append {a b s : Int} (hS : st_M σ 1 r) (hW : wf_M r) (hc : r 3 < 16) (ha : bc_in a) (hb : bc_in b) (h : ∀ σ' : bc_M, st_M σ' 1 (ra_ r a b s) → fr_ (fun k => 2 ≤ k ∧ k ≤ 8) σ σ' → Rr (some (bc_I (r 3))) σ') : bc_Sem g (d + 1) mX2_append [bc_R 2, bc_I a, bc_I b, bc_I s] σ Rr X := by
  obtain ⟨c1, c2⟩ := st_M1 hS
  have w1 := hW.1
  refine e_X2_append rfl (fun K hK => ?_)
  refine hK.1 [] 80 _ _ _ _ _ ?_
  refine bc_ob_i (by omega) ?_
  refine bc_br_i (fun c => ?_) (fun c => by omega)
  refine bc_ob_i ⟨ha, hb, Nat.le_of_ble_eq_true rfl⟩ ?_
  refine bc_ob_i (by omega) ?_
  refine bc_ob_i ⟨ha, hb, Nat.le_of_ble_eq_true rfl⟩ ?_
  refine bc_ob_i (by omega) ?_
  refine bc_ob_i (by omega) ?_
  refine bc_ob_i (by omega) ?_
  refine bc_ob_i (by omega) ?_
  refine bc_ob_i (by omega) ?_
  refine bc_ob_i (by decide) ?_
  refine rt_ (h _ ?_ ?_) c1
  · refine ⟨?_, fun k k0 k1 => ?_⟩
    · simp only [bc_wr, ra_, c1]
      simp
    · obtain ⟨e1, e2, e3, e4, e5, e6⟩ := c2 k k0 k1
      refine ⟨?_, ?_, ?_, ?_, ?_, ?_⟩ <;> simp only [bc_wr, ra_, c1] <;> simp <;> (repeat' split) <;> omega
  · repeat (first | exact fr_refl _ | refine fr_trans ?_ (fr_wr (by omega)))
theorem t_X2_wearDown {m f : Int} (hS : st_M σ 1 r) (hW : wf_M r) (h0 : 0 ≤ m) (h1 : m < 16) (hf : 0 ≤ f ∧ f ≤ 10000) (h : ∀ σ' : bc_M, st_M σ' 1 (rd_ r m f) → fr_ (fun k => 2 ≤ k ∧ k ≤ 8) σ σ' → Rr none σ') : bc_Sem g (d + 1) mX2_wearDown [bc_R 2, bc_I m, bc_I f] σ Rr X := by
  obtain ⟨c1, c2⟩ := st_M1 hS
  obtain ⟨e1, e2, e3, e4, e5, e6⟩ := c2 m h0 h1
  obtain ⟨g0, g1, g2, g3, g4, g5⟩ := hW.2 m h0 h1
  refine e_X2_wearDown rfl (fun K hK => ?_)
  refine hK.1 [] 80 _ _ _ _ _ ?_
  refine bc_ob_i ⟨h0, h1⟩ ?_
  refine bc_ob_i ⟨h0, h1⟩ ?_
  refine bc_ob_i (by omega) ?_
  refine bc_ob_i ⟨by omega, by omega, Nat.le_of_ble_eq_true rfl⟩ ?_
  refine bc_ob_i ⟨h0, h1⟩ ?_
  refine bc_ob_i (by omega) ?_
  refine bc_ob_i ⟨h0, h1⟩ ?_
  refine h _ ?_ ?_
  · refine ⟨?_, fun k k0 k1 => ?_⟩
    · simp only [bc_wr, rd_]
      simp
      rw [if_neg (by omega), if_neg (by omega)]
      exact c1
    · obtain ⟨q1, q2, q3, q4, q5, q6⟩ := c2 k k0 k1
      refine ⟨?_, ?_, ?_, ?_, ?_, ?_⟩ <;> simp only [bc_wr, rd_, e4, e5] <;> simp <;> (repeat' split) <;> omega
  · repeat (first | exact fr_refl _ | refine fr_trans ?_ (fr_wr (by omega)))
theorem t_X2_renew {m : Int} (hS : st_M σ 1 r) (hW : wf_M r) (h0 : 0 ≤ m) (h1 : m < 16) (h : ∀ σ' : bc_M, st_M σ' 1 (rn_ r m) → fr_ (fun k => 2 ≤ k ∧ k ≤ 8) σ σ' → Rr none σ') : bc_Sem g (d + 1) mX2_renew [bc_R 2, bc_I m] σ Rr X := by
  obtain ⟨c1, c2⟩ := st_M1 hS
  refine e_X2_renew rfl (fun K hK => ?_)
  refine hK.1 [] 80 _ _ _ _ _ ?_
  refine bc_ob_i ⟨h0, h1⟩ ?_
  refine bc_ob_i ⟨h0, h1⟩ ?_
  refine h _ ?_ ?_
  · refine ⟨?_, fun k k0 k1 => ?_⟩
    · simp only [bc_wr, rn_]
      simp
      rw [if_neg (by omega), if_neg (by omega)]
      exact c1
    · obtain ⟨q1, q2, q3, q4, q5, q6⟩ := c2 k k0 k1
      refine ⟨?_, ?_, ?_, ?_, ?_, ?_⟩ <;> simp only [bc_wr, rn_] <;> simp <;> (repeat' split) <;> omega
  · repeat (first | exact fr_refl _ | refine fr_trans ?_ (fr_wr (by omega)))
theorem t_X2_leave {m b : Int} (hS : st_M σ 1 r) (hW : wf_M r) (h0 : 0 ≤ m) (h1 : m < 16) (hb : 0 ≤ b ∧ b ≤ 1) (h : ∀ σ' : bc_M, st_M σ' 1 (rl_ r m b) → fr_ (fun k => 2 ≤ k ∧ k ≤ 8) σ σ' → Rr (some (bc_I (sm_ (fun k => rl_ r m b (21 + 6 * k)) (r 3).toNat))) σ') : bc_Sem g (d + 1) mX2_leave [bc_R 2, bc_I m, bc_I b] σ Rr X := by
  obtain ⟨c1, c2⟩ := st_M1 hS
  have w1 := hW.1
  have hS' : st_M (bc_wr σ 8 m b) 1 (rl_ r m b) := by
    refine ⟨?_, fun k k0 k1 => ?_⟩
    · simp only [bc_wr, rl_]
      simp
      rw [if_neg (by omega)]
      exact c1
    · obtain ⟨q1, q2, q3, q4, q5, q6⟩ := c2 k k0 k1
      refine ⟨?_, ?_, ?_, ?_, ?_, ?_⟩ <;> simp only [bc_wr, rl_] <;> simp <;> (repeat' split) <;> omega
  obtain ⟨d1, d2⟩ := st_M1 hS'
  have d1 : (bc_wr σ 8 m b).1 2 ((0 : Nat) : Int) = r 3 := by rw [d1]; unfold rl_; rw [if_neg (by omega)]
  have hR := h _ hS' (fr_wr (by omega))
  have hq : ∀ k : Int, 0 ≤ k → k < 16 → 0 ≤ rl_ r m b (21 + 6 * k) ∧ rl_ r m b (21 + 6 * k) ≤ 1 := fun k k0 k1 => by
    have := (hW.2 k k0 k1).2.2.2.2.2
    unfold rl_
    split <;> omega
  refine e_X2_leave rfl (fun K hK => ?_)
  have L : ∀ i : Int, ∀ s : Int, 0 ≤ i → i ≤ r 3 → s = sm_ (fun k => rl_ r m b (21 + 6 * k)) i.toNat → K 12 [(0, bc_R 2), (1, bc_I m), (2, bc_I b), (3, bc_I s), (4, bc_I i)] [] (bc_wr σ 8 m b) 0 := by
    refine up_ind (r 3) (fun i hi s h0 h1 h2 => ?_) (fun i hi ih s h0 h1 h2 => ?_)
    · refine hK.1 [12] 60 _ _ _ _ _ ?_
      refine bc_ob_i (by omega) ?_
      refine bc_br_i (fun c => by omega) (fun c => ?_)
      have e : i = r 3 := by omega
      rw [h2, e]
      exact hR
    · obtain ⟨e1, e2, e3, e4, e5, e6⟩ := d2 i h0 (by omega)
      have hqi := hq i h0 (by omega)
      have es := sm_s (f := fun k => rl_ r m b (21 + 6 * k)) h0
      have nxt : ∀ s', s' = s + rl_ r m b (21 + 6 * i) → K 12 [(0, bc_R 2), (1, bc_I m), (2, bc_I b), (3, bc_I s'), (4, bc_I (i + 1))] [] (bc_wr σ 8 m b) 0 := fun s' e => ih s' (by omega) (by omega) (by rw [es, e, h2])
      refine hK.1 [12] 60 _ _ _ _ _ ?_
      repeat' first | refine bc_br_i (fun _ => ?_) (fun _ => ?_) | refine bc_ob_i (by omega) ?_
      all_goals first | (exfalso; omega) | exact nxt _ (by omega)
  refine hK.1 [12] 40 _ _ _ _ _ ?_
  refine bc_ob_i ⟨h0, h1⟩ ?_
  refine bc_ob_i hb ?_
  exact L 0 0 (by omega) (by omega) rfl
theorem t_X2_crackedCount (hS : st_M σ 1 r) (hW : wf_M r) (h : Rr (some (bc_I (sm_ (fun k => if 0 < r (19 + 6 * k) then 1 else 0) (r 3).toNat))) σ) : bc_Sem g (d + 1) mX2_crackedCount [bc_R 2] σ Rr X := by
  obtain ⟨c1, c2⟩ := st_M1 hS
  have w1 := hW.1
  refine e_X2_crackedCount rfl (fun K hK => ?_)
  have L : ∀ i : Int, ∀ s : Int, 0 ≤ i → i ≤ r 3 → s = sm_ (fun k => if 0 < r (19 + 6 * k) then 1 else 0) i.toNat → K 4 [(0, bc_R 2), (1, bc_I s), (2, bc_I i)] [] σ 0 := by
    refine up_ind (r 3) (fun i hi s h0 h1 h2 => ?_) (fun i hi ih s h0 h1 h2 => ?_)
    · refine hK.1 [4] 60 _ _ _ _ _ ?_
      refine bc_ob_i (by omega) ?_
      refine bc_br_i (fun c => by omega) (fun c => ?_)
      have e : i = r 3 := by omega
      rw [h2, e]
      exact h
    · obtain ⟨e1, e2, e3, e4, e5, e6⟩ := c2 i h0 (by omega)
      obtain ⟨g0, g1, g2, g3, g4, g5⟩ := hW.2 i h0 (by omega)
      have es := sm_s (f := fun k => if 0 < r (19 + 6 * k) then (1 : Int) else 0) h0
      have nxt : ∀ s', s' = s + (if 0 < r (19 + 6 * i) then (1 : Int) else 0) → K 4 [(0, bc_R 2), (1, bc_I s'), (2, bc_I (i + 1))] [] σ 0 := fun s' e => ih s' (by omega) (by omega) (by rw [es, e, h2])
      refine hK.1 [4] 60 _ _ _ _ _ ?_
      repeat' first | refine bc_br_i (fun _ => ?_) (fun _ => ?_) | refine bc_ob_i (by omega) ?_
      all_goals first | (exfalso; omega) | exact nxt _ (by split <;> omega)
  refine hK.1 [4] 40 _ _ _ _ _ ?_
  exact L 0 0 (by omega) (by omega) rfl
theorem t_X2_bearingSum (hS : st_M σ 1 r) (hW : wf_M r) (h : Rr (some (bc_I (sm_ (br_ r) (r 3).toNat))) σ) : bc_Sem g (d + 2) mX2_bearingSum [bc_R 2] σ Rr X := by
  obtain ⟨c1, c2⟩ := st_M1 hS
  have w1 := hW.1
  refine e_X2_bearingSum rfl (fun K hK => ?_)
  have L : ∀ i : Int, ∀ s : Int, 0 ≤ i → i ≤ r 3 → s = sm_ (br_ r) i.toNat → K 4 [(0, bc_R 2), (1, bc_I s), (2, bc_I i)] [] σ 0 := by
    refine up_ind (r 3) (fun i hi s h0 h1 h2 => ?_) (fun i hi ih s h0 h1 h2 => ?_)
    · refine hK.1 [4] 40 _ _ _ _ _ ?_
      refine bc_ob_i (by omega) ?_
      refine bc_br_i (fun c => by omega) (fun c => ?_)
      have e : i = r 3 := by omega
      rw [h2, e]
      exact h
    · refine hK.1 [4] 40 _ _ _ _ _ ?_
      refine bc_ob_i (by omega) ?_
      refine bc_br_i (fun c => ?_) (fun c => by omega)
      refine t_X2_bearingOf hS hW h0 (by omega) ?_
      exact ih (s + br_ r i) (by omega) (by omega) (by rw [sm_s h0, h2])
  refine hK.1 [4] 40 _ _ _ _ _ ?_
  exact L 0 0 (by omega) (by omega) rfl
theorem t_X2_comesBefore {a b : Int} (hS : st_M σ 1 r) (hW : wf_M r) (a0 : 0 ≤ a) (a1 : a < 16) (b0 : 0 ≤ b) (b1 : b < 16) (h : Rr (some (bc_I (bb_ r a b))) σ) : bc_Sem g (d + 2) mX2_comesBefore [bc_R 2, bc_I a, bc_I b] σ Rr X := by
  obtain ⟨c1, c2⟩ := st_M1 hS
  obtain ⟨e1, e2, e3, e4, e5, e6⟩ := c2 a a0 a1
  obtain ⟨f1, f2, f3, f4, f5, f6⟩ := c2 b b0 b1
  obtain ⟨g0, g1, g2, g3, g4, g5⟩ := hW.2 a a0 a1
  obtain ⟨k0, k1, k2, k3, k4, k5⟩ := hW.2 b b0 b1
  have l1 := br_le hW a0 a1
  have l2 := br_le hW b0 b1
  refine e_X2_comesBefore rfl (fun K hK => ?_)
  refine hK.1 [] 60 _ _ _ _ _ ?_
  refine t_X2_bearingOf hS hW a0 a1 ?_
  refine t_X2_bearingOf hS hW b0 b1 ?_
  repeat' first | refine bc_br_i (fun _ => ?_) (fun _ => ?_) | refine bc_ob_i (by omega) ?_
  all_goals first | (exfalso; omega) | exact rt_ h (by unfold bb_; (repeat' split) <;> omega)
theorem t_X2_rankOf {m : Int} (hS : st_M σ 1 r) (hW : wf_M r) (m0 : 0 ≤ m) (m1 : m < 16) (h : Rr (some (bc_I (rk_ r m))) σ) : bc_Sem g (d + 3) mX2_rankOf [bc_R 2, bc_I m] σ Rr X := by
  obtain ⟨c1, c2⟩ := st_M1 hS
  have w1 := hW.1
  refine e_X2_rankOf rfl (fun K hK => ?_)
  have L : ∀ i : Int, ∀ s : Int, 0 ≤ i → i ≤ r 3 → s = sm_ (fun k => bb_ r k m) i.toNat → K 4 [(0, bc_R 2), (1, bc_I m), (2, bc_I s), (3, bc_I i)] [] σ 0 := by
    refine up_ind (r 3) (fun i hi s h0 h1 h3 => ?_) (fun i hi ih s h0 h1 h3 => ?_)
    · refine hK.1 [4] 60 _ _ _ _ _ ?_
      refine bc_ob_i (by omega) ?_
      refine bc_br_i (fun c => by omega) (fun c => ?_)
      have e : i = r 3 := by omega
      rw [h3, e]
      exact h
    · have es := sm_s (f := fun k => bb_ r k m) h0
      have hb := bb_01 r i m
      refine hK.1 [4] 60 _ _ _ _ _ ?_
      refine bc_ob_i (by omega) ?_
      refine bc_br_i (fun c => ?_) (fun c => by omega)
      refine t_X2_comesBefore hS hW h0 (by omega) m0 m1 ?_
      refine bc_ob_i (by omega) ?_
      refine bc_br_i (fun c => ?_) (fun c => ?_)
      · exact ih s (by omega) (by omega) (by rw [es]; omega)
      · exact ih (s + 1) (by omega) (by omega) (by rw [es]; omega)
  refine hK.1 [4] 40 _ _ _ _ _ ?_
  exact L 0 0 (by omega) (by omega) rfl
theorem rk_le {r : rw_t} (hW : wf_M r) (m : Int) : 0 ≤ rk_ r m ∧ rk_ r m ≤ 16 := by
  have := sm_le (f := fun k => bb_ r k m) (A := 0) (B := 1) hW.1.1 (fun k _ _ => bb_01 r k m)
  have w := hW.1
  unfold rk_
  omega
theorem t_X2_atRank {q : Int} (hS : st_M σ 1 r) (hW : wf_M r) (hq : bc_in q) (h : ∀ v : Int, (0 ≤ v ∧ v < r 3 ∧ rk_ r v = q) ∨ (v = -1 ∧ ∀ k : Int, 0 ≤ k → k < r 3 → rk_ r k ≠ q) → Rr (some (bc_I v)) σ) : bc_Sem g (d + 4) mX2_atRank [bc_R 2, bc_I q] σ Rr X := by
  obtain ⟨q0, q1⟩ := hq
  obtain ⟨c1, c2⟩ := st_M1 hS
  have w1 := hW.1
  refine e_X2_atRank rfl (fun K hK => ?_)
  have L : ∀ i : Int, 0 ≤ i → i ≤ r 3 → (∀ k : Int, 0 ≤ k → k < i → rk_ r k ≠ q) → K 2 [(0, bc_R 2), (1, bc_I q), (2, bc_I i)] [] σ 0 := by
    refine up_ind (r 3) (fun i hi h0 h1 h2 => ?_) (fun i hi ih h0 h1 h2 => ?_)
    · refine hK.1 [2] 60 _ _ _ _ _ ?_
      refine bc_ob_i (by omega) ?_
      refine bc_br_i (fun c => by omega) (fun c => ?_)
      exact h (-1) (Or.inr ⟨rfl, fun k k0 k1 => h2 k k0 (by omega)⟩)
    · have hb := rk_le hW i
      refine hK.1 [2] 60 _ _ _ _ _ ?_
      refine bc_ob_i (by omega) ?_
      refine bc_br_i (fun c => ?_) (fun c => by omega)
      refine t_X2_rankOf hS hW h0 (by omega) ?_
      refine bc_ob_i (by omega) ?_
      refine bc_br_i (fun c => ?_) (fun c => ?_)
      · exact h i (Or.inl ⟨h0, by omega, c⟩)
      · exact ih (by omega) (by omega) (fun k k0 k1 => by
          by_cases hk : k = i
          · rw [hk]; exact c
          · exact h2 k k0 (by omega))
  refine hK.1 [2] 40 _ _ _ _ _ ?_
  exact L 0 (by omega) (by omega) (fun k k0 k1 => by omega)
theorem t_X2_someBears {l : Int} (hS : st_M σ 1 r) (hW : wf_M r) (hl : bc_in l) (h : ∀ v : Int, (v = 1 ∧ ∃ k : Int, 0 ≤ k ∧ k < r 3 ∧ br_ r k = l) ∨ (v = 0 ∧ ∀ k : Int, 0 ≤ k → k < r 3 → br_ r k ≠ l) → Rr (some (bc_I v)) σ) : bc_Sem g (d + 2) mX2_someBears [bc_R 2, bc_I l] σ Rr X := by
  obtain ⟨q0, q1⟩ := hl
  obtain ⟨c1, c2⟩ := st_M1 hS
  have w1 := hW.1
  refine e_X2_someBears rfl (fun K hK => ?_)
  have L : ∀ i : Int, 0 ≤ i → i ≤ r 3 → (∀ k : Int, 0 ≤ k → k < i → br_ r k ≠ l) → K 2 [(0, bc_R 2), (1, bc_I l), (2, bc_I i)] [] σ 0 := by
    refine up_ind (r 3) (fun i hi h0 h1 h2 => ?_) (fun i hi ih h0 h1 h2 => ?_)
    · refine hK.1 [2] 60 _ _ _ _ _ ?_
      refine bc_ob_i (by omega) ?_
      refine bc_br_i (fun c => by omega) (fun c => ?_)
      refine bc_ob_i (by omega) ?_
      exact h 0 (Or.inr ⟨rfl, fun k k0 k1 => h2 k k0 (by omega)⟩)
    · have hb := br_le hW h0 (by omega)
      refine hK.1 [2] 60 _ _ _ _ _ ?_
      refine bc_ob_i (by omega) ?_
      refine bc_br_i (fun c => ?_) (fun c => by omega)
      refine t_X2_bearingOf hS hW h0 (by omega) ?_
      refine bc_ob_i (by omega) ?_
      refine bc_br_i (fun c => ?_) (fun c => ?_)
      · refine bc_ob_i (by omega) ?_
        exact h 1 (Or.inl ⟨rfl, i, h0, by omega, c⟩)
      · exact ih (by omega) (by omega) (fun k k0 k1 => by
          by_cases hk : k = i
          · rw [hk]; exact c
          · exact h2 k k0 (by omega))
  refine hK.1 [2] 40 _ _ _ _ _ ?_
  exact L 0 (by omega) (by omega) (fun k k0 k1 => by omega)
end MEM2
end
section
noncomputable def st_N (σ : bc_M) (b : Nat) (r : rw_t) : Prop := σ.1 (b + 8) ((0 : Nat) : Int) = r 11 ∧ ∀ k : Int, 0 ≤ k → k < 4 → σ.1 (b + 9) k = r (12 + k)
theorem st_N1 {σ : bc_M} {r : rw_t} (h : st_N σ 1 r) : σ.1 9 ((0 : Nat) : Int) = r 11 ∧ σ.1 10 0 = r 12 ∧ σ.1 10 1 = r 13 ∧ σ.1 10 2 = r 14 ∧ σ.1 10 3 = r 15 :=
  ⟨h.1, h.2 0 (by decide) (by decide), h.2 1 (by decide) (by decide), h.2 2 (by decide) (by decide), h.2 3 (by decide) (by decide)⟩
noncomputable def wf_N (r : rw_t) : Prop := (r 11 = 99 ∨ r 11 = 108) ∧ (0 ≤ r 12 ∧ r 12 ≤ 20) ∧ (0 ≤ r 13 ∧ r 13 ≤ 20) ∧ (0 ≤ r 14 ∧ r 14 ≤ 20) ∧ (0 ≤ r 15 ∧ r 15 ≤ 20)
noncomputable def tw_ (r : rw_t) : Int := r 12 + r 13 + r 14 + r 15
noncomputable def up_ (r : rw_t) (i v : Int) : rw_t := fun j => if j = i then v else r j
theorem up_at {r : rw_t} {i v : Int} : up_ r i v i = v := if_pos rfl
theorem up_ne {r : rw_t} {i v j : Int} (h : j ≠ i) : up_ r i v j = r j := if_neg h
/-- the niche is emptied, for a kind -/
noncomputable def re_ (r : rw_t) (c : Int) : rw_t := fun j => if j = 11 then c else if 12 ≤ j ∧ j ≤ 15 then 0 else r j
noncomputable def rp_ (r : rw_t) (p w : Int) : rw_t := up_ r (12 + p) w
section NIC
variable {g : bc_C} {d : Nat} {σ : bc_M} {r : rw_t} {Rr : Option bc_A → bc_M → Prop} {X : Nat → bc_M → Prop}
theorem t_X3_total (hS : st_N σ 1 r) (hW : wf_N r) (h : Rr (some (bc_I (tw_ r))) σ) : bc_Sem g (d + 1) mX3_total [bc_R 9] σ Rr X := by
  obtain ⟨c1, e0, e1, e2, e3⟩ := st_N1 hS
  have w := hW
  unfold wf_N at w
  refine e_X3_total rfl (fun K hK => ?_)
  have L : ∀ i : Int, ∀ s : Int, 0 ≤ i → i ≤ 4 → (i = 0 → s = 0) → (i = 1 → s = r 12) → (i = 2 → s = r 12 + r 13) → (i = 3 → s = r 12 + r 13 + r 14) → (i = 4 → s = tw_ r) → K 4 [(0, bc_R 9), (1, bc_I s), (2, bc_I i)] [] σ 0 := by
    refine up_ind 4 (fun i hi s h0 h1 q0 q1 q2 q3 q4 => ?_) (fun i hi ih s h0 h1 q0 q1 q2 q3 q4 => ?_)
    · refine hK.1 [4] 60 _ _ _ _ _ ?_
      refine bc_ob_i (by omega) ?_
      refine bc_br_i (fun c => by omega) (fun c => ?_)
      exact rt_ h (q4 (by omega))
    · refine hK.1 [4] 60 _ _ _ _ _ ?_
      refine bc_ob_i (by omega) ?_
      refine bc_br_i (fun c => ?_) (fun c => by omega)
      refine bc_ob_i (by omega) ?_
      unfold tw_ at ih
      have hh : i = 0 ∨ i = 1 ∨ i = 2 ∨ i = 3 := by omega
      rcases hh with rfl | rfl | rfl | rfl
      · exact ih _ (by omega) (by omega) (by omega) (by omega) (by omega) (by omega) (by omega)
      · exact ih _ (by omega) (by omega) (by omega) (by omega) (by omega) (by omega) (by omega)
      · exact ih _ (by omega) (by omega) (by omega) (by omega) (by omega) (by omega) (by omega)
      · exact ih _ (by omega) (by omega) (by omega) (by omega) (by omega) (by omega) (by omega)
  refine hK.1 [4] 40 _ _ _ _ _ ?_
  exact L 0 0 (by omega) (by omega) (by omega) (by omega) (by omega) (by omega) (by omega)
theorem t_X3_place {p w : Int} (hS : st_N σ 1 r) (hW : wf_N r) (p0 : 0 ≤ p) (p1 : p < 4) (hw : 0 ≤ w ∧ w ≤ 20) (h : ∀ σ' : bc_M, st_N σ' 1 (rp_ r p w) → fr_ (fun k => 9 ≤ k ∧ k ≤ 10) σ σ' → Rr (some (bc_I (tw_ (rp_ r p w)))) σ') : bc_Sem g (d + 2) mX3_place [bc_R 9, bc_I p, bc_I w] σ Rr X := by
  have hS' : st_N (bc_wr σ 10 p w) 1 (rp_ r p w) := by
    refine ⟨?_, fun k k0 k1 => ?_⟩
    · have := hS.1
      simp only [bc_wr, rp_, up_]
      simp
      rw [if_neg (by omega)]
      exact this
    · have := hS.2 k k0 k1
      simp only [bc_wr, rp_, up_]
      simp
      repeat' split
      all_goals omega
  have hW' : wf_N (rp_ r p w) := by
    unfold wf_N rp_ up_ at *
    refine ⟨?_, ?_, ?_, ?_, ?_⟩ <;> repeat' split
    all_goals omega
  refine e_X3_place rfl (fun K hK => ?_)
  refine hK.1 [] 40 _ _ _ _ _ ?_
  refine bc_ob_i (by omega) ?_
  refine t_X3_total hS' hW' ?_
  exact h _ hS' (fr_wr (by omega))
theorem t_X3_dedicate {c : Int} (hS : st_N σ 1 r) (hW : wf_N r) (hc : 0 ≤ c ∧ c ≤ 65535) (h : ∀ σ' : bc_M, st_N σ' 1 (re_ r c) → fr_ (fun k => 9 ≤ k ∧ k ≤ 10) σ σ' → Rr (some (bc_I (tw_ r))) σ') : bc_Sem g (d + 2) mX3_dedicate [bc_R 9, bc_I c] σ Rr X := by
  refine e_X3_dedicate rfl (fun K hK => ?_)
  have L : ∀ i : Int, ∀ σ' : bc_M, 0 ≤ i → i ≤ 4 → σ'.1 9 ((0 : Nat) : Int) = c → (∀ k : Int, 0 ≤ k → k < i → σ'.1 10 k = 0) → fr_ (fun k => 9 ≤ k ∧ k ≤ 10) σ σ' → K 12 [(0, bc_R 9), (1, bc_I c), (2, bc_I (tw_ r)), (3, bc_I i)] [] σ' 0 := by
    refine up_ind 4 (fun i hi σ' h0 h1 q0 q1 q2 => ?_) (fun i hi ih σ' h0 h1 q0 q1 q2 => ?_)
    · refine hK.1 [12] 60 _ _ _ _ _ ?_
      refine bc_ob_i (by omega) ?_
      refine bc_br_i (fun c => by omega) (fun _ => ?_)
      refine h σ' ⟨q0, fun k k0 k1 => ?_⟩ q2
      have := q1 k k0 (by omega)
      unfold re_
      rw [if_neg (by omega), if_pos (by omega)]
      exact this
    · refine hK.1 [12] 60 _ _ _ _ _ ?_
      refine bc_ob_i (by omega) ?_
      refine bc_br_i (fun c => ?_) (fun c => by omega)
      refine bc_ob_i (by omega) ?_
      refine ih _ (by omega) (by omega) ?_ (fun k k0 k1 => ?_) (fr_trans q2 (fr_wr (by omega)))
      · simp only [bc_wr]
        simp
        exact q0
      · have := q1 k k0
        simp only [bc_wr]
        simp
        omega
  refine hK.1 [12] 40 _ _ _ _ _ ?_
  refine t_X3_total hS hW ?_
  refine bc_ob_i hc ?_
  refine L 0 _ (by omega) (by omega) ?_ (fun k k0 k1 => by omega) (fr_wr (by omega))
  simp only [bc_wr]
  simp
end NIC
end
section
noncomputable def st_T (σ : bc_M) (b : Nat) (r : rw_t) : Prop := (σ.1 (b + 10) ((0 : Nat) : Int) = r 0 ∧ σ.1 (b + 10) ((1 : Nat) : Int) = r 1 ∧ σ.1 (b + 10) ((2 : Nat) : Int) = r 2 ∧ σ.1 (b + 10) ((3 : Nat) : Int) = r 8 ∧ σ.1 (b + 10) ((4 : Nat) : Int) = r 9 ∧ σ.1 (b + 10) ((5 : Nat) : Int) = r 10 ∧ σ.1 (b + 10) ((6 : Nat) : Int) = r 6 ∧ σ.1 (b + 10) ((7 : Nat) : Int) = r 7 ∧ σ.1 (b + 10) ((8 : Nat) : Int) = r 5 ∧ σ.1 (b + 10) ((9 : Nat) : Int) = r 4) ∧
  ∀ k : Int, 0 ≤ k → k < 8 → σ.1 (b + 11) k = r (112 + 3 * k) ∧ σ.1 (b + 12) k = r (113 + 3 * k) ∧ σ.1 (b + 13) k = r (114 + 3 * k)
theorem st_T1 {σ : bc_M} {r : rw_t} (h : st_T σ 1 r) : (σ.1 11 ((0 : Nat) : Int) = r 0 ∧ σ.1 11 ((1 : Nat) : Int) = r 1 ∧ σ.1 11 ((2 : Nat) : Int) = r 2 ∧ σ.1 11 ((3 : Nat) : Int) = r 8 ∧ σ.1 11 ((4 : Nat) : Int) = r 9 ∧ σ.1 11 ((5 : Nat) : Int) = r 10 ∧ σ.1 11 ((6 : Nat) : Int) = r 6 ∧ σ.1 11 ((7 : Nat) : Int) = r 7 ∧ σ.1 11 ((8 : Nat) : Int) = r 5 ∧ σ.1 11 ((9 : Nat) : Int) = r 4) ∧
  ∀ k : Int, 0 ≤ k → k < 8 → σ.1 12 k = r (112 + 3 * k) ∧ σ.1 13 k = r (113 + 3 * k) ∧ σ.1 14 k = r (114 + 3 * k) := h
theorem st_T2 {σ : bc_M} {r : rw_t} (h : st_T σ 1 r) : σ.1 11 0 = r 0 ∧ σ.1 11 1 = r 1 ∧ σ.1 11 2 = r 2 ∧ σ.1 11 3 = r 8 ∧ σ.1 11 4 = r 9 ∧ σ.1 11 5 = r 10 ∧ σ.1 11 6 = r 6 ∧ σ.1 11 7 = r 7 ∧ σ.1 11 8 = r 5 ∧ σ.1 11 9 = r 4 := h.1
/-- the numbers of the treasury when B days at most have gone by, and B vows at most were made -/
noncomputable def wf_T (B : Int) (r : rw_t) : Prop := (0 ≤ r 0 ∧ r 0 ≤ B) ∧ 0 ≤ r 1 ∧ (0 ≤ r 2 ∧ r 2 ≤ 20) ∧ (0 ≤ r 4 ∧ r 4 ≤ 8) ∧ r 5 ≤ B ∧ 0 ≤ r 6 ∧ 0 ≤ r 7 ∧ r 6 + r 7 + r 4 = r 5 ∧ (0 ≤ r 8 ∧ r 8 ≤ 20 * B) ∧ 0 ≤ r 9 ∧ 0 ≤ r 10 ∧ r 1 = 30 + r 8 - r 9 - r 10 ∧
  (∀ k : Int, 0 ≤ k → k < 8 → (0 ≤ r (112 + 3 * k) ∧ r (112 + 3 * k) ≤ B) ∧ (0 ≤ r (113 + 3 * k) ∧ r (113 + 3 * k) ≤ B + 50) ∧ (0 ≤ r (114 + 3 * k) ∧ r (114 + 3 * k) ≤ 99)) ∧
  (∀ k : Int, 0 ≤ k → k < r 4 → (r 0 < r (113 + 3 * k) ∧ r (113 + 3 * k) ≤ r 0 + 50) ∧ r (112 + 3 * k) < r 5) ∧ ∀ k l : Int, 0 ≤ k → k < l → l < r 4 → r (112 + 3 * k) < r (112 + 3 * l)
noncomputable def sg_ (r : rw_t) (u : Int) : rw_t := if u ≤ r 1 then up_ (up_ (up_ r 1 (r 1 - u)) 9 (r 9 + u)) 6 (r 6 + 1) else up_ r 7 (r 7 + 1)
noncomputable def rv_ (r : rw_t) (due u : Int) : rw_t := up_ (up_ (up_ (up_ (up_ r (112 + 3 * r 4) (r 5)) (113 + 3 * r 4) due) (114 + 3 * r 4) u) 4 (r 4 + 1)) 5 (r 5 + 1)
noncomputable def rs_ (r : rw_t) (c : Int) : rw_t := up_ (up_ r 1 (r 1 - c)) 10 (r 10 + c)
/-- what is left on a day -/
noncomputable def sp_ (r : rw_t) (due : Int) : Int := r 1 + r 2 * (due - r 0) - sm_ (fun k => if r (113 + 3 * k) ≤ due then r (114 + 3 * k) else 0) (r 4).toNat
section TRE
variable {g : bc_C} {d : Nat} {σ : bc_M} {r : rw_t} {B : Int} {Rr : Option bc_A → bc_M → Prop} {X : Nat → bc_M → Prop}
theorem t_X8_accountedSteel (hS : st_T σ 1 r) (hW : wf_T B r) (h : Rr (some (bc_I (r 1))) σ) : bc_Sem g (d + 1) mX8_accountedSteel [bc_R 11] σ Rr X := by
  obtain ⟨⟨f0, f1, f2, f3, f4, f5, f6, f7, f8, f9⟩, f⟩ := st_T1 hS
  obtain ⟨l0, l1, l2, l3, l4, l5, l6, l7, l8, l9⟩ := st_T2 hS
  have w := hW.2.2.2.2.2.2.2.2.2.2.2.1
  refine e_X8_accountedSteel rfl (fun K hK => ?_)
  refine hK.1 [] 60 _ _ _ _ _ ?_
  exact rt_ h (by omega)
theorem t_X8_isDueDayAllowed {a : Int} (hS : st_T σ 1 r) (hW : wf_T B r) (hB : B ≤ 1000000) (ha : bc_in a) (h : Rr (some (bc_I (if r 0 < a ∧ a ≤ r 0 + 50 then 1 else 0))) σ) : bc_Sem g (d + 1) mX8_isDueDayAllowed [bc_R 11, bc_I a] σ Rr X := by
  obtain ⟨⟨f0, f1, f2, f3, f4, f5, f6, f7, f8, f9⟩, f⟩ := st_T1 hS
  obtain ⟨l0, l1, l2, l3, l4, l5, l6, l7, l8, l9⟩ := st_T2 hS
  have w := hW.1
  refine e_X8_isDueDayAllowed rfl (fun K hK => ?_)
  refine hK.1 [] 60 _ _ _ _ _ ?_
  repeat' first | refine bc_br_i (fun _ => ?_) (fun _ => ?_) | refine bc_ob_i (by omega) ?_
  all_goals first | (exfalso; omega) | exact rt_ h (by split <;> omega)
theorem t_X8_heatForge {a : Int} (hS : st_T σ 1 r) (h : ∀ σ' : bc_M, st_T σ' 1 (up_ r 2 a) → fr_ (fun k => 11 ≤ k ∧ k ≤ 14) σ σ' → Rr (some (bc_I (r 2))) σ') : bc_Sem g (d + 1) mX8_heatForge [bc_R 11, bc_I a] σ Rr X := by
  obtain ⟨⟨f0, f1, f2, f3, f4, f5, f6, f7, f8, f9⟩, f⟩ := st_T1 hS
  obtain ⟨l0, l1, l2, l3, l4, l5, l6, l7, l8, l9⟩ := st_T2 hS
  refine e_X8_heatForge rfl (fun K hK => ?_)
  refine hK.1 [] 60 _ _ _ _ _ ?_
  refine rt_ (h _ ?_ ?_) f2
  · refine ⟨?_, fun k k0 k1 => ?_⟩
    · simp only [bc_wr, up_]
      simp
      exact ⟨l0, l1, l3, l4, l5, l6, l7, l8, l9⟩
    · obtain ⟨q1, q2, q3⟩ := f k k0 k1
      refine ⟨?_, ?_, ?_⟩ <;> simp only [bc_wr, up_] <;> simp <;> (repeat' split) <;> omega
  · repeat (first | exact fr_refl _ | refine fr_trans ?_ (fr_wr (by omega)))
theorem t_X8_payRepair {a : Int} (hS : st_T σ 1 r) (h : ∀ σ' : bc_M, st_T σ' 1 (rs_ r a) → fr_ (fun k => 11 ≤ k ∧ k ≤ 14) σ σ' → Rr none σ') : bc_Sem g (d + 1) mX8_payRepair [bc_R 11, bc_I a] σ Rr X := by
  obtain ⟨⟨f0, f1, f2, f3, f4, f5, f6, f7, f8, f9⟩, f⟩ := st_T1 hS
  obtain ⟨l0, l1, l2, l3, l4, l5, l6, l7, l8, l9⟩ := st_T2 hS
  refine e_X8_payRepair rfl (fun K hK => ?_)
  refine hK.1 [] 60 _ _ _ _ _ ?_
  refine h _ ?_ ?_
  · refine ⟨?_, fun k k0 k1 => ?_⟩
    · simp only [bc_wr, rs_, up_]
      simp
      exact ⟨l0, by rw [l1], l2, l3, l4, by rw [l5], l6, l7, l8, l9⟩
    · obtain ⟨q1, q2, q3⟩ := f k k0 k1
      refine ⟨?_, ?_, ?_⟩ <;> simp only [bc_wr, rs_, up_] <;> simp <;> (repeat' split) <;> omega
  · repeat (first | exact fr_refl _ | refine fr_trans ?_ (fr_wr (by omega)))
theorem t_X8_promise {a u : Int} (hS : st_T σ 1 r) (hW : wf_T B r) (hw : r 4 < 8) (h : ∀ σ' : bc_M, st_T σ' 1 (rv_ r a u) → fr_ (fun k => 11 ≤ k ∧ k ≤ 14) σ σ' → Rr (some (bc_I (r 5))) σ') : bc_Sem g (d + 1) mX8_promise [bc_R 11, bc_I a, bc_I u] σ Rr X := by
  obtain ⟨⟨f0, f1, f2, f3, f4, f5, f6, f7, f8, f9⟩, f⟩ := st_T1 hS
  obtain ⟨l0, l1, l2, l3, l4, l5, l6, l7, l8, l9⟩ := st_T2 hS
  have w := hW.2.2.2.1
  refine e_X8_promise rfl (fun K hK => ?_)
  refine hK.1 [] 80 _ _ _ _ _ ?_
  refine bc_ob_i (by omega) ?_
  refine bc_br_i (fun c => ?_) (fun c => by omega)
  refine bc_ob_i (by omega) ?_
  refine bc_ob_i (by simp only [bc_wr]; simp; omega) ?_
  refine bc_ob_i (by simp only [bc_wr]; simp; omega) ?_
  refine rt_ (h _ ?_ ?_) f8
  · refine ⟨?_, fun k k0 k1 => ?_⟩
    · simp only [bc_wr, rv_, up_]
      simp [l8, l9]
      refine ⟨?_, ?_, ?_, ?_, ?_, ?_, ?_, ?_⟩ <;> (repeat' rw [if_neg (by omega)]) <;> assumption
    · obtain ⟨q1, q2, q3⟩ := f k k0 k1
      refine ⟨?_, ?_, ?_⟩ <;> simp only [bc_wr, rv_, up_] <;> simp [l8, l9] <;> (repeat' split) <;> omega
  · repeat (first | exact fr_refl _ | refine fr_trans ?_ (fr_wr (by omega)))
theorem t_X8_settle {u : Int} (hS : st_T σ 1 r) (hW : 0 ≤ r 1 ∧ r 1 ≤ 1000000000) (hu : bc_in u) (h : ∀ σ' : bc_M, st_T σ' 1 (sg_ r u) → fr_ (fun k => 11 ≤ k ∧ k ≤ 11) σ σ' → Rr none σ') : bc_Sem g (d + 1) mX8_settle [bc_R 11, bc_I u] σ Rr X := by
  obtain ⟨⟨f0, f1, f2, f3, f4, f5, f6, f7, f8, f9⟩, f⟩ := st_T1 hS
  obtain ⟨l0, l1, l2, l3, l4, l5, l6, l7, l8, l9⟩ := st_T2 hS
  refine e_X8_settle rfl (fun K hK => ?_)
  refine hK.1 [] 60 _ _ _ _ _ ?_
  refine bc_ob_i (by omega) ?_
  refine bc_br_i (fun c => ?_) (fun c => ?_)
  · refine h _ ?_ ?_
    · rw [show sg_ r u = up_ r 7 (r 7 + 1) from if_neg (by omega)]
      refine ⟨?_, fun k k0 k1 => ?_⟩
      · simp only [bc_wr, up_]
        simp
        exact ⟨l0, l1, l2, l3, l4, l5, l6, by rw [l7], l8, l9⟩
      · obtain ⟨q1, q2, q3⟩ := f k k0 k1
        refine ⟨?_, ?_, ?_⟩ <;> simp only [bc_wr, up_] <;> simp <;> (repeat' split) <;> omega
    · repeat (first | exact fr_refl _ | refine fr_trans ?_ (fr_wr (by omega)))
  · refine h _ ?_ ?_
    · rw [show sg_ r u = up_ (up_ (up_ r 1 (r 1 - u)) 9 (r 9 + u)) 6 (r 6 + 1) from if_pos (by omega)]
      refine ⟨?_, fun k k0 k1 => ?_⟩
      · simp only [bc_wr, up_]
        simp
        exact ⟨l0, by rw [l1], l2, l3, by rw [l4], l5, by rw [l6], l7, l8, l9⟩
      · obtain ⟨q1, q2, q3⟩ := f k k0 k1
        refine ⟨?_, ?_, ?_⟩ <;> simp only [bc_wr, up_] <;> simp <;> (repeat' split) <;> omega
    · repeat (first | exact fr_refl _ | refine fr_trans ?_ (fr_wr (by omega)))
end TRE
end
section
/-! a day: the due vows, one after another -/
noncomputable def vs_ (p : rw_t × Int) (k : Int) : rw_t × Int := if p.1 (113 + 3 * k) ≤ p.1 0 then (sg_ p.1 (p.1 (114 + 3 * k)), p.2) else (up_ (up_ (up_ p.1 (112 + 3 * p.2) (p.1 (112 + 3 * k))) (113 + 3 * p.2) (p.1 (113 + 3 * k))) (114 + 3 * p.2) (p.1 (114 + 3 * k)), p.2 + 1)
noncomputable def vf_ (r : rw_t) : Nat → rw_t × Int
  | 0 => (r, 0)
  | n + 1 => vs_ (vf_ r n) n
noncomputable def vd_ (r : rw_t) : rw_t := up_ (vf_ r (r 4).toNat).1 4 (vf_ r (r 4).toNat).2
noncomputable def pi_ (r : rw_t) : rw_t := up_ (up_ (up_ r 0 (r 0 + 1)) 1 (r 1 + r 2)) 8 (r 8 + r 2)
noncomputable def pd_ (r : rw_t) : rw_t := vd_ (pi_ r)
noncomputable def ps_ (r : rw_t) : Nat → rw_t
  | 0 => r
  | n + 1 => pd_ (ps_ r n)
/-- what holds between two slots: B bounds days and ids -/
noncomputable def wv_ (B : Int) (r : rw_t) (n : Nat) (p : rw_t × Int) : Prop := (0 ≤ p.2 ∧ p.2 ≤ n) ∧ (p.1 0 = r 0 ∧ p.1 2 = r 2 ∧ p.1 3 = r 3 ∧ p.1 4 = r 4 ∧ p.1 5 = r 5 ∧ p.1 8 = r 8 ∧ p.1 10 = r 10) ∧ (0 ≤ p.1 1 ∧ p.1 1 ≤ r 1) ∧ 0 ≤ p.1 6 ∧ 0 ≤ p.1 7 ∧ p.1 6 + p.1 7 + (r 4 - n) + p.2 = r 5 ∧ 0 ≤ p.1 9 ∧ p.1 1 = 30 + p.1 8 - p.1 9 - p.1 10 ∧
  (∀ k : Int, 0 ≤ k → k < 8 → (0 ≤ p.1 (112 + 3 * k) ∧ p.1 (112 + 3 * k) ≤ B) ∧ (0 ≤ p.1 (113 + 3 * k) ∧ p.1 (113 + 3 * k) ≤ B + 50) ∧ (0 ≤ p.1 (114 + 3 * k) ∧ p.1 (114 + 3 * k) ≤ 99)) ∧
  (∀ k : Int, n ≤ k → k < 8 → p.1 (112 + 3 * k) = r (112 + 3 * k) ∧ p.1 (113 + 3 * k) = r (113 + 3 * k) ∧ p.1 (114 + 3 * k) = r (114 + 3 * k)) ∧
  (∀ k : Int, 0 ≤ k → k < p.2 → (r 0 < p.1 (113 + 3 * k) ∧ p.1 (113 + 3 * k) ≤ r 0 + 50) ∧ p.1 (112 + 3 * k) < r 5 ∧ ∀ l : Int, n ≤ l → l < r 4 → p.1 (112 + 3 * k) < r (112 + 3 * l)) ∧
  (∀ k l : Int, 0 ≤ k → k < l → l < p.2 → p.1 (112 + 3 * k) < p.1 (112 + 3 * l)) ∧ ∀ j : Int, 11 ≤ j → j < 112 → p.1 j = r j
/-- a day has begun: due vows stand on this day at the earliest -/
noncomputable def wd_ (B : Int) (r : rw_t) : Prop := (0 ≤ r 0 ∧ r 0 ≤ B) ∧ 0 ≤ r 1 ∧ (0 ≤ r 2 ∧ r 2 ≤ 20) ∧ (0 ≤ r 4 ∧ r 4 ≤ 8) ∧ r 5 ≤ B ∧ 0 ≤ r 6 ∧ 0 ≤ r 7 ∧ r 6 + r 7 + r 4 = r 5 ∧ (0 ≤ r 8 ∧ r 8 ≤ 20 * B) ∧ 0 ≤ r 9 ∧ 0 ≤ r 10 ∧ r 1 = 30 + r 8 - r 9 - r 10 ∧
  (∀ k : Int, 0 ≤ k → k < 8 → (0 ≤ r (112 + 3 * k) ∧ r (112 + 3 * k) ≤ B) ∧ (0 ≤ r (113 + 3 * k) ∧ r (113 + 3 * k) ≤ B + 50) ∧ (0 ≤ r (114 + 3 * k) ∧ r (114 + 3 * k) ≤ 99)) ∧
  (∀ k : Int, 0 ≤ k → k < r 4 → (r 0 ≤ r (113 + 3 * k) ∧ r (113 + 3 * k) ≤ r 0 + 50) ∧ r (112 + 3 * k) < r 5) ∧ ∀ k l : Int, 0 ≤ k → k < l → l < r 4 → r (112 + 3 * k) < r (112 + 3 * l)
theorem wv_0 {B : Int} {r : rw_t} (h : wd_ B r) : wv_ B r 0 (vf_ r 0) := by
  obtain ⟨h0, h1, h2, h3, h4, h5, h6, h7, h8, h9, h10, h11, h12, h13, h14⟩ := h
  exact ⟨⟨by simp [vf_], by simp [vf_]⟩, ⟨rfl, rfl, rfl, rfl, rfl, rfl, rfl⟩, ⟨h1, Int.le_refl _⟩, h5, h6, by simp [vf_]; omega, h9, h11, h12, fun k _ _ => ⟨rfl, rfl, rfl⟩, fun k k0 k1 => by simp [vf_] at k1; omega, fun k l k0 k1 k2 => by simp [vf_] at k2; omega, fun j _ _ => rfl⟩
theorem wv_s {B : Int} {r : rw_t} (hd : wd_ B r) {n : Nat} (hn : (n : Int) < r 4) {p : rw_t × Int} (h : wv_ B r n p) : wv_ B r (n + 1) (vs_ p n) := by
  have d8 := hd.2.2.2.1
  obtain ⟨-, -, -, -, -, -, -, -, -, -, -, -, -, d13, d14⟩ := hd
  obtain ⟨a1, ⟨b0, b2, b3, b4, b5, b8, b10⟩, c1, c2, c3, c4, c5, c6, e1, e2, e3, e4, e5⟩ := h
  obtain ⟨x1, x2, x3⟩ := e1 n (by omega) (by omega)
  obtain ⟨y1, y2, y3⟩ := e2 n (by omega) (by omega)
  obtain ⟨z1, z2⟩ := d13 n (by omega) hn
  unfold vs_
  by_cases hc : p.1 (113 + 3 * (n : Int)) ≤ p.1 0
  · rw [if_pos hc]
    unfold sg_
    by_cases hs : p.1 (114 + 3 * (n : Int)) ≤ p.1 1
    · rw [if_pos hs]
      refine ⟨by simp only; omega, ?_, ?_, ?_, ?_, ?_, ?_, ?_, fun k k0 k1 => ?_, fun k k0 k1 => ?_, fun k k0 k1 => ?_, fun k l k0 k1 k2 => ?_, fun j j0 j1 => ?_⟩
      · simp only [up_]; simp; exact ⟨b0, b2, b3, b4, b5, b8, b10⟩
      · simp only [up_]; simp; omega
      · simp only [up_]; simp; omega
      · simp only [up_]; simp; omega
      · simp only [up_]; simp; omega
      · simp only [up_]; simp; omega
      · simp only [up_]; simp; omega
      · have := e1 k k0 k1
        simp only [up_]
        repeat rw [if_neg (by omega)]
        exact this
      · have := e2 k (by omega) k1
        simp only [up_]
        repeat rw [if_neg (by omega)]
        exact this
      · obtain ⟨q1, q2, q3⟩ := e3 k k0 k1
        simp only [up_]
        repeat rw [if_neg (by omega)]
        exact ⟨q1, q2, fun l l0 l1 => q3 l (by omega) l1⟩
      · have := e4 k l k0 k1 k2
        simp only [up_]
        repeat rw [if_neg (by omega)]
        exact this
      · have := e5 j j0 j1
        simp only [up_]
        repeat rw [if_neg (by omega)]
        exact this
    · rw [if_neg hs]
      refine ⟨by simp only; omega, ?_, ?_, ?_, ?_, ?_, ?_, ?_, fun k k0 k1 => ?_, fun k k0 k1 => ?_, fun k k0 k1 => ?_, fun k l k0 k1 k2 => ?_, fun j j0 j1 => ?_⟩
      · simp only [up_]; simp; exact ⟨b0, b2, b3, b4, b5, b8, b10⟩
      · simp only [up_]; simp; omega
      · simp only [up_]; simp; omega
      · simp only [up_]; simp; omega
      · simp only [up_]; simp; omega
      · simp only [up_]; simp; omega
      · simp only [up_]; simp; omega
      · have := e1 k k0 k1
        simp only [up_]
        repeat rw [if_neg (by omega)]
        exact this
      · have := e2 k (by omega) k1
        simp only [up_]
        repeat rw [if_neg (by omega)]
        exact this
      · obtain ⟨q1, q2, q3⟩ := e3 k k0 k1
        simp only [up_]
        repeat rw [if_neg (by omega)]
        exact ⟨q1, q2, fun l l0 l1 => q3 l (by omega) l1⟩
      · have := e4 k l k0 k1 k2
        simp only [up_]
        repeat rw [if_neg (by omega)]
        exact this
      · have := e5 j j0 j1
        simp only [up_]
        repeat rw [if_neg (by omega)]
        exact this
  · rw [if_neg hc]
    have u : ∀ (j : Int), (j ≠ 112 + 3 * p.2 ∧ j ≠ 113 + 3 * p.2 ∧ j ≠ 114 + 3 * p.2) → up_ (up_ (up_ p.1 (112 + 3 * p.2) (p.1 (112 + 3 * (n : Int)))) (113 + 3 * p.2) (p.1 (113 + 3 * (n : Int)))) (114 + 3 * p.2) (p.1 (114 + 3 * (n : Int))) j = p.1 j := fun j hj => by
      unfold up_
      rw [if_neg hj.2.2, if_neg hj.2.1, if_neg hj.1]
    have v : ∀ k : Int, up_ (up_ (up_ p.1 (112 + 3 * p.2) (p.1 (112 + 3 * (n : Int)))) (113 + 3 * p.2) (p.1 (113 + 3 * (n : Int)))) (114 + 3 * p.2) (p.1 (114 + 3 * (n : Int))) (112 + 3 * k) = (if k = p.2 then p.1 (112 + 3 * (n : Int)) else p.1 (112 + 3 * k)) ∧ up_ (up_ (up_ p.1 (112 + 3 * p.2) (p.1 (112 + 3 * (n : Int)))) (113 + 3 * p.2) (p.1 (113 + 3 * (n : Int)))) (114 + 3 * p.2) (p.1 (114 + 3 * (n : Int))) (113 + 3 * k) = (if k = p.2 then p.1 (113 + 3 * (n : Int)) else p.1 (113 + 3 * k)) ∧ up_ (up_ (up_ p.1 (112 + 3 * p.2) (p.1 (112 + 3 * (n : Int)))) (113 + 3 * p.2) (p.1 (113 + 3 * (n : Int)))) (114 + 3 * p.2) (p.1 (114 + 3 * (n : Int))) (114 + 3 * k) = (if k = p.2 then p.1 (114 + 3 * (n : Int)) else p.1 (114 + 3 * k)) := fun k => by
      unfold up_
      refine ⟨?_, ?_, ?_⟩ <;> (repeat' split) <;> first | rfl | omega | (exfalso; omega)
    refine ⟨by simp only; omega, ?_, ?_, ?_, ?_, ?_, ?_, ?_, fun k k0 k1 => ?_, fun k k0 k1 => ?_, fun k k0 k1 => ?_, fun k l k0 k1 k2 => ?_, fun j j0 j1 => ?_⟩
    · simp only
      rw [u 0 (by omega), u 2 (by omega), u 3 (by omega), u 4 (by omega), u 5 (by omega), u 8 (by omega), u 10 (by omega)]
      exact ⟨b0, b2, b3, b4, b5, b8, b10⟩
    · simp only; rw [u 1 (by omega)]; exact c1
    · simp only; rw [u 6 (by omega)]; exact c2
    · simp only; rw [u 7 (by omega)]; exact c3
    · simp only; rw [u 6 (by omega), u 7 (by omega)]; omega
    · simp only; rw [u 9 (by omega)]; exact c5
    · simp only; rw [u 1 (by omega), u 8 (by omega), u 9 (by omega), u 10 (by omega)]; exact c6
    · obtain ⟨v1, v2, v3⟩ := v k
      simp only
      rw [v1, v2, v3]
      have := e1 k k0 k1
      by_cases hk : k = p.2
      · rw [if_pos hk, if_pos hk, if_pos hk]; exact ⟨x1, x2, x3⟩
      · rw [if_neg hk, if_neg hk, if_neg hk]; exact this
    · obtain ⟨v1, v2, v3⟩ := v k
      simp only
      rw [v1, v2, v3, if_neg (by omega), if_neg (by omega), if_neg (by omega)]
      exact e2 k (by omega) k1
    · obtain ⟨v1, v2, v3⟩ := v k
      simp only at k1
      simp only
      rw [v1, v2]
      by_cases hk : k = p.2
      · rw [if_pos hk, if_pos hk, y1, y2]
        rw [y2, b0] at hc
        exact ⟨by omega, z2, fun l l0 l1 => d14 n l (by omega) (by omega) l1⟩
      · rw [if_neg hk, if_neg hk]
        obtain ⟨q1, q2, q3⟩ := e3 k k0 (by omega)
        exact ⟨q1, q2, fun l l0 l1 => q3 l (by omega) l1⟩
    · simp only at k2
      simp only
      rw [(v k).1, (v l).1]
      by_cases hl : l = p.2
      · rw [if_pos hl, if_neg (by omega), y1]
        exact (e3 k k0 (by omega)).2.2 n (by omega) hn
      · rw [if_neg hl, if_neg (by omega)]
        exact e4 k l k0 k1 (by omega)
    · simp only
      rw [u j (by omega)]
      exact e5 j j0 j1
theorem wv_n {B : Int} {r : rw_t} (hd : wd_ B r) : ∀ n : Nat, (n : Int) ≤ r 4 → wv_ B r n (vf_ r n)
  | 0, _ => wv_0 hd
  | n + 1, h => wv_s hd (by omega) (wv_n hd n (by omega))
theorem pi_wd {B : Int} {r : rw_t} (h : wf_T B r) : wd_ (B + 1) (pi_ r) := by
  obtain ⟨h0, h1, h2, h3, h4, h5, h6, h7, h8, h9, h10, h11, h12, h13, h14⟩ := h
  have u : ∀ j : Int, j ≠ 0 → j ≠ 1 → j ≠ 8 → pi_ r j = r j := fun j a b c => by unfold pi_ up_; rw [if_neg c, if_neg b, if_neg a]
  have u0 : pi_ r 0 = r 0 + 1 := by simp [pi_, up_]
  have u1 : pi_ r 1 = r 1 + r 2 := by simp [pi_, up_]
  have u8 : pi_ r 8 = r 8 + r 2 := by simp [pi_, up_]
  unfold wd_
  rw [u0, u1, u8, u 2 (by decide) (by decide) (by decide), u 4 (by decide) (by decide) (by decide), u 5 (by decide) (by decide) (by decide), u 6 (by decide) (by decide) (by decide), u 7 (by decide) (by decide) (by decide), u 9 (by decide) (by decide) (by decide), u 10 (by decide) (by decide) (by decide)]
  refine ⟨by omega, by omega, h2, h3, by omega, h5, h6, h7, by omega, h9, h10, by omega, fun k k0 k1 => ?_, fun k k0 k1 => ?_, fun k l k0 k1 k2 => ?_⟩
  · rw [u _ (by omega) (by omega) (by omega), u _ (by omega) (by omega) (by omega), u _ (by omega) (by omega) (by omega)]
    have := h12 k k0 k1
    omega
  · rw [u _ (by omega) (by omega) (by omega), u _ (by omega) (by omega) (by omega)]
    have := h13 k k0 k1
    omega
  · rw [u _ (by omega) (by omega) (by omega), u _ (by omega) (by omega) (by omega)]
    exact h14 k l k0 k1 k2
theorem vd_wf {B : Int} {r : rw_t} (hd : wd_ B r) : wf_T B (vd_ r) ∧ ∀ j : Int, 11 ≤ j → j < 112 → vd_ r j = r j := by
  obtain ⟨d0, d1, d2, d3, d4, d5, d6, d7, d8, d9, d10, d11, d12, d13, d14⟩ := id hd
  have e4 : ((r 4).toNat : Int) = r 4 := Int.toNat_of_nonneg d3.1
  obtain ⟨a1, ⟨b0, b2, b3, b4, b5, b8, b10⟩, c1, c2, c3, c4, c5, c6, f1, f2, f3, f4, f5⟩ := wv_n hd (r 4).toNat (by omega)
  have u : ∀ j : Int, j ≠ 4 → vd_ r j = (vf_ r (r 4).toNat).1 j := fun j hj => by unfold vd_ up_; rw [if_neg hj]
  have u4 : vd_ r 4 = (vf_ r (r 4).toNat).2 := by simp [vd_, up_]
  refine ⟨?_, fun j j0 j1 => by rw [u j (by omega)]; exact f5 j j0 j1⟩
  unfold wf_T
  rw [u4, u 0 (by decide), u 1 (by decide), u 2 (by decide), u 5 (by decide), u 6 (by decide), u 7 (by decide), u 8 (by decide), u 9 (by decide), u 10 (by decide)]
  refine ⟨by omega, by omega, by omega, by omega, by omega, c2, c3, by omega, by omega, c5, by omega, c6, fun k k0 k1 => ?_, fun k k0 k1 => ?_, fun k l k0 k1 k2 => ?_⟩
  · rw [u _ (by omega), u _ (by omega), u _ (by omega)]
    exact f1 k k0 k1
  · rw [u _ (by omega), u _ (by omega), b0, b5]
    obtain ⟨q1, q2, -⟩ := f3 k k0 k1
    exact ⟨q1, q2⟩
  · rw [u _ (by omega), u _ (by omega)]
    exact f4 k l k0 k1 k2
theorem pd_wf {B : Int} {r : rw_t} (h : wf_T B r) : wf_T (B + 1) (pd_ r) ∧ ∀ j : Int, 11 ≤ j → j < 112 → pd_ r j = r j := by
  obtain ⟨h1, h2⟩ := vd_wf (pi_wd h)
  refine ⟨h1, fun j j0 j1 => ?_⟩
  unfold pd_
  rw [h2 j j0 j1]
  unfold pi_ up_
  rw [if_neg (by omega), if_neg (by omega), if_neg (by omega)]
theorem ps_wf {B : Int} {r : rw_t} (h : wf_T B r) : ∀ n : Nat, wf_T (B + n) (ps_ r n) ∧ ∀ j : Int, 11 ≤ j → j < 112 → ps_ r n j = r j
  | 0 => ⟨by rw [show B + ((0 : Nat) : Int) = B by omega]; exact h, fun _ _ _ => rfl⟩
  | n + 1 => by
    obtain ⟨h1, h2⟩ := ps_wf h n
    obtain ⟨h3, h4⟩ := pd_wf h1
    refine ⟨?_, fun j j0 j1 => (h4 j j0 j1).trans (h2 j j0 j1)⟩
    have e : B + (n : Int) + 1 = B + ((n + 1 : Nat) : Int) := by omega
    rw [← e]
    exact h3
end
section
theorem st_T_fr {P : Nat → Prop} {σ σ' : bc_M} {b : Nat} {r : rw_t} (h : st_T σ b r) (hf : fr_ P σ σ') (hp : ∀ k, b + 10 ≤ k → k ≤ b + 13 → ¬ P k) : st_T σ' b r := by
  unfold st_T
  rw [hf.1 (b + 10) (hp _ (by omega) (by omega)), hf.1 (b + 11) (hp _ (by omega) (by omega)), hf.1 (b + 12) (hp _ (by omega) (by omega)), hf.1 (b + 13) (hp _ (by omega) (by omega))]
  exact h
theorem st_N_fr {P : Nat → Prop} {σ σ' : bc_M} {b : Nat} {r : rw_t} (h : st_N σ b r) (hf : fr_ P σ σ') (hp : ∀ k, b + 8 ≤ k → k ≤ b + 9 → ¬ P k) : st_N σ' b r := by
  unfold st_N
  rw [hf.1 (b + 8) (hp _ (by omega) (by omega)), hf.1 (b + 9) (hp _ (by omega) (by omega))]
  exact h
theorem st_M_fr {P : Nat → Prop} {σ σ' : bc_M} {b : Nat} {r : rw_t} (h : st_M σ b r) (hf : fr_ P σ σ') (hp : ∀ k, b + 1 ≤ k → k ≤ b + 7 → ¬ P k) : st_M σ' b r := by
  unfold st_M
  rw [hf.1 (b + 1) (hp _ (by omega) (by omega)), hf.1 (b + 2) (hp _ (by omega) (by omega)), hf.1 (b + 3) (hp _ (by omega) (by omega)), hf.1 (b + 4) (hp _ (by omega) (by omega)), hf.1 (b + 5) (hp _ (by omega) (by omega)), hf.1 (b + 6) (hp _ (by omega) (by omega)), hf.1 (b + 7) (hp _ (by omega) (by omega))]
  exact h
section TRE2
variable {g : bc_C} {d : Nat} {σ : bc_M} {r : rw_t} {B : Int} {Rr : Option bc_A → bc_M → Prop} {X : Nat → bc_M → Prop}
theorem st_T_move {σ : bc_M} {p : rw_t} {s i x1 x2 x3 : Int} (hS : st_T σ 1 p) (s0 : 0 ≤ s) (s1 : s ≤ i) (i1 : i < 8) (h1 : x1 = p (112 + 3 * i)) (h2 : x2 = p (113 + 3 * i)) (h3 : x3 = p (114 + 3 * i)) : st_T (bc_wr (bc_wr (bc_wr σ 12 s x1) 13 s x2) 14 s x3) 1 (up_ (up_ (up_ p (112 + 3 * s) (p (112 + 3 * i))) (113 + 3 * s) (p (113 + 3 * i))) (114 + 3 * s) (p (114 + 3 * i))) := by
  subst h1 h2 h3
  obtain ⟨l0, l1, l2, l3, l4, l5, l6, l7, l8, l9⟩ := st_T2 hS
  obtain ⟨-, f⟩ := st_T1 hS
  refine ⟨?_, fun k k0 k1 => ?_⟩
  · simp only [bc_wr, up_]
    simp
    refine ⟨?_, ?_, ?_, ?_, ?_, ?_, ?_, ?_, ?_, ?_⟩ <;> (repeat' rw [if_neg (by omega)]) <;> assumption
  · obtain ⟨q1, q2, q3⟩ := f k k0 k1
    refine ⟨?_, ?_, ?_⟩ <;> simp only [bc_wr, up_] <;> simp <;> (repeat' split) <;> first | omega | (exfalso; omega)
theorem t_X8_settleDueVows (hS : st_T σ 1 r) (hW : wd_ B r) (hB : B ≤ 1000000) (h : ∀ σ' : bc_M, st_T σ' 1 (vd_ r) → fr_ (fun k => 11 ≤ k ∧ k ≤ 14) σ σ' → Rr none σ') : bc_Sem g (d + 2) mX8_settleDueVows [bc_R 11] σ Rr X := by
  have w3 := hW.2.2.2.1
  have w1 := hW.2.1
  have w11 := hW.2.2.2.2.2.2.2.2.2.2.2.1
  have w8 := hW.2.2.2.2.2.2.2.2.1
  have w9 := hW.2.2.2.2.2.2.2.2.2.1
  have w10 := hW.2.2.2.2.2.2.2.2.2.2.1
  have w0 := hW.1
  have e4 : ((r 4).toNat : Int) = r 4 := Int.toNat_of_nonneg w3.1
  refine e_X8_settleDueVows rfl (fun K hK => ?_)
  have L : ∀ (k n : Nat) (σ' : bc_M), k + n = (r 4).toNat → st_T σ' 1 (vf_ r n).1 → fr_ (fun k => 11 ≤ k ∧ k ≤ 14) σ σ' → K 4 [(0, bc_R 11), (1, bc_I (vf_ r n).2), (2, bc_I (n : Int))] [] σ' 0 := by
    intro k
    induction k with
    | zero =>
      intro n σ' hn hS' hF
      obtain ⟨a1, ⟨b0, b2, b3, b4, b5, b8, b10⟩, c1, c2, c3, c4, c5, c6, f1, f2, f3, f4, f5⟩ := wv_n hW n (by omega)
      obtain ⟨⟨x0, x1, x2, x3, x4, x5, x6, x7, x8, x9⟩, x⟩ := st_T1 hS'
      obtain ⟨l0, l1, l2, l3, l4, l5, l6, l7, l8, l9⟩ := st_T2 hS'
      refine hK.1 [4] 60 _ _ _ _ _ ?_
      refine bc_ob_i (by omega) ?_
      refine bc_br_i (fun c => by omega) (fun c => ?_)
      have en : n = (r 4).toNat := by omega
      refine h _ ?_ (fr_trans hF (fr_wr (by omega)))
      unfold vd_
      rw [← en]
      refine ⟨?_, fun k k0 k1 => ?_⟩
      · simp only [bc_wr, up_]
        simp
        exact ⟨l0, l1, l2, l3, l4, l5, l6, l7, l8⟩
      · obtain ⟨q1, q2, q3⟩ := x k k0 k1
        refine ⟨?_, ?_, ?_⟩ <;> simp only [bc_wr, up_] <;> simp <;> (repeat' split) <;> omega
    | succ k ih =>
      intro n σ' hn hS' hF
      obtain ⟨a1, ⟨b0, b2, b3, b4, b5, b8, b10⟩, c1, c2, c3, c4, c5, c6, f1, f2, f3, f4, f5⟩ := wv_n hW n (by omega)
      obtain ⟨⟨x0, x1, x2, x3, x4, x5, x6, x7, x8, x9⟩, x⟩ := st_T1 hS'
      obtain ⟨y1, y2, y3⟩ := x n (by omega) (by omega)
      obtain ⟨z1, z2, z3⟩ := f1 n (by omega) (by omega)
      have ihn := ih (n + 1)
      have e1 : ((n + 1 : Nat) : Int) = (n : Int) + 1 := by omega
      rw [e1] at ihn
      refine hK.1 [4] 80 _ _ _ _ _ ?_
      refine bc_ob_i (by omega) ?_
      refine bc_br_i (fun c => ?_) (fun c => by omega)
      refine bc_ob_i (by omega) ?_
      refine bc_ob_i (by omega) ?_
      refine bc_br_i (fun c => ?_) (fun c => ?_)
      · have hv : vf_ r (n + 1) = (up_ (up_ (up_ (vf_ r n).1 (112 + 3 * (vf_ r n).2) ((vf_ r n).1 (112 + 3 * (n : Int)))) (113 + 3 * (vf_ r n).2) ((vf_ r n).1 (113 + 3 * (n : Int)))) (114 + 3 * (vf_ r n).2) ((vf_ r n).1 (114 + 3 * (n : Int))), (vf_ r n).2 + 1) := if_neg (by omega)
        rw [hv] at ihn
        refine bc_ob_i (by omega) ?_
        refine bc_ob_i (by omega) ?_
        refine bc_ob_i (by omega) ?_
        refine bc_ob_i (by omega) ?_
        refine bc_ob_i (by omega) ?_
        refine bc_ob_i (by omega) ?_
        refine ihn _ (by omega) ?_ ?_
        · exact st_T_move hS' a1.1 a1.2 (by omega) y1 y2 y3
        · exact fr_trans hF (fr_trans (fr_trans (fr_trans (fr_refl _) (fr_wr (by omega))) (fr_wr (by omega))) (fr_wr (by omega)))
      · have hv : vf_ r (n + 1) = (sg_ (vf_ r n).1 ((vf_ r n).1 (114 + 3 * (n : Int))), (vf_ r n).2) := if_pos (by omega)
        rw [hv] at ihn
        refine bc_ob_i (by omega) ?_
        refine t_X8_settle (u := σ'.1 14 (n : Int)) hS' (by omega) (by omega) (fun σ2 hS2 hF2 => ?_)
        refine ihn σ2 (by omega) ?_ (fr_trans hF (fr_mono hF2 (fun k hk => by omega)))
        rw [y3] at hS2
        exact hS2
  refine hK.1 [4] 40 _ _ _ _ _ ?_
  exact L (r 4).toNat 0 σ (by omega) hS (fr_refl _)
end TRE2
end
section
theorem sm_eq {f h : Int → Int} {n : Nat} (e : ∀ k : Int, 0 ≤ k → k < n → f k = h k) : sm_ f n = sm_ h n := by
  induction n with
  | zero => rfl
  | succ n ih =>
    unfold sm_
    rw [ih (fun k h0 h1 => e k h0 (by omega)), e n (by omega) (by omega)]
theorem sm_add {f h : Int → Int} {n : Nat} : sm_ (fun k => f k + h k) n = sm_ f n + sm_ h n := by
  induction n with
  | zero => rfl
  | succ n ih => unfold sm_; rw [ih]; omega
theorem sm_0 {f : Int → Int} {n : Nat} (e : ∀ k : Int, 0 ≤ k → k < n → f k = 0) : sm_ f n = 0 := by
  induction n with
  | zero => rfl
  | succ n ih =>
    unfold sm_
    rw [ih (fun k h0 h1 => e k h0 (by omega)), e n (by omega) (by omega)]
    rfl
noncomputable abbrev am_ (r : rw_t) (due k : Int) : Int := if r (113 + 3 * k) ≤ due then r (114 + 3 * k) else 0
noncomputable abbrev an_ (r : rw_t) (due k : Int) : Int := if r (113 + 3 * k) = due then r (114 + 3 * k) else 0
theorem am_s {r : rw_t} {due : Int} {n : Nat} : sm_ (am_ r (due + 1)) n = sm_ (am_ r due) n + sm_ (an_ r (due + 1)) n := by
  rw [← sm_add]
  refine sm_eq (fun k _ _ => ?_)
  unfold am_ an_
  (repeat' split) <;> omega
theorem am_le {B : Int} {r : rw_t} (hW : wf_T B r) (due : Int) {i : Int} (h0 : 0 ≤ i) (h1 : i ≤ r 4) : 0 ≤ sm_ (am_ r due) i.toNat ∧ sm_ (am_ r due) i.toNat ≤ 99 * i := by
  have w := hW.2.2.2.1
  have := sm_le (f := am_ r due) (A := 0) (B := 99) h0 (fun k k0 k1 => by
    have := (hW.2.2.2.2.2.2.2.2.2.2.2.2.1 k k0 (by omega)).2.2
    unfold am_
    split <;> omega)
  omega
theorem an_le {B : Int} {r : rw_t} (hW : wf_T B r) (due : Int) {i : Int} (h0 : 0 ≤ i) (h1 : i ≤ r 4) : 0 ≤ sm_ (an_ r due) i.toNat ∧ sm_ (an_ r due) i.toNat ≤ 99 * i := by
  have w := hW.2.2.2.1
  have := sm_le (f := an_ r due) (A := 0) (B := 99) h0 (fun k k0 k1 => by
    have := (hW.2.2.2.2.2.2.2.2.2.2.2.2.1 k k0 (by omega)).2.2
    unfold an_
    split <;> omega)
  omega
/-- what a treasury's row bounds -/
theorem wt_le {B : Int} {r : rw_t} (hW : wf_T B r) : (0 ≤ r 0 ∧ r 0 ≤ B) ∧ (0 ≤ r 1 ∧ r 1 ≤ 30 + 20 * B) ∧ (0 ≤ r 2 ∧ r 2 ≤ 20) ∧ (0 ≤ r 4 ∧ r 4 ≤ 8) ∧ (0 ≤ r 6 ∧ r 6 ≤ B) ∧ (0 ≤ r 7 ∧ r 7 ≤ B) ∧ (0 ≤ r 5 ∧ r 5 ≤ B) ∧ (0 ≤ r 8 ∧ r 8 ≤ 20 * B) ∧ (0 ≤ r 9 ∧ r 9 ≤ 30 + 20 * B) ∧ (0 ≤ r 10 ∧ r 10 ≤ 30 + 20 * B) := by
  obtain ⟨h0, h1, h2, h3, h4, h5, h6, h7, h8, h9, h10, h11, -⟩ := hW
  omega
theorem sp_le {B : Int} {r : rw_t} (hW : wf_T B r) (hB : B ≤ 1000000) {a : Int} (a0 : 0 ≤ a) (a1 : a ≤ 2000000) : -100000000 ≤ sp_ r a ∧ sp_ r a ≤ 100000000 := by
  have w := wt_le hW
  have h1 := am_le hW a w.2.2.2.1.1 (Int.le_refl _)
  have h2 := mul_le (a := r 2) (A := 20) (b := a - r 0 + 1000000) (B := 3000000) (by omega) (by omega) (by omega) (by omega)
  have e : r 2 * (a - r 0 + 1000000) = r 2 * (a - r 0) + 1000000 * r 2 := by rw [Int.mul_add]; omega
  unfold sp_
  unfold am_ at h1
  omega
section TRE3
variable {g : bc_C} {d : Nat} {σ : bc_M} {r : rw_t} {B : Int} {Rr : Option bc_A → bc_M → Prop} {X : Nat → bc_M → Prop}
theorem t_X8_spareOn {a : Int} (hS : st_T σ 1 r) (hW : wf_T B r) (hB : B ≤ 1000000) (a0 : 0 ≤ a) (a1 : a ≤ 2000000) (h : Rr (some (bc_I (sp_ r a))) σ) : bc_Sem g (d + 1) mX8_spareOn [bc_R 11, bc_I a] σ Rr X := by
  obtain ⟨⟨f0, f1, f2, f3, f4, f5, f6, f7, f8, f9⟩, f⟩ := st_T1 hS
  have w := wt_le hW
  have h2 := mul_le (a := r 2) (A := 20) (b := a - r 0 + 1000000) (B := 3000000) (by omega) (by omega) (by omega) (by omega)
  have e : r 2 * (a - r 0 + 1000000) = r 2 * (a - r 0) + 1000000 * r 2 := by rw [Int.mul_add]; omega
  have w12 := hW.2.2.2.2.2.2.2.2.2.2.2.2.1
  refine e_X8_spareOn rfl (fun K hK => ?_)
  have L : ∀ i : Int, ∀ s : Int, 0 ≤ i → i ≤ r 4 → s = r 1 + r 2 * (a - r 0) - sm_ (am_ r a) i.toNat → K 19 [(0, bc_R 11), (1, bc_I a), (2, bc_I s), (3, bc_I i)] [] σ 0 := by
    refine up_ind (r 4) (fun i hi s h0 h1 h3 => ?_) (fun i hi ih s h0 h1 h3 => ?_)
    · refine hK.1 [19] 60 _ _ _ _ _ ?_
      refine bc_ob_i (by omega) ?_
      refine bc_br_i (fun c => by omega) (fun c => ?_)
      have e : i = r 4 := by omega
      rw [h3, e]
      exact h
    · obtain ⟨q1, q2, q3⟩ := f i h0 (by omega)
      have w2 := w12 i h0 (by omega)
      have es := sm_s (f := am_ r a) h0
      have hb := am_le hW a h0 h1
      have nxt : ∀ s', s' = s - am_ r a i → K 19 [(0, bc_R 11), (1, bc_I a), (2, bc_I s'), (3, bc_I (i + 1))] [] σ 0 := fun s' e => ih s' (by omega) (by omega) (by rw [es, e, h3]; omega)
      refine hK.1 [19] 60 _ _ _ _ _ ?_
      repeat' first | refine bc_br_i (fun _ => ?_) (fun _ => ?_) | refine bc_ob_i (by omega) ?_
      all_goals first | (exfalso; omega) | exact nxt _ (by unfold am_; split <;> omega)
  refine hK.1 [19] 40 _ _ _ _ _ ?_
  exact L 0 _ (by omega) (by omega) (by show _ = r 1 + r 2 * (a - r 0) - 0; rw [f1, f2, f0]; omega)
theorem t_X8_keepsAllBySums (hS : st_T σ 1 r) (hW : wf_T B r) (hB : B ≤ 1000000) (h : ∀ v : Int, (v = 1 ∧ ∀ k : Int, 0 ≤ k → k < r 4 → 0 ≤ sp_ r (r (113 + 3 * k))) ∨ (v = 0 ∧ ∃ k : Int, 0 ≤ k ∧ k < r 4 ∧ sp_ r (r (113 + 3 * k)) < 0) → Rr (some (bc_I v)) σ) : bc_Sem g (d + 2) mX8_keepsAllBySums [bc_R 11] σ Rr X := by
  obtain ⟨⟨f0, f1, f2, f3, f4, f5, f6, f7, f8, f9⟩, f⟩ := st_T1 hS
  have w := wt_le hW
  have w12 := hW.2.2.2.2.2.2.2.2.2.2.2.2.1
  refine e_X8_keepsAllBySums rfl (fun K hK => ?_)
  have L : ∀ i : Int, 0 ≤ i → i ≤ r 4 → (∀ k : Int, 0 ≤ k → k < i → 0 ≤ sp_ r (r (113 + 3 * k))) → K 2 [(0, bc_R 11), (1, bc_I i)] [] σ 0 := by
    refine up_ind (r 4) (fun i hi h0 h1 h3 => ?_) (fun i hi ih h0 h1 h3 => ?_)
    · refine hK.1 [2] 60 _ _ _ _ _ ?_
      refine bc_ob_i (by omega) ?_
      refine bc_br_i (fun c => by omega) (fun c => ?_)
      refine bc_ob_i (by omega) ?_
      exact h 1 (Or.inl ⟨rfl, fun k k0 k1 => h3 k k0 (by omega)⟩)
    · obtain ⟨q1, q2, q3⟩ := f i h0 (by omega)
      have w2 := w12 i h0 (by omega)
      have hb := sp_le hW hB (a := r (113 + 3 * i)) (by omega) (by omega)
      refine hK.1 [2] 60 _ _ _ _ _ ?_
      refine bc_ob_i (by omega) ?_
      refine bc_br_i (fun c => ?_) (fun c => by omega)
      refine bc_ob_i (by omega) ?_
      refine t_X8_spareOn (a := σ.1 13 i) hS hW hB (by omega) (by omega) ?_
      rw [q2]
      refine bc_ob_i (by omega) ?_
      refine bc_br_i (fun c => ?_) (fun c => ?_)
      · refine bc_ob_i (by omega) ?_
        exact h 0 (Or.inr ⟨rfl, i, h0, by omega, c⟩)
      · exact ih (by omega) (by omega) (fun k k0 k1 => by
          by_cases hk : k = i
          · rw [hk]; omega
          · exact h3 k k0 (by omega))
  refine hK.1 [2] 40 _ _ _ _ _ ?_
  exact L 0 (by omega) (by omega) (fun k k0 k1 => by omega)
theorem t_X8_keepsAllDayByDay (hS : st_T σ 1 r) (hW : wf_T B r) (hB : B ≤ 1000000) (h : ∀ v : Int, (v = 1 ∧ ∀ a : Int, 1 ≤ a → a ≤ 50 → 0 ≤ sp_ r (r 0 + a)) ∨ (v = 0 ∧ ∃ a : Int, 1 ≤ a ∧ a ≤ 50 ∧ sp_ r (r 0 + a) < 0) → Rr (some (bc_I v)) σ) : bc_Sem g (d + 1) mX8_keepsAllDayByDay [bc_R 11] σ Rr X := by
  obtain ⟨⟨f0, f1, f2, f3, f4, f5, f6, f7, f8, f9⟩, f⟩ := st_T1 hS
  have w := wt_le hW
  have w12 := hW.2.2.2.2.2.2.2.2.2.2.2.2.1
  have w13 := hW.2.2.2.2.2.2.2.2.2.2.2.2.2.1
  have e4 : ((r 4).toNat : Int) = r 4 := Int.toNat_of_nonneg w.2.2.2.1.1
  have espo : ∀ a : Int, sp_ r (r 0 + a) = r 1 + r 2 * a - sm_ (am_ r (r 0 + a)) (r 4).toNat := fun a => by
    unfold sp_ am_
    rw [show r 0 + a - r 0 = a by omega]
  have hs0 : sm_ (am_ r (r 0)) (r 4).toNat = 0 := sm_0 (fun k k0 k1 => by
    have := (w13 k k0 (by omega)).1
    unfold am_
    rw [if_neg (by omega)])
  have hbm : ∀ a : Int, 0 ≤ a → a ≤ 50 → 0 ≤ r 2 * a ∧ r 2 * a ≤ 1000 := fun a a0 a1 => mul_le (A := 20) (B := 50) (by omega) (by omega) a0 a1
  refine e_X8_keepsAllDayByDay rfl (fun K hK => ?_)
  have L : ∀ a : Int, ∀ u : Int, ∀ z : List (Nat × bc_A), 1 ≤ a → a ≤ 51 → u = r 1 + r 2 * (a - 1) - sm_ (am_ r (r 0 + (a - 1))) (r 4).toNat → (∀ a' : Int, 1 ≤ a' → a' < a → 0 ≤ sp_ r (r 0 + a')) → K 7 [(0, bc_R 11), (1, bc_I u), (2, bc_I a)] [] σ 0 := by
    refine up_ind 51 (fun a ha u z h0 h1 h3 h4 => ?_) (fun a ha ih u z h0 h1 h3 h4 => ?_)
    · have m1 := hbm (a - 1) (by omega) (by omega)
      have m2 := am_le hW (r 0 + (a - 1)) w.2.2.2.1.1 (Int.le_refl _)
      refine hK.1 [7] 60 _ _ _ _ _ ?_
      refine bc_ob_i (by omega) ?_
      refine bc_br_i (fun c => ?_) (fun c => by omega)
      refine bc_ob_i (by omega) ?_
      exact h 1 (Or.inl ⟨rfl, fun a' a0 a1 => h4 a' a0 (by omega)⟩)
    · have m1 := hbm (a - 1) (by omega) (by omega)
      have m3 := hbm a (by omega) (by omega)
      have m2 := am_le hW (r 0 + (a - 1)) w.2.2.2.1.1 (Int.le_refl _)
      have em : r 2 * a = r 2 * (a - 1) + r 2 := by
        have := Int.mul_add (r 2) (a - 1) 1
        rw [show a - 1 + 1 = a by omega] at this
        omega
      have hsum : sm_ (am_ r (r 0 + a)) (r 4).toNat = sm_ (am_ r (r 0 + (a - 1))) (r 4).toNat + sm_ (an_ r (r 0 + a)) (r 4).toNat := by
        have := am_s (r := r) (due := r 0 + (a - 1)) (n := (r 4).toNat)
        rw [show r 0 + (a - 1) + 1 = r 0 + a by omega] at this
        exact this
      have I : ∀ i : Int, ∀ u' : Int, 0 ≤ i → i ≤ r 4 → u' = u + r 2 - sm_ (an_ r (r 0 + a)) i.toNat → K 22 [(0, bc_R 11), (1, bc_I u'), (2, bc_I a), (3, bc_I i)] [] σ 0 := by
        refine up_ind (r 4) (fun i hi u' h0' h1' h3' => ?_) (fun i hi ih' u' h0' h1' h3' => ?_)
        · have n2 := an_le hW (r 0 + a) h0' h1'
          have ei : i = r 4 := by omega
          rw [ei] at h3' n2
          have eu : u' = sp_ r (r 0 + a) := by rw [espo, hsum]; omega
          refine hK.1 [7, 22] 60 _ _ _ _ _ ?_
          refine bc_ob_i (by omega) ?_
          refine bc_br_i (fun c => by omega) (fun c => ?_)
          refine bc_ob_i (by omega) ?_
          refine bc_br_i (fun c => ?_) (fun c => ?_)
          · refine bc_ob_i (by omega) ?_
            exact h 0 (Or.inr ⟨rfl, a, by omega, by omega, by omega⟩)
          · refine hK.2 7 _ [(0, bc_R 11), (1, bc_I u'), (2, bc_I (a + 1))] _ _ _ (by intro q hq; simp at hq ⊢; rcases hq with hq | hq | hq <;> simp [hq]) (ih u' z (by omega) (by omega) ?_ ?_)
            · rw [show a + 1 - 1 = a by omega, eu, espo]
            · intro a' a0 a1
              by_cases hk : a' = a
              · rw [hk]; omega
              · exact h4 a' a0 (by omega)
        · obtain ⟨q1, q2, q3⟩ := f i h0' (by omega)
          have w2 := w12 i h0' (by omega)
          have es := sm_s (f := an_ r (r 0 + a)) h0'
          have n2 := an_le hW (r 0 + a) h0' h1'
          have nxt : ∀ s', s' = u' - an_ r (r 0 + a) i → K 22 [(0, bc_R 11), (1, bc_I s'), (2, bc_I a), (3, bc_I (i + 1))] [] σ 0 := fun s' e => ih' s' (by omega) (by omega) (by rw [es, e, h3']; omega)
          refine hK.1 [22] 60 _ _ _ _ _ ?_
          repeat' first | refine bc_br_i (fun _ => ?_) (fun _ => ?_) | refine bc_ob_i (by omega) ?_
          all_goals first | (exfalso; omega) | exact nxt _ (by unfold an_; split <;> omega)
      refine hK.1 [22] 60 _ _ _ _ _ ?_
      refine bc_ob_i (by omega) ?_
      refine bc_br_i (fun c => by omega) (fun c => ?_)
      exact I 0 _ (by omega) (by omega) (by show _ = u + r 2 - 0; rw [f2]; omega)
  refine hK.1 [7] 40 _ _ _ _ _ ?_
  exact L 1 _ [] (by omega) (by omega) (by show _ = r 1 + r 2 * (1 - 1) - sm_ (am_ r (r 0 + (1 - 1))) (r 4).toNat; rw [show r 0 + (1 - 1) = r 0 by omega, hs0, f1]; simp) (fun a' a0 a1 => by omega)
theorem t_X8_greatestFurther {a : Int} (hS : st_T σ 1 r) (hW : wf_T B r) (hB : B ≤ 1000000) (a0 : 0 ≤ a) (a1 : a ≤ 2000000) (h : ∀ v : Int, v ≤ sp_ r a → (∀ k : Int, 0 ≤ k → k < r 4 → a < r (113 + 3 * k) → v ≤ sp_ r (r (113 + 3 * k))) → (v = sp_ r a ∨ ∃ k : Int, 0 ≤ k ∧ k < r 4 ∧ a < r (113 + 3 * k) ∧ v = sp_ r (r (113 + 3 * k))) → Rr (some (bc_I v)) σ) : bc_Sem g (d + 2) mX8_greatestFurther [bc_R 11, bc_I a] σ Rr X := by
  obtain ⟨⟨f0, f1, f2, f3, f4, f5, f6, f7, f8, f9⟩, f⟩ := st_T1 hS
  have w := wt_le hW
  have w12 := hW.2.2.2.2.2.2.2.2.2.2.2.2.1
  have hb0 := sp_le hW hB a0 a1
  refine e_X8_greatestFurther rfl (fun K hK => ?_)
  have L : ∀ i : Int, ∀ v : Int, 0 ≤ i → i ≤ r 4 → -100000000 ≤ v → v ≤ sp_ r a → (∀ k : Int, 0 ≤ k → k < i → a < r (113 + 3 * k) → v ≤ sp_ r (r (113 + 3 * k))) → (v = sp_ r a ∨ ∃ k : Int, 0 ≤ k ∧ k < r 4 ∧ a < r (113 + 3 * k) ∧ v = sp_ r (r (113 + 3 * k))) → K 8 [(0, bc_R 11), (1, bc_I a), (2, bc_I v), (3, bc_I i)] [] σ 0 := by
    refine up_ind (r 4) (fun i hi v h0 h1 h2 h3 h4 h5 => ?_) (fun i hi ih v h0 h1 h2 h3 h4 h5 => ?_)
    · refine hK.1 [8] 60 _ _ _ _ _ ?_
      refine bc_ob_i (by omega) ?_
      refine bc_br_i (fun c => by omega) (fun c => ?_)
      exact h v h3 (fun k k0 k1 => h4 k k0 (by omega)) h5
    · obtain ⟨q1, q2, q3⟩ := f i h0 (by omega)
      have w2 := w12 i h0 (by omega)
      have hb := sp_le hW hB (a := r (113 + 3 * i)) (by omega) (by omega)
      refine hK.1 [8] 60 _ _ _ _ _ ?_
      refine bc_ob_i (by omega) ?_
      refine bc_br_i (fun c => ?_) (fun c => by omega)
      refine bc_ob_i (by omega) ?_
      refine bc_ob_i (by omega) ?_
      refine bc_br_i (fun c => ?_) (fun c => ?_)
      · refine bc_ob_i (by omega) ?_
        refine t_X8_spareOn (a := σ.1 13 i) hS hW hB (by omega) (by omega) ?_
        rw [q2] at c ⊢
        refine bc_ob_i ⟨by omega, by omega, Nat.le_of_ble_eq_true rfl⟩ ?_
        refine ih _ (by omega) (by omega) (by omega) (by omega) (fun k k0 k1 k2 => ?_) ?_
        · by_cases hk : k = i
          · rw [hk]; omega
          · have := h4 k k0 (by omega) k2
            omega
        · by_cases hm : v ≤ sp_ r (r (113 + 3 * i))
          · rw [Int.min_eq_left hm]; exact h5
          · rw [Int.min_eq_right (by omega)]; exact Or.inr ⟨i, h0, by omega, c, rfl⟩
      · rw [q2] at c
        exact ih v (by omega) (by omega) h2 h3 (fun k k0 k1 k2 => by
          by_cases hk : k = i
          · rw [hk] at k2; omega
          · exact h4 k k0 (by omega) k2) h5
  refine hK.1 [8] 40 _ _ _ _ _ ?_
  refine t_X8_spareOn hS hW hB a0 a1 ?_
  exact L 0 _ (by omega) (by omega) hb0.1 (Int.le_refl _) (fun k k0 k1 => by omega) (Or.inl rfl)
theorem t_X8_slotOf {a : Int} (hS : st_T σ 1 r) (hW : wf_T B r) (hB : B ≤ 1000000) (ha : bc_in a) (h : ∀ v : Int, (0 ≤ v ∧ v < r 4 ∧ r (112 + 3 * v) = a) ∨ (v = -1 ∧ ∀ k : Int, 0 ≤ k → k < r 4 → r (112 + 3 * k) ≠ a) → Rr (some (bc_I v)) σ) : bc_Sem g (d + 1) mX8_slotOf [bc_R 11, bc_I a] σ Rr X := by
  obtain ⟨⟨f0, f1, f2, f3, f4, f5, f6, f7, f8, f9⟩, f⟩ := st_T1 hS
  have w := wt_le hW
  have w12 := hW.2.2.2.2.2.2.2.2.2.2.2.2.1
  obtain ⟨ha0, ha1⟩ := ha
  refine e_X8_slotOf rfl (fun K hK => ?_)
  have L : ∀ i : Int, 0 ≤ i → i ≤ r 4 → (∀ k : Int, 0 ≤ k → k < i → r (112 + 3 * k) ≠ a) → K 2 [(0, bc_R 11), (1, bc_I a), (2, bc_I i)] [] σ 0 := by
    refine up_ind (r 4) (fun i hi h0 h1 h3 => ?_) (fun i hi ih h0 h1 h3 => ?_)
    · refine hK.1 [2] 60 _ _ _ _ _ ?_
      refine bc_ob_i (by omega) ?_
      refine bc_br_i (fun c => by omega) (fun c => ?_)
      exact h (-1) (Or.inr ⟨rfl, fun k k0 k1 => h3 k k0 (by omega)⟩)
    · obtain ⟨q1, q2, q3⟩ := f i h0 (by omega)
      have w2 := w12 i h0 (by omega)
      refine hK.1 [2] 60 _ _ _ _ _ ?_
      refine bc_ob_i (by omega) ?_
      refine bc_br_i (fun c => ?_) (fun c => by omega)
      refine bc_ob_i (by omega) ?_
      refine bc_ob_i (by omega) ?_
      refine bc_br_i (fun c => ?_) (fun c => ?_)
      · exact h i (Or.inl ⟨h0, by omega, by omega⟩)
      · exact ih (by omega) (by omega) (fun k k0 k1 => by
          by_cases hk : k = i
          · rw [hk]; omega
          · exact h3 k k0 (by omega))
  refine hK.1 [2] 40 _ _ _ _ _ ?_
  exact L 0 (by omega) (by omega) (fun k k0 k1 => by omega)
end TRE3
end
section
/-- whether one waiting vow stands ahead of another -/
noncomputable def vb_ (r : rw_t) (a b : Int) : Int := if r (113 + 3 * a) < r (113 + 3 * b) then 1 else if r (113 + 3 * a) = r (113 + 3 * b) then (if r (112 + 3 * a) < r (112 + 3 * b) then 1 else 0) else 0
theorem vb_01 (r : rw_t) (a b : Int) : 0 ≤ vb_ r a b ∧ vb_ r a b ≤ 1 := by unfold vb_; (repeat' split) <;> omega
noncomputable def vk_r (r : rw_t) (m : Int) : Int := sm_ (fun k => vb_ r k m) (r 4).toNat
theorem vk_le {r : rw_t} (h : 0 ≤ r 4 ∧ r 4 ≤ 8) (m : Int) : 0 ≤ vk_r r m ∧ vk_r r m ≤ 8 := by
  have := sm_le (f := fun k => vb_ r k m) (A := 0) (B := 1) h.1 (fun k _ _ => vb_01 r k m)
  unfold vk_r
  omega
section TRE4
variable {g : bc_C} {d : Nat} {σ : bc_M} {r : rw_t} {B : Int} {Rr : Option bc_A → bc_M → Prop} {X : Nat → bc_M → Prop}
theorem t_X8_rankOfSlot {m : Int} (hS : st_T σ 1 r) (hW : wf_T B r) (hB : B ≤ 1000000) (m0 : 0 ≤ m) (m1 : m < 8) (h : Rr (some (bc_I (vk_r r m))) σ) : bc_Sem g (d + 1) mX8_rankOfSlot [bc_R 11, bc_I m] σ Rr X := by
  obtain ⟨⟨f0, f1, f2, f3, f4, f5, f6, f7, f8, f9⟩, f⟩ := st_T1 hS
  have w := wt_le hW
  have w12 := hW.2.2.2.2.2.2.2.2.2.2.2.2.1
  obtain ⟨p1, p2, p3⟩ := f m m0 m1
  have w3 := w12 m m0 m1
  refine e_X8_rankOfSlot rfl (fun K hK => ?_)
  have L : ∀ i : Int, ∀ s : Int, ∀ z : bc_LV, 0 ≤ i → i ≤ r 4 → s = sm_ (fun k => vb_ r k m) i.toNat → K 4 [(0, bc_R 11), (1, bc_I m), (2, bc_I s), (3, bc_I i)] [] σ 0 := by
    refine up_ind (r 4) (fun i hi s z h0 h1 h3 => ?_) (fun i hi ih s z h0 h1 h3 => ?_)
    · refine hK.1 [4] 60 _ _ _ _ _ ?_
      refine bc_ob_i (by omega) ?_
      refine bc_br_i (fun c => by omega) (fun c => ?_)
      have e : i = r 4 := by omega
      rw [h3, e]
      exact h
    · obtain ⟨q1, q2, q3⟩ := f i h0 (by omega)
      have w2 := w12 i h0 (by omega)
      have es := sm_s (f := fun k => vb_ r k m) h0
      have hb := sm_le (f := fun k => vb_ r k m) (A := 0) (B := 1) h0 (fun k _ _ => vb_01 r k m)
      have nxt : ∀ s' t, s' = s + vb_ r i m → K 4 [(0, bc_R 11), (1, bc_I m), (2, bc_I s'), (3, bc_I (i + 1)), (4, bc_I t)] [] σ 0 := fun s' t e => hK.2 4 _ [(0, bc_R 11), (1, bc_I m), (2, bc_I s'), (3, bc_I (i + 1))] _ _ _ (by intro q hq; simp at hq ⊢; rcases hq with hq | hq | hq | hq <;> simp [hq]) (ih s' z (by omega) (by omega) (by rw [es, e, h3]))
      refine hK.1 [4] 60 _ _ _ _ _ ?_
      repeat' first | refine bc_br_i (fun _ => ?_) (fun _ => ?_) | refine bc_ob_i (by omega) ?_
      all_goals first | (exfalso; omega) | exact nxt _ _ (by unfold vb_; (repeat' split) <;> omega)
  refine hK.1 [4] 40 _ _ _ _ _ ?_
  exact L 0 0 [] (by omega) (by omega) rfl
theorem t_X8_slotAtRank {q : Int} (hS : st_T σ 1 r) (hW : wf_T B r) (hB : B ≤ 1000000) (hq : bc_in q) (h : ∀ v : Int, (0 ≤ v ∧ v < r 4 ∧ vk_r r v = q) ∨ (v = -1 ∧ ∀ k : Int, 0 ≤ k → k < r 4 → vk_r r k ≠ q) → Rr (some (bc_I v)) σ) : bc_Sem g (d + 2) mX8_slotAtRank [bc_R 11, bc_I q] σ Rr X := by
  obtain ⟨⟨f0, f1, f2, f3, f4, f5, f6, f7, f8, f9⟩, f⟩ := st_T1 hS
  have w := wt_le hW
  obtain ⟨ha0, ha1⟩ := hq
  refine e_X8_slotAtRank rfl (fun K hK => ?_)
  have L : ∀ i : Int, 0 ≤ i → i ≤ r 4 → (∀ k : Int, 0 ≤ k → k < i → vk_r r k ≠ q) → K 2 [(0, bc_R 11), (1, bc_I q), (2, bc_I i)] [] σ 0 := by
    refine up_ind (r 4) (fun i hi h0 h1 h3 => ?_) (fun i hi ih h0 h1 h3 => ?_)
    · refine hK.1 [2] 60 _ _ _ _ _ ?_
      refine bc_ob_i (by omega) ?_
      refine bc_br_i (fun c => by omega) (fun c => ?_)
      exact h (-1) (Or.inr ⟨rfl, fun k k0 k1 => h3 k k0 (by omega)⟩)
    · have hv := vk_le w.2.2.2.1 i
      refine hK.1 [2] 60 _ _ _ _ _ ?_
      refine bc_ob_i (by omega) ?_
      refine bc_br_i (fun c => ?_) (fun c => by omega)
      refine t_X8_rankOfSlot hS hW hB h0 (by omega) ?_
      refine bc_ob_i (by omega) ?_
      refine bc_br_i (fun c => ?_) (fun c => ?_)
      · exact h i (Or.inl ⟨h0, by omega, c⟩)
      · exact ih (by omega) (by omega) (fun k k0 k1 => by
          by_cases hk : k = i
          · rw [hk]; omega
          · exact h3 k k0 (by omega))
  refine hK.1 [2] 40 _ _ _ _ _ ?_
  exact L 0 (by omega) (by omega) (fun k k0 k1 => by omega)
theorem t_X8_pass {n : Int} (hS : st_T σ 1 r) (hW : wf_T B r) (hB : B + n ≤ 1000000) (n0 : 0 ≤ n) (n1 : n ≤ 1000) (h : ∀ σ' : bc_M, st_T σ' 1 (ps_ r n.toNat) → fr_ (fun k => 11 ≤ k ∧ k ≤ 14) σ σ' → Rr (some (bc_I (ps_ r n.toNat 6 - r 6))) σ') : bc_Sem g (d + 3) mX8_pass [bc_R 11, bc_I n] σ Rr X := by
  obtain ⟨⟨f0, f1, f2, f3, f4, f5, f6, f7, f8, f9⟩, f⟩ := st_T1 hS
  have w := wt_le hW
  refine e_X8_pass rfl (fun K hK => ?_)
  have L : ∀ i : Int, ∀ σ' : bc_M, 0 ≤ i → i ≤ n → st_T σ' 1 (ps_ r i.toNat) → fr_ (fun k => 11 ≤ k ∧ k ≤ 14) σ σ' → K 7 [(0, bc_R 11), (1, bc_I n), (2, bc_I (r 6)), (3, bc_I i)] [] σ' 0 := by
    refine up_ind n (fun i hi σ' h0 h1 h2 h3 => ?_) (fun i hi ih σ' h0 h1 h2 h3 => ?_)
    · obtain ⟨⟨x0, x1, x2, x3, x4, x5, x6, x7, x8, x9⟩, x⟩ := st_T1 h2
      refine hK.1 [7] 60 _ _ _ _ _ ?_
      refine bc_ob_i (by omega) ?_
      refine bc_br_i (fun c => by omega) (fun c => ?_)
      have e : i = n := by omega
      subst e
      exact rt_ (h σ' h2 h3) (by omega)
    · obtain ⟨⟨x0, x1, x2, x3, x4, x5, x6, x7, x8, x9⟩, x⟩ := st_T1 h2
      obtain ⟨l0, l1, l2, l3, l4, l5, l6, l7, l8, l9⟩ := st_T2 h2
      have hwi := (ps_wf hW i.toNat).1
      have ei : ((i.toNat : Nat) : Int) = i := Int.toNat_of_nonneg h0
      have e1 : (i + 1).toNat = i.toNat + 1 := by omega
      have ep : ps_ r (i + 1).toNat = vd_ (pi_ (ps_ r i.toNat)) := by rw [e1]; rfl
      refine hK.1 [7] 60 _ _ _ _ _ ?_
      refine bc_ob_i (by omega) ?_
      refine bc_br_i (fun c => ?_) (fun c => by omega)
      refine t_X8_settleDueVows (B := B + (i.toNat : Int) + 1) (r := pi_ (ps_ r i.toNat)) ?_ (pi_wd hwi) (by omega) (fun σ2 hS2 hF2 => ?_)
      · refine ⟨?_, fun k k0 k1 => ?_⟩
        · simp only [bc_wr, pi_, up_]
          simp
          exact ⟨by rw [l0], by rw [l1, l2], l2, by rw [l3, l2], l4, l5, l6, l7, l8, l9⟩
        · obtain ⟨q1, q2, q3⟩ := x k k0 k1
          refine ⟨?_, ?_, ?_⟩ <;> simp only [bc_wr, pi_, up_] <;> simp <;> (repeat' rw [if_neg (by omega)]) <;> assumption
      · refine ih σ2 (by omega) (by omega) (by rw [ep]; exact hS2) (fr_trans (fr_trans (fr_trans (fr_trans h3 (fr_wr (by omega))) (fr_wr (by omega))) (fr_wr (by omega))) hF2)
  refine hK.1 [7] 40 _ _ _ _ _ ?_
  have L0 := L 0 σ (by omega) (by omega) hS (fr_refl _)
  rw [← f6] at L0
  exact L0
end TRE4
end
section
/-! a text: its cell k, its signs in k + 1 -/
noncomputable def tx_ (σ : bc_M) (k : Nat) (l : List Int) : Prop := σ.1 k ((1 : Nat) : Int) = l.length ∧ l.length ≤ 60 ∧ (∀ j : Nat, j < l.length → σ.1 (k + 1) (j : Int) = l.getD j 0) ∧ ∀ c ∈ l, 0 ≤ c ∧ c ≤ 65535
theorem tx_fr {P : Nat → Prop} {σ σ' : bc_M} {k : Nat} {l : List Int} (h : tx_ σ k l) (hf : fr_ P σ σ') (hp : ¬ P k ∧ ¬ P (k + 1)) : tx_ σ' k l := by
  unfold tx_
  rw [hf.1 k hp.1, hf.1 (k + 1) hp.2]
  exact h
/-- a sign more -/
noncomputable def ta_ (l : List Int) (c : Int) : List Int := if l.length < 60 then l ++ [c] else l
noncomputable def tn_ (l : List Int) (n : Int) : List Int := ta_ (if 10 ≤ n then ta_ l (48 + n / 10 % 10) else l) (48 + n % 10)
/-- the sign at a place, 0 outside -/
noncomputable def tg_ (l : List Int) (i : Int) : Int := if 0 ≤ i ∧ i < l.length then l.getD i.toNat 0 else 0
theorem tg_le {l : List Int} (h : ∀ c ∈ l, 0 ≤ c ∧ c ≤ 65535) (i : Int) : 0 ≤ tg_ l i ∧ tg_ l i ≤ 65535 := by
  unfold tg_
  split
  · rename_i hi
    have hlt : i.toNat < l.length := by omega
    rw [List.getD_eq_getElem?_getD, List.getElem?_eq_getElem hlt]
    exact h _ (List.getElem_mem hlt)
  · omega
noncomputable def tk_ (k : Nat) : Prop := k = 196 ∨ k = 216
section TXT
variable {g : bc_C} {d : Nat} {σ : bc_M} {k : Nat} {l : List Int} {Rr : Option bc_A → bc_M → Prop} {X : Nat → bc_M → Prop}
theorem t_X7_clear (hk : tk_ k) (hS : tx_ σ k l) (h : ∀ σ' : bc_M, tx_ σ' k [] → fr_ (fun i => i = k) σ σ' → Rr none σ') : bc_Sem g (d + 1) mX7_clear [bc_R k] σ Rr X := by
  rcases hk with rfl | rfl
  all_goals
    refine e_X7_clear rfl (fun K hK => ?_)
    refine hK.1 [] 40 _ _ _ _ _ ?_
    refine h _ ⟨?_, by decide, fun j hj => absurd hj (Nat.not_lt_zero _), fun c hc => by cases hc⟩ (fr_wr rfl)
    simp [bc_wr]
theorem t_X7_has {i : Int} (hk : tk_ k) (hS : tx_ σ k l) (hi : bc_in i) (h : Rr (some (bc_I (if 0 ≤ i ∧ i < l.length then 1 else 0))) σ) : bc_Sem g (d + 1) mX7_has [bc_R k, bc_I i] σ Rr X := by
  obtain ⟨h1, h2, h3, h4⟩ := hS
  obtain ⟨i0, i1⟩ := hi
  rcases hk with rfl | rfl
  all_goals
    refine e_X7_has rfl (fun K hK => ?_)
    refine hK.1 [] 40 _ _ _ _ _ ?_
    repeat' first | refine bc_br_i (fun _ => ?_) (fun _ => ?_) | refine bc_ob_i (by omega) ?_
    all_goals first | (exfalso; omega) | exact rt_ h (by split <;> omega)
theorem t_X7_at {i : Int} (hk : tk_ k) (hS : tx_ σ k l) (hi : bc_in i) (h : Rr (some (bc_I (tg_ l i))) σ) : bc_Sem g (d + 2) mX7_at [bc_R k, bc_I i] σ Rr X := by
  obtain ⟨h1, h2, h3, h4⟩ := id hS
  have hg := tg_le h4 i
  rcases hk with rfl | rfl
  · refine e_X7_at rfl (fun K hK => ?_)
    refine hK.1 [] 40 _ _ _ _ _ ?_
    refine t_X7_has (Or.inl rfl) hS hi ?_
    refine bc_ob_i (by split <;> omega) ?_
    refine bc_br_i (fun c => ?_) (fun c => ?_)
    · have hn : ¬ (0 ≤ i ∧ i < l.length) := fun q => by rw [if_pos q] at c; omega
      refine bc_ob_i (by omega) ?_
      exact rt_ h (by unfold tg_; rw [if_neg hn])
    · have hn : 0 ≤ i ∧ i < l.length := by
        by_cases q : 0 ≤ i ∧ i < l.length
        · exact q
        · rw [if_neg q] at c; omega
      have e := h3 i.toNat (by omega)
      rw [Int.toNat_of_nonneg hn.1] at e
      have e2 : σ.1 197 i = tg_ l i := by unfold tg_; rw [if_pos hn]; exact e
      refine bc_ob_i (by omega) ?_
      refine bc_ob_i (by omega) ?_
      exact rt_ h e2
  · refine e_X7_at rfl (fun K hK => ?_)
    refine hK.1 [] 40 _ _ _ _ _ ?_
    refine t_X7_has (Or.inr rfl) hS hi ?_
    refine bc_ob_i (by split <;> omega) ?_
    refine bc_br_i (fun c => ?_) (fun c => ?_)
    · have hn : ¬ (0 ≤ i ∧ i < l.length) := fun q => by rw [if_pos q] at c; omega
      refine bc_ob_i (by omega) ?_
      exact rt_ h (by unfold tg_; rw [if_neg hn])
    · have hn : 0 ≤ i ∧ i < l.length := by
        by_cases q : 0 ≤ i ∧ i < l.length
        · exact q
        · rw [if_neg q] at c; omega
      have e := h3 i.toNat (by omega)
      rw [Int.toNat_of_nonneg hn.1] at e
      have e2 : σ.1 217 i = tg_ l i := by unfold tg_; rw [if_pos hn]; exact e
      refine bc_ob_i (by omega) ?_
      refine bc_ob_i (by omega) ?_
      exact rt_ h e2
theorem tx_add {c v : Int} (hS : tx_ σ k l) (hl : l.length < 60) (hc : 0 ≤ c ∧ c ≤ 65535) (hv : v = (l.length : Int) + 1) : tx_ (bc_wr (bc_wr σ (k + 1) (l.length : Int) c) k ((1 : Nat) : Int) v) k (ta_ l c) := by
  obtain ⟨h1, h2, h3, h4⟩ := hS
  unfold ta_
  rw [if_pos hl]
  refine ⟨?_, by simp; omega, fun j hj => ?_, fun x hx => ?_⟩
  · simp [bc_wr, hv]
  · have hne : k + 1 ≠ k := by omega
    simp only [bc_wr, if_neg hne, if_true]
    by_cases hjl : j = l.length
    · subst hjl
      simp
    · have hlt : j < l.length := by simp at hj; omega
      have e := h3 j hlt
      rw [if_neg (by omega), e]
      simp [List.getD_eq_getElem?_getD, List.getElem?_append_left hlt]
  · rcases List.mem_append.mp hx with hx | hx
    · exact h4 x hx
    · have : x = c := by simpa using hx
      rw [this]; exact hc
theorem t_X7_append {c : Int} (hk : tk_ k) (hS : tx_ σ k l) (hc : 0 ≤ c ∧ c ≤ 65535) (h : ∀ σ' : bc_M, tx_ σ' k (ta_ l c) → fr_ (fun i => i = k ∨ i = k + 1) σ σ' → Rr none σ') : bc_Sem g (d + 1) mX7_append [bc_R k, bc_I c] σ Rr X := by
  obtain ⟨h1, h2, h3, h4⟩ := id hS
  have hn : ¬ l.length < 60 → tx_ σ k (ta_ l c) := fun q => by unfold ta_; rw [if_neg q]; exact hS
  rcases hk with rfl | rfl
  all_goals
    refine e_X7_append rfl (fun K hK => ?_)
    refine hK.1 [] 40 _ _ _ _ _ ?_
    refine bc_ob_i (by omega) ?_
    refine bc_br_i (fun q => ?_) (fun q => ?_)
    · refine bc_ob_i (by omega) ?_
      refine bc_ob_i hc ?_
      refine h _ ?_ (fr_trans (fr_wr (Or.inr rfl)) (fr_wr (Or.inl rfl)))
      have hm := tx_add (v := σ.1 _ ((1 : Nat) : Int) + 1) hS (by omega) hc (by rw [h1])
      rw [← h1] at hm
      exact hm
    · exact h _ (hn (by omega)) (fr_refl _)
theorem t_X7_appendNumber {n : Int} (hk : tk_ k) (hS : tx_ σ k l) (hn : 0 ≤ n ∧ n ≤ 99) (h : ∀ σ' : bc_M, tx_ σ' k (tn_ l n) → fr_ (fun i => i = k ∨ i = k + 1) σ σ' → Rr none σ') : bc_Sem g (d + 2) mX7_appendNumber [bc_R k, bc_I n] σ Rr X := by
  unfold tn_ at h
  have hkk := hk
  rcases hk with rfl | rfl
  all_goals
    refine e_X7_appendNumber rfl (fun K hK => ?_)
    refine hK.1 [] 60 _ _ _ _ _ ?_
    refine bc_ob_i (by omega) ?_
    refine bc_br_i (fun q => ?_) (fun q => ?_)
    · rw [if_neg (by omega)] at h
      refine bc_ob_i (by omega) ?_
      refine t_X7_append hkk hS (by omega) (fun σ' hS' hF => ?_)
      rw [show (48 + n % 10) % 65536 = 48 + n % 10 by omega] at hS'
      exact h σ' hS' hF
    · rw [if_pos (by omega)] at h
      refine bc_ob_i (by omega) ?_
      refine bc_ob_i (by omega) ?_
      refine t_X7_append hkk hS (by omega) (fun σ1 hS1 hF1 => ?_)
      rw [show (48 + n / 10 % 10) % 65536 = 48 + n / 10 % 10 by omega] at hS1
      refine bc_ob_i (by omega) ?_
      refine t_X7_append hkk hS1 (by omega) (fun σ' hS' hF => ?_)
      rw [show (48 + n % 10) % 65536 = 48 + n % 10 by omega] at hS'
      exact h σ' hS' (fr_trans hF1 hF)
end TXT
end
