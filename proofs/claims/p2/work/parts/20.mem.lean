/-! STATES: a row of 136 numbers (as the reference has it) says what a state is -/
abbrev rw_t : Type := Int → Int
abbrev fi_ (j : Nat) : Int := (j : Int)
def st_M (σ : bc_M) (b : Nat) (r : rw_t) : Prop := σ.1 (b + 1) ((0 : Nat) : Int) = r 3 ∧ ∀ k : Int, 0 ≤ k → k < 16 → σ.1 (b + 2) k = r (16 + 6 * k) ∧ σ.1 (b + 3) k = r (17 + 6 * k) ∧ σ.1 (b + 4) k = r (18 + 6 * k) ∧ σ.1 (b + 5) k = r (19 + 6 * k) ∧ σ.1 (b + 6) k = r (20 + 6 * k) ∧ σ.1 (b + 7) k = r (21 + 6 * k)
theorem st_M1 {σ : bc_M} {r : rw_t} (h : st_M σ 1 r) : σ.1 2 ((0 : Nat) : Int) = r 3 ∧ ∀ k : Int, 0 ≤ k → k < 16 → σ.1 3 k = r (16 + 6 * k) ∧ σ.1 4 k = r (17 + 6 * k) ∧ σ.1 5 k = r (18 + 6 * k) ∧ σ.1 6 k = r (19 + 6 * k) ∧ σ.1 7 k = r (20 + 6 * k) ∧ σ.1 8 k = r (21 + 6 * k) := h
def wf_M (r : rw_t) : Prop := (0 ≤ r 3 ∧ r 3 ≤ 16) ∧ ∀ k : Int, 0 ≤ k → k < 16 → (0 ≤ r (16 + 6 * k) ∧ r (16 + 6 * k) ≤ 7) ∧ (0 ≤ r (17 + 6 * k) ∧ r (17 + 6 * k) ≤ 7) ∧ (0 ≤ r (18 + 6 * k) ∧ r (18 + 6 * k) ≤ 99) ∧ (0 ≤ r (19 + 6 * k) ∧ r (19 + 6 * k) ≤ 9) ∧ (0 ≤ r (20 + 6 * k) ∧ r (20 + 6 * k) ≤ 99) ∧ (0 ≤ r (21 + 6 * k) ∧ r (21 + 6 * k) ≤ 1)
def br_ (r : rw_t) (k : Int) : Int := if r (21 + 6 * k) = 0 then r (18 + 6 * k) * (10 - r (19 + 6 * k)) / 10 else 0
def co_ (r : rw_t) (k : Int) : Int := (r (18 + 6 * k) + 9) / 10 * r (19 + 6 * k)
theorem mul_le {a b A B : Int} (h0 : 0 ≤ a) (h1 : a ≤ A) (h2 : 0 ≤ b) (h3 : b ≤ B) : 0 ≤ a * b ∧ a * b ≤ A * B :=
  ⟨Int.mul_nonneg h0 h2, Int.le_trans (Int.mul_le_mul_of_nonneg_right h1 h2) (Int.mul_le_mul_of_nonneg_left h3 (Int.le_trans h0 h1))⟩
theorem br_le {r : rw_t} (h : wf_M r) {k : Int} (h0 : 0 ≤ k) (h1 : k < 16) : 0 ≤ br_ r k ∧ br_ r k ≤ 99 := by
  obtain ⟨-, -, h2, h3, -, -⟩ := h.2 k h0 h1
  have := mul_le h2.1 h2.2 (b := 10 - r (19 + 6 * k)) (B := 10) (by omega) (by omega)
  unfold br_
  split <;> omega
theorem co_le {r : rw_t} (h : wf_M r) {k : Int} (h0 : 0 ≤ k) (h1 : k < 16) : 0 ≤ co_ r k ∧ co_ r k ≤ 90 := by
  obtain ⟨-, -, h2, h3, -, -⟩ := h.2 k h0 h1
  have := mul_le (a := (r (18 + 6 * k) + 9) / 10) (A := 10) (by omega) (by omega) h3.1 h3.2
  unfold co_
  omega
theorem up_ind {P : Int → Prop} (n : Int) (base : ∀ i, n ≤ i → P i) (step : ∀ i, i < n → P (i + 1) → P i) (i : Int) : P i := by
  have key : ∀ (k : Nat) (i : Int), n - i ≤ k → P i := by
    intro k
    induction k with
    | zero => intro i h; exact base i (by omega)
    | succ k ih =>
      intro i h
      by_cases hi : i < n
      · exact step i hi (ih (i + 1) (by omega))
      · exact base i (by omega)
  exact key (n - i).toNat i (by omega)
/-- the answer is had in another writing -/
theorem rt_ {Rr : Option bc_A → bc_M → Prop} {x y : Int} {σ : bc_M} (h : Rr (some (bc_I x)) σ) (e : y = x) : Rr (some (bc_I y)) σ := by rw [e]; exact h
section MEM
variable {g : bc_C} {d : Nat} {σ : bc_M} {r : rw_t} {Rr : Option bc_A → bc_M → Prop} {X : Nat → bc_M → Prop}
theorem t_X2_has {m : Int} (hS : st_M σ 1 r) (hW : wf_M r) (hm : bc_in m) (h : Rr (some (bc_I (if 0 ≤ m ∧ m < r 3 then 1 else 0))) σ) : bc_Sem g (d + 1) mX2_has [bc_R 2, bc_I m] σ Rr X := by
  obtain ⟨c1, c2⟩ := st_M1 hS
  have w1 := hW.1
  refine e_X2_has rfl (fun K hK => ?_)
  refine hK.1 [] 40 _ _ _ _ _ ?_
  refine bc_ob_i hm ?_
  refine bc_br_i (fun c => ?_) (fun c => ?_)
  · refine bc_ob_i (by decide) ?_
    exact rt_ h (by rw [if_neg (by omega)])
  · refine bc_ob_i ⟨hm, by rw [c1]; constructor <;> omega⟩ ?_
    refine bc_br_i (fun c => ?_) (fun c => ?_)
    · refine bc_ob_i (by decide) ?_
      exact rt_ h (by rw [if_pos (by omega)])
    · refine bc_ob_i (by decide) ?_
      exact rt_ h (by rw [if_neg (by omega)])
theorem t_X2_bearingOf {m : Int} (hS : st_M σ 1 r) (hW : wf_M r) (h0 : 0 ≤ m) (h1 : m < 16) (h : Rr (some (bc_I (br_ r m))) σ) : bc_Sem g (d + 1) mX2_bearingOf [bc_R 2, bc_I m] σ Rr X := by
  obtain ⟨c1, c2⟩ := st_M1 hS
  obtain ⟨e1, e2, e3, e4, e5, e6⟩ := c2 m h0 h1
  obtain ⟨-, -, g2, g3, -, g5⟩ := hW.2 m h0 h1
  have hp := mul_le g2.1 g2.2 (b := 10 - r (19 + 6 * m)) (B := 10) (by omega) (by omega)
  refine e_X2_bearingOf rfl (fun K hK => ?_)
  refine hK.1 [] 40 _ _ _ _ _ ?_
  refine bc_ob_i ⟨h0, h1⟩ ?_
  refine bc_ob_i (by rw [e6]; constructor <;> omega) ?_
  refine bc_br_i (fun c => ?_) (fun c => ?_)
  · refine bc_ob_i ⟨h0, h1⟩ ?_
    refine bc_ob_i ⟨h0, h1⟩ ?_
    refine bc_ob_i ⟨by rw [e3, e4]; exact ⟨hp.1, by omega⟩, by decide, by decide⟩ ?_
    exact rt_ h (by unfold br_; rw [if_pos (by omega), e3, e4])
  · exact rt_ h (by unfold br_; rw [if_neg (by omega)])
theorem t_X2_costOf {m : Int} (hS : st_M σ 1 r) (hW : wf_M r) (h0 : 0 ≤ m) (h1 : m < 16) (h : Rr (some (bc_I (co_ r m))) σ) : bc_Sem g (d + 1) mX2_costOf [bc_R 2, bc_I m] σ Rr X := by
  obtain ⟨c1, c2⟩ := st_M1 hS
  obtain ⟨e1, e2, e3, e4, e5, e6⟩ := c2 m h0 h1
  obtain ⟨-, -, g2, g3, -, g5⟩ := hW.2 m h0 h1
  refine e_X2_costOf rfl (fun K hK => ?_)
  refine hK.1 [] 40 _ _ _ _ _ ?_
  refine bc_ob_i ⟨h0, h1⟩ ?_
  refine bc_ob_i ⟨⟨by omega, by omega⟩, by decide, by decide⟩ ?_
  refine bc_ob_i ⟨h0, h1⟩ ?_
  exact rt_ h (by unfold co_; rw [e3, e4])
end MEM
def jn_ (r : rw_t) (k a b : Int) : Prop := (r (16 + 6 * k) = a ∧ r (17 + 6 * k) = b) ∨ (r (16 + 6 * k) = b ∧ r (17 + 6 * k) = a)
def bt_ (r : rw_t) (a b v : Int) : Prop := (v = -1 ∧ ∀ k : Int, 0 ≤ k → k < r 3 → ¬ jn_ r k a b) ∨ (0 ≤ v ∧ v < r 3 ∧ jn_ r v a b)
/-- all but the cells P, and the law's own numbers, are as before -/
def fr_ (P : Nat → Prop) (σ σ' : bc_M) : Prop := (∀ k : Nat, ¬ P k → σ'.1 k = σ.1 k) ∧ σ'.2 = σ.2
theorem fr_refl {P : Nat → Prop} (σ : bc_M) : fr_ P σ σ := ⟨fun _ _ => rfl, rfl⟩
theorem fr_trans {P : Nat → Prop} {a b c : bc_M} (h1 : fr_ P a b) (h2 : fr_ P b c) : fr_ P a c := ⟨fun k hk => (h2.1 k hk).trans (h1.1 k hk), h2.2.trans h1.2⟩
theorem fr_mono {P Q : Nat → Prop} {a b : bc_M} (h : fr_ P a b) (hq : ∀ k, P k → Q k) : fr_ Q a b := ⟨fun k hk => h.1 k (fun q => hk (hq k q)), h.2⟩
theorem fr_wr {P : Nat → Prop} {σ : bc_M} {k : Nat} {j v : Int} (h : P k) : fr_ P σ (bc_wr σ k j v) := ⟨fun i hi => bc_wr_ne (fun e => hi (by rw [e]; exact h)), rfl⟩
theorem fr_cy {P : Nat → Prop} {σ : bc_M} {k k' : Nat} {a b n : Int} (h : P k') : fr_ P σ (bc_cy σ k k' a b n) := ⟨fun i hi => by
  have hne : i ≠ k' := fun e => hi (by rw [e]; exact h)
  funext x
  simp [bc_cy, hne], rfl⟩
def sm_ (f : Int → Int) : Nat → Int
  | 0 => 0
  | n + 1 => sm_ f n + f n
theorem sm_s {f : Int → Int} {i : Int} (h : 0 ≤ i) : sm_ f (i + 1).toNat = sm_ f i.toNat + f i := by
  obtain ⟨n, rfl⟩ : ∃ n : Nat, i = n := ⟨i.toNat, by omega⟩
  rw [show ((n : Int) + 1).toNat = n + 1 by omega, show ((n : Int)).toNat = n by omega]
  rfl
theorem sm_le {f : Int → Int} {A B : Int} {i : Int} (h : 0 ≤ i) (hf : ∀ k : Int, 0 ≤ k → k < i → A ≤ f k ∧ f k ≤ B) : A * i ≤ sm_ f i.toNat ∧ sm_ f i.toNat ≤ B * i := by
  obtain ⟨n, rfl⟩ : ∃ n : Nat, i = n := ⟨i.toNat, by omega⟩
  rw [show ((n : Int)).toNat = n by omega]
  clear h
  induction n with
  | zero => simp [sm_]
  | succ n ih =>
    have h1 := ih (fun k h0 h1 => hf k h0 (by omega))
    have h2 := hf n (by omega) (by omega)
    have e1 : A * ((n + 1 : Nat) : Int) = A * (n : Int) + A := by rw [Int.natCast_add]; exact Int.mul_add A n 1 |>.trans (by rw [Int.mul_one])
    have e2 : B * ((n + 1 : Nat) : Int) = B * (n : Int) + B := by rw [Int.natCast_add]; exact Int.mul_add B n 1 |>.trans (by rw [Int.mul_one])
    rw [e1, e2]
    unfold sm_
    omega
def ra_ (r : rw_t) (a b s : Int) : rw_t := fun j => if j = 3 then r 3 + 1 else if j = 16 + 6 * r 3 then min a b else if j = 17 + 6 * r 3 then max a b else if j = 18 + 6 * r 3 then s else if j = 19 + 6 * r 3 then 0 else if j = 20 + 6 * r 3 then 0 else if j = 21 + 6 * r 3 then 0 else r j
def rd_ (r : rw_t) (m f : Int) : rw_t := fun j => if j = 19 + 6 * m then min 9 (r (19 + 6 * m) + (r (20 + 6 * m) + f) / 100) else if j = 20 + 6 * m then (r (20 + 6 * m) + f) % 100 else r j
def rn_ (r : rw_t) (m : Int) : rw_t := fun j => if j = 19 + 6 * m then 0 else if j = 20 + 6 * m then 0 else r j
def rl_ (r : rw_t) (m b : Int) : rw_t := fun j => if j = 21 + 6 * m then b else r j
def bb_ (r : rw_t) (a b : Int) : Int := if br_ r a ≠ br_ r b then (if br_ r a < br_ r b then 1 else 0) else if r (19 + 6 * a) ≠ r (19 + 6 * b) then (if r (19 + 6 * b) < r (19 + 6 * a) then 1 else 0) else if a < b then 1 else 0
theorem bb_01 (r : rw_t) (a b : Int) : 0 ≤ bb_ r a b ∧ bb_ r a b ≤ 1 := by unfold bb_; (repeat' split) <;> omega
/-- how many members come before one -/
def rk_ (r : rw_t) (m : Int) : Int := sm_ (fun k => bb_ r k m) (r 3).toNat
section MEM2
variable {g : bc_C} {d : Nat} {σ : bc_M} {r : rw_t} {Rr : Option bc_A → bc_M → Prop} {X : Nat → bc_M → Prop}
theorem t_X2_between {a b : Int} (hS : st_M σ 1 r) (hW : wf_M r) (ha : bc_in a) (hb : bc_in b) (h : ∀ v : Int, bt_ r a b v → Rr (some (bc_I v)) σ) : bc_Sem g (d + 1) mX2_between [bc_R 2, bc_I a, bc_I b] σ Rr X := by
  obtain ⟨ha0, ha1⟩ := ha
  obtain ⟨hb0, hb1⟩ := hb
  obtain ⟨c1, c2⟩ := st_M1 hS
  have w1 := hW.1
  refine e_X2_between rfl (fun K hK => ?_)
  have L : ∀ i : Int, 0 ≤ i → i ≤ 16 → (∀ k : Int, 0 ≤ k → k < i → ¬ jn_ r k a b) → K 2 [(0, bc_R 2), (1, bc_I a), (2, bc_I b), (3, bc_I i)] [] σ 0 := by
    refine up_ind (r 3) (fun i hi h0 h1 h2 => ?_) (fun i hi ih h0 h1 h2 => ?_)
    · refine hK.1 [2] 60 _ _ _ _ _ ?_
      refine bc_ob_i (by omega) ?_
      refine bc_br_i (fun c => by omega) (fun c => ?_)
      exact h (-1) (Or.inl ⟨rfl, fun k k0 k1 => h2 k k0 (by omega)⟩)
    · obtain ⟨e1, e2, e3, e4, e5, e6⟩ := c2 i h0 (by omega)
      obtain ⟨g0, g1, g2, g3, -, g5⟩ := hW.2 i h0 (by omega)
      have nxt : ¬ jn_ r i a b → K 2 [(0, bc_R 2), (1, bc_I a), (2, bc_I b), (3, bc_I (i + 1))] [] σ 0 := fun hn => ih (by omega) (by omega) (fun k k0 k1 => by
        by_cases hk : k = i
        · rw [hk]; exact hn
        · exact h2 k k0 (by omega))
      have hit : jn_ r i a b → Rr (some (bc_I i)) σ := fun hj => h i (Or.inr ⟨h0, by omega, hj⟩)
      unfold jn_ at nxt hit
      refine hK.1 [2] 60 _ _ _ _ _ ?_
      repeat' first | refine bc_br_i (fun _ => ?_) (fun _ => ?_) | refine bc_ob_i (by omega) ?_
      all_goals first | (exfalso; omega) | exact nxt (by omega) | exact hit (by omega)
  refine hK.1 [2] 40 _ _ _ _ _ ?_
  exact L 0 (by omega) (by omega) (fun k k0 k1 => by omega)
theorem t_X2_append {a b s : Int} (hS : st_M σ 1 r) (hW : wf_M r) (hc : r 3 < 16) (ha : bc_in a) (hb : bc_in b) (h : ∀ σ' : bc_M, st_M σ' 1 (ra_ r a b s) → fr_ (fun k => 2 ≤ k ∧ k ≤ 8) σ σ' → Rr (some (bc_I (r 3))) σ') : bc_Sem g (d + 1) mX2_append [bc_R 2, bc_I a, bc_I b, bc_I s] σ Rr X := by
  obtain ⟨c1, c2⟩ := st_M1 hS
  have w1 := hW.1
  refine e_X2_append rfl (fun K hK => ?_)
  refine hK.1 [] 80 _ _ _ _ _ ?_
  refine bc_ob_i (by omega) ?_
  refine bc_br_i (fun c => ?_) (fun c => by omega)
  refine bc_ob_i ⟨ha, hb, Nat.le_of_ble_eq_true rfl⟩ ?_
  refine bc_ob_i (by omega) ?_
  refine bc_ob_i ⟨ha, hb, Nat.le_of_ble_eq_true rfl⟩ ?_
  refine bc_ob_i (by omega) ?_
  refine bc_ob_i (by omega) ?_
  refine bc_ob_i (by omega) ?_
  refine bc_ob_i (by omega) ?_
  refine bc_ob_i (by omega) ?_
  refine bc_ob_i (by decide) ?_
  refine rt_ (h _ ?_ ?_) c1
  · refine ⟨?_, fun k k0 k1 => ?_⟩
    · simp only [bc_wr, ra_, c1]
      simp
    · obtain ⟨e1, e2, e3, e4, e5, e6⟩ := c2 k k0 k1
      refine ⟨?_, ?_, ?_, ?_, ?_, ?_⟩ <;> simp only [bc_wr, ra_, c1] <;> simp <;> (repeat' split) <;> omega
  · repeat (first | exact fr_refl _ | refine fr_trans ?_ (fr_wr (by omega)))
theorem t_X2_wearDown {m f : Int} (hS : st_M σ 1 r) (hW : wf_M r) (h0 : 0 ≤ m) (h1 : m < 16) (hf : 0 ≤ f ∧ f ≤ 10000) (h : ∀ σ' : bc_M, st_M σ' 1 (rd_ r m f) → fr_ (fun k => 2 ≤ k ∧ k ≤ 8) σ σ' → Rr none σ') : bc_Sem g (d + 1) mX2_wearDown [bc_R 2, bc_I m, bc_I f] σ Rr X := by
  obtain ⟨c1, c2⟩ := st_M1 hS
  obtain ⟨e1, e2, e3, e4, e5, e6⟩ := c2 m h0 h1
  obtain ⟨g0, g1, g2, g3, g4, g5⟩ := hW.2 m h0 h1
  refine e_X2_wearDown rfl (fun K hK => ?_)
  refine hK.1 [] 80 _ _ _ _ _ ?_
  refine bc_ob_i ⟨h0, h1⟩ ?_
  refine bc_ob_i ⟨h0, h1⟩ ?_
  refine bc_ob_i (by omega) ?_
  refine bc_ob_i ⟨by omega, by omega, Nat.le_of_ble_eq_true rfl⟩ ?_
  refine bc_ob_i ⟨h0, h1⟩ ?_
  refine bc_ob_i (by omega) ?_
  refine bc_ob_i ⟨h0, h1⟩ ?_
  refine h _ ?_ ?_
  · refine ⟨?_, fun k k0 k1 => ?_⟩
    · simp only [bc_wr, rd_]
      simp
      rw [if_neg (by omega), if_neg (by omega)]
      exact c1
    · obtain ⟨q1, q2, q3, q4, q5, q6⟩ := c2 k k0 k1
      refine ⟨?_, ?_, ?_, ?_, ?_, ?_⟩ <;> simp only [bc_wr, rd_, e4, e5] <;> simp <;> (repeat' split) <;> omega
  · repeat (first | exact fr_refl _ | refine fr_trans ?_ (fr_wr (by omega)))
theorem t_X2_renew {m : Int} (hS : st_M σ 1 r) (hW : wf_M r) (h0 : 0 ≤ m) (h1 : m < 16) (h : ∀ σ' : bc_M, st_M σ' 1 (rn_ r m) → fr_ (fun k => 2 ≤ k ∧ k ≤ 8) σ σ' → Rr none σ') : bc_Sem g (d + 1) mX2_renew [bc_R 2, bc_I m] σ Rr X := by
  obtain ⟨c1, c2⟩ := st_M1 hS
  refine e_X2_renew rfl (fun K hK => ?_)
  refine hK.1 [] 80 _ _ _ _ _ ?_
  refine bc_ob_i ⟨h0, h1⟩ ?_
  refine bc_ob_i ⟨h0, h1⟩ ?_
  refine h _ ?_ ?_
  · refine ⟨?_, fun k k0 k1 => ?_⟩
    · simp only [bc_wr, rn_]
      simp
      rw [if_neg (by omega), if_neg (by omega)]
      exact c1
    · obtain ⟨q1, q2, q3, q4, q5, q6⟩ := c2 k k0 k1
      refine ⟨?_, ?_, ?_, ?_, ?_, ?_⟩ <;> simp only [bc_wr, rn_] <;> simp <;> (repeat' split) <;> omega
  · repeat (first | exact fr_refl _ | refine fr_trans ?_ (fr_wr (by omega)))
theorem t_X2_leave {m b : Int} (hS : st_M σ 1 r) (hW : wf_M r) (h0 : 0 ≤ m) (h1 : m < 16) (hb : 0 ≤ b ∧ b ≤ 1) (h : ∀ σ' : bc_M, st_M σ' 1 (rl_ r m b) → fr_ (fun k => 2 ≤ k ∧ k ≤ 8) σ σ' → Rr (some (bc_I (sm_ (fun k => rl_ r m b (21 + 6 * k)) (r 3).toNat))) σ') : bc_Sem g (d + 1) mX2_leave [bc_R 2, bc_I m, bc_I b] σ Rr X := by
  obtain ⟨c1, c2⟩ := st_M1 hS
  have w1 := hW.1
  have hS' : st_M (bc_wr σ 8 m b) 1 (rl_ r m b) := by
    refine ⟨?_, fun k k0 k1 => ?_⟩
    · simp only [bc_wr, rl_]
      simp
      rw [if_neg (by omega)]
      exact c1
    · obtain ⟨q1, q2, q3, q4, q5, q6⟩ := c2 k k0 k1
      refine ⟨?_, ?_, ?_, ?_, ?_, ?_⟩ <;> simp only [bc_wr, rl_] <;> simp <;> (repeat' split) <;> omega
  obtain ⟨d1, d2⟩ := st_M1 hS'
  have d1 : (bc_wr σ 8 m b).1 2 ((0 : Nat) : Int) = r 3 := by rw [d1]; unfold rl_; rw [if_neg (by omega)]
  have hR := h _ hS' (fr_wr (by omega))
  have hq : ∀ k : Int, 0 ≤ k → k < 16 → 0 ≤ rl_ r m b (21 + 6 * k) ∧ rl_ r m b (21 + 6 * k) ≤ 1 := fun k k0 k1 => by
    have := (hW.2 k k0 k1).2.2.2.2.2
    unfold rl_
    split <;> omega
  refine e_X2_leave rfl (fun K hK => ?_)
  have L : ∀ i : Int, ∀ s : Int, 0 ≤ i → i ≤ r 3 → s = sm_ (fun k => rl_ r m b (21 + 6 * k)) i.toNat → K 12 [(0, bc_R 2), (1, bc_I m), (2, bc_I b), (3, bc_I s), (4, bc_I i)] [] (bc_wr σ 8 m b) 0 := by
    refine up_ind (r 3) (fun i hi s h0 h1 h2 => ?_) (fun i hi ih s h0 h1 h2 => ?_)
    · refine hK.1 [12] 60 _ _ _ _ _ ?_
      refine bc_ob_i (by omega) ?_
      refine bc_br_i (fun c => by omega) (fun c => ?_)
      have e : i = r 3 := by omega
      rw [h2, e]
      exact hR
    · obtain ⟨e1, e2, e3, e4, e5, e6⟩ := d2 i h0 (by omega)
      have hqi := hq i h0 (by omega)
      have es := sm_s (f := fun k => rl_ r m b (21 + 6 * k)) h0
      have nxt : ∀ s', s' = s + rl_ r m b (21 + 6 * i) → K 12 [(0, bc_R 2), (1, bc_I m), (2, bc_I b), (3, bc_I s'), (4, bc_I (i + 1))] [] (bc_wr σ 8 m b) 0 := fun s' e => ih s' (by omega) (by omega) (by rw [es, e, h2])
      refine hK.1 [12] 60 _ _ _ _ _ ?_
      repeat' first | refine bc_br_i (fun _ => ?_) (fun _ => ?_) | refine bc_ob_i (by omega) ?_
      all_goals first | (exfalso; omega) | exact nxt _ (by omega)
  refine hK.1 [12] 40 _ _ _ _ _ ?_
  refine bc_ob_i ⟨h0, h1⟩ ?_
  refine bc_ob_i hb ?_
  exact L 0 0 (by omega) (by omega) rfl
theorem t_X2_crackedCount (hS : st_M σ 1 r) (hW : wf_M r) (h : Rr (some (bc_I (sm_ (fun k => if 0 < r (19 + 6 * k) then 1 else 0) (r 3).toNat))) σ) : bc_Sem g (d + 1) mX2_crackedCount [bc_R 2] σ Rr X := by
  obtain ⟨c1, c2⟩ := st_M1 hS
  have w1 := hW.1
  refine e_X2_crackedCount rfl (fun K hK => ?_)
  have L : ∀ i : Int, ∀ s : Int, 0 ≤ i → i ≤ r 3 → s = sm_ (fun k => if 0 < r (19 + 6 * k) then 1 else 0) i.toNat → K 4 [(0, bc_R 2), (1, bc_I s), (2, bc_I i)] [] σ 0 := by
    refine up_ind (r 3) (fun i hi s h0 h1 h2 => ?_) (fun i hi ih s h0 h1 h2 => ?_)
    · refine hK.1 [4] 60 _ _ _ _ _ ?_
      refine bc_ob_i (by omega) ?_
      refine bc_br_i (fun c => by omega) (fun c => ?_)
      have e : i = r 3 := by omega
      rw [h2, e]
      exact h
    · obtain ⟨e1, e2, e3, e4, e5, e6⟩ := c2 i h0 (by omega)
      obtain ⟨g0, g1, g2, g3, g4, g5⟩ := hW.2 i h0 (by omega)
      have es := sm_s (f := fun k => if 0 < r (19 + 6 * k) then (1 : Int) else 0) h0
      have nxt : ∀ s', s' = s + (if 0 < r (19 + 6 * i) then (1 : Int) else 0) → K 4 [(0, bc_R 2), (1, bc_I s'), (2, bc_I (i + 1))] [] σ 0 := fun s' e => ih s' (by omega) (by omega) (by rw [es, e, h2])
      refine hK.1 [4] 60 _ _ _ _ _ ?_
      repeat' first | refine bc_br_i (fun _ => ?_) (fun _ => ?_) | refine bc_ob_i (by omega) ?_
      all_goals first | (exfalso; omega) | exact nxt _ (by split <;> omega)
  refine hK.1 [4] 40 _ _ _ _ _ ?_
  exact L 0 0 (by omega) (by omega) rfl
theorem t_X2_bearingSum (hS : st_M σ 1 r) (hW : wf_M r) (h : Rr (some (bc_I (sm_ (br_ r) (r 3).toNat))) σ) : bc_Sem g (d + 2) mX2_bearingSum [bc_R 2] σ Rr X := by
  obtain ⟨c1, c2⟩ := st_M1 hS
  have w1 := hW.1
  refine e_X2_bearingSum rfl (fun K hK => ?_)
  have L : ∀ i : Int, ∀ s : Int, 0 ≤ i → i ≤ r 3 → s = sm_ (br_ r) i.toNat → K 4 [(0, bc_R 2), (1, bc_I s), (2, bc_I i)] [] σ 0 := by
    refine up_ind (r 3) (fun i hi s h0 h1 h2 => ?_) (fun i hi ih s h0 h1 h2 => ?_)
    · refine hK.1 [4] 40 _ _ _ _ _ ?_
      refine bc_ob_i (by omega) ?_
      refine bc_br_i (fun c => by omega) (fun c => ?_)
      have e : i = r 3 := by omega
      rw [h2, e]
      exact h
    · refine hK.1 [4] 40 _ _ _ _ _ ?_
      refine bc_ob_i (by omega) ?_
      refine bc_br_i (fun c => ?_) (fun c => by omega)
      refine t_X2_bearingOf hS hW h0 (by omega) ?_
      exact ih (s + br_ r i) (by omega) (by omega) (by rw [sm_s h0, h2])
  refine hK.1 [4] 40 _ _ _ _ _ ?_
  exact L 0 0 (by omega) (by omega) rfl
theorem t_X2_comesBefore {a b : Int} (hS : st_M σ 1 r) (hW : wf_M r) (a0 : 0 ≤ a) (a1 : a < 16) (b0 : 0 ≤ b) (b1 : b < 16) (h : Rr (some (bc_I (bb_ r a b))) σ) : bc_Sem g (d + 2) mX2_comesBefore [bc_R 2, bc_I a, bc_I b] σ Rr X := by
  obtain ⟨c1, c2⟩ := st_M1 hS
  obtain ⟨e1, e2, e3, e4, e5, e6⟩ := c2 a a0 a1
  obtain ⟨f1, f2, f3, f4, f5, f6⟩ := c2 b b0 b1
  obtain ⟨g0, g1, g2, g3, g4, g5⟩ := hW.2 a a0 a1
  obtain ⟨k0, k1, k2, k3, k4, k5⟩ := hW.2 b b0 b1
  have l1 := br_le hW a0 a1
  have l2 := br_le hW b0 b1
  refine e_X2_comesBefore rfl (fun K hK => ?_)
  refine hK.1 [] 60 _ _ _ _ _ ?_
  refine t_X2_bearingOf hS hW a0 a1 ?_
  refine t_X2_bearingOf hS hW b0 b1 ?_
  repeat' first | refine bc_br_i (fun _ => ?_) (fun _ => ?_) | refine bc_ob_i (by omega) ?_
  all_goals first | (exfalso; omega) | exact rt_ h (by unfold bb_; (repeat' split) <;> omega)
theorem t_X2_rankOf {m : Int} (hS : st_M σ 1 r) (hW : wf_M r) (m0 : 0 ≤ m) (m1 : m < 16) (h : Rr (some (bc_I (rk_ r m))) σ) : bc_Sem g (d + 3) mX2_rankOf [bc_R 2, bc_I m] σ Rr X := by
  obtain ⟨c1, c2⟩ := st_M1 hS
  have w1 := hW.1
  refine e_X2_rankOf rfl (fun K hK => ?_)
  have L : ∀ i : Int, ∀ s : Int, 0 ≤ i → i ≤ r 3 → s = sm_ (fun k => bb_ r k m) i.toNat → K 4 [(0, bc_R 2), (1, bc_I m), (2, bc_I s), (3, bc_I i)] [] σ 0 := by
    refine up_ind (r 3) (fun i hi s h0 h1 h3 => ?_) (fun i hi ih s h0 h1 h3 => ?_)
    · refine hK.1 [4] 60 _ _ _ _ _ ?_
      refine bc_ob_i (by omega) ?_
      refine bc_br_i (fun c => by omega) (fun c => ?_)
      have e : i = r 3 := by omega
      rw [h3, e]
      exact h
    · have es := sm_s (f := fun k => bb_ r k m) h0
      have hb := bb_01 r i m
      refine hK.1 [4] 60 _ _ _ _ _ ?_
      refine bc_ob_i (by omega) ?_
      refine bc_br_i (fun c => ?_) (fun c => by omega)
      refine t_X2_comesBefore hS hW h0 (by omega) m0 m1 ?_
      refine bc_ob_i (by omega) ?_
      refine bc_br_i (fun c => ?_) (fun c => ?_)
      · exact ih s (by omega) (by omega) (by rw [es]; omega)
      · exact ih (s + 1) (by omega) (by omega) (by rw [es]; omega)
  refine hK.1 [4] 40 _ _ _ _ _ ?_
  exact L 0 0 (by omega) (by omega) rfl
theorem rk_le {r : rw_t} (hW : wf_M r) (m : Int) : 0 ≤ rk_ r m ∧ rk_ r m ≤ 16 := by
  have := sm_le (f := fun k => bb_ r k m) (A := 0) (B := 1) hW.1.1 (fun k _ _ => bb_01 r k m)
  have w := hW.1
  unfold rk_
  omega
theorem t_X2_atRank {q : Int} (hS : st_M σ 1 r) (hW : wf_M r) (hq : bc_in q) (h : ∀ v : Int, (0 ≤ v ∧ v < r 3 ∧ rk_ r v = q) ∨ (v = -1 ∧ ∀ k : Int, 0 ≤ k → k < r 3 → rk_ r k ≠ q) → Rr (some (bc_I v)) σ) : bc_Sem g (d + 4) mX2_atRank [bc_R 2, bc_I q] σ Rr X := by
  obtain ⟨q0, q1⟩ := hq
  obtain ⟨c1, c2⟩ := st_M1 hS
  have w1 := hW.1
  refine e_X2_atRank rfl (fun K hK => ?_)
  have L : ∀ i : Int, 0 ≤ i → i ≤ r 3 → (∀ k : Int, 0 ≤ k → k < i → rk_ r k ≠ q) → K 2 [(0, bc_R 2), (1, bc_I q), (2, bc_I i)] [] σ 0 := by
    refine up_ind (r 3) (fun i hi h0 h1 h2 => ?_) (fun i hi ih h0 h1 h2 => ?_)
    · refine hK.1 [2] 60 _ _ _ _ _ ?_
      refine bc_ob_i (by omega) ?_
      refine bc_br_i (fun c => by omega) (fun c => ?_)
      exact h (-1) (Or.inr ⟨rfl, fun k k0 k1 => h2 k k0 (by omega)⟩)
    · have hb := rk_le hW i
      refine hK.1 [2] 60 _ _ _ _ _ ?_
      refine bc_ob_i (by omega) ?_
      refine bc_br_i (fun c => ?_) (fun c => by omega)
      refine t_X2_rankOf hS hW h0 (by omega) ?_
      refine bc_ob_i (by omega) ?_
      refine bc_br_i (fun c => ?_) (fun c => ?_)
      · exact h i (Or.inl ⟨h0, by omega, c⟩)
      · exact ih (by omega) (by omega) (fun k k0 k1 => by
          by_cases hk : k = i
          · rw [hk]; exact c
          · exact h2 k k0 (by omega))
  refine hK.1 [2] 40 _ _ _ _ _ ?_
  exact L 0 (by omega) (by omega) (fun k k0 k1 => by omega)
theorem t_X2_someBears {l : Int} (hS : st_M σ 1 r) (hW : wf_M r) (hl : bc_in l) (h : ∀ v : Int, (v = 1 ∧ ∃ k : Int, 0 ≤ k ∧ k < r 3 ∧ br_ r k = l) ∨ (v = 0 ∧ ∀ k : Int, 0 ≤ k → k < r 3 → br_ r k ≠ l) → Rr (some (bc_I v)) σ) : bc_Sem g (d + 2) mX2_someBears [bc_R 2, bc_I l] σ Rr X := by
  obtain ⟨q0, q1⟩ := hl
  obtain ⟨c1, c2⟩ := st_M1 hS
  have w1 := hW.1
  refine e_X2_someBears rfl (fun K hK => ?_)
  have L : ∀ i : Int, 0 ≤ i → i ≤ r 3 → (∀ k : Int, 0 ≤ k → k < i → br_ r k ≠ l) → K 2 [(0, bc_R 2), (1, bc_I l), (2, bc_I i)] [] σ 0 := by
    refine up_ind (r 3) (fun i hi h0 h1 h2 => ?_) (fun i hi ih h0 h1 h2 => ?_)
    · refine hK.1 [2] 60 _ _ _ _ _ ?_
      refine bc_ob_i (by omega) ?_
      refine bc_br_i (fun c => by omega) (fun c => ?_)
      refine bc_ob_i (by omega) ?_
      exact h 0 (Or.inr ⟨rfl, fun k k0 k1 => h2 k k0 (by omega)⟩)
    · have hb := br_le hW h0 (by omega)
      refine hK.1 [2] 60 _ _ _ _ _ ?_
      refine bc_ob_i (by omega) ?_
      refine bc_br_i (fun c => ?_) (fun c => by omega)
      refine t_X2_bearingOf hS hW h0 (by omega) ?_
      refine bc_ob_i (by omega) ?_
      refine bc_br_i (fun c => ?_) (fun c => ?_)
      · refine bc_ob_i (by omega) ?_
        exact h 1 (Or.inl ⟨rfl, i, h0, by omega, c⟩)
      · exact ih (by omega) (by omega) (fun k k0 k1 => by
          by_cases hk : k = i
          · rw [hk]; exact c
          · exact h2 k k0 (by omega))
  refine hK.1 [2] 40 _ _ _ _ _ ?_
  exact L 0 (by omega) (by omega) (fun k k0 k1 => by omega)
end MEM2
