/-! folds, and the ways as the class finds them, mirrored -/
def fo_ {α : Type} (f : Int → α → α) (a : α) : Nat → α
  | 0 => a
  | n + 1 => f n (fo_ f a n)
theorem fo_s {α : Type} {f : Int → α → α} {a : α} {i : Int} (h : 0 ≤ i) : fo_ f a (i + 1).toNat = f i (fo_ f a i.toNat) := by
  have e : (i + 1).toNat = i.toNat + 1 := by omega
  rw [e]
  show f (i.toNat : Int) _ = _
  rw [Int.toNat_of_nonneg h]
theorem fo_inv {α : Type} {f : Int → α → α} {a : α} {n : Nat} {P : α → Prop} (h0 : P a) (hs : ∀ (i : Int) (x : α), 0 ≤ i → i < n → P x → P (f i x)) : ∀ k : Nat, k ≤ n → P (fo_ f a k) := by
  intro k
  induction k with
  | zero => intro _; exact h0
  | succ k ih => intro hk; exact hs k _ (by omega) (by omega) (ih (by omega))
theorem fo_fix {α : Type} {f : Int → α → α} {a : α} {k : Nat} (h : ∀ i : Int, k ≤ i → f i (fo_ f a k) = fo_ f a k) : ∀ n : Nat, k ≤ n → fo_ f a n = fo_ f a k := by
  intro n
  induction n with
  | zero => intro hk; have : k = 0 := by omega
            rw [this]
  | succ n ih =>
    intro hk
    by_cases e : k = n + 1
    · rw [e]
    · show f (n : Int) (fo_ f a n) = _
      rw [ih (by omega)]
      exact h n (by omega)
abbrev gr_t := Int → Int → Int
def sv_ (σ : bc_M) (c : Nat) (f : gr_t) : Prop := ∀ i j : Int, 0 ≤ i → i < 8 → 0 ≤ j → j < 8 → σ.1 c (((8 : Nat) : Int) * i + j) = f i j
def ar_ (σ : bc_M) (c : Nat) (f : Int → Int) : Prop := ∀ j : Int, 0 ≤ j → j < 8 → σ.1 c j = f j
def lm_ (f : Int → Int) (m : Int) : Prop := ∀ j : Int, 0 ≤ j → j < 8 → 0 ≤ f j ∧ f j ≤ m
def gl_ (f : gr_t) (m : Int) : Prop := ∀ i j : Int, 0 ≤ i → i < 8 → 0 ≤ j → j < 8 → 0 ≤ f i j ∧ f i j ≤ m
theorem sv_fr {P : Nat → Prop} {σ σ' : bc_M} {c : Nat} {f : gr_t} (h : sv_ σ c f) (hf : fr_ P σ σ') (hp : ¬ P c) : sv_ σ' c f := fun i j a b c' d => by rw [hf.1 c hp]; exact h i j a b c' d
theorem ar_fr {P : Nat → Prop} {σ σ' : bc_M} {c : Nat} {f : Int → Int} (h : ar_ σ c f) (hf : fr_ P σ σ') (hp : ¬ P c) : ar_ σ' c f := fun j a b => by rw [hf.1 c hp]; exact h j a b
theorem ar_wr {σ : bc_M} {c : Nat} {f : Int → Int} {i v : Int} (h : ar_ σ c f) : ar_ (bc_wr σ c i v) c (up_ f i v) := fun j a b => by
  have := h j a b
  simp only [bc_wr, up_, if_true]
  split
  · rfl
  · exact this
theorem lm_up {f : Int → Int} {m i v : Int} (h : lm_ f m) (hv : 0 ≤ v ∧ v ≤ m) : lm_ (up_ f i v) m := fun j a b => by
  have := h j a b
  unfold up_
  split <;> omega
def ug_ (f : gr_t) (i j v : Int) : gr_t := fun a b => if a = i ∧ b = j then v else f a b
theorem sv_wr {σ : bc_M} {c : Nat} {f : gr_t} {i j v : Int} (i0 : 0 ≤ i) (i1 : i < 8) (j0 : 0 ≤ j) (j1 : j < 8) (h : sv_ σ c f) : sv_ (bc_wr σ c (((8 : Nat) : Int) * i + j) v) c (ug_ f i j v) := fun a b a0 a1 b0 b1 => by
  have := h a b a0 a1 b0 b1
  simp only [bc_wr, ug_, if_true]
  by_cases e : a = i ∧ b = j
  · rw [if_pos e, if_pos (by rw [e.1, e.2])]
  · rw [if_neg e, if_neg (by omega)]
    exact this
/-- the bearings between joints, after k members -/
def sb_ (r : rw_t) (k : Nat) : gr_t := fo_ (fun k f => ug_ (ug_ f (r (16 + 6 * k)) (r (17 + 6 * k)) (br_ r k)) (r (17 + 6 * k)) (r (16 + 6 * k)) (br_ r k)) (fun _ _ => 0) k
def sa_ (r : rw_t) : gr_t := sb_ r (r 3).toNat
theorem sb_le {r : rw_t} (hW : wf_M r) (k : Nat) (hk : k ≤ 16) : gl_ (sb_ r k) 99 := by
  unfold sb_
  refine fo_inv (n := 16) (P := fun f => gl_ f 99) (fun i j _ _ _ _ => by simp) (fun i f i0 i1 h => fun a b a0 a1 b0 b1 => ?_) k hk
  have := h a b a0 a1 b0 b1
  have hb := br_le hW i0 (by omega)
  simp only [ug_]
  repeat' split
  all_goals omega
theorem sa_le {r : rw_t} (hW : wf_M r) : gl_ (sa_ r) 99 := sb_le hW _ (by have := hW.1; omega)
/-- the first locals of many -/
theorem ls_ (a b : bc_LV) : ∀ q ∈ a, q ∈ a ++ b := fun _ h => List.mem_append_left b h
section WAY
variable {g : bc_C} {d : Nat} {σ : bc_M} {r : rw_t} {Rr : Option bc_A → bc_M → Prop} {X : Nat → bc_M → Prop}
theorem t_X9_survey (hS : st_M σ 1 r) (hW : wf_M r) (h : ∀ σ' : bc_M, sv_ σ' 158 (sa_ r) → fr_ (fun k => k = 158) σ σ' → Rr none σ') : bc_Sem g (d + 2) mX9_survey [bc_R 157, bc_R 2] σ Rr X := by
  have w1 := hW.1
  refine e_X9_survey rfl (fun K hK => ?_)
  have L2 : ∀ i : Int, ∀ σ' : bc_M, 0 ≤ i → i ≤ r 3 → sv_ σ' 158 (sb_ r i.toNat) → fr_ (fun k => k = 158) σ σ' → K 39 [(0, bc_R 157), (1, bc_R 2), (2, bc_I i)] [] σ' 0 := by
    refine up_ind (r 3) (fun i hi σ' h0 h1 h2 h3 => ?_) (fun i hi ih σ' h0 h1 h2 h3 => ?_)
    · obtain ⟨c1, c2⟩ := st_M1 (st_M_fr hS h3 (by omega))
      refine hK.1 [39] 60 _ _ _ _ _ ?_
      refine bc_ob_i (by omega) ?_
      refine bc_br_i (fun c => by omega) (fun c => ?_)
      have e : i = r 3 := by omega
      rw [e] at h2
      exact h σ' h2 h3
    · have hM := st_M_fr hS h3 (by omega)
      obtain ⟨c1, c2⟩ := st_M1 hM
      obtain ⟨e1, e2, e3, e4, e5, e6⟩ := c2 i h0 (by omega)
      obtain ⟨g0, g1, g2, g3, g4, g5⟩ := hW.2 i h0 (by omega)
      refine hK.1 [39] 60 _ _ _ _ _ ?_
      refine bc_ob_i (by omega) ?_
      refine bc_br_i (fun c => ?_) (fun c => by omega)
      refine bc_ob_i (by omega) ?_
      refine bc_ob_i (by omega) ?_
      refine bc_ob_i (by omega) ?_
      refine t_X2_bearingOf hM hW h0 (by omega) ?_
      refine bc_ob_i (by omega) ?_
      refine bc_ob_i (by omega) ?_
      refine bc_ob_i (by omega) ?_
      refine bc_ob_i (by omega) ?_
      refine bc_ob_i (by omega) ?_
      refine hK.2 _ _ [(0, bc_R 157), (1, bc_R 2), (2, bc_I (i + 1))] _ _ _ (ls_ _ _) ?_
      refine ih _ (by omega) (by omega) ?_ (fr_trans h3 (fr_trans (fr_wr rfl) (fr_wr rfl)))
      rw [sb_, fo_s h0]
      rw [e1, e2]
      have q1 := sv_wr (v := br_ r i) g0.1 (by omega) g1.1 (by omega) h2
      have q2 := sv_wr (v := br_ r i) g1.1 (by omega) g0.1 (by omega) q1
      have q3 := q1 _ _ g0.1 (by omega) g1.1 (by omega)
      rw [q3]
      have e : ug_ (sb_ r i.toNat) (r (16 + 6 * i)) (r (17 + 6 * i)) (br_ r i) (r (16 + 6 * i)) (r (17 + 6 * i)) = br_ r i := by simp [ug_]
      rw [e]
      exact q2
  have L1 : ∀ i : Int, ∀ σ' : bc_M, 0 ≤ i → i ≤ 8 → (∀ a b : Int, 0 ≤ a → a < i → 0 ≤ b → b < 8 → σ'.1 158 (((8 : Nat) : Int) * a + b) = 0) → fr_ (fun k => k = 158) σ σ' → K 2 [(0, bc_R 157), (1, bc_R 2), (2, bc_I i)] [] σ' 0 := by
    refine up_ind 8 (fun i hi σ' h0 h1 h2 h3 => ?_) (fun i hi ih σ' h0 h1 h2 h3 => ?_)
    · refine hK.1 [2, 39] 60 _ _ _ _ _ ?_
      refine bc_ob_i (by omega) ?_
      refine bc_br_i (fun c => by omega) (fun c => ?_)
      exact L2 0 _ (by omega) (by omega) (fun a b a0 a1 b0 b1 => h2 a b a0 (by omega) b0 b1) h3
    · have L0 : ∀ j : Int, ∀ σ' : bc_M, 0 ≤ j → j ≤ 8 → (∀ a b : Int, 0 ≤ a → a < i → 0 ≤ b → b < 8 → σ'.1 158 (((8 : Nat) : Int) * a + b) = 0) → (∀ b : Int, 0 ≤ b → b < j → σ'.1 158 (((8 : Nat) : Int) * i + b) = 0) → fr_ (fun k => k = 158) σ σ' → K 10 [(0, bc_R 157), (1, bc_R 2), (2, bc_I i), (3, bc_I j)] [] σ' 0 := by
        refine up_ind 8 (fun j hj σ' j0 j1 j2 j3 j4 => ?_) (fun j hj jh σ' j0 j1 j2 j3 j4 => ?_)
        · refine hK.1 [2, 10] 60 _ _ _ _ _ ?_
          refine bc_ob_i (by omega) ?_
          refine bc_br_i (fun c => by omega) (fun c => ?_)
          refine hK.2 _ _ [(0, bc_R 157), (1, bc_R 2), (2, bc_I (i + 1))] _ _ _ (ls_ _ _) ?_
          refine ih _ (by omega) (by omega) (fun a b a0 a1 b0 b1 => ?_) j4
          by_cases e : a = i
          · rw [e]; exact j3 b b0 (by omega)
          · exact j2 a b a0 (by omega) b0 b1
        · refine hK.1 [2, 10] 60 _ _ _ _ _ ?_
          refine bc_ob_i (by omega) ?_
          refine bc_br_i (fun c => ?_) (fun c => by omega)
          refine bc_ob_i (by omega) ?_
          refine bc_ob_i (by omega) ?_
          refine jh _ (by omega) (by omega) (fun a b a0 a1 b0 b1 => ?_) (fun b b0 b1 => ?_) (fr_trans j4 (fr_wr rfl))
          · have := j2 a b a0 a1 b0 b1
            simp only [bc_wr, if_true]
            split
            · rfl
            · exact this
          · simp only [bc_wr, if_true]
            by_cases e : b = j
            · rw [e]; simp
            · rw [if_neg (by omega)]
              exact j3 b b0 (by omega)
      refine hK.1 [2, 10] 60 _ _ _ _ _ ?_
      refine bc_ob_i (by omega) ?_
      refine bc_br_i (fun c => ?_) (fun c => by omega)
      exact L0 0 _ (by omega) (by omega) h2 (fun b b0 b1 => by omega) h3
  refine hK.1 [2] 40 _ _ _ _ _ ?_
  exact L1 0 _ (by omega) (by omega) (fun a b a0 a1 b0 b1 => by omega) (fr_refl _)
end WAY
