/-! members join each pair of joints once: the bearings between joints -/
def uj_ (r : rw_t) : Prop := (∀ k : Int, 0 ≤ k → k < r 3 → r (16 + 6 * k) < r (17 + 6 * k)) ∧ ∀ k l : Int, 0 ≤ k → k < l → l < r 3 → ¬ (r (16 + 6 * k) = r (16 + 6 * l) ∧ r (17 + 6 * k) = r (17 + 6 * l))
theorem uj_eq {r : rw_t} (h : uj_ r) {k l a b : Int} (k0 : 0 ≤ k) (k1 : k < r 3) (l0 : 0 ≤ l) (l1 : l < r 3) (hk : jn_ r k a b) (hl : jn_ r l a b) : k = l := by
  have ok := h.1 k k0 k1
  have ol := h.1 l l0 l1
  have e : r (16 + 6 * k) = r (16 + 6 * l) ∧ r (17 + 6 * k) = r (17 + 6 * l) := by
    rcases hk with hk | hk <;> rcases hl with hl | hl <;> omega
  refine Classical.byContradiction (fun ne => ?_)
  rcases Int.lt_or_gt_of_ne ne with c | c
  · exact h.2 k l k0 c l1 e
  · exact h.2 l k l0 c k1 ⟨e.1.symm, e.2.symm⟩
theorem jn_jr {r : rw_t} {k a b : Int} (h : r (16 + 6 * k) < r (17 + 6 * k)) : jr_ r k a b ↔ jn_ r k a b := by
  unfold jr_ jn_
  omega
theorem sb_S (r : rw_t) (n : Nat) (a b : Int) : sb_ r (n + 1) a b = if (r (16 + 6 * (n : Int)) = a ∧ r (17 + 6 * (n : Int)) = b) ∨ (r (16 + 6 * (n : Int)) = b ∧ r (17 + 6 * (n : Int)) = a) then br_ r n else sb_ r n a b := by
  show ug_ (ug_ (sb_ r n) (r (16 + 6 * (n : Int))) (r (17 + 6 * (n : Int))) (br_ r n)) (r (17 + 6 * (n : Int))) (r (16 + 6 * (n : Int))) (br_ r n) a b = _
  unfold ug_
  by_cases e1 : a = r (17 + 6 * (n : Int)) ∧ b = r (16 + 6 * (n : Int))
  · rw [if_pos e1, if_pos (.inr ⟨e1.2.symm, e1.1.symm⟩)]
  · rw [if_neg e1]
    by_cases e2 : a = r (16 + 6 * (n : Int)) ∧ b = r (17 + 6 * (n : Int))
    · rw [if_pos e2, if_pos (.inl ⟨e2.1.symm, e2.2.symm⟩)]
    · rw [if_neg e2, if_neg (by omega)]
theorem sb_no {r : rw_t} {a b : Int} : ∀ n : Nat, (∀ m : Int, 0 ≤ m → m < n → ¬ jn_ r m a b) → sb_ r n a b = 0
  | 0, _ => rfl
  | n + 1, h => by
    have hh : ¬ ((r (16 + 6 * (n : Int)) = a ∧ r (17 + 6 * (n : Int)) = b) ∨ (r (16 + 6 * (n : Int)) = b ∧ r (17 + 6 * (n : Int)) = a)) := h n (by omega) (by omega)
    rw [sb_S, if_neg hh]
    exact sb_no n (fun m m0 m1 => h m m0 (by omega))
theorem sb_yes {r : rw_t} (hu : uj_ r) {a b m : Int} (m0 : 0 ≤ m) (hm : jn_ r m a b) : ∀ n : Nat, (n : Int) ≤ r 3 → m < n → sb_ r n a b = br_ r m
  | 0, _, h => absurd h (by omega)
  | n + 1, hn, h => by
    rw [sb_S]
    by_cases e : (r (16 + 6 * (n : Int)) = a ∧ r (17 + 6 * (n : Int)) = b) ∨ (r (16 + 6 * (n : Int)) = b ∧ r (17 + 6 * (n : Int)) = a)
    · rw [if_pos e, uj_eq hu (by omega) (by omega) m0 (by omega) e hm]
    · have ne : m ≠ (n : Int) := fun q => e (by rw [← q]; exact hm)
      rw [if_neg e]
      exact sb_yes hu m0 hm n (by omega) (by omega)
theorem sa_yes {r : rw_t} (hu : uj_ r) (h3 : 0 ≤ r 3) {a b m : Int} (m0 : 0 ≤ m) (m1 : m < r 3) (hm : jn_ r m a b) : sa_ r a b = br_ r m := sb_yes hu m0 hm _ (by omega) (by omega)
theorem sa_no {r : rw_t} (h3 : 0 ≤ r 3) {a b : Int} (h : ∀ m : Int, 0 ≤ m → m < r 3 → ¬ jn_ r m a b) : sa_ r a b = 0 := sb_no _ (fun m m0 m1 => h m m0 (by omega))
/-- what between finds, in bearings -/
theorem bq_sa {r : rw_t} (hu : uj_ r) (h3 : 0 ≤ r 3) {a b v : Int} (h : bq_ r a b v) : (v = -1 ∧ sa_ r a b = 0) ∨ (0 ≤ v ∧ v < r 3 ∧ jn_ r v a b ∧ sa_ r a b = br_ r v) := by
  rcases h with ⟨v0, h⟩ | ⟨v0, v1, h⟩
  · exact .inl ⟨v0, sa_no h3 (fun m m0 m1 q => h m m0 m1 ((jn_jr (hu.1 m m0 m1)).mpr q))⟩
  · have hj := (jn_jr (hu.1 v v0 v1)).mp h
    exact .inr ⟨v0, v1, hj, sa_yes hu h3 v0 v1 hj⟩
/-- the lowest joint behind which the rest of the way goes on -/
def nx_ (f : gr_t) (l : Int) (D : Int → Int) (a c : Int) : Nat → Int
  | 0 => -1
  | n + 1 => if l ≤ f a (7 - (n : Int)) ∧ D (7 - (n : Int)) = c then 7 - (n : Int) else nx_ f l D a c n
def wy1_ (f : gr_t) (l : Int) (D : Int → Int) (a : Int) : Nat → Int
  | 0 => a
  | k + 1 => nx_ f l D (wy1_ f l D a k) (D a - ((k : Int) + 1)) 8
theorem nx_le (f : gr_t) (l : Int) (D : Int → Int) (a c : Int) : ∀ n : Nat, n ≤ 8 → -1 ≤ nx_ f l D a c n ∧ nx_ f l D a c n ≤ 7
  | 0, _ => by unfold nx_; decide
  | n + 1, h => by
    have := nx_le f l D a c n (by omega)
    unfold nx_
    split <;> omega
theorem wy1_le (f : gr_t) (l : Int) (D : Int → Int) (a : Int) (ha : 0 ≤ a ∧ a < 8) : ∀ k : Nat, -1 ≤ wy1_ f l D a k ∧ wy1_ f l D a k ≤ 7
  | 0 => by unfold wy1_; omega
  | k + 1 => nx_le f l D _ _ 8 (Nat.le_refl 8)
