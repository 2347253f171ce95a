/-! which joints are reached by members that bear as much -/
def rch_ (f : gr_t) (l a : Int) : Nat → Int → Prop
  | 0, j => j = a
  | n + 1, j => rch_ f l a n j ∨ ∃ i : Int, (0 ≤ i ∧ i < 8) ∧ rch_ f l a n i ∧ l ≤ f i j
noncomputable def cnt_ (P : Int → Prop) : Nat → Nat
  | 0 => 0
  | n + 1 => cnt_ P n + @ite Nat (P (n : Int)) (Classical.propDecidable _) 1 0
theorem cnt_le (P : Int → Prop) : ∀ n : Nat, cnt_ P n ≤ n
  | 0 => Nat.le_refl 0
  | n + 1 => by
    have := cnt_le P n
    unfold cnt_
    split <;> omega
theorem cnt_mono {P Q : Int → Prop} : ∀ n : Nat, (∀ j : Nat, j < n → P j → Q j) → cnt_ P n ≤ cnt_ Q n
  | 0, _ => Nat.le_refl 0
  | n + 1, h => by
    have h1 := cnt_mono n (fun j hj => h j (by omega))
    have h2 := h n (by omega)
    unfold cnt_
    by_cases c : P (n : Int)
    · rw [if_pos c, if_pos (h2 c)]
      omega
    · rw [if_neg c]
      omega
theorem cnt_lt {P Q : Int → Prop} : ∀ n : Nat, (∀ j : Nat, j < n → P j → Q j) → (∃ j : Nat, j < n ∧ Q j ∧ ¬ P j) → cnt_ P n < cnt_ Q n
  | 0, _, h => by
    obtain ⟨j, hj, -⟩ := h
    omega
  | n + 1, h, ⟨j, hj, hq, hp⟩ => by
    have h2 := h n (by omega)
    unfold cnt_
    by_cases e : j = n
    · have h1 := cnt_mono (P := P) (Q := Q) n (fun j hj => h j (by omega))
      subst e
      rw [if_neg hp, if_pos hq]
      omega
    · have h1 := cnt_lt (P := P) (Q := Q) n (fun j hj => h j (by omega)) ⟨j, by omega, hq, hp⟩
      by_cases c : P (n : Int)
      · rw [if_pos c, if_pos (h2 c)]
        omega
      · rw [if_neg c]
        omega
theorem rch_stay {f : gr_t} {l a : Int} {n : Nat} (h : ∀ j : Int, 0 ≤ j → j < 8 → rch_ f l a (n + 1) j → rch_ f l a n j) : ∀ (m : Nat) (j : Int), 0 ≤ j → j < 8 → rch_ f l a (n + m) j → rch_ f l a n j
  | 0, _, _, _, hj => hj
  | m + 1, j, j0, j1, hj => by
    rcases hj with hj | ⟨i, hi, hr, hl⟩
    · exact rch_stay h m j j0 j1 hj
    · exact h j j0 j1 (.inr ⟨i, hi, rch_stay h m i hi.1 hi.2 hr, hl⟩)
theorem rch_le {f : gr_t} {l a : Int} {n : Nat} {j : Int} (h : rch_ f l a n j) : ∀ m : Nat, n ≤ m → rch_ f l a m j
  | 0, hm => by
    have : n = 0 := by omega
    subst this
    exact h
  | m + 1, hm => by
    by_cases e : n = m + 1
    · rw [← e]; exact h
    · exact .inl (rch_le h m (by omega))
theorem rch_grow {f : gr_t} {l a : Int} (a0 : 0 ≤ a) (a1 : a < 8) : ∀ n : Nat, (∃ k : Nat, k ≤ n ∧ ∀ j : Int, 0 ≤ j → j < 8 → rch_ f l a (k + 1) j → rch_ f l a k j) ∨ n + 1 ≤ cnt_ (rch_ f l a n) 8
  | 0 => by
    refine .inr ?_
    have h := cnt_lt (P := fun _ => False) (Q := rch_ f l a 0) 8 (fun j hj h => h.elim) ⟨a.toNat, by omega, by show ((a.toNat : Nat) : Int) = a; omega, fun h => h⟩
    omega
  | n + 1 => by
    rcases rch_grow (f := f) (l := l) a0 a1 n with ⟨k, hk, h⟩ | h
    · exact .inl ⟨k, by omega, h⟩
    · by_cases c : ∀ j : Int, 0 ≤ j → j < 8 → rch_ f l a (n + 1) j → rch_ f l a n j
      · exact .inl ⟨n, by omega, c⟩
      · refine .inr ?_
        have c2 : ∃ j : Nat, j < 8 ∧ rch_ f l a (n + 1) (j : Int) ∧ ¬ rch_ f l a n (j : Int) := by
          refine Classical.byContradiction (fun no => c (fun j j0 j1 hj => ?_))
          refine Classical.byContradiction (fun nj => no ⟨j.toNat, by omega, ?_, ?_⟩)
          · rw [Int.toNat_of_nonneg j0]; exact hj
          · rw [Int.toNat_of_nonneg j0]; exact nj
        have := cnt_lt (P := rch_ f l a n) (Q := rch_ f l a (n + 1)) 8 (fun j _ hj => .inl hj) c2
        omega
/-- eight joints: seven steps reach what can be reached -/
theorem rch_7 {f : gr_t} {l a : Int} (a0 : 0 ≤ a) (a1 : a < 8) {n : Nat} {j : Int} (j0 : 0 ≤ j) (j1 : j < 8) (h : rch_ f l a n j) : rch_ f l a 7 j := by
  have key : ∃ k : Nat, k ≤ 7 ∧ ∀ j : Int, 0 ≤ j → j < 8 → rch_ f l a (k + 1) j → rch_ f l a k j := by
    rcases rch_grow (f := f) (l := l) a0 a1 8 with ⟨k, hk, hs⟩ | hs
    · by_cases e : k ≤ 7
      · exact ⟨k, e, hs⟩
      · rcases rch_grow (f := f) (l := l) a0 a1 7 with ⟨k2, hk2, hs2⟩ | hs2
        · exact ⟨k2, hk2, hs2⟩
        · refine ⟨7, Nat.le_refl 7, fun j j0 j1 hj => ?_⟩
          refine Classical.byContradiction (fun nj => ?_)
          have h1 := cnt_lt (P := rch_ f l a 7) (Q := rch_ f l a 8) 8 (fun j _ hj => .inl hj) ⟨j.toNat, by omega, by rw [Int.toNat_of_nonneg j0]; exact hj, by rw [Int.toNat_of_nonneg j0]; exact nj⟩
          have h2 := cnt_le (rch_ f l a 8) 8
          omega
    · have h2 := cnt_le (rch_ f l a 8) 8
      omega
  obtain ⟨k, hk, hs⟩ := key
  rcases Nat.le_total n k with c | c
  · exact rch_le (rch_le h k c) 7 hk
  · obtain ⟨m, rfl⟩ : ∃ m, n = k + m := ⟨n - k, by omega⟩
    exact rch_le (rch_stay hs m j j0 j1 h) 7 hk
