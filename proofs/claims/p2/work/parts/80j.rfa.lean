/-! the reference's widest way is the widest -/
theorem xw1_ge (q : rw_t) (m : Int) (F : Int → Int) (j : Int) : F j ≤ xw1_ q m F j := by
  unfold xw1_
  by_cases e1 : j = q (16 + 6 * m)
  · rw [← e1, up_at]
    by_cases e2 : j = q (17 + 6 * m)
    · rw [← e2, up_at]
      omega
    · rw [up_ne e2]
      omega
  · rw [up_ne e1]
    by_cases e2 : j = q (17 + 6 * m)
    · rw [← e2, up_at]
      omega
    · rw [up_ne e2]
      omega
theorem xw1_hit {q : rw_t} {m l i j : Int} {F : Int → Int} (hi : l ≤ F i) (hm : jn_ q m i j) (hb : l ≤ br_ q m) : l ≤ xw1_ q m F j := by
  unfold xw1_
  rcases hm with ⟨h1, h2⟩ | ⟨h1, h2⟩
  · rw [h1, h2]
    by_cases e : j = i
    · subst e
      rw [up_at, up_at]
      omega
    · rw [up_ne e, up_at]
      omega
  · rw [h1, h2, up_at]
    have e1 : (up_ F i (max (F i) (min (F j) (br_ q m)))) i = max (F i) (min (F j) (br_ q m)) := up_at
    rw [e1]
    omega
theorem xw2_ge (q : rw_t) (F : Int → Int) (j : Int) (n : Nat) : ∀ m : Nat, xw2_ q F n j ≤ xw2_ q F (n + m) j
  | 0 => Int.le_refl _
  | m + 1 => Int.le_trans (xw2_ge q F j n m) (xw1_ge q ((n + m : Nat) : Int) (xw2_ q F (n + m)) j)
theorem xw2_hit {q : rw_t} {m : Nat} {l i j : Int} {F : Int → Int} {n : Nat} (hn : m < n) (hi : l ≤ F i) (hm : jn_ q m i j) (hb : l ≤ br_ q m) : l ≤ xw2_ q F n j := by
  have h1 : l ≤ xw2_ q F m i := by
    have := xw2_ge q F i 0 m
    rw [Nat.zero_add] at this
    exact Int.le_trans hi this
  have h2 : l ≤ xw2_ q F (m + 1) j := xw1_hit h1 hm hb
  obtain ⟨k, rfl⟩ : ∃ k, n = (m + 1) + k := ⟨n - (m + 1), by omega⟩
  exact Int.le_trans h2 (xw2_ge q F j (m + 1) k)
/-- a bearing between joints is a member's -/
theorem sa_ex {r : rw_t} (hu : uj_ r) (h3 : 0 ≤ r 3) {l a b : Int} (l1 : 1 ≤ l) (h : l ≤ sa_ r a b) : ∃ m : Nat, (m : Int) < r 3 ∧ jn_ r m a b ∧ l ≤ br_ r m := by
  refine Classical.byContradiction (fun no => ?_)
  have z : sa_ r a b = 0 := by
    refine sa_no h3 (fun m m0 m1 hj => no ⟨m.toNat, by omega, ?_, ?_⟩)
    · rw [Int.toNat_of_nonneg m0]; exact hj
    · rw [Int.toNat_of_nonneg m0, ← sa_yes hu h3 m0 m1 hj]; exact h
  omega
theorem xw_full {q : rw_t} (hu : uj_ q) (h3 : 0 ≤ q 3) {l a : Int} (l1 : 1 ≤ l) (l9 : l ≤ 99) : ∀ (k n : Nat) (j : Int), n ≤ k → rch_ (sa_ q) l a n j → l ≤ xw_ q a k j
  | 0, n, j, hn, h => by
    have n0 : n = 0 := by omega
    subst n0
    have e : j = a := h
    show l ≤ xw0_ a j
    unfold xw0_
    rw [if_pos e]
    omega
  | k + 1, n, j, hk, h => by
    have ge : ∀ i, xw_ q a k i ≤ xw_ q a (k + 1) i := fun i => by
      have := xw2_ge q (xw_ q a k) i 0 (q 3).toNat
      rw [Nat.zero_add] at this
      exact this
    by_cases e : n ≤ k
    · exact Int.le_trans (xw_full hu h3 l1 l9 k n j e h) (ge j)
    · have en : n = k + 1 := by omega
      subst en
      rcases h with h | ⟨i, hi, hr, hl⟩
      · exact Int.le_trans (xw_full hu h3 l1 l9 k k j (Nat.le_refl k) h) (ge j)
      · obtain ⟨m, m1, hm, hb⟩ := sa_ex hu h3 l1 hl
        exact xw2_hit (by omega) (xw_full hu h3 l1 l9 k k i (Nat.le_refl k) hr) hm hb
theorem xw_sound {q : rw_t} (hW : wf_M q) (hu : uj_ q) {l a : Int} (l1 : 1 ≤ l) (k : Nat) : ∀ j : Int, 0 ≤ j → j < 8 → l ≤ xw_ q a k j → ∃ n : Nat, rch_ (sa_ q) l a n j := by
  have w3 := hW.1
  refine fo_inv (n := k) (P := fun (F : Int → Int) => ∀ j : Int, 0 ≤ j → j < 8 → l ≤ F j → ∃ n : Nat, rch_ (sa_ q) l a n j) (fun j _ _ h => ⟨0, ?_⟩) (fun _ F _ _ hF => ?_) k (Nat.le_refl k)
  · show j = a
    unfold xw0_ at h
    refine Classical.byContradiction (fun e => ?_)
    rw [if_neg e] at h
    omega
  · refine fo_inv (n := (q 3).toNat) (P := fun (F : Int → Int) => ∀ j : Int, 0 ≤ j → j < 8 → l ≤ F j → ∃ n : Nat, rch_ (sa_ q) l a n j) hF (fun m F m0 m1 hF => ?_) _ (Nat.le_refl _)
    obtain ⟨g0, g1, -⟩ := hW.2 m m0 (by omega)
    have s1 := sa_yes hu w3.1 m0 (by omega) (.inl ⟨rfl, rfl⟩ : jn_ q m (q (16 + 6 * m)) (q (17 + 6 * m)))
    have s2 := sa_yes hu w3.1 m0 (by omega) (.inr ⟨rfl, rfl⟩ : jn_ q m (q (17 + 6 * m)) (q (16 + 6 * m)))
    have st : ∀ i j : Int, 0 ≤ i → i < 8 → l ≤ F i → l ≤ sa_ q i j → ∃ n : Nat, rch_ (sa_ q) l a n j := fun i j i0 i1 hi hl => by
      obtain ⟨n, hn⟩ := hF i i0 i1 hi
      exact ⟨n + 1, .inr ⟨i, ⟨i0, i1⟩, hn, hl⟩⟩
    have hp : l ≤ max (F (q (17 + 6 * m))) (min (F (q (16 + 6 * m))) (br_ q m)) → ∃ n : Nat, rch_ (sa_ q) l a n (q (17 + 6 * m)) := fun h => by
      by_cases c : l ≤ F (q (17 + 6 * m))
      · exact hF _ g1.1 (by omega) c
      · exact st (q (16 + 6 * m)) _ g0.1 (by omega) (by omega) (by rw [s1]; omega)
    intro j j0 j1 h
    unfold xw1_ at h
    by_cases e1 : j = q (16 + 6 * m)
    · rw [← e1, up_at] at h
      rw [← e1] at hp s1 s2 g0
      rw [up_at] at h
      by_cases c : l ≤ (up_ F (q (17 + 6 * m)) (max (F (q (17 + 6 * m))) (min (F j) (br_ q m)))) j
      · by_cases e2 : j = q (17 + 6 * m)
        · rw [e2]
          rw [e2] at c
          rw [up_at] at c
          rw [e2] at hp
          exact hp c
        · rw [up_ne e2] at c
          exact hF j j0 j1 c
      · obtain ⟨n, hn⟩ := hp (by omega)
        exact ⟨n + 1, .inr ⟨q (17 + 6 * m), ⟨g1.1, by omega⟩, hn, by rw [s2]; omega⟩⟩
    · rw [up_ne e1] at h
      by_cases e2 : j = q (17 + 6 * m)
      · rw [e2]
        rw [e2, up_at] at h
        exact hp h
      · rw [up_ne e2] at h
        exact hF j j0 j1 h
theorem xw_iff {q : rw_t} (hW : wf_M q) (hu : uj_ q) {l a j : Int} (a0 : 0 ≤ a) (a1 : a < 8) (j0 : 0 ≤ j) (j1 : j < 8) (l1 : 1 ≤ l) (l9 : l ≤ 99) : l ≤ xw_ q a 8 j ↔ rch_ (sa_ q) l a 7 j :=
  ⟨fun h => by obtain ⟨n, hn⟩ := xw_sound hW hu l1 8 j j0 j1 h; exact rch_7 a0 a1 j0 j1 hn, fun h => xw_full hu hW.1.1 l1 l9 8 7 j (by decide) h⟩
