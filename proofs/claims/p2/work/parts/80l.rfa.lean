/-! how far: class and reference -/
theorem xw_99 {q : rw_t} (hW : wf_M q) (a : Int) (k : Nat) : ∀ j : Int, j ≠ a → xw_ q a k j ≤ 99 := by
  have w3 := hW.1
  refine fo_inv (n := k) (P := fun (F : Int → Int) => ∀ j : Int, j ≠ a → F j ≤ 99) (fun j h => ?_) (fun _ F _ _ hF => ?_) k (Nat.le_refl k)
  · unfold xw0_
    rw [if_neg h]
    decide
  · refine fo_inv (n := (q 3).toNat) (P := fun (F : Int → Int) => ∀ j : Int, j ≠ a → F j ≤ 99) hF (fun m F m0 m1 hF => ?_) _ (Nat.le_refl _)
    have hb := br_le hW m0 (by omega : m < 16)
    intro j hj
    have h0 := hF j hj
    unfold xw1_
    by_cases e1 : j = q (16 + 6 * m)
    · rw [← e1, up_at]
      by_cases e2 : j = q (17 + 6 * m)
      · rw [← e2, up_at]
        omega
      · rw [up_ne e2]
        omega
    · rw [up_ne e1]
      by_cases e2 : j = q (17 + 6 * m)
      · rw [← e2, up_at]
        omega
      · rw [up_ne e2]
        omega
theorem xm1_le2 (q : rw_t) (l w m : Int) (F : Int → Int) (j : Int) : xm1_ q l w m F j ≤ F j := by
  unfold xm1_
  split
  · by_cases e1 : j = q (16 + 6 * m)
    · rw [← e1, up_at]
      by_cases e2 : j = q (17 + 6 * m)
      · rw [← e2, up_at]
        omega
      · rw [up_ne e2]
        omega
    · rw [up_ne e1]
      by_cases e2 : j = q (17 + 6 * m)
      · rw [← e2, up_at]
        omega
      · rw [up_ne e2]
        omega
  · exact Int.le_refl _
theorem xm1_hit {q : rw_t} {m l w i j n : Int} {F : Int → Int} (hi : F i ≤ n) (hm : jn_ q m i j) (hb : l ≤ br_ q m) (hw : m ≠ w) : xm1_ q l w m F j ≤ n + 1 := by
  unfold xm1_
  rw [if_pos ⟨hw, hb⟩]
  rcases hm with ⟨h1, h2⟩ | ⟨h1, h2⟩
  · rw [h1, h2]
    by_cases e : j = i
    · subst e
      rw [up_at, up_at]
      omega
    · rw [up_ne e, up_at]
      omega
  · rw [h1, h2, up_at]
    have e1 : (up_ F i (min (F i) (F j + 1))) i = min (F i) (F j + 1) := up_at
    rw [e1]
    omega
theorem xm2_le2 (q : rw_t) (l w : Int) (F : Int → Int) (j : Int) (n : Nat) : ∀ m : Nat, xm2_ q l w F (n + m) j ≤ xm2_ q l w F n j
  | 0 => Int.le_refl _
  | m + 1 => Int.le_trans (xm1_le2 q l w ((n + m : Nat) : Int) (xm2_ q l w F (n + m)) j) (xm2_le2 q l w F j n m)
theorem xm2_hit {q : rw_t} {m : Nat} {l w i j c : Int} {F : Int → Int} {n : Nat} (hn : m < n) (hi : F i ≤ c) (hm : jn_ q m i j) (hb : l ≤ br_ q m) (hw : (m : Int) ≠ w) : xm2_ q l w F n j ≤ c + 1 := by
  have h1 : xm2_ q l w F m i ≤ c := by
    have := xm2_le2 q l w F i 0 m
    rw [Nat.zero_add] at this
    exact Int.le_trans this hi
  have h2 : xm2_ q l w F (m + 1) j ≤ c + 1 := xm1_hit h1 hm hb hw
  obtain ⟨k, rfl⟩ : ∃ k, n = (m + 1) + k := ⟨n - (m + 1), by omega⟩
  exact Int.le_trans (xm2_le2 q l w F j (m + 1) k) h2
theorem xm_full {q : rw_t} (hu : uj_ q) (h3 : 0 ≤ q 3) {l t : Int} (l1 : 1 ≤ l) : ∀ (k n : Nat) (j : Int), n ≤ k → rch_ (sa_ q) l t n j → xm_ q l (-1) t k j ≤ n
  | 0, n, j, hn, h => by
    have n0 : n = 0 := by omega
    subst n0
    have e : j = t := h
    show xm0_ t j ≤ _
    unfold xm0_
    rw [if_pos e]
    decide
  | k + 1, n, j, hk, h => by
    have le : ∀ i, xm_ q l (-1) t (k + 1) i ≤ xm_ q l (-1) t k i := fun i => by
      have := xm2_le2 q l (-1) (xm_ q l (-1) t k) i 0 (q 3).toNat
      rw [Nat.zero_add] at this
      exact this
    by_cases e : n ≤ k
    · exact Int.le_trans (le j) (xm_full hu h3 l1 k n j e h)
    · have en : n = k + 1 := by omega
      subst en
      rcases h with h | ⟨i, hi, hr, hl⟩
      · have := xm_full hu h3 l1 k k j (Nat.le_refl k) h
        have := le j
        omega
      · obtain ⟨m, m1, hm, hb⟩ := sa_ex hu h3 l1 hl
        have := xm2_hit (n := (q 3).toNat) (F := xm_ q l (-1) t k) (by omega) (xm_full hu h3 l1 k k i (Nat.le_refl k) hr) hm hb (by omega : (m : Int) ≠ -1)
        exact Int.le_trans this (by omega)
theorem xm_sound {q : rw_t} (hW : wf_M q) (hu : uj_ q) {l t : Int} (k : Nat) : ∀ j : Int, 0 ≤ j → j < 8 → 0 ≤ xm_ q l (-1) t k j ∧ (xm_ q l (-1) t k j < 99999 → rch_ (sa_ q) l t (xm_ q l (-1) t k j).toNat j) := by
  have w3 := hW.1
  refine fo_inv (n := k) (P := fun (F : Int → Int) => ∀ j : Int, 0 ≤ j → j < 8 → 0 ≤ F j ∧ (F j < 99999 → rch_ (sa_ q) l t (F j).toNat j)) (fun j _ _ => ?_) (fun _ F _ _ hF => ?_) k (Nat.le_refl k)
  · unfold xm0_
    split
    · rename_i e
      exact ⟨by decide, fun _ => e⟩
    · exact ⟨by decide, fun h => absurd h (by decide)⟩
  · refine fo_inv (n := (q 3).toNat) (P := fun (F : Int → Int) => ∀ j : Int, 0 ≤ j → j < 8 → 0 ≤ F j ∧ (F j < 99999 → rch_ (sa_ q) l t (F j).toNat j)) hF (fun m F m0 m1 hF => ?_) _ (Nat.le_refl _)
    obtain ⟨g0, g1, -⟩ := hW.2 m m0 (by omega)
    have s1 := sa_yes hu w3.1 m0 (by omega) (.inl ⟨rfl, rfl⟩ : jn_ q m (q (16 + 6 * m)) (q (17 + 6 * m)))
    have s2 := sa_yes hu w3.1 m0 (by omega) (.inr ⟨rfl, rfl⟩ : jn_ q m (q (17 + 6 * m)) (q (16 + 6 * m)))
    unfold xm1_
    split
    · rename_i hc
      have st : ∀ (G : Int → Int) (i j : Int), (∀ j : Int, 0 ≤ j → j < 8 → 0 ≤ G j ∧ (G j < 99999 → rch_ (sa_ q) l t (G j).toNat j)) → 0 ≤ i → i < 8 → l ≤ sa_ q i j → 0 ≤ j → j < 8 → ∀ x : Int, 0 ≤ x → x < 8 → 0 ≤ (up_ G j (min (G j) (G i + 1))) x ∧ ((up_ G j (min (G j) (G i + 1))) x < 99999 → rch_ (sa_ q) l t ((up_ G j (min (G j) (G i + 1))) x).toNat x) := by
        intro G i j hG i0 i1 hl j0 j1 x x0 x1
        have gi := hG i i0 i1
        have gj := hG j j0 j1
        by_cases e : x = j
        · subst e
          rw [up_at]
          refine ⟨by omega, fun h => ?_⟩
          by_cases c : G x ≤ G i + 1
          · rw [show min (G x) (G i + 1) = G x by omega]
            exact gj.2 (by omega)
          · rw [show min (G x) (G i + 1) = G i + 1 by omega, show (G i + 1).toNat = (G i).toNat + 1 by omega]
            exact .inr ⟨i, ⟨i0, i1⟩, gi.2 (by omega), hl⟩
        · rw [up_ne e]
          exact hG x x0 x1
      have h1 := st F (q (16 + 6 * m)) (q (17 + 6 * m)) hF g0.1 (by omega) (by rw [s1]; exact hc.2) g1.1 (by omega)
      exact st _ (q (17 + 6 * m)) (q (16 + 6 * m)) h1 g1.1 (by omega) (by rw [s2]; exact hc.2) g0.1 (by omega)
    · exact hF
theorem xm_iff {q : rw_t} (hW : wf_M q) (hu : uj_ q) {l t j : Int} (j0 : 0 ≤ j) (j1 : j < 8) (l1 : 1 ≤ l) {n : Nat} (hn : n ≤ 8) : xm_ q l (-1) t 8 j ≤ n ↔ rch_ (sa_ q) l t n j := by
  obtain ⟨h0, h1⟩ := xm_sound (l := l) (t := t) hW hu 8 j j0 j1
  exact ⟨fun h => rch_le (h1 (by omega)) n (by omega), fun h => xm_full hu hW.1.1 l1 8 n j hn h⟩
