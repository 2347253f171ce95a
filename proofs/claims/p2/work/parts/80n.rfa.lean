/-! the best way: class and reference lay the same joints -/
theorem sb_sym (r : rw_t) (a b : Int) : ∀ n : Nat, sb_ r n a b = sb_ r n b a
  | 0 => rfl
  | n + 1 => by
    rw [sb_S, sb_S, sb_sym r a b n]
    by_cases c : (r (16 + 6 * (n : Int)) = a ∧ r (17 + 6 * (n : Int)) = b) ∨ (r (16 + 6 * (n : Int)) = b ∧ r (17 + 6 * (n : Int)) = a)
    · rw [if_pos c, if_pos c.symm]
    · rw [if_neg c, if_neg (fun q => c q.symm)]
theorem sa_sym (r : rw_t) (a b : Int) : sa_ r a b = sa_ r b a := sb_sym r a b _
theorem rch_tr {f : gr_t} {l a b : Int} {n : Nat} (h : rch_ f l a n b) : ∀ (m : Nat) (c : Int), rch_ f l b m c → rch_ f l a (n + m) c
  | 0, c, hc => by
    have e : c = b := hc
    rw [e]
    exact h
  | m + 1, c, hc => by
    rcases hc with hc | ⟨i, hi, hr, hl⟩
    · exact .inl (rch_tr h m c hc)
    · exact .inr ⟨i, hi, rch_tr h m i hr, hl⟩
theorem rch_rev {f : gr_t} {l a : Int} (hs : ∀ i j : Int, f i j = f j i) : ∀ (n : Nat) (j : Int), 0 ≤ j → j < 8 → rch_ f l a n j → ∃ m : Nat, rch_ f l j m a
  | 0, j, _, _, h => by
    have e : j = a := h
    exact ⟨0, e.symm⟩
  | n + 1, j, j0, j1, h => by
    rcases h with h | ⟨i, hi, hr, hl⟩
    · exact rch_rev hs n j j0 j1 h
    · obtain ⟨m, hm⟩ := rch_rev hs n i hi.1 hi.2 hr
      have h1 : rch_ f l j 1 i := .inr ⟨j, ⟨j0, j1⟩, rfl, by rw [hs]; exact hl⟩
      exact ⟨1 + m, rch_tr h1 m a hm⟩
theorem lk_spec (f : gr_t) (l : Int) (dd : Int → Int) (a : Int) : ∀ k : Nat, (lk_ f l dd a k = -1 ∧ ∀ j : Int, 0 ≤ j → j < k → ¬ (l ≤ f a j ∧ dd j < dd a)) ∨ ((0 ≤ lk_ f l dd a k ∧ lk_ f l dd a k < k) ∧ (l ≤ f a (lk_ f l dd a k) ∧ dd (lk_ f l dd a k) < dd a) ∧ ∀ j : Int, 0 ≤ j → j < lk_ f l dd a k → ¬ (l ≤ f a j ∧ dd j < dd a))
  | 0 => .inl ⟨rfl, fun j j0 j1 => by omega⟩
  | k + 1 => by
    have e : lk_ f l dd a (k + 1) = if lk_ f l dd a k = -1 ∧ l ≤ f a (k : Int) ∧ dd (k : Int) < dd a then (k : Int) else lk_ f l dd a k := rfl
    rw [e]
    rcases lk_spec f l dd a k with ⟨h0, h⟩ | ⟨h0, h1, h⟩
    · by_cases c : l ≤ f a (k : Int) ∧ dd (k : Int) < dd a
      · rw [if_pos ⟨h0, c⟩]
        exact .inr ⟨by omega, c, fun j j0 j1 => h j j0 j1⟩
      · rw [if_neg (fun q => c q.2)]
        refine .inl ⟨h0, fun j j0 j1 => ?_⟩
        by_cases ej : j = (k : Int)
        · rw [ej]; exact c
        · exact h j j0 (by omega)
    · rw [if_neg (fun q => by omega)]
      exact .inr ⟨by omega, h1, h⟩
theorem nx_spec (f : gr_t) (l : Int) (D : Int → Int) (a c : Int) : ∀ n : Nat, n ≤ 8 → (nx_ f l D a c n = -1 ∧ ∀ j : Int, 8 - (n : Int) ≤ j → j < 8 → ¬ (l ≤ f a j ∧ D j = c)) ∨ ((8 - (n : Int) ≤ nx_ f l D a c n ∧ nx_ f l D a c n < 8) ∧ (l ≤ f a (nx_ f l D a c n) ∧ D (nx_ f l D a c n) = c) ∧ ∀ j : Int, 8 - (n : Int) ≤ j → j < nx_ f l D a c n → ¬ (l ≤ f a j ∧ D j = c))
  | 0, _ => .inl ⟨rfl, fun j j0 j1 => by omega⟩
  | n + 1, hn => by
    have e : nx_ f l D a c (n + 1) = if l ≤ f a (7 - (n : Int)) ∧ D (7 - (n : Int)) = c then 7 - (n : Int) else nx_ f l D a c n := rfl
    rw [e]
    by_cases h : l ≤ f a (7 - (n : Int)) ∧ D (7 - (n : Int)) = c
    · rw [if_pos h]
      exact .inr ⟨by omega, h, fun j j0 j1 => by omega⟩
    · rw [if_neg h]
      rcases nx_spec f l D a c n (by omega) with ⟨h0, h1⟩ | ⟨h0, h1, h2⟩
      · refine .inl ⟨h0, fun j j0 j1 => ?_⟩
        by_cases ej : j = 7 - (n : Int)
        · rw [ej]; exact h
        · exact h1 j (by omega) j1
      · refine .inr ⟨by omega, h1, fun j j0 j1 => ?_⟩
        by_cases ej : j = 7 - (n : Int)
        · rw [ej]; exact h
        · exact h2 j (by omega) j1
section WAY
variable {q : rw_t} {u v l : Int}
/-- one step of the way: the same joint, one nearer -/
theorem way_step (hW : wf_M q) (hu : uj_ q) (v0 : 0 ≤ v) (v1 : v < 8) (l1 : 1 ≤ l) {x : Int} (x0 : 0 ≤ x) (x1 : x < 8) (hx : 1 ≤ md_ (sa_ q) l v x) (h7 : md_ (sa_ q) l v x ≤ 7) : ln_ (sa_ q) l (md_ (sa_ q) l v) x = nx_ (sa_ q) l (xm_ q l (-1) v 8) x (md_ (sa_ q) l v x - 1) 8 ∧ (0 ≤ ln_ (sa_ q) l (md_ (sa_ q) l v) x ∧ ln_ (sa_ q) l (md_ (sa_ q) l v) x < 8) ∧ md_ (sa_ q) l v (ln_ (sa_ q) l (md_ (sa_ q) l v) x) = md_ (sa_ q) l v x - 1 := by
  have near : ∀ j : Int, 0 ≤ j → j < 8 → l ≤ sa_ q x j → md_ (sa_ q) l v j ≤ 6 → md_ (sa_ q) l v x ≤ md_ (sa_ q) l v j + 1 := by
    intro j j0 j1 hl h6
    have hj := (md_le (sa_ q) (l := l) (t := v) j0 j1).1
    have a := (md_iff (sa_ q) (l := l) (t := v) j0 j1 (n := (md_ (sa_ q) l v j).toNat) (by omega)).mp (by omega)
    have b := (md_iff (sa_ q) (l := l) (t := v) x0 x1 (n := (md_ (sa_ q) l v j).toNat + 1) (by omega)).mpr (.inr ⟨j, ⟨j0, j1⟩, a, by rw [sa_sym]; exact hl⟩)
    omega
  have same : ∀ j : Int, 0 ≤ j → j < 8 → ((l ≤ sa_ q x j ∧ md_ (sa_ q) l v j < md_ (sa_ q) l v x) ↔ (l ≤ sa_ q x j ∧ xm_ q l (-1) v 8 j = md_ (sa_ q) l v x - 1)) := by
    intro j j0 j1
    have hj := (md_le (sa_ q) (l := l) (t := v) j0 j1).1
    constructor
    · rintro ⟨hl, hd⟩
      have := near j j0 j1 hl (by omega)
      rcases md_xm hW hu v0 v1 j0 j1 l1 with ⟨-, e⟩ | ⟨e, -⟩
      · exact ⟨hl, by omega⟩
      · omega
    · rintro ⟨hl, hd⟩
      rcases md_xm hW hu v0 v1 j0 j1 l1 with ⟨-, e⟩ | ⟨-, e⟩
      · exact ⟨hl, by omega⟩
      · omega
  have some : ∃ j : Int, (0 ≤ j ∧ j < 8) ∧ l ≤ sa_ q x j ∧ md_ (sa_ q) l v j < md_ (sa_ q) l v x := by
    have a := (md_iff (sa_ q) (l := l) (t := v) x0 x1 (n := (md_ (sa_ q) l v x).toNat) (by omega)).mp (by omega)
    rw [show (md_ (sa_ q) l v x).toNat = (md_ (sa_ q) l v x - 1).toNat + 1 by omega] at a
    rcases a with a | ⟨i, hi, hr, hl⟩
    · have := (md_iff (sa_ q) (l := l) (t := v) x0 x1 (n := (md_ (sa_ q) l v x - 1).toNat) (by omega)).mpr a
      omega
    · have := (md_iff (sa_ q) (l := l) (t := v) hi.1 hi.2 (n := (md_ (sa_ q) l v x - 1).toNat) (by omega)).mpr hr
      exact ⟨i, hi, by rw [sa_sym]; exact hl, by omega⟩
  obtain ⟨j, hj, hlj, hdj⟩ := some
  rcases lk_spec (sa_ q) l (md_ (sa_ q) l v) x 8 with ⟨-, h⟩ | ⟨k0, k1, k2⟩
  · exact absurd ⟨hlj, hdj⟩ (h j hj.1 (by omega))
  rcases nx_spec (sa_ q) l (xm_ q l (-1) v 8) x (md_ (sa_ q) l v x - 1) 8 (Nat.le_refl 8) with ⟨-, h⟩ | ⟨n0, n1, n2⟩
  · exact absurd ((same j hj.1 hj.2).mp ⟨hlj, hdj⟩) (h j (by omega) hj.2)
  have el : ln_ (sa_ q) l (md_ (sa_ q) l v) x = lk_ (sa_ q) l (md_ (sa_ q) l v) x 8 := by
    unfold ln_
    rw [if_neg (by omega)]
  rw [el]
  generalize lk_ (sa_ q) l (md_ (sa_ q) l v) x 8 = A at k0 k1 k2 ⊢
  generalize nx_ (sa_ q) l (xm_ q l (-1) v 8) x (md_ (sa_ q) l v x - 1) 8 = C at n0 n1 n2 ⊢
  have s1 := (same A k0.1 (by omega)).mp k1
  have s2 := (same C (by omega) n0.2).mpr n1
  have e : A = C := by
    rcases Int.lt_trichotomy A C with c | c | c
    · exact absurd s1 (n2 A (by omega) c)
    · exact c
    · exact absurd s2 (k2 C (by omega) c)
  refine ⟨e, by omega, ?_⟩
  have := near A k0.1 (by omega) k1.1 (by omega)
  omega
end WAY
