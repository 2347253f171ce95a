section
def jr_ (r : rw_t) (k a b : Int) : Prop := r (16 + 6 * k) = min a b ∧ r (17 + 6 * k) = max a b
end
section
section
variable {g : bc_C} {d : Nat} {σ : bc_M} {q b : rw_t} {h : List rw_t} {Rr : Option bc_A → bc_M → Prop} {X : Nat → bc_M → Prop} {B : Int}
def adr_ (q : rw_t) (x y s t : Int) : Prop := (¬ ((0 ≤ x ∧ x < 8) ∧ 0 ≤ y ∧ y < 8) ∧ t = 1) ∨ (((0 ≤ x ∧ x < 8) ∧ 0 ≤ y ∧ y < 8) ∧ ¬ (x ≠ y ∧ 1 ≤ s ∧ s ≤ 99) ∧ t = 2) ∨ (((0 ≤ x ∧ x < 8) ∧ 0 ≤ y ∧ y < 8) ∧ (x ≠ y ∧ 1 ≤ s ∧ s ≤ 99) ∧ (16 ≤ q 3 ∨ ∃ k : Int, 0 ≤ k ∧ k < q 3 ∧ jr_ q k x y) ∧ t = 3) ∨ (((0 ≤ x ∧ x < 8) ∧ 0 ≤ y ∧ y < 8) ∧ (x ≠ y ∧ 1 ≤ s ∧ s ≤ 99) ∧ q 3 < 16 ∧ (∀ k : Int, 0 ≤ k → k < q 3 → ¬ jr_ q k x y) ∧ t = 0)
end
end
section
def xw1_ (q : rw_t) (m : Int) (f : Int → Int) : Int → Int := up_ (up_ f (q (17 + 6 * m)) (max (f (q (17 + 6 * m))) (min (f (q (16 + 6 * m))) (br_ q m)))) (q (16 + 6 * m)) (max ((up_ f (q (17 + 6 * m)) (max (f (q (17 + 6 * m))) (min (f (q (16 + 6 * m))) (br_ q m)))) (q (16 + 6 * m))) (min ((up_ f (q (17 + 6 * m)) (max (f (q (17 + 6 * m))) (min (f (q (16 + 6 * m))) (br_ q m)))) (q (17 + 6 * m))) (br_ q m)))
def xw2_ (q : rw_t) (f : Int → Int) (k : Nat) : Int → Int := fo_ (fun m f => xw1_ q m f) f k
def xw0_ (a : Int) : Int → Int := fun j => if j = a then 99999 else 0
def xw_ (q : rw_t) (a : Int) (k : Nat) : Int → Int := fo_ (fun _ f => xw2_ q f (q 3).toNat) (xw0_ a) k
theorem lmu_ {f : Int → Int} {M i v : Int} (h : lm_ f M) (hv : 0 ≤ v ∧ v ≤ M) : lm_ (up_ f i v) M := fun j j0 j1 => by
  unfold up_
  split
  · exact hv
  · exact h j j0 j1
theorem bre_ {q : rw_t} (hW : wf_M q) {m : Int} (m0 : 0 ≤ m) (m1 : m < 16) : 0 ≤ br_ q m ∧ br_ q m ≤ 99 := by
  obtain ⟨g0, g1, g2, g3, g4, g5⟩ := hW.2 m m0 m1
  have hp := mul_le g2.1 g2.2 (b := 10 - q (19 + 6 * m)) (B := 10) (by omega) (by omega)
  unfold br_
  split
  · constructor <;> omega
  · decide
theorem xw1_lm {q : rw_t} (hW : wf_M q) {m : Int} (m0 : 0 ≤ m) (m1 : m < 16) {f : Int → Int} (h : lm_ f 99999) : lm_ (xw1_ q m f) 99999 := by
  obtain ⟨g0, g1, -⟩ := hW.2 m m0 m1
  have hb := bre_ hW m0 m1
  have a1 := h (q (16 + 6 * m)) g0.1 (by omega)
  have a2 := h (q (17 + 6 * m)) g1.1 (by omega)
  have l1 : lm_ (up_ f (q (17 + 6 * m)) (max (f (q (17 + 6 * m))) (min (f (q (16 + 6 * m))) (br_ q m)))) 99999 := lmu_ h (by omega)
  have b1 := l1 (q (16 + 6 * m)) g0.1 (by omega)
  have b2 := l1 (q (17 + 6 * m)) g1.1 (by omega)
  unfold xw1_
  exact lmu_ l1 (by omega)
theorem xw2_lm {q : rw_t} (hW : wf_M q) {f : Int → Int} (h : lm_ f 99999) (k : Nat) (hk : (k : Int) ≤ q 3) : lm_ (xw2_ q f k) 99999 := by
  have w := hW.1
  exact fo_inv (n := k) (P := fun x => lm_ x 99999) h (fun i x i0 i1 hx => xw1_lm hW i0 (by omega) hx) k (Nat.le_refl k)
theorem xw0_lm (a : Int) : lm_ (xw0_ a) 99999 := fun j _ _ => by
  unfold xw0_
  split <;> decide
theorem xw_lm {q : rw_t} (hW : wf_M q) (a : Int) (k : Nat) : lm_ (xw_ q a k) 99999 := by
  have w := hW.1
  exact fo_inv (n := k) (P := fun x => lm_ x 99999) (xw0_lm a) (fun i x i0 i1 hx => xw2_lm hW hx _ (by omega)) k (Nat.le_refl k)
end
section
def uj_ (r : rw_t) : Prop := (∀ k : Int, 0 ≤ k → k < r 3 → r (16 + 6 * k) < r (17 + 6 * k)) ∧ ∀ k l : Int, 0 ≤ k → k < l → l < r 3 → ¬ (r (16 + 6 * k) = r (16 + 6 * l) ∧ r (17 + 6 * k) = r (17 + 6 * l))
theorem uj_eq {r : rw_t} (h : uj_ r) {k l a b : Int} (k0 : 0 ≤ k) (k1 : k < r 3) (l0 : 0 ≤ l) (l1 : l < r 3) (hk : jn_ r k a b) (hl : jn_ r l a b) : k = l := by
  have ok := h.1 k k0 k1
  have ol := h.1 l l0 l1
  have e : r (16 + 6 * k) = r (16 + 6 * l) ∧ r (17 + 6 * k) = r (17 + 6 * l) := by
    rcases hk with hk | hk <;> rcases hl with hl | hl <;> omega
  refine Classical.byContradiction (fun ne => ?_)
  rcases Int.lt_or_gt_of_ne ne with c | c
  · exact h.2 k l k0 c l1 e
  · exact h.2 l k l0 c k1 ⟨e.1.symm, e.2.symm⟩
theorem jn_jr {r : rw_t} {k a b : Int} (h : r (16 + 6 * k) < r (17 + 6 * k)) : jr_ r k a b ↔ jn_ r k a b := by
  unfold jr_ jn_
  omega
theorem sb_S (r : rw_t) (n : Nat) (a b : Int) : sb_ r (n + 1) a b = if (r (16 + 6 * (n : Int)) = a ∧ r (17 + 6 * (n : Int)) = b) ∨ (r (16 + 6 * (n : Int)) = b ∧ r (17 + 6 * (n : Int)) = a) then br_ r n else sb_ r n a b := by
  show ug_ (ug_ (sb_ r n) (r (16 + 6 * (n : Int))) (r (17 + 6 * (n : Int))) (br_ r n)) (r (17 + 6 * (n : Int))) (r (16 + 6 * (n : Int))) (br_ r n) a b = _
  unfold ug_
  by_cases e1 : a = r (17 + 6 * (n : Int)) ∧ b = r (16 + 6 * (n : Int))
  · rw [if_pos e1, if_pos (.inr ⟨e1.2.symm, e1.1.symm⟩)]
  · rw [if_neg e1]
    by_cases e2 : a = r (16 + 6 * (n : Int)) ∧ b = r (17 + 6 * (n : Int))
    · rw [if_pos e2, if_pos (.inl ⟨e2.1.symm, e2.2.symm⟩)]
    · rw [if_neg e2, if_neg (by omega)]
theorem sb_no {r : rw_t} {a b : Int} : ∀ n : Nat, (∀ m : Int, 0 ≤ m → m < n → ¬ jn_ r m a b) → sb_ r n a b = 0
  | 0, _ => rfl
  | n + 1, h => by
    have hh : ¬ ((r (16 + 6 * (n : Int)) = a ∧ r (17 + 6 * (n : Int)) = b) ∨ (r (16 + 6 * (n : Int)) = b ∧ r (17 + 6 * (n : Int)) = a)) := h n (by omega) (by omega)
    rw [sb_S, if_neg hh]
    exact sb_no n (fun m m0 m1 => h m m0 (by omega))
theorem sb_yes {r : rw_t} (hu : uj_ r) {a b m : Int} (m0 : 0 ≤ m) (hm : jn_ r m a b) : ∀ n : Nat, (n : Int) ≤ r 3 → m < n → sb_ r n a b = br_ r m
  | 0, _, h => absurd h (by omega)
  | n + 1, hn, h => by
    rw [sb_S]
    by_cases e : (r (16 + 6 * (n : Int)) = a ∧ r (17 + 6 * (n : Int)) = b) ∨ (r (16 + 6 * (n : Int)) = b ∧ r (17 + 6 * (n : Int)) = a)
    · rw [if_pos e, uj_eq hu (by omega) (by omega) m0 (by omega) e hm]
    · have ne : m ≠ (n : Int) := fun q => e (by rw [← q]; exact hm)
      rw [if_neg e]
      exact sb_yes hu m0 hm n (by omega) (by omega)
theorem sa_yes {r : rw_t} (hu : uj_ r) (h3 : 0 ≤ r 3) {a b m : Int} (m0 : 0 ≤ m) (m1 : m < r 3) (hm : jn_ r m a b) : sa_ r a b = br_ r m := sb_yes hu m0 hm _ (by omega) (by omega)
theorem sa_no {r : rw_t} (h3 : 0 ≤ r 3) {a b : Int} (h : ∀ m : Int, 0 ≤ m → m < r 3 → ¬ jn_ r m a b) : sa_ r a b = 0 := sb_no _ (fun m m0 m1 => h m m0 (by omega))
end
section
def rch_ (f : gr_t) (l a : Int) : Nat → Int → Prop
  | 0, j => j = a
  | n + 1, j => rch_ f l a n j ∨ ∃ i : Int, (0 ≤ i ∧ i < 8) ∧ rch_ f l a n i ∧ l ≤ f i j
noncomputable def cnt_ (P : Int → Prop) : Nat → Nat
  | 0 => 0
  | n + 1 => cnt_ P n + @ite Nat (P (n : Int)) (Classical.propDecidable _) 1 0
theorem cnt_le (P : Int → Prop) : ∀ n : Nat, cnt_ P n ≤ n
  | 0 => Nat.le_refl 0
  | n + 1 => by
    have := cnt_le P n
    unfold cnt_
    split <;> omega
theorem cnt_mono {P Q : Int → Prop} : ∀ n : Nat, (∀ j : Nat, j < n → P j → Q j) → cnt_ P n ≤ cnt_ Q n
  | 0, _ => Nat.le_refl 0
  | n + 1, h => by
    have h1 := cnt_mono n (fun j hj => h j (by omega))
    have h2 := h n (by omega)
    unfold cnt_
    by_cases c : P (n : Int)
    · rw [if_pos c, if_pos (h2 c)]
      omega
    · rw [if_neg c]
      omega
theorem cnt_lt {P Q : Int → Prop} : ∀ n : Nat, (∀ j : Nat, j < n → P j → Q j) → (∃ j : Nat, j < n ∧ Q j ∧ ¬ P j) → cnt_ P n < cnt_ Q n
  | 0, _, h => by
    obtain ⟨j, hj, -⟩ := h
    omega
  | n + 1, h, ⟨j, hj, hq, hp⟩ => by
    have h2 := h n (by omega)
    unfold cnt_
    by_cases e : j = n
    · have h1 := cnt_mono (P := P) (Q := Q) n (fun j hj => h j (by omega))
      subst e
      rw [if_neg hp, if_pos hq]
      omega
    · have h1 := cnt_lt (P := P) (Q := Q) n (fun j hj => h j (by omega)) ⟨j, by omega, hq, hp⟩
      by_cases c : P (n : Int)
      · rw [if_pos c, if_pos (h2 c)]
        omega
      · rw [if_neg c]
        omega
theorem rch_stay {f : gr_t} {l a : Int} {n : Nat} (h : ∀ j : Int, 0 ≤ j → j < 8 → rch_ f l a (n + 1) j → rch_ f l a n j) : ∀ (m : Nat) (j : Int), 0 ≤ j → j < 8 → rch_ f l a (n + m) j → rch_ f l a n j
  | 0, _, _, _, hj => hj
  | m + 1, j, j0, j1, hj => by
    rcases hj with hj | ⟨i, hi, hr, hl⟩
    · exact rch_stay h m j j0 j1 hj
    · exact h j j0 j1 (.inr ⟨i, hi, rch_stay h m i hi.1 hi.2 hr, hl⟩)
theorem rch_le {f : gr_t} {l a : Int} {n : Nat} {j : Int} (h : rch_ f l a n j) : ∀ m : Nat, n ≤ m → rch_ f l a m j
  | 0, hm => by
    have : n = 0 := by omega
    subst this
    exact h
  | m + 1, hm => by
    by_cases e : n = m + 1
    · rw [← e]; exact h
    · exact .inl (rch_le h m (by omega))
theorem rch_grow {f : gr_t} {l a : Int} (a0 : 0 ≤ a) (a1 : a < 8) : ∀ n : Nat, (∃ k : Nat, k ≤ n ∧ ∀ j : Int, 0 ≤ j → j < 8 → rch_ f l a (k + 1) j → rch_ f l a k j) ∨ n + 1 ≤ cnt_ (rch_ f l a n) 8
  | 0 => by
    refine .inr ?_
    have h := cnt_lt (P := fun _ => False) (Q := rch_ f l a 0) 8 (fun j hj h => h.elim) ⟨a.toNat, by omega, by show ((a.toNat : Nat) : Int) = a; omega, fun h => h⟩
    omega
  | n + 1 => by
    rcases rch_grow (f := f) (l := l) a0 a1 n with ⟨k, hk, h⟩ | h
    · exact .inl ⟨k, by omega, h⟩
    · by_cases c : ∀ j : Int, 0 ≤ j → j < 8 → rch_ f l a (n + 1) j → rch_ f l a n j
      · exact .inl ⟨n, by omega, c⟩
      · refine .inr ?_
        have c2 : ∃ j : Nat, j < 8 ∧ rch_ f l a (n + 1) (j : Int) ∧ ¬ rch_ f l a n (j : Int) := by
          refine Classical.byContradiction (fun no => c (fun j j0 j1 hj => ?_))
          refine Classical.byContradiction (fun nj => no ⟨j.toNat, by omega, ?_, ?_⟩)
          · rw [Int.toNat_of_nonneg j0]; exact hj
          · rw [Int.toNat_of_nonneg j0]; exact nj
        have := cnt_lt (P := rch_ f l a n) (Q := rch_ f l a (n + 1)) 8 (fun j _ hj => .inl hj) c2
        omega
theorem rch_7 {f : gr_t} {l a : Int} (a0 : 0 ≤ a) (a1 : a < 8) {n : Nat} {j : Int} (j0 : 0 ≤ j) (j1 : j < 8) (h : rch_ f l a n j) : rch_ f l a 7 j := by
  have key : ∃ k : Nat, k ≤ 7 ∧ ∀ j : Int, 0 ≤ j → j < 8 → rch_ f l a (k + 1) j → rch_ f l a k j := by
    rcases rch_grow (f := f) (l := l) a0 a1 8 with ⟨k, hk, hs⟩ | hs
    · by_cases e : k ≤ 7
      · exact ⟨k, e, hs⟩
      · rcases rch_grow (f := f) (l := l) a0 a1 7 with ⟨k2, hk2, hs2⟩ | hs2
        · exact ⟨k2, hk2, hs2⟩
        · refine ⟨7, Nat.le_refl 7, fun j j0 j1 hj => ?_⟩
          refine Classical.byContradiction (fun nj => ?_)
          have h1 := cnt_lt (P := rch_ f l a 7) (Q := rch_ f l a 8) 8 (fun j _ hj => .inl hj) ⟨j.toNat, by omega, by rw [Int.toNat_of_nonneg j0]; exact hj, by rw [Int.toNat_of_nonneg j0]; exact nj⟩
          have h2 := cnt_le (rch_ f l a 8) 8
          omega
    · have h2 := cnt_le (rch_ f l a 8) 8
      omega
  obtain ⟨k, hk, hs⟩ := key
  rcases Nat.le_total n k with c | c
  · exact rch_le (rch_le h k c) 7 hk
  · obtain ⟨m, rfl⟩ : ∃ m, n = k + m := ⟨n - k, by omega⟩
    exact rch_le (rch_stay hs m j j0 j1 h) 7 hk
end
section
theorem xw1_ge (q : rw_t) (m : Int) (F : Int → Int) (j : Int) : F j ≤ xw1_ q m F j := by
  unfold xw1_
  by_cases e1 : j = q (16 + 6 * m)
  · rw [← e1, up_at]
    by_cases e2 : j = q (17 + 6 * m)
    · rw [← e2, up_at]
      omega
    · rw [up_ne e2]
      omega
  · rw [up_ne e1]
    by_cases e2 : j = q (17 + 6 * m)
    · rw [← e2, up_at]
      omega
    · rw [up_ne e2]
      omega
theorem xw1_hit {q : rw_t} {m l i j : Int} {F : Int → Int} (hi : l ≤ F i) (hm : jn_ q m i j) (hb : l ≤ br_ q m) : l ≤ xw1_ q m F j := by
  unfold xw1_
  rcases hm with ⟨h1, h2⟩ | ⟨h1, h2⟩
  · rw [h1, h2]
    by_cases e : j = i
    · subst e
      rw [up_at, up_at]
      omega
    · rw [up_ne e, up_at]
      omega
  · rw [h1, h2, up_at]
    have e1 : (up_ F i (max (F i) (min (F j) (br_ q m)))) i = max (F i) (min (F j) (br_ q m)) := up_at
    rw [e1]
    omega
theorem xw2_ge (q : rw_t) (F : Int → Int) (j : Int) (n : Nat) : ∀ m : Nat, xw2_ q F n j ≤ xw2_ q F (n + m) j
  | 0 => Int.le_refl _
  | m + 1 => Int.le_trans (xw2_ge q F j n m) (xw1_ge q ((n + m : Nat) : Int) (xw2_ q F (n + m)) j)
theorem xw2_hit {q : rw_t} {m : Nat} {l i j : Int} {F : Int → Int} {n : Nat} (hn : m < n) (hi : l ≤ F i) (hm : jn_ q m i j) (hb : l ≤ br_ q m) : l ≤ xw2_ q F n j := by
  have h1 : l ≤ xw2_ q F m i := by
    have := xw2_ge q F i 0 m
    rw [Nat.zero_add] at this
    exact Int.le_trans hi this
  have h2 : l ≤ xw2_ q F (m + 1) j := xw1_hit h1 hm hb
  obtain ⟨k, rfl⟩ : ∃ k, n = (m + 1) + k := ⟨n - (m + 1), by omega⟩
  exact Int.le_trans h2 (xw2_ge q F j (m + 1) k)
theorem sa_ex {r : rw_t} (hu : uj_ r) (h3 : 0 ≤ r 3) {l a b : Int} (l1 : 1 ≤ l) (h : l ≤ sa_ r a b) : ∃ m : Nat, (m : Int) < r 3 ∧ jn_ r m a b ∧ l ≤ br_ r m := by
  refine Classical.byContradiction (fun no => ?_)
  have z : sa_ r a b = 0 := by
    refine sa_no h3 (fun m m0 m1 hj => no ⟨m.toNat, by omega, ?_, ?_⟩)
    · rw [Int.toNat_of_nonneg m0]; exact hj
    · rw [Int.toNat_of_nonneg m0, ← sa_yes hu h3 m0 m1 hj]; exact h
  omega
theorem xw_full {q : rw_t} (hu : uj_ q) (h3 : 0 ≤ q 3) {l a : Int} (l1 : 1 ≤ l) (l9 : l ≤ 99) : ∀ (k n : Nat) (j : Int), n ≤ k → rch_ (sa_ q) l a n j → l ≤ xw_ q a k j
  | 0, n, j, hn, h => by
    have n0 : n = 0 := by omega
    subst n0
    have e : j = a := h
    show l ≤ xw0_ a j
    unfold xw0_
    rw [if_pos e]
    omega
  | k + 1, n, j, hk, h => by
    have ge : ∀ i, xw_ q a k i ≤ xw_ q a (k + 1) i := fun i => by
      have := xw2_ge q (xw_ q a k) i 0 (q 3).toNat
      rw [Nat.zero_add] at this
      exact this
    by_cases e : n ≤ k
    · exact Int.le_trans (xw_full hu h3 l1 l9 k n j e h) (ge j)
    · have en : n = k + 1 := by omega
      subst en
      rcases h with h | ⟨i, hi, hr, hl⟩
      · exact Int.le_trans (xw_full hu h3 l1 l9 k k j (Nat.le_refl k) h) (ge j)
      · obtain ⟨m, m1, hm, hb⟩ := sa_ex hu h3 l1 hl
        exact xw2_hit (by omega) (xw_full hu h3 l1 l9 k k i (Nat.le_refl k) hr) hm hb
theorem xw_sound {q : rw_t} (hW : wf_M q) (hu : uj_ q) {l a : Int} (l1 : 1 ≤ l) (k : Nat) : ∀ j : Int, 0 ≤ j → j < 8 → l ≤ xw_ q a k j → ∃ n : Nat, rch_ (sa_ q) l a n j := by
  have w3 := hW.1
  refine fo_inv (n := k) (P := fun (F : Int → Int) => ∀ j : Int, 0 ≤ j → j < 8 → l ≤ F j → ∃ n : Nat, rch_ (sa_ q) l a n j) (fun j _ _ h => ⟨0, ?_⟩) (fun _ F _ _ hF => ?_) k (Nat.le_refl k)
  · show j = a
    unfold xw0_ at h
    refine Classical.byContradiction (fun e => ?_)
    rw [if_neg e] at h
    omega
  · refine fo_inv (n := (q 3).toNat) (P := fun (F : Int → Int) => ∀ j : Int, 0 ≤ j → j < 8 → l ≤ F j → ∃ n : Nat, rch_ (sa_ q) l a n j) hF (fun m F m0 m1 hF => ?_) _ (Nat.le_refl _)
    obtain ⟨g0, g1, -⟩ := hW.2 m m0 (by omega)
    have s1 := sa_yes hu w3.1 m0 (by omega) (.inl ⟨rfl, rfl⟩ : jn_ q m (q (16 + 6 * m)) (q (17 + 6 * m)))
    have s2 := sa_yes hu w3.1 m0 (by omega) (.inr ⟨rfl, rfl⟩ : jn_ q m (q (17 + 6 * m)) (q (16 + 6 * m)))
    have st : ∀ i j : Int, 0 ≤ i → i < 8 → l ≤ F i → l ≤ sa_ q i j → ∃ n : Nat, rch_ (sa_ q) l a n j := fun i j i0 i1 hi hl => by
      obtain ⟨n, hn⟩ := hF i i0 i1 hi
      exact ⟨n + 1, .inr ⟨i, ⟨i0, i1⟩, hn, hl⟩⟩
    have hp : l ≤ max (F (q (17 + 6 * m))) (min (F (q (16 + 6 * m))) (br_ q m)) → ∃ n : Nat, rch_ (sa_ q) l a n (q (17 + 6 * m)) := fun h => by
      by_cases c : l ≤ F (q (17 + 6 * m))
      · exact hF _ g1.1 (by omega) c
      · exact st (q (16 + 6 * m)) _ g0.1 (by omega) (by omega) (by rw [s1]; omega)
    intro j j0 j1 h
    unfold xw1_ at h
    by_cases e1 : j = q (16 + 6 * m)
    · rw [← e1, up_at] at h
      rw [← e1] at hp s1 s2 g0
      rw [up_at] at h
      by_cases c : l ≤ (up_ F (q (17 + 6 * m)) (max (F (q (17 + 6 * m))) (min (F j) (br_ q m)))) j
      · by_cases e2 : j = q (17 + 6 * m)
        · rw [e2]
          rw [e2] at c
          rw [up_at] at c
          rw [e2] at hp
          exact hp c
        · rw [up_ne e2] at c
          exact hF j j0 j1 c
      · obtain ⟨n, hn⟩ := hp (by omega)
        exact ⟨n + 1, .inr ⟨q (17 + 6 * m), ⟨g1.1, by omega⟩, hn, by rw [s2]; omega⟩⟩
    · rw [up_ne e1] at h
      by_cases e2 : j = q (17 + 6 * m)
      · rw [e2]
        rw [e2, up_at] at h
        exact hp h
      · rw [up_ne e2] at h
        exact hF j j0 j1 h
theorem xw_iff {q : rw_t} (hW : wf_M q) (hu : uj_ q) {l a j : Int} (a0 : 0 ≤ a) (a1 : a < 8) (j0 : 0 ≤ j) (j1 : j < 8) (l1 : 1 ≤ l) (l9 : l ≤ 99) : l ≤ xw_ q a 8 j ↔ rch_ (sa_ q) l a 7 j :=
  ⟨fun h => by obtain ⟨n, hn⟩ := xw_sound hW hu l1 8 j j0 j1 h; exact rch_7 a0 a1 j0 j1 hn, fun h => xw_full hu hW.1.1 l1 l9 8 7 j (by decide) h⟩
end
section
theorem wp_spec (w q : Int → Int) : ∀ k : Nat, ((wp_ w q k).1 = -1 ∧ (wp_ w q k).2 = 0 ∧ ∀ j : Int, 0 ≤ j → j < k → q j = 0 → w j ≤ 0) ∨ ((0 ≤ (wp_ w q k).1 ∧ (wp_ w q k).1 < k) ∧ q (wp_ w q k).1 = 0 ∧ (wp_ w q k).2 = w (wp_ w q k).1 ∧ 0 < w (wp_ w q k).1 ∧ ∀ j : Int, 0 ≤ j → j < k → q j = 0 → w j ≤ w (wp_ w q k).1)
  | 0 => .inl ⟨rfl, rfl, fun j j0 j1 => by omega⟩
  | k + 1 => by
    have e : wp_ w q (k + 1) = wo_ w q (wp_ w q k) (k : Int) := rfl
    rw [e]
    unfold wo_
    by_cases c : q (k : Int) = 0 ∧ (wp_ w q k).2 < w (k : Int)
    · rw [if_pos c]
      refine .inr ⟨by constructor <;> simp only <;> omega, c.1, rfl, ?_, fun j j0 j1 hj => ?_⟩
      · rcases wp_spec w q k with ⟨-, h, -⟩ | ⟨-, -, h, h2, -⟩
        · simp only; omega
        · simp only; omega
      · by_cases ej : j = (k : Int)
        · rw [ej]; exact Int.le_refl _
        · rcases wp_spec w q k with ⟨-, h, h2⟩ | ⟨-, -, h, h2, h3⟩
          · have := h2 j j0 (by omega) hj
            simp only; omega
          · have := h3 j j0 (by omega) hj
            simp only; omega
    · rw [if_neg c]
      rcases wp_spec w q k with ⟨h0, h, h2⟩ | ⟨h0, h1, h, h2, h3⟩
      · refine .inl ⟨h0, h, fun j j0 j1 hj => ?_⟩
        by_cases ej : j = (k : Int)
        · rw [ej] at hj ⊢
          omega
        · exact h2 j j0 (by omega) hj
      · refine .inr ⟨by omega, h1, h, h2, fun j j0 j1 hj => ?_⟩
        by_cases ej : j = (k : Int)
        · rw [ej] at hj ⊢
          omega
        · exact h3 j j0 (by omega) hj
def wiv_ (f : gr_t) (a : Int) (s : wq_t) : Prop := s.2 a ≠ 0 ∧ (∀ n m : Int, 0 ≤ n → n < 8 → s.2 n ≠ 0 → n ≠ a → 0 ≤ m → m < 8 → s.2 m = 0 → s.1 m ≤ s.1 n) ∧ (∀ n j : Int, 0 ≤ n → n < 8 → s.2 n ≠ 0 → n ≠ a → 0 ≤ j → j < 8 → min (s.1 n) (f n j) ≤ s.1 j) ∧ (∀ j : Int, 0 ≤ j → j < 8 → f a j ≤ s.1 j) ∧ ∀ l j : Int, 1 ≤ l → 0 ≤ j → j < 8 → l ≤ s.1 j → ∃ n : Nat, rch_ f l a n j
def wend_ (s : wq_t) : Prop := ∀ j : Int, 0 ≤ j → j < 8 → s.2 j = 0 → s.1 j ≤ 0
theorem wiv_0 (f : gr_t) {a : Int} (a0 : 0 ≤ a) (a1 : a < 8) : wiv_ f a (wi_ f a) := by
  refine ⟨by simp [wi_], fun n m n0 n1 hn na => ?_, fun n j n0 n1 hn na => ?_, fun j _ _ => Int.le_refl _, fun l j l1 j0 j1 h => ⟨1, .inr ⟨a, ⟨a0, a1⟩, rfl, h⟩⟩⟩
  · exact absurd (by simp [wi_, na]) hn
  · exact absurd (by simp [wi_, na]) hn
theorem wiv_s {f : gr_t} {a : Int} {s : wq_t} (h : wiv_ f a s) (hn : wn_ s.1 s.2 ≠ -1) : wiv_ f a (wg_ f s) ∧ s.2 (wn_ s.1 s.2) = 0 ∧ (0 ≤ wn_ s.1 s.2 ∧ wn_ s.1 s.2 < 8) ∧ 0 < s.1 (wn_ s.1 s.2) := by
  obtain ⟨i0, i1, i2, i3, i4⟩ := h
  have e : wn_ s.1 s.2 = (wp_ s.1 s.2 8).1 := rfl
  rcases wp_spec s.1 s.2 8 with ⟨h0, -, -⟩ | ⟨n01, nu, -, npos, nmax⟩
  · exact absurd (e.trans h0) hn
  · rw [← e] at n01 nu npos nmax
    unfold wg_
    rw [if_neg hn]
    generalize wn_ s.1 s.2 = n at n01 nu npos nmax
    have na : n ≠ a := fun q => i0 (q ▸ nu)
    have keep : ∀ j, s.1 j ≤ max (s.1 j) (min (s.1 n) (f n j)) := fun j => by omega
    have vis : ∀ j : Int, up_ s.2 n 1 j ≠ 0 ↔ (s.2 j ≠ 0 ∨ j = n) := fun j => by
      unfold up_
      split
      · rename_i q; exact ⟨fun _ => .inr q, fun _ => by decide⟩
      · rename_i q; exact ⟨fun h => .inl h, fun h => h.resolve_right q⟩
    have unv : ∀ j : Int, up_ s.2 n 1 j = 0 → s.2 j = 0 ∧ j ≠ n := fun j hj => by
      refine ⟨Classical.byContradiction fun c => (vis j).mpr (.inl c) hj, fun c => (vis j).mpr (.inr c) hj⟩
    refine ⟨⟨(vis a).mpr (.inl i0), fun x m x0 x1 hx xa m0 m1 hm => ?_, fun x j x0 x1 hx xa j0 j1 => ?_, fun j j0 j1 => Int.le_trans (i3 j j0 j1) (keep j), fun l j l1 j0 j1 hj => ?_⟩, nu, by omega, npos⟩
    · obtain ⟨mu, mn⟩ := unv m hm
      have t1 := nmax m m0 (by omega) mu
      show max (s.1 m) (min (s.1 n) (f n m)) ≤ max (s.1 x) (min (s.1 n) (f n x))
      rcases (vis x).mp hx with hv | rfl
      · have t2 := i1 x m x0 x1 hv xa m0 m1 mu
        have t3 := i1 x n x0 x1 hv xa n01.1 (by omega) nu
        omega
      · omega
    · show min (max (s.1 x) (min (s.1 n) (f n x))) (f x j) ≤ max (s.1 j) (min (s.1 n) (f n j))
      rcases (vis x).mp hx with hv | rfl
      · have t3 := i1 x n x0 x1 hv xa n01.1 (by omega) nu
        have t4 := i2 x j x0 x1 hv xa j0 j1
        omega
      · omega
    · have hj : l ≤ max (s.1 j) (min (s.1 n) (f n j)) := hj
      by_cases c : l ≤ s.1 j
      · exact i4 l j l1 j0 j1 c
      · obtain ⟨k, hk⟩ := i4 l n l1 n01.1 (by omega) (by omega)
        exact ⟨k + 1, .inr ⟨n, ⟨n01.1, by omega⟩, hk, by omega⟩⟩
theorem wk_inv (f : gr_t) {a : Int} (a0 : 0 ≤ a) (a1 : a < 8) : ∀ k : Nat, wiv_ f a (wk_ f a k) ∧ (k + 1 ≤ cnt_ (fun j => (wk_ f a k).2 j ≠ 0) 8 ∨ wend_ (wk_ f a k))
  | 0 => by
    refine ⟨wiv_0 f a0 a1, .inl ?_⟩
    have h := cnt_lt (P := fun _ => False) (Q := fun j => (wk_ f a 0).2 j ≠ 0) 8 (fun j hj h => h.elim) ⟨a.toNat, by omega, by rw [Int.toNat_of_nonneg a0]; exact (wiv_0 f a0 a1).1, fun h => h⟩
    omega
  | k + 1 => by
    obtain ⟨h1, h2⟩ := wk_inv f a0 a1 k
    have e : wk_ f a (k + 1) = wg_ f (wk_ f a k) := rfl
    rw [e]
    by_cases hn : wn_ (wk_ f a k).1 (wk_ f a k).2 = -1
    · have eg : wg_ f (wk_ f a k) = wk_ f a k := by unfold wg_; rw [if_pos hn]
      rw [eg]
      refine ⟨h1, .inr (fun j j0 j1 hj => ?_)⟩
      have en : wn_ (wk_ f a k).1 (wk_ f a k).2 = (wp_ (wk_ f a k).1 (wk_ f a k).2 8).1 := rfl
      rcases wp_spec (wk_ f a k).1 (wk_ f a k).2 8 with ⟨-, -, h⟩ | ⟨h, -⟩
      · exact h j j0 (by omega) hj
      · omega
    · obtain ⟨i1, nu, n01, npos⟩ := wiv_s h1 hn
      refine ⟨i1, .inl ?_⟩
      rcases h2 with h2 | h2
      · have h := cnt_lt (P := fun j => (wk_ f a k).2 j ≠ 0) (Q := fun j => (wg_ f (wk_ f a k)).2 j ≠ 0) 8 (fun j hj hv => by
            unfold wg_
            rw [if_neg hn]
            show up_ (wk_ f a k).2 _ 1 (j : Int) ≠ 0
            unfold up_
            split
            · decide
            · exact hv) ⟨(wn_ (wk_ f a k).1 (wk_ f a k).2).toNat, by omega, by
            unfold wg_
            rw [if_neg hn, Int.toNat_of_nonneg n01.1]
            show up_ (wk_ f a k).2 _ 1 _ ≠ 0
            rw [up_at]
            decide, by
            rw [Int.toNat_of_nonneg n01.1]
            exact fun q => q nu⟩
        omega
      · have := h2 _ n01.1 n01.2 nu
        omega
theorem wb_iff {f : gr_t} {l a b : Int} (a0 : 0 ≤ a) (a1 : a < 8) (b0 : 0 ≤ b) (b1 : b < 8) (hne : b ≠ a) (l1 : 1 ≤ l) : l ≤ wb_ f a b ↔ rch_ f l a 7 b := by
  obtain ⟨⟨i0, i1, i2, i3, i4⟩, hc⟩ := wk_inv f a0 a1 7
  have fin : wend_ (wk_ f a 7) := by
    rcases hc with hc | hc
    · intro j j0 j1 hj
      have h := cnt_lt (P := fun j => (wk_ f a 7).2 j ≠ 0) (Q := fun _ => True) 8 (fun _ _ _ => trivial) ⟨j.toNat, by omega, trivial, by rw [Int.toNat_of_nonneg j0]; exact fun q => q hj⟩
      have h2 := cnt_le (fun _ => True) 8
      omega
    · exact hc
  have comp : ∀ (n : Nat) (j : Int), 0 ≤ j → j < 8 → rch_ f l a n j → j = a ∨ l ≤ (wk_ f a 7).1 j := by
    intro n
    induction n with
    | zero => intro j _ _ h; exact .inl h
    | succ n ih =>
      intro j j0 j1 h
      rcases h with h | ⟨i, hi, hr, hl⟩
      · exact ih j j0 j1 h
      · rcases ih i hi.1 hi.2 hr with e | e
        · rw [e] at hl
          exact .inr (Int.le_trans hl (i3 j j0 j1))
        · by_cases c : i = a
          · rw [c] at hl
            exact .inr (Int.le_trans hl (i3 j j0 j1))
          · have hv : (wk_ f a 7).2 i ≠ 0 := fun q => by
              have := fin i hi.1 hi.2 q
              omega
            have := i2 i j hi.1 hi.2 hv c j0 j1
            exact .inr (by omega)
  refine ⟨fun h => ?_, fun h => (comp 7 b b0 b1 h).resolve_left hne⟩
  obtain ⟨n, hn⟩ := i4 l b l1 b0 b1 h
  exact rch_7 a0 a1 b0 b1 hn
theorem wb_xw {q : rw_t} (hW : wf_M q) (hu : uj_ q) {a b : Int} (a0 : 0 ≤ a) (a1 : a < 8) (b0 : 0 ≤ b) (b1 : b < 8) (hne : b ≠ a) (hx : xw_ q a 8 b ≤ 99) : wb_ (sa_ q) a b = xw_ q a 8 b := by
  have l1 := wb_le (sa_le hW) a0 a1 b0 b1
  have l2 := (xw_lm hW a 8) b b0 b1
  have h1 : 1 ≤ wb_ (sa_ q) a b → wb_ (sa_ q) a b ≤ xw_ q a 8 b := fun h => (xw_iff hW hu a0 a1 b0 b1 h l1.2).mpr ((wb_iff a0 a1 b0 b1 hne h).mp (Int.le_refl _))
  have h2 : 1 ≤ xw_ q a 8 b → xw_ q a 8 b ≤ wb_ (sa_ q) a b := fun h => (wb_iff a0 a1 b0 b1 hne h).mpr ((xw_iff hW hu a0 a1 b0 b1 h hx).mp (Int.le_refl _))
  omega
end
section
theorem xw_99 {q : rw_t} (hW : wf_M q) (a : Int) (k : Nat) : ∀ j : Int, j ≠ a → xw_ q a k j ≤ 99 := by
  have w3 := hW.1
  refine fo_inv (n := k) (P := fun (F : Int → Int) => ∀ j : Int, j ≠ a → F j ≤ 99) (fun j h => ?_) (fun _ F _ _ hF => ?_) k (Nat.le_refl k)
  · unfold xw0_
    rw [if_neg h]
    decide
  · refine fo_inv (n := (q 3).toNat) (P := fun (F : Int → Int) => ∀ j : Int, j ≠ a → F j ≤ 99) hF (fun m F m0 m1 hF => ?_) _ (Nat.le_refl _)
    have hb := br_le hW m0 (by omega : m < 16)
    intro j hj
    have h0 := hF j hj
    unfold xw1_
    by_cases e1 : j = q (16 + 6 * m)
    · rw [← e1, up_at]
      by_cases e2 : j = q (17 + 6 * m)
      · rw [← e2, up_at]
        omega
      · rw [up_ne e2]
        omega
    · rw [up_ne e1]
      by_cases e2 : j = q (17 + 6 * m)
      · rw [← e2, up_at]
        omega
      · rw [up_ne e2]
        omega
end
section
def wkt_ (q : rw_t) (u v n : Int) : Int := if ¬ ((0 ≤ u ∧ u < 8) ∧ 0 ≤ v ∧ v < 8) then 1 else if u = v ∨ n < 1 ∨ 99 < n then 2 else if xw_ q u 8 v ≤ 0 then 3 else if xw_ q u 8 v < n + tw_ q then 4 else 0
def eJ_ (q r : rw_t) : Prop := r 3 = q 3 ∧ ∀ k : Int, 0 ≤ k → k < 16 → r (16 + 6 * k) = q (16 + 6 * k) ∧ r (17 + 6 * k) = q (17 + 6 * k)
theorem rd_eJ {q r : rw_t} {x f : Int} (h : eJ_ q r) : eJ_ q (rd_ r x f) := by
  refine ⟨?_, fun k k0 k1 => ⟨?_, ?_⟩⟩
  · unfold rd_
    rw [if_neg (by omega), if_neg (by omega)]
    exact h.1
  · unfold rd_
    rw [if_neg (by omega), if_neg (by omega)]
    exact (h.2 k k0 k1).1
  · unfold rd_
    rw [if_neg (by omega), if_neg (by omega)]
    exact (h.2 k k0 k1).2
theorem uj_eJ {q r : rw_t} (h3 : q 3 ≤ 16) (h : eJ_ q r) (hu : uj_ q) : uj_ r := by
  refine ⟨fun k k0 k1 => ?_, fun k l k0 k1 k2 => ?_⟩
  · have e := h.2 k k0 (by have := h.1; omega)
    have := hu.1 k k0 (by have := h.1; omega)
    omega
  · have e := h.2 k k0 (by have := h.1; omega)
    have e2 := h.2 l (by omega) (by have := h.1; omega)
    have := hu.2 k l k0 k1 (by have := h.1; omega)
    omega
end
section
theorem wkt_le (q : rw_t) (u v n : Int) : 0 ≤ wkt_ q u v n ∧ wkt_ q u v n ≤ 4 := by
  unfold wkt_
  (repeat' split) <;> omega
theorem bt_eq {r : rw_t} (hu : uj_ r) {a b x y : Int} (hx : bt_ r a b x) (hy : bt_ r a b y) : x = y := by
  rcases hx with ⟨x0, hx⟩ | ⟨x0, x1, hx⟩
  · rcases hy with ⟨y0, -⟩ | ⟨y0, y1, hy⟩
    · omega
    · exact absurd hy (hx y y0 y1)
  · rcases hy with ⟨-, hy⟩ | ⟨y0, y1, hy⟩
    · exact absurd hx (hy x x0 x1)
    · exact uj_eq hu x0 x1 y0 y1 hx hy
theorem wl_eq {f : Int} {J J' : Int → Int} {q : rw_t} (h3 : q 3 ≤ 16) (hu : uj_ q) : ∀ (n : Nat) (r r' : rw_t), (∀ k : Nat, k ≤ n → J (k : Int) = J' (k : Int)) → wl_ f J q n r → wl_ f J' q n r' → r = r' ∧ eJ_ q r
  | 0, r, r', _, h, h' => by
    have e : r = q := h
    have e' : r' = q := h'
    rw [e, e']
    exact ⟨rfl, rfl, fun _ _ _ => ⟨rfl, rfl⟩⟩
  | n + 1, r, r', hJ, h, h' => by
    obtain ⟨q1, x, h1, b1, e1⟩ := h
    obtain ⟨q2, y, h2, b2, e2⟩ := h'
    obtain ⟨e, eJ⟩ := wl_eq h3 hu n q1 q2 (fun k hk => hJ k (by omega)) h1 h2
    subst e
    have hJ1 := hJ (n + 1) (Nat.le_refl _)
    rw [show ((n + 1 : Nat) : Int) = (n : Int) + 1 by omega] at hJ1
    rw [← hJ n (by omega), ← hJ1] at b2
    have exy := bt_eq (uj_eJ h3 eJ hu) b1 b2
    subst exy
    rw [e1, e2]
    refine ⟨rfl, ?_⟩
    split
    · exact eJ
    · exact rd_eJ eJ
theorem wq_wkt {q : rw_t} (hW : wf_M q) (hU : uj_ q) (u v n : Int) : wq_ q u v n = if wkt_ q u v n = 3 then 4 else if wkt_ q u v n = 4 then 5 else wkt_ q u v n := by
  have le := wkt_le q u v n
  by_cases hj : (0 ≤ u ∧ u < 8) ∧ 0 ≤ v ∧ v < 8
  · by_cases hne : u = v
    · have e1 : wkt_ q u v n = 2 := by
        unfold wkt_
        rw [if_neg (fun k => k hj), if_pos (.inl hne)]
      have e2 : pf_ u v = 2 := by
        unfold pf_
        rw [if_neg (fun k => k hj), if_pos hne]
      unfold wq_
      rw [e1, e2]
      rfl
    · have e2 : pf_ u v = 0 := by
        unfold pf_
        rw [if_neg (fun k => k hj), if_neg hne]
      obtain ⟨⟨u0, u1⟩, v0, v1⟩ := id hj
      have W := wb_xw hW hU u0 u1 v0 v1 (fun e => hne e.symm) (xw_99 hW u 8 v (fun e => hne e.symm))
      have lw := (xw_lm hW u 8) v v0 v1
      have ew : wq_ q u v n = if n < 1 ∨ 99 < n then 2 else if xw_ q u 8 v = 0 then 4 else if xw_ q u 8 v < n + tw_ q then 5 else 0 := by
        unfold wq_
        rw [e2, W, if_neg (show ¬ (0 : Int) ≠ 0 by decide)]
      have ek : wkt_ q u v n = if u = v ∨ n < 1 ∨ 99 < n then 2 else if xw_ q u 8 v ≤ 0 then 3 else if xw_ q u 8 v < n + tw_ q then 4 else 0 := by
        unfold wkt_
        rw [if_neg (fun k => k hj)]
      rw [ew]
      by_cases c1 : n < 1 ∨ 99 < n
      · rw [if_pos (show u = v ∨ n < 1 ∨ 99 < n from .inr c1)] at ek
        rw [ek, if_pos c1]
        rfl
      · rw [if_neg (show ¬ (u = v ∨ n < 1 ∨ 99 < n) from fun k => k.elim hne c1)] at ek
        rw [if_neg c1]
        by_cases c2 : xw_ q u 8 v = 0
        · rw [if_pos (show xw_ q u 8 v ≤ 0 by omega)] at ek
          rw [ek, if_pos c2]
          rfl
        · rw [if_neg (show ¬ xw_ q u 8 v ≤ 0 by omega)] at ek
          rw [if_neg c2]
          by_cases c3 : xw_ q u 8 v < n + tw_ q
          · rw [if_pos c3] at ek
            rw [ek, if_pos c3]
            rfl
          · rw [if_neg c3] at ek
            rw [ek, if_neg c3]
            rfl
  · have e1 : wkt_ q u v n = 1 := by
      unfold wkt_
      rw [if_pos hj]
    have e2 : pf_ u v = 1 := by
      unfold pf_
      rw [if_pos hj]
    unfold wq_
    rw [e1, e2]
    rfl
end
section
theorem eJ_refl (q : rw_t) : eJ_ q q := ⟨rfl, fun _ _ _ => ⟨rfl, rfl⟩⟩
theorem eJ_rn {q r : rw_t} {m : Int} (h : eJ_ q r) : eJ_ q (rn_ r m) := by
  refine ⟨?_, fun k k0 k1 => ⟨?_, ?_⟩⟩
  · unfold rn_
    rw [if_neg (by omega), if_neg (by omega)]
    exact h.1
  · unfold rn_
    rw [if_neg (by omega), if_neg (by omega)]
    exact (h.2 k k0 k1).1
  · unfold rn_
    rw [if_neg (by omega), if_neg (by omega)]
    exact (h.2 k k0 k1).2
theorem eJ_rl {q r : rw_t} {m w : Int} (m0 : 0 ≤ m) (h : eJ_ q r) : eJ_ q (rl_ r m w) := by
  refine ⟨?_, fun k k0 k1 => ⟨?_, ?_⟩⟩
  · unfold rl_
    rw [if_neg (by omega)]
    exact h.1
  · unfold rl_
    rw [if_neg (by omega)]
    exact (h.2 k k0 k1).1
  · unfold rl_
    rw [if_neg (by omega)]
    exact (h.2 k k0 k1).2
theorem eJ_up {q r : rw_t} {i v : Int} (h : eJ_ q r) (hi : i ≠ 3 ∧ (i < 16 ∨ 112 ≤ i)) : eJ_ q (up_ r i v) := by
  refine ⟨(up_ne (by omega)).trans h.1, fun k k0 k1 => ⟨(up_ne (by omega)).trans (h.2 k k0 k1).1, (up_ne (by omega)).trans (h.2 k k0 k1).2⟩⟩
theorem eJ_rs {q r : rw_t} {c : Int} (h : eJ_ q r) : eJ_ q (rs_ r c) := eJ_up (eJ_up h (by decide)) (by decide)
theorem eJ_rv {q r : rw_t} {a u : Int} (h : eJ_ q r) (h4 : 0 ≤ r 4) : eJ_ q (rv_ r a u) := eJ_up (eJ_up (eJ_up (eJ_up (eJ_up h (by omega)) (by omega)) (by omega)) (by decide)) (by decide)
theorem eJ_rp {q r : rw_t} {p w : Int} (h : eJ_ q r) (hp : 0 ≤ p ∧ p ≤ 3) : eJ_ q (rp_ r p w) := eJ_up h (by omega)
theorem eJ_re {q r : rw_t} {c : Int} (h : eJ_ q r) : eJ_ q (re_ r c) := by
  refine ⟨?_, fun k k0 k1 => ⟨?_, ?_⟩⟩
  · unfold re_
    rw [if_neg (by omega), if_neg (by omega)]
    exact h.1
  · unfold re_
    rw [if_neg (by omega), if_neg (by omega)]
    exact (h.2 k k0 k1).1
  · unfold re_
    rw [if_neg (by omega), if_neg (by omega)]
    exact (h.2 k k0 k1).2
theorem eJ_ps {B : Int} {q : rw_t} (hT : wf_T B q) (n : Nat) : eJ_ q (ps_ q n) := by
  have h := (ps_wf hT n).2
  have e := (ps_e hT n).1
  refine ⟨?_, fun k k0 k1 => ⟨h _ (by omega) (by omega), h _ (by omega) (by omega)⟩⟩
  exact e 3 (by omega)
theorem uj_ra {q : rw_t} (hW : wf_M q) (hu : uj_ q) {x y s : Int} (ha : adr_ q x y s 0) : uj_ (ra_ q x y s) := by
  have w := hW.1
  obtain ⟨hj, hr, h16, hno⟩ : ((0 ≤ x ∧ x < 8) ∧ 0 ≤ y ∧ y < 8) ∧ (x ≠ y ∧ 1 ≤ s ∧ s ≤ 99) ∧ q 3 < 16 ∧ ∀ k : Int, 0 ≤ k → k < q 3 → ¬ jr_ q k x y := by
    rcases ha with ⟨-, e⟩ | ⟨-, -, e⟩ | ⟨-, -, -, e⟩ | ⟨h1, h2, h3, h4, -⟩
    · exact absurd e (by decide)
    · exact absurd e (by decide)
    · exact absurd e (by decide)
    · exact ⟨h1, h2, h3, h4⟩
  have n3 : ra_ q x y s 3 = q 3 + 1 := by unfold ra_; rw [if_pos rfl]
  have na : ra_ q x y s (16 + 6 * q 3) = min x y := by unfold ra_; rw [if_neg (by omega), if_pos rfl]
  have nb : ra_ q x y s (17 + 6 * q 3) = max x y := by unfold ra_; rw [if_neg (by omega), if_neg (by omega), if_pos rfl]
  have old : ∀ k : Int, 0 ≤ k → k < q 3 → ra_ q x y s (16 + 6 * k) = q (16 + 6 * k) ∧ ra_ q x y s (17 + 6 * k) = q (17 + 6 * k) := fun k k0 k1 => by
    constructor <;> unfold ra_ <;> rw [if_neg (by omega), if_neg (by omega), if_neg (by omega), if_neg (by omega), if_neg (by omega), if_neg (by omega), if_neg (by omega)]
  refine ⟨fun k k0 k1 => ?_, fun k l k0 k1 k2 hh => ?_⟩
  · by_cases e : k = q 3
    · subst e
      rw [na, nb]
      omega
    · rw [(old k k0 (by omega)).1, (old k k0 (by omega)).2]
      exact hu.1 k k0 (by omega)
  · rw [(old k k0 (by omega)).1, (old k k0 (by omega)).2] at hh
    by_cases e : l = q 3
    · subst e
      rw [na, nb] at hh
      exact hno k k0 (by omega) hh
    · rw [(old l (by omega) (by omega)).1, (old l (by omega) (by omega)).2] at hh
      exact hu.2 k l k0 k1 (by omega) hh
end
section
theorem mq_adr {q : rw_t} (hu : uj_ q) {x y s f : Int} (h : mq_ q x y s f) : adr_ q x y s f := by
  have p0 : pf_ x y = 0 → ((0 ≤ x ∧ x < 8) ∧ 0 ≤ y ∧ y < 8) ∧ x ≠ y := fun e => by
    unfold pf_ at e
    by_cases c : (0 ≤ x ∧ x < 8) ∧ 0 ≤ y ∧ y < 8
    · rw [if_neg (fun k => k c)] at e
      by_cases c2 : x = y
      · rw [if_pos c2] at e
        exact absurd e (by decide)
      · exact ⟨c, c2⟩
    · rw [if_pos c] at e
      exact absurd e (by decide)
  rcases h with ⟨h1, h2⟩ | ⟨h1, h2, h3⟩ | ⟨h1, h2, h3, h4⟩ | ⟨h1, h2, h3, h4, h5⟩
  · unfold pf_ at h1 h2
    by_cases c : (0 ≤ x ∧ x < 8) ∧ 0 ≤ y ∧ y < 8
    · rw [if_neg (fun k => k c)] at h1 h2
      by_cases c2 : x = y
      · rw [if_pos c2] at h2
        exact .inr (.inl ⟨c, fun k => k.1 c2, h2⟩)
      · rw [if_neg c2] at h1
        exact absurd rfl h1
    · rw [if_pos c] at h2
      exact .inl ⟨c, h2⟩
  · exact .inr (.inl ⟨(p0 h1).1, by omega, h3⟩)
  · refine .inr (.inr (.inl ⟨(p0 h1).1, ⟨(p0 h1).2, h2⟩, ?_, h4⟩))
    rcases h3 with h3 | ⟨k, k0, k1, hk⟩
    · exact .inl h3
    · exact .inr ⟨k, k0, k1, (jn_jr (hu.1 k k0 k1)).mpr hk⟩
  · exact .inr (.inr (.inr ⟨(p0 h1).1, ⟨(p0 h1).2, h2⟩, h3, fun k k0 k1 hk => h4 k k0 k1 ((jn_jr (hu.1 k k0 k1)).mp hk), h5⟩))
end
section
theorem wl_wf {f : Int} {J : Int → Int} {q : rw_t} (hW : wf_M q) (hf : 0 ≤ f) : ∀ (n : Nat) (r : rw_t), wl_ f J q n r → wf_M r ∧ eN_ q r ∧ eT_ q r
  | 0, r, h => by
    have e : r = q := h
    rw [e]
    exact ⟨hW, fun _ _ => rfl, fun _ _ => rfl⟩
  | n + 1, r, h => by
    obtain ⟨q1, x, h1, b1, e1⟩ := h
    obtain ⟨a1, a2, a3⟩ := wl_wf hW hf n q1 h1
    rw [e1]
    split
    · exact ⟨a1, a2, a3⟩
    · rename_i c
      have w := a1.1
      have lx : 0 ≤ x ∧ x < q1 3 := by
        rcases b1 with ⟨e, -⟩ | ⟨x0, x1, -⟩
        · exact absurd e c
        · exact ⟨x0, x1⟩
      obtain ⟨b1, b2, b3⟩ := rd_wf (m := x) (f := f) a1 lx.1 (by omega) hf
      exact ⟨b1, fun j hj => (b2 j hj).trans (a2 j hj), fun j hj => (b3 j hj).trans (a3 j hj)⟩
end
section
theorem sm_lt {f h : Int → Int} : ∀ (n : Nat) (i : Int), (∀ k : Int, 0 ≤ k → k < n → f k ≤ h k) → 0 ≤ i → i < n → f i < h i → sm_ f n < sm_ h n
  | 0, i, _, _, hi, _ => by omega
  | n + 1, i, hle, i0, i1, hlt => by
    have e1 : sm_ f (n + 1) = sm_ f n + f n := rfl
    have e2 : sm_ h (n + 1) = sm_ h n + h n := rfl
    have hn := hle n (by omega) (by omega)
    by_cases e : i = n
    · subst e
      have : sm_ f n ≤ sm_ h n := by
        clear e1 e2 hn hlt i0 i1
        induction n with
        | zero => exact Int.le_refl _
        | succ n ih =>
          have a := ih (fun k k0 k1 => hle k k0 (by omega))
          have b := hle n (by omega) (by omega)
          show sm_ f n + f n ≤ sm_ h n + h n
          omega
      omega
    · have := sm_lt n i (fun k k0 k1 => hle k k0 (by omega)) i0 (by omega) hlt
      omega
theorem rk_lt {q : rw_t} {x u : Int} (u0 : 0 ≤ x) (u1 : x < q 3) (hb : bb_ q x u = 1) : rk_ q x < rk_ q u := by
  refine sm_lt (q 3).toNat x (fun k k0 k1 => ?_) u0 (by omega) ?_
  · have l1 := bb_01 q k x
    have l2 := bb_01 q k u
    show bb_ q k x ≤ bb_ q k u
    by_cases c : bb_ q k x = 1
    · have : bb_ q k u = 1 := by
        unfold bb_ at c hb ⊢
        (repeat' split at c) <;> (repeat' split at hb) <;> (repeat' split) <;> omega
      omega
    · omega
  · show bb_ q x x < bb_ q x u
    have : bb_ q x x = 0 := by
      unfold bb_
      (repeat' split) <;> omega
    omega
theorem rk_inj {q : rw_t} {x u : Int} (x0 : 0 ≤ x ∧ x < q 3) (u0 : 0 ≤ u ∧ u < q 3) (h : rk_ q x = rk_ q u) : x = u := by
  refine Classical.byContradiction (fun ne => ?_)
  have : bb_ q x u = 1 ∨ bb_ q u x = 1 := by
    unfold bb_
    (repeat' split) <;> omega
  rcases this with c | c
  · have := rk_lt x0.1 x0.2 c
    omega
  · have := rk_lt u0.1 u0.2 c
    omega
theorem vk_lt {q : rw_t} {x u : Int} (u0 : 0 ≤ x) (u1 : x < q 4) (hb : vb_ q x u = 1) : vk_r q x < vk_r q u := by
  refine sm_lt (q 4).toNat x (fun k k0 k1 => ?_) u0 (by omega) ?_
  · have l1 := vb_01 q k x
    have l2 := vb_01 q k u
    show vb_ q k x ≤ vb_ q k u
    by_cases c : vb_ q k x = 1
    · have : vb_ q k u = 1 := by
        unfold vb_ at c hb ⊢
        (repeat' split at c) <;> (repeat' split at hb) <;> (repeat' split) <;> omega
      omega
    · omega
  · show vb_ q x x < vb_ q x u
    have : vb_ q x x = 0 := by
      unfold vb_
      (repeat' split) <;> omega
    omega
theorem vk_inj {B : Int} {q : rw_t} (hT : wf_T B q) {x u : Int} (x0 : 0 ≤ x ∧ x < q 4) (u0 : 0 ≤ u ∧ u < q 4) (h : vk_r q x = vk_r q u) : x = u := by
  obtain ⟨-, -, -, -, -, -, -, -, -, -, -, -, -, -, To⟩ := hT
  refine Classical.byContradiction (fun ne => ?_)
  have o1 : x < u → q (112 + 3 * x) < q (112 + 3 * u) := fun c => To x u x0.1 c u0.2
  have o2 : u < x → q (112 + 3 * u) < q (112 + 3 * x) := fun c => To u x u0.1 c x0.2
  have : vb_ q x u = 1 ∨ vb_ q u x = 1 := by
    unfold vb_
    (repeat' split) <;> omega
  rcases this with c | c
  · have := vk_lt x0.1 x0.2 c
    omega
  · have := vk_lt u0.1 u0.2 c
    omega
end
