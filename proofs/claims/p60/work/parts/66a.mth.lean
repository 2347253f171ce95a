section
def xm1_ (q : rw_t) (l w m : Int) (f : Int → Int) : Int → Int := if m ≠ w ∧ l ≤ br_ q m then up_ (up_ f (q (17 + 6 * m)) (min (f (q (17 + 6 * m))) (f (q (16 + 6 * m)) + 1))) (q (16 + 6 * m)) (min ((up_ f (q (17 + 6 * m)) (min (f (q (17 + 6 * m))) (f (q (16 + 6 * m)) + 1))) (q (16 + 6 * m))) ((up_ f (q (17 + 6 * m)) (min (f (q (17 + 6 * m))) (f (q (16 + 6 * m)) + 1))) (q (17 + 6 * m)) + 1)) else f
def xm2_ (q : rw_t) (l w : Int) (f : Int → Int) (k : Nat) : Int → Int := fo_ (fun m f => xm1_ q l w m f) f k
def xm0_ (a : Int) : Int → Int := fun j => if j = a then 0 else 99999
def xm_ (q : rw_t) (l w a : Int) (k : Nat) : Int → Int := fo_ (fun _ f => xm2_ q l w f (q 3).toNat) (xm0_ a) k
end
section
def nx_ (f : gr_t) (l : Int) (D : Int → Int) (a c : Int) : Nat → Int
  | 0 => -1
  | n + 1 => if l ≤ f a (7 - (n : Int)) ∧ D (7 - (n : Int)) = c then 7 - (n : Int) else nx_ f l D a c n
def wy1_ (f : gr_t) (l : Int) (D : Int → Int) (a : Int) : Nat → Int
  | 0 => a
  | k + 1 => nx_ f l D (wy1_ f l D a k) (D a - ((k : Int) + 1)) 8
end
section
theorem xm1_le2 (q : rw_t) (l w m : Int) (F : Int → Int) (j : Int) : xm1_ q l w m F j ≤ F j := by
  unfold xm1_
  split
  · by_cases e1 : j = q (16 + 6 * m)
    · rw [← e1, up_at]
      by_cases e2 : j = q (17 + 6 * m)
      · rw [← e2, up_at]
        omega
      · rw [up_ne e2]
        omega
    · rw [up_ne e1]
      by_cases e2 : j = q (17 + 6 * m)
      · rw [← e2, up_at]
        omega
      · rw [up_ne e2]
        omega
  · exact Int.le_refl _
theorem xm1_hit {q : rw_t} {m l w i j n : Int} {F : Int → Int} (hi : F i ≤ n) (hm : jn_ q m i j) (hb : l ≤ br_ q m) (hw : m ≠ w) : xm1_ q l w m F j ≤ n + 1 := by
  unfold xm1_
  rw [if_pos ⟨hw, hb⟩]
  rcases hm with ⟨h1, h2⟩ | ⟨h1, h2⟩
  · rw [h1, h2]
    by_cases e : j = i
    · subst e
      rw [up_at, up_at]
      omega
    · rw [up_ne e, up_at]
      omega
  · rw [h1, h2, up_at]
    have e1 : (up_ F i (min (F i) (F j + 1))) i = min (F i) (F j + 1) := up_at
    rw [e1]
    omega
theorem xm2_le2 (q : rw_t) (l w : Int) (F : Int → Int) (j : Int) (n : Nat) : ∀ m : Nat, xm2_ q l w F (n + m) j ≤ xm2_ q l w F n j
  | 0 => Int.le_refl _
  | m + 1 => Int.le_trans (xm1_le2 q l w ((n + m : Nat) : Int) (xm2_ q l w F (n + m)) j) (xm2_le2 q l w F j n m)
theorem xm2_hit {q : rw_t} {m : Nat} {l w i j c : Int} {F : Int → Int} {n : Nat} (hn : m < n) (hi : F i ≤ c) (hm : jn_ q m i j) (hb : l ≤ br_ q m) (hw : (m : Int) ≠ w) : xm2_ q l w F n j ≤ c + 1 := by
  have h1 : xm2_ q l w F m i ≤ c := by
    have := xm2_le2 q l w F i 0 m
    rw [Nat.zero_add] at this
    exact Int.le_trans this hi
  have h2 : xm2_ q l w F (m + 1) j ≤ c + 1 := xm1_hit h1 hm hb hw
  obtain ⟨k, rfl⟩ : ∃ k, n = (m + 1) + k := ⟨n - (m + 1), by omega⟩
  exact Int.le_trans (xm2_le2 q l w F j (m + 1) k) h2
theorem xm_full {q : rw_t} (hu : uj_ q) (h3 : 0 ≤ q 3) {l t : Int} (l1 : 1 ≤ l) : ∀ (k n : Nat) (j : Int), n ≤ k → rch_ (sa_ q) l t n j → xm_ q l (-1) t k j ≤ n
  | 0, n, j, hn, h => by
    have n0 : n = 0 := by omega
    subst n0
    have e : j = t := h
    show xm0_ t j ≤ _
    unfold xm0_
    rw [if_pos e]
    decide
  | k + 1, n, j, hk, h => by
    have le : ∀ i, xm_ q l (-1) t (k + 1) i ≤ xm_ q l (-1) t k i := fun i => by
      have := xm2_le2 q l (-1) (xm_ q l (-1) t k) i 0 (q 3).toNat
      rw [Nat.zero_add] at this
      exact this
    by_cases e : n ≤ k
    · exact Int.le_trans (le j) (xm_full hu h3 l1 k n j e h)
    · have en : n = k + 1 := by omega
      subst en
      rcases h with h | ⟨i, hi, hr, hl⟩
      · have := xm_full hu h3 l1 k k j (Nat.le_refl k) h
        have := le j
        omega
      · obtain ⟨m, m1, hm, hb⟩ := sa_ex hu h3 l1 hl
        have := xm2_hit (n := (q 3).toNat) (F := xm_ q l (-1) t k) (by omega) (xm_full hu h3 l1 k k i (Nat.le_refl k) hr) hm hb (by omega : (m : Int) ≠ -1)
        exact Int.le_trans this (by omega)
theorem xm_sound {q : rw_t} (hW : wf_M q) (hu : uj_ q) {l t : Int} (k : Nat) : ∀ j : Int, 0 ≤ j → j < 8 → 0 ≤ xm_ q l (-1) t k j ∧ (xm_ q l (-1) t k j < 99999 → rch_ (sa_ q) l t (xm_ q l (-1) t k j).toNat j) := by
  have w3 := hW.1
  refine fo_inv (n := k) (P := fun (F : Int → Int) => ∀ j : Int, 0 ≤ j → j < 8 → 0 ≤ F j ∧ (F j < 99999 → rch_ (sa_ q) l t (F j).toNat j)) (fun j _ _ => ?_) (fun _ F _ _ hF => ?_) k (Nat.le_refl k)
  · unfold xm0_
    split
    · rename_i e
      exact ⟨by decide, fun _ => e⟩
    · exact ⟨by decide, fun h => absurd h (by decide)⟩
  · refine fo_inv (n := (q 3).toNat) (P := fun (F : Int → Int) => ∀ j : Int, 0 ≤ j → j < 8 → 0 ≤ F j ∧ (F j < 99999 → rch_ (sa_ q) l t (F j).toNat j)) hF (fun m F m0 m1 hF => ?_) _ (Nat.le_refl _)
    obtain ⟨g0, g1, -⟩ := hW.2 m m0 (by omega)
    have s1 := sa_yes hu w3.1 m0 (by omega) (.inl ⟨rfl, rfl⟩ : jn_ q m (q (16 + 6 * m)) (q (17 + 6 * m)))
    have s2 := sa_yes hu w3.1 m0 (by omega) (.inr ⟨rfl, rfl⟩ : jn_ q m (q (17 + 6 * m)) (q (16 + 6 * m)))
    unfold xm1_
    split
    · rename_i hc
      have st : ∀ (G : Int → Int) (i j : Int), (∀ j : Int, 0 ≤ j → j < 8 → 0 ≤ G j ∧ (G j < 99999 → rch_ (sa_ q) l t (G j).toNat j)) → 0 ≤ i → i < 8 → l ≤ sa_ q i j → 0 ≤ j → j < 8 → ∀ x : Int, 0 ≤ x → x < 8 → 0 ≤ (up_ G j (min (G j) (G i + 1))) x ∧ ((up_ G j (min (G j) (G i + 1))) x < 99999 → rch_ (sa_ q) l t ((up_ G j (min (G j) (G i + 1))) x).toNat x) := by
        intro G i j hG i0 i1 hl j0 j1 x x0 x1
        have gi := hG i i0 i1
        have gj := hG j j0 j1
        by_cases e : x = j
        · subst e
          rw [up_at]
          refine ⟨by omega, fun h => ?_⟩
          by_cases c : G x ≤ G i + 1
          · rw [show min (G x) (G i + 1) = G x by omega]
            exact gj.2 (by omega)
          · rw [show min (G x) (G i + 1) = G i + 1 by omega, show (G i + 1).toNat = (G i).toNat + 1 by omega]
            exact .inr ⟨i, ⟨i0, i1⟩, gi.2 (by omega), hl⟩
        · rw [up_ne e]
          exact hG x x0 x1
      have h1 := st F (q (16 + 6 * m)) (q (17 + 6 * m)) hF g0.1 (by omega) (by rw [s1]; exact hc.2) g1.1 (by omega)
      exact st _ (q (17 + 6 * m)) (q (16 + 6 * m)) h1 g1.1 (by omega) (by rw [s2]; exact hc.2) g0.1 (by omega)
    · exact hF
theorem xm_iff {q : rw_t} (hW : wf_M q) (hu : uj_ q) {l t j : Int} (j0 : 0 ≤ j) (j1 : j < 8) (l1 : 1 ≤ l) {n : Nat} (hn : n ≤ 8) : xm_ q l (-1) t 8 j ≤ n ↔ rch_ (sa_ q) l t n j := by
  obtain ⟨h0, h1⟩ := xm_sound (l := l) (t := t) hW hu 8 j j0 j1
  exact ⟨fun h => rch_le (h1 (by omega)) n (by omega), fun h => xm_full hu hW.1.1 l1 8 n j hn h⟩
end
section
theorem mj_spec (f : gr_t) (l c : Int) (dd : Int → Int) : ∀ k : Nat, k ≤ 8 → (∀ x : Int, mj_ f l c dd k x ≤ dd x) ∧ (∀ x : Int, dd x ≤ c → mj_ f l c dd k x = dd x) ∧ (∀ i : Int, 0 ≤ i → i < k → dd i = c → ∀ x : Int, l ≤ f i x → mj_ f l c dd k x ≤ c + 1) ∧ ∀ x : Int, mj_ f l c dd k x = dd x ∨ (mj_ f l c dd k x = c + 1 ∧ ∃ i : Int, (0 ≤ i ∧ i < 8) ∧ dd i = c ∧ l ≤ f i x)
  | 0, _ => ⟨fun _ => Int.le_refl _, fun _ _ => rfl, fun i i0 i1 => by omega, fun _ => .inl rfl⟩
  | k + 1, hk => by
    obtain ⟨hA, hB, hC, hD⟩ := mj_spec f l c dd k (by omega)
    have e : mj_ f l c dd (k + 1) = if mj_ f l c dd k (k : Int) = c then sp1_ f l (mj_ f l c dd k) k else mj_ f l c dd k := rfl
    rw [e]
    generalize mj_ f l c dd k = E at *
    by_cases h : E (k : Int) = c
    · rw [if_pos h]
      have dk : dd (k : Int) = c := by
        rcases hD (k : Int) with q | ⟨q, -⟩
        · rw [← q]; exact h
        · omega
      have val : ∀ x, sp1_ f l E (k : Int) x = if l ≤ f (k : Int) x then min (E x) (c + 1) else E x := fun x => by
        unfold sp1_
        rw [h]
      refine ⟨fun x => ?_, fun x hx => ?_, fun i i0 i1 hi x hx => ?_, fun x => ?_⟩
      · rw [val]
        have := hA x
        split <;> omega
      · rw [val, hB x hx]
        split <;> omega
      · rw [val]
        by_cases ei : i = (k : Int)
        · rw [ei] at hx
          rw [if_pos hx]
          omega
        · have := hC i i0 (by omega) hi x hx
          split <;> omega
      · rw [val]
        by_cases hx : l ≤ f (k : Int) x
        · rw [if_pos hx]
          by_cases cc : E x ≤ c + 1
          · rw [show min (E x) (c + 1) = E x by omega]
            exact hD x
          · rw [show min (E x) (c + 1) = c + 1 by omega]
            exact .inr ⟨rfl, (k : Int), by omega, dk, hx⟩
        · rw [if_neg hx]
          exact hD x
    · rw [if_neg h]
      refine ⟨hA, hB, fun i i0 i1 hi x hx => ?_, hD⟩
      by_cases ei : i = (k : Int)
      · rw [ei] at hi
        have := hB (k : Int) (by omega)
        omega
      · exact hC i i0 (by omega) hi x hx
theorem mc_spec (f : gr_t) (l : Int) {t : Int} : ∀ k : Nat, k ≤ 7 → (∀ x : Int, 0 ≤ x → x < 8 → 0 ≤ mc_ f l t k x ∧ mc_ f l t k x ≤ 8 ∧ (mc_ f l t k x ≤ 7 → rch_ f l t (mc_ f l t k x).toNat x)) ∧ ∀ (n : Nat) (x : Int), n ≤ k → 0 ≤ x → x < 8 → rch_ f l t n x → mc_ f l t k x ≤ n
  | 0, _ => by
    refine ⟨fun x x0 x1 => ?_, fun n x hn x0 x1 h => ?_⟩
    · show 0 ≤ m0_ t x ∧ m0_ t x ≤ 8 ∧ (m0_ t x ≤ 7 → rch_ f l t (m0_ t x).toNat x)
      unfold m0_
      split
      · rename_i e
        exact ⟨by decide, by decide, fun _ => e⟩
      · exact ⟨by decide, by decide, fun h => absurd h (by decide)⟩
    · have n0 : n = 0 := by omega
      subst n0
      have e : x = t := h
      show m0_ t x ≤ _
      unfold m0_
      rw [if_pos e]
      decide
  | k + 1, hk => by
    obtain ⟨hS, hF⟩ := mc_spec f l (t := t) k (by omega)
    have e : mc_ f l t (k + 1) = mj_ f l (k : Int) (mc_ f l t k) 8 := rfl
    rw [e]
    obtain ⟨hA, hB, hC, hD⟩ := mj_spec f l (k : Int) (mc_ f l t k) 8 (Nat.le_refl 8)
    generalize mc_ f l t k = D at *
    refine ⟨fun x x0 x1 => ?_, fun n x hn x0 x1 h => ?_⟩
    · rcases hD x with q | ⟨q, i, hi, di, hl⟩
      · rw [q]
        exact hS x x0 x1
      · rw [q]
        refine ⟨by omega, by omega, fun _ => ?_⟩
        have hr := (hS i hi.1 hi.2).2.2 (by omega)
        rw [di] at hr
        rw [show ((k : Int) + 1).toNat = (k : Int).toNat + 1 by omega]
        exact .inr ⟨i, hi, hr, hl⟩
    · by_cases c : n ≤ k
      · exact Int.le_trans (hA x) (hF n x c x0 x1 h)
      · have en : n = k + 1 := by omega
        subst en
        rcases h with h | ⟨i, hi, hr, hl⟩
        · have := hF k x (Nat.le_refl k) x0 x1 h
          have := hA x
          omega
        · have li := hF k i (Nat.le_refl k) hi.1 hi.2 hr
          have si := hS i hi.1 hi.2
          by_cases ci : D i = (k : Int)
          · have := hC i hi.1 (by omega) ci x hl
            omega
          · have h2 : rch_ f l t ((D i).toNat + 1) x := .inr ⟨i, hi, si.2.2 (by omega), hl⟩
            have := hF ((D i).toNat + 1) x (by omega) x0 x1 h2
            have := hA x
            omega
theorem md_iff (f : gr_t) {l t x : Int} (x0 : 0 ≤ x) (x1 : x < 8) {n : Nat} (hn : n ≤ 7) : md_ f l t x ≤ n ↔ rch_ f l t n x := by
  obtain ⟨hS, hF⟩ := mc_spec f l (t := t) 7 (Nat.le_refl 7)
  have h := hS x x0 x1
  exact ⟨fun q => rch_le (h.2.2 (show mc_ f l t 7 x ≤ 7 by have : mc_ f l t 7 x ≤ n := q; omega)) n (by have : mc_ f l t 7 x ≤ n := q; omega), fun q => hF n x hn x0 x1 q⟩
theorem md_le (f : gr_t) {l t x : Int} (x0 : 0 ≤ x) (x1 : x < 8) : 0 ≤ md_ f l t x ∧ md_ f l t x ≤ 8 := by
  obtain ⟨hS, -⟩ := mc_spec f l (t := t) 7 (Nat.le_refl 7)
  exact ⟨(hS x x0 x1).1, (hS x x0 x1).2.1⟩
theorem md_xm {q : rw_t} (hW : wf_M q) (hu : uj_ q) {l t x : Int} (t0 : 0 ≤ t) (t1 : t < 8) (x0 : 0 ≤ x) (x1 : x < 8) (l1 : 1 ≤ l) : (md_ (sa_ q) l t x ≤ 7 ∧ xm_ q l (-1) t 8 x = md_ (sa_ q) l t x) ∨ (md_ (sa_ q) l t x = 8 ∧ 8 < xm_ q l (-1) t 8 x) := by
  have h1 := md_le (sa_ q) (l := l) (t := t) x0 x1
  have h2 := (xm_sound (l := l) (t := t) hW hu 8 x x0 x1).1
  by_cases c : md_ (sa_ q) l t x ≤ 7
  · refine .inl ⟨c, ?_⟩
    have a := (md_iff (sa_ q) (l := l) (t := t) x0 x1 (n := (md_ (sa_ q) l t x).toNat) (by omega)).mp (by omega)
    have b := (xm_iff hW hu x0 x1 l1 (n := (md_ (sa_ q) l t x).toNat) (by omega)).mpr a
    have a2 := (xm_iff hW hu x0 x1 l1 (t := t) (n := (xm_ q l (-1) t 8 x).toNat) (by omega)).mp (by omega)
    have b2 := (md_iff (sa_ q) (l := l) (t := t) x0 x1 (n := (xm_ q l (-1) t 8 x).toNat) (by omega)).mpr a2
    omega
  · refine .inr ⟨by omega, ?_⟩
    refine Classical.byContradiction (fun no => ?_)
    have a := (xm_iff hW hu x0 x1 l1 (t := t) (n := 8) (Nat.le_refl 8)).mp (by omega)
    have b := (md_iff (sa_ q) (l := l) (t := t) x0 x1 (n := 7) (Nat.le_refl 7)).mpr (rch_7 t0 t1 x0 x1 a)
    omega
end
section
theorem sb_sym (r : rw_t) (a b : Int) : ∀ n : Nat, sb_ r n a b = sb_ r n b a
  | 0 => rfl
  | n + 1 => by
    rw [sb_S, sb_S, sb_sym r a b n]
    by_cases c : (r (16 + 6 * (n : Int)) = a ∧ r (17 + 6 * (n : Int)) = b) ∨ (r (16 + 6 * (n : Int)) = b ∧ r (17 + 6 * (n : Int)) = a)
    · rw [if_pos c, if_pos c.symm]
    · rw [if_neg c, if_neg (fun q => c q.symm)]
theorem sa_sym (r : rw_t) (a b : Int) : sa_ r a b = sa_ r b a := sb_sym r a b _
theorem rch_tr {f : gr_t} {l a b : Int} {n : Nat} (h : rch_ f l a n b) : ∀ (m : Nat) (c : Int), rch_ f l b m c → rch_ f l a (n + m) c
  | 0, c, hc => by
    have e : c = b := hc
    rw [e]
    exact h
  | m + 1, c, hc => by
    rcases hc with hc | ⟨i, hi, hr, hl⟩
    · exact .inl (rch_tr h m c hc)
    · exact .inr ⟨i, hi, rch_tr h m i hr, hl⟩
theorem rch_rev {f : gr_t} {l a : Int} (hs : ∀ i j : Int, f i j = f j i) : ∀ (n : Nat) (j : Int), 0 ≤ j → j < 8 → rch_ f l a n j → ∃ m : Nat, rch_ f l j m a
  | 0, j, _, _, h => by
    have e : j = a := h
    exact ⟨0, e.symm⟩
  | n + 1, j, j0, j1, h => by
    rcases h with h | ⟨i, hi, hr, hl⟩
    · exact rch_rev hs n j j0 j1 h
    · obtain ⟨m, hm⟩ := rch_rev hs n i hi.1 hi.2 hr
      have h1 : rch_ f l j 1 i := .inr ⟨j, ⟨j0, j1⟩, rfl, by rw [hs]; exact hl⟩
      exact ⟨1 + m, rch_tr h1 m a hm⟩
theorem lk_spec (f : gr_t) (l : Int) (dd : Int → Int) (a : Int) : ∀ k : Nat, (lk_ f l dd a k = -1 ∧ ∀ j : Int, 0 ≤ j → j < k → ¬ (l ≤ f a j ∧ dd j < dd a)) ∨ ((0 ≤ lk_ f l dd a k ∧ lk_ f l dd a k < k) ∧ (l ≤ f a (lk_ f l dd a k) ∧ dd (lk_ f l dd a k) < dd a) ∧ ∀ j : Int, 0 ≤ j → j < lk_ f l dd a k → ¬ (l ≤ f a j ∧ dd j < dd a))
  | 0 => .inl ⟨rfl, fun j j0 j1 => by omega⟩
  | k + 1 => by
    have e : lk_ f l dd a (k + 1) = if lk_ f l dd a k = -1 ∧ l ≤ f a (k : Int) ∧ dd (k : Int) < dd a then (k : Int) else lk_ f l dd a k := rfl
    rw [e]
    rcases lk_spec f l dd a k with ⟨h0, h⟩ | ⟨h0, h1, h⟩
    · by_cases c : l ≤ f a (k : Int) ∧ dd (k : Int) < dd a
      · rw [if_pos ⟨h0, c⟩]
        exact .inr ⟨by omega, c, fun j j0 j1 => h j j0 j1⟩
      · rw [if_neg (fun q => c q.2)]
        refine .inl ⟨h0, fun j j0 j1 => ?_⟩
        by_cases ej : j = (k : Int)
        · rw [ej]; exact c
        · exact h j j0 (by omega)
    · rw [if_neg (fun q => by omega)]
      exact .inr ⟨by omega, h1, h⟩
theorem nx_spec (f : gr_t) (l : Int) (D : Int → Int) (a c : Int) : ∀ n : Nat, n ≤ 8 → (nx_ f l D a c n = -1 ∧ ∀ j : Int, 8 - (n : Int) ≤ j → j < 8 → ¬ (l ≤ f a j ∧ D j = c)) ∨ ((8 - (n : Int) ≤ nx_ f l D a c n ∧ nx_ f l D a c n < 8) ∧ (l ≤ f a (nx_ f l D a c n) ∧ D (nx_ f l D a c n) = c) ∧ ∀ j : Int, 8 - (n : Int) ≤ j → j < nx_ f l D a c n → ¬ (l ≤ f a j ∧ D j = c))
  | 0, _ => .inl ⟨rfl, fun j j0 j1 => by omega⟩
  | n + 1, hn => by
    have e : nx_ f l D a c (n + 1) = if l ≤ f a (7 - (n : Int)) ∧ D (7 - (n : Int)) = c then 7 - (n : Int) else nx_ f l D a c n := rfl
    rw [e]
    by_cases h : l ≤ f a (7 - (n : Int)) ∧ D (7 - (n : Int)) = c
    · rw [if_pos h]
      exact .inr ⟨by omega, h, fun j j0 j1 => by omega⟩
    · rw [if_neg h]
      rcases nx_spec f l D a c n (by omega) with ⟨h0, h1⟩ | ⟨h0, h1, h2⟩
      · refine .inl ⟨h0, fun j j0 j1 => ?_⟩
        by_cases ej : j = 7 - (n : Int)
        · rw [ej]; exact h
        · exact h1 j (by omega) j1
      · refine .inr ⟨by omega, h1, fun j j0 j1 => ?_⟩
        by_cases ej : j = 7 - (n : Int)
        · rw [ej]; exact h
        · exact h2 j (by omega) j1
section
variable {q : rw_t} {u v l : Int}
theorem way_step (hW : wf_M q) (hu : uj_ q) (v0 : 0 ≤ v) (v1 : v < 8) (l1 : 1 ≤ l) {x : Int} (x0 : 0 ≤ x) (x1 : x < 8) (hx : 1 ≤ md_ (sa_ q) l v x) (h7 : md_ (sa_ q) l v x ≤ 7) : ln_ (sa_ q) l (md_ (sa_ q) l v) x = nx_ (sa_ q) l (xm_ q l (-1) v 8) x (md_ (sa_ q) l v x - 1) 8 ∧ (0 ≤ ln_ (sa_ q) l (md_ (sa_ q) l v) x ∧ ln_ (sa_ q) l (md_ (sa_ q) l v) x < 8) ∧ md_ (sa_ q) l v (ln_ (sa_ q) l (md_ (sa_ q) l v) x) = md_ (sa_ q) l v x - 1 := by
  have near : ∀ j : Int, 0 ≤ j → j < 8 → l ≤ sa_ q x j → md_ (sa_ q) l v j ≤ 6 → md_ (sa_ q) l v x ≤ md_ (sa_ q) l v j + 1 := by
    intro j j0 j1 hl h6
    have hj := (md_le (sa_ q) (l := l) (t := v) j0 j1).1
    have a := (md_iff (sa_ q) (l := l) (t := v) j0 j1 (n := (md_ (sa_ q) l v j).toNat) (by omega)).mp (by omega)
    have b := (md_iff (sa_ q) (l := l) (t := v) x0 x1 (n := (md_ (sa_ q) l v j).toNat + 1) (by omega)).mpr (.inr ⟨j, ⟨j0, j1⟩, a, by rw [sa_sym]; exact hl⟩)
    omega
  have same : ∀ j : Int, 0 ≤ j → j < 8 → ((l ≤ sa_ q x j ∧ md_ (sa_ q) l v j < md_ (sa_ q) l v x) ↔ (l ≤ sa_ q x j ∧ xm_ q l (-1) v 8 j = md_ (sa_ q) l v x - 1)) := by
    intro j j0 j1
    have hj := (md_le (sa_ q) (l := l) (t := v) j0 j1).1
    constructor
    · rintro ⟨hl, hd⟩
      have := near j j0 j1 hl (by omega)
      rcases md_xm hW hu v0 v1 j0 j1 l1 with ⟨-, e⟩ | ⟨e, -⟩
      · exact ⟨hl, by omega⟩
      · omega
    · rintro ⟨hl, hd⟩
      rcases md_xm hW hu v0 v1 j0 j1 l1 with ⟨-, e⟩ | ⟨-, e⟩
      · exact ⟨hl, by omega⟩
      · omega
  have some : ∃ j : Int, (0 ≤ j ∧ j < 8) ∧ l ≤ sa_ q x j ∧ md_ (sa_ q) l v j < md_ (sa_ q) l v x := by
    have a := (md_iff (sa_ q) (l := l) (t := v) x0 x1 (n := (md_ (sa_ q) l v x).toNat) (by omega)).mp (by omega)
    rw [show (md_ (sa_ q) l v x).toNat = (md_ (sa_ q) l v x - 1).toNat + 1 by omega] at a
    rcases a with a | ⟨i, hi, hr, hl⟩
    · have := (md_iff (sa_ q) (l := l) (t := v) x0 x1 (n := (md_ (sa_ q) l v x - 1).toNat) (by omega)).mpr a
      omega
    · have := (md_iff (sa_ q) (l := l) (t := v) hi.1 hi.2 (n := (md_ (sa_ q) l v x - 1).toNat) (by omega)).mpr hr
      exact ⟨i, hi, by rw [sa_sym]; exact hl, by omega⟩
  obtain ⟨j, hj, hlj, hdj⟩ := some
  rcases lk_spec (sa_ q) l (md_ (sa_ q) l v) x 8 with ⟨-, h⟩ | ⟨k0, k1, k2⟩
  · exact absurd ⟨hlj, hdj⟩ (h j hj.1 (by omega))
  rcases nx_spec (sa_ q) l (xm_ q l (-1) v 8) x (md_ (sa_ q) l v x - 1) 8 (Nat.le_refl 8) with ⟨-, h⟩ | ⟨n0, n1, n2⟩
  · exact absurd ((same j hj.1 hj.2).mp ⟨hlj, hdj⟩) (h j (by omega) hj.2)
  have el : ln_ (sa_ q) l (md_ (sa_ q) l v) x = lk_ (sa_ q) l (md_ (sa_ q) l v) x 8 := by
    unfold ln_
    rw [if_neg (by omega)]
  rw [el]
  generalize lk_ (sa_ q) l (md_ (sa_ q) l v) x 8 = A at k0 k1 k2 ⊢
  generalize nx_ (sa_ q) l (xm_ q l (-1) v 8) x (md_ (sa_ q) l v x - 1) 8 = C at n0 n1 n2 ⊢
  have s1 := (same A k0.1 (by omega)).mp k1
  have s2 := (same C (by omega) n0.2).mpr n1
  have e : A = C := by
    rcases Int.lt_trichotomy A C with c | c | c
    · exact absurd s1 (n2 A (by omega) c)
    · exact c
    · exact absurd s2 (k2 C (by omega) c)
  refine ⟨e, by omega, ?_⟩
  have := near A k0.1 (by omega) k1.1 (by omega)
  omega
end
end
section
section
variable {q : rw_t} {u v l : Int}
theorem md_0 (f : gr_t) (v0 : 0 ≤ v) (v1 : v < 8) : md_ f l v v = 0 := by
  have a := (md_iff f (l := l) (t := v) v0 v1 (n := 0) (by decide)).mpr rfl
  have b := (md_le f (l := l) (t := v) v0 v1).1
  omega
theorem md_z {f : gr_t} {x : Int} (x0 : 0 ≤ x) (x1 : x < 8) (h : md_ f l v x = 0) : x = v := (md_iff f (l := l) (t := v) x0 x1 (n := 0) (by decide)).mp (by omega)
theorem way_all (hW : wf_M q) (hu : uj_ q) (u0 : 0 ≤ u) (u1 : u < 8) (v0 : 0 ≤ v) (v1 : v < 8) (l1 : 1 ≤ l) (J : Int → Int) (h7 : md_ (sa_ q) l v u ≤ 7) : ∀ k : Nat, (k : Int) ≤ md_ (sa_ q) l v u → (jw_ (sa_ q) l u v (md_ (sa_ q) l v) J k).2 = k ∧ (∀ i : Nat, i ≤ k → (jw_ (sa_ q) l u v (md_ (sa_ q) l v) J k).1 (i : Int) = wy1_ (sa_ q) l (xm_ q l (-1) v 8) u i) ∧ (0 ≤ wy1_ (sa_ q) l (xm_ q l (-1) v 8) u k ∧ wy1_ (sa_ q) l (xm_ q l (-1) v 8) u k < 8) ∧ md_ (sa_ q) l v (wy1_ (sa_ q) l (xm_ q l (-1) v 8) u k) = md_ (sa_ q) l v u - k
  | 0, _ => by
    refine ⟨rfl, fun i hi => ?_, ⟨u0, u1⟩, by show md_ (sa_ q) l v u = _; omega⟩
    have i0 : i = 0 := by omega
    subst i0
    exact (up_at : up_ J 0 u 0 = u)
  | k + 1, hk => by
    obtain ⟨h2, h1, hr, hd⟩ := way_all hW hu u0 u1 v0 v1 l1 J h7 k (by omega)
    have eD : xm_ q l (-1) v 8 u = md_ (sa_ q) l v u := by
      rcases md_xm hW hu v0 v1 u0 u1 l1 with ⟨-, e⟩ | ⟨e, -⟩
      · exact e
      · omega
    have e1 : jw_ (sa_ q) l u v (md_ (sa_ q) l v) J (k + 1) = js_ (sa_ q) l v (md_ (sa_ q) l v) ((k : Int) + 1) (jw_ (sa_ q) l u v (md_ (sa_ q) l v) J k) := rfl
    have e2 : wy1_ (sa_ q) l (xm_ q l (-1) v 8) u (k + 1) = nx_ (sa_ q) l (xm_ q l (-1) v 8) (wy1_ (sa_ q) l (xm_ q l (-1) v 8) u k) (xm_ q l (-1) v 8 u - ((k : Int) + 1)) 8 := rfl
    have hk1 := h1 k (Nat.le_refl k)
    have hne : wy1_ (sa_ q) l (xm_ q l (-1) v 8) u k ≠ v := fun e => by
      rw [e, md_0 _ v0 v1] at hd
      omega
    obtain ⟨s1, s2, s3⟩ := way_step hW hu v0 v1 l1 hr.1 hr.2 (by omega) (by omega)
    have e3 : js_ (sa_ q) l v (md_ (sa_ q) l v) ((k : Int) + 1) (jw_ (sa_ q) l u v (md_ (sa_ q) l v) J k) = (up_ (jw_ (sa_ q) l u v (md_ (sa_ q) l v) J k).1 ((k : Int) + 1) (ln_ (sa_ q) l (md_ (sa_ q) l v) (wy1_ (sa_ q) l (xm_ q l (-1) v 8) u k)), (k : Int) + 1) := by
      unfold js_
      rw [show (k : Int) + 1 - 1 = (k : Int) by omega, if_pos ⟨h2, by rw [hk1]; exact hne⟩, hk1]
    have e4 : ln_ (sa_ q) l (md_ (sa_ q) l v) (wy1_ (sa_ q) l (xm_ q l (-1) v 8) u k) = wy1_ (sa_ q) l (xm_ q l (-1) v 8) u (k + 1) := by
      rw [e2, s1, eD, hd]
      congr 1
      omega
    rw [e1, e3]
    rw [e4] at s2 s3 ⊢
    refine ⟨rfl, fun i hi => ?_, s2, by rw [s3, hd]; omega⟩
    by_cases e : i = k + 1
    · subst e
      exact up_at
    · show up_ _ _ _ (i : Int) = _
      rw [up_ne (by omega)]
      exact h1 i (by omega)
theorem way_fw (hW : wf_M q) (hu : uj_ q) (u0 : 0 ≤ u) (u1 : u < 8) (v0 : 0 ≤ v) (v1 : v < 8) (hne : u ≠ v) (J : Int → Int) (l1 : 1 ≤ wb_ (sa_ q) u v) : (1 ≤ (fw_ (sa_ q) u v J).2 ∧ (fw_ (sa_ q) u v J).2 ≤ 7) ∧ (fw_ (sa_ q) u v J).2 = xm_ q (wb_ (sa_ q) u v) (-1) v 8 u ∧ ∀ i : Nat, (i : Int) ≤ (fw_ (sa_ q) u v J).2 → (fw_ (sa_ q) u v J).1 (i : Int) = wy1_ (sa_ q) (wb_ (sa_ q) u v) (xm_ q (wb_ (sa_ q) u v) (-1) v 8) u i := by
  have hr := (wb_iff (f := sa_ q) u0 u1 v0 v1 (fun e => hne e.symm) l1).mp (Int.le_refl _)
  obtain ⟨m, hm⟩ := rch_rev (sa_sym q) 7 v v0 v1 hr
  have h7 := (md_iff (sa_ q) u0 u1 (n := 7) (Nat.le_refl 7)).mpr (rch_7 v0 v1 u0 u1 hm)
  have h0 := (md_le (sa_ q) (l := wb_ (sa_ q) u v) (t := v) u0 u1).1
  have hp : md_ (sa_ q) (wb_ (sa_ q) u v) v u ≠ 0 := fun e => hne (md_z u0 u1 e)
  unfold fw_
  generalize wb_ (sa_ q) u v = l at l1 hm h7 h0 hp ⊢
  have eD : xm_ q l (-1) v 8 u = md_ (sa_ q) l v u := by
    rcases md_xm hW hu v0 v1 u0 u1 l1 with ⟨-, e⟩ | ⟨e, -⟩
    · exact e
    · omega
  obtain ⟨a1, a2, a3, a4⟩ := way_all hW hu u0 u1 v0 v1 l1 J h7 (md_ (sa_ q) l v u).toNat (by omega)
  have ez := md_z a3.1 a3.2 (by rw [a4]; omega)
  have et : ((md_ (sa_ q) l v u).toNat : Int) = md_ (sa_ q) l v u := by omega
  have st := jw_stop (f := sa_ q) (l := l) (a := u) (b := v) (dd := md_ (sa_ q) l v) (J := J) (k := (md_ (sa_ q) l v u).toNat) (by omega) (.inr ((a2 _ (Nat.le_refl _)).trans ez)) (by rw [a1]; omega)
  rw [st, a1, eD]
  exact ⟨by omega, et, fun i hi => a2 i (by omega)⟩
end
end
section
def acr_ (q : rw_t) (m : Int) : Int := if br_ q m = 0 then 0 else if 99999 ≤ xm_ q 1 m (q (17 + 6 * m)) 8 (q (16 + 6 * m)) then 1 else 0
end
section
theorem kpa_days {B : Int} {q : rw_t} (hT : wf_T B q) : (∀ b : Int, 1 ≤ b → b ≤ 50 → 0 ≤ sp_ q (q 0 + b)) ↔ (∀ k : Int, 0 ≤ k → k < q 4 → 0 ≤ sp_ q (q (113 + 3 * k))) := by
  obtain ⟨T0, T1, T2, T4, T5, T6, T7, Ts, T8, T9, T10, Te, Tv, Tw, To⟩ := hT
  constructor
  · intro h k k0 k1
    have w := (Tw k k0 k1).1
    have e := h (q (113 + 3 * k) - q 0) (by omega) (by omega)
    rw [show q 0 + (q (113 + 3 * k) - q 0) = q (113 + 3 * k) by omega] at e
    exact e
  · intro h
    have key : ∀ n : Nat, 0 ≤ sp_ q (q 0 + (n : Int)) := by
      intro n
      induction n with
      | zero =>
        unfold sp_
        rw [sm_0 (fun k k0 k1 => by rw [if_neg (by have := (Tw k k0 (by omega)).1; omega)])]
        rw [show q 0 + ((0 : Nat) : Int) - q 0 = 0 by omega, Int.mul_zero]
        omega
      | succ n ih =>
        by_cases c : ∃ k : Int, (0 ≤ k ∧ k < q 4) ∧ q (113 + 3 * k) = q 0 + ((n + 1 : Nat) : Int)
        · obtain ⟨k, kk, e⟩ := c
          have := h k kk.1 kk.2
          rw [e] at this
          exact this
        · unfold sp_ at ih ⊢
          rw [sm_eq (h := fun k => if q (113 + 3 * k) ≤ q 0 + (n : Int) then q (114 + 3 * k) else 0) (fun k k0 k1 => ?_)]
          · have m1 : q 2 * (q 0 + ((n + 1 : Nat) : Int) - q 0) = q 2 * (q 0 + (n : Int) - q 0) + q 2 := by
              rw [show q 0 + ((n + 1 : Nat) : Int) - q 0 = (q 0 + (n : Int) - q 0) + 1 by omega, Int.mul_add, Int.mul_one]
            omega
          · have ne : q (113 + 3 * k) ≠ q 0 + ((n + 1 : Nat) : Int) := fun e => c ⟨k, ⟨k0, by omega⟩, e⟩
            by_cases l : q (113 + 3 * k) ≤ q 0 + (n : Int)
            · rw [if_pos (by omega), if_pos l]
            · rw [if_neg (by omega), if_neg l]
    intro b b1 b2
    have := key b.toNat
    rw [show ((b.toNat : Nat) : Int) = b by omega] at this
    exact this
end
section
def ist_ (x : Int) (i : Nat) : Prop := (Int32.ofInt x).toBitVec.getLsbD i = true
theorem lt8_ {i : Nat} (h : i < 8) : i = 0 ∨ i = 1 ∨ i = 2 ∨ i = 3 ∨ i = 4 ∨ i = 5 ∨ i = 6 ∨ i = 7 := by omega
theorem jb_bv {i : Nat} (hi : i < 8) : (Int32.ofInt 1 <<< (Int32.ofInt (i : Int) &&& 31)).toBitVec = BitVec.twoPow 32 i := by
  rcases lt8_ hi with rfl | rfl | rfl | rfl | rfl | rfl | rfl | rfl <;> decide
theorem tp_ne {i : Nat} (hi : i < 8) : BitVec.twoPow 32 i ≠ 0#32 := by
  rcases lt8_ hi with rfl | rfl | rfl | rfl | rfl | rfl | rfl | rfl <;> decide
theorem i3_ne (A : Int32) : A.toInt ≠ 0 ↔ A.toBitVec ≠ 0#32 := by
  have e : A.toInt = 0 ↔ A.toBitVec = 0#32 := by
    rw [show (0 : Int) = (0 : Int32).toInt from rfl, Int32.toInt_inj, ← Int32.toBitVec_inj]
    exact Iff.rfl
  exact not_congr e
theorem ist_and {x : Int} {i : Nat} (hi : i < 8) : ja_ x (jb_ (i : Int)) ≠ 0 ↔ ist_ x i := by
  unfold ist_
  show (Int32.ofInt x &&& Int32.ofInt (Int32.ofInt 1 <<< (Int32.ofInt (i : Int) &&& 31)).toInt).toInt ≠ 0 ↔ _
  rw [Int32.ofInt_toInt, i3_ne, Int32.toBitVec_and, jb_bv hi, BitVec.and_twoPow]
  have := tp_ne hi
  cases (Int32.ofInt x).toBitVec.getLsbD i <;> simp [this]
theorem ist_or {x y : Int} {i : Nat} : ist_ (jo_ x y) i ↔ ist_ x i ∨ ist_ y i := by
  unfold ist_
  show (Int32.ofInt (Int32.ofInt x ||| Int32.ofInt y).toInt).toBitVec.getLsbD i = true ↔ _
  rw [Int32.ofInt_toInt, Int32.toBitVec_or, BitVec.getLsbD_or]
  simp
theorem ist_b {k i : Nat} (hk : k < 8) (hi : i < 8) : ist_ (jb_ (k : Int)) i ↔ i = k := by
  unfold ist_
  show (Int32.ofInt (Int32.ofInt 1 <<< (Int32.ofInt (k : Int) &&& 31)).toInt).toBitVec.getLsbD i = true ↔ _
  rw [Int32.ofInt_toInt, jb_bv hk]
  rcases lt8_ hk with rfl | rfl | rfl | rfl | rfl | rfl | rfl | rfl <;> rcases lt8_ hi with rfl | rfl | rfl | rfl | rfl | rfl | rfl | rfl <;> decide
theorem ist_two {x : Int} {a b : Nat} (ha : a < 8) (hb : b < 8) : ja_ x (jo_ (jb_ (a : Int)) (jb_ (b : Int))) ≠ 0 ↔ ist_ x a ∨ ist_ x b := by
  unfold ist_
  show (Int32.ofInt x &&& Int32.ofInt (Int32.ofInt (Int32.ofInt 1 <<< (Int32.ofInt (a : Int) &&& 31)).toInt ||| Int32.ofInt (Int32.ofInt 1 <<< (Int32.ofInt (b : Int) &&& 31)).toInt).toInt).toInt ≠ 0 ↔ _
  rw [Int32.ofInt_toInt, Int32.ofInt_toInt, Int32.ofInt_toInt, i3_ne, Int32.toBitVec_and, Int32.toBitVec_or, jb_bv ha, jb_bv hb]
  generalize (Int32.ofInt x).toBitVec = X
  have key : ∀ j : Nat, (X &&& (BitVec.twoPow 32 a ||| BitVec.twoPow 32 b)).getLsbD j = (X.getLsbD j && (decide (a = j) || decide (b = j))) := by
    intro j
    rw [BitVec.getLsbD_and, BitVec.getLsbD_or, BitVec.getLsbD_twoPow, BitVec.getLsbD_twoPow]
    have a32 : a < 32 := by omega
    have b32 : b < 32 := by omega
    simp [a32, b32]
  constructor
  · intro h
    refine Classical.byContradiction (fun no => h ?_)
    refine BitVec.eq_of_getLsbD_eq (fun j hj => ?_)
    rw [key]
    have n1 : X.getLsbD a = false := by
      cases e : X.getLsbD a with
      | true => exact absurd (.inl e) no
      | false => rfl
    have n2 : X.getLsbD b = false := by
      cases e : X.getLsbD b with
      | true => exact absurd (.inr e) no
      | false => rfl
    by_cases e1 : a = j
    · subst e1
      simp [n1]
    · by_cases e2 : b = j
      · subst e2
        simp [n2]
      · simp [e1, e2]
  · intro h e
    rcases h with h | h
    · have k := key a
      rw [e, h] at k
      simp at k
    · have k := key b
      rw [e, h] at k
      simp at k
theorem nat8 {x : Int} (h : 0 ≤ x ∧ x ≤ 7) : ∃ n : Nat, x = n ∧ n < 8 := ⟨x.toNat, by omega, by omega⟩
theorem je_mono {q : rw_t} {l u m x : Int} {j : Nat} (h : ist_ x j) : ist_ (je_ q l u m x) j := by
  unfold je_
  split
  · exact ist_or.mpr (.inl h)
  · exact h
theorem je_hit {q : rw_t} (hW : wf_M q) {l u x : Int} {m i j : Nat} (m1 : (m : Int) < q 3) (hu : (m : Int) ≠ u) (hb : l ≤ br_ q m) (hm : jn_ q m i j) (hi : ist_ x i) (i8 : i < 8) (j8 : j < 8) : ist_ (je_ q l u m x) j := by
  have w3 := hW.1
  obtain ⟨g0, g1, -⟩ := hW.2 m (by omega) (by omega)
  obtain ⟨o, eo, lo⟩ := nat8 g0
  obtain ⟨p, ep, lp⟩ := nat8 g1
  unfold jn_ at hm
  unfold je_
  rw [eo, ep] at hm ⊢
  have h2 : ist_ x o ∨ ist_ x p := by
    rcases hm with ⟨h1, h2⟩ | ⟨h1, h2⟩
    · have : o = i := by omega
      subst this
      exact .inl hi
    · have : p = i := by omega
      subst this
      exact .inr hi
  rw [if_pos ⟨hu, (ist_two lo lp).mpr h2, hb⟩]
  refine ist_or.mpr (.inr (ist_or.mpr ?_))
  rcases hm with ⟨h1, h2⟩ | ⟨h1, h2⟩
  · exact .inr ((ist_b lp j8).mpr (by omega))
  · exact .inl ((ist_b lo j8).mpr (by omega))
theorem je_sound {q : rw_t} (hW : wf_M q) {l u x : Int} {m j : Nat} (m1 : (m : Int) < q 3) (j8 : j < 8) (h : ist_ (je_ q l u m x) j) : ist_ x j ∨ (l ≤ br_ q m ∧ (m : Int) ≠ u ∧ ∃ i : Nat, i < 8 ∧ ist_ x i ∧ (jn_ q m i j ∨ i = j)) := by
  have w3 := hW.1
  obtain ⟨g0, g1, -⟩ := hW.2 m (by omega) (by omega)
  obtain ⟨o, eo, lo⟩ := nat8 g0
  obtain ⟨p, ep, lp⟩ := nat8 g1
  unfold je_ at h
  rw [eo, ep] at h
  split at h
  · rename_i c
    obtain ⟨c1, c2, c3⟩ := c
    rcases ist_or.mp h with h | h
    · exact .inl h
    · refine .inr ⟨c3, c1, ?_⟩
      rcases ist_or.mp h with h | h
      · have e := (ist_b lo j8).mp h
        subst e
        rcases (ist_two lo lp).mp c2 with k | k
        · exact ⟨j, lo, k, .inr rfl⟩
        · exact ⟨p, lp, k, .inl (by unfold jn_; rw [eo, ep]; omega)⟩
      · have e := (ist_b lp j8).mp h
        subst e
        rcases (ist_two lo lp).mp c2 with k | k
        · exact ⟨o, lo, k, .inl (by unfold jn_; rw [eo, ep]; omega)⟩
        · exact ⟨j, lp, k, .inr rfl⟩
  · exact .inl h
theorem jf_mono {q : rw_t} {l u x : Int} {j : Nat} (h : ist_ x j) : ∀ n : Nat, ist_ (jf_ q l u x n) j
  | 0 => h
  | n + 1 => je_mono (jf_mono h n)
theorem jf_hit {q : rw_t} (hW : wf_M q) {l u x : Int} {m i j : Nat} (hu : (m : Int) ≠ u) (hb : l ≤ br_ q m) (hm : jn_ q m i j) (hi : ist_ x i) (i8 : i < 8) (j8 : j < 8) : ∀ n : Nat, (n : Int) ≤ q 3 → m < n → ist_ (jf_ q l u x n) j
  | 0, _, h => absurd h (Nat.not_lt_zero _)
  | n + 1, hn, h => by
    by_cases e : m = n
    · subst e
      exact je_hit hW (by omega) hu hb hm (jf_mono hi m) i8 j8
    · exact je_mono (jf_hit hW hu hb hm hi i8 j8 n (by omega) (by omega))
theorem jh_full {q : rw_t} (hW : wf_M q) (hU : uj_ q) {l : Int} {a : Nat} (l1 : 1 ≤ l) (a8 : a < 8) : ∀ (k n : Nat) (j : Nat), n ≤ k → j < 8 → rch_ (sa_ q) l a n j → ist_ (jh_ q l (-1) a k) j := by
  have w3 := hW.1
  intro k
  induction k with
  | zero =>
    intro n j hn j8 h
    have e : n = 0 := by omega
    subst e
    have e2 : (j : Int) = a := h
    exact (ist_b a8 j8).mpr (by omega)
  | succ k ih =>
    intro n j hn j8 h
    have base : ∀ i : Nat, ist_ (jh_ q l (-1) a k) i → ist_ (jh_ q l (-1) a (k + 1)) i := fun i hi => jf_mono hi _
    cases n with
    | zero => exact base j (ih 0 j (by omega) j8 h)
    | succ n =>
      rcases h with h | ⟨i, ⟨i0, i1⟩, hi, hl⟩
      · exact base j (ih n j (by omega) j8 h)
      · obtain ⟨i', ei, i8⟩ := nat8 (x := i) ⟨i0, by omega⟩
        subst ei
        obtain ⟨m, m1, hm, hb⟩ := sa_ex hU w3.1 l1 hl
        exact jf_hit hW (by omega) hb hm (ih n i' (by omega) i8 hi) i8 j8 (q 3).toNat (by omega) (by omega)
theorem jh_sound {q : rw_t} (hW : wf_M q) (hU : uj_ q) {l : Int} {a : Nat} (a8 : a < 8) : ∀ (k : Nat) (j : Nat), j < 8 → ist_ (jh_ q l (-1) a k) j → ∃ n : Nat, rch_ (sa_ q) l a n j := by
  have w3 := hW.1
  intro k
  induction k with
  | zero =>
    intro j j8 h
    have e := (ist_b a8 j8).mp h
    exact ⟨0, by show (j : Int) = a; omega⟩
  | succ k ih =>
    have key : ∀ n : Nat, (n : Int) ≤ q 3 → ∀ j : Nat, j < 8 → ist_ (jf_ q l (-1) (jh_ q l (-1) a k) n) j → ∃ n : Nat, rch_ (sa_ q) l a n j := by
      intro n
      induction n with
      | zero => intro _ j j8 h; exact ih j j8 h
      | succ n ihn =>
        intro hn j j8 h
        rcases je_sound hW (by omega) j8 h with h | ⟨hb, -, i, i8, hi, hm | e⟩
        · exact ihn (by omega) j j8 h
        · obtain ⟨c, hc⟩ := ihn (by omega) i i8 hi
          refine ⟨c + 1, .inr ⟨i, by omega, hc, ?_⟩⟩
          rw [sa_yes hU w3.1 (by omega) (by omega) hm]
          exact hb
        · rw [← e]
          exact ihn (by omega) i i8 hi
    intro j j8 h
    exact key (q 3).toNat (by omega) j j8 h
theorem jc_iff {q : rw_t} (hW : wf_M q) (hU : uj_ q) {l a b : Int} (l1 : 1 ≤ l) (a0 : 0 ≤ a ∧ a ≤ 7) (b0 : 0 ≤ b ∧ b ≤ 7) : jc_ q l (-1) a b ≠ 0 ↔ rch_ (sa_ q) l a 7 b := by
  obtain ⟨a', rfl, a8⟩ := nat8 a0
  obtain ⟨b', rfl, b8⟩ := nat8 b0
  have e : jc_ q l (-1) a' b' ≠ 0 ↔ ja_ (jh_ q l (-1) a' 7) (jb_ b') ≠ 0 := by
    unfold jc_
    split
    · rename_i c
      exact ⟨fun h => absurd rfl h, fun h => absurd c h⟩
    · rename_i c
      exact ⟨fun _ => c, fun _ => by decide⟩
  rw [e, ist_and b8]
  constructor
  · intro h
    obtain ⟨n, hn⟩ := jh_sound hW hU a8 7 b' b8 h
    exact rch_7 (by omega) (by omega) (by omega) (by omega) hn
  · intro h
    exact jh_full hW hU l1 a8 7 7 b' (Nat.le_refl 7) b8 h
theorem rch_up {f : gr_t} {l l' a : Int} (h : ∀ i j : Int, 0 ≤ i → i < 8 → l ≤ f i j → l' ≤ f i j) : ∀ (n : Nat) (j : Int), rch_ f l a n j → rch_ f l' a n j
  | 0, _, k => k
  | n + 1, j, k => by
    rcases k with k | ⟨i, i0, hi, hl⟩
    · exact .inl (rch_up h n j k)
    · exact .inr ⟨i, i0, rch_up h n i hi, h i j i0.1 i0.2 hl⟩
theorem rch_st {f : gr_t} {l a : Int} : ∀ (n : Nat) (j : Int), rch_ f l a n j → j = a ∨ ∃ i k : Int, l ≤ f i k
  | 0, _, k => .inl k
  | n + 1, j, k => by
    rcases k with k | ⟨i, i0, hi, hl⟩
    · exact rch_st n j k
    · exact .inr ⟨i, j, hl⟩
theorem wt1_xw {q : rw_t} (hW : wf_M q) (hU : uj_ q) {a b x : Int} (a0 : 0 ≤ a ∧ a < 8) (b0 : 0 ≤ b ∧ b < 8) (hne : a ≠ b) (h : wt1_ q a b x) : x = xw_ q a 8 b := by
  have w3 := hW.1
  have l0 := ((xw_lm hW a 8) b b0.1 b0.2).1
  have l9 := xw_99 hW a 8 b (fun e => hne e.symm)
  have br9 : ∀ k : Int, 0 ≤ k → k < q 3 → br_ q k ≤ 99 := fun k k0 k1 => (br_le hW k0 (by omega)).2
  -- some member bears just as much
  have ex : 1 ≤ xw_ q a 8 b → wb1_ q a b (xw_ q a 8 b) := by
    intro l1
    have hr := (xw_iff hW hU a0.1 a0.2 b0.1 b0.2 l1 l9).mp (Int.le_refl _)
    refine ⟨Classical.byContradiction (fun no => ?_), (jc_iff hW hU l1 ⟨a0.1, by omega⟩ ⟨b0.1, by omega⟩).mpr hr⟩
    have hr2 := rch_up (l' := xw_ q a 8 b + 1) (fun i j i0 i1 hl => by
      obtain ⟨m, m1, hm, hb⟩ := sa_ex hU w3.1 l1 hl
      rw [sa_yes hU w3.1 (by omega) m1 hm]
      have : br_ q m ≠ xw_ q a 8 b := fun e => no ⟨m, by omega, m1, e⟩
      omega) 7 b hr
    by_cases c : xw_ q a 8 b + 1 ≤ 99
    · have := (xw_iff hW hU a0.1 a0.2 b0.1 b0.2 (by omega) c).mpr hr2
      omega
    · rcases rch_st 7 b hr2 with e | ⟨i, k, e⟩
      · exact hne e.symm
      · obtain ⟨m, m1, hm, hb⟩ := sa_ex hU w3.1 (by omega) e
        have := br9 m (by omega) m1
        omega
  have le : ∀ l : Int, 1 ≤ l → l ≤ 99 → wb1_ q a b l → l ≤ xw_ q a 8 b := fun l l1 l9 hw => (xw_iff hW hU a0.1 a0.2 b0.1 b0.2 l1 l9).mpr ((jc_iff hW hU l1 ⟨a0.1, by omega⟩ ⟨b0.1, by omega⟩).mp hw.2)
  rcases h with ⟨h1, h2⟩ | ⟨h1, h2, h3⟩
  · by_cases c : 1 ≤ xw_ q a 8 b
    · exact absurd (ex c) (h2 _ c l9)
    · omega
  · have := le x h1.1 h1.2 h2
    by_cases c : x < xw_ q a 8 b
    · exact absurd (ex (by omega)) (h3 _ c l9)
    · omega
theorem rl_br {q : rw_t} {m k : Int} : br_ (rl_ q m 1) k = if k = m then 0 else br_ q k := by
  unfold br_ rl_
  by_cases e : k = m
  · rw [if_pos e]
    subst e
    rw [if_pos rfl, if_neg (by decide)]
  · rw [if_neg e]
    have h1 : ¬ (21 + 6 * k = 21 + 6 * m) := by omega
    have h2 : ¬ (19 + 6 * k = 21 + 6 * m) := by omega
    have h3 : ¬ (18 + 6 * k = 21 + 6 * m) := by omega
    have h4 : ¬ (20 + 6 * k = 21 + 6 * m) := by omega
    simp only [if_neg h1, if_neg h2, if_neg h3, if_neg h4]
theorem fo_cong {α : Type} {f h : Int → α → α} {a : α} : ∀ n : Nat, (∀ (i : Int) (x : α), 0 ≤ i → i < n → f i x = h i x) → fo_ f a n = fo_ h a n
  | 0, _ => rfl
  | n + 1, e => by
    show f n (fo_ f a n) = h n (fo_ h a n)
    rw [fo_cong n (fun i x i0 i1 => e i x i0 (by omega)), e n _ (by omega) (by omega)]
theorem rl_jn {q : rw_t} {m k : Int} (m0 : 0 ≤ m) (k0 : 0 ≤ k) : rl_ q m 1 (16 + 6 * k) = q (16 + 6 * k) ∧ rl_ q m 1 (17 + 6 * k) = q (17 + 6 * k) ∧ rl_ q m 1 3 = q 3 := by
  unfold rl_
  refine ⟨?_, ?_, ?_⟩ <;> rw [if_neg (by omega)]
theorem jc_rl {q : rw_t} {l m a b : Int} (l1 : 1 ≤ l) (m0 : 0 ≤ m) : jc_ q l m a b = jc_ (rl_ q m 1) l (-1) a b := by
  have e : ∀ n : Nat, jh_ q l m a n = jh_ (rl_ q m 1) l (-1) a n := by
    intro n
    refine fo_cong n (fun i x i0 i1 => ?_)
    show jf_ q l m x (q 3).toNat = jf_ (rl_ q m 1) l (-1) x ((rl_ q m 1) 3).toNat
    rw [(rl_jn m0 m0).2.2]
    refine fo_cong _ (fun k y k0 k1 => ?_)
    obtain ⟨r1, r2, -⟩ := rl_jn (q := q) m0 k0
    unfold je_
    rw [r1, r2, rl_br]
    by_cases c : k = m
    · rw [if_pos c, if_neg (fun h => h.1 c), if_neg (fun h => by have := h.2.2; omega)]
    · rw [if_neg c]
      by_cases d : ja_ y (jo_ (jb_ (q (16 + 6 * k))) (jb_ (q (17 + 6 * k)))) ≠ 0 ∧ l ≤ br_ q k
      · rw [if_pos ⟨c, d⟩, if_pos ⟨by omega, d⟩]
      · rw [if_neg (fun h => d h.2), if_neg (fun h => d h.2)]
  unfold jc_
  rw [e]
theorem xm_rl {q : rw_t} {m t : Int} (m0 : 0 ≤ m) : ∀ n : Nat, xm_ q 1 m t n = xm_ (rl_ q m 1) 1 (-1) t n := by
  intro n
  refine fo_cong n (fun i x i0 i1 => ?_)
  show xm2_ q 1 m x (q 3).toNat = xm2_ (rl_ q m 1) 1 (-1) x ((rl_ q m 1) 3).toNat
  rw [(rl_jn m0 m0).2.2]
  refine fo_cong _ (fun k y k0 k1 => ?_)
  obtain ⟨r1, r2, -⟩ := rl_jn (q := q) m0 k0
  unfold xm1_
  rw [r1, r2, rl_br]
  by_cases c : k = m
  · rw [if_pos c, if_neg (fun h => h.1 c), if_neg (fun h => by have := h.2; omega)]
  · rw [if_neg c]
    by_cases d : 1 ≤ br_ q k
    · rw [if_pos ⟨c, d⟩, if_pos ⟨by omega, d⟩]
    · rw [if_neg (fun h => d h.2), if_neg (fun h => d h.2)]
theorem acr_cut {q : rw_t} (hW : wf_M q) (hU : uj_ q) {m : Int} (hm : 0 ≤ m ∧ m < q 3) : acr_ q m = if br_ q m = 0 then 0 else @ite Int (rch_ (sa_ (rl_ q m 1)) 1 (q (16 + 6 * m)) 7 (q (17 + 6 * m))) (Classical.propDecidable _) 0 1 := by
  have w3 := hW.1
  have W2 := (rl_wf (m := m) (b := 1) hW hm.1 (by omega) (by decide)).1
  have U2 := uj_eJ w3.2 (eJ_rl (w := 1) hm.1 (eJ_refl q)) hU
  obtain ⟨g0, g1, -⟩ := hW.2 m hm.1 (by omega)
  unfold acr_
  by_cases z : br_ q m = 0
  · rw [if_pos z, if_pos z]
  · rw [if_neg z, if_neg z, xm_rl hm.1]
    by_cases c : rch_ (sa_ (rl_ q m 1)) 1 (q (16 + 6 * m)) 7 (q (17 + 6 * m))
    · rw [if_pos c]
      obtain ⟨k, hk⟩ := rch_rev (sa_sym (rl_ q m 1)) 7 _ g1.1 (by omega) c
      have h7 := rch_7 (by omega) (by omega) g0.1 (by omega) hk
      have := (xm_iff W2 U2 g0.1 (by omega) (by decide) (n := 7) (by decide)).mpr h7
      rw [if_neg (by omega)]
    · rw [if_neg c]
      by_cases d : xm_ (rl_ q m 1) 1 (-1) (q (17 + 6 * m)) 8 (q (16 + 6 * m)) < 99999
      · have h8 := (xm_sound W2 U2 (l := 1) (t := q (17 + 6 * m)) 8 (q (16 + 6 * m)) g0.1 (by omega)).2 d
        obtain ⟨k, hk⟩ := rch_rev (sa_sym (rl_ q m 1)) _ _ g0.1 (by omega) h8
        exact absurd (rch_7 g0.1 (by omega) g1.1 (by omega) hk) c
      · rw [if_pos (by omega)]
theorem acr_01 (q : rw_t) (m : Int) : 0 ≤ acr_ q m ∧ acr_ q m ≤ 1 := by unfold acr_; (repeat' split) <;> omega
theorem cr1_acr {q : rw_t} (hW : wf_M q) (hU : uj_ q) {m : Int} (hm : 0 ≤ m ∧ m < q 3) : cr1_ q m = acr_ q m := by
  have w3 := hW.1
  have W2 := (rl_wf (m := m) (b := 1) hW hm.1 (by omega) (by decide)).1
  have U2 := uj_eJ w3.2 (eJ_rl (w := 1) hm.1 (eJ_refl q)) hU
  obtain ⟨g0, g1, -⟩ := hW.2 m hm.1 (by omega)
  have lb := br_le hW hm.1 (by omega : m < 16)
  have ji := jc_iff W2 U2 (l := 1) (by decide) g0 g1
  rw [acr_cut hW hU hm]
  unfold cr1_
  rw [jc_rl (by decide) hm.1]
  by_cases z : br_ q m = 0
  · rw [if_pos z, if_neg (fun h => by have := h.1; omega)]
  · rw [if_neg z]
    by_cases c : rch_ (sa_ (rl_ q m 1)) 1 (q (16 + 6 * m)) 7 (q (17 + 6 * m))
    · rw [if_pos c, if_neg (fun h => ji.mpr c h.2)]
    · rw [if_neg c, if_pos ⟨by omega, Classical.not_not.mp (fun h => c (ji.mp h))⟩]
end
section
def gm_ (f : gr_t) (r : Int) : gr_t := fun i j => if i = r ∨ j = r then 0 else f i j
def cvr_ (f : gr_t) (r a j : Int) : Prop := ∃ n : Nat, rch_ (gm_ f r) 1 a n j
def cnn_ (f : gr_t) (r x : Int) : Prop := ∃ y : Int, (0 ≤ y ∧ y < 8) ∧ y ≠ x ∧ y ≠ r ∧ 0 < f y r ∧ cvr_ f r x y
theorem cvr_refl (f : gr_t) (r a : Int) : cvr_ f r a a := ⟨0, rfl⟩
theorem cvr_tr {f : gr_t} {r a i j : Int} (h : cvr_ f r a i) (k : cvr_ f r i j) : cvr_ f r a j := by
  obtain ⟨n, h⟩ := h
  obtain ⟨m, k⟩ := k
  exact ⟨n + m, rch_tr h m j k⟩
theorem cvr_1 {f : gr_t} {r a j : Int} (a0 : 0 ≤ a ∧ a < 8) (ha : a ≠ r) (hj : j ≠ r) (h : 0 < f a j) : cvr_ f r a j := by
  refine ⟨1, .inr ⟨a, a0, rfl, ?_⟩⟩
  show 1 ≤ gm_ f r a j
  unfold gm_
  rw [if_neg (fun k => k.elim ha hj)]
  omega
abbrev vis_ (s : vs_t) (v : Int) : Prop := s.1 v ≠ 0
def wfv_ (r : Int) (s : vs_t) : Prop := s.1 r = 1 ∧ 1 ≤ s.2.2 ∧ (∀ v : Int, 0 ≤ v → v < 8 → v ≠ r → vis_ s v → 2 ≤ s.1 v) ∧ ∀ v : Int, 0 ≤ v → v < 8 → vis_ s v → 1 ≤ s.2.1 v
noncomputable def uvc_ (s : vs_t) : Nat := cnt_ (fun v => s.1 v = 0) 8
abbrev dnv_ (s s' : vs_t) (v : Int) : Prop := vis_ s' v ∧ ¬ vis_ s v
def pst_ (f : gr_t) (r a c : Int) (s s' : vs_t) : Prop :=
  (∀ v : Int, 0 ≤ v → v < 8 → vis_ s v → s'.1 v = s.1 v ∧ s'.2.1 v = s.2.1 v) ∧ vis_ s' a ∧
  (∀ x y : Int, 0 ≤ x → x < 8 → 0 ≤ y → y < 8 → dnv_ s s' x → 0 < f x y → vis_ s' y) ∧
  (∀ x : Int, 0 ≤ x → x < 8 → dnv_ s s' x → cvr_ f r a x) ∧
  (s'.2.1 a = 1 ↔ (∃ y : Int, (0 ≤ y ∧ y < 8) ∧ dnv_ s s' y ∧ y ≠ a ∧ 0 < f y r) ∨ (0 < f a r ∧ c ≠ r)) ∧
  (∀ x : Int, 0 ≤ x → x < 8 → dnv_ s s' x → 0 < f x r → (s'.2.1 x = 1 ↔ cnn_ f r x)) ∧ wfv_ r s'
def prv_ (f : gr_t) (r a c : Int) (s : vs_t) (n : Nat) : Prop :=
  ((0 ≤ a ∧ a < 8) ∧ ¬ vis_ s a ∧ a ≠ r) ∧ wfv_ r s ∧ uvc_ s ≤ n ∧ ((0 ≤ c ∧ c < 8) ∧ vis_ s c ∧ 0 < f a c) ∧
  (c = r ∨ (c ≠ r ∧ ∃ y : Int, (0 ≤ y ∧ y < 8) ∧ y ≠ r ∧ vis_ s y ∧ 0 < f y r ∧ cvr_ f r c y)) ∧
  (c = r → ∀ u w : Int, 0 ≤ u → u < 8 → 0 ≤ w → w < 8 → vis_ s u → u ≠ r → 0 < f u w → vis_ s w)
theorem uvc_mono {s s' : vs_t} (h : ∀ v : Int, 0 ≤ v → v < 8 → vis_ s v → vis_ s' v) : uvc_ s' ≤ uvc_ s :=
  cnt_mono 8 (fun j hj k => Classical.byContradiction (fun q => h j (by omega) (by omega) q k))
theorem uvc_lt {s s' : vs_t} {a : Int} (h : ∀ v : Int, 0 ≤ v → v < 8 → vis_ s v → vis_ s' v) (a0 : 0 ≤ a ∧ a < 8) (ha : ¬ vis_ s a) (ha' : vis_ s' a) : uvc_ s' < uvc_ s := by
  refine cnt_lt 8 (fun j hj k => Classical.byContradiction (fun q => h j (by omega) (by omega) q k)) ⟨a.toNat, by omega, ?_, ?_⟩
  · rw [show ((a.toNat : Nat) : Int) = a by omega]
    exact Classical.not_not.mp ha
  · rw [show ((a.toNat : Nat) : Int) = a by omega]
    exact ha'
theorem min_1 {x y : Int} (hx : 1 ≤ x) (hy : 1 ≤ y) : min x y = 1 ↔ x = 1 ∨ y = 1 := by omega
theorem lt_ks {r : Int} {k : Nat} (h : r < ((k + 1 : Nat) : Int)) (e : ¬ (k : Int) = r) : r < (k : Int) := by omega
theorem vcall {f : gr_t} {r : Int} (r0 : 0 ≤ r ∧ r < 8) (hf : ∀ i j : Int, 0 ≤ i → i < 8 → 0 ≤ j → j < 8 → 0 ≤ f i j) (hs : ∀ i j : Int, f i j = f j i) : ∀ (n : Nat) (a c : Int) (s : vs_t), prv_ f r a c s n → pst_ f r a c s (vi_ f n a c s) := by
  intro n
  induction n with
  | zero =>
    rintro a c s ⟨⟨a0, ha, hr⟩, hw, hu, -⟩
    have : uvc_ (up_ s.1 a 1, s.2.1, s.2.2) < uvc_ s := by
      refine uvc_lt (fun v v0 v1 hv => ?_) a0 ha ?_
      · show up_ s.1 a 1 v ≠ 0
        unfold up_
        split
        · decide
        · exact hv
      · show up_ s.1 a 1 a ≠ 0
        rw [up_at]
        decide
    omega
  | succ n ih =>
    intro a c s ⟨⟨a0, ha, har⟩, hw, hu, ⟨c0, hc, hac⟩, hG, hH⟩
    obtain ⟨w1, w2, w3, w4⟩ := id hw
    have rvis : vis_ s r := by
      show s.1 r ≠ 0
      omega
    -- one joint more has its number
    have z1 : ∀ v : Int, (vz_ a s).1 v = if v = a then s.2.2 + 1 else s.1 v := fun v => rfl
    have z2 : ∀ v : Int, (vz_ a s).2.1 v = if v = a then s.2.2 + 1 else s.2.1 v := fun v => rfl
    have zv : ∀ v : Int, vis_ s v → vis_ (vz_ a s) v := fun v hv => by
      show (vz_ a s).1 v ≠ 0
      rw [z1]
      split
      · omega
      · exact hv
    have za : vis_ (vz_ a s) a := by
      show (vz_ a s).1 a ≠ 0
      rw [z1, if_pos rfl]
      omega
    have zu : uvc_ (vz_ a s) ≤ n := by
      have := uvc_lt (fun v _ _ hv => zv v hv) a0 ha za
      omega
    have inv : ∀ k : Nat, k ≤ 8 → ∀ t : vs_t, t = fo_ (fun i x => vx_ (vi_ f n) f a c i x) (vz_ a s) k →
        (∀ v : Int, 0 ≤ v → v < 8 → vis_ s v → t.1 v = s.1 v ∧ t.2.1 v = s.2.1 v) ∧ vis_ t a ∧
        ((∀ x y : Int, 0 ≤ x → x < 8 → 0 ≤ y → y < 8 → dnv_ s t x → x ≠ a → 0 < f x y → vis_ t y) ∧ ∀ j : Int, 0 ≤ j → j < k → 0 < f a j → vis_ t j) ∧
        (∀ x : Int, 0 ≤ x → x < 8 → dnv_ s t x → cvr_ f r a x) ∧
        (t.2.1 a = 1 ↔ (∃ y : Int, (0 ≤ y ∧ y < 8) ∧ dnv_ s t y ∧ y ≠ a ∧ 0 < f y r) ∨ (0 < f a r ∧ c ≠ r ∧ r < k)) ∧
        (∀ x : Int, 0 ≤ x → x < 8 → dnv_ s t x → x ≠ a → 0 < f x r → (t.2.1 x = 1 ↔ cnn_ f r x)) ∧ wfv_ r t ∧ uvc_ t ≤ n := by
      intro k
      induction k with
      | zero =>
        intro _ t ht
        have e : t = vz_ a s := ht
        subst e
        have only : ∀ x, dnv_ s (vz_ a s) x → x = a := fun x hx => by
          refine Classical.byContradiction (fun ne => ?_)
          have h1 := hx.1
          rw [show vis_ (vz_ a s) x = ((vz_ a s).1 x ≠ 0) from rfl, z1, if_neg ne] at h1
          exact hx.2 h1
        refine ⟨fun v v0 v1 hv => ?_, za, ⟨fun x y _ _ _ _ hx ne _ => absurd (only x hx) ne, fun j j0 j1 _ => by omega⟩, fun x _ _ hx => ?_, ?_, fun x _ _ hx ne _ => absurd (only x hx) ne, ⟨?_, ?_, fun v v0 v1 ne hv => ?_, fun v v0 v1 hv => ?_⟩, zu⟩
        · have ne : v ≠ a := fun e => ha (by rw [← e]; exact hv)
          rw [z1, z2, if_neg ne, if_neg ne]
          exact ⟨rfl, rfl⟩
        · rw [only x hx]
          exact cvr_refl f r a
        · rw [z2, if_pos rfl]
          constructor
          · intro h
            omega
          · rintro (⟨y, -, hy, ne, -⟩ | ⟨-, -, h⟩)
            · exact absurd (only y hy) ne
            · omega
        · rw [z1, if_neg (fun e => har e.symm)]
          exact w1
        · show 1 ≤ s.2.2 + 1
          omega
        · have hv : (vz_ a s).1 v ≠ 0 := hv
          rw [z1] at hv ⊢
          split
          · omega
          · rename_i na
            rw [if_neg na] at hv
            exact w3 v v0 v1 ne hv
        · have hv : (vz_ a s).1 v ≠ 0 := hv
          rw [z1] at hv
          rw [z2]
          split
          · omega
          · rename_i na
            rw [if_neg na] at hv
            exact w4 v v0 v1 hv
      | succ k ihk =>
        intro hk t ht
        obtain ⟨i1, i2, ⟨i3, i3a⟩, i4, i5, i6, i7, i8⟩ := ihk (by omega) _ rfl
        have ht2 : t = vx_ (vi_ f n) f a c (k : Int) (fo_ (fun i x => vx_ (vi_ f n) f a c i x) (vz_ a s) k) := ht
        generalize fo_ (fun i x => vx_ (vi_ f n) f a c i x) (vz_ a s) k = u at i1 i2 i3 i3a i4 i5 i6 i7 i8 ht2
        clear ht
        obtain ⟨u1, u2, u3, u4⟩ := id i7
        have k0 : (0 : Int) ≤ (k : Int) ∧ (k : Int) < 8 := by omega
        have sv : ∀ v : Int, 0 ≤ v → v < 8 → vis_ s v → vis_ u v := fun v v0 v1 hv => by
          show u.1 v ≠ 0
          rw [(i1 v v0 v1 hv).1]
          exact hv
        have cu : vis_ u c := sv c c0.1 c0.2 hc
        have fa_k := hf a k a0.1 a0.2 k0.1 k0.2
        unfold vx_ at ht2
        by_cases c1 : (k : Int) = c ∨ f a k = 0
        · rw [if_pos c1] at ht2
          subst ht2
          refine ⟨i1, i2, ⟨i3, fun j j0 j1 hj => ?_⟩, i4, ?_, i6, i7, i8⟩
          · by_cases e : j = k
            · rw [e] at hj ⊢
              rcases c1 with c1 | c1
              · rw [c1]
                exact cu
              · omega
            · exact i3a j j0 (by omega) hj
          · rw [i5]
            constructor
            · rintro (h | ⟨h1, h2, h3⟩)
              · exact .inl h
              · exact .inr ⟨h1, h2, by omega⟩
            · rintro (h | ⟨h1, h2, h3⟩)
              · exact .inl h
              · refine .inr ⟨h1, h2, ?_⟩
                refine Classical.byContradiction (fun no => ?_)
                have e : r = k := by omega
                rcases c1 with c1 | c1
                · exact h2 (by omega)
                · rw [← e] at c1
                  omega
        · rw [if_neg c1] at ht2
          have nc : (k : Int) ≠ c := fun e => c1 (.inl e)
          have fk : 0 < f a k := by
            have : f a k ≠ 0 := fun e => c1 (.inr e)
            omega
          by_cases c2 : u.1 k = 0
          · -- a joint not yet seen
            rw [if_pos c2] at ht2
            have kr : (k : Int) ≠ r := fun e => by
              rw [e] at c2
              omega
            have pre : prv_ f r k a u n := by
              refine ⟨⟨k0, fun h => h c2, kr⟩, i7, i8, ⟨a0, i2, by rw [hs]; exact fk⟩, .inr ⟨har, ?_⟩, fun e => absurd e har⟩
              rcases hG with e | ⟨ne, y, y0, yr, yv, yf, yc⟩
              · exact ⟨a, a0, har, i2, by rw [← e]; exact hac, cvr_refl f r a⟩
              · exact ⟨y, y0, yr, sv y y0.1 y0.2 yv, yf, cvr_tr (cvr_1 a0 har ne hac) yc⟩
            obtain ⟨p1, p2, p3, p4, p5, p6, p7⟩ := ih k a u pre
            generalize vi_ f n k a u = w at p1 p2 p3 p4 p5 p6 p7 ht2
            subst ht2
            obtain ⟨q1, q2, q3, q4⟩ := id p7
            have uv : ∀ v : Int, 0 ≤ v → v < 8 → vis_ u v → vis_ w v := fun v v0 v1 hv => by
              show w.1 v ≠ 0
              rw [(p1 v v0 v1 hv).1]
              exact hv
            have wa : vis_ w a := uv a a0.1 a0.2 i2
            have la := q4 a a0.1 a0.2 wa
            have lk := q4 k k0.1 k0.2 p2
            have split : ∀ x : Int, 0 ≤ x → x < 8 → dnv_ s w x → dnv_ s u x ∨ dnv_ u w x := fun x x0 x1 hx => by
              by_cases e : vis_ u x
              · exact .inl ⟨e, hx.2⟩
              · exact .inr ⟨hx.1, e⟩
            have back : ∀ x : Int, 0 ≤ x → x < 8 → dnv_ u w x → dnv_ s w x := fun x x0 x1 hx => ⟨hx.1, fun h => hx.2 (sv x x0 x1 h)⟩
            have back2 : ∀ x : Int, 0 ≤ x → x < 8 → dnv_ s u x → dnv_ s w x := fun x x0 x1 hx => ⟨uv x x0 x1 hx.1, hx.2⟩
            have dk : dnv_ u w k := ⟨p2, fun h => h c2⟩
            have kna : (k : Int) ≠ a := fun e => by
              rw [e] at c2
              exact i2 c2
            have low : ∀ v : Int, v ≠ a → up_ w.2.1 a (min (w.2.1 a) (w.2.1 k)) v = w.2.1 v := fun v ne => up_ne ne
            refine ⟨fun v v0 v1 hv => ?_, wa, ⟨fun x y x0 x1 y0 y1 hx ne hxy => ?_, fun j j0 j1 hj => ?_⟩, fun x x0 x1 hx => ?_, ?_, fun x x0 x1 hx ne hxr => ?_, ⟨q1, q2, q3, fun v v0 v1 hv => ?_⟩, ?_⟩
            · have ne : v ≠ a := fun e => ha (by rw [← e]; exact hv)
              have h1 := i1 v v0 v1 hv
              have h2 := p1 v v0 v1 (sv v v0 v1 hv)
              exact ⟨h2.1.trans h1.1, (low v ne).trans (h2.2.trans h1.2)⟩
            · rcases split x x0 x1 hx with h | h
              · exact uv y y0 y1 (i3 x y x0 x1 y0 y1 h ne hxy)
              · exact p3 x y x0 x1 y0 y1 h hxy
            · by_cases e : j = k
              · rw [e]
                exact p2
              · exact uv j j0 (by omega) (i3a j j0 (by omega) hj)
            · rcases split x x0 x1 hx with h | h
              · exact i4 x x0 x1 h
              · exact cvr_tr (cvr_1 a0 har kr fk) (p4 x x0 x1 h)
            · show up_ w.2.1 a (min (w.2.1 a) (w.2.1 k)) a = 1 ↔ _
              rw [up_at, min_1 la lk, (p1 a a0.1 a0.2 i2).2, i5, p5]
              constructor
              · rintro ((⟨y, y0, hy, ya, yf⟩ | ⟨h1, h2, h3⟩) | (⟨y, y0, hy, ya, yf⟩ | ⟨h1, h2⟩))
                · exact .inl ⟨y, y0, back2 y y0.1 y0.2 hy, ya, yf⟩
                · exact .inr ⟨h1, h2, by omega⟩
                · refine .inl ⟨y, y0, back y y0.1 y0.2 hy, fun e => ?_, yf⟩
                  rw [e] at hy
                  exact hy.2 i2
                · exact .inl ⟨k, k0, back k k0.1 k0.2 dk, kna, h1⟩
              · rintro (⟨y, y0, hy, ya, yf⟩ | ⟨h1, h2, h3⟩)
                · rcases split y y0.1 y0.2 hy with h | h
                  · exact .inl (.inl ⟨y, y0, h, ya, yf⟩)
                  · by_cases e : y = k
                    · rw [e] at yf
                      exact .inr (.inr ⟨yf, har⟩)
                    · exact .inr (.inl ⟨y, y0, h, e, yf⟩)
                · exact .inl (.inr ⟨h1, h2, lt_ks h3 kr⟩)
            · show up_ w.2.1 a (min (w.2.1 a) (w.2.1 k)) x = 1 ↔ _
              rw [low x ne]
              rcases split x x0 x1 hx with h | h
              · rw [(p1 x x0 x1 h.1).2]
                exact i6 x x0 x1 h ne hxr
              · exact p6 x x0 x1 h hxr
            · show 1 ≤ up_ w.2.1 a (min (w.2.1 a) (w.2.1 k)) v
              by_cases e : v = a
              · rw [e, up_at]
                omega
              · rw [low v e]
                exact q4 v v0 v1 hv
            · exact Nat.le_trans (uvc_mono (s := u) (fun v v0 v1 hv => uv v v0 v1 hv)) i8
          · -- a joint seen before
            rw [if_neg c2] at ht2
            subst ht2
            have la := u4 a a0.1 a0.2 i2
            have nk : 1 ≤ u.1 k ∧ (u.1 k = 1 ↔ (k : Int) = r) := by
              by_cases e : (k : Int) = r
              · rw [e, u1]
                exact ⟨by decide, ⟨fun _ => rfl, fun _ => rfl⟩⟩
              · have := u3 k k0.1 k0.2 e c2
                exact ⟨by omega, ⟨fun h => by omega, fun h => absurd h e⟩⟩
            have low : ∀ v : Int, v ≠ a → up_ u.2.1 a (min (u.2.1 a) (u.1 k)) v = u.2.1 v := fun v ne => up_ne ne
            refine ⟨fun v v0 v1 hv => ?_, i2, ⟨i3, fun j j0 j1 hj => ?_⟩, i4, ?_, fun x x0 x1 hx ne hxr => ?_, ⟨u1, u2, u3, fun v v0 v1 hv => ?_⟩, i8⟩
            · have ne : v ≠ a := fun e => ha (by rw [← e]; exact hv)
              have h1 := i1 v v0 v1 hv
              exact ⟨h1.1, (low v ne).trans h1.2⟩
            · by_cases e : j = k
              · rw [e]
                exact c2
              · exact i3a j j0 (by omega) hj
            · show up_ u.2.1 a (min (u.2.1 a) (u.1 k)) a = 1 ↔ _
              rw [up_at, min_1 la nk.1, i5, nk.2]
              constructor
              · rintro ((h | ⟨h1, h2, h3⟩) | h)
                · exact .inl h
                · exact .inr ⟨h1, h2, by omega⟩
                · exact .inr ⟨by rw [← h]; exact fk, fun e => nc (h.trans e.symm), by omega⟩
              · rintro (h | ⟨h1, h2, h3⟩)
                · exact .inl (.inl h)
                · by_cases e : (k : Int) = r
                  · exact .inr e
                  · exact .inl (.inr ⟨h1, h2, lt_ks h3 e⟩)
            · show up_ u.2.1 a (min (u.2.1 a) (u.1 k)) x = 1 ↔ _
              rw [low x ne]
              exact i6 x x0 x1 hx ne hxr
            · show 1 ≤ up_ u.2.1 a (min (u.2.1 a) (u.1 k)) v
              by_cases e : v = a
              · rw [e, up_at]
                omega
              · rw [low v e]
                exact u4 v v0 v1 hv
    obtain ⟨i1, i2, ⟨i3, i3a⟩, i4, i5, i6, i7, i8⟩ := inv 8 (Nat.le_refl 8) _ rfl
    show pst_ f r a c s (fo_ (fun i x => vx_ (vi_ f n) f a c i x) (vz_ a s) 8)
    generalize fo_ (fun i x => vx_ (vi_ f n) f a c i x) (vz_ a s) 8 = t at i1 i2 i3 i3a i4 i5 i6 i7 i8
    have cl : ∀ x y : Int, 0 ≤ x → x < 8 → 0 ≤ y → y < 8 → dnv_ s t x → 0 < f x y → vis_ t y := fun x y x0 x1 y0 y1 hx hxy => by
      by_cases e : x = a
      · rw [e] at hxy
        exact i3a y y0 (by omega) hxy
      · exact i3 x y x0 x1 y0 y1 hx e hxy
    have l5 : t.2.1 a = 1 ↔ (∃ y : Int, (0 ≤ y ∧ y < 8) ∧ dnv_ s t y ∧ y ≠ a ∧ 0 < f y r) ∨ (0 < f a r ∧ c ≠ r) := by
      rw [i5]
      constructor
      · rintro (h | ⟨h1, h2, h3⟩)
        · exact .inl h
        · exact .inr ⟨h1, h2⟩
      · rintro (h | ⟨h1, h2⟩)
        · exact .inl h
        · exact .inr ⟨h1, h2, by omega⟩
    have da : dnv_ s t a := ⟨i2, ha⟩
    refine ⟨i1, i2, cl, i4, l5, fun x x0 x1 hx hxr => ?_, i7⟩
    by_cases e : x = a
    · subst e
      rw [l5]
      by_cases cr : c = r
      · have stay : ∀ (n : Nat) (j : Int), 0 ≤ j → j < 8 → rch_ (gm_ f r) 1 x n j → dnv_ s t j := by
          intro n
          induction n with
          | zero =>
            intro j _ _ h
            have e : j = x := h
            rw [e]
            exact da
          | succ n ihn =>
            intro j j0 j1 h
            rcases h with h | ⟨i, ir, h, hl⟩
            · exact ihn j j0 j1 h
            · have di := ihn i ir.1 ir.2 h
              unfold gm_ at hl
              split at hl
              · omega
              · rename_i ne
                have fij : 0 < f i j := by omega
                refine ⟨cl i j ir.1 ir.2 j0 j1 di fij, fun hv => ?_⟩
                exact di.2 (hH cr j i j0 j1 ir.1 ir.2 hv (fun e => ne (.inr e)) (by rw [hs]; exact fij))
        constructor
        · rintro (⟨y, y0, hy, ya, yf⟩ | ⟨-, h⟩)
          · refine ⟨y, y0, ya, fun e => ?_, yf, i4 y y0.1 y0.2 hy⟩
            rw [e] at hy
            exact hy.2 rvis
          · exact absurd cr h
        · rintro ⟨y, y0, ya, yr, yf, m, ym⟩
          exact .inl ⟨y, y0, stay m y y0.1 y0.2 ym, ya, yf⟩
      · constructor
        · intro _
          rcases hG with e | ⟨ne, y, y0, yr, yv, yf, yc⟩
          · exact absurd e cr
          · exact ⟨y, y0, fun e => ha (by rw [← e]; exact yv), yr, yf, cvr_tr (cvr_1 a0 har ne hac) yc⟩
        · intro _
          exact .inr ⟨hxr, cr⟩
    · exact i6 x x0 x1 hx e hxr
theorem vroot {f : gr_t} {r : Int} (r0 : 0 ≤ r ∧ r < 8) (hf : ∀ i j : Int, 0 ≤ i → i < 8 → 0 ≤ j → j < 8 → 0 ≤ f i j) (hs : ∀ i j : Int, f i j = f j i) {b : Int} (b0 : 0 ≤ b ∧ b < 8) (hb : b ≠ r) (hbr : 0 < f b r) : se_ f r b = 1 ↔ ¬ cnn_ f r b := by
  have inv : ∀ k : Nat, k ≤ 8 → ∀ t : vs_t, t = fo_ (fun i x => vx_ (vi_ f 7) f r (-1) i x) (vz_ r (fun _ => 0, fun _ => 0, 0)) k →
      wfv_ r t ∧ uvc_ t ≤ 7 ∧ (∀ u w : Int, 0 ≤ u → u < 8 → 0 ≤ w → w < 8 → vis_ t u → u ≠ r → 0 < f u w → vis_ t w) ∧
      (∀ x : Int, 0 ≤ x → x < 8 → vis_ t x → x ≠ r → 0 < f x r → (t.2.1 x = 1 ↔ cnn_ f r x)) ∧ ∀ j : Int, 0 ≤ j → j < k → 0 < f r j → vis_ t j := by
    intro k
    induction k with
    | zero =>
      intro _ t ht
      have e : t = vz_ r (fun _ => 0, fun _ => 0, 0) := ht
      subst e
      have z1 : ∀ v : Int, (vz_ r (fun _ => 0, fun _ => 0, 0)).1 v = if v = r then 0 + 1 else 0 := fun v => rfl
      have z2 : ∀ v : Int, (vz_ r (fun _ => 0, fun _ => 0, 0)).2.1 v = if v = r then 0 + 1 else 0 := fun v => rfl
      have only : ∀ x, vis_ (vz_ r (fun _ => 0, fun _ => 0, 0)) x → x = r := fun x hx => by
        refine Classical.byContradiction (fun ne => hx ?_)
        rw [z1, if_neg ne]
      refine ⟨⟨?_, ?_, fun v _ _ ne hv => absurd (only v hv) ne, fun v _ _ hv => ?_⟩, ?_, fun u w _ _ _ _ hu ne _ => absurd (only u hu) ne, fun x _ _ hx ne _ => absurd (only x hx) ne, fun j j0 j1 _ => by omega⟩
      · rw [z1, if_pos rfl]
        rfl
      · show (1 : Int) ≤ 0 + 1
        decide
      · rw [z2, if_pos (only v hv)]
        decide
      · have h8 : uvc_ ((fun _ => 0, fun _ => 0, 0) : vs_t) ≤ 8 := cnt_le _ 8
        have := uvc_lt (s := (fun _ => 0, fun _ => 0, 0)) (s' := vz_ r (fun _ => 0, fun _ => 0, 0)) (a := r) (fun v _ _ hv => absurd rfl hv) r0 (fun h => h rfl) (by show (vz_ r (fun _ => 0, fun _ => 0, 0)).1 r ≠ 0; rw [z1, if_pos rfl]; decide)
        omega
    | succ k ihk =>
      intro hk t ht
      obtain ⟨i7, i8, iH, i6, i3a⟩ := ihk (by omega) _ rfl
      have ht2 : t = vx_ (vi_ f 7) f r (-1) (k : Int) (fo_ (fun i x => vx_ (vi_ f 7) f r (-1) i x) (vz_ r (fun _ => 0, fun _ => 0, 0)) k) := ht
      generalize fo_ (fun i x => vx_ (vi_ f 7) f r (-1) i x) (vz_ r (fun _ => 0, fun _ => 0, 0)) k = u at i7 i8 iH i6 i3a ht2
      clear ht
      obtain ⟨u1, u2, u3, u4⟩ := id i7
      have k0 : (0 : Int) ≤ (k : Int) ∧ (k : Int) < 8 := by omega
      have ru : vis_ u r := by
        show u.1 r ≠ 0
        omega
      unfold vx_ at ht2
      by_cases c1 : (k : Int) = -1 ∨ f r k = 0
      · rw [if_pos c1] at ht2
        subst ht2
        refine ⟨i7, i8, iH, i6, fun j j0 j1 hj => ?_⟩
        by_cases e : j = k
        · rw [e] at hj
          rcases c1 with c1 | c1 <;> omega
        · exact i3a j j0 (by omega) hj
      · rw [if_neg c1] at ht2
        have fk : 0 < f r k := by
          have h1 : f r k ≠ 0 := fun e => c1 (.inr e)
          have h2 := hf r k r0.1 r0.2 k0.1 k0.2
          omega
        by_cases c2 : u.1 k = 0
        · rw [if_pos c2] at ht2
          have kr : (k : Int) ≠ r := fun e => by
            rw [e] at c2
            omega
          have pre : prv_ f r k r u 7 := ⟨⟨k0, fun h => h c2, kr⟩, i7, i8, ⟨r0, ru, by rw [hs]; exact fk⟩, .inl rfl, fun _ => iH⟩
          obtain ⟨p1, p2, p3, p4, p5, p6, p7⟩ := vcall r0 hf hs 7 k r u pre
          generalize vi_ f 7 k r u = w at p1 p2 p3 p4 p5 p6 p7 ht2
          subst ht2
          obtain ⟨q1, q2, q3, q4⟩ := id p7
          have uv : ∀ v : Int, 0 ≤ v → v < 8 → vis_ u v → vis_ w v := fun v v0 v1 hv => by
            show w.1 v ≠ 0
            rw [(p1 v v0 v1 hv).1]
            exact hv
          have low : ∀ v : Int, v ≠ r → up_ w.2.1 r (min (w.2.1 r) (w.2.1 k)) v = w.2.1 v := fun v ne => up_ne ne
          have lr := q4 r r0.1 r0.2 (uv r r0.1 r0.2 ru)
          have lk := q4 k k0.1 k0.2 p2
          refine ⟨⟨q1, q2, q3, fun v v0 v1 hv => ?_⟩, Nat.le_trans (uvc_mono (s := u) (fun v v0 v1 hv => uv v v0 v1 hv)) i8, fun x y x0 x1 y0 y1 hx ne hxy => ?_, fun x x0 x1 hx ne hxr => ?_, fun j j0 j1 hj => ?_⟩
          · show 1 ≤ up_ w.2.1 r (min (w.2.1 r) (w.2.1 k)) v
            by_cases e : v = r
            · rw [e, up_at]
              omega
            · rw [low v e]
              exact q4 v v0 v1 hv
          · by_cases e : vis_ u x
            · exact uv y y0 y1 (iH x y x0 x1 y0 y1 e ne hxy)
            · exact p3 x y x0 x1 y0 y1 ⟨hx, e⟩ hxy
          · show up_ w.2.1 r (min (w.2.1 r) (w.2.1 k)) x = 1 ↔ _
            rw [low x ne]
            by_cases e : vis_ u x
            · rw [(p1 x x0 x1 e).2]
              exact i6 x x0 x1 e ne hxr
            · exact p6 x x0 x1 ⟨hx, e⟩ hxr
          · by_cases e : j = k
            · rw [e]
              exact p2
            · exact uv j j0 (by omega) (i3a j j0 (by omega) hj)
        · rw [if_neg c2] at ht2
          subst ht2
          have low : ∀ v : Int, v ≠ r → up_ u.2.1 r (min (u.2.1 r) (u.1 k)) v = u.2.1 v := fun v ne => up_ne ne
          have lr := u4 r r0.1 r0.2 ru
          have nk : 1 ≤ u.1 k := by
            by_cases e : (k : Int) = r
            · rw [e, u1]
              decide
            · have := u3 k k0.1 k0.2 e c2
              omega
          refine ⟨⟨u1, u2, u3, fun v v0 v1 hv => ?_⟩, i8, iH, fun x x0 x1 hx ne hxr => ?_, fun j j0 j1 hj => ?_⟩
          · show 1 ≤ up_ u.2.1 r (min (u.2.1 r) (u.1 k)) v
            by_cases e : v = r
            · rw [e, up_at]
              omega
            · rw [low v e]
              exact u4 v v0 v1 hv
          · show up_ u.2.1 r (min (u.2.1 r) (u.1 k)) x = 1 ↔ _
            rw [low x ne]
            exact i6 x x0 x1 hx ne hxr
          · by_cases e : j = k
            · rw [e]
              exact c2
            · exact i3a j j0 (by omega) hj
  obtain ⟨⟨u1, u2, u3, u4⟩, -, -, i6, i3a⟩ := inv 8 (Nat.le_refl 8) _ rfl
  have e : vi_ f 8 r (-1) (fun _ => 0, fun _ => 0, 0) = fo_ (fun i x => vx_ (vi_ f 7) f r (-1) i x) (vz_ r (fun _ => 0, fun _ => 0, 0)) 8 := rfl
  unfold se_
  rw [e]
  generalize fo_ (fun i x => vx_ (vi_ f 7) f r (-1) i x) (vz_ r (fun _ => 0, fun _ => 0, 0)) 8 = t at u1 u2 u3 u4 i6 i3a
  have bv := i3a b b0.1 (by omega) (by rw [hs]; exact hbr)
  have lb := u4 b b0.1 b0.2 bv
  have k6 := i6 b b0.1 b0.2 bv hb hbr
  rw [u1]
  by_cases c : t.2.1 b = 1
  · rw [c, if_neg (by decide)]
    exact ⟨fun h => absurd h (by decide), fun h => absurd (k6.mp c) h⟩
  · rw [if_pos (by omega)]
    exact ⟨fun _ h => c (k6.mpr h), fun _ => rfl⟩
theorem sa_rl {q : rw_t} (hW : wf_M q) (hU : uj_ q) {m : Int} (hm : 0 ≤ m ∧ m < q 3) (i j : Int) : sa_ (rl_ q m 1) i j = @ite Int (jn_ q m i j) (Classical.propDecidable _) 0 (sa_ q i j) := by
  have w3 := hW.1
  have U2 := uj_eJ w3.2 (eJ_rl (w := 1) hm.1 (eJ_refl q)) hU
  have n3 := (rl_jn (q := q) hm.1 hm.1).2.2
  have jj : ∀ k : Int, 0 ≤ k → (jn_ (rl_ q m 1) k i j ↔ jn_ q k i j) := fun k k0 => by
    obtain ⟨r1, r2, -⟩ := rl_jn (q := q) hm.1 k0
    unfold jn_
    rw [r1, r2]
  by_cases c : ∃ k : Int, (0 ≤ k ∧ k < q 3) ∧ jn_ q k i j
  · obtain ⟨k, k0, hk⟩ := c
    rw [sa_yes U2 (by rw [n3]; exact w3.1) k0.1 (by rw [n3]; exact k0.2) ((jj k k0.1).mpr hk), sa_yes hU w3.1 k0.1 k0.2 hk, rl_br]
    by_cases e : k = m
    · rw [if_pos e, if_pos (by rw [← e]; exact hk)]
    · rw [if_neg e, if_neg (fun h => e (uj_eq hU k0.1 k0.2 hm.1 hm.2 hk h))]
  · have no : ∀ k : Int, 0 ≤ k → k < q 3 → ¬ jn_ q k i j := fun k k0 k1 h => c ⟨k, ⟨k0, k1⟩, h⟩
    rw [sa_no (by rw [n3]; exact w3.1) (fun k k0 k1 h => no k k0 (by rw [n3] at k1; exact k1) ((jj k k0).mp h)), sa_no w3.1 no, if_neg (no m hm.1 hm.2)]
theorem cnn_cut {q : rw_t} (hW : wf_M q) (hU : uj_ q) {m : Int} (hm : 0 ≤ m ∧ m < q 3) : cnn_ (sa_ q) (q (16 + 6 * m)) (q (17 + 6 * m)) ↔ rch_ (sa_ (rl_ q m 1)) 1 (q (16 + 6 * m)) 7 (q (17 + 6 * m)) := by
  have w3 := hW.1
  obtain ⟨g0, g1, -⟩ := hW.2 m hm.1 (by omega)
  have lt := hU.1 m hm.1 hm.2
  have sy := sa_sym q
  have key := fun i j => sa_rl hW hU hm i j
  generalize hr : q (16 + 6 * m) = r at *
  generalize hb : q (17 + 6 * m) = b at *
  have jm : ∀ i j : Int, jn_ q m i j ↔ (i = r ∧ j = b) ∨ (i = b ∧ j = r) := fun i j => by
    unfold jn_
    rw [hr, hb]
    omega
  constructor
  · rintro ⟨y, y0, yb, yr, yf, n, hn⟩
    -- from b to y, then to r, all without member m
    have up : ∀ (n : Nat) (j : Int), rch_ (gm_ (sa_ q) r) 1 b n j → rch_ (sa_ (rl_ q m 1)) 1 b n j := fun n j h => by
      induction n generalizing j with
      | zero => exact h
      | succ n ih =>
        rcases h with h | ⟨i, ir, h, hl⟩
        · exact .inl (ih j h)
        · refine .inr ⟨i, ir, ih i h, ?_⟩
          unfold gm_ at hl
          split at hl
          · omega
          · rename_i ne
            rw [key, if_neg (fun h => ne (by rcases (jm i j).mp h with h | h <;> omega))]
            exact hl
    have h2 : rch_ (sa_ (rl_ q m 1)) 1 b (n + 1) r := by
      refine .inr ⟨y, y0, up n y hn, ?_⟩
      rw [key, if_neg (fun h => by rcases (jm y r).mp h with h | h <;> omega)]
      omega
    obtain ⟨k, hk⟩ := rch_rev (sa_sym (rl_ q m 1)) _ _ g0.1 (by omega) h2
    exact rch_7 g0.1 (by omega) g1.1 (by omega) hk
  · intro h
    have w : ∀ (n : Nat) (j : Int), 0 ≤ j → j < 8 → rch_ (sa_ (rl_ q m 1)) 1 r n j → j = r ∨ ∃ y : Int, (0 ≤ y ∧ y < 8) ∧ 1 ≤ sa_ (rl_ q m 1) r y ∧ y ≠ r ∧ cvr_ (sa_ q) r y j := by
      intro n
      induction n with
      | zero => intro j _ _ h; exact .inl h
      | succ n ih =>
        intro j j0 j1 h
        rcases h with h | ⟨i, ir, h, hl⟩
        · exact ih j j0 j1 h
        · by_cases e : j = r
          · exact .inl e
          · refine .inr ?_
            rcases ih i ir.1 ir.2 h with e2 | ⟨y, y0, y1, y2, y3⟩
            · rw [e2] at hl
              exact ⟨j, ⟨j0, j1⟩, hl, e, cvr_refl _ _ _⟩
            · by_cases e3 : i = r
              · rw [e3] at hl
                exact ⟨j, ⟨j0, j1⟩, hl, e, cvr_refl _ _ _⟩
              · refine ⟨y, y0, y1, y2, cvr_tr y3 (cvr_1 ir e3 e ?_)⟩
                rw [key] at hl
                split at hl <;> omega
    rcases w 7 b g1.1 (by omega) h with e | ⟨y, y0, y1, y2, n, y3⟩
    · omega
    · rw [key] at y1
      split at y1
      · omega
      · rename_i ne
        have yb : y ≠ b := fun e => ne ((jm r y).mpr (.inl ⟨rfl, e⟩))
        have gs : ∀ i j : Int, gm_ (sa_ q) r i j = gm_ (sa_ q) r j i := fun i j => by
          unfold gm_
          by_cases c : i = r ∨ j = r
          · rw [if_pos c, if_pos c.symm]
          · rw [if_neg c, if_neg (fun h => c h.symm)]
            exact sy i j
        obtain ⟨k, hk⟩ := rch_rev gs n b g1.1 (by omega) y3
        exact ⟨y, y0, yb, y2, by rw [sy]; omega, k, hk⟩
theorem cq_acr {q : rw_t} (hW : wf_M q) (hU : uj_ q) {m : Int} (hm : 0 ≤ m ∧ m < q 3) : cq_ q m = acr_ q m := by
  have w3 := hW.1
  obtain ⟨g0, g1, -⟩ := hW.2 m hm.1 (by omega)
  have lb := br_le hW hm.1 (by omega : m < 16)
  have lt := hU.1 m hm.1 hm.2
  rw [acr_cut hW hU hm]
  unfold cq_
  by_cases z : br_ q m = 0
  · rw [if_pos z, if_pos z]
  · rw [if_neg z, if_neg z]
    have hf : ∀ i j : Int, 0 ≤ i → i < 8 → 0 ≤ j → j < 8 → 0 ≤ sa_ q i j := fun i j _ _ _ _ => by
      refine Classical.byContradiction (fun no => ?_)
      by_cases c : ∃ k : Int, (0 ≤ k ∧ k < q 3) ∧ jn_ q k i j
      · obtain ⟨k, k0, hk⟩ := c
        have := br_le hW k0.1 (by omega : k < 16)
        rw [sa_yes hU w3.1 k0.1 k0.2 hk] at no
        omega
      · rw [sa_no w3.1 (fun k k0 k1 h => c ⟨k, ⟨k0, k1⟩, h⟩)] at no
        omega
    have hbr : 0 < sa_ q (q (17 + 6 * m)) (q (16 + 6 * m)) := by
      rw [sa_yes hU w3.1 hm.1 hm.2 (.inr ⟨rfl, rfl⟩)]
      omega
    have R := vroot (r := q (16 + 6 * m)) (b := q (17 + 6 * m)) ⟨g0.1, by omega⟩ hf (sa_sym q) ⟨g1.1, by omega⟩ (by omega) hbr
    have ls := se_le (sa_ q) (q (16 + 6 * m)) (q (17 + 6 * m))
    rw [cnn_cut hW hU hm] at R
    by_cases c : rch_ (sa_ (rl_ q m 1)) 1 (q (16 + 6 * m)) 7 (q (17 + 6 * m))
    · rw [if_pos c]
      have : se_ (sa_ q) (q (16 + 6 * m)) (q (17 + 6 * m)) ≠ 1 := fun e => R.mp e c
      omega
    · rw [if_neg c]
      exact R.mpr c
end
section
theorem up2_spec (s : dj_t) : ∀ k : Nat, ((up2_ s k).1 = -1 ∧ (up2_ s k).2 = 1000000 ∧ ∀ j : Int, 0 ≤ j → j < k → s.2 j = 0 → 1000000 ≤ s.1 j) ∨ ((0 ≤ (up2_ s k).1 ∧ (up2_ s k).1 < k) ∧ s.2 (up2_ s k).1 = 0 ∧ (up2_ s k).2 = s.1 (up2_ s k).1 ∧ s.1 (up2_ s k).1 < 1000000 ∧ ∀ j : Int, 0 ≤ j → j < k → s.2 j = 0 → s.1 (up2_ s k).1 ≤ s.1 j)
  | 0 => .inl ⟨rfl, rfl, fun j j0 j1 => by omega⟩
  | k + 1 => by
    have e : up2_ s (k + 1) = uq_ s (up2_ s k) (k : Int) := rfl
    rw [e]
    unfold uq_
    by_cases c : s.2 (k : Int) = 0 ∧ s.1 (k : Int) < (up2_ s k).2
    · rw [if_pos c]
      refine .inr ⟨by constructor <;> simp only <;> omega, c.1, rfl, ?_, fun j j0 j1 hj => ?_⟩
      · rcases up2_spec s k with ⟨-, h, -⟩ | ⟨-, -, h, h2, -⟩
        · simp only; omega
        · simp only; omega
      · by_cases ej : j = (k : Int)
        · rw [ej]; exact Int.le_refl _
        · rcases up2_spec s k with ⟨-, h, h2⟩ | ⟨-, -, h, h2, h3⟩
          · have := h2 j j0 (by omega) hj
            simp only; omega
          · have := h3 j j0 (by omega) hj
            simp only; omega
    · rw [if_neg c]
      rcases up2_spec s k with ⟨h0, h, h2⟩ | ⟨h0, h1, h, h2, h3⟩
      · refine .inl ⟨h0, h, fun j j0 j1 hj => ?_⟩
        by_cases ej : j = (k : Int)
        · rw [ej] at hj ⊢
          omega
        · exact h2 j j0 (by omega) hj
      · refine .inr ⟨by omega, h1, h, h2, fun j j0 j1 hj => ?_⟩
        by_cases ej : j = (k : Int)
        · rw [ej] at hj ⊢
          omega
        · exact h3 j j0 (by omega) hj
def djv_ (f : gr_t) (a : Int) (F : gr_t) (s : dj_t) : Prop := s.1 a = 0 ∧ lm_ s.1 1000000 ∧ (∀ u w : Int, 0 ≤ u → u < 8 → 0 ≤ w → w < 8 → s.2 u ≠ 0 → s.2 w = 0 → s.1 u ≤ s.1 w) ∧ (∀ u j : Int, 0 ≤ u → u < 8 → 0 ≤ j → j < 8 → s.2 u ≠ 0 → s.1 j ≤ s.1 u + f u j) ∧ ∀ j : Int, 0 ≤ j → j < 8 → j = a ∨ F a j ≤ s.1 j
def djn_ (s : dj_t) : Prop := ∀ j : Int, 0 ≤ j → j < 8 → s.2 j = 0 → 1000000 ≤ s.1 j
theorem djv_0 {f F : gr_t} {a : Int} (a0 : 0 ≤ a) (a1 : a < 8) (hF : ∀ j : Int, 0 ≤ j → j < 8 → F a j ≤ 1000000) : djv_ f a F (di_ a) := by
  refine ⟨if_pos rfl, fun j j0 j1 => ?_, fun u w _ _ _ _ h => absurd rfl h, fun u w _ _ _ _ h => absurd rfl h, fun j j0 j1 => ?_⟩
  · show 0 ≤ (if j = a then (0 : Int) else 1000000) ∧ (if j = a then (0 : Int) else 1000000) ≤ 1000000
    split <;> omega
  · by_cases e : j = a
    · exact .inl e
    · right
      show F a j ≤ (if j = a then (0 : Int) else 1000000)
      rw [if_neg e]
      exact hF j j0 j1
theorem djv_s {f F : gr_t} {a : Int} {s : dj_t} (a0 : 0 ≤ a) (a1 : a < 8) (lf : gl_ f 1000000) (hF1 : ∀ j : Int, 0 ≤ j → j < 8 → F a j ≤ f a j) (hF2 : ∀ u j : Int, 0 ≤ u → u < 8 → 0 ≤ j → j < 8 → F a j ≤ F a u + f u j) (h : djv_ f a F s) (hn : un_ s ≠ -1) : djv_ f a F (dg_ f s) ∧ s.2 (un_ s) = 0 ∧ (0 ≤ un_ s ∧ un_ s < 8) ∧ s.1 (un_ s) < 1000000 := by
  obtain ⟨i0, i1, i2, i3, i4⟩ := h
  have e : un_ s = (up2_ s 8).1 := rfl
  rcases up2_spec s 8 with ⟨h0, -, -⟩ | ⟨n01, nu, -, npos, nmax⟩
  · exact absurd (e.trans h0) hn
  · rw [← e] at n01 nu npos nmax
    unfold dg_
    rw [if_neg hn]
    generalize un_ s = n at n01 nu npos nmax
    have n0 := n01.1
    have n1 : n < 8 := by omega
    have ln := i1 n n0 n1
    have vis : ∀ j : Int, up_ s.2 n 1 j ≠ 0 ↔ (s.2 j ≠ 0 ∨ j = n) := fun j => by
      unfold up_
      split
      · rename_i q; exact ⟨fun _ => .inr q, fun _ => by decide⟩
      · rename_i q; exact ⟨fun h => .inl h, fun h => h.resolve_right q⟩
    have unv : ∀ j : Int, up_ s.2 n 1 j = 0 → s.2 j = 0 ∧ j ≠ n := fun j hj => by
      refine ⟨Classical.byContradiction fun c => (vis j).mpr (.inl c) hj, fun c => (vis j).mpr (.inr c) hj⟩
    refine ⟨⟨?_, fun j j0 j1 => ?_, fun x m x0 x1 m0 m1 hx hm => ?_, fun x j x0 x1 j0 j1 hx => ?_, fun j j0 j1 => ?_⟩, nu, ⟨n0, n1⟩, npos⟩
    · show min (s.1 a) (s.1 n + f n a) = 0
      have := lf n a n0 n1 a0 a1
      omega
    · show 0 ≤ min (s.1 j) (s.1 n + f n j) ∧ min (s.1 j) (s.1 n + f n j) ≤ 1000000
      have := lf n j n0 n1 j0 j1
      have := i1 j j0 j1
      omega
    · obtain ⟨mu, mn⟩ := unv m hm
      have t1 := nmax m m0 (by omega) mu
      have t2 := lf n m n0 n1 m0 m1
      show min (s.1 x) (s.1 n + f n x) ≤ min (s.1 m) (s.1 n + f n m)
      rcases (vis x).mp hx with hv | rfl
      · have t3 := i2 x m x0 x1 m0 m1 hv mu
        have t4 := i2 x n x0 x1 n0 n1 hv nu
        omega
      · omega
    · show min (s.1 j) (s.1 n + f n j) ≤ min (s.1 x) (s.1 n + f n x) + f x j
      have t2 := lf n x n0 n1 x0 x1
      rcases (vis x).mp hx with hv | rfl
      · have t3 := i3 x j x0 x1 j0 j1 hv
        have t4 := i2 x n x0 x1 n0 n1 hv nu
        omega
      · omega
    · rcases i4 j j0 j1 with h | h
      · exact .inl h
      · right
        show F a j ≤ min (s.1 j) (s.1 n + f n j)
        by_cases c : n = a
        · have t := hF1 j j0 j1
          rw [c, i0]
          omega
        · have t := hF2 n j n0 n1 j0 j1
          have t2 := (i4 n n0 n1).resolve_left c
          omega
theorem dk_inv {f F : gr_t} {a : Int} (a0 : 0 ≤ a) (a1 : a < 8) (lf : gl_ f 1000000) (hF1 : ∀ j : Int, 0 ≤ j → j < 8 → F a j ≤ f a j) (hF2 : ∀ u j : Int, 0 ≤ u → u < 8 → 0 ≤ j → j < 8 → F a j ≤ F a u + f u j) : ∀ k : Nat, djv_ f a F (dk_ f a k) ∧ (k ≤ cnt_ (fun j => (dk_ f a k).2 j ≠ 0) 8 ∨ djn_ (dk_ f a k))
  | 0 => ⟨djv_0 a0 a1 (fun j j0 j1 => Int.le_trans (hF1 j j0 j1) (lf a j a0 a1 j0 j1).2), .inl (Nat.zero_le _)⟩
  | k + 1 => by
    obtain ⟨h1, h2⟩ := dk_inv a0 a1 lf hF1 hF2 k
    have e : dk_ f a (k + 1) = dg_ f (dk_ f a k) := rfl
    rw [e]
    by_cases hn : un_ (dk_ f a k) = -1
    · have eg : dg_ f (dk_ f a k) = dk_ f a k := by unfold dg_; rw [if_pos hn]
      rw [eg]
      refine ⟨h1, .inr (fun j j0 j1 hj => ?_)⟩
      have en : un_ (dk_ f a k) = (up2_ (dk_ f a k) 8).1 := rfl
      rcases up2_spec (dk_ f a k) 8 with ⟨-, -, h⟩ | ⟨h, -⟩
      · exact h j j0 (by omega) hj
      · omega
    · obtain ⟨i1, nu, n01, npos⟩ := djv_s a0 a1 lf hF1 hF2 h1 hn
      refine ⟨i1, .inl ?_⟩
      rcases h2 with h2 | h2
      · have h := cnt_lt (P := fun j => (dk_ f a k).2 j ≠ 0) (Q := fun j => (dg_ f (dk_ f a k)).2 j ≠ 0) 8 (fun j hj hv => by
            unfold dg_
            rw [if_neg hn]
            show up_ (dk_ f a k).2 _ 1 (j : Int) ≠ 0
            unfold up_
            split
            · decide
            · exact hv) ⟨(un_ (dk_ f a k)).toNat, by omega, by
            unfold dg_
            rw [if_neg hn, Int.toNat_of_nonneg n01.1]
            show up_ (dk_ f a k).2 _ 1 _ ≠ 0
            rw [up_at]
            decide, by
            rw [Int.toNat_of_nonneg n01.1]
            exact fun q => q nu⟩
        omega
      · have := h2 _ n01.1 n01.2 nu
        omega
theorem dk_fin {f F : gr_t} {a : Int} (a0 : 0 ≤ a) (a1 : a < 8) (lf : gl_ f 1000000) (hF1 : ∀ j : Int, 0 ≤ j → j < 8 → F a j ≤ f a j) (hF2 : ∀ u j : Int, 0 ≤ u → u < 8 → 0 ≤ j → j < 8 → F a j ≤ F a u + f u j) : (dk_ f a 8).1 a = 0 ∧ lm_ (dk_ f a 8).1 1000000 ∧ (∀ u j : Int, 0 ≤ u → u < 8 → 0 ≤ j → j < 8 → (dk_ f a 8).1 j ≤ (dk_ f a 8).1 u + f u j) ∧ ∀ j : Int, 0 ≤ j → j < 8 → j = a ∨ F a j ≤ (dk_ f a 8).1 j := by
  obtain ⟨⟨i0, i1, i2, i3, i4⟩, hc⟩ := dk_inv a0 a1 lf hF1 hF2 8
  have fin : djn_ (dk_ f a 8) := by
    rcases hc with hc | hc
    · intro j j0 j1 hj
      have h := cnt_lt (P := fun j => (dk_ f a 8).2 j ≠ 0) (Q := fun _ => True) 8 (fun _ _ _ => trivial) ⟨j.toNat, by omega, trivial, by rw [Int.toNat_of_nonneg j0]; exact fun q => q hj⟩
      have h2 := cnt_le (fun _ => True) 8
      omega
    · exact hc
  refine ⟨i0, i1, fun u j u0 u1 j0 j1 => ?_, i4⟩
  by_cases c : (dk_ f a 8).2 u = 0
  · have t := fin u u0 u1 c
    have t2 := i1 j j0 j1
    have t3 := lf u j u0 u1 j0 j1
    omega
  · exact i3 u j u0 u1 j0 j1 c
theorem fr1_at {k i : Int} {f : gr_t} (k0 : 0 ≤ k) (hk : 0 ≤ f k k) : ∀ n : Nat, ∀ a b : Int, fr1_ k i f n a b = if a = i ∧ 0 ≤ b ∧ b < n then min (f i b) (f i k + f k b) else f a b
  | 0, a, b => by
    rw [if_neg (by omega)]
    rfl
  | n + 1, a, b => by
    have ih := fr1_at (i := i) k0 hk n
    have e : fr1_ k i f (n + 1) = fq_ k i n (fr1_ k i f n) := rfl
    have g1 : fr1_ k i f n i n = f i n := by rw [ih, if_neg (by omega)]
    have g2 : fr1_ k i f n i k = f i k := by
      rw [ih]
      split
      · omega
      · rfl
    have g3 : fr1_ k i f n k n = f k n := by rw [ih, if_neg (by omega)]
    rw [e]
    unfold fq_ ug_
    rw [g1, g2, g3]
    by_cases c : a = i ∧ b = n
    · rw [if_pos c, if_pos (by omega), c.2]
    · rw [if_neg c, ih]
      by_cases d : a = i ∧ 0 ≤ b ∧ b < n
      · rw [if_pos d, if_pos (by omega)]
      · rw [if_neg d, if_neg (by omega)]
theorem fr2_at {k : Int} {f : gr_t} (k0 : 0 ≤ k) (k1 : k < 8) (hk : 0 ≤ f k k) : ∀ n : Nat, ∀ a b : Int, 0 ≤ b → b < 8 → fr2_ k f n a b = if 0 ≤ a ∧ a < n then min (f a b) (f a k + f k b) else f a b
  | 0, a, b, _, _ => by
    rw [if_neg (by omega)]
    rfl
  | n + 1, a, b, b0, b1 => by
    have ih := fr2_at k0 k1 hk n
    have e : fr2_ k f (n + 1) = fr1_ k n (fr2_ k f n) 8 := rfl
    have g0 : 0 ≤ fr2_ k f n k k := by
      rw [ih k k k0 k1]
      split <;> omega
    have g1 : fr2_ k f n n b = f n b := by rw [ih n b b0 b1, if_neg (by omega)]
    have g2 : fr2_ k f n n k = f n k := by rw [ih n k k0 k1, if_neg (by omega)]
    have g3 : fr2_ k f n k b = f k b := by
      rw [ih k b b0 b1]
      split <;> omega
    rw [e, fr1_at k0 g0 8 a b, g1, g2, g3]
    by_cases c : a = n
    · rw [if_pos (by omega), if_pos (by omega), c]
    · rw [if_neg (by omega), ih a b b0 b1]
      by_cases d : 0 ≤ a ∧ a < n
      · rw [if_pos d, if_pos (by omega)]
      · rw [if_neg d, if_neg (by omega)]
def fwv_ (f0 : gr_t) (k : Nat) (f : gr_t) : Prop := gl_ f 1000000 ∧ (∀ m i j : Int, 0 ≤ m → m < k → 0 ≤ i → i < 8 → 0 ≤ j → j < 8 → f i j ≤ f i m + f m j) ∧ (∀ i j : Int, 0 ≤ i → i < 8 → 0 ≤ j → j < 8 → f i j ≤ f0 i j) ∧ ∀ D : Int → Int, (∀ u j : Int, 0 ≤ u → u < 8 → 0 ≤ j → j < 8 → D j ≤ D u + f0 u j) → ∀ i j : Int, 0 ≤ i → i < 8 → 0 ≤ j → j < 8 → D j ≤ D i + f i j
theorem fwv_s {f0 f : gr_t} {k : Nat} (hk : k < 8) (h : fwv_ f0 k f) : fwv_ f0 (k + 1) (fr2_ k f 8) := by
  obtain ⟨h1, h2, h3, h4⟩ := h
  have kk := h1 k k (by omega) (by omega) (by omega) (by omega)
  have at_ : ∀ i j : Int, 0 ≤ i → i < 8 → 0 ≤ j → j < 8 → fr2_ k f 8 i j = min (f i j) (f i k + f k j) := fun i j i0 i1 j0 j1 => by
    rw [fr2_at (by omega) (by omega) kk.1 8 i j j0 j1, if_pos (by omega)]
  refine ⟨fun i j i0 i1 j0 j1 => ?_, fun m i j m0 m1 i0 i1 j0 j1 => ?_, fun i j i0 i1 j0 j1 => ?_, fun D hD i j i0 i1 j0 j1 => ?_⟩
  · rw [at_ i j i0 i1 j0 j1]
    have a1 := h1 i j i0 i1 j0 j1
    have a2 := h1 i k i0 i1 (by omega) (by omega)
    have a3 := h1 k j (by omega) (by omega) j0 j1
    omega
  · rw [at_ i j i0 i1 j0 j1, at_ i m i0 i1 m0 (by omega), at_ m j m0 (by omega) j0 j1]
    have a2 := h1 i k i0 i1 (by omega) (by omega)
    have a3 := h1 k j (by omega) (by omega) j0 j1
    by_cases c : m = k
    · rw [c]
      omega
    · have b1 := h2 m i j m0 (by omega) i0 i1 j0 j1
      have b2 := h2 m k j m0 (by omega) (by omega) (by omega) j0 j1
      have b3 := h2 m i k m0 (by omega) i0 i1 (by omega) (by omega)
      have a4 := h1 k m (by omega) (by omega) m0 (by omega)
      have a5 := h1 m k m0 (by omega) (by omega) (by omega)
      omega
  · rw [at_ i j i0 i1 j0 j1]
    have := h3 i j i0 i1 j0 j1
    omega
  · rw [at_ i j i0 i1 j0 j1]
    have b1 := h4 D hD i j i0 i1 j0 j1
    have b2 := h4 D hD i k i0 i1 (by omega) (by omega)
    have b3 := h4 D hD k j (by omega) (by omega) j0 j1
    omega
theorem fwv_k {f0 : gr_t} (h : gl_ f0 1000000) : ∀ k : Nat, k ≤ 8 → fwv_ f0 k (fr3_ f0 k)
  | 0, _ => ⟨h, fun m i j m0 m1 => by omega, fun i j _ _ _ _ => Int.le_refl _, fun D hD i j i0 i1 j0 j1 => hD i j i0 i1 j0 j1⟩
  | k + 1, hk => fwv_s (by omega) (fwv_k h k (by omega))
theorem dc_fc {f : gr_t} {a b : Int} (lf : gl_ f 1000000) (a0 : 0 ≤ a) (a1 : a < 8) (b0 : 0 ≤ b) (b1 : b < 8) (hne : a ≠ b) : dc_ f a b = fc_ f a b := by
  obtain ⟨h1, h2, h3, h4⟩ := fwv_k lf 8 (Nat.le_refl 8)
  obtain ⟨d1, d2, d3, d4⟩ := dk_fin (F := fr3_ f 8) a0 a1 lf (fun j j0 j1 => h3 a j a0 a1 j0 j1) (fun u j u0 u1 j0 j1 => by
    have t1 := h2 u a j u0 (by omega) a0 a1 j0 j1
    have t2 := h3 u j u0 u1 j0 j1
    omega)
  have t1 := h4 (dk_ f a 8).1 d3 a b a0 a1 b0 b1
  have t2 := (d4 b b0 b1).resolve_left (fun e => hne e.symm)
  show (dk_ f a 8).1 b = fr3_ f 8 a b
  omega
theorem nr_at {f t : gr_t} {l s i : Int} : ∀ n : Nat, ∀ a b : Int, nr_ f l s i t n a b = if a = i ∧ 0 ≤ b ∧ b < n then (if t a b = 0 ∧ f a b ≤ s then l else t a b) else t a b
  | 0, a, b => by
    rw [if_neg (by omega)]
    rfl
  | n + 1, a, b => by
    have ih := nr_at (f := f) (t := t) (l := l) (s := s) (i := i) n
    have e : nr_ f l s i t (n + 1) = nq_ f l s i n (nr_ f l s i t n) := rfl
    have g1 : nr_ f l s i t n i n = t i n := by rw [ih, if_neg (by omega)]
    rw [e]
    unfold nq_
    rw [g1]
    by_cases c : a = i ∧ b = n
    · obtain ⟨rfl, rfl⟩ := c
      rw [if_pos (show a = a ∧ 0 ≤ (n : Int) ∧ (n : Int) < (n + 1 : Nat) by omega)]
      by_cases d : t a n = 0 ∧ f a n ≤ s
      · rw [if_pos d, if_pos d]
        unfold ug_
        rw [if_pos ⟨rfl, rfl⟩]
      · rw [if_neg d, if_neg d, g1]
    · have k : (if t i n = 0 ∧ f i n ≤ s then ug_ (nr_ f l s i t n) i n l else nr_ f l s i t n) a b = nr_ f l s i t n a b := by
        split
        · unfold ug_
          rw [if_neg c]
        · rfl
      rw [k, ih]
      generalize (if t a b = 0 ∧ f a b ≤ s then l else t a b) = V
      by_cases d : a = i ∧ 0 ≤ b ∧ b < n
      · rw [if_pos d, if_pos (by omega)]
      · rw [if_neg d, if_neg (by omega)]
theorem na_at {f t : gr_t} {l s : Int} : ∀ n : Nat, ∀ a b : Int, 0 ≤ b → b < 8 → na_ f l s t n a b = if 0 ≤ a ∧ a < n then (if t a b = 0 ∧ f a b ≤ s then l else t a b) else t a b
  | 0, a, b, _, _ => by
    rw [if_neg (by omega)]
    rfl
  | n + 1, a, b, b0, b1 => by
    have ih := na_at (f := f) (t := t) (l := l) (s := s) n
    have e : na_ f l s t (n + 1) = nr_ f l s n (na_ f l s t n) 8 := rfl
    rw [e, nr_at]
    by_cases c : a = n
    · have g1 : na_ f l s t n a b = t a b := by rw [ih a b b0 b1, if_neg (by omega)]
      rw [g1]
      generalize (if t a b = 0 ∧ f a b ≤ s then l else t a b) = V
      rw [if_pos (by omega), if_pos (by omega)]
    · rw [if_neg (by omega : ¬ (a = (n : Int) ∧ 0 ≤ b ∧ b < ((8 : Nat) : Int))), ih a b b0 b1]
      generalize (if t a b = 0 ∧ f a b ≤ s then l else t a b) = V
      by_cases d : 0 ≤ a ∧ a < n
      · rw [if_pos d, if_pos (by omega)]
      · rw [if_neg d, if_neg (by omega)]
theorem tl_at {r : rw_t} (hW : wf_M r) {s a b : Int} (a0 : 0 ≤ a) (a1 : a < 8) (b0 : 0 ≤ b) (b1 : b < 8) (hne : a ≠ b) : ∀ (n : Nat) (t : gr_t), tl_ r s n t a b = if t a b = 0 then la_ r s a b n else t a b
  | 0, t => by
    show t a b = _
    split
    · rename_i h
      exact h
    · rfl
  | n + 1, t => by
    have e : tl_ r s (n + 1) t = tl_ r s n (ta1_ r s (n + 1 : Nat) t) := rfl
    have ih := tl_at hW (s := s) a0 a1 b0 b1 hne n (ta1_ r s (n + 1 : Nat) t)
    have ta : ta1_ r s (n + 1 : Nat) t a b = if iw_ r (n + 1 : Nat) = 1 ∧ (t a b = 0 ∧ dc_ (pr_ r (n + 1 : Nat)) a b ≤ s) then ((n + 1 : Nat) : Int) else t a b := by
      unfold ta1_
      by_cases c : iw_ r (n + 1 : Nat) = 1
      · rw [if_pos c, na_at 8 a b b0 b1, if_pos (by omega), ← dc_fc (pr_le hW) a0 a1 b0 b1 hne]
        by_cases d : t a b = 0 ∧ dc_ (pr_ r (n + 1 : Nat)) a b ≤ s
        · rw [if_pos d, if_pos ⟨c, d⟩]
        · rw [if_neg d, if_neg (fun h => d h.2)]
      · rw [if_neg c, if_neg (fun h => c h.1)]
    have la : la_ r s a b (n + 1) = if iw_ r (n + 1 : Nat) = 1 ∧ dc_ (pr_ r (n + 1 : Nat)) a b ≤ s then ((n + 1 : Nat) : Int) else la_ r s a b n := rfl
    rw [e, ih, la]
    by_cases z : t a b = 0
    · by_cases c : iw_ r (n + 1 : Nat) = 1 ∧ dc_ (pr_ r (n + 1 : Nat)) a b ≤ s
      · have t2 : ta1_ r s (n + 1 : Nat) t a b = ((n + 1 : Nat) : Int) := by rw [ta, if_pos ⟨c.1, z, c.2⟩]
        rw [t2, if_neg (show ¬ ((n + 1 : Nat) : Int) = 0 by omega), if_pos z, if_pos c]
      · have t2 : ta1_ r s (n + 1 : Nat) t a b = 0 := by rw [ta, if_neg (fun h => c ⟨h.1, h.2.2⟩), z]
        rw [t2, if_pos rfl, if_pos z, if_neg c]
    · have t2 : ta1_ r s (n + 1 : Nat) t a b = t a b := by rw [ta, if_neg (fun h => z h.2.1)]
      rw [t2, if_neg z, if_neg z]
theorem la_tb {r : rw_t} (hW : wf_M r) {s a b : Int} (a0 : 0 ≤ a) (a1 : a < 8) (b0 : 0 ≤ b) (b1 : b < 8) (hne : a ≠ b) : la_ r s a b 99 = tb_ r s a b := by
  have h := tl_at hW (s := s) a0 a1 b0 b1 hne 99 (fun _ _ => 0)
  show _ = tl_ r s 99 (fun _ _ => 0) a b
  rw [h, if_pos rfl]
theorem wt1_ex (r : rw_t) (a b : Int) : ∃ x, wt1_ r a b x := by
  have L : ∀ n : Nat, n ≤ 99 → (∀ l : Int, (n : Int) < l → l ≤ 99 → ¬ wb1_ r a b l) → ∃ x, wt1_ r a b x := by
    intro n
    induction n with
    | zero => intro _ h; exact ⟨0, .inl ⟨rfl, fun l l1 l9 => h l (by omega) l9⟩⟩
    | succ n ih =>
      intro hn h
      by_cases c : wb1_ r a b (n + 1 : Nat)
      · exact ⟨_, .inr ⟨⟨by omega, by omega⟩, c, h⟩⟩
      · refine ih (by omega) (fun l l1 l9 => ?_)
        by_cases e : l = (n + 1 : Nat)
        · rw [e]
          exact c
        · exact h l (by omega) l9
  exact L 99 (Nat.le_refl _) (fun l l1 l9 => by omega)
end
