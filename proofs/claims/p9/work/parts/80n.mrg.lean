section
/-! the best way: class and reference lay the same joints -/
theorem sb_sym (r : rw_t) (a b : Int) : ∀ n : Nat, sb_ r n a b = sb_ r n b a
  | 0 => rfl
  | n + 1 => by
    rw [sb_S, sb_S, sb_sym r a b n]
    by_cases c : (r (16 + 6 * (n : Int)) = a ∧ r (17 + 6 * (n : Int)) = b) ∨ (r (16 + 6 * (n : Int)) = b ∧ r (17 + 6 * (n : Int)) = a)
    · rw [if_pos c, if_pos c.symm]
    · rw [if_neg c, if_neg (fun q => c q.symm)]
theorem sa_sym (r : rw_t) (a b : Int) : sa_ r a b = sa_ r b a := sb_sym r a b _
theorem rch_tr {f : gr_t} {l a b : Int} {n : Nat} (h : rch_ f l a n b) : ∀ (m : Nat) (c : Int), rch_ f l b m c → rch_ f l a (n + m) c
  | 0, c, hc => by
    have e : c = b := hc
    rw [e]
    exact h
  | m + 1, c, hc => by
    rcases hc with hc | ⟨i, hi, hr, hl⟩
    · exact .inl (rch_tr h m c hc)
    · exact .inr ⟨i, hi, rch_tr h m i hr, hl⟩
theorem rch_rev {f : gr_t} {l a : Int} (hs : ∀ i j : Int, f i j = f j i) : ∀ (n : Nat) (j : Int), 0 ≤ j → j < 8 → rch_ f l a n j → ∃ m : Nat, rch_ f l j m a
  | 0, j, _, _, h => by
    have e : j = a := h
    exact ⟨0, e.symm⟩
  | n + 1, j, j0, j1, h => by
    rcases h with h | ⟨i, hi, hr, hl⟩
    · exact rch_rev hs n j j0 j1 h
    · obtain ⟨m, hm⟩ := rch_rev hs n i hi.1 hi.2 hr
      have h1 : rch_ f l j 1 i := .inr ⟨j, ⟨j0, j1⟩, rfl, by rw [hs]; exact hl⟩
      exact ⟨1 + m, rch_tr h1 m a hm⟩
theorem lk_spec (f : gr_t) (l : Int) (dd : Int → Int) (a : Int) : ∀ k : Nat, (lk_ f l dd a k = -1 ∧ ∀ j : Int, 0 ≤ j → j < k → ¬ (l ≤ f a j ∧ dd j < dd a)) ∨ ((0 ≤ lk_ f l dd a k ∧ lk_ f l dd a k < k) ∧ (l ≤ f a (lk_ f l dd a k) ∧ dd (lk_ f l dd a k) < dd a) ∧ ∀ j : Int, 0 ≤ j → j < lk_ f l dd a k → ¬ (l ≤ f a j ∧ dd j < dd a))
  | 0 => .inl ⟨rfl, fun j j0 j1 => by omega⟩
  | k + 1 => by
    have e : lk_ f l dd a (k + 1) = if lk_ f l dd a k = -1 ∧ l ≤ f a (k : Int) ∧ dd (k : Int) < dd a then (k : Int) else lk_ f l dd a k := rfl
    rw [e]
    rcases lk_spec f l dd a k with ⟨h0, h⟩ | ⟨h0, h1, h⟩
    · by_cases c : l ≤ f a (k : Int) ∧ dd (k : Int) < dd a
      · rw [if_pos ⟨h0, c⟩]
        exact .inr ⟨by omega, c, fun j j0 j1 => h j j0 j1⟩
      · rw [if_neg (fun q => c q.2)]
        refine .inl ⟨h0, fun j j0 j1 => ?_⟩
        by_cases ej : j = (k : Int)
        · rw [ej]; exact c
        · exact h j j0 (by omega)
    · rw [if_neg (fun q => by omega)]
      exact .inr ⟨by omega, h1, h⟩
theorem nx_spec (f : gr_t) (l : Int) (D : Int → Int) (a c : Int) : ∀ n : Nat, n ≤ 8 → (nx_ f l D a c n = -1 ∧ ∀ j : Int, 8 - (n : Int) ≤ j → j < 8 → ¬ (l ≤ f a j ∧ D j = c)) ∨ ((8 - (n : Int) ≤ nx_ f l D a c n ∧ nx_ f l D a c n < 8) ∧ (l ≤ f a (nx_ f l D a c n) ∧ D (nx_ f l D a c n) = c) ∧ ∀ j : Int, 8 - (n : Int) ≤ j → j < nx_ f l D a c n → ¬ (l ≤ f a j ∧ D j = c))
  | 0, _ => .inl ⟨rfl, fun j j0 j1 => by omega⟩
  | n + 1, hn => by
    have e : nx_ f l D a c (n + 1) = if l ≤ f a (7 - (n : Int)) ∧ D (7 - (n : Int)) = c then 7 - (n : Int) else nx_ f l D a c n := rfl
    rw [e]
    by_cases h : l ≤ f a (7 - (n : Int)) ∧ D (7 - (n : Int)) = c
    · rw [if_pos h]
      exact .inr ⟨by omega, h, fun j j0 j1 => by omega⟩
    · rw [if_neg h]
      rcases nx_spec f l D a c n (by omega) with ⟨h0, h1⟩ | ⟨h0, h1, h2⟩
      · refine .inl ⟨h0, fun j j0 j1 => ?_⟩
        by_cases ej : j = 7 - (n : Int)
        · rw [ej]; exact h
        · exact h1 j (by omega) j1
      · refine .inr ⟨by omega, h1, fun j j0 j1 => ?_⟩
        by_cases ej : j = 7 - (n : Int)
        · rw [ej]; exact h
        · exact h2 j (by omega) j1
section WAY
variable {q : rw_t} {u v l : Int}
/-- one step of the way: the same joint, one nearer -/
theorem way_step (hW : wf_M q) (hu : uj_ q) (v0 : 0 ≤ v) (v1 : v < 8) (l1 : 1 ≤ l) {x : Int} (x0 : 0 ≤ x) (x1 : x < 8) (hx : 1 ≤ md_ (sa_ q) l v x) (h7 : md_ (sa_ q) l v x ≤ 7) : ln_ (sa_ q) l (md_ (sa_ q) l v) x = nx_ (sa_ q) l (xm_ q l (-1) v 8) x (md_ (sa_ q) l v x - 1) 8 ∧ (0 ≤ ln_ (sa_ q) l (md_ (sa_ q) l v) x ∧ ln_ (sa_ q) l (md_ (sa_ q) l v) x < 8) ∧ md_ (sa_ q) l v (ln_ (sa_ q) l (md_ (sa_ q) l v) x) = md_ (sa_ q) l v x - 1 := by
  have near : ∀ j : Int, 0 ≤ j → j < 8 → l ≤ sa_ q x j → md_ (sa_ q) l v j ≤ 6 → md_ (sa_ q) l v x ≤ md_ (sa_ q) l v j + 1 := by
    intro j j0 j1 hl h6
    have hj := (md_le (sa_ q) (l := l) (t := v) j0 j1).1
    have a := (md_iff (sa_ q) (l := l) (t := v) j0 j1 (n := (md_ (sa_ q) l v j).toNat) (by omega)).mp (by omega)
    have b := (md_iff (sa_ q) (l := l) (t := v) x0 x1 (n := (md_ (sa_ q) l v j).toNat + 1) (by omega)).mpr (.inr ⟨j, ⟨j0, j1⟩, a, by rw [sa_sym]; exact hl⟩)
    omega
  have same : ∀ j : Int, 0 ≤ j → j < 8 → ((l ≤ sa_ q x j ∧ md_ (sa_ q) l v j < md_ (sa_ q) l v x) ↔ (l ≤ sa_ q x j ∧ xm_ q l (-1) v 8 j = md_ (sa_ q) l v x - 1)) := by
    intro j j0 j1
    have hj := (md_le (sa_ q) (l := l) (t := v) j0 j1).1
    constructor
    · rintro ⟨hl, hd⟩
      have := near j j0 j1 hl (by omega)
      rcases md_xm hW hu v0 v1 j0 j1 l1 with ⟨-, e⟩ | ⟨e, -⟩
      · exact ⟨hl, by omega⟩
      · omega
    · rintro ⟨hl, hd⟩
      rcases md_xm hW hu v0 v1 j0 j1 l1 with ⟨-, e⟩ | ⟨-, e⟩
      · exact ⟨hl, by omega⟩
      · omega
  have some : ∃ j : Int, (0 ≤ j ∧ j < 8) ∧ l ≤ sa_ q x j ∧ md_ (sa_ q) l v j < md_ (sa_ q) l v x := by
    have a := (md_iff (sa_ q) (l := l) (t := v) x0 x1 (n := (md_ (sa_ q) l v x).toNat) (by omega)).mp (by omega)
    rw [show (md_ (sa_ q) l v x).toNat = (md_ (sa_ q) l v x - 1).toNat + 1 by omega] at a
    rcases a with a | ⟨i, hi, hr, hl⟩
    · have := (md_iff (sa_ q) (l := l) (t := v) x0 x1 (n := (md_ (sa_ q) l v x - 1).toNat) (by omega)).mpr a
      omega
    · have := (md_iff (sa_ q) (l := l) (t := v) hi.1 hi.2 (n := (md_ (sa_ q) l v x - 1).toNat) (by omega)).mpr hr
      exact ⟨i, hi, by rw [sa_sym]; exact hl, by omega⟩
  obtain ⟨j, hj, hlj, hdj⟩ := some
  rcases lk_spec (sa_ q) l (md_ (sa_ q) l v) x 8 with ⟨-, h⟩ | ⟨k0, k1, k2⟩
  · exact absurd ⟨hlj, hdj⟩ (h j hj.1 (by omega))
  rcases nx_spec (sa_ q) l (xm_ q l (-1) v 8) x (md_ (sa_ q) l v x - 1) 8 (Nat.le_refl 8) with ⟨-, h⟩ | ⟨n0, n1, n2⟩
  · exact absurd ((same j hj.1 hj.2).mp ⟨hlj, hdj⟩) (h j (by omega) hj.2)
  have el : ln_ (sa_ q) l (md_ (sa_ q) l v) x = lk_ (sa_ q) l (md_ (sa_ q) l v) x 8 := by
    unfold ln_
    rw [if_neg (by omega)]
  rw [el]
  generalize lk_ (sa_ q) l (md_ (sa_ q) l v) x 8 = A at k0 k1 k2 ⊢
  generalize nx_ (sa_ q) l (xm_ q l (-1) v 8) x (md_ (sa_ q) l v x - 1) 8 = C at n0 n1 n2 ⊢
  have s1 := (same A k0.1 (by omega)).mp k1
  have s2 := (same C (by omega) n0.2).mpr n1
  have e : A = C := by
    rcases Int.lt_trichotomy A C with c | c | c
    · exact absurd s1 (n2 A (by omega) c)
    · exact c
    · exact absurd s2 (k2 C (by omega) c)
  refine ⟨e, by omega, ?_⟩
  have := near A k0.1 (by omega) k1.1 (by omega)
  omega
end WAY
end
section
/-! the best way whole: class and reference lay the same joints -/
section WAY
variable {q : rw_t} {u v l : Int}
theorem md_0 (f : gr_t) (v0 : 0 ≤ v) (v1 : v < 8) : md_ f l v v = 0 := by
  have a := (md_iff f (l := l) (t := v) v0 v1 (n := 0) (by decide)).mpr rfl
  have b := (md_le f (l := l) (t := v) v0 v1).1
  omega
theorem md_z {f : gr_t} {x : Int} (x0 : 0 ≤ x) (x1 : x < 8) (h : md_ f l v x = 0) : x = v := (md_iff f (l := l) (t := v) x0 x1 (n := 0) (by decide)).mp (by omega)
theorem way_all (hW : wf_M q) (hu : uj_ q) (u0 : 0 ≤ u) (u1 : u < 8) (v0 : 0 ≤ v) (v1 : v < 8) (l1 : 1 ≤ l) (J : Int → Int) (h7 : md_ (sa_ q) l v u ≤ 7) : ∀ k : Nat, (k : Int) ≤ md_ (sa_ q) l v u → (jw_ (sa_ q) l u v (md_ (sa_ q) l v) J k).2 = k ∧ (∀ i : Nat, i ≤ k → (jw_ (sa_ q) l u v (md_ (sa_ q) l v) J k).1 (i : Int) = wy1_ (sa_ q) l (xm_ q l (-1) v 8) u i) ∧ (0 ≤ wy1_ (sa_ q) l (xm_ q l (-1) v 8) u k ∧ wy1_ (sa_ q) l (xm_ q l (-1) v 8) u k < 8) ∧ md_ (sa_ q) l v (wy1_ (sa_ q) l (xm_ q l (-1) v 8) u k) = md_ (sa_ q) l v u - k
  | 0, _ => by
    refine ⟨rfl, fun i hi => ?_, ⟨u0, u1⟩, by show md_ (sa_ q) l v u = _; omega⟩
    have i0 : i = 0 := by omega
    subst i0
    exact (up_at : up_ J 0 u 0 = u)
  | k + 1, hk => by
    obtain ⟨h2, h1, hr, hd⟩ := way_all hW hu u0 u1 v0 v1 l1 J h7 k (by omega)
    have eD : xm_ q l (-1) v 8 u = md_ (sa_ q) l v u := by
      rcases md_xm hW hu v0 v1 u0 u1 l1 with ⟨-, e⟩ | ⟨e, -⟩
      · exact e
      · omega
    have e1 : jw_ (sa_ q) l u v (md_ (sa_ q) l v) J (k + 1) = js_ (sa_ q) l v (md_ (sa_ q) l v) ((k : Int) + 1) (jw_ (sa_ q) l u v (md_ (sa_ q) l v) J k) := rfl
    have e2 : wy1_ (sa_ q) l (xm_ q l (-1) v 8) u (k + 1) = nx_ (sa_ q) l (xm_ q l (-1) v 8) (wy1_ (sa_ q) l (xm_ q l (-1) v 8) u k) (xm_ q l (-1) v 8 u - ((k : Int) + 1)) 8 := rfl
    have hk1 := h1 k (Nat.le_refl k)
    have hne : wy1_ (sa_ q) l (xm_ q l (-1) v 8) u k ≠ v := fun e => by
      rw [e, md_0 _ v0 v1] at hd
      omega
    obtain ⟨s1, s2, s3⟩ := way_step hW hu v0 v1 l1 hr.1 hr.2 (by omega) (by omega)
    have e3 : js_ (sa_ q) l v (md_ (sa_ q) l v) ((k : Int) + 1) (jw_ (sa_ q) l u v (md_ (sa_ q) l v) J k) = (up_ (jw_ (sa_ q) l u v (md_ (sa_ q) l v) J k).1 ((k : Int) + 1) (ln_ (sa_ q) l (md_ (sa_ q) l v) (wy1_ (sa_ q) l (xm_ q l (-1) v 8) u k)), (k : Int) + 1) := by
      unfold js_
      rw [show (k : Int) + 1 - 1 = (k : Int) by omega, if_pos ⟨h2, by rw [hk1]; exact hne⟩, hk1]
    have e4 : ln_ (sa_ q) l (md_ (sa_ q) l v) (wy1_ (sa_ q) l (xm_ q l (-1) v 8) u k) = wy1_ (sa_ q) l (xm_ q l (-1) v 8) u (k + 1) := by
      rw [e2, s1, eD, hd]
      congr 1
      omega
    rw [e1, e3]
    rw [e4] at s2 s3 ⊢
    refine ⟨rfl, fun i hi => ?_, s2, by rw [s3, hd]; omega⟩
    by_cases e : i = k + 1
    · subst e
      exact up_at
    · show up_ _ _ _ (i : Int) = _
      rw [up_ne (by omega)]
      exact h1 i (by omega)
/-- the way that the class lays, and the reference's -/
theorem way_fw (hW : wf_M q) (hu : uj_ q) (u0 : 0 ≤ u) (u1 : u < 8) (v0 : 0 ≤ v) (v1 : v < 8) (hne : u ≠ v) (J : Int → Int) (l1 : 1 ≤ wb_ (sa_ q) u v) : (1 ≤ (fw_ (sa_ q) u v J).2 ∧ (fw_ (sa_ q) u v J).2 ≤ 7) ∧ (fw_ (sa_ q) u v J).2 = xm_ q (wb_ (sa_ q) u v) (-1) v 8 u ∧ ∀ i : Nat, (i : Int) ≤ (fw_ (sa_ q) u v J).2 → (fw_ (sa_ q) u v J).1 (i : Int) = wy1_ (sa_ q) (wb_ (sa_ q) u v) (xm_ q (wb_ (sa_ q) u v) (-1) v 8) u i := by
  have hr := (wb_iff (f := sa_ q) u0 u1 v0 v1 (fun e => hne e.symm) l1).mp (Int.le_refl _)
  obtain ⟨m, hm⟩ := rch_rev (sa_sym q) 7 v v0 v1 hr
  have h7 := (md_iff (sa_ q) u0 u1 (n := 7) (Nat.le_refl 7)).mpr (rch_7 v0 v1 u0 u1 hm)
  have h0 := (md_le (sa_ q) (l := wb_ (sa_ q) u v) (t := v) u0 u1).1
  have hp : md_ (sa_ q) (wb_ (sa_ q) u v) v u ≠ 0 := fun e => hne (md_z u0 u1 e)
  unfold fw_
  generalize wb_ (sa_ q) u v = l at l1 hm h7 h0 hp ⊢
  have eD : xm_ q l (-1) v 8 u = md_ (sa_ q) l v u := by
    rcases md_xm hW hu v0 v1 u0 u1 l1 with ⟨-, e⟩ | ⟨e, -⟩
    · exact e
    · omega
  obtain ⟨a1, a2, a3, a4⟩ := way_all hW hu u0 u1 v0 v1 l1 J h7 (md_ (sa_ q) l v u).toNat (by omega)
  have ez := md_z a3.1 a3.2 (by rw [a4]; omega)
  have et : ((md_ (sa_ q) l v u).toNat : Int) = md_ (sa_ q) l v u := by omega
  have st := jw_stop (f := sa_ q) (l := l) (a := u) (b := v) (dd := md_ (sa_ q) l v) (J := J) (k := (md_ (sa_ q) l v u).toNat) (by omega) (.inr ((a2 _ (Nat.le_refl _)).trans ez)) (by rw [a1]; omega)
  rw [st, a1, eD]
  exact ⟨by omega, et, fun i hi => a2 i (by omega)⟩
end WAY
end
section
/-! the reference walks -/
noncomputable def wkt_ (q : rw_t) (u v n : Int) : Int := if ¬ ((0 ≤ u ∧ u < 8) ∧ 0 ≤ v ∧ v < 8) then 1 else if u = v ∨ n < 1 ∨ 99 < n then 2 else if xw_ q u 8 v ≤ 0 then 3 else if xw_ q u 8 v < n + tw_ q then 4 else 0
noncomputable def wyJ_ (q : rw_t) (u v : Int) : Int → Int := fun i => wy1_ (sa_ q) (xw_ q u 8 v) (xm_ q (xw_ q u 8 v) (-1) v 8) u i.toNat
noncomputable def eJ_ (q r : rw_t) : Prop := r 3 = q 3 ∧ ∀ k : Int, 0 ≤ k → k < 16 → r (16 + 6 * k) = q (16 + 6 * k) ∧ r (17 + 6 * k) = q (17 + 6 * k)
theorem rd_eJ {q r : rw_t} {x f : Int} (h : eJ_ q r) : eJ_ q (rd_ r x f) := by
  refine ⟨?_, fun k k0 k1 => ⟨?_, ?_⟩⟩
  · unfold rd_
    rw [if_neg (by omega), if_neg (by omega)]
    exact h.1
  · unfold rd_
    rw [if_neg (by omega), if_neg (by omega)]
    exact (h.2 k k0 k1).1
  · unfold rd_
    rw [if_neg (by omega), if_neg (by omega)]
    exact (h.2 k k0 k1).2
theorem uj_eJ {q r : rw_t} (h3 : q 3 ≤ 16) (h : eJ_ q r) (hu : uj_ q) : uj_ r := by
  refine ⟨fun k k0 k1 => ?_, fun k l k0 k1 k2 => ?_⟩
  · have e := h.2 k k0 (by have := h.1; omega)
    have := hu.1 k k0 (by have := h.1; omega)
    omega
  · have e := h.2 k k0 (by have := h.1; omega)
    have e2 := h.2 l (by omega) (by have := h.1; omega)
    have := hu.2 k l k0 k1 (by have := h.1; omega)
    omega
/-- between, where a member joins -/
theorem bq_bt {r : rw_t} (hu : uj_ r) {a b v m : Int} (h : bq_ r a b v) (m0 : 0 ≤ m) (m1 : m < r 3) (hm : jn_ r m a b) : (0 ≤ v ∧ v < r 3) ∧ bt_ r a b v := by
  rcases h with ⟨-, h⟩ | ⟨v0, v1, h⟩
  · exact absurd ((jn_jr (hu.1 m m0 m1)).mpr hm) (h m m0 m1)
  · exact ⟨⟨v0, v1⟩, .inr ⟨v0, v1, (jn_jr (hu.1 v v0 v1)).mp h⟩⟩
theorem way_link {q : rw_t} {u v l : Int} (hW : wf_M q) (hu : uj_ q) (u0 : 0 ≤ u) (u1 : u < 8) (v0 : 0 ≤ v) (v1 : v < 8) (l1 : 1 ≤ l) (h7 : md_ (sa_ q) l v u ≤ 7) {k : Nat} (hk : (k : Int) < md_ (sa_ q) l v u) : ∃ m : Int, (0 ≤ m ∧ m < q 3) ∧ jn_ q m (wy1_ (sa_ q) l (xm_ q l (-1) v 8) u k) (wy1_ (sa_ q) l (xm_ q l (-1) v 8) u (k + 1)) := by
  obtain ⟨-, -, hr, -⟩ := way_all hW hu u0 u1 v0 v1 l1 (fun _ => 0) h7 (k + 1) (by omega)
  have e : wy1_ (sa_ q) l (xm_ q l (-1) v 8) u (k + 1) = nx_ (sa_ q) l (xm_ q l (-1) v 8) (wy1_ (sa_ q) l (xm_ q l (-1) v 8) u k) (xm_ q l (-1) v 8 u - ((k : Int) + 1)) 8 := rfl
  have hl : l ≤ sa_ q (wy1_ (sa_ q) l (xm_ q l (-1) v 8) u k) (wy1_ (sa_ q) l (xm_ q l (-1) v 8) u (k + 1)) := by
    rcases nx_spec (sa_ q) l (xm_ q l (-1) v 8) (wy1_ (sa_ q) l (xm_ q l (-1) v 8) u k) (xm_ q l (-1) v 8 u - ((k : Int) + 1)) 8 (Nat.le_refl 8) with ⟨h, -⟩ | ⟨-, h, -⟩
    · omega
    · rw [e]
      exact h.1
  obtain ⟨m, m1, hm, -⟩ := sa_ex hu hW.1.1 l1 hl
  exact ⟨m, ⟨by omega, m1⟩, hm⟩
section REF
variable {g : bc_C} {d : Nat} {σ : bc_M} {q b : rw_t} {h : List rw_t} {Rr : Option bc_A → bc_M → Prop} {X : Nat → bc_M → Prop} {B : Int}
theorem t_X11_walks {u v n : Int} (hG : rg_ σ q h) (hb : nw_ σ 220 b) (hW : wf_M q) (hN4 : wf_N q) (hU : uj_ q) (hu : bc_in u) (hv : bc_in v) (hn : bc_in n)
    (f1 : wkt_ q u v n ≠ 0 → ∀ σ', su_ (wkt_ q u v n) q h b σ σ' → Rr (some (bc_I 0)) σ')
    (f0 : wkt_ q u v n = 0 → ∀ σ' r', wl_ (n + tw_ q) (wyJ_ q u v) q (xm_ q (xw_ q u 8 v) (-1) v 8 u).toNat r' → su_ 0 r' h b σ σ' → Rr (some (bc_I (xm_ q (xw_ q u 8 v) (-1) v 8 u))) σ') : bc_Sem g (d + 8) mX11_walks [bc_R 218, bc_I u, bc_I v, bc_I n] σ Rr X := by
  obtain ⟨hN, hH⟩ := hG
  have w3 := hW.1
  obtain ⟨t1, t2, t3, t4, t5⟩ := hN4
  have htw : 0 ≤ tw_ q ∧ tw_ q ≤ 80 := by unfold tw_; omega
  refine e_X11_walks rfl (fun K hK => ?_)
  -- not right
  have N0 : ∀ x : Int, (0 ≤ x ∧ x ≤ 1) → ho_ x 0 0 1 = wkt_ q u v n → K 32 [(0, bc_R 218), (1, bc_I u), (2, bc_I v), (3, bc_I n), (4, bc_I x)] [bc_I 0] σ 0 := by
    intro x lx ht
    have S0 := su_t (q := q) (h := h) (b := b) ⟨hN, hH⟩ hb (wkt_ q u v n)
    have nz : wkt_ q u v n ≠ 0 := by
      rw [← ht]
      unfold ho_
      split <;> decide
    refine hK.1 [] 80 _ _ _ _ _ ?_
    refine bc_ob_i (by decide) ?_
    refine bc_br_i (fun _ => ?_) (fun c => absurd rfl c)
    refine bc_ob_i (by decide) ?_
    refine bc_br_i (fun _ => ?_) (fun c => absurd rfl c)
    refine bc_ob_i (by decide) ?_
    refine bc_br_i (fun c => absurd c (by decide)) (fun _ => ?_)
    refine bc_ob_i (by decide) ?_
    refine bc_br_i (fun c => absurd c (by decide)) (fun _ => ?_)
    refine t_X11_holds lx (by decide) (by decide) (by decide) ?_
    rw [ht, if_neg nz]
    refine bc_ob_i (by decide) ?_
    refine bc_br_i (fun _ => ?_) (fun q => absurd rfl q)
    exact f1 nz _ S0
  have N1 : ((0 ≤ u ∧ u < 8) ∧ 0 ≤ v ∧ v < 8) → u ≠ v → (1 ≤ n ∧ n ≤ 99) → K 32 [(0, bc_R 218), (1, bc_I u), (2, bc_I v), (3, bc_I n), (4, bc_I 1)] [bc_I 1] σ 0 := by
    intro hj0 hne hn1
    obtain ⟨⟨u0, u1⟩, v0, v1⟩ := id hj0
    have lw := xw_lm hW u 8 v v0 v1
    have l9 := xw_99 hW u 8 v (fun e => hne e.symm)
    have ew : ho_ 1 1 (if 0 < xw_ q u 8 v then 1 else 0) (if n + tw_ q ≤ xw_ q u 8 v then 1 else 0) = wkt_ q u v n := by
      have e1 : wkt_ q u v n = if xw_ q u 8 v ≤ 0 then 3 else if xw_ q u 8 v < n + tw_ q then 4 else 0 := by
        unfold wkt_
        rw [if_neg (fun k => k hj0), if_neg (by omega)]
      rw [e1]
      by_cases c1 : 0 < xw_ q u 8 v
      · by_cases c2 : n + tw_ q ≤ xw_ q u 8 v
        · rw [if_pos c1, if_pos c2, if_neg (by omega), if_neg (by omega)]
          rfl
        · rw [if_pos c1, if_neg c2, if_neg (by omega), if_pos (by omega)]
          rfl
      · rw [if_neg c1, if_pos (show xw_ q u 8 v ≤ 0 by omega)]
        rfl
    have T : ∀ (s : bc_M) (x y : Int), fr_ (fun k => k = 223) σ s → (x = if 0 < xw_ q u 8 v then 1 else 0) → (y = if n + tw_ q ≤ xw_ q u 8 v then 1 else 0) → K 95 [(0, bc_R 218), (1, bc_I u), (2, bc_I v), (3, bc_I n), (4, bc_I 1), (5, bc_I 1), (6, bc_I (xw_ q u 8 v)), (7, bc_I (n + tw_ q))] [bc_I y, bc_I x, bc_I 1, bc_I 1, bc_R 218] s 0 := by
      intro s x y F hx hy
      have lx : 0 ≤ x ∧ x ≤ 1 := by rw [hx]; split <;> omega
      have ly : 0 ≤ y ∧ y ≤ 1 := by rw [hy]; split <;> omega
      have ht : ho_ 1 1 x y = wkt_ q u v n := by rw [hx, hy]; exact ew
      have G1 : rg_ s q h := ⟨nw_fr hN F (by decide), mh_fr hH F (by decide) (by rw [F.1 218 (by decide)])⟩
      have S1 := su_t (b := b) G1 (nw_fr hb F (by decide)) (ho_ 1 1 x y)
      have S0 : su_ (ho_ 1 1 x y) q h b σ (bc_wr s 218 ((14 : Nat) : Int) (ho_ 1 1 x y)) := ⟨S1.1, S1.2.1, fr_trans (fr_mono F (fun k hk => by omega)) S1.2.2.1, fj_trans (fj_fr F (by decide)) S1.2.2.2⟩
      clear S1
      refine hK.1 [116] 80 _ _ _ _ _ ?_
      refine t_X11_holds (by decide) (by decide) lx ly ?_
      rw [ht] at S0 ⊢
      generalize bc_wr s 218 ((14 : Nat) : Int) (wkt_ q u v n) = s0 at S0 ⊢
      by_cases e : wkt_ q u v n = 0
      · rw [if_pos e]
        rw [e] at S0
        have l1 : 1 ≤ xw_ q u 8 v := by
          refine Classical.byContradiction (fun no => ?_)
          rw [← ew, if_neg (show ¬ 0 < xw_ q u 8 v by omega)] at e
          exact absurd e (by unfold ho_; rw [if_neg (by decide), if_neg (by decide), if_pos rfl]; decide)
        have W := wb_xw hW hU u0 u1 v0 v1 (fun e => hne e.symm) l9
        obtain ⟨P1, P2, -⟩ := way_fw hW hU u0 u1 v0 v1 hne (fun _ => 0) (by rw [W]; exact l1)
        rw [W] at P2
        rw [P2] at P1
        have h7 : xm_ q (xw_ q u 8 v) (-1) v 8 u = md_ (sa_ q) (xw_ q u 8 v) v u ∧ md_ (sa_ q) (xw_ q u 8 v) v u ≤ 7 := by
          rcases md_xm hW hU v0 v1 u0 u1 l1 with ⟨c1, c2⟩ | ⟨c1, c2⟩
          · exact ⟨c2, c1⟩
          · omega
        have hlink : ∀ k : Nat, (k : Int) < xm_ q (xw_ q u 8 v) (-1) v 8 u → ∃ m : Int, (0 ≤ m ∧ m < q 3) ∧ jn_ q m (wy1_ (sa_ q) (xw_ q u 8 v) (xm_ q (xw_ q u 8 v) (-1) v 8) u k) (wy1_ (sa_ q) (xw_ q u 8 v) (xm_ q (xw_ q u 8 v) (-1) v 8) u (k + 1)) := fun k hk => way_link hW hU u0 u1 v0 v1 l1 h7.2 (by omega)
        have hle := wy1_le (sa_ q) (xw_ q u 8 v) (xm_ q (xw_ q u 8 v) (-1) v 8) u ⟨u0, u1⟩
        have hJ : ∀ k : Nat, wyJ_ q u v (k : Int) = wy1_ (sa_ q) (xw_ q u 8 v) (xm_ q (xw_ q u 8 v) (-1) v 8) u k := fun k => by
          unfold wyJ_
          rw [Int.toNat_natCast]
        have hfin := f0 e
        have L : ∀ (M : Int) (wy : Nat → Int), M ≤ 7 → (∀ k : Nat, (k : Int) < M → ∃ m : Int, (0 ≤ m ∧ m < q 3) ∧ jn_ q m (wy k) (wy (k + 1))) → (∀ k, -1 ≤ wy k ∧ wy k ≤ 7) → (∀ k : Nat, wyJ_ q u v (k : Int) = wy k) → (∀ (σ' : bc_M) (r' : rw_t), wl_ (n + tw_ q) (wyJ_ q u v) q M.toNat r' → su_ 0 r' h b σ σ' → Rr (some (bc_I M)) σ') → ∀ k : Int, ∀ (s : bc_M) (R : rw_t) (z : bc_LV), 0 ≤ k → k ≤ M → su_ 0 R h b σ s → wl_ (n + tw_ q) (wyJ_ q u v) q k.toNat R → eJ_ q R → wf_M R → (∀ j : Nat, (j : Int) ≤ M → s.1 224 (j : Int) = wy j) → K 116 ([(0, bc_R 218), (1, bc_I u), (2, bc_I v), (3, bc_I n), (4, bc_I 1), (5, bc_I 1), (6, bc_I (xw_ q u 8 v)), (7, bc_I (n + tw_ q)), (8, bc_I M), (9, bc_I k)] ++ z) [] s 0 := by
          intro M wy m7 hlink hle hJ hfin
          refine up_ind M (fun k hk s R z k0 k1 S hw eJ hWR hc => ?_) (fun k hk ih s R z k0 k1 S hw eJ hWR hc => ?_)
          · have ek : k = M := by omega
            subst ek
            refine hK.2 _ _ [(0, bc_R 218), (1, bc_I u), (2, bc_I v), (3, bc_I n), (4, bc_I 1), (5, bc_I 1), (6, bc_I (xw_ q u 8 v)), (7, bc_I (n + tw_ q)), (8, bc_I k), (9, bc_I k)] _ _ _ (ls_ _ _) ?_
            refine hK.1 [116] 60 _ _ _ _ _ ?_
            refine bc_ob_i (by constructor <;> constructor <;> omega) ?_
            refine bc_br_i (fun c => absurd c (by omega)) (fun _ => ?_)
            exact hfin s R hw S
          · have en : ((k.toNat : Nat) : Int) = k := by omega
            have a1 := hc k.toNat (by omega)
            have a2 := hc (k.toNat + 1) (by omega)
            have en1 : ((k.toNat + 1 : Nat) : Int) = k + 1 := by omega
            rw [en] at a1
            rw [en1] at a2
            have b1 := hle k.toNat
            have b2 := hle (k.toNat + 1)
            obtain ⟨m, hm, hjn⟩ := hlink k.toNat (by omega)
            have hUR := uj_eJ w3.2 eJ hU
            have r3 := eJ.1
            have hjR : jn_ R m (wy k.toNat) (wy (k.toNat + 1)) := by
              obtain ⟨c1, c2⟩ := eJ.2 m hm.1 (by omega)
              unfold jn_
              rw [c1, c2]
              exact hjn
            have hNs := S.1.1.1
            refine hK.2 _ _ [(0, bc_R 218), (1, bc_I u), (2, bc_I v), (3, bc_I n), (4, bc_I 1), (5, bc_I 1), (6, bc_I (xw_ q u 8 v)), (7, bc_I (n + tw_ q)), (8, bc_I M), (9, bc_I k)] _ _ _ (ls_ _ _) ?_
            refine hK.1 [116] 120 _ _ _ _ _ ?_
            refine bc_ob_i (by constructor <;> constructor <;> omega) ?_
            refine bc_br_i (fun _ => ?_) (fun c => absurd c (by omega))
            refine bc_ob_i (by omega) ?_
            refine bc_ob_i (by omega) ?_
            refine t_X11_between hNs hWR (by rw [a1]; constructor <;> omega) (by rw [a2]; constructor <;> omega) (fun x hx => ?_)
            rw [a1, a2] at hx
            obtain ⟨⟨x0, x1⟩, hbt⟩ := bq_bt hUR hx hm.1 (by omega) hjR
            obtain ⟨g0, g1, g2, g3, g4, g5⟩ := hWR.2 x x0 (by omega)
            have hw' : wl_ (n + tw_ q) (wyJ_ q u v) q (k + 1).toNat (rd_ R x (n + tw_ q)) := by
              rw [show (k + 1).toNat = k.toNat + 1 by omega]
              refine ⟨R, x, hw, ?_, by rw [if_neg (by omega)]⟩
              rw [show ((k.toNat : Nat) : Int) + 1 = ((k.toNat + 1 : Nat) : Int) by omega, hJ, hJ]
              exact hbt
            have p3 : pl_ R x 3 = 19 + 6 * x := by
              rw [pl_at x0 x1]
              omega
            have T1 := su_w S (i := 19 + 6 * x) (v := min 9 (R (19 + 6 * x) + (R (20 + 6 * x) + (n + tw_ q)) / 100))
            have k3 : up_ R (19 + 6 * x) (min 9 (R (19 + 6 * x) + (R (20 + 6 * x) + (n + tw_ q)) / 100)) 3 = R 3 := up_ne (by omega)
            have p4 : pl_ (up_ R (19 + 6 * x) (min 9 (R (19 + 6 * x) + (R (20 + 6 * x) + (n + tw_ q)) / 100))) x 4 = 20 + 6 * x := by
              rw [pl_at x0 (by rw [k3]; exact x1)]
              omega
            have T2 := su_w T1 (i := 20 + 6 * x) (v := (R (20 + 6 * x) + (n + tw_ q)) % 100)
            have er : up_ (up_ R (19 + 6 * x) (min 9 (R (19 + 6 * x) + (R (20 + 6 * x) + (n + tw_ q)) / 100))) (20 + 6 * x) ((R (20 + 6 * x) + (n + tw_ q)) % 100) = rd_ R x (n + tw_ q) := by
              funext j
              unfold rd_ up_
              by_cases j1 : j = 20 + 6 * x
              · rw [if_pos j1, if_neg (by omega), if_pos j1]
              · rw [if_neg j1, if_neg j1]
            rw [er] at T2
            have go := ih _ (rd_ R x (n + tw_ q)) [(10, bc_I x), (11, bc_I (R (20 + 6 * x) + (n + tw_ q)))] (by omega) (by omega) T2 hw' (rd_eJ eJ) (rd_wf hWR x0 (by omega) (by omega)).1 (fun j hj => by
              have := hc j hj
              rw [bc_wr_ne (by decide), bc_wr_ne (by decide)]
              exact this)
            refine t_X11_ofM 20 hNs hWR x0 x1 (by decide) rfl ?_
            refine t_X11_place hNs hWR.1 (by constructor <;> omega) ?_
            rw [p3]
            refine t_X11_ofM 19 hNs hWR x0 x1 (by decide) rfl ?_
            refine bc_ob_i ⟨⟨by omega, by omega⟩, by decide, by decide⟩ ?_
            refine bc_ob_i ⟨by decide, by constructor <;> omega, Nat.le_of_ble_eq_true rfl⟩ ?_
            refine bc_ob_i (by omega) ?_
            refine t_X11_place T1.1.1.1 (by rw [k3]; exact hWR.1) (by constructor <;> omega) ?_
            rw [p4]
            refine bc_ob_i ⟨⟨by omega, by omega⟩, by decide, by decide⟩ ?_
            refine bc_ob_i (by omega) ?_
            exact go
        refine bc_ob_i (by decide) ?_
        refine bc_br_i (fun q => absurd q (by decide)) (fun _ => ?_)
        refine t_X11_finds S0.1.1.1 hW hU ⟨u0, u1⟩ ⟨v0, v1⟩ ⟨l1, l9⟩ (by omega) (fun s1 hw F1 => ?_)
        have S2 : su_ 0 q h b σ s1 := su_fr S0 F1 (by decide) (by decide) (by decide) (by decide) (fun k hk => by omega)
        exact L _ _ (by omega) hlink hle hJ hfin 0 s1 q [] (by decide) (by omega) S2 rfl ⟨rfl, fun k k0 k1 => ⟨rfl, rfl⟩⟩ hW hw
      · rw [if_neg e]
        refine bc_ob_i (by decide) ?_
        refine bc_br_i (fun _ => ?_) (fun q => absurd rfl q)
        exact f1 e _ S0
    have T2 : ∀ (s : bc_M) (x : Int), fr_ (fun k => k = 223) σ s → (x = if 0 < xw_ q u 8 v then 1 else 0) → K 83 [(0, bc_R 218), (1, bc_I u), (2, bc_I v), (3, bc_I n), (4, bc_I 1), (5, bc_I 1), (6, bc_I (xw_ q u 8 v)), (7, bc_I (n + tw_ q))] [bc_I x, bc_I 1, bc_I 1, bc_R 218] s 0 := by
      intro s x F hx
      refine hK.1 [95] 60 _ _ _ _ _ ?_
      refine bc_ob_i (by constructor <;> constructor <;> omega) ?_
      refine bc_br_i (fun c => ?_) (fun c => ?_)
      · first | exact T s x 1 F hx (if_pos (by omega)).symm | exact T s x 0 F hx (if_neg (by omega)).symm
      · first | exact T s x 1 F hx (if_pos (by omega)).symm | exact T s x 0 F hx (if_neg (by omega)).symm
    refine hK.1 [83] 80 _ _ _ _ _ ?_
    refine bc_ob_i (by decide) ?_
    refine bc_br_i (fun c => absurd c (by decide)) (fun _ => ?_)
    refine t_X11_widest hN hW ⟨u0, u1⟩ ⟨v0, v1⟩ (fun s F => ?_)
    refine bc_ob_i (by decide) ?_
    refine bc_br_i (fun c => absurd c (by decide)) (fun _ => ?_)
    refine t_X11_weighs (nw_fr hN F (by decide)) ?_
    refine bc_ob_i (by constructor <;> omega) ?_
    refine bc_br_i (fun c => ?_) (fun c => ?_)
    · first | exact T2 s 1 F (if_pos (by omega)).symm | exact T2 s 0 F (if_neg (by omega)).symm
    · first | exact T2 s 1 F (if_pos (by omega)).symm | exact T2 s 0 F (if_neg (by omega)).symm
  refine hK.1 [32] 80 _ _ _ _ _ ?_
  refine t_X11_areJoints hu hv ?_
  by_cases c : (0 ≤ u ∧ u < 8) ∧ 0 ≤ v ∧ v < 8
  · rw [if_pos c]
    have no : (u = v ∨ n < 1 ∨ 99 < n) → ho_ 1 0 0 1 = wkt_ q u v n := fun e => by
      unfold wkt_
      rw [if_neg (fun k => k c), if_pos e]
      rfl
    refine bc_ob_i (by decide) ?_
    refine bc_br_i (fun c => absurd c (by decide)) (fun _ => ?_)
    refine bc_ob_i ⟨hu, hv⟩ ?_
    refine bc_br_i (fun e => ?_) (fun e => ?_)
    · exact N0 1 (by decide) (no (.inl e))
    · refine t_X11_isIn hn (by decide) (by decide) ?_
      by_cases k : 1 ≤ n ∧ n ≤ 99
      · rw [if_pos k]
        refine bc_ob_i (by decide) ?_
        refine bc_br_i (fun c => absurd c (by decide)) (fun _ => ?_)
        exact N1 c e k
      · rw [if_neg k]
        refine bc_ob_i (by decide) ?_
        refine bc_br_i (fun _ => ?_) (fun c => absurd rfl c)
        exact N0 1 (by decide) (no (.inr (by omega)))
  · rw [if_neg c]
    refine bc_ob_i (by decide) ?_
    refine bc_br_i (fun _ => ?_) (fun c => absurd rfl c)
    refine N0 0 (by decide) ?_
    unfold wkt_
    rw [if_pos c]
    rfl
end REF
end
section
/-! a procession: class and reference leave the same row -/
theorem wkt_le (q : rw_t) (u v n : Int) : 0 ≤ wkt_ q u v n ∧ wkt_ q u v n ≤ 4 := by
  unfold wkt_
  (repeat' split) <;> omega
section REF
variable {g : bc_C} {d : Nat} {σ : bc_M} {q b : rw_t} {h : List rw_t} {Rr : Option bc_A → bc_M → Prop} {X : Nat → bc_M → Prop} {B : Int}
theorem t_X11_procession {u v n : Int} (hG : rg_ σ q h) (hW : wf_M q) (hN4 : wf_N q) (hU : uj_ q) (hu : bc_in u) (hv : bc_in v) (hn : bc_in n)
    (f1 : wkt_ q u v n ≠ 0 → ∀ σ', spo_ (wkt_ q u v n) q h σ σ' → Rr (some (bc_I 0)) σ')
    (f0 : wkt_ q u v n = 0 → ∀ σ' r', wl_ (n + tw_ q) (wyJ_ q u v) q (xm_ q (xw_ q u 8 v) (-1) v 8 u).toNat r' → spo_ 0 r' (hr_ h q) σ σ' → Rr (some (bc_I (xm_ q (xw_ q u 8 v) (-1) v 8 u))) σ') : bc_Sem g (d + 9) mX11_procession [bc_R 218, bc_I u, bc_I v, bc_I n] σ Rr X := by
  have le := wkt_le q u v n
  refine e_X11_procession rfl (fun K hK => ?_)
  refine hK.1 [] 60 _ _ _ _ _ ?_
  refine t_X11_begins2 hG (fun σ1 G1 b1 F1 J1 => ?_)
  refine t_X11_walks G1 b1 hW hN4 hU hu hv hn (fun c σ2 S2 => ?_) (fun c σ2 r' hw S2 => ?_)
  · exact t_X11_ends1 F1 J1 S2 (by omega) (f1 c)
  · exact t_X11_ends0 F1 J1 S2 (fun σ' S => f0 c σ' r' hw S)
end REF
theorem bt_eq {r : rw_t} (hu : uj_ r) {a b x y : Int} (hx : bt_ r a b x) (hy : bt_ r a b y) : x = y := by
  rcases hx with ⟨x0, hx⟩ | ⟨x0, x1, hx⟩
  · rcases hy with ⟨y0, -⟩ | ⟨y0, y1, hy⟩
    · omega
    · exact absurd hy (hx y y0 y1)
  · rcases hy with ⟨-, hy⟩ | ⟨y0, y1, hy⟩
    · exact absurd hx (hy x x0 x1)
    · exact uj_eq hu x0 x1 y0 y1 hx hy
theorem wl_eq {f : Int} {J J' : Int → Int} {q : rw_t} (h3 : q 3 ≤ 16) (hu : uj_ q) : ∀ (n : Nat) (r r' : rw_t), (∀ k : Nat, k ≤ n → J (k : Int) = J' (k : Int)) → wl_ f J q n r → wl_ f J' q n r' → r = r' ∧ eJ_ q r
  | 0, r, r', _, h, h' => by
    have e : r = q := h
    have e' : r' = q := h'
    rw [e, e']
    exact ⟨rfl, rfl, fun _ _ _ => ⟨rfl, rfl⟩⟩
  | n + 1, r, r', hJ, h, h' => by
    obtain ⟨q1, x, h1, b1, e1⟩ := h
    obtain ⟨q2, y, h2, b2, e2⟩ := h'
    obtain ⟨e, eJ⟩ := wl_eq h3 hu n q1 q2 (fun k hk => hJ k (by omega)) h1 h2
    subst e
    have hJ1 := hJ (n + 1) (Nat.le_refl _)
    rw [show ((n + 1 : Nat) : Int) = (n : Int) + 1 by omega] at hJ1
    rw [← hJ n (by omega), ← hJ1] at b2
    have exy := bt_eq (uj_eJ h3 eJ hu) b1 b2
    subst exy
    rw [e1, e2]
    refine ⟨rfl, ?_⟩
    split
    · exact eJ
    · exact rd_eJ eJ
/-- the same way, the same wear -/
theorem walk_same {q : rw_t} (hW : wf_M q) (hU : uj_ q) {u v n : Int} (J0 : Int → Int) (h0 : wkt_ q u v n = 0) : wb_ (sa_ q) u v = xw_ q u 8 v ∧ (fz_ (sa_ q) u v J0).2 = xm_ q (xw_ q u 8 v) (-1) v 8 u ∧ ∀ r1 r2 : rw_t, wl_ (n + tw_ q) (fz_ (sa_ q) u v J0).1 q (fz_ (sa_ q) u v J0).2.toNat r1 → wl_ (n + tw_ q) (wyJ_ q u v) q (xm_ q (xw_ q u 8 v) (-1) v 8 u).toNat r2 → r1 = r2 ∧ eJ_ q r1 := by
  have hj : (0 ≤ u ∧ u < 8) ∧ 0 ≤ v ∧ v < 8 := by
    refine Classical.byContradiction (fun c => ?_)
    unfold wkt_ at h0
    rw [if_pos c] at h0
    exact absurd h0 (by decide)
  have hne : u ≠ v := fun c => by
    unfold wkt_ at h0
    rw [if_neg (fun k => k hj), if_pos (.inl c)] at h0
    exact absurd h0 (by decide)
  have l1 : 1 ≤ xw_ q u 8 v := by
    refine Classical.byContradiction (fun c => ?_)
    unfold wkt_ at h0
    rw [if_neg (fun k => k hj)] at h0
    split at h0
    · exact absurd h0 (by decide)
    · rw [if_pos (by omega)] at h0
      exact absurd h0 (by decide)
  obtain ⟨⟨u0, u1⟩, v0, v1⟩ := hj
  have W := wb_xw hW hU u0 u1 v0 v1 (fun e => hne e.symm) (xw_99 hW u 8 v (fun e => hne e.symm))
  have ef : fz_ (sa_ q) u v J0 = fw_ (sa_ q) u v J0 := by
    unfold fz_
    rw [if_neg (by omega)]
  obtain ⟨P1, P2, P3⟩ := way_fw hW hU u0 u1 v0 v1 hne J0 (by omega)
  rw [ef]
  rw [W] at P2 P3
  refine ⟨W, P2, fun r1 r2 w1 w2 => ?_⟩
  rw [← P2] at w2
  refine wl_eq hW.1.2 hU _ r1 r2 (fun k hk => ?_) w1 w2
  rw [P3 k (by omega)]
  unfold wyJ_
  rw [Int.toNat_natCast]
/-- the faults of a walk, as class and reference count them -/
theorem wq_wkt {q : rw_t} (hW : wf_M q) (hU : uj_ q) (u v n : Int) : wq_ q u v n = if wkt_ q u v n = 3 then 4 else if wkt_ q u v n = 4 then 5 else wkt_ q u v n := by
  have le := wkt_le q u v n
  by_cases hj : (0 ≤ u ∧ u < 8) ∧ 0 ≤ v ∧ v < 8
  · by_cases hne : u = v
    · have e1 : wkt_ q u v n = 2 := by
        unfold wkt_
        rw [if_neg (fun k => k hj), if_pos (.inl hne)]
      have e2 : pf_ u v = 2 := by
        unfold pf_
        rw [if_neg (fun k => k hj), if_pos hne]
      unfold wq_
      rw [e1, e2]
      rfl
    · have e2 : pf_ u v = 0 := by
        unfold pf_
        rw [if_neg (fun k => k hj), if_neg hne]
      obtain ⟨⟨u0, u1⟩, v0, v1⟩ := id hj
      have W := wb_xw hW hU u0 u1 v0 v1 (fun e => hne e.symm) (xw_99 hW u 8 v (fun e => hne e.symm))
      have lw := (xw_lm hW u 8) v v0 v1
      have ew : wq_ q u v n = if n < 1 ∨ 99 < n then 2 else if xw_ q u 8 v = 0 then 4 else if xw_ q u 8 v < n + tw_ q then 5 else 0 := by
        unfold wq_
        rw [e2, W, if_neg (show ¬ (0 : Int) ≠ 0 by decide)]
      have ek : wkt_ q u v n = if u = v ∨ n < 1 ∨ 99 < n then 2 else if xw_ q u 8 v ≤ 0 then 3 else if xw_ q u 8 v < n + tw_ q then 4 else 0 := by
        unfold wkt_
        rw [if_neg (fun k => k hj)]
      rw [ew]
      by_cases c1 : n < 1 ∨ 99 < n
      · rw [if_pos (show u = v ∨ n < 1 ∨ 99 < n from .inr c1)] at ek
        rw [ek, if_pos c1]
        rfl
      · rw [if_neg (show ¬ (u = v ∨ n < 1 ∨ 99 < n) from fun k => k.elim hne c1)] at ek
        rw [if_neg c1]
        by_cases c2 : xw_ q u 8 v = 0
        · rw [if_pos (show xw_ q u 8 v ≤ 0 by omega)] at ek
          rw [ek, if_pos c2]
          rfl
        · rw [if_neg (show ¬ xw_ q u 8 v ≤ 0 by omega)] at ek
          rw [if_neg c2]
          by_cases c3 : xw_ q u 8 v < n + tw_ q
          · rw [if_pos c3] at ek
            rw [ek, if_pos c3]
            rfl
          · rw [if_neg c3] at ek
            rw [ek, if_neg c3]
            rfl
  · have e1 : wkt_ q u v n = 1 := by
      unfold wkt_
      rw [if_pos hj]
    have e2 : pf_ u v = 1 := by
      unfold pf_
      rw [if_pos hj]
    unfold wq_
    rw [e1, e2]
    rfl
end
section
/-! the reference's reading calls -/
/-- a reading call: thrown t; the scratch may have changed -/
noncomputable def roc_ (t : Int) (σ σ' : bc_M) : Prop := σ'.1 218 ((14 : Nat) : Int) = t ∧ fr_ (fun k => k = 218 ∨ k = 223 ∨ k = 224) σ σ' ∧ fj_ (fun j => j = 14) σ σ'
theorem roc_wr {σ : bc_M} {v t : Int} (e : v = t) : roc_ t σ (bc_wr σ 218 ((14 : Nat) : Int) v) := ⟨by rw [← e]; simp [bc_wr], fr_wr (.inl rfl), fj_wr rfl⟩
theorem roc_tr {P : Nat → Prop} {σ σ1 σ2 : bc_M} {t : Int} (F : fr_ P σ σ1) (hp : ¬ P 218) (hP : ∀ k, P k → k = 223 ∨ k = 224) (h : roc_ t σ1 σ2) : roc_ t σ σ2 := ⟨h.1, fr_trans (fr_mono F (fun k hk => .inr (hP k hk))) h.2.1, fj_trans (fj_fr F hp) h.2.2⟩
theorem roc_fr {P : Nat → Prop} {σ σ1 σ2 : bc_M} {t : Int} (h : roc_ t σ σ1) (F : fr_ P σ1 σ2) (hp : ¬ P 218) (hP : ∀ k, P k → k = 223 ∨ k = 224) : roc_ t σ σ2 := ⟨by rw [F.1 218 hp]; exact h.1, fr_trans h.2.1 (fr_mono F (fun k hk => .inr (hP k hk))), fj_trans h.2.2 (fj_fr F hp)⟩
/-- the bearing of the best way, what is thrown -/
noncomputable def atw_ (q : rw_t) (u v : Int) : Int := if ¬ ((0 ≤ u ∧ u < 8) ∧ 0 ≤ v ∧ v < 8) then 1 else if u = v then 2 else if xw_ q u 8 v ≤ 0 then 3 else 0
section REF
variable {g : bc_C} {d : Nat} {σ : bc_M} {q b : rw_t} {h : List rw_t} {Rr : Option bc_A → bc_M → Prop} {X : Nat → bc_M → Prop} {B : Int}
theorem t_X11_asks {m j : Int} (p : Int) (hN : nw_ σ 219 q) (hW : wf_M q) (hm : bc_in m) (hj : 0 ≤ j ∧ j ≤ 5) (e : p = 16 + j) (f1 : ¬ (0 ≤ m ∧ m < q 3) → ∀ σ', roc_ 1 σ σ' → Rr (some (bc_I 0)) σ') (f0 : 0 ≤ m ∧ m < q 3 → ∀ σ', roc_ 0 σ σ' → Rr (some (bc_I (q (p + 6 * m)))) σ') : bc_Sem g (d + 5) mX11_asks [bc_R 218, bc_I m, bc_I j] σ Rr X := by
  refine e_X11_asks rfl (fun K hK => ?_)
  refine hK.1 [] 60 _ _ _ _ _ ?_
  refine t_X11_isMember hN hW.1 hm ?_
  by_cases c : 0 ≤ m ∧ m < q 3
  · rw [if_pos c]
    refine t_X11_goes (by decide) ?_
    refine bc_ob_i (by decide) ?_
    refine bc_br_i (fun q => absurd q (by decide)) (fun _ => ?_)
    have R0 : roc_ 0 σ (bc_wr σ 218 ((14 : Nat) : Int) (1 - 1)) := roc_wr (by decide)
    refine t_X11_ofM p (nw_fr hN R0.2.1 (by decide)) hW c.1 c.2 hj e ?_
    exact f0 c _ R0
  · rw [if_neg c]
    refine t_X11_goes (by decide) ?_
    refine bc_ob_i (by decide) ?_
    refine bc_br_i (fun _ => ?_) (fun q => absurd rfl q)
    exact f1 c _ (roc_wr (by decide))
theorem t_X11_firstJoint {m : Int} (hN : nw_ σ 219 q) (hW : wf_M q) (hm : bc_in m) (f1 : ¬ (0 ≤ m ∧ m < q 3) → ∀ σ', roc_ 1 σ σ' → Rr (some (bc_I 0)) σ') (f0 : 0 ≤ m ∧ m < q 3 → ∀ σ', roc_ 0 σ σ' → Rr (some (bc_I (q (16 + 6 * m)))) σ') : bc_Sem g (d + 6) mX11_firstJoint [bc_R 218, bc_I m] σ Rr X := by
  refine e_X11_firstJoint rfl (fun K hK => ?_)
  refine hK.1 [] 60 _ _ _ _ _ ?_
  exact t_X11_asks 16 hN hW hm (by decide) rfl f1 f0
theorem t_X11_secondJoint {m : Int} (hN : nw_ σ 219 q) (hW : wf_M q) (hm : bc_in m) (f1 : ¬ (0 ≤ m ∧ m < q 3) → ∀ σ', roc_ 1 σ σ' → Rr (some (bc_I 0)) σ') (f0 : 0 ≤ m ∧ m < q 3 → ∀ σ', roc_ 0 σ σ' → Rr (some (bc_I (q (17 + 6 * m)))) σ') : bc_Sem g (d + 6) mX11_secondJoint [bc_R 218, bc_I m] σ Rr X := by
  refine e_X11_secondJoint rfl (fun K hK => ?_)
  refine hK.1 [] 60 _ _ _ _ _ ?_
  exact t_X11_asks 17 hN hW hm (by decide) rfl f1 f0
theorem t_X11_crack {m : Int} (hN : nw_ σ 219 q) (hW : wf_M q) (hm : bc_in m) (f1 : ¬ (0 ≤ m ∧ m < q 3) → ∀ σ', roc_ 1 σ σ' → Rr (some (bc_I 0)) σ') (f0 : 0 ≤ m ∧ m < q 3 → ∀ σ', roc_ 0 σ σ' → Rr (some (bc_I (q (19 + 6 * m)))) σ') : bc_Sem g (d + 6) mX11_crack [bc_R 218, bc_I m] σ Rr X := by
  refine e_X11_crack rfl (fun K hK => ?_)
  refine hK.1 [] 60 _ _ _ _ _ ?_
  exact t_X11_asks 19 hN hW hm (by decide) rfl f1 f0
theorem t_X11_wear {m : Int} (hN : nw_ σ 219 q) (hW : wf_M q) (hm : bc_in m) (f1 : ¬ (0 ≤ m ∧ m < q 3) → ∀ σ', roc_ 1 σ σ' → Rr (some (bc_I 0)) σ') (f0 : 0 ≤ m ∧ m < q 3 → ∀ σ', roc_ 0 σ σ' → Rr (some (bc_I (q (20 + 6 * m)))) σ') : bc_Sem g (d + 6) mX11_wear [bc_R 218, bc_I m] σ Rr X := by
  refine e_X11_wear rfl (fun K hK => ?_)
  refine hK.1 [] 60 _ _ _ _ _ ?_
  exact t_X11_asks 20 hN hW hm (by decide) rfl f1 f0
theorem t_X11_isAbandoned {m : Int} (hN : nw_ σ 219 q) (hW : wf_M q) (hm : bc_in m) (f1 : ¬ (0 ≤ m ∧ m < q 3) → ∀ σ', roc_ 1 σ σ' → Rr (some (bc_I 0)) σ') (f0 : 0 ≤ m ∧ m < q 3 → ∀ σ', roc_ 0 σ σ' → Rr (some (bc_I (if q (21 + 6 * m) = 1 then 1 else 0))) σ') : bc_Sem g (d + 6) mX11_isAbandoned [bc_R 218, bc_I m] σ Rr X := by
  refine e_X11_isAbandoned rfl (fun K hK => ?_)
  refine hK.1 [] 60 _ _ _ _ _ ?_
  refine t_X11_asks 21 hN hW hm (by decide) rfl (fun c σ' R => ?_) (fun c σ' R => ?_)
  · refine bc_ob_i (by decide) ?_
    refine bc_br_i (fun c => absurd c (by decide)) (fun _ => ?_)
    refine bc_ob_i (by decide) ?_
    exact f1 c σ' R
  · have w3 := hW.1
    obtain ⟨g0, g1, g2, g3, g4, g5⟩ := hW.2 m c.1 (by omega)
    have fin := f0 c σ' R
    refine bc_ob_i (by constructor <;> constructor <;> omega) ?_
    refine bc_br_i (fun e => ?_) (fun e => ?_)
    · rw [if_pos e] at fin
      refine bc_ob_i (by decide) ?_
      exact fin
    · rw [if_neg e] at fin
      refine bc_ob_i (by decide) ?_
      exact fin
theorem t_X11_bearing {m : Int} (hN : nw_ σ 219 q) (hW : wf_M q) (hm : bc_in m) (f1 : ¬ (0 ≤ m ∧ m < q 3) → ∀ σ', roc_ 1 σ σ' → Rr (some (bc_I 0)) σ') (f0 : 0 ≤ m ∧ m < q 3 → ∀ σ', roc_ 0 σ σ' → Rr (some (bc_I (br_ q m))) σ') : bc_Sem g (d + 6) mX11_bearing [bc_R 218, bc_I m] σ Rr X := by
  refine e_X11_bearing rfl (fun K hK => ?_)
  refine hK.1 [] 60 _ _ _ _ _ ?_
  refine t_X11_isMember hN hW.1 hm ?_
  by_cases c : 0 ≤ m ∧ m < q 3
  · rw [if_pos c]
    refine t_X11_goes (by decide) ?_
    refine bc_ob_i (by decide) ?_
    refine bc_br_i (fun q => absurd q (by decide)) (fun _ => ?_)
    have R0 : roc_ 0 σ (bc_wr σ 218 ((14 : Nat) : Int) (1 - 1)) := roc_wr (by decide)
    refine t_X11_bears (nw_fr hN R0.2.1 (by decide)) hW c.1 c.2 ?_
    exact f0 c _ R0
  · rw [if_neg c]
    refine t_X11_goes (by decide) ?_
    refine bc_ob_i (by decide) ?_
    refine bc_br_i (fun _ => ?_) (fun q => absurd rfl q)
    exact f1 c _ (roc_wr (by decide))
theorem t_X11_repairCost {m : Int} (hN : nw_ σ 219 q) (hW : wf_M q) (hm : bc_in m) (f1 : ¬ (0 ≤ m ∧ m < q 3) → ∀ σ', roc_ 1 σ σ' → Rr (some (bc_I 0)) σ') (f0 : 0 ≤ m ∧ m < q 3 → ∀ σ', roc_ 0 σ σ' → Rr (some (bc_I (co_ q m))) σ') : bc_Sem g (d + 6) mX11_repairCost [bc_R 218, bc_I m] σ Rr X := by
  refine e_X11_repairCost rfl (fun K hK => ?_)
  refine hK.1 [] 60 _ _ _ _ _ ?_
  refine t_X11_isMember hN hW.1 hm ?_
  by_cases c : 0 ≤ m ∧ m < q 3
  · rw [if_pos c]
    refine t_X11_goes (by decide) ?_
    refine bc_ob_i (by decide) ?_
    refine bc_br_i (fun q => absurd q (by decide)) (fun _ => ?_)
    have R0 : roc_ 0 σ (bc_wr σ 218 ((14 : Nat) : Int) (1 - 1)) := roc_wr (by decide)
    refine t_X11_costOf (nw_fr hN R0.2.1 (by decide)) hW c.1 c.2 ?_
    exact f0 c _ R0
  · rw [if_neg c]
    refine t_X11_goes (by decide) ?_
    refine bc_ob_i (by decide) ?_
    refine bc_br_i (fun _ => ?_) (fun q => absurd rfl q)
    exact f1 c _ (roc_wr (by decide))
theorem t_X11_asksWay {u v : Int} (hN : nw_ σ 219 q) (hW : wf_M q) (ha : bc_in u) (hb : bc_in v) (f1 : atw_ q u v ≠ 0 → ∀ σ', roc_ (atw_ q u v) σ σ' → Rr (some (bc_I 0)) σ') (f0 : atw_ q u v = 0 → ∀ σ', roc_ 0 σ σ' → Rr (some (bc_I (xw_ q u 8 v))) σ') : bc_Sem g (d + 7) mX11_asksWay [bc_R 218, bc_I u, bc_I v] σ Rr X := by
  refine e_X11_asksWay rfl (fun K hK => ?_)
  refine hK.1 [53] 80 _ _ _ _ _ ?_
  refine t_X11_areJoints ha hb ?_
  have T0 : ∀ (x : Int), (0 ≤ x ∧ x ≤ 1) → ho_ x 0 0 1 = atw_ q u v → K 53 [(0, bc_R 218), (1, bc_I u), (2, bc_I v), (3, bc_I x), (4, bc_I 0), (5, bc_I 0)] [bc_I 0, bc_I 0, bc_I x, bc_R 218] σ 0 := by
    intro x lx ht
    have nz : atw_ q u v ≠ 0 := by
      rw [← ht]
      unfold ho_
      split <;> decide
    have nz2 : ho_ x 0 0 1 ≠ 0 := by rw [ht]; exact nz
    refine hK.1 [] 60 _ _ _ _ _ ?_
    refine t_X11_holds lx (by decide) (by decide) (by decide) ?_
    rw [if_neg nz2]
    refine bc_ob_i (by decide) ?_
    refine bc_br_i (fun _ => ?_) (fun q => absurd rfl q)
    exact f1 nz _ (roc_wr ht)
  by_cases c : (0 ≤ u ∧ u < 8) ∧ 0 ≤ v ∧ v < 8
  · rw [if_pos c]
    refine bc_ob_i (by decide) ?_
    refine bc_br_i (fun q => absurd q (by decide)) (fun _ => ?_)
    refine bc_ob_i ⟨ha, hb⟩ ?_
    refine bc_br_i (fun e => ?_) (fun e => ?_)
    · refine bc_ob_i (by decide) ?_
      refine bc_br_i (fun _ => ?_) (fun q => absurd rfl q)
      refine bc_ob_i (by decide) ?_
      refine bc_br_i (fun q => absurd q (by decide)) (fun _ => ?_)
      refine T0 1 (by decide) ?_
      unfold atw_
      rw [if_neg (fun k => k c), if_pos e]
      rfl
    · have e1 : atw_ q u v = if xw_ q u 8 v ≤ 0 then 3 else 0 := by
        unfold atw_
        rw [if_neg (fun k => k c), if_neg e]
      have lw := xw_lm hW u 8 v c.2.1 c.2.2
      have T1 : ∀ (s : bc_M) (x : Int), fr_ (fun k => k = 223) σ s → (x = if 0 < xw_ q u 8 v then 1 else 0) → K 53 [(0, bc_R 218), (1, bc_I u), (2, bc_I v), (3, bc_I 1), (4, bc_I 1), (5, bc_I (xw_ q u 8 v))] [bc_I x, bc_I 1, bc_I 1, bc_R 218] s 0 := by
        intro s x F hx
        have lx : 0 ≤ x ∧ x ≤ 1 := by rw [hx]; split <;> omega
        refine hK.1 [] 60 _ _ _ _ _ ?_
        refine t_X11_holds (by decide) (by decide) lx (by decide) ?_
        by_cases k : 0 < xw_ q u 8 v
        · rw [if_pos k] at hx
          subst hx
          rw [if_neg (show ¬ xw_ q u 8 v ≤ 0 by omega)] at e1
          refine bc_ob_i (by decide) ?_
          refine bc_br_i (fun q => absurd q (by decide)) (fun _ => ?_)
          exact f0 e1 _ (roc_tr F (by decide) (fun k hk => .inl hk) (roc_wr (by decide)))
        · rw [if_neg k] at hx
          subst hx
          rw [if_pos (show xw_ q u 8 v ≤ 0 by omega)] at e1
          refine bc_ob_i (by decide) ?_
          refine bc_br_i (fun _ => ?_) (fun q => absurd (by decide) q)
          exact f1 (by rw [e1]; decide) _ (roc_tr F (by decide) (fun k hk => .inl hk) (roc_wr (by rw [e1]; decide)))
      refine bc_ob_i (by decide) ?_
      refine bc_br_i (fun q => absurd q (by decide)) (fun _ => ?_)
      refine t_X11_widest hN hW c.1 c.2 (fun σ1 f1 => ?_)
      refine bc_ob_i (by constructor <;> omega) ?_
      refine bc_br_i (fun k => ?_) (fun k => ?_)
      · first | exact T1 σ1 1 f1 (if_pos (by omega)).symm | exact T1 σ1 0 f1 (if_neg (by omega)).symm
      · first | exact T1 σ1 1 f1 (if_pos (by omega)).symm | exact T1 σ1 0 f1 (if_neg (by omega)).symm
  · rw [if_neg c]
    refine bc_ob_i (by decide) ?_
    refine bc_br_i (fun _ => ?_) (fun q => absurd rfl q)
    refine bc_ob_i (by decide) ?_
    refine bc_br_i (fun _ => ?_) (fun q => absurd rfl q)
    refine bc_ob_i (by decide) ?_
    refine bc_br_i (fun q => absurd q (by decide)) (fun _ => ?_)
    refine T0 0 (by decide) ?_
    unfold atw_
    rw [if_pos c]
    rfl
theorem t_X11_widestLoad {u v : Int} (hN : nw_ σ 219 q) (hW : wf_M q) (ha : bc_in u) (hb : bc_in v) (f1 : atw_ q u v ≠ 0 → ∀ σ', roc_ (atw_ q u v) σ σ' → Rr (some (bc_I 0)) σ') (f0 : atw_ q u v = 0 → ∀ σ', roc_ 0 σ σ' → Rr (some (bc_I (xw_ q u 8 v))) σ') : bc_Sem g (d + 8) mX11_widestLoad [bc_R 218, bc_I u, bc_I v] σ Rr X := by
  refine e_X11_widestLoad rfl (fun K hK => ?_)
  refine hK.1 [] 60 _ _ _ _ _ ?_
  exact t_X11_asksWay hN hW ha hb f1 f0
theorem t_X11_widestLoadByTrial {u v : Int} (hN : nw_ σ 219 q) (hW : wf_M q) (ha : bc_in u) (hb : bc_in v) (f1 : atw_ q u v ≠ 0 → ∀ σ', roc_ (atw_ q u v) σ σ' → Rr (some (bc_I 0)) σ') (f0 : atw_ q u v = 0 → ∀ σ', roc_ 0 σ σ' → Rr (some (bc_I (xw_ q u 8 v))) σ') : bc_Sem g (d + 8) mX11_widestLoadByTrial [bc_R 218, bc_I u, bc_I v] σ Rr X := by
  refine e_X11_widestLoadByTrial rfl (fun K hK => ?_)
  refine hK.1 [] 60 _ _ _ _ _ ?_
  exact t_X11_asksWay hN hW ha hb f1 f0
end REF
end
section
/-! the reference: the way's length and joints -/
theorem atw_0 {q : rw_t} {u v : Int} (h : atw_ q u v = 0) : ((0 ≤ u ∧ u < 8) ∧ 0 ≤ v ∧ v < 8) ∧ u ≠ v ∧ 1 ≤ xw_ q u 8 v := by
  unfold atw_ at h
  by_cases c : (0 ≤ u ∧ u < 8) ∧ 0 ≤ v ∧ v < 8
  · rw [if_neg (fun k => k c)] at h
    by_cases e : u = v
    · rw [if_pos e] at h
      exact absurd h (by decide)
    · rw [if_neg e] at h
      refine ⟨c, e, ?_⟩
      refine Classical.byContradiction (fun no => ?_)
      rw [if_pos (by omega)] at h
      exact absurd h (by decide)
  · rw [if_pos c] at h
    exact absurd h (by decide)
theorem atw_m {q : rw_t} (hW : wf_M q) (hU : uj_ q) {u v : Int} (h : atw_ q u v = 0) : (1 ≤ xw_ q u 8 v ∧ xw_ q u 8 v ≤ 99) ∧ 1 ≤ xm_ q (xw_ q u 8 v) (-1) v 8 u ∧ xm_ q (xw_ q u 8 v) (-1) v 8 u ≤ 7 := by
  obtain ⟨⟨⟨u0, u1⟩, v0, v1⟩, hne, l1⟩ := atw_0 h
  have l9 := xw_99 hW u 8 v (fun e => hne e.symm)
  have W := wb_xw hW hU u0 u1 v0 v1 (fun e => hne e.symm) l9
  obtain ⟨P1, P2, -⟩ := way_fw hW hU u0 u1 v0 v1 hne (fun _ => 0) (by rw [W]; exact l1)
  rw [W] at P2
  rw [P2] at P1
  exact ⟨⟨l1, l9⟩, P1⟩
section REF
variable {g : bc_C} {d : Nat} {σ : bc_M} {q b : rw_t} {h : List rw_t} {Rr : Option bc_A → bc_M → Prop} {X : Nat → bc_M → Prop} {B : Int}
theorem atw_le (q : rw_t) (u v : Int) : 0 ≤ atw_ q u v ∧ atw_ q u v ≤ 3 := by
  unfold atw_
  (repeat' split) <;> omega
theorem t_X11_wayLength {u v : Int} (hN : nw_ σ 219 q) (hW : wf_M q) (hU : uj_ q) (ha : bc_in u) (hb : bc_in v) (f1 : atw_ q u v ≠ 0 → ∀ σ', roc_ (atw_ q u v) σ σ' → Rr (some (bc_I 0)) σ') (f0 : atw_ q u v = 0 → ∀ σ', roc_ 0 σ σ' → Rr (some (bc_I (xm_ q (xw_ q u 8 v) (-1) v 8 u))) σ') : bc_Sem g (d + 8) mX11_wayLength [bc_R 218, bc_I u, bc_I v] σ Rr X := by
  have le := atw_le q u v
  refine e_X11_wayLength rfl (fun K hK => ?_)
  refine hK.1 [] 60 _ _ _ _ _ ?_
  refine t_X11_asksWay hN hW ha hb (fun c s R => ?_) (fun c s R => ?_)
  · have t := R.1
    refine bc_ob_i (by constructor <;> omega) ?_
    refine bc_br_i (fun e => absurd e (by omega)) (fun _ => ?_)
    exact f1 c s R
  · have t := R.1
    obtain ⟨hj, hne, -⟩ := atw_0 c
    obtain ⟨hl, hm⟩ := atw_m hW hU c
    refine bc_ob_i (by constructor <;> omega) ?_
    refine bc_br_i (fun _ => ?_) (fun e => absurd t e)
    refine t_X11_finds (nw_fr hN R.2.1 (by decide)) hW hU hj.1 hj.2 hl (by omega) (fun s2 _ F => ?_)
    exact f0 c s2 (roc_fr R F (by decide) (fun k hk => hk))
theorem t_X11_wayJoint {u v p : Int} (hN : nw_ σ 219 q) (hW : wf_M q) (hU : uj_ q) (ha : bc_in u) (hb : bc_in v) (hp : bc_in p) (f1 : atw_ q u v ≠ 0 → ∀ σ', roc_ (atw_ q u v) σ σ' → Rr (some (bc_I 0)) σ') (f3 : atw_ q u v = 0 → ¬ (0 ≤ p ∧ p ≤ xm_ q (xw_ q u 8 v) (-1) v 8 u) → ∀ σ', roc_ 3 σ σ' → Rr (some (bc_I 0)) σ') (f0 : atw_ q u v = 0 → (0 ≤ p ∧ p ≤ xm_ q (xw_ q u 8 v) (-1) v 8 u) → ∀ σ', roc_ 0 σ σ' → Rr (some (bc_I (wyJ_ q u v p))) σ') : bc_Sem g (d + 8) mX11_wayJoint [bc_R 218, bc_I u, bc_I v, bc_I p] σ Rr X := by
  have le := atw_le q u v
  refine e_X11_wayJoint rfl (fun K hK => ?_)
  refine hK.1 [] 80 _ _ _ _ _ ?_
  refine t_X11_asksWay hN hW ha hb (fun c s R => ?_) (fun c s R => ?_)
  · have t := R.1
    refine bc_ob_i (by constructor <;> omega) ?_
    refine bc_br_i (fun e => absurd e (by omega)) (fun _ => ?_)
    exact f1 c s R
  · have t := R.1
    obtain ⟨hj, hne, -⟩ := atw_0 c
    obtain ⟨hl, hm⟩ := atw_m hW hU c
    refine bc_ob_i (by constructor <;> omega) ?_
    refine bc_br_i (fun _ => ?_) (fun e => absurd t e)
    refine t_X11_finds (nw_fr hN R.2.1 (by decide)) hW hU hj.1 hj.2 hl (by omega) (fun s2 hw F => ?_)
    have R2 := roc_fr R F (by decide) (fun k hk => hk)
    refine t_X11_isIn hp (by decide) (by constructor <;> omega) ?_
    by_cases k : 0 ≤ p ∧ p ≤ xm_ q (xw_ q u 8 v) (-1) v 8 u
    · rw [if_pos k]
      have hwp := hw p.toNat (by omega)
      rw [show ((p.toNat : Nat) : Int) = p by omega] at hwp
      have F4 : fr_ (fun k => k = 218) s2 (bc_wr s2 218 ((14 : Nat) : Int) 0) := fr_wr rfl
      have R3 : roc_ 0 σ (bc_wr s2 218 ((14 : Nat) : Int) 0) := ⟨by simp [bc_wr], fr_trans R2.2.1 (fr_mono F4 (fun k hk => .inl hk)), fj_trans R2.2.2 (fj_wr rfl)⟩
      have fin := f0 c k _ R3
      refine bc_ob_i (by decide) ?_
      refine bc_br_i (fun q => absurd q (by decide)) (fun _ => ?_)
      refine bc_ob_i (by rw [R3.1]; decide) ?_
      refine bc_br_i (fun _ => ?_) (fun q => absurd (by simp [bc_wr]) q)
      refine bc_ob_i (by omega) ?_
      refine rt_ fin ?_
      rw [F4.1 224 (by decide), hwp]
      rfl
    · rw [if_neg k]
      have F4 : fr_ (fun k => k = 218) s2 (bc_wr s2 218 ((14 : Nat) : Int) 3) := fr_wr rfl
      have R3 : roc_ 3 σ (bc_wr s2 218 ((14 : Nat) : Int) 3) := ⟨by simp [bc_wr], fr_trans R2.2.1 (fr_mono F4 (fun k hk => .inl hk)), fj_trans R2.2.2 (fj_wr rfl)⟩
      have fin := f3 c k _ R3
      refine bc_ob_i (by decide) ?_
      refine bc_br_i (fun _ => ?_) (fun q => absurd rfl q)
      refine bc_ob_i (by rw [R3.1]; decide) ?_
      refine bc_br_i (fun q => absurd q (by simp [bc_wr])) (fun _ => ?_)
      exact fin
end REF
end
section
/-! the reference: numbers, marks, typing, the line -/
/-- the reference's text -/
noncomputable def tyt_ (σ : bc_M) (l : List Int) : Prop := σ.1 218 ((11 : Nat) : Int) = l.length ∧ l.length ≤ 60 ∧ ∀ j : Nat, j < l.length → σ.1 225 (j : Int) = l.getD j 0
section REF
variable {g : bc_C} {d : Nat} {σ : bc_M} {q b : rw_t} {h : List rw_t} {Rr : Option bc_A → bc_M → Prop} {X : Nat → bc_M → Prop} {B : Int}
theorem t_X11_memberCount (hN : nw_ σ 219 q) (f : ∀ σ', roc_ 0 σ σ' → Rr (some (bc_I (q 3))) σ') : bc_Sem g (d + 2) mX11_memberCount [bc_R 218] σ Rr X := by
  refine e_X11_memberCount rfl (fun K hK => ?_)
  refine hK.1 [] 60 _ _ _ _ _ ?_
  exact t_X11_total hN (by decide) (f _ (roc_wr rfl))
theorem t_X11_vowCount (hN : nw_ σ 219 q) (f : ∀ σ', roc_ 0 σ σ' → Rr (some (bc_I (q 4))) σ') : bc_Sem g (d + 2) mX11_vowCount [bc_R 218] σ Rr X := by
  refine e_X11_vowCount rfl (fun K hK => ?_)
  refine hK.1 [] 60 _ _ _ _ _ ?_
  exact t_X11_total hN (by decide) (f _ (roc_wr rfl))
theorem t_X11_keptTotal (hN : nw_ σ 219 q) (f : ∀ σ', roc_ 0 σ σ' → Rr (some (bc_I (q 6))) σ') : bc_Sem g (d + 2) mX11_keptTotal [bc_R 218] σ Rr X := by
  refine e_X11_keptTotal rfl (fun K hK => ?_)
  refine hK.1 [] 60 _ _ _ _ _ ?_
  exact t_X11_total hN (by decide) (f _ (roc_wr rfl))
theorem t_X11_brokenTotal (hN : nw_ σ 219 q) (f : ∀ σ', roc_ 0 σ σ' → Rr (some (bc_I (q 7))) σ') : bc_Sem g (d + 2) mX11_brokenTotal [bc_R 218] σ Rr X := by
  refine e_X11_brokenTotal rfl (fun K hK => ?_)
  refine hK.1 [] 60 _ _ _ _ _ ?_
  exact t_X11_total hN (by decide) (f _ (roc_wr rfl))
theorem t_X11_steel (hN : nw_ σ 219 q) (f : ∀ σ', roc_ 0 σ σ' → Rr (some (bc_I (q 1))) σ') : bc_Sem g (d + 2) mX11_steel [bc_R 218] σ Rr X := by
  refine e_X11_steel rfl (fun K hK => ?_)
  refine hK.1 [] 60 _ _ _ _ _ ?_
  exact t_X11_total hN (by decide) (f _ (roc_wr rfl))
theorem t_X11_day (hN : nw_ σ 219 q) (f : ∀ σ', roc_ 0 σ σ' → Rr (some (bc_I (q 0))) σ') : bc_Sem g (d + 2) mX11_day [bc_R 218] σ Rr X := by
  refine e_X11_day rfl (fun K hK => ?_)
  refine hK.1 [] 60 _ _ _ _ _ ?_
  exact t_X11_total hN (by decide) (f _ (roc_wr rfl))
theorem t_X11_nicheKind (hN : nw_ σ 219 q) (hW : wf_N q) (f : ∀ σ', roc_ 0 σ σ' → Rr (some (bc_I (q 11))) σ') : bc_Sem g (d + 2) mX11_nicheKind [bc_R 218] σ Rr X := by
  have w := hW.1
  refine e_X11_nicheKind rfl (fun K hK => ?_)
  refine hK.1 [] 60 _ _ _ _ _ ?_
  refine t_X11_total hN (by decide) ?_
  refine bc_ob_i (by omega) ?_
  exact rt_ (f _ (roc_wr rfl)) (by rcases w with e | e <;> rw [e] <;> decide)
theorem t_X11_nicheWeight (hN : nw_ σ 219 q) (f : ∀ σ', roc_ 0 σ σ' → Rr (some (bc_I (tw_ q))) σ') : bc_Sem g (d + 2) mX11_nicheWeight [bc_R 218] σ Rr X := by
  refine e_X11_nicheWeight rfl (fun K hK => ?_)
  refine hK.1 [] 60 _ _ _ _ _ ?_
  have R0 : roc_ 0 σ (bc_wr σ 218 ((14 : Nat) : Int) 0) := roc_wr rfl
  exact t_X11_weighs (nw_fr hN R0.2.1 (by decide)) (f _ R0)
theorem t_X11_steelByAccounts (hN : nw_ σ 219 q) (f : ∀ σ', roc_ 0 σ σ' → Rr (some (bc_I (30 + q 8 - q 9 - q 10))) σ') : bc_Sem g (d + 1) mX11_steelByAccounts [bc_R 218] σ Rr X := by
  have R0 : roc_ 0 σ (bc_wr σ 218 ((14 : Nat) : Int) 0) := roc_wr rfl
  have N := nw_fr hN R0.2.1 (by decide)
  have e8 := N 8 (by decide) (by decide)
  have e9 := N 9 (by decide) (by decide)
  have e10 := N 10 (by decide) (by decide)
  refine e_X11_steelByAccounts rfl (fun K hK => ?_)
  refine hK.1 [] 60 _ _ _ _ _ ?_
  refine bc_ob_i (by decide) ?_
  refine bc_ob_i (by decide) ?_
  refine bc_ob_i (by decide) ?_
  exact rt_ (f _ R0) (by rw [e8, e9, e10])
theorem t_X11_isConsistent (f : ∀ σ', roc_ 0 σ σ' → Rr (some (bc_I 1)) σ') : bc_Sem g (d + 1) mX11_isConsistent [bc_R 218] σ Rr X := by
  refine e_X11_isConsistent rfl (fun K hK => ?_)
  refine hK.1 [] 60 _ _ _ _ _ ?_
  refine bc_ob_i (by decide) ?_
  exact f _ (roc_wr rfl)
theorem t_X11_errorPosition {x : Int} (hx : σ.1 218 ((6 : Nat) : Int) = x) (l0 : -1 ≤ x ∧ x ≤ 60) (f1 : x = -1 → ∀ σ', roc_ 1 σ σ' → Rr (some (bc_I 0)) σ') (f0 : x ≠ -1 → ∀ σ', roc_ 0 σ σ' → Rr (some (bc_I x)) σ') : bc_Sem g (d + 3) mX11_errorPosition [bc_R 218] σ Rr X := by
  refine e_X11_errorPosition rfl (fun K hK => ?_)
  refine hK.1 [] 60 _ _ _ _ _ ?_
  refine bc_ob_i (by constructor <;> constructor <;> omega) ?_
  refine bc_br_i (fun c => ?_) (fun c => ?_)
  · refine t_X11_goes (by decide) ?_
    refine bc_ob_i (by decide) ?_
    refine bc_br_i (fun _ => ?_) (fun q => absurd rfl q)
    exact f1 (hx.symm.trans c) _ (roc_wr (by decide))
  · refine t_X11_goes (by decide) ?_
    refine bc_ob_i (by decide) ?_
    refine bc_br_i (fun q => absurd q (by decide)) (fun _ => ?_)
    have R0 : roc_ 0 σ (bc_wr σ 218 ((14 : Nat) : Int) (1 - 1)) := roc_wr (by decide)
    refine rt_ (f0 (fun e => c (hx.trans e)) _ R0) ?_
    rw [R0.2.2 ((6 : Nat) : Int) (by decide)]
    exact hx
theorem t_X11_failedCommand {x : Int} (hx : σ.1 218 ((7 : Nat) : Int) = x) (l0 : -1 ≤ x ∧ x ≤ 30) (f1 : x = -1 → ∀ σ', roc_ 1 σ σ' → Rr (some (bc_I 0)) σ') (f0 : x ≠ -1 → ∀ σ', roc_ 0 σ σ' → Rr (some (bc_I x)) σ') : bc_Sem g (d + 3) mX11_failedCommand [bc_R 218] σ Rr X := by
  refine e_X11_failedCommand rfl (fun K hK => ?_)
  refine hK.1 [] 60 _ _ _ _ _ ?_
  refine bc_ob_i (by constructor <;> constructor <;> omega) ?_
  refine bc_br_i (fun c => ?_) (fun c => ?_)
  · refine t_X11_goes (by decide) ?_
    refine bc_ob_i (by decide) ?_
    refine bc_br_i (fun _ => ?_) (fun q => absurd rfl q)
    exact f1 (hx.symm.trans c) _ (roc_wr (by decide))
  · refine t_X11_goes (by decide) ?_
    refine bc_ob_i (by decide) ?_
    refine bc_br_i (fun q => absurd q (by decide)) (fun _ => ?_)
    have R0 : roc_ 0 σ (bc_wr σ 218 ((14 : Nat) : Int) (1 - 1)) := roc_wr (by decide)
    refine rt_ (f0 (fun e => c (hx.trans e)) _ R0) ?_
    rw [R0.2.2 ((7 : Nat) : Int) (by decide)]
    exact hx
theorem t_X11_type {c : Int} {l : List Int} (hl : tyt_ σ l) (hc : 0 ≤ c ∧ c ≤ 65535) (f1 : ¬ (32 ≤ c ∧ c ≤ 126) → ∀ σ', roc_ 1 σ σ' → Rr (some (bc_I 0)) σ') (f2 : (32 ≤ c ∧ c ≤ 126) → 60 ≤ l.length → ∀ σ', roc_ 2 σ σ' → Rr (some (bc_I 0)) σ') (f0 : 32 ≤ c ∧ c ≤ 126 → l.length < 60 → ∀ σ', tyt_ σ' (l ++ [c]) → σ'.1 218 ((14 : Nat) : Int) = 0 → fr_ (fun k => k = 218 ∨ k = 225) σ σ' → fj_ (fun j => j = 11 ∨ j = 14) σ σ' → Rr (some (bc_I (l.length + 1))) σ') : bc_Sem g (d + 2) mX11_type [bc_R 218, bc_I c] σ Rr X := by
  obtain ⟨h1, h2, h3⟩ := hl
  refine e_X11_type rfl (fun K hK => ?_)
  have T : ∀ x y : Int, (x = if 32 ≤ c ∧ c ≤ 126 then 1 else 0) → (y = if l.length < 60 then 1 else 0) → K 23 [(0, bc_R 218), (1, bc_I c)] [bc_I y, bc_I x, bc_R 218] σ 0 := by
    intro x y hx hy
    have lx : 0 ≤ x ∧ x ≤ 1 := by rw [hx]; split <;> omega
    have ly : 0 ≤ y ∧ y ≤ 1 := by rw [hy]; split <;> omega
    refine hK.1 [] 80 _ _ _ _ _ ?_
    refine t_X11_holds lx ly (by decide) (by decide) ?_
    by_cases k : 32 ≤ c ∧ c ≤ 126
    · rw [if_pos k] at hx
      subst hx
      by_cases k2 : l.length < 60
      · rw [if_pos k2] at hy
        subst hy
        have F1 : fr_ (fun k => k = 218) σ (bc_wr σ 218 ((14 : Nat) : Int) (ho_ 1 1 1 1)) := fr_wr rfl
        have y1 : (bc_wr σ 218 ((14 : Nat) : Int) (ho_ 1 1 1 1)).1 218 ((11 : Nat) : Int) = l.length := by rw [← h1]; simp [bc_wr]
        have z1 : (bc_wr σ 218 ((14 : Nat) : Int) (ho_ 1 1 1 1)).1 218 ((14 : Nat) : Int) = 0 := by simp [bc_wr]; decide
        have J1 : fj_ (fun j => j = 11 ∨ j = 14) σ (bc_wr σ 218 ((14 : Nat) : Int) (ho_ 1 1 1 1)) := fj_wr (.inr rfl)
        have u1 : ∀ j : Nat, j < l.length → (bc_wr σ 218 ((14 : Nat) : Int) (ho_ 1 1 1 1)).1 225 (j : Int) = l.getD j 0 := fun j hj => by rw [F1.1 225 (by decide)]; exact h3 j hj
        refine bc_ob_i (by decide) ?_
        refine bc_br_i (fun q => absurd q (by decide)) (fun _ => ?_)
        generalize bc_wr σ 218 ((14 : Nat) : Int) (ho_ 1 1 1 1) = s1 at F1 y1 z1 J1 u1 ⊢
        have F2 : fr_ (fun k => k = 225) s1 (bc_wr s1 225 (s1.1 218 ((11 : Nat) : Int)) c) := fr_wr rfl
        have y2 : (bc_wr s1 225 (s1.1 218 ((11 : Nat) : Int)) c).1 218 ((11 : Nat) : Int) = l.length := by rw [F2.1 218 (by decide)]; exact y1
        refine bc_ob_i (by omega) ?_
        have F3 : fr_ (fun k => k = 218) (bc_wr s1 225 (s1.1 218 ((11 : Nat) : Int)) c) (bc_wr (bc_wr s1 225 (s1.1 218 ((11 : Nat) : Int)) c) 218 ((11 : Nat) : Int) ((bc_wr s1 225 (s1.1 218 ((11 : Nat) : Int)) c).1 218 ((11 : Nat) : Int) + 1)) := fr_wr rfl
        have y3 : (bc_wr (bc_wr s1 225 (s1.1 218 ((11 : Nat) : Int)) c) 218 ((11 : Nat) : Int) ((bc_wr s1 225 (s1.1 218 ((11 : Nat) : Int)) c).1 218 ((11 : Nat) : Int) + 1)).1 218 ((11 : Nat) : Int) = l.length + 1 := by
          rw [← y2]
          simp [bc_wr]
        refine rt_ (f0 k k2 _ ⟨by rw [y3]; simp, by simp; omega, fun j hj => ?_⟩ ?_ (fr_trans (fr_mono F1 (fun k hk => .inl hk)) (fr_trans (fr_mono F2 (fun k hk => .inr hk)) (fr_mono F3 (fun k hk => .inl hk)))) (fj_trans J1 (fj_trans (fj_fr F2 (by decide)) (fj_wr (.inl rfl))))) y3
        · rw [F3.1 225 (by decide)]
          simp only [bc_wr, if_true]
          rw [y1]
          by_cases e : j = l.length
          · subst e
            simp
          · rw [if_neg (by omega), u1 j (by simp at hj; omega)]
            simp at hj
            rw [List.getD_eq_getElem?_getD, List.getD_eq_getElem?_getD, List.getElem?_append_left (by omega)]
        · have e : (bc_wr (bc_wr s1 225 (s1.1 218 ((11 : Nat) : Int)) c) 218 ((11 : Nat) : Int) ((bc_wr s1 225 (s1.1 218 ((11 : Nat) : Int)) c).1 218 ((11 : Nat) : Int) + 1)).1 218 ((14 : Nat) : Int) = (bc_wr s1 225 (s1.1 218 ((11 : Nat) : Int)) c).1 218 ((14 : Nat) : Int) := by simp [bc_wr]
          rw [e, F2.1 218 (by decide)]
          exact z1
      · rw [if_neg k2] at hy
        subst hy
        refine bc_ob_i (by decide) ?_
        refine bc_br_i (fun _ => ?_) (fun q => absurd (by decide) q)
        exact f2 k (by omega) _ (roc_wr (by decide))
    · rw [if_neg k] at hx
      subst hx
      have e : ho_ 0 y 1 1 = 1 := by unfold ho_; rw [if_pos rfl]
      rw [e]
      refine bc_ob_i (by decide) ?_
      refine bc_br_i (fun _ => ?_) (fun q => absurd (by decide) q)
      exact f1 k _ (roc_wr rfl)
  refine hK.1 [23] 80 _ _ _ _ _ ?_
  refine t_X11_isIn (by constructor <;> omega) (by decide) (by decide) ?_
  refine bc_ob_i (by constructor <;> constructor <;> omega) ?_
  refine bc_br_i (fun e => ?_) (fun e => ?_)
  · first | exact T _ 1 rfl (if_pos (by omega)).symm | exact T _ 0 rfl (if_neg (by omega)).symm
  · first | exact T _ 1 rfl (if_pos (by omega)).symm | exact T _ 0 rfl (if_neg (by omega)).symm
end REF
end
section
/-! the reference: what is left of the steel, whether all vows can be kept -/
section REF
variable {g : bc_C} {d : Nat} {σ : bc_M} {q b : rw_t} {h : List rw_t} {Rr : Option bc_A → bc_M → Prop} {X : Nat → bc_M → Prop} {B : Int}
theorem t_X11_spareOn {a : Int} (hN : nw_ σ 219 q) (hT : wf_T B q) (hB : B ≤ 1000000) (ha : bc_in a) (f : Rr (some (bc_I (sp_ q a))) σ) : bc_Sem g (d + 2) mX11_spareOn [bc_R 218, bc_I a] σ Rr X := by
  obtain ⟨T0, T1, T2, T4, T5, T6, T7, Ts, T8, T9, T10, Te, Tv, -⟩ := hT
  obtain ⟨a0, a1⟩ := ha
  have e0 := hN 0 (by decide) (by decide)
  have e1 := hN 1 (by decide) (by decide)
  have e2 := hN 2 (by decide) (by decide)
  have e4 := hN 4 (by decide) (by decide)
  refine e_X11_spareOn rfl (fun K hK => ?_)
  have L : ∀ i : Int, 0 ≤ i → i ≤ q 4 → K 25 [(0, bc_R 218), (1, bc_I a), (2, bc_I (q 1 + q 2 * (a - q 0) - sm_ (fun k => if q (113 + 3 * k) ≤ a then q (114 + 3 * k) else 0) i.toNat)), (3, bc_I i)] [] σ 0 := by
    refine up_ind (q 4) (fun i hi i0 i1 => ?_) (fun i hi ih i0 i1 => ?_)
    · have ei : i = q 4 := by omega
      subst ei
      refine hK.1 [25] 60 _ _ _ _ _ ?_
      refine bc_ob_i (by decide) ?_
      refine bc_ob_i (by omega) ?_
      refine bc_br_i (fun c => absurd c (by omega)) (fun _ => ?_)
      exact f
    · obtain ⟨v1, v2, v3⟩ := Tv i i0 (by omega)
      have es : sm_ (fun k => if q (113 + 3 * k) ≤ a then q (114 + 3 * k) else 0) (i + 1).toNat = sm_ (fun k => if q (113 + 3 * k) ≤ a then q (114 + 3 * k) else 0) i.toNat + (if q (113 + 3 * i) ≤ a then q (114 + 3 * i) else 0) := by
        rw [show (i + 1).toNat = i.toNat + 1 by omega]
        show sm_ _ i.toNat + (if q (113 + 3 * (i.toNat : Int)) ≤ a then q (114 + 3 * (i.toNat : Int)) else 0) = _
        rw [Int.toNat_of_nonneg i0]
      rw [es] at ih
      have ih := ih (by omega) (by omega)
      generalize sm_ (fun k => if q (113 + 3 * k) ≤ a then q (114 + 3 * k) else 0) i.toNat = y at ih ⊢
      refine hK.1 [25] 80 _ _ _ _ _ ?_
      refine bc_ob_i (by decide) ?_
      refine bc_ob_i (by omega) ?_
      refine bc_br_i (fun _ => ?_) (fun c => absurd c (by omega))
      refine t_X11_ofVow 113 hN (by omega) (by decide) rfl ?_
      refine bc_ob_i (by constructor <;> constructor <;> omega) ?_
      by_cases k : q (113 + 3 * i) ≤ a
      · rw [if_pos k, show q 1 + q 2 * (a - q 0) - (y + q (114 + 3 * i)) = q 1 + q 2 * (a - q 0) - y - q (114 + 3 * i) by omega] at ih
        refine bc_br_i (fun c => ?_) (fun c => ?_)
        · first | exact absurd k (by omega) | exact t_X11_ofVow 114 hN (by omega) (by decide) rfl ih
        · first | exact absurd k (by omega) | exact t_X11_ofVow 114 hN (by omega) (by decide) rfl ih
      · rw [if_neg k, show q 1 + q 2 * (a - q 0) - (y + 0) = q 1 + q 2 * (a - q 0) - y - 0 by omega] at ih
        refine bc_br_i (fun c => ?_) (fun c => ?_)
        · first | exact absurd c (by omega) | exact ih
        · first | exact absurd c (by omega) | exact ih
  refine hK.1 [25] 60 _ _ _ _ _ ?_
  refine bc_ob_i (by decide) ?_
  refine bc_ob_i (by decide) ?_
  refine bc_ob_i (by decide) ?_
  have H := L 0 (by decide) T4.1
  rw [show sm_ (fun k => if q (113 + 3 * k) ≤ a then q (114 + 3 * k) else 0) (0 : Int).toNat = 0 from rfl, show q 1 + q 2 * (a - q 0) - 0 = σ.1 219 1 + σ.1 219 2 * (a - σ.1 219 0) by rw [e0, e1, e2]; omega] at H
  exact H
end REF
end
section
/-! the reference: whether all vows can be kept; a vow by its number -/
section REF
variable {g : bc_C} {d : Nat} {σ : bc_M} {q b : rw_t} {h : List rw_t} {Rr : Option bc_A → bc_M → Prop} {X : Nat → bc_M → Prop} {B : Int}
theorem sp_in {q : rw_t} (hT : wf_T B q) (hB : B ≤ 1000000) {a : Int} (ha : 0 ≤ a ∧ a ≤ B + 100) : bc_in (sp_ q a) := by
  obtain ⟨T0, T1, T2, T4, T5, T6, T7, Ts, T8, T9, T10, Te, Tv, -⟩ := hT
  have key : ∀ n : Nat, n ≤ 8 → 0 ≤ sm_ (fun k => if q (113 + 3 * k) ≤ a then q (114 + 3 * k) else 0) n ∧ sm_ (fun k => if q (113 + 3 * k) ≤ a then q (114 + 3 * k) else 0) n ≤ 99 * n := by
    intro n
    induction n with
    | zero => intro _; exact ⟨by simp [sm_], by simp [sm_]⟩
    | succ n ih =>
      intro hn
      have i := ih (by omega)
      obtain ⟨v1, v2, v3⟩ := Tv n (by omega) (by omega)
      have e : sm_ (fun k => if q (113 + 3 * k) ≤ a then q (114 + 3 * k) else 0) (n + 1) = sm_ (fun k => if q (113 + 3 * k) ≤ a then q (114 + 3 * k) else 0) n + (if q (113 + 3 * (n : Int)) ≤ a then q (114 + 3 * (n : Int)) else 0) := rfl
      rw [e]
      split <;> omega
  have k := key (q 4).toNat (by omega)
  unfold sp_
  have m1 : -20000000 ≤ q 2 * (a - q 0) ∧ q 2 * (a - q 0) ≤ 20002000 := by
    have hh : q 2 = 0 ∨ q 2 = 1 ∨ q 2 = 2 ∨ q 2 = 3 ∨ q 2 = 4 ∨ q 2 = 5 ∨ q 2 = 6 ∨ q 2 = 7 ∨ q 2 = 8 ∨ q 2 = 9 ∨ q 2 = 10 ∨ q 2 = 11 ∨ q 2 = 12 ∨ q 2 = 13 ∨ q 2 = 14 ∨ q 2 = 15 ∨ q 2 = 16 ∨ q 2 = 17 ∨ q 2 = 18 ∨ q 2 = 19 ∨ q 2 = 20 := by omega
    rcases hh with e | e | e | e | e | e | e | e | e | e | e | e | e | e | e | e | e | e | e | e | e <;> rw [e] <;> omega
  constructor <;> omega
/-- all vows can be kept, as the reference sees it -/
noncomputable def kpa_ (q : rw_t) (x : Int) : Prop := (x = 1 ∧ ∀ k : Int, 0 ≤ k → k < q 4 → 0 ≤ sp_ q (q (113 + 3 * k))) ∨ (x = 0 ∧ ∃ k : Int, (0 ≤ k ∧ k < q 4) ∧ sp_ q (q (113 + 3 * k)) < 0)
theorem t_X11_keepsAll (hN : nw_ σ 219 q) (hT : wf_T B q) (hB : B ≤ 1000000) (f : ∀ x, kpa_ q x → Rr (some (bc_I x)) σ) : bc_Sem g (d + 3) mX11_keepsAll [bc_R 218] σ Rr X := by
  have hT0 := hT
  obtain ⟨T0, T1, T2, T4, T5, T6, T7, Ts, T8, T9, T10, Te, Tv, -⟩ := hT0
  have e4 := hN 4 (by decide) (by decide)
  refine e_X11_keepsAll rfl (fun K hK => ?_)
  have L : ∀ i : Int, ∀ (x : Int), 0 ≤ i → i ≤ q 4 → ((x = 1 ∧ ∀ k : Int, 0 ≤ k → k < i → 0 ≤ sp_ q (q (113 + 3 * k))) ∨ (x = 0 ∧ ∃ k : Int, (0 ≤ k ∧ k < q 4) ∧ sp_ q (q (113 + 3 * k)) < 0)) → K 4 [(0, bc_R 218), (1, bc_I x), (2, bc_I i)] [] σ 0 := by
    refine up_ind (q 4) (fun i hi x i0 i1 hx => ?_) (fun i hi ih x i0 i1 hx => ?_)
    · have ei : i = q 4 := by omega
      subst ei
      have lx : 0 ≤ x ∧ x ≤ 1 := by rcases hx with hx | hx <;> omega
      refine hK.1 [4] 60 _ _ _ _ _ ?_
      refine bc_ob_i (by decide) ?_
      refine bc_ob_i (by omega) ?_
      refine bc_br_i (fun c => absurd c (by omega)) (fun _ => ?_)
      first | exact f x hx | exact bc_ob_i (by omega) (f x hx)
    · obtain ⟨v1, v2, v3⟩ := Tv i i0 (by omega)
      have hs := sp_in hT hB (a := q (113 + 3 * i)) (by omega)
      refine hK.1 [4] 80 _ _ _ _ _ ?_
      refine bc_ob_i (by decide) ?_
      refine bc_ob_i (by omega) ?_
      refine bc_br_i (fun _ => ?_) (fun c => absurd c (by omega))
      rcases hx with ⟨x1, hx⟩ | ⟨x0, hx⟩
      · subst x1
        refine bc_ob_i (by decide) ?_
        refine bc_br_i (fun c => absurd c (by decide)) (fun _ => ?_)
        refine t_X11_ofVow 113 hN (by omega) (by decide) rfl ?_
        refine t_X11_spareOn hN hT hB (by constructor <;> omega) ?_
        refine bc_ob_i hs ?_
        by_cases k : 0 ≤ sp_ q (q (113 + 3 * i))
        · have go := ih 1 (by omega) (by omega) (.inl ⟨rfl, fun j j0 j1 => by
            by_cases e : j = i
            · rw [e]; exact k
            · exact hx j j0 (by omega)⟩)
          refine bc_br_i (fun c => ?_) (fun c => ?_)
          · first | exact absurd c (by omega) | exact go
          · first | exact absurd c (by omega) | exact go
        · have go := ih 0 (by omega) (by omega) (.inr ⟨rfl, i, ⟨i0, hi⟩, by omega⟩)
          refine bc_br_i (fun c => ?_) (fun c => ?_)
          · first | exact absurd c (by omega) | exact go
          · first | exact absurd c (by omega) | exact go
      · subst x0
        refine bc_ob_i (by decide) ?_
        refine bc_br_i (fun _ => ?_) (fun c => absurd rfl c)
        exact ih 0 (by omega) (by omega) (.inr ⟨rfl, hx⟩)
  refine hK.1 [4] 60 _ _ _ _ _ ?_
  exact L 0 1 (by decide) T4.1 (.inl ⟨rfl, fun k k0 k1 => by omega⟩)
end REF
end
section
/-! the reference: the calls about all vows; a vow by its number -/
section REF
variable {g : bc_C} {d : Nat} {σ : bc_M} {q b : rw_t} {h : List rw_t} {Rr : Option bc_A → bc_M → Prop} {X : Nat → bc_M → Prop} {B : Int}
theorem t_X11_canKeepAll (hN : nw_ σ 219 q) (hT : wf_T B q) (hB : B ≤ 1000000) (f : ∀ σ' x, kpa_ q x → roc_ 0 σ σ' → Rr (some (bc_I x)) σ') : bc_Sem g (d + 4) mX11_canKeepAll [bc_R 218] σ Rr X := by
  refine e_X11_canKeepAll rfl (fun K hK => ?_)
  refine hK.1 [] 60 _ _ _ _ _ ?_
  have R0 : roc_ 0 σ (bc_wr σ 218 ((14 : Nat) : Int) 0) := roc_wr rfl
  refine t_X11_keepsAll (nw_fr hN R0.2.1 (by decide)) hT hB (fun x hx => ?_)
  have lx : 0 ≤ x ∧ x ≤ 1 := by rcases hx with hx | hx <;> omega
  first | exact f _ x hx R0 | exact bc_ob_i (by omega) (f _ x hx R0)
theorem t_X11_canKeepAllBySums (hN : nw_ σ 219 q) (hT : wf_T B q) (hB : B ≤ 1000000) (f : ∀ σ' x, kpa_ q x → roc_ 0 σ σ' → Rr (some (bc_I x)) σ') : bc_Sem g (d + 4) mX11_canKeepAllBySums [bc_R 218] σ Rr X := by
  refine e_X11_canKeepAllBySums rfl (fun K hK => ?_)
  refine hK.1 [] 60 _ _ _ _ _ ?_
  have R0 : roc_ 0 σ (bc_wr σ 218 ((14 : Nat) : Int) 0) := roc_wr rfl
  refine t_X11_keepsAll (nw_fr hN R0.2.1 (by decide)) hT hB (fun x hx => ?_)
  have lx : 0 ≤ x ∧ x ≤ 1 := by rcases hx with hx | hx <;> omega
  first | exact f _ x hx R0 | exact bc_ob_i (by omega) (f _ x hx R0)
/-- the place of a vow with this number -/
noncomputable def vwp_ (q : rw_t) (w x : Int) : Prop := (x = -1 ∧ ∀ k : Int, 0 ≤ k → k < q 4 → q (112 + 3 * k) ≠ w) ∨ ((0 ≤ x ∧ x < q 4) ∧ q (112 + 3 * x) = w)
theorem t_X11_asksVow {w j : Int} (p : Int) (hN : nw_ σ 219 q) (hT : wf_T B q) (hB : B ≤ 1000000) (hw : bc_in w) (hj : 0 ≤ j ∧ j ≤ 2) (e : p = 112 + j) (f1 : vwp_ q w (-1) → ∀ σ', roc_ 1 σ σ' → Rr (some (bc_I 0)) σ') (f0 : ∀ x, 0 ≤ x → vwp_ q w x → ∀ σ', roc_ 0 σ σ' → Rr (some (bc_I (q (p + 3 * x)))) σ') : bc_Sem g (d + 4) mX11_asksVow [bc_R 218, bc_I w, bc_I j] σ Rr X := by
  obtain ⟨T0, T1, T2, T4, T5, T6, T7, Ts, T8, T9, T10, Te, Tv, -⟩ := hT
  obtain ⟨w0, w1⟩ := hw
  have e4 := hN 4 (by decide) (by decide)
  refine e_X11_asksVow rfl (fun K hK => ?_)
  have L : ∀ i : Int, ∀ (x : Int), 0 ≤ i → i ≤ q 4 → ((x = -1 ∧ ∀ k : Int, 0 ≤ k → k < i → q (112 + 3 * k) ≠ w) ∨ ((0 ≤ x ∧ x < q 4) ∧ q (112 + 3 * x) = w)) → K 5 [(0, bc_R 218), (1, bc_I w), (2, bc_I j), (3, bc_I x), (4, bc_I i)] [] σ 0 := by
    refine up_ind (q 4) (fun i hi x i0 i1 hx => ?_) (fun i hi ih x i0 i1 hx => ?_)
    · have ei : i = q 4 := by omega
      subst ei
      refine hK.1 [5] 80 _ _ _ _ _ ?_
      refine bc_ob_i (by decide) ?_
      refine bc_ob_i (by omega) ?_
      refine bc_br_i (fun c => absurd c (by omega)) (fun _ => ?_)
      rcases hx with ⟨x1, hx⟩ | hx
      · subst x1
        refine bc_ob_i (by decide) ?_
        refine bc_br_i (fun _ => ?_) (fun c => absurd rfl c)
        refine t_X11_goes (by decide) ?_
        refine bc_ob_i (by decide) ?_
        refine bc_br_i (fun _ => ?_) (fun q => absurd rfl q)
        exact f1 (.inl ⟨rfl, hx⟩) _ (roc_wr (by decide))
      · refine bc_ob_i (by constructor <;> constructor <;> omega) ?_
        refine bc_br_i (fun c => absurd c (by omega)) (fun _ => ?_)
        refine t_X11_goes (by decide) ?_
        refine bc_ob_i (by decide) ?_
        refine bc_br_i (fun q => absurd q (by decide)) (fun _ => ?_)
        have R0 : roc_ 0 σ (bc_wr σ 218 ((14 : Nat) : Int) (1 - 1)) := roc_wr (by decide)
        exact t_X11_ofVow p (nw_fr hN R0.2.1 (by decide)) (by omega) hj e (f0 x hx.1.1 (.inr hx) _ R0)
    · obtain ⟨v1, v2, v3⟩ := Tv i i0 (by omega)
      refine hK.1 [5] 80 _ _ _ _ _ ?_
      refine bc_ob_i (by decide) ?_
      refine bc_ob_i (by omega) ?_
      refine bc_br_i (fun _ => ?_) (fun c => absurd c (by omega))
      refine t_X11_ofVow 112 hN (by omega) (by decide) rfl ?_
      refine bc_ob_i (by constructor <;> constructor <;> omega) ?_
      refine bc_br_i (fun c => ?_) (fun c => ?_)
      · exact ih i (by omega) (by omega) (.inr ⟨⟨i0, hi⟩, c⟩)
      · refine ih x (by omega) (by omega) ?_
        rcases hx with ⟨x1, hx⟩ | hx
        · refine .inl ⟨x1, fun k k0 k1 => ?_⟩
          by_cases ek : k = i
          · rw [ek]; exact c
          · exact hx k k0 (by omega)
        · exact .inr hx
  refine hK.1 [5] 60 _ _ _ _ _ ?_
  exact L 0 (-1) (by decide) T4.1 (.inl ⟨rfl, fun k k0 k1 => by omega⟩)
theorem t_X11_dueDay {w : Int} (hN : nw_ σ 219 q) (hT : wf_T B q) (hB : B ≤ 1000000) (hw : bc_in w) (f1 : vwp_ q w (-1) → ∀ σ', roc_ 1 σ σ' → Rr (some (bc_I 0)) σ') (f0 : ∀ x, 0 ≤ x → vwp_ q w x → ∀ σ', roc_ 0 σ σ' → Rr (some (bc_I (q (113 + 3 * x)))) σ') : bc_Sem g (d + 5) mX11_dueDay [bc_R 218, bc_I w] σ Rr X := by
  refine e_X11_dueDay rfl (fun K hK => ?_)
  refine hK.1 [] 60 _ _ _ _ _ ?_
  exact t_X11_asksVow 113 hN hT hB hw (by decide) rfl f1 f0
theorem t_X11_amount {w : Int} (hN : nw_ σ 219 q) (hT : wf_T B q) (hB : B ≤ 1000000) (hw : bc_in w) (f1 : vwp_ q w (-1) → ∀ σ', roc_ 1 σ σ' → Rr (some (bc_I 0)) σ') (f0 : ∀ x, 0 ≤ x → vwp_ q w x → ∀ σ', roc_ 0 σ σ' → Rr (some (bc_I (q (114 + 3 * x)))) σ') : bc_Sem g (d + 5) mX11_amount [bc_R 218, bc_I w] σ Rr X := by
  refine e_X11_amount rfl (fun K hK => ?_)
  refine hK.1 [] 60 _ _ _ _ _ ?_
  exact t_X11_asksVow 114 hN hT hB hw (by decide) rfl f1 f0
end REF
end
section
/-! each pair of joints once: kept by every change -/
theorem eJ_refl (q : rw_t) : eJ_ q q := ⟨rfl, fun _ _ _ => ⟨rfl, rfl⟩⟩
theorem eJ_rn {q r : rw_t} {m : Int} (h : eJ_ q r) : eJ_ q (rn_ r m) := by
  refine ⟨?_, fun k k0 k1 => ⟨?_, ?_⟩⟩
  · unfold rn_
    rw [if_neg (by omega), if_neg (by omega)]
    exact h.1
  · unfold rn_
    rw [if_neg (by omega), if_neg (by omega)]
    exact (h.2 k k0 k1).1
  · unfold rn_
    rw [if_neg (by omega), if_neg (by omega)]
    exact (h.2 k k0 k1).2
theorem eJ_rl {q r : rw_t} {m w : Int} (m0 : 0 ≤ m) (h : eJ_ q r) : eJ_ q (rl_ r m w) := by
  refine ⟨?_, fun k k0 k1 => ⟨?_, ?_⟩⟩
  · unfold rl_
    rw [if_neg (by omega)]
    exact h.1
  · unfold rl_
    rw [if_neg (by omega)]
    exact (h.2 k k0 k1).1
  · unfold rl_
    rw [if_neg (by omega)]
    exact (h.2 k k0 k1).2
theorem eJ_up {q r : rw_t} {i v : Int} (h : eJ_ q r) (hi : i ≠ 3 ∧ (i < 16 ∨ 112 ≤ i)) : eJ_ q (up_ r i v) := by
  refine ⟨(up_ne (by omega)).trans h.1, fun k k0 k1 => ⟨(up_ne (by omega)).trans (h.2 k k0 k1).1, (up_ne (by omega)).trans (h.2 k k0 k1).2⟩⟩
theorem eJ_rs {q r : rw_t} {c : Int} (h : eJ_ q r) : eJ_ q (rs_ r c) := eJ_up (eJ_up h (by decide)) (by decide)
theorem eJ_rv {q r : rw_t} {a u : Int} (h : eJ_ q r) (h4 : 0 ≤ r 4) : eJ_ q (rv_ r a u) := eJ_up (eJ_up (eJ_up (eJ_up (eJ_up h (by omega)) (by omega)) (by omega)) (by decide)) (by decide)
theorem eJ_rp {q r : rw_t} {p w : Int} (h : eJ_ q r) (hp : 0 ≤ p ∧ p ≤ 3) : eJ_ q (rp_ r p w) := eJ_up h (by omega)
theorem eJ_re {q r : rw_t} {c : Int} (h : eJ_ q r) : eJ_ q (re_ r c) := by
  refine ⟨?_, fun k k0 k1 => ⟨?_, ?_⟩⟩
  · unfold re_
    rw [if_neg (by omega), if_neg (by omega)]
    exact h.1
  · unfold re_
    rw [if_neg (by omega), if_neg (by omega)]
    exact (h.2 k k0 k1).1
  · unfold re_
    rw [if_neg (by omega), if_neg (by omega)]
    exact (h.2 k k0 k1).2
theorem eJ_ps {B : Int} {q : rw_t} (hT : wf_T B q) (n : Nat) : eJ_ q (ps_ q n) := by
  have h := (ps_wf hT n).2
  have e := (ps_e hT n).1
  refine ⟨?_, fun k k0 k1 => ⟨h _ (by omega) (by omega), h _ (by omega) (by omega)⟩⟩
  exact e 3 (by omega)
/-- a new member joins a new pair -/
theorem uj_ra {q : rw_t} (hW : wf_M q) (hu : uj_ q) {x y s : Int} (ha : adr_ q x y s 0) : uj_ (ra_ q x y s) := by
  have w := hW.1
  obtain ⟨hj, hr, h16, hno⟩ : ((0 ≤ x ∧ x < 8) ∧ 0 ≤ y ∧ y < 8) ∧ (x ≠ y ∧ 1 ≤ s ∧ s ≤ 99) ∧ q 3 < 16 ∧ ∀ k : Int, 0 ≤ k → k < q 3 → ¬ jr_ q k x y := by
    rcases ha with ⟨-, e⟩ | ⟨-, -, e⟩ | ⟨-, -, -, e⟩ | ⟨h1, h2, h3, h4, -⟩
    · exact absurd e (by decide)
    · exact absurd e (by decide)
    · exact absurd e (by decide)
    · exact ⟨h1, h2, h3, h4⟩
  have n3 : ra_ q x y s 3 = q 3 + 1 := by unfold ra_; rw [if_pos rfl]
  have na : ra_ q x y s (16 + 6 * q 3) = min x y := by unfold ra_; rw [if_neg (by omega), if_pos rfl]
  have nb : ra_ q x y s (17 + 6 * q 3) = max x y := by unfold ra_; rw [if_neg (by omega), if_neg (by omega), if_pos rfl]
  have old : ∀ k : Int, 0 ≤ k → k < q 3 → ra_ q x y s (16 + 6 * k) = q (16 + 6 * k) ∧ ra_ q x y s (17 + 6 * k) = q (17 + 6 * k) := fun k k0 k1 => by
    constructor <;> unfold ra_ <;> rw [if_neg (by omega), if_neg (by omega), if_neg (by omega), if_neg (by omega), if_neg (by omega), if_neg (by omega), if_neg (by omega)]
  refine ⟨fun k k0 k1 => ?_, fun k l k0 k1 k2 hh => ?_⟩
  · by_cases e : k = q 3
    · subst e
      rw [na, nb]
      omega
    · rw [(old k k0 (by omega)).1, (old k k0 (by omega)).2]
      exact hu.1 k k0 (by omega)
  · rw [(old k k0 (by omega)).1, (old k k0 (by omega)).2] at hh
    by_cases e : l = q 3
    · subst e
      rw [na, nb] at hh
      exact hno k k0 (by omega) hh
    · rw [(old l (by omega) (by omega)).1, (old l (by omega) (by omega)).2] at hh
      exact hu.2 k l k0 k1 (by omega) hh
end
section
/-! the faults, as class and reference count them -/
theorem eq_er (q : rw_t) (m : Int) : eq_ q m = if er_ q m = 2 then 3 else if er_ q m = 3 then 5 else er_ q m := by
  by_cases c1 : 0 ≤ m ∧ m < q 3
  · by_cases c2 : q (21 + 6 * m) ≠ 0
    · have e1 : eq_ q m = 3 := by
        unfold eq_
        rw [if_neg (fun k => k c1), if_pos c2]
      have e2 : er_ q m = 2 := by
        unfold er_
        rw [if_neg (fun k => k c1), if_pos c2]
      rw [e1, e2]
      rfl
    · by_cases c3 : q 1 < co_ q m
      · have e1 : eq_ q m = 5 := by
          unfold eq_
          rw [if_neg (fun k => k c1), if_neg c2, if_pos c3]
        have e2 : er_ q m = 3 := by
          unfold er_
          rw [if_neg (fun k => k c1), if_neg c2, if_pos c3]
        rw [e1, e2]
        rfl
      · have e1 : eq_ q m = 0 := by
          unfold eq_
          rw [if_neg (fun k => k c1), if_neg c2, if_neg c3]
        have e2 : er_ q m = 0 := by
          unfold er_
          rw [if_neg (fun k => k c1), if_neg c2, if_neg c3]
        rw [e1, e2]
        rfl
  · have e1 : eq_ q m = 1 := by
      unfold eq_
      rw [if_pos c1]
    have e2 : er_ q m = 1 := by
      unfold er_
      rw [if_pos c1]
    rw [e1, e2]
    rfl
theorem mq_adr {q : rw_t} (hu : uj_ q) {x y s f : Int} (h : mq_ q x y s f) : adr_ q x y s f := by
  have p0 : pf_ x y = 0 → ((0 ≤ x ∧ x < 8) ∧ 0 ≤ y ∧ y < 8) ∧ x ≠ y := fun e => by
    unfold pf_ at e
    by_cases c : (0 ≤ x ∧ x < 8) ∧ 0 ≤ y ∧ y < 8
    · rw [if_neg (fun k => k c)] at e
      by_cases c2 : x = y
      · rw [if_pos c2] at e
        exact absurd e (by decide)
      · exact ⟨c, c2⟩
    · rw [if_pos c] at e
      exact absurd e (by decide)
  rcases h with ⟨h1, h2⟩ | ⟨h1, h2, h3⟩ | ⟨h1, h2, h3, h4⟩ | ⟨h1, h2, h3, h4, h5⟩
  · unfold pf_ at h1 h2
    by_cases c : (0 ≤ x ∧ x < 8) ∧ 0 ≤ y ∧ y < 8
    · rw [if_neg (fun k => k c)] at h1 h2
      by_cases c2 : x = y
      · rw [if_pos c2] at h2
        exact .inr (.inl ⟨c, fun k => k.1 c2, h2⟩)
      · rw [if_neg c2] at h1
        exact absurd rfl h1
    · rw [if_pos c] at h2
      exact .inl ⟨c, h2⟩
  · exact .inr (.inl ⟨(p0 h1).1, by omega, h3⟩)
  · refine .inr (.inr (.inl ⟨(p0 h1).1, ⟨(p0 h1).2, h2⟩, ?_, h4⟩))
    rcases h3 with h3 | ⟨k, k0, k1, hk⟩
    · exact .inl h3
    · exact .inr ⟨k, k0, k1, (jn_jr (hu.1 k k0 k1)).mpr hk⟩
  · exact .inr (.inr (.inr ⟨(p0 h1).1, ⟨(p0 h1).2, h2⟩, h3, fun k k0 k1 hk => h4 k k0 k1 ((jn_jr (hu.1 k k0 k1)).mp hk), h5⟩))
theorem adr_eq {q : rw_t} {x y s t t' : Int} (h : adr_ q x y s t) (h' : adr_ q x y s t') : t = t' := by
  rcases h with ⟨a, e⟩ | ⟨a, b, e⟩ | ⟨a, b, c, e⟩ | ⟨a, b, c, c2, e⟩ <;> rcases h' with ⟨a', e'⟩ | ⟨a', b', e'⟩ | ⟨a', b', c', e'⟩ | ⟨a', b', c', c2', e'⟩
  · omega
  · exact absurd a' a
  · exact absurd a' a
  · exact absurd a' a
  · exact absurd a a'
  · omega
  · exact absurd b' b
  · exact absurd b' b
  · exact absurd a a'
  · exact absurd b b'
  · omega
  · rcases c with c | ⟨k, k0, k1, hk⟩
    · omega
    · exact absurd hk (c2' k k0 k1)
  · exact absurd a a'
  · exact absurd b b'
  · rcases c' with c' | ⟨k, k0, k1, hk⟩
    · omega
    · exact absurd hk (c2 k k0 k1)
  · omega
end
section
/-! the faults of put, as class and reference count them -/
theorem pq_put {q : rw_t} (hW : wf_N q) (p c w : Int) : pq_ q p c w = if put_ q p c w = 3 then 5 else if put_ q p c w = 4 then 3 else put_ q p c w := by
  obtain ⟨t1, t2, t3, t4, t5⟩ := hW
  by_cases c1 : 0 ≤ p ∧ p ≤ 3
  · have lp : 0 ≤ q (12 + p) := by
      have hh : p = 0 ∨ p = 1 ∨ p = 2 ∨ p = 3 := by omega
      rcases hh with rfl | rfl | rfl | rfl
      · exact t2.1
      · exact t3.1
      · exact t4.1
      · exact t5.1
    by_cases c2 : (c = 99 ∨ c = 108) ∧ 1 ≤ w ∧ w ≤ 20
    · by_cases c3 : q 11 = c
      · by_cases c4 : q (12 + p) = 0
        · have e1 : pq_ q p c w = 0 := by
            unfold pq_
            rw [if_neg (by omega), if_neg (by omega), if_neg (by omega), if_neg (by omega)]
          have e2 : put_ q p c w = 0 := by
            unfold put_
            rw [if_neg (fun k => k c1), if_neg (fun k => k c2), if_neg (fun k => k c3), if_neg (fun k => k c4)]
          rw [e1, e2]
          rfl
        · have e1 : pq_ q p c w = 3 := by
            unfold pq_
            rw [if_neg (by omega), if_neg (by omega), if_neg (by omega), if_pos (by omega)]
          have e2 : put_ q p c w = 4 := by
            unfold put_
            rw [if_neg (fun k => k c1), if_neg (fun k => k c2), if_neg (fun k => k c3), if_pos c4]
          rw [e1, e2]
          rfl
      · have e1 : pq_ q p c w = 5 := by
          unfold pq_
          rw [if_neg (by omega), if_neg (by omega), if_pos (by omega)]
        have e2 : put_ q p c w = 3 := by
          unfold put_
          rw [if_neg (fun k => k c1), if_neg (fun k => k c2), if_pos c3]
        rw [e1, e2]
        rfl
    · have e1 : pq_ q p c w = 2 := by
        unfold pq_
        rw [if_neg (by omega), if_pos (by omega)]
      have e2 : put_ q p c w = 2 := by
        unfold put_
        rw [if_neg (fun k => k c1), if_pos c2]
      rw [e1, e2]
      rfl
  · have e1 : pq_ q p c w = 1 := by
      unfold pq_
      rw [if_pos (by omega)]
    have e2 : put_ q p c w = 1 := by
      unfold put_
      rw [if_pos c1]
    rw [e1, e2]
    rfl
end
