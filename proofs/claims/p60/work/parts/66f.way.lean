/-! all ways, tried one by one: what the best of them is -/
/-- what is kept is nothing yet, or a way: its bearing, its length, its joints -/
def tb1_ (f : gr_t) (a b : Int) (bs : Int → Int) : Prop := (bs 0 = 0 ∧ bs 1 = 99) ∨ ((1 ≤ bs 0 ∧ bs 0 ≤ 999) ∧ (0 ≤ bs 1 ∧ bs 1 ≤ 7) ∧ bs 2 = a ∧ bs (2 + bs 1) = b ∧ (∀ i : Int, 0 ≤ i → i ≤ bs 1 → 0 ≤ bs (2 + i) ∧ bs (2 + i) < 8) ∧ ∀ i : Int, 0 ≤ i → i < bs 1 → bs 0 ≤ f (bs (2 + i)) (bs (3 + i)))
/-- what is kept is no worse than the way P of length n, which bears w -/
def tg1_ (w n : Int) (P bs : Int → Int) : Prop := w < bs 0 ∨ (bs 0 = w ∧ (bs 1 < n ∨ (bs 1 = n ∧ ((∀ i : Int, 0 ≤ i → i ≤ n → bs (2 + i) = P i) ∨ ∃ k : Int, 0 ≤ k ∧ k ≤ n ∧ (∀ i : Int, 0 ≤ i → i < k → bs (2 + i) = P i) ∧ bs (2 + k) < P k))))
/-- a way P -/
def tp1_ (f : gr_t) (b w n : Int) (P : Int → Int) : Prop := (1 ≤ w ∧ w ≤ 999) ∧ (0 ≤ n ∧ n ≤ 7) ∧ P n = b ∧ (∀ i : Int, 0 ≤ i → i ≤ n → 0 ≤ P i ∧ P i < 8) ∧ (∀ i : Int, 0 ≤ i → i < n → w ≤ f (P i) (P (i + 1))) ∧ ∀ i j : Int, 0 ≤ i → i ≤ n → 0 ≤ j → j ≤ n → P i = P j → i = j
/-- the way so far: joints 0 .. l, all of them in the mask U, all its members bear c -/
def tw1_ (f : gr_t) (a l c : Int) (U : Nat) (wy : Int → Int) : Prop := wy 0 = a ∧ (0 ≤ l ∧ l ≤ 7) ∧ (1 ≤ c ∧ c ≤ 999) ∧ (∀ i : Int, 0 ≤ i → i ≤ l → 0 ≤ wy i ∧ wy i < 8) ∧ (∀ i : Int, 0 ≤ i → i < l → c ≤ f (wy i) (wy (i + 1))) ∧ U < 256 ∧ (∀ j : Nat, j < 8 → (U.testBit j = true ↔ ∃ i : Int, 0 ≤ i ∧ i ≤ l ∧ wy i = j)) ∧ ∀ i j : Int, 0 ≤ i → i ≤ l → 0 ≤ j → j ≤ l → wy i = wy j → i = j
/-- the way so far is the beginning of P -/
def tf1_ (w n : Int) (P : Int → Int) (l c : Int) (wy : Int → Int) : Prop := (∀ i : Int, 0 ≤ i → i ≤ l → wy i = P i) ∧ l ≤ n ∧ w ≤ c
/-- the way so far is better than what is kept -/
def tx1p_ (l c : Int) (wy bs : Int → Int) : Prop := bs 0 < c ∨ (c = bs 0 ∧ (l < bs 1 ∨ (l = bs 1 ∧ ∃ k : Int, 0 ≤ k ∧ k ≤ l ∧ (∀ i : Int, 0 ≤ i → i < k → wy i = bs (2 + i)) ∧ wy k < bs (2 + k))))
def tn1_ (l c : Int) (wy bs : Int → Int) : Prop := c < bs 0 ∨ (c = bs 0 ∧ (bs 1 < l ∨ (l = bs 1 ∧ ((∀ i : Int, 0 ≤ i → i ≤ l → wy i = bs (2 + i)) ∨ ∃ k : Int, 0 ≤ k ∧ k ≤ l ∧ (∀ i : Int, 0 ≤ i → i < k → wy i = bs (2 + i)) ∧ bs (2 + k) < wy k))))
/-- it is kept now -/
theorem t1_new {f : gr_t} {a b w n l c : Int} {U : Nat} {P wy bs bs' : Int → Int} (hw : tw1_ f a l c U wy) (hb : wy l = b) (hx : tx1p_ l c wy bs) (e0 : bs' 0 = c) (e1 : bs' 1 = l) (e2 : ∀ i : Int, 0 ≤ i → i ≤ l → bs' (2 + i) = wy i) : tb1_ f a b bs' ∧ (tg1_ w n P bs → tg1_ w n P bs') ∧ (tf1_ w n P l c wy → P n = b → (∀ i j : Int, 0 ≤ i → i ≤ n → 0 ≤ j → j ≤ n → P i = P j → i = j) → tg1_ w n P bs') := by
  obtain ⟨w0, w1, w2, w3, w4, -, -, -⟩ := hw
  refine ⟨.inr ⟨by omega, by omega, ?_, ?_, fun i i0 i1 => ?_, fun i i0 i1 => ?_⟩, fun hg => ?_, fun hf hP hi => ?_⟩
  · have := e2 0 (by decide) (by omega)
    rw [Int.add_zero] at this
    rw [this, w0]
  · rw [e1, e2 l (by omega) (by omega), hb]
  · rw [e2 i i0 (by omega)]
    exact w3 i i0 (by omega)
  · rw [e0, e2 i i0 (by omega), show 3 + i = 2 + (i + 1) by omega, e2 (i + 1) (by omega) (by omega)]
    exact w4 i i0 (by omega)
  · rcases hx with hx | ⟨hx, hx2⟩
    · rcases hg with hg | ⟨hg, -⟩
      · exact .inl (by omega)
      · exact .inl (by omega)
    · rcases hg with hg | ⟨hg, hg2⟩
      · exact .inl (by omega)
      · refine .inr ⟨by omega, ?_⟩
        rcases hx2 with hx2 | ⟨hx2, k, k0, k1, k2, k3⟩
        · rcases hg2 with hg2 | ⟨hg2, -⟩
          · exact .inl (by omega)
          · exact .inl (by omega)
        · rcases hg2 with hg2 | ⟨hg2, hg3⟩
          · exact .inl (by omega)
          · refine .inr ⟨by omega, .inr ?_⟩
            rcases hg3 with hg3 | ⟨j, j0, j1, j2, j3⟩
            · refine ⟨k, k0, by omega, fun i i0 i1 => ?_, ?_⟩
              · rw [e2 i i0 (by omega), k2 i i0 i1]
                exact hg3 i i0 (by omega)
              · rw [e2 k k0 k1]
                have := hg3 k k0 (by omega)
                omega
            · rcases Int.lt_trichotomy k j with q | q | q
              · refine ⟨k, k0, by omega, fun i i0 i1 => ?_, ?_⟩
                · rw [e2 i i0 (by omega), k2 i i0 i1]
                  exact j2 i i0 (by omega)
                · rw [e2 k k0 k1]
                  have := j2 k k0 q
                  omega
              · subst q
                refine ⟨k, k0, by omega, fun i i0 i1 => ?_, ?_⟩
                · rw [e2 i i0 (by omega), k2 i i0 i1]
                  exact j2 i i0 i1
                · rw [e2 k k0 k1]
                  omega
              · refine ⟨j, j0, j1, fun i i0 i1 => ?_, ?_⟩
                · rw [e2 i i0 (by omega), k2 i i0 (by omega)]
                  exact j2 i i0 i1
                · rw [e2 j j0 (by omega), k2 j j0 q]
                  exact j3
  · obtain ⟨f1, f2, f3⟩ := hf
    have en : l = n := hi l n (by omega) f2 (by omega) (Int.le_refl _) (by rw [← f1 l (by omega) (Int.le_refl _), hb, hP])
    by_cases q : w < c
    · exact .inl (by omega)
    · refine .inr ⟨by omega, .inr ⟨by omega, .inl (fun i i0 i1 => ?_)⟩⟩
      rw [e2 i i0 (by omega)]
      exact f1 i i0 (by omega)
theorem t1_old {b w n l c : Int} {P wy bs : Int → Int} (hb : wy l = b) (l0 : 0 ≤ l) (hx : tn1_ l c wy bs) (hf : tf1_ w n P l c wy) (hP : P n = b) (hi : ∀ i j : Int, 0 ≤ i → i ≤ n → 0 ≤ j → j ≤ n → P i = P j → i = j) : tg1_ w n P bs := by
  obtain ⟨f1, f2, f3⟩ := hf
  have en : l = n := hi l n l0 f2 (by omega) (Int.le_refl _) (by rw [← f1 l l0 (Int.le_refl _), hb, hP])
  rcases hx with hx | ⟨hx, hx2⟩
  · exact .inl (by omega)
  · by_cases q : w < c
    · exact .inl (by omega)
    · refine .inr ⟨by omega, ?_⟩
      rcases hx2 with hx2 | ⟨hx2, hx3⟩
      · exact .inl (by omega)
      · refine .inr ⟨by omega, ?_⟩
        rcases hx3 with hx3 | ⟨k, k0, k1, k2, k3⟩
        · refine .inl (fun i i0 i1 => ?_)
          rw [← hx3 i i0 (by omega)]
          exact f1 i i0 (by omega)
        · refine .inr ⟨k, k0, by omega, fun i i0 i1 => ?_, ?_⟩
          · rw [← k2 i i0 i1]
            exact f1 i i0 (by omega)
          · have := f1 k k0 k1
            omega
/-- a joint more -/
theorem tw1_s {f : gr_t} {a l c e x : Int} {U : Nat} {wy wy' : Int → Int} (h : tw1_ f a l c U wy) (hx : 0 ≤ x ∧ x < 8) (hU : ¬ U.testBit x.toNat = true) (he : 1 ≤ e ∧ e ≤ c) (hf : e ≤ f (wy l) x) (h' : ∀ i : Int, 0 ≤ i → i ≤ l → wy' i = wy i) (h1 : wy' (l + 1) = x) : l ≤ 6 ∧ tw1_ f a (l + 1) e (U ||| 2 ^ x.toNat) wy' := by
  obtain ⟨w0, w1, w2, w3, w4, w5, w6, w7⟩ := h
  have nx : ∀ i : Int, 0 ≤ i → i ≤ l → wy i ≠ x := fun i i0 i1 q => hU ((w6 x.toNat (by omega)).mpr ⟨i, i0, i1, by rw [q]; omega⟩)
  have l6 : l ≤ 6 := by
    rcases Int.lt_or_le 6 l with c | c
    · exfalso
      obtain ⟨i, i1, i2⟩ := pig_ 8 (fun i => (wy (i : Int)).toNat) (fun i hi => by
        have := w3 (i : Int) (by omega) (by omega)
        show (wy (i : Int)).toNat < 8
        omega) (fun i j hi hj q => by
        have q : (wy (i : Int)).toNat = (wy (j : Int)).toNat := q
        have h1 := w3 (i : Int) (by omega) (by omega)
        have h2 := w3 (j : Int) (by omega) (by omega)
        have := w7 (i : Int) (j : Int) (by omega) (by omega) (by omega) (by omega) (by omega)
        omega) x.toNat (by omega)
      have i2 : (wy (i : Int)).toNat = x.toNat := i2
      have h1 := w3 (i : Int) (by omega) (by omega)
      exact nx (i : Int) (by omega) (by omega) (by omega)
    · exact c
  have h2 : ∀ i : Int, 0 ≤ i → i ≤ l + 1 → i ≠ l + 1 → wy' i = wy i := fun i i0 i1 i2 => h' i i0 (by omega)
  refine ⟨l6, by rw [h' 0 (by decide) w1.1]; exact w0, by omega, by omega, fun i i0 i1 => ?_, fun i i0 i1 => ?_, (i3_or w5 (i3_one hx.1 hx.2).2).2, fun j hj => ?_, fun i j i0 i1 j0 j1 q => ?_⟩
  · by_cases c : i = l + 1
    · rw [c, h1]
      exact hx
    · rw [h2 i i0 i1 c]
      exact w3 i i0 (by omega)
  · by_cases c : i = l
    · rw [c, h1, h' l w1.1 (Int.le_refl _)]
      exact hf
    · rw [h' i i0 (by omega), h' (i + 1) (by omega) (by omega)]
      have := w4 i i0 (by omega)
      omega
  · rw [Nat.testBit_or, Nat.testBit_two_pow, Bool.or_eq_true, decide_eq_true_iff]
    constructor
    · rintro (q | q)
      · obtain ⟨i, i0, i1, i2⟩ := (w6 j hj).mp q
        exact ⟨i, i0, by omega, by rw [h' i i0 i1]; exact i2⟩
      · exact ⟨l + 1, by omega, Int.le_refl _, by rw [h1]; omega⟩
    · rintro ⟨i, i0, i1, i2⟩
      by_cases c : i = l + 1
      · rw [c, h1] at i2
        right
        omega
      · rw [h2 i i0 i1 c] at i2
        exact .inl ((w6 j hj).mpr ⟨i, i0, by omega, i2⟩)
  · by_cases c : i = l + 1
    · by_cases c2 : j = l + 1
      · omega
      · rw [c, h1, h2 j j0 j1 c2] at q
        exact absurd q.symm (nx j j0 (by omega))
    · by_cases c2 : j = l + 1
      · rw [c2, h1, h2 i i0 i1 c] at q
        exact absurd q (nx i i0 (by omega))
      · rw [h2 i i0 i1 c, h2 j j0 j1 c2] at q
        exact w7 i j i0 (by omega) j0 (by omega) q
theorem tw1_0 {f : gr_t} {a : Int} {wy : Int → Int} (a0 : 0 ≤ a) (a1 : a < 8) (h : wy 0 = a) : tw1_ f a 0 999 (2 ^ a.toNat) wy := by
  refine ⟨h, by decide, by decide, fun i i0 i1 => ?_, fun i i0 i1 => by omega, (i3_one a0 a1).2, fun j hj => ?_, fun i j i0 i1 j0 j1 _ => by omega⟩
  · rw [show i = 0 by omega, h]
    exact ⟨a0, a1⟩
  · rw [Nat.testBit_two_pow, decide_eq_true_iff]
    constructor
    · intro q
      exact ⟨0, by decide, by decide, by rw [h]; omega⟩
    · rintro ⟨i, i0, i1, i2⟩
      rw [show i = 0 by omega, h] at i2
      omega
