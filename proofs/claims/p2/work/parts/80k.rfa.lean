/-! the widest way by growing is the widest -/
theorem wp_spec (w q : Int → Int) : ∀ k : Nat, ((wp_ w q k).1 = -1 ∧ (wp_ w q k).2 = 0 ∧ ∀ j : Int, 0 ≤ j → j < k → q j = 0 → w j ≤ 0) ∨ ((0 ≤ (wp_ w q k).1 ∧ (wp_ w q k).1 < k) ∧ q (wp_ w q k).1 = 0 ∧ (wp_ w q k).2 = w (wp_ w q k).1 ∧ 0 < w (wp_ w q k).1 ∧ ∀ j : Int, 0 ≤ j → j < k → q j = 0 → w j ≤ w (wp_ w q k).1)
  | 0 => .inl ⟨rfl, rfl, fun j j0 j1 => by omega⟩
  | k + 1 => by
    have e : wp_ w q (k + 1) = wo_ w q (wp_ w q k) (k : Int) := rfl
    rw [e]
    unfold wo_
    by_cases c : q (k : Int) = 0 ∧ (wp_ w q k).2 < w (k : Int)
    · rw [if_pos c]
      refine .inr ⟨by constructor <;> simp only <;> omega, c.1, rfl, ?_, fun j j0 j1 hj => ?_⟩
      · rcases wp_spec w q k with ⟨-, h, -⟩ | ⟨-, -, h, h2, -⟩
        · simp only; omega
        · simp only; omega
      · by_cases ej : j = (k : Int)
        · rw [ej]; exact Int.le_refl _
        · rcases wp_spec w q k with ⟨-, h, h2⟩ | ⟨-, -, h, h2, h3⟩
          · have := h2 j j0 (by omega) hj
            simp only; omega
          · have := h3 j j0 (by omega) hj
            simp only; omega
    · rw [if_neg c]
      rcases wp_spec w q k with ⟨h0, h, h2⟩ | ⟨h0, h1, h, h2, h3⟩
      · refine .inl ⟨h0, h, fun j j0 j1 hj => ?_⟩
        by_cases ej : j = (k : Int)
        · rw [ej] at hj ⊢
          omega
        · exact h2 j j0 (by omega) hj
      · refine .inr ⟨by omega, h1, h, h2, fun j j0 j1 hj => ?_⟩
        by_cases ej : j = (k : Int)
        · rw [ej] at hj ⊢
          omega
        · exact h3 j j0 (by omega) hj
/-- what holds while the reached joints grow -/
def wiv_ (f : gr_t) (a : Int) (s : wq_t) : Prop := s.2 a ≠ 0 ∧ (∀ n m : Int, 0 ≤ n → n < 8 → s.2 n ≠ 0 → n ≠ a → 0 ≤ m → m < 8 → s.2 m = 0 → s.1 m ≤ s.1 n) ∧ (∀ n j : Int, 0 ≤ n → n < 8 → s.2 n ≠ 0 → n ≠ a → 0 ≤ j → j < 8 → min (s.1 n) (f n j) ≤ s.1 j) ∧ (∀ j : Int, 0 ≤ j → j < 8 → f a j ≤ s.1 j) ∧ ∀ l j : Int, 1 ≤ l → 0 ≤ j → j < 8 → l ≤ s.1 j → ∃ n : Nat, rch_ f l a n j
def wend_ (s : wq_t) : Prop := ∀ j : Int, 0 ≤ j → j < 8 → s.2 j = 0 → s.1 j ≤ 0
theorem wiv_0 (f : gr_t) {a : Int} (a0 : 0 ≤ a) (a1 : a < 8) : wiv_ f a (wi_ f a) := by
  refine ⟨by simp [wi_], fun n m n0 n1 hn na => ?_, fun n j n0 n1 hn na => ?_, fun j _ _ => Int.le_refl _, fun l j l1 j0 j1 h => ⟨1, .inr ⟨a, ⟨a0, a1⟩, rfl, h⟩⟩⟩
  · exact absurd (by simp [wi_, na]) hn
  · exact absurd (by simp [wi_, na]) hn
theorem wiv_s {f : gr_t} {a : Int} {s : wq_t} (h : wiv_ f a s) (hn : wn_ s.1 s.2 ≠ -1) : wiv_ f a (wg_ f s) ∧ s.2 (wn_ s.1 s.2) = 0 ∧ (0 ≤ wn_ s.1 s.2 ∧ wn_ s.1 s.2 < 8) ∧ 0 < s.1 (wn_ s.1 s.2) := by
  obtain ⟨i0, i1, i2, i3, i4⟩ := h
  have e : wn_ s.1 s.2 = (wp_ s.1 s.2 8).1 := rfl
  rcases wp_spec s.1 s.2 8 with ⟨h0, -, -⟩ | ⟨n01, nu, -, npos, nmax⟩
  · exact absurd (e.trans h0) hn
  · rw [← e] at n01 nu npos nmax
    unfold wg_
    rw [if_neg hn]
    generalize wn_ s.1 s.2 = n at n01 nu npos nmax
    have na : n ≠ a := fun q => i0 (q ▸ nu)
    have keep : ∀ j, s.1 j ≤ max (s.1 j) (min (s.1 n) (f n j)) := fun j => by omega
    have vis : ∀ j : Int, up_ s.2 n 1 j ≠ 0 ↔ (s.2 j ≠ 0 ∨ j = n) := fun j => by
      unfold up_
      split
      · rename_i q; exact ⟨fun _ => .inr q, fun _ => by decide⟩
      · rename_i q; exact ⟨fun h => .inl h, fun h => h.resolve_right q⟩
    have unv : ∀ j : Int, up_ s.2 n 1 j = 0 → s.2 j = 0 ∧ j ≠ n := fun j hj => by
      refine ⟨Classical.byContradiction fun c => (vis j).mpr (.inl c) hj, fun c => (vis j).mpr (.inr c) hj⟩
    refine ⟨⟨(vis a).mpr (.inl i0), fun x m x0 x1 hx xa m0 m1 hm => ?_, fun x j x0 x1 hx xa j0 j1 => ?_, fun j j0 j1 => Int.le_trans (i3 j j0 j1) (keep j), fun l j l1 j0 j1 hj => ?_⟩, nu, by omega, npos⟩
    · obtain ⟨mu, mn⟩ := unv m hm
      have t1 := nmax m m0 (by omega) mu
      show max (s.1 m) (min (s.1 n) (f n m)) ≤ max (s.1 x) (min (s.1 n) (f n x))
      rcases (vis x).mp hx with hv | rfl
      · have t2 := i1 x m x0 x1 hv xa m0 m1 mu
        have t3 := i1 x n x0 x1 hv xa n01.1 (by omega) nu
        omega
      · omega
    · show min (max (s.1 x) (min (s.1 n) (f n x))) (f x j) ≤ max (s.1 j) (min (s.1 n) (f n j))
      rcases (vis x).mp hx with hv | rfl
      · have t3 := i1 x n x0 x1 hv xa n01.1 (by omega) nu
        have t4 := i2 x j x0 x1 hv xa j0 j1
        omega
      · omega
    · have hj : l ≤ max (s.1 j) (min (s.1 n) (f n j)) := hj
      by_cases c : l ≤ s.1 j
      · exact i4 l j l1 j0 j1 c
      · obtain ⟨k, hk⟩ := i4 l n l1 n01.1 (by omega) (by omega)
        exact ⟨k + 1, .inr ⟨n, ⟨n01.1, by omega⟩, hk, by omega⟩⟩
theorem wk_inv (f : gr_t) {a : Int} (a0 : 0 ≤ a) (a1 : a < 8) : ∀ k : Nat, wiv_ f a (wk_ f a k) ∧ (k + 1 ≤ cnt_ (fun j => (wk_ f a k).2 j ≠ 0) 8 ∨ wend_ (wk_ f a k))
  | 0 => by
    refine ⟨wiv_0 f a0 a1, .inl ?_⟩
    have h := cnt_lt (P := fun _ => False) (Q := fun j => (wk_ f a 0).2 j ≠ 0) 8 (fun j hj h => h.elim) ⟨a.toNat, by omega, by rw [Int.toNat_of_nonneg a0]; exact (wiv_0 f a0 a1).1, fun h => h⟩
    omega
  | k + 1 => by
    obtain ⟨h1, h2⟩ := wk_inv f a0 a1 k
    have e : wk_ f a (k + 1) = wg_ f (wk_ f a k) := rfl
    rw [e]
    by_cases hn : wn_ (wk_ f a k).1 (wk_ f a k).2 = -1
    · have eg : wg_ f (wk_ f a k) = wk_ f a k := by unfold wg_; rw [if_pos hn]
      rw [eg]
      refine ⟨h1, .inr (fun j j0 j1 hj => ?_)⟩
      have en : wn_ (wk_ f a k).1 (wk_ f a k).2 = (wp_ (wk_ f a k).1 (wk_ f a k).2 8).1 := rfl
      rcases wp_spec (wk_ f a k).1 (wk_ f a k).2 8 with ⟨-, -, h⟩ | ⟨h, -⟩
      · exact h j j0 (by omega) hj
      · omega
    · obtain ⟨i1, nu, n01, npos⟩ := wiv_s h1 hn
      refine ⟨i1, .inl ?_⟩
      rcases h2 with h2 | h2
      · have h := cnt_lt (P := fun j => (wk_ f a k).2 j ≠ 0) (Q := fun j => (wg_ f (wk_ f a k)).2 j ≠ 0) 8 (fun j hj hv => by
            unfold wg_
            rw [if_neg hn]
            show up_ (wk_ f a k).2 _ 1 (j : Int) ≠ 0
            unfold up_
            split
            · decide
            · exact hv) ⟨(wn_ (wk_ f a k).1 (wk_ f a k).2).toNat, by omega, by
            unfold wg_
            rw [if_neg hn, Int.toNat_of_nonneg n01.1]
            show up_ (wk_ f a k).2 _ 1 _ ≠ 0
            rw [up_at]
            decide, by
            rw [Int.toNat_of_nonneg n01.1]
            exact fun q => q nu⟩
        omega
      · have := h2 _ n01.1 n01.2 nu
        omega
theorem wb_iff {f : gr_t} {l a b : Int} (a0 : 0 ≤ a) (a1 : a < 8) (b0 : 0 ≤ b) (b1 : b < 8) (hne : b ≠ a) (l1 : 1 ≤ l) : l ≤ wb_ f a b ↔ rch_ f l a 7 b := by
  obtain ⟨⟨i0, i1, i2, i3, i4⟩, hc⟩ := wk_inv f a0 a1 7
  have fin : wend_ (wk_ f a 7) := by
    rcases hc with hc | hc
    · intro j j0 j1 hj
      have h := cnt_lt (P := fun j => (wk_ f a 7).2 j ≠ 0) (Q := fun _ => True) 8 (fun _ _ _ => trivial) ⟨j.toNat, by omega, trivial, by rw [Int.toNat_of_nonneg j0]; exact fun q => q hj⟩
      have h2 := cnt_le (fun _ => True) 8
      omega
    · exact hc
  have comp : ∀ (n : Nat) (j : Int), 0 ≤ j → j < 8 → rch_ f l a n j → j = a ∨ l ≤ (wk_ f a 7).1 j := by
    intro n
    induction n with
    | zero => intro j _ _ h; exact .inl h
    | succ n ih =>
      intro j j0 j1 h
      rcases h with h | ⟨i, hi, hr, hl⟩
      · exact ih j j0 j1 h
      · rcases ih i hi.1 hi.2 hr with e | e
        · rw [e] at hl
          exact .inr (Int.le_trans hl (i3 j j0 j1))
        · by_cases c : i = a
          · rw [c] at hl
            exact .inr (Int.le_trans hl (i3 j j0 j1))
          · have hv : (wk_ f a 7).2 i ≠ 0 := fun q => by
              have := fin i hi.1 hi.2 q
              omega
            have := i2 i j hi.1 hi.2 hv c j0 j1
            exact .inr (by omega)
  refine ⟨fun h => ?_, fun h => (comp 7 b b0 b1 h).resolve_left hne⟩
  obtain ⟨n, hn⟩ := i4 l b l1 b0 b1 h
  exact rch_7 a0 a1 b0 b1 hn
/-- the class and the reference find the same bearing -/
theorem wb_xw {q : rw_t} (hW : wf_M q) (hu : uj_ q) {a b : Int} (a0 : 0 ≤ a) (a1 : a < 8) (b0 : 0 ≤ b) (b1 : b < 8) (hne : b ≠ a) (hx : xw_ q a 8 b ≤ 99) : wb_ (sa_ q) a b = xw_ q a 8 b := by
  have l1 := wb_le (sa_le hW) a0 a1 b0 b1
  have l2 := (xw_lm hW a 8) b b0 b1
  have h1 : 1 ≤ wb_ (sa_ q) a b → wb_ (sa_ q) a b ≤ xw_ q a 8 b := fun h => (xw_iff hW hu a0 a1 b0 b1 h l1.2).mpr ((wb_iff a0 a1 b0 b1 hne h).mp (Int.le_refl _))
  have h2 : 1 ≤ xw_ q a 8 b → xw_ q a 8 b ≤ wb_ (sa_ q) a b := fun h => (wb_iff a0 a1 b0 b1 hne h).mpr ((xw_iff hW hu a0 a1 b0 b1 h hx).mp (Int.le_refl _))
  omega
