/-! what repairs cost, by rounds over all members -/
def bfa_ (f : Int → Int) (i j c : Int) : Int → Int := up_ f i (min (f i) (f j + c))
def bfc_ (r : rw_t) (l m : Int) : Int := if l ≤ br_ r m then 0 else co_ r m
def bfm_ (r : rw_t) (l m : Int) (f : Int → Int) : Int → Int := if r (21 + 6 * m) = 0 ∧ l ≤ r (18 + 6 * m) then bfa_ (bfa_ f (r (16 + 6 * m)) (r (17 + 6 * m)) (bfc_ r l m)) (r (17 + 6 * m)) (r (16 + 6 * m)) (bfc_ r l m) else f
def bfr_ (r : rw_t) (l : Int) (f : Int → Int) : Nat → Int → Int
  | 0 => f
  | n + 1 => bfm_ r l (n : Int) (bfr_ r l f n)
def bf0_ (a : Int) : Int → Int := fun j => if j = a then 0 else 9999
def bf_ (r : rw_t) (l a : Int) : Nat → Int → Int
  | 0 => bf0_ a
  | n + 1 => bfr_ r l (bf_ r l a n) (r 3).toNat
theorem bfa_le (f : Int → Int) (i j c k : Int) : bfa_ f i j c k ≤ f k := by
  unfold bfa_ up_
  split
  · rename_i e
    rw [e]
    omega
  · exact Int.le_refl _
theorem bfm_le (r : rw_t) (l m : Int) (f : Int → Int) (k : Int) : bfm_ r l m f k ≤ f k := by
  unfold bfm_
  split
  · exact Int.le_trans (bfa_le _ _ _ _ _) (bfa_le _ _ _ _ _)
  · exact Int.le_refl _
theorem bfr_le (r : rw_t) (l : Int) (f : Int → Int) (k : Int) (n : Nat) : ∀ m : Nat, bfr_ r l f (n + m) k ≤ bfr_ r l f n k
  | 0 => Int.le_refl _
  | m + 1 => Int.le_trans (bfm_le r l ((n + m : Nat) : Int) (bfr_ r l f (n + m)) k) (bfr_le r l f k n m)
theorem bfr_l0 (r : rw_t) (l : Int) (f : Int → Int) (k : Int) (m : Nat) : bfr_ r l f m k ≤ f k := by
  have h := bfr_le r l f k 0 m
  rw [Nat.zero_add] at h
  exact h
theorem bfa_lm {f : Int → Int} {i j c M : Int} (h : lm_ f M) (j0 : 0 ≤ j) (j1 : j < 8) (hc : 0 ≤ c) : lm_ (bfa_ f i j c) M := fun k k0 k1 => by
  have a1 := h k k0 k1
  have a2 := h j j0 j1
  unfold bfa_ up_
  split
  · rename_i e
    rw [← e]
    omega
  · exact a1
theorem bfc_0 {r : rw_t} (hW : wf_M r) (l : Int) {m : Int} (m0 : 0 ≤ m) (m1 : m < 16) : 0 ≤ bfc_ r l m ∧ bfc_ r l m ≤ 90 := by
  have := co_le hW m0 m1
  unfold bfc_
  split <;> omega
theorem bfm_lm {r : rw_t} (hW : wf_M r) {l m : Int} (m0 : 0 ≤ m) (m1 : m < 16) {f : Int → Int} (h : lm_ f 9999) : lm_ (bfm_ r l m f) 9999 := by
  obtain ⟨g0, g1, -⟩ := hW.2 m m0 m1
  have c := (bfc_0 hW l m0 m1).1
  unfold bfm_
  split
  · exact bfa_lm (bfa_lm h g1.1 (by omega) c) g0.1 (by omega) c
  · exact h
theorem bfr_lm {r : rw_t} (hW : wf_M r) {l : Int} {f : Int → Int} (h : lm_ f 9999) : ∀ n : Nat, (n : Int) ≤ r 3 → lm_ (bfr_ r l f n) 9999
  | 0, _ => h
  | n + 1, hn => bfm_lm hW (by omega) (by have := hW.1; omega) (bfr_lm hW h n (by omega))
theorem bf_lm {r : rw_t} (hW : wf_M r) (l a : Int) : ∀ n : Nat, lm_ (bf_ r l a n) 9999
  | 0 => fun j _ _ => by
    show 0 ≤ (if j = a then (0 : Int) else 9999) ∧ (if j = a then (0 : Int) else 9999) ≤ 9999
    split <;> omega
  | n + 1 => bfr_lm hW (bf_lm hW l a n) _ (by have := hW.1; omega)
/-- a member that can be repaired leads on -/
theorem bfm_hit {r : rw_t} {l m u j : Int} {f : Int → Int} (hc : r (21 + 6 * m) = 0 ∧ l ≤ r (18 + 6 * m)) (hj : jn_ r m u j) : bfm_ r l m f j ≤ f u + bfc_ r l m := by
  unfold bfm_
  rw [if_pos hc]
  rcases hj with ⟨e1, e2⟩ | ⟨e1, e2⟩
  · rw [e1, e2]
    have h1 := bfa_le f u j (bfc_ r l m) u
    have h2 : bfa_ (bfa_ f u j (bfc_ r l m)) j u (bfc_ r l m) j = min (bfa_ f u j (bfc_ r l m) j) (bfa_ f u j (bfc_ r l m) u + bfc_ r l m) := up_at
    rw [h2]
    omega
  · rw [e1, e2]
    have h1 := bfa_le (bfa_ f j u (bfc_ r l m)) u j (bfc_ r l m) j
    have h2 : bfa_ f j u (bfc_ r l m) j = min (f j) (f u + bfc_ r l m) := up_at
    omega
theorem bfr_hit {r : rw_t} {l u j : Int} {f : Int → Int} {m : Nat} (hc : r (21 + 6 * (m : Int)) = 0 ∧ l ≤ r (18 + 6 * (m : Int))) (hj : jn_ r (m : Int) u j) (n : Nat) (hn : m < n) : bfr_ r l f n j ≤ f u + bfc_ r l (m : Int) := by
  obtain ⟨k, rfl⟩ : ∃ k, n = m + 1 + k := ⟨n - (m + 1), by omega⟩
  have h1 := bfr_le r l f j (m + 1) k
  have h2 : bfr_ r l f (m + 1) j ≤ bfr_ r l f m u + bfc_ r l (m : Int) := bfm_hit hc hj
  have h3 := bfr_l0 r l f u m
  omega
theorem pk_S (r : rw_t) (l : Int) (n : Nat) (a b : Int) : pk_ r l (n + 1) a b = if (r (16 + 6 * (n : Int)) = a ∧ r (17 + 6 * (n : Int)) = b) ∨ (r (16 + 6 * (n : Int)) = b ∧ r (17 + 6 * (n : Int)) = a) then po_ r l n else pk_ r l n a b := by
  show ug_ (ug_ (pk_ r l n) (r (16 + 6 * (n : Int))) (r (17 + 6 * (n : Int))) (po_ r l n)) (r (17 + 6 * (n : Int))) (r (16 + 6 * (n : Int))) (po_ r l n) a b = _
  unfold ug_
  by_cases e1 : a = r (17 + 6 * (n : Int)) ∧ b = r (16 + 6 * (n : Int))
  · rw [if_pos e1, if_pos (.inr ⟨e1.2.symm, e1.1.symm⟩)]
  · rw [if_neg e1]
    by_cases e2 : a = r (16 + 6 * (n : Int)) ∧ b = r (17 + 6 * (n : Int))
    · rw [if_pos e2, if_pos (.inl ⟨e2.1.symm, e2.2.symm⟩)]
    · rw [if_neg e2, if_neg (by omega)]
theorem pk_no {r : rw_t} {l a b : Int} : ∀ n : Nat, (∀ m : Int, 0 ≤ m → m < n → ¬ jn_ r m a b) → pk_ r l n a b = 1000000
  | 0, _ => rfl
  | n + 1, h => by
    have hh : ¬ ((r (16 + 6 * (n : Int)) = a ∧ r (17 + 6 * (n : Int)) = b) ∨ (r (16 + 6 * (n : Int)) = b ∧ r (17 + 6 * (n : Int)) = a)) := h n (by omega) (by omega)
    rw [pk_S, if_neg hh]
    exact pk_no n (fun m m0 m1 => h m m0 (by omega))
theorem pk_yes {r : rw_t} (hu : uj_ r) {l a b m : Int} (m0 : 0 ≤ m) (hm : jn_ r m a b) : ∀ n : Nat, (n : Int) ≤ r 3 → m < n → pk_ r l n a b = po_ r l m
  | 0, _, h => absurd h (by omega)
  | n + 1, hn, h => by
    rw [pk_S]
    by_cases e : (r (16 + 6 * (n : Int)) = a ∧ r (17 + 6 * (n : Int)) = b) ∨ (r (16 + 6 * (n : Int)) = b ∧ r (17 + 6 * (n : Int)) = a)
    · rw [if_pos e, uj_eq hu (by omega) (by omega) m0 (by omega) e hm]
    · have ne : m ≠ (n : Int) := fun q => e (by rw [← q]; exact hm)
      rw [if_neg e]
      exact pk_yes hu m0 hm n (by omega) (by omega)
theorem pr_yes {r : rw_t} (hu : uj_ r) (h3 : 0 ≤ r 3) {l a b m : Int} (m0 : 0 ≤ m) (m1 : m < r 3) (hm : jn_ r m a b) : pr_ r l a b = po_ r l m := pk_yes hu m0 hm _ (by omega) (by omega)
theorem pr_no {r : rw_t} (h3 : 0 ≤ r 3) {l a b : Int} (h : ∀ m : Int, 0 ≤ m → m < r 3 → ¬ jn_ r m a b) : pr_ r l a b = 1000000 := pk_no _ (fun m m0 m1 => h m m0 (by omega))
/-- rounds are no dearer than the cheapest way -/
theorem bf_le_dk {r : rw_t} (hW : wf_M r) (hu : uj_ r) {l a : Int} : ∀ (k : Nat) (j : Int), 0 ≤ j → j < 8 → bf_ r l a k j ≤ (dk_ (pr_ r l) a k).1 j
  | 0, j, _, _ => by
    show (if j = a then (0 : Int) else 9999) ≤ (if j = a then (0 : Int) else 1000000)
    split <;> omega
  | k + 1, j, j0, j1 => by
    have ih := bf_le_dk hW hu (l := l) (a := a) k
    have hd : bf_ r l a (k + 1) j ≤ bf_ r l a k j := bfr_l0 r l (bf_ r l a k) j (r 3).toNat
    have e : dk_ (pr_ r l) a (k + 1) = dg_ (pr_ r l) (dk_ (pr_ r l) a k) := rfl
    rw [e]
    generalize dk_ (pr_ r l) a k = s at ih
    unfold dg_
    by_cases hn : un_ s = -1
    · rw [if_pos hn]
      have := ih j j0 j1
      omega
    · rw [if_neg hn]
      show bf_ r l a (k + 1) j ≤ min (s.1 j) (s.1 (un_ s) + pr_ r l (un_ s) j)
      have hn2 : 0 ≤ un_ s ∧ un_ s < 8 := by
        have eu : un_ s = (up2_ s 8).1 := rfl
        rcases up2_spec s 8 with ⟨h, -⟩ | ⟨h, -⟩
        · exact absurd (eu.trans h) hn
        · rw [eu]
          omega
      generalize un_ s = u at hn2
      have h1 := ih j j0 j1
      have h2 := ih u hn2.1 hn2.2
      have h3 : bf_ r l a (k + 1) j ≤ bf_ r l a k u + pr_ r l u j := by
        have b1 := bf_lm hW l a (k + 1) j j0 j1
        have b2 := bf_lm hW l a k u hn2.1 hn2.2
        by_cases c : ∃ m : Nat, (m : Int) < r 3 ∧ jn_ r (m : Int) u j
        · obtain ⟨m, m1, hj⟩ := c
          rw [pr_yes hu hW.1.1 (by omega) m1 hj]
          unfold po_
          by_cases q : r (21 + 6 * (m : Int)) ≠ 0 ∨ r (18 + 6 * (m : Int)) < l
          · rw [if_pos q]
            omega
          · rw [if_neg q]
            exact bfr_hit (by omega) hj _ (by omega)
        · rw [pr_no hW.1.1 (fun m m0 m1 hj => c ⟨m.toNat, by omega, by rw [Int.toNat_of_nonneg m0]; exact hj⟩)]
          omega
      omega
theorem bfa_ge {P f : Int → Int} {i j c : Int} (hP : P i ≤ P j + c) (h : ∀ k : Int, 0 ≤ k → k < 8 → P k ≤ f k) (j0 : 0 ≤ j) (j1 : j < 8) : ∀ k : Int, 0 ≤ k → k < 8 → P k ≤ bfa_ f i j c k := fun k k0 k1 => by
  have a1 := h k k0 k1
  have a2 := h j j0 j1
  unfold bfa_ up_
  split
  · rename_i e
    rw [← e] at hP ⊢
    omega
  · exact a1
/-- and no cheaper, but for the bound -/
theorem dk_le_bf {r : rw_t} (hW : wf_M r) (hu : uj_ r) {l a : Int} (a0 : 0 ≤ a) (a1 : a < 8) : ∀ (k : Nat) (j : Int), 0 ≤ j → j < 8 → min ((dk_ (pr_ r l) a 8).1 j) 9999 ≤ bf_ r l a k j := by
  have lf : gl_ (pr_ r l) 1000000 := pr_le hW
  obtain ⟨d0, d1, d2, -⟩ := dk_fin (F := fun _ _ => 0) a0 a1 lf (fun j j0 j1 => (lf a j a0 a1 j0 j1).1) (fun u j u0 u1 j0 j1 => by have := (lf u j u0 u1 j0 j1).1; omega)
  generalize (dk_ (pr_ r l) a 8).1 = D at d0 d1 d2
  have step : ∀ (m : Nat) (f : Int → Int), (m : Int) < r 3 → (∀ k : Int, 0 ≤ k → k < 8 → min (D k) 9999 ≤ f k) → ∀ k : Int, 0 ≤ k → k < 8 → min (D k) 9999 ≤ bfm_ r l (m : Int) f k := by
    intro m f hm h
    have w3 := hW.1
    obtain ⟨g0, g1, -⟩ := hW.2 (m : Int) (by omega) (by omega)
    unfold bfm_
    by_cases q : r (21 + 6 * (m : Int)) = 0 ∧ l ≤ r (18 + 6 * (m : Int))
    · rw [if_pos q]
      have ep : po_ r l (m : Int) = bfc_ r l (m : Int) := by
        unfold po_
        rw [if_neg (by omega)]
        rfl
      have c0 := (bfc_0 hW l (by omega : 0 ≤ (m : Int)) (by omega)).1
      have e1 := d2 (r (17 + 6 * (m : Int))) (r (16 + 6 * (m : Int))) g1.1 (by omega) g0.1 (by omega)
      have e2 := d2 (r (16 + 6 * (m : Int))) (r (17 + 6 * (m : Int))) g0.1 (by omega) g1.1 (by omega)
      rw [pr_yes hu w3.1 (by omega) hm (.inr ⟨rfl, rfl⟩), ep] at e1
      rw [pr_yes hu w3.1 (by omega) hm (.inl ⟨rfl, rfl⟩), ep] at e2
      exact bfa_ge (P := fun k => min (D k) 9999) (show min (D (r (17 + 6 * (m : Int)))) 9999 ≤ min (D (r (16 + 6 * (m : Int)))) 9999 + bfc_ r l (m : Int) by omega) (bfa_ge (P := fun k => min (D k) 9999) (show min (D (r (16 + 6 * (m : Int)))) 9999 ≤ min (D (r (17 + 6 * (m : Int)))) 9999 + bfc_ r l (m : Int) by omega) h g1.1 (by omega)) g0.1 (by omega)
    · rw [if_neg q]
      exact h
  have round : ∀ (n : Nat) (f : Int → Int), (n : Int) ≤ r 3 → (∀ k : Int, 0 ≤ k → k < 8 → min (D k) 9999 ≤ f k) → ∀ k : Int, 0 ≤ k → k < 8 → min (D k) 9999 ≤ bfr_ r l f n k := by
    intro n f
    induction n with
    | zero => exact fun _ h => h
    | succ n ih => exact fun hn h => step n _ (by omega) (ih (by omega) h)
  intro k
  induction k with
  | zero =>
    intro j _ _
    show min (D j) 9999 ≤ (if j = a then (0 : Int) else 9999)
    split
    · rename_i e
      rw [e, d0]
      omega
    · omega
  | succ k ih => exact round _ _ (by have := hW.1; omega) ih
theorem bf_iff {r : rw_t} (hW : wf_M r) (hu : uj_ r) {l a b s : Int} (a0 : 0 ≤ a) (a1 : a < 8) (b0 : 0 ≤ b) (b1 : b < 8) (s1 : s < 9999) : bf_ r l a 8 b ≤ s ↔ dc_ (pr_ r l) a b ≤ s := by
  have h1 := bf_le_dk hW hu (l := l) (a := a) 8 b b0 b1
  have h2 := dk_le_bf hW hu (l := l) a0 a1 8 b b0 b1
  show _ ↔ (dk_ (pr_ r l) a 8).1 b ≤ s
  omega
/-- a load that no member just bears is as good as the next one -/
theorem iq_yes {r : rw_t} {l : Int} {m : Nat} (hm : (r (18 + 6 * (m : Int)) = l ∧ r (21 + 6 * (m : Int)) = 0) ∨ br_ r (m : Int) = l) : ∀ k : Nat, m < k → iq_ r l k = 1
  | 0, h => absurd h (Nat.not_lt_zero m)
  | k + 1, h => by
    show (if iq_ r l k = 1 ∨ (r (18 + 6 * (k : Int)) = l ∧ r (21 + 6 * (k : Int)) = 0) ∨ br_ r (k : Int) = l then (1 : Int) else 0) = 1
    by_cases e : m = k
    · rw [e] at hm
      rw [if_pos (.inr hm)]
    · rw [if_pos (.inl (iq_yes hm k (by omega)))]
theorem bfm_up {r : rw_t} {l m : Int} {f : Int → Int} (h : ¬ ((r (18 + 6 * m) = l ∧ r (21 + 6 * m) = 0) ∨ br_ r m = l)) : bfm_ r (l + 1) m f = bfm_ r l m f := by
  have e0 : bfc_ r (l + 1) m = bfc_ r l m := by
    unfold bfc_
    by_cases c : l ≤ br_ r m
    · rw [if_pos c, if_pos (by omega)]
    · rw [if_neg c, if_neg (by omega)]
  unfold bfm_
  rw [e0]
  by_cases c : r (21 + 6 * m) = 0 ∧ l ≤ r (18 + 6 * m)
  · rw [if_pos c, if_pos (by omega)]
  · rw [if_neg c, if_neg (by omega)]
theorem bf_up {r : rw_t} (h3 : 0 ≤ r 3) {l : Int} (h : iw_ r l ≠ 1) (a : Int) : ∀ k : Nat, bf_ r (l + 1) a k = bf_ r l a k := by
  have round : ∀ (n : Nat) (f : Int → Int), (n : Int) ≤ r 3 → bfr_ r (l + 1) f n = bfr_ r l f n := by
    intro n f
    induction n with
    | zero => exact fun _ => rfl
    | succ n ih =>
      intro hn
      show bfm_ r (l + 1) (n : Int) (bfr_ r (l + 1) f n) = bfm_ r l (n : Int) (bfr_ r l f n)
      rw [ih (by omega)]
      exact bfm_up (fun q => h (iq_yes q _ (by omega)))
  intro k
  induction k with
  | zero => rfl
  | succ k ih =>
    show bfr_ r (l + 1) (bf_ r (l + 1) a k) _ = bfr_ r l (bf_ r l a k) _
    rw [ih]
    exact round _ _ (by omega)
theorem bf_100 {r : rw_t} (hW : wf_M r) (a : Int) : ∀ k : Nat, bf_ r 100 a k = bf0_ a := by
  have round : ∀ (n : Nat) (f : Int → Int), (n : Int) ≤ r 3 → bfr_ r 100 f n = f := by
    intro n f
    induction n with
    | zero => exact fun _ => rfl
    | succ n ih =>
      intro hn
      have w3 := hW.1
      have g2 := (hW.2 (n : Int) (by omega) (by omega)).2.2.1
      show bfm_ r 100 (n : Int) (bfr_ r 100 f n) = f
      rw [ih (by omega)]
      unfold bfm_
      rw [if_neg (by omega)]
  intro k
  induction k with
  | zero => rfl
  | succ k ih =>
    show bfr_ r 100 (bf_ r 100 a k) _ = _
    rw [ih]
    exact round _ _ (by have := hW.1; omega)
/-- the greatest load that is affordable by rounds, n at most -/
def afd_ (r : rw_t) (s a b : Int) : Nat → Int
  | 0 => 0
  | n + 1 => if bf_ r ((n + 1 : Nat) : Int) a 8 b ≤ s then ((n + 1 : Nat) : Int) else afd_ r s a b n
theorem afd_la {r : rw_t} (hW : wf_M r) (hu : uj_ r) {s a b : Int} (s1 : s < 9999) (a0 : 0 ≤ a) (a1 : a < 8) (b0 : 0 ≤ b) (b1 : b < 8) : ∀ n : Nat, ¬ bf_ r ((n + 1 : Nat) : Int) a 8 b ≤ s → afd_ r s a b n = la_ r s a b n
  | 0, _ => rfl
  | n + 1, h => by
    show (if bf_ r ((n + 1 : Nat) : Int) a 8 b ≤ s then ((n + 1 : Nat) : Int) else afd_ r s a b n) = (if iw_ r ((n + 1 : Nat) : Int) = 1 ∧ dc_ (pr_ r ((n + 1 : Nat) : Int)) a b ≤ s then ((n + 1 : Nat) : Int) else la_ r s a b n)
    have e := bf_iff hW hu (l := ((n + 1 : Nat) : Int)) a0 a1 b0 b1 s1
    by_cases c : bf_ r ((n + 1 : Nat) : Int) a 8 b ≤ s
    · have hw : iw_ r ((n + 1 : Nat) : Int) = 1 := Classical.byContradiction fun q => h (by
        rw [show (((n + 1) + 1 : Nat) : Int) = ((n + 1 : Nat) : Int) + 1 by omega, bf_up hW.1.1 q]
        exact c)
      rw [if_pos c, if_pos ⟨hw, e.mp c⟩]
    · rw [if_neg c, if_neg (fun q => c (e.mpr q.2))]
      exact afd_la hW hu s1 a0 a1 b0 b1 n c
theorem afd_99 {r : rw_t} (hW : wf_M r) (hu : uj_ r) {s a b : Int} (s1 : s < 9999) (a0 : 0 ≤ a) (a1 : a < 8) (b0 : 0 ≤ b) (b1 : b < 8) (hne : a ≠ b) : afd_ r s a b 99 = la_ r s a b 99 := by
  refine afd_la hW hu s1 a0 a1 b0 b1 99 (fun h => ?_)
  have h : bf_ r 100 a 8 b ≤ s := h
  rw [bf_100 hW] at h
  unfold bf0_ at h
  rw [if_neg (fun q => hne q.symm)] at h
  omega
theorem afd_le (r : rw_t) (s a b : Int) : ∀ n : Nat, 0 ≤ afd_ r s a b n ∧ afd_ r s a b n ≤ n
  | 0 => ⟨Int.le_refl _, Int.le_refl _⟩
  | n + 1 => by
    have ih := afd_le r s a b n
    show 0 ≤ (if bf_ r ((n + 1 : Nat) : Int) a 8 b ≤ s then ((n + 1 : Nat) : Int) else afd_ r s a b n) ∧ (if bf_ r ((n + 1 : Nat) : Int) a 8 b ≤ s then ((n + 1 : Nat) : Int) else afd_ r s a b n) ≤ ((n + 1 : Nat) : Int)
    split <;> omega
