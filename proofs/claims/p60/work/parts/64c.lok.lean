/-! ranks are all taken; what the law looks at -/
theorem pig_ : ∀ (n : Nat) (f : Nat → Nat), (∀ i, i < n → f i < n) → (∀ i j, i < n → j < n → f i = f j → i = j) → ∀ y, y < n → ∃ i, i < n ∧ f i = y
  | 0, _, _, _, y, hy => absurd hy (Nat.not_lt_zero y)
  | n + 1, f, hf, hi, y, hy => by
    by_cases hn : ∃ i, i < n ∧ f i = n
    · obtain ⟨k, k1, k2⟩ := hn
      have fn : f n < n := by
        have h1 := hf n (by omega)
        have h9 : f n ≠ n := fun e => by
          have := hi k n (by omega) (by omega) (by rw [k2, e])
          omega
        omega
      have g1 : ∀ i, i < n → (if i = k then f n else f i) < n := by
        intro i hi2
        by_cases c : i = k
        · rw [if_pos c]; exact fn
        · rw [if_neg c]
          have h1 := hf i (by omega)
          have h9 : f i ≠ n := fun e => c (hi i k (by omega) (by omega) (by rw [e, k2]))
          omega
      have g2 : ∀ i j, i < n → j < n → (if i = k then f n else f i) = (if j = k then f n else f j) → i = j := by
        intro i j a b e
        by_cases c1 : i = k
        · by_cases c2 : j = k
          · omega
          · rw [if_pos c1, if_neg c2] at e
            have := hi n j (by omega) (by omega) e
            omega
        · by_cases c2 : j = k
          · rw [if_neg c1, if_pos c2] at e
            have := hi i n (by omega) (by omega) e
            omega
          · rw [if_neg c1, if_neg c2] at e
            exact hi i j (by omega) (by omega) e
      by_cases hy2 : y = n
      · exact ⟨k, by omega, by rw [k2, hy2]⟩
      · obtain ⟨i, i1, i2⟩ := pig_ n (fun i => if i = k then f n else f i) g1 g2 y (by omega)
        have i2 : (if i = k then f n else f i) = y := i2
        by_cases c : i = k
        · rw [if_pos c] at i2
          exact ⟨n, by omega, i2⟩
        · rw [if_neg c] at i2
          exact ⟨i, by omega, i2⟩
    · have g1 : ∀ i, i < n → f i < n := fun i a => by
        have h1 := hf i (by omega)
        have h9 : f i ≠ n := fun e => hn ⟨i, a, e⟩
        omega
      have g2 : ∀ i j, i < n → j < n → f i = f j → i = j := fun i j a b e => hi i j (by omega) (by omega) e
      by_cases hy2 : f n = n
      · by_cases hy3 : y = n
        · exact ⟨n, by omega, by omega⟩
        · obtain ⟨i, i1, i2⟩ := pig_ n f g1 g2 y (by omega)
          exact ⟨i, by omega, i2⟩
      · obtain ⟨i, i1, i2⟩ := pig_ n f g1 g2 (f n) (by have := hf n (by omega); omega)
        have := hi i n (by omega) (by omega) i2
        omega
theorem sm_one (n : Nat) : sm_ (fun _ => 1) n = n := by
  induction n with
  | zero => rfl
  | succ n ih =>
    show sm_ (fun _ => 1) n + 1 = _
    rw [ih]
    rfl
theorem rk_top {r : rw_t} {s : Int} (s0 : 0 ≤ s) (s1 : s < r 3) : 0 ≤ rk_ r s ∧ rk_ r s < r 3 := by
  have h1 : rk_ r s < sm_ (fun _ => 1) (r 3).toNat := sm_lt (r 3).toNat s (fun k _ _ => (bb_01 r k s).2) s0 (by omega) (by
    show bb_ r s s < 1
    have : bb_ r s s = 0 := by
      unfold bb_
      (repeat' split) <;> omega
    omega)
  rw [sm_one] at h1
  have h2 := (sm_le (f := fun k => bb_ r k s) (A := 0) (B := 1) (by omega : 0 ≤ r 3) (fun k _ _ => bb_01 r k s)).1
  have h3 : sm_ (fun k => bb_ r k s) (r 3).toNat = rk_ r s := rfl
  omega
theorem vk_top {r : rw_t} {s : Int} (s0 : 0 ≤ s) (s1 : s < r 4) : 0 ≤ vk_r r s ∧ vk_r r s < r 4 := by
  have h1 : vk_r r s < sm_ (fun _ => 1) (r 4).toNat := sm_lt (r 4).toNat s (fun k _ _ => (vb_01 r k s).2) s0 (by omega) (by
    show vb_ r s s < 1
    have : vb_ r s s = 0 := by
      unfold vb_
      (repeat' split) <;> omega
    omega)
  rw [sm_one] at h1
  have h2 := (sm_le (f := fun k => vb_ r k s) (A := 0) (B := 1) (by omega : 0 ≤ r 4) (fun k _ _ => vb_01 r k s)).1
  have h3 : sm_ (fun k => vb_ r k s) (r 4).toNat = vk_r r s := rfl
  omega
theorem rk_sur {r : rw_t} {a : Int} (a0 : 0 ≤ a) (a1 : a < r 3) : ∃ s : Int, (0 ≤ s ∧ s < r 3) ∧ rk_ r s = a := by
  obtain ⟨i, i1, i2⟩ := pig_ (r 3).toNat (fun i => (rk_ r (i : Int)).toNat) (fun i hi => by
    have h := rk_top (r := r) (s := (i : Int)) (by omega) (by omega)
    show (rk_ r (i : Int)).toNat < _
    omega) (fun i j hi hj e => by
    have e : (rk_ r (i : Int)).toNat = (rk_ r (j : Int)).toNat := e
    have h := rk_top (r := r) (s := (i : Int)) (by omega) (by omega)
    have h' := rk_top (r := r) (s := (j : Int)) (by omega) (by omega)
    have := rk_inj (q := r) (x := (i : Int)) (u := (j : Int)) ⟨by omega, by omega⟩ ⟨by omega, by omega⟩ (by omega)
    omega) a.toNat (by omega)
  have i2 : (rk_ r (i : Int)).toNat = a.toNat := i2
  have h := rk_top (r := r) (s := (i : Int)) (by omega) (by omega)
  exact ⟨i, ⟨by omega, by omega⟩, by omega⟩
theorem vk_sur {B : Int} {r : rw_t} (hT : wf_T B r) {a : Int} (a0 : 0 ≤ a) (a1 : a < r 4) : ∃ s : Int, (0 ≤ s ∧ s < r 4) ∧ vk_r r s = a := by
  obtain ⟨i, i1, i2⟩ := pig_ (r 4).toNat (fun i => (vk_r r (i : Int)).toNat) (fun i hi => by
    have h := vk_top (r := r) (s := (i : Int)) (by omega) (by omega)
    show (vk_r r (i : Int)).toNat < _
    omega) (fun i j hi hj e => by
    have e : (vk_r r (i : Int)).toNat = (vk_r r (j : Int)).toNat := e
    have h := vk_top (r := r) (s := (i : Int)) (by omega) (by omega)
    have h' := vk_top (r := r) (s := (j : Int)) (by omega) (by omega)
    have := vk_inj hT (x := (i : Int)) (u := (j : Int)) ⟨by omega, by omega⟩ ⟨by omega, by omega⟩ (by omega)
    omega) a.toNat (by omega)
  have i2 : (vk_r r (i : Int)).toNat = a.toNat := i2
  have h := vk_top (r := r) (s := (i : Int)) (by omega) (by omega)
  exact ⟨i, ⟨by omega, by omega⟩, by omega⟩
/-- the place of the vow with rank a -/
def vsl_ (r : rw_t) (a : Int) : Nat → Int
  | 0 => 0
  | n + 1 => if vk_r r (n : Int) = a then (n : Int) else vsl_ r a n
theorem vsl_e {B : Int} {r : rw_t} (hT : wf_T B r) {s : Int} (s0 : 0 ≤ s) (s1 : s < r 4) : ∀ n : Nat, (n : Int) ≤ r 4 → s < n → vsl_ r (vk_r r s) n = s
  | 0, _, h => by omega
  | n + 1, hn, h => by
    show (if vk_r r (n : Int) = vk_r r s then (n : Int) else vsl_ r (vk_r r s) n) = s
    by_cases c : vk_r r (n : Int) = vk_r r s
    · rw [if_pos c]
      exact vk_inj hT ⟨by omega, by omega⟩ ⟨s0, s1⟩ c
    · rw [if_neg c]
      refine vsl_e hT s0 s1 n (by omega) ?_
      have : s ≠ n := fun e => c (by rw [e])
      omega
/-- the smallest of what is left on a day and on the later due days -/
def gmn_ (r : rw_t) (a : Int) : Nat → Int
  | 0 => sp_ r a
  | n + 1 => if a < r (113 + 3 * (n : Int)) then min (gmn_ r a n) (sp_ r (r (113 + 3 * (n : Int)))) else gmn_ r a n
theorem gmn_le (r : rw_t) (a : Int) : ∀ n : Nat, gmn_ r a n ≤ sp_ r a ∧ ∀ k : Int, 0 ≤ k → k < n → a < r (113 + 3 * k) → gmn_ r a n ≤ sp_ r (r (113 + 3 * k))
  | 0 => ⟨Int.le_refl _, fun k k0 k1 => by omega⟩
  | n + 1 => by
    obtain ⟨h1, h2⟩ := gmn_le r a n
    by_cases c : a < r (113 + 3 * (n : Int))
    · have e : gmn_ r a (n + 1) = min (gmn_ r a n) (sp_ r (r (113 + 3 * (n : Int)))) := if_pos c
      refine ⟨by omega, fun k k0 k1 kc => ?_⟩
      by_cases q : k = n
      · rw [q] at kc ⊢
        omega
      · have := h2 k k0 (by omega) kc
        omega
    · have e : gmn_ r a (n + 1) = gmn_ r a n := if_neg c
      refine ⟨by omega, fun k k0 k1 kc => ?_⟩
      by_cases q : k = n
      · rw [q] at kc
        omega
      · have := h2 k k0 (by omega) kc
        omega
theorem gmn_ge (r : rw_t) (a x : Int) (h0 : x ≤ sp_ r a) : ∀ n : Nat, (∀ k : Int, 0 ≤ k → k < n → a < r (113 + 3 * k) → x ≤ sp_ r (r (113 + 3 * k))) → x ≤ gmn_ r a n
  | 0, _ => h0
  | n + 1, h => by
    have h1 := gmn_ge r a x h0 n (fun k k0 k1 kc => h k k0 (by omega) kc)
    by_cases c : a < r (113 + 3 * (n : Int))
    · have e : gmn_ r a (n + 1) = min (gmn_ r a n) (sp_ r (r (113 + 3 * (n : Int)))) := if_pos c
      have := h n (by omega) (by omega) c
      omega
    · have e : gmn_ r a (n + 1) = gmn_ r a n := if_neg c
      omega
theorem gmn_e {r : rw_t} {a x : Int} (h4 : 0 ≤ r 4) (q1 : x ≤ sp_ r a) (q2 : ∀ k : Int, 0 ≤ k → k < r 4 → a < r (113 + 3 * k) → x ≤ sp_ r (r (113 + 3 * k))) (q3 : x = sp_ r a ∨ ∃ k : Int, 0 ≤ k ∧ k < r 4 ∧ a < r (113 + 3 * k) ∧ x = sp_ r (r (113 + 3 * k))) : x = gmn_ r a (r 4).toNat := by
  have h1 := gmn_ge r a x q1 (r 4).toNat (fun k k0 k1 kc => q2 k k0 (by omega) kc)
  have h2 := gmn_le r a (r 4).toNat
  rcases q3 with e | ⟨k, k0, k1, kc, e⟩
  · omega
  · have := h2.2 k k0 (by omega) kc
    omega
/-- all vows can be kept -/
def ckf_ (r : rw_t) : Nat → Bool
  | 0 => true
  | n + 1 => ckf_ r n && decide (0 ≤ sp_ r (r 0 + ((n : Int) + 1)))
theorem ckf_e (r : rw_t) : ∀ n : Nat, ckf_ r n = true ↔ ∀ a : Int, 1 ≤ a → a ≤ n → 0 ≤ sp_ r (r 0 + a)
  | 0 => ⟨fun _ a a0 a1 => by omega, fun _ => rfl⟩
  | n + 1 => by
    have ih := ckf_e r n
    constructor
    · intro h a a0 a1
      have h : (ckf_ r n && decide (0 ≤ sp_ r (r 0 + ((n : Int) + 1)))) = true := h
      rw [Bool.and_eq_true] at h
      by_cases q : a = (n : Int) + 1
      · rw [q]
        exact of_decide_eq_true h.2
      · exact ih.mp h.1 a a0 (by omega)
    · intro h
      show (ckf_ r n && decide (0 ≤ sp_ r (r 0 + ((n : Int) + 1)))) = true
      rw [Bool.and_eq_true]
      exact ⟨ih.mpr (fun a a0 a1 => h a a0 (by omega)), decide_eq_true (h _ (by omega) (by omega))⟩
def lkm_ (r : rw_t) : Nat → Int
  | 0 => 31 * (31 * (31 * (31 * (31 * (31 * r 0 + r 1) + r 6) + r 7) + r 11) + tw_ r) + r 1
  | k + 1 => 31 * (31 * (31 * (31 * (31 * (31 * lkm_ r k + r (16 + 6 * (k : Int))) + r (17 + 6 * (k : Int))) + br_ r (k : Int)) + r (19 + 6 * (k : Int))) + r (20 + 6 * (k : Int))) + r (21 + 6 * (k : Int))
def lkv_ (r : rw_t) : Nat → Int
  | 0 => lkm_ r (r 3).toNat
  | k + 1 => 31 * (31 * (31 * lkv_ r k + r (112 + 3 * vsl_ r (k : Int) (r 4).toNat)) + r (113 + 3 * vsl_ r (k : Int) (r 4).toNat)) + r (114 + 3 * vsl_ r (k : Int) (r 4).toNat)
/-- what changes can change, in one number -/
def lkf_ (r : rw_t) : Int := 31 * lkv_ r (r 4).toNat + (bif ckf_ r 50 then gmn_ r (r 0 + 1) (r 4).toNat + gmn_ r (r 0 + 50) (r 4).toNat else 7)
