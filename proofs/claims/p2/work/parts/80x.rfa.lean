/-! each pair of joints once: kept by every change -/
theorem eJ_refl (q : rw_t) : eJ_ q q := ⟨rfl, fun _ _ _ => ⟨rfl, rfl⟩⟩
theorem eJ_of {q r : rw_t} (h : ∀ j : Int, j = 3 ∨ (16 ≤ j ∧ j < 112) → r j = q j) : eJ_ q r := ⟨h 3 (.inl rfl), fun k k0 k1 => ⟨h _ (.inr (by omega)), h _ (.inr (by omega))⟩⟩
theorem eJ_rn {q r : rw_t} {m : Int} (h : eJ_ q r) : eJ_ q (rn_ r m) := by
  refine ⟨?_, fun k k0 k1 => ⟨?_, ?_⟩⟩
  · unfold rn_
    rw [if_neg (by omega), if_neg (by omega)]
    exact h.1
  · unfold rn_
    rw [if_neg (by omega), if_neg (by omega)]
    exact (h.2 k k0 k1).1
  · unfold rn_
    rw [if_neg (by omega), if_neg (by omega)]
    exact (h.2 k k0 k1).2
theorem eJ_rl {q r : rw_t} {m w : Int} (m0 : 0 ≤ m) (h : eJ_ q r) : eJ_ q (rl_ r m w) := by
  refine ⟨?_, fun k k0 k1 => ⟨?_, ?_⟩⟩
  · unfold rl_
    rw [if_neg (by omega)]
    exact h.1
  · unfold rl_
    rw [if_neg (by omega)]
    exact (h.2 k k0 k1).1
  · unfold rl_
    rw [if_neg (by omega)]
    exact (h.2 k k0 k1).2
theorem eJ_up {q r : rw_t} {i v : Int} (h : eJ_ q r) (hi : i ≠ 3 ∧ (i < 16 ∨ 112 ≤ i)) : eJ_ q (up_ r i v) := by
  refine ⟨(up_ne (by omega)).trans h.1, fun k k0 k1 => ⟨(up_ne (by omega)).trans (h.2 k k0 k1).1, (up_ne (by omega)).trans (h.2 k k0 k1).2⟩⟩
theorem eJ_rs {q r : rw_t} {c : Int} (h : eJ_ q r) : eJ_ q (rs_ r c) := eJ_up (eJ_up h (by decide)) (by decide)
theorem eJ_rv {q r : rw_t} {a u : Int} (h : eJ_ q r) (h4 : 0 ≤ r 4) : eJ_ q (rv_ r a u) := eJ_up (eJ_up (eJ_up (eJ_up (eJ_up h (by omega)) (by omega)) (by omega)) (by decide)) (by decide)
theorem eJ_rp {q r : rw_t} {p w : Int} (h : eJ_ q r) (hp : 0 ≤ p ∧ p ≤ 3) : eJ_ q (rp_ r p w) := eJ_up h (by omega)
theorem eJ_re {q r : rw_t} {c : Int} (h : eJ_ q r) : eJ_ q (re_ r c) := by
  refine ⟨?_, fun k k0 k1 => ⟨?_, ?_⟩⟩
  · unfold re_
    rw [if_neg (by omega), if_neg (by omega)]
    exact h.1
  · unfold re_
    rw [if_neg (by omega), if_neg (by omega)]
    exact (h.2 k k0 k1).1
  · unfold re_
    rw [if_neg (by omega), if_neg (by omega)]
    exact (h.2 k k0 k1).2
theorem eJ_ps {B : Int} {q : rw_t} (hT : wf_T B q) (n : Nat) : eJ_ q (ps_ q n) := by
  have h := (ps_wf hT n).2
  have e := (ps_e hT n).1
  refine ⟨?_, fun k k0 k1 => ⟨h _ (by omega) (by omega), h _ (by omega) (by omega)⟩⟩
  exact e 3 (by omega)
/-- a new member joins a new pair -/
theorem uj_ra {q : rw_t} (hW : wf_M q) (hu : uj_ q) {x y s : Int} (ha : adr_ q x y s 0) : uj_ (ra_ q x y s) := by
  have w := hW.1
  obtain ⟨hj, hr, h16, hno⟩ : ((0 ≤ x ∧ x < 8) ∧ 0 ≤ y ∧ y < 8) ∧ (x ≠ y ∧ 1 ≤ s ∧ s ≤ 99) ∧ q 3 < 16 ∧ ∀ k : Int, 0 ≤ k → k < q 3 → ¬ jr_ q k x y := by
    rcases ha with ⟨-, e⟩ | ⟨-, -, e⟩ | ⟨-, -, -, e⟩ | ⟨h1, h2, h3, h4, -⟩
    · exact absurd e (by decide)
    · exact absurd e (by decide)
    · exact absurd e (by decide)
    · exact ⟨h1, h2, h3, h4⟩
  have n3 : ra_ q x y s 3 = q 3 + 1 := by unfold ra_; rw [if_pos rfl]
  have na : ra_ q x y s (16 + 6 * q 3) = min x y := by unfold ra_; rw [if_neg (by omega), if_pos rfl]
  have nb : ra_ q x y s (17 + 6 * q 3) = max x y := by unfold ra_; rw [if_neg (by omega), if_neg (by omega), if_pos rfl]
  have old : ∀ k : Int, 0 ≤ k → k < q 3 → ra_ q x y s (16 + 6 * k) = q (16 + 6 * k) ∧ ra_ q x y s (17 + 6 * k) = q (17 + 6 * k) := fun k k0 k1 => by
    constructor <;> unfold ra_ <;> rw [if_neg (by omega), if_neg (by omega), if_neg (by omega), if_neg (by omega), if_neg (by omega), if_neg (by omega), if_neg (by omega)]
  refine ⟨fun k k0 k1 => ?_, fun k l k0 k1 k2 hh => ?_⟩
  · by_cases e : k = q 3
    · subst e
      rw [na, nb]
      omega
    · rw [(old k k0 (by omega)).1, (old k k0 (by omega)).2]
      exact hu.1 k k0 (by omega)
  · rw [(old k k0 (by omega)).1, (old k k0 (by omega)).2] at hh
    by_cases e : l = q 3
    · subst e
      rw [na, nb] at hh
      exact hno k k0 (by omega) hh
    · rw [(old l (by omega) (by omega)).1, (old l (by omega) (by omega)).2] at hh
      exact hu.2 k l k0 k1 (by omega) hh
