/-! a day: the due vows, one after another -/
def vs_ (p : rw_t × Int) (k : Int) : rw_t × Int := if p.1 (113 + 3 * k) ≤ p.1 0 then (sg_ p.1 (p.1 (114 + 3 * k)), p.2) else (up_ (up_ (up_ p.1 (112 + 3 * p.2) (p.1 (112 + 3 * k))) (113 + 3 * p.2) (p.1 (113 + 3 * k))) (114 + 3 * p.2) (p.1 (114 + 3 * k)), p.2 + 1)
def vf_ (r : rw_t) : Nat → rw_t × Int
  | 0 => (r, 0)
  | n + 1 => vs_ (vf_ r n) n
def vd_ (r : rw_t) : rw_t := up_ (vf_ r (r 4).toNat).1 4 (vf_ r (r 4).toNat).2
def pi_ (r : rw_t) : rw_t := up_ (up_ (up_ r 0 (r 0 + 1)) 1 (r 1 + r 2)) 8 (r 8 + r 2)
def pd_ (r : rw_t) : rw_t := vd_ (pi_ r)
def ps_ (r : rw_t) : Nat → rw_t
  | 0 => r
  | n + 1 => pd_ (ps_ r n)
/-- what holds between two slots: B bounds days and ids -/
def wv_ (B : Int) (r : rw_t) (n : Nat) (p : rw_t × Int) : Prop := (0 ≤ p.2 ∧ p.2 ≤ n) ∧ (p.1 0 = r 0 ∧ p.1 2 = r 2 ∧ p.1 3 = r 3 ∧ p.1 4 = r 4 ∧ p.1 5 = r 5 ∧ p.1 8 = r 8 ∧ p.1 10 = r 10) ∧ (0 ≤ p.1 1 ∧ p.1 1 ≤ r 1) ∧ 0 ≤ p.1 6 ∧ 0 ≤ p.1 7 ∧ p.1 6 + p.1 7 + (r 4 - n) + p.2 = r 5 ∧ 0 ≤ p.1 9 ∧ p.1 1 = 30 + p.1 8 - p.1 9 - p.1 10 ∧
  (∀ k : Int, 0 ≤ k → k < 8 → (0 ≤ p.1 (112 + 3 * k) ∧ p.1 (112 + 3 * k) ≤ B) ∧ (0 ≤ p.1 (113 + 3 * k) ∧ p.1 (113 + 3 * k) ≤ B + 50) ∧ (0 ≤ p.1 (114 + 3 * k) ∧ p.1 (114 + 3 * k) ≤ 99)) ∧
  (∀ k : Int, n ≤ k → k < 8 → p.1 (112 + 3 * k) = r (112 + 3 * k) ∧ p.1 (113 + 3 * k) = r (113 + 3 * k) ∧ p.1 (114 + 3 * k) = r (114 + 3 * k)) ∧
  (∀ k : Int, 0 ≤ k → k < p.2 → (r 0 < p.1 (113 + 3 * k) ∧ p.1 (113 + 3 * k) ≤ r 0 + 50) ∧ p.1 (112 + 3 * k) < r 5 ∧ ∀ l : Int, n ≤ l → l < r 4 → p.1 (112 + 3 * k) < r (112 + 3 * l)) ∧
  (∀ k l : Int, 0 ≤ k → k < l → l < p.2 → p.1 (112 + 3 * k) < p.1 (112 + 3 * l)) ∧ ∀ j : Int, 11 ≤ j → j < 112 → p.1 j = r j
/-- a day has begun: due vows stand on this day at the earliest -/
def wd_ (B : Int) (r : rw_t) : Prop := (0 ≤ r 0 ∧ r 0 ≤ B) ∧ 0 ≤ r 1 ∧ (0 ≤ r 2 ∧ r 2 ≤ 20) ∧ (0 ≤ r 4 ∧ r 4 ≤ 8) ∧ r 5 ≤ B ∧ 0 ≤ r 6 ∧ 0 ≤ r 7 ∧ r 6 + r 7 + r 4 = r 5 ∧ (0 ≤ r 8 ∧ r 8 ≤ 20 * B) ∧ 0 ≤ r 9 ∧ 0 ≤ r 10 ∧ r 1 = 30 + r 8 - r 9 - r 10 ∧
  (∀ k : Int, 0 ≤ k → k < 8 → (0 ≤ r (112 + 3 * k) ∧ r (112 + 3 * k) ≤ B) ∧ (0 ≤ r (113 + 3 * k) ∧ r (113 + 3 * k) ≤ B + 50) ∧ (0 ≤ r (114 + 3 * k) ∧ r (114 + 3 * k) ≤ 99)) ∧
  (∀ k : Int, 0 ≤ k → k < r 4 → (r 0 ≤ r (113 + 3 * k) ∧ r (113 + 3 * k) ≤ r 0 + 50) ∧ r (112 + 3 * k) < r 5) ∧ ∀ k l : Int, 0 ≤ k → k < l → l < r 4 → r (112 + 3 * k) < r (112 + 3 * l)
theorem wv_0 {B : Int} {r : rw_t} (h : wd_ B r) : wv_ B r 0 (vf_ r 0) := by
  obtain ⟨h0, h1, h2, h3, h4, h5, h6, h7, h8, h9, h10, h11, h12, h13, h14⟩ := h
  exact ⟨⟨by simp [vf_], by simp [vf_]⟩, ⟨rfl, rfl, rfl, rfl, rfl, rfl, rfl⟩, ⟨h1, Int.le_refl _⟩, h5, h6, by simp [vf_]; omega, h9, h11, h12, fun k _ _ => ⟨rfl, rfl, rfl⟩, fun k k0 k1 => by simp [vf_] at k1; omega, fun k l k0 k1 k2 => by simp [vf_] at k2; omega, fun j _ _ => rfl⟩
theorem wv_s {B : Int} {r : rw_t} (hd : wd_ B r) {n : Nat} (hn : (n : Int) < r 4) {p : rw_t × Int} (h : wv_ B r n p) : wv_ B r (n + 1) (vs_ p n) := by
  have d8 := hd.2.2.2.1
  obtain ⟨-, -, -, -, -, -, -, -, -, -, -, -, -, d13, d14⟩ := hd
  obtain ⟨a1, ⟨b0, b2, b3, b4, b5, b8, b10⟩, c1, c2, c3, c4, c5, c6, e1, e2, e3, e4, e5⟩ := h
  obtain ⟨x1, x2, x3⟩ := e1 n (by omega) (by omega)
  obtain ⟨y1, y2, y3⟩ := e2 n (by omega) (by omega)
  obtain ⟨z1, z2⟩ := d13 n (by omega) hn
  unfold vs_
  by_cases hc : p.1 (113 + 3 * (n : Int)) ≤ p.1 0
  · rw [if_pos hc]
    unfold sg_
    by_cases hs : p.1 (114 + 3 * (n : Int)) ≤ p.1 1
    · rw [if_pos hs]
      refine ⟨by simp only; omega, ?_, ?_, ?_, ?_, ?_, ?_, ?_, fun k k0 k1 => ?_, fun k k0 k1 => ?_, fun k k0 k1 => ?_, fun k l k0 k1 k2 => ?_, fun j j0 j1 => ?_⟩
      · simp only [up_]; simp; exact ⟨b0, b2, b3, b4, b5, b8, b10⟩
      · simp only [up_]; simp; omega
      · simp only [up_]; simp; omega
      · simp only [up_]; simp; omega
      · simp only [up_]; simp; omega
      · simp only [up_]; simp; omega
      · simp only [up_]; simp; omega
      · have := e1 k k0 k1
        simp only [up_]
        repeat rw [if_neg (by omega)]
        exact this
      · have := e2 k (by omega) k1
        simp only [up_]
        repeat rw [if_neg (by omega)]
        exact this
      · obtain ⟨q1, q2, q3⟩ := e3 k k0 k1
        simp only [up_]
        repeat rw [if_neg (by omega)]
        exact ⟨q1, q2, fun l l0 l1 => q3 l (by omega) l1⟩
      · have := e4 k l k0 k1 k2
        simp only [up_]
        repeat rw [if_neg (by omega)]
        exact this
      · have := e5 j j0 j1
        simp only [up_]
        repeat rw [if_neg (by omega)]
        exact this
    · rw [if_neg hs]
      refine ⟨by simp only; omega, ?_, ?_, ?_, ?_, ?_, ?_, ?_, fun k k0 k1 => ?_, fun k k0 k1 => ?_, fun k k0 k1 => ?_, fun k l k0 k1 k2 => ?_, fun j j0 j1 => ?_⟩
      · simp only [up_]; simp; exact ⟨b0, b2, b3, b4, b5, b8, b10⟩
      · simp only [up_]; simp; omega
      · simp only [up_]; simp; omega
      · simp only [up_]; simp; omega
      · simp only [up_]; simp; omega
      · simp only [up_]; simp; omega
      · simp only [up_]; simp; omega
      · have := e1 k k0 k1
        simp only [up_]
        repeat rw [if_neg (by omega)]
        exact this
      · have := e2 k (by omega) k1
        simp only [up_]
        repeat rw [if_neg (by omega)]
        exact this
      · obtain ⟨q1, q2, q3⟩ := e3 k k0 k1
        simp only [up_]
        repeat rw [if_neg (by omega)]
        exact ⟨q1, q2, fun l l0 l1 => q3 l (by omega) l1⟩
      · have := e4 k l k0 k1 k2
        simp only [up_]
        repeat rw [if_neg (by omega)]
        exact this
      · have := e5 j j0 j1
        simp only [up_]
        repeat rw [if_neg (by omega)]
        exact this
  · rw [if_neg hc]
    have u : ∀ (j : Int), (j ≠ 112 + 3 * p.2 ∧ j ≠ 113 + 3 * p.2 ∧ j ≠ 114 + 3 * p.2) → up_ (up_ (up_ p.1 (112 + 3 * p.2) (p.1 (112 + 3 * (n : Int)))) (113 + 3 * p.2) (p.1 (113 + 3 * (n : Int)))) (114 + 3 * p.2) (p.1 (114 + 3 * (n : Int))) j = p.1 j := fun j hj => by
      unfold up_
      rw [if_neg hj.2.2, if_neg hj.2.1, if_neg hj.1]
    have v : ∀ k : Int, up_ (up_ (up_ p.1 (112 + 3 * p.2) (p.1 (112 + 3 * (n : Int)))) (113 + 3 * p.2) (p.1 (113 + 3 * (n : Int)))) (114 + 3 * p.2) (p.1 (114 + 3 * (n : Int))) (112 + 3 * k) = (if k = p.2 then p.1 (112 + 3 * (n : Int)) else p.1 (112 + 3 * k)) ∧ up_ (up_ (up_ p.1 (112 + 3 * p.2) (p.1 (112 + 3 * (n : Int)))) (113 + 3 * p.2) (p.1 (113 + 3 * (n : Int)))) (114 + 3 * p.2) (p.1 (114 + 3 * (n : Int))) (113 + 3 * k) = (if k = p.2 then p.1 (113 + 3 * (n : Int)) else p.1 (113 + 3 * k)) ∧ up_ (up_ (up_ p.1 (112 + 3 * p.2) (p.1 (112 + 3 * (n : Int)))) (113 + 3 * p.2) (p.1 (113 + 3 * (n : Int)))) (114 + 3 * p.2) (p.1 (114 + 3 * (n : Int))) (114 + 3 * k) = (if k = p.2 then p.1 (114 + 3 * (n : Int)) else p.1 (114 + 3 * k)) := fun k => by
      unfold up_
      refine ⟨?_, ?_, ?_⟩ <;> (repeat' split) <;> first | rfl | omega | (exfalso; omega)
    refine ⟨by simp only; omega, ?_, ?_, ?_, ?_, ?_, ?_, ?_, fun k k0 k1 => ?_, fun k k0 k1 => ?_, fun k k0 k1 => ?_, fun k l k0 k1 k2 => ?_, fun j j0 j1 => ?_⟩
    · simp only
      rw [u 0 (by omega), u 2 (by omega), u 3 (by omega), u 4 (by omega), u 5 (by omega), u 8 (by omega), u 10 (by omega)]
      exact ⟨b0, b2, b3, b4, b5, b8, b10⟩
    · simp only; rw [u 1 (by omega)]; exact c1
    · simp only; rw [u 6 (by omega)]; exact c2
    · simp only; rw [u 7 (by omega)]; exact c3
    · simp only; rw [u 6 (by omega), u 7 (by omega)]; omega
    · simp only; rw [u 9 (by omega)]; exact c5
    · simp only; rw [u 1 (by omega), u 8 (by omega), u 9 (by omega), u 10 (by omega)]; exact c6
    · obtain ⟨v1, v2, v3⟩ := v k
      simp only
      rw [v1, v2, v3]
      have := e1 k k0 k1
      by_cases hk : k = p.2
      · rw [if_pos hk, if_pos hk, if_pos hk]; exact ⟨x1, x2, x3⟩
      · rw [if_neg hk, if_neg hk, if_neg hk]; exact this
    · obtain ⟨v1, v2, v3⟩ := v k
      simp only
      rw [v1, v2, v3, if_neg (by omega), if_neg (by omega), if_neg (by omega)]
      exact e2 k (by omega) k1
    · obtain ⟨v1, v2, v3⟩ := v k
      simp only at k1
      simp only
      rw [v1, v2]
      by_cases hk : k = p.2
      · rw [if_pos hk, if_pos hk, y1, y2]
        rw [y2, b0] at hc
        exact ⟨by omega, z2, fun l l0 l1 => d14 n l (by omega) (by omega) l1⟩
      · rw [if_neg hk, if_neg hk]
        obtain ⟨q1, q2, q3⟩ := e3 k k0 (by omega)
        exact ⟨q1, q2, fun l l0 l1 => q3 l (by omega) l1⟩
    · simp only at k2
      simp only
      rw [(v k).1, (v l).1]
      by_cases hl : l = p.2
      · rw [if_pos hl, if_neg (by omega), y1]
        exact (e3 k k0 (by omega)).2.2 n (by omega) hn
      · rw [if_neg hl, if_neg (by omega)]
        exact e4 k l k0 k1 (by omega)
    · simp only
      rw [u j (by omega)]
      exact e5 j j0 j1
theorem wv_n {B : Int} {r : rw_t} (hd : wd_ B r) : ∀ n : Nat, (n : Int) ≤ r 4 → wv_ B r n (vf_ r n)
  | 0, _ => wv_0 hd
  | n + 1, h => wv_s hd (by omega) (wv_n hd n (by omega))
theorem pi_wd {B : Int} {r : rw_t} (h : wf_T B r) : wd_ (B + 1) (pi_ r) := by
  obtain ⟨h0, h1, h2, h3, h4, h5, h6, h7, h8, h9, h10, h11, h12, h13, h14⟩ := h
  have u : ∀ j : Int, j ≠ 0 → j ≠ 1 → j ≠ 8 → pi_ r j = r j := fun j a b c => by unfold pi_ up_; rw [if_neg c, if_neg b, if_neg a]
  have u0 : pi_ r 0 = r 0 + 1 := by simp [pi_, up_]
  have u1 : pi_ r 1 = r 1 + r 2 := by simp [pi_, up_]
  have u8 : pi_ r 8 = r 8 + r 2 := by simp [pi_, up_]
  unfold wd_
  rw [u0, u1, u8, u 2 (by decide) (by decide) (by decide), u 4 (by decide) (by decide) (by decide), u 5 (by decide) (by decide) (by decide), u 6 (by decide) (by decide) (by decide), u 7 (by decide) (by decide) (by decide), u 9 (by decide) (by decide) (by decide), u 10 (by decide) (by decide) (by decide)]
  refine ⟨by omega, by omega, h2, h3, by omega, h5, h6, h7, by omega, h9, h10, by omega, fun k k0 k1 => ?_, fun k k0 k1 => ?_, fun k l k0 k1 k2 => ?_⟩
  · rw [u _ (by omega) (by omega) (by omega), u _ (by omega) (by omega) (by omega), u _ (by omega) (by omega) (by omega)]
    have := h12 k k0 k1
    omega
  · rw [u _ (by omega) (by omega) (by omega), u _ (by omega) (by omega) (by omega)]
    have := h13 k k0 k1
    omega
  · rw [u _ (by omega) (by omega) (by omega), u _ (by omega) (by omega) (by omega)]
    exact h14 k l k0 k1 k2
theorem vd_wf {B : Int} {r : rw_t} (hd : wd_ B r) : wf_T B (vd_ r) ∧ ∀ j : Int, 11 ≤ j → j < 112 → vd_ r j = r j := by
  obtain ⟨d0, d1, d2, d3, d4, d5, d6, d7, d8, d9, d10, d11, d12, d13, d14⟩ := id hd
  have e4 : ((r 4).toNat : Int) = r 4 := Int.toNat_of_nonneg d3.1
  obtain ⟨a1, ⟨b0, b2, b3, b4, b5, b8, b10⟩, c1, c2, c3, c4, c5, c6, f1, f2, f3, f4, f5⟩ := wv_n hd (r 4).toNat (by omega)
  have u : ∀ j : Int, j ≠ 4 → vd_ r j = (vf_ r (r 4).toNat).1 j := fun j hj => by unfold vd_ up_; rw [if_neg hj]
  have u4 : vd_ r 4 = (vf_ r (r 4).toNat).2 := by simp [vd_, up_]
  refine ⟨?_, fun j j0 j1 => by rw [u j (by omega)]; exact f5 j j0 j1⟩
  unfold wf_T
  rw [u4, u 0 (by decide), u 1 (by decide), u 2 (by decide), u 5 (by decide), u 6 (by decide), u 7 (by decide), u 8 (by decide), u 9 (by decide), u 10 (by decide)]
  refine ⟨by omega, by omega, by omega, by omega, by omega, c2, c3, by omega, by omega, c5, by omega, c6, fun k k0 k1 => ?_, fun k k0 k1 => ?_, fun k l k0 k1 k2 => ?_⟩
  · rw [u _ (by omega), u _ (by omega), u _ (by omega)]
    exact f1 k k0 k1
  · rw [u _ (by omega), u _ (by omega), b0, b5]
    obtain ⟨q1, q2, -⟩ := f3 k k0 k1
    exact ⟨q1, q2⟩
  · rw [u _ (by omega), u _ (by omega)]
    exact f4 k l k0 k1 k2
theorem pd_wf {B : Int} {r : rw_t} (h : wf_T B r) : wf_T (B + 1) (pd_ r) ∧ ∀ j : Int, 11 ≤ j → j < 112 → pd_ r j = r j := by
  obtain ⟨h1, h2⟩ := vd_wf (pi_wd h)
  refine ⟨h1, fun j j0 j1 => ?_⟩
  unfold pd_
  rw [h2 j j0 j1]
  unfold pi_ up_
  rw [if_neg (by omega), if_neg (by omega), if_neg (by omega)]
theorem ps_wf {B : Int} {r : rw_t} (h : wf_T B r) : ∀ n : Nat, wf_T (B + n) (ps_ r n) ∧ ∀ j : Int, 11 ≤ j → j < 112 → ps_ r n j = r j
  | 0 => ⟨by rw [show B + ((0 : Nat) : Int) = B by omega]; exact h, fun _ _ _ => rfl⟩
  | n + 1 => by
    obtain ⟨h1, h2⟩ := ps_wf h n
    obtain ⟨h3, h4⟩ := pd_wf h1
    refine ⟨?_, fun j j0 j1 => (h4 j j0 j1).trans (h2 j j0 j1)⟩
    have e : B + (n : Int) + 1 = B + ((n + 1 : Nat) : Int) := by omega
    rw [← e]
    exact h3
