/-! vows: what days do, what is left -/
theorem vxf1_ {B M : Int} {q : rw_t} (hd : wd_ B q) (hM : ∀ k : Int, 0 ≤ k → k < q 4 → q (113 + 3 * k) ≤ M) : ∀ n : Nat, (n : Int) ≤ q 4 → (sm_ (am_ q (q 0)) n ≤ q 1 → (vf_ q n).1 7 = q 7 ∧ (vf_ q n).1 1 = q 1 - sm_ (am_ q (q 0)) n) ∧ (q 1 < sm_ (am_ q (q 0)) n → q 7 < (vf_ q n).1 7) ∧ (∀ k : Int, 0 ≤ k → k < (vf_ q n).2 → (vf_ q n).1 (113 + 3 * k) ≤ M) ∧ ∀ d : Int, q 0 ≤ d → sm_ (am_ (vf_ q n).1 d) (vf_ q n).2.toNat = sm_ (am_ q d) n - sm_ (am_ q (q 0)) n
  | 0, _ => by
    have h1 : 0 ≤ q 1 := hd.2.1
    refine ⟨fun _ => ⟨rfl, ?_⟩, fun h => ?_, fun k k0 k1 => ?_, fun d _ => ?_⟩
    · show q 1 = q 1 - 0
      omega
    · have h : q 1 < 0 := h
      omega
    · have k1 : k < 0 := k1
      omega
    · show (0 : Int) = 0 - 0
      rfl
  | n + 1, hn => by
    obtain ⟨i1, i2, i3, i4⟩ := vxf1_ hd hM n (by omega)
    have d8 := hd.2.2.2.1
    have w := wv_n hd n (by omega)
    have e : vf_ q (n + 1) = vs_ (vf_ q n) n := rfl
    rw [e]
    generalize vf_ q n = p at i1 i2 i3 i4 w
    obtain ⟨a1, ⟨b0, -⟩, -, -, -, -, -, -, e1, e2, -⟩ := w
    obtain ⟨x1, x2, x3⟩ := e1 n (by omega) (by omega)
    obtain ⟨y1, y2, y3⟩ := e2 n (by omega) (by omega)
    have sA : sm_ (am_ q (q 0)) (n + 1) = sm_ (am_ q (q 0)) n + am_ q (q 0) n := rfl
    have sD : ∀ d : Int, sm_ (am_ q d) (n + 1) = sm_ (am_ q d) n + am_ q d n := fun _ => rfl
    rw [sA]
    generalize sm_ (am_ q (q 0)) n = S at i1 i2 i4
    unfold vs_
    by_cases hc : p.1 (113 + 3 * (n : Int)) ≤ p.1 0
    · rw [if_pos hc]
      have hc2 : q (113 + 3 * (n : Int)) ≤ q 0 := by rw [← y2, ← b0]; exact hc
      have hA : am_ q (q 0) n = p.1 (114 + 3 * (n : Int)) := by
        rw [y3]
        exact if_pos hc2
      have hD : ∀ d : Int, q 0 ≤ d → am_ q d n = p.1 (114 + 3 * (n : Int)) := fun d hd => by
        rw [y3]
        exact if_pos (by omega)
      rw [hA]
      have sam : ∀ (t : rw_t) (d : Int), (∀ j : Int, 112 ≤ j → t j = p.1 j) → sm_ (am_ t d) p.2.toNat = sm_ (am_ p.1 d) p.2.toNat := fun t d ht => sm_eq (fun k k0 _ => by
        show (if t (113 + 3 * k) ≤ d then t (114 + 3 * k) else 0) = (if p.1 (113 + 3 * k) ≤ d then p.1 (114 + 3 * k) else 0)
        rw [ht _ (by omega), ht _ (by omega)])
      unfold sg_
      by_cases hs : p.1 (114 + 3 * (n : Int)) ≤ p.1 1
      · rw [if_pos hs]
        have u : ∀ j : Int, j ≠ 1 → j ≠ 9 → j ≠ 6 → up_ (up_ (up_ p.1 1 (p.1 1 - p.1 (114 + 3 * (n : Int)))) 9 (p.1 9 + p.1 (114 + 3 * (n : Int)))) 6 (p.1 6 + 1) j = p.1 j := fun j a b c => by
          unfold up_
          rw [if_neg c, if_neg b, if_neg a]
        have u1 : up_ (up_ (up_ p.1 1 (p.1 1 - p.1 (114 + 3 * (n : Int)))) 9 (p.1 9 + p.1 (114 + 3 * (n : Int)))) 6 (p.1 6 + 1) 1 = p.1 1 - p.1 (114 + 3 * (n : Int)) := by
          unfold up_
          rw [if_neg (by decide), if_neg (by decide), if_pos rfl]
        dsimp only
        rw [u1, u 7 (by decide) (by decide) (by decide)]
        refine ⟨fun h => ?_, fun h => ?_, fun k k0 k1 => ?_, fun d hd => ?_⟩
        · have := i1 (by omega)
          omega
        · by_cases c : S ≤ q 1
          · have := i1 c
            omega
          · exact i2 (by omega)
        · rw [u _ (by omega) (by omega) (by omega)]
          exact i3 k k0 k1
        · rw [sam _ d (fun j hj => u j (by omega) (by omega) (by omega)), sD, hD d hd, i4 d hd]
          omega
      · rw [if_neg hs]
        have u : ∀ j : Int, j ≠ 7 → up_ p.1 7 (p.1 7 + 1) j = p.1 j := fun j a => by
          unfold up_
          rw [if_neg a]
        have u7 : up_ p.1 7 (p.1 7 + 1) 7 = p.1 7 + 1 := by
          unfold up_
          rw [if_pos rfl]
        dsimp only
        rw [u7, u 1 (by decide)]
        refine ⟨fun h => ?_, fun h => ?_, fun k k0 k1 => ?_, fun d hd => ?_⟩
        · have := i1 (by omega)
          omega
        · by_cases c : S ≤ q 1
          · have := i1 c
            omega
          · have := i2 (by omega)
            omega
        · rw [u _ (by omega)]
          exact i3 k k0 k1
        · rw [sam _ d (fun j hj => u j (by omega)), sD, hD d hd, i4 d hd]
          omega
    · rw [if_neg hc]
      have hc2 : ¬ q (113 + 3 * (n : Int)) ≤ q 0 := by rw [← y2, ← b0]; exact hc
      have hA : am_ q (q 0) n = 0 := if_neg hc2
      rw [hA]
      have u : ∀ (j : Int), (j ≠ 112 + 3 * p.2 ∧ j ≠ 113 + 3 * p.2 ∧ j ≠ 114 + 3 * p.2) → up_ (up_ (up_ p.1 (112 + 3 * p.2) (p.1 (112 + 3 * (n : Int)))) (113 + 3 * p.2) (p.1 (113 + 3 * (n : Int)))) (114 + 3 * p.2) (p.1 (114 + 3 * (n : Int))) j = p.1 j := fun j hj => by
        unfold up_
        rw [if_neg hj.2.2, if_neg hj.2.1, if_neg hj.1]
      have v2 : up_ (up_ (up_ p.1 (112 + 3 * p.2) (p.1 (112 + 3 * (n : Int)))) (113 + 3 * p.2) (p.1 (113 + 3 * (n : Int)))) (114 + 3 * p.2) (p.1 (114 + 3 * (n : Int))) (113 + 3 * p.2) = q (113 + 3 * (n : Int)) := by
        unfold up_
        rw [if_neg (by omega), if_pos rfl, y2]
      have v3 : up_ (up_ (up_ p.1 (112 + 3 * p.2) (p.1 (112 + 3 * (n : Int)))) (113 + 3 * p.2) (p.1 (113 + 3 * (n : Int)))) (114 + 3 * p.2) (p.1 (114 + 3 * (n : Int))) (114 + 3 * p.2) = q (114 + 3 * (n : Int)) := by
        unfold up_
        rw [if_pos rfl, y3]
      dsimp only
      generalize up_ (up_ (up_ p.1 (112 + 3 * p.2) (p.1 (112 + 3 * (n : Int)))) (113 + 3 * p.2) (p.1 (113 + 3 * (n : Int)))) (114 + 3 * p.2) (p.1 (114 + 3 * (n : Int))) = t at u v2 v3
      rw [u 7 (by omega), u 1 (by omega)]
      refine ⟨fun h => ?_, fun h => i2 (by omega), fun k k0 k1 => ?_, fun d hd => ?_⟩
      · have := i1 (by omega)
        omega
      · by_cases hk : k = p.2
        · rw [hk, v2]
          exact hM n (by omega) (by omega)
        · rw [u _ (by omega)]
          exact i3 k k0 (by omega)
      · rw [sm_s a1.1, sD]
        have s1 : sm_ (am_ t d) p.2.toNat = sm_ (am_ p.1 d) p.2.toNat := sm_eq (fun k k0 k1 => by
          show (if t (113 + 3 * k) ≤ d then t (114 + 3 * k) else 0) = (if p.1 (113 + 3 * k) ≤ d then p.1 (114 + 3 * k) else 0)
          rw [u _ (by omega), u _ (by omega)])
        have s2 : am_ t d p.2 = am_ q d n := by
          show (if t (113 + 3 * p.2) ≤ d then t (114 + 3 * p.2) else 0) = (if q (113 + 3 * (n : Int)) ≤ d then q (114 + 3 * (n : Int)) else 0)
          rw [v2, v3]
        rw [s1, s2, i4 d hd]
        omega
theorem sp_e (r : rw_t) (d : Int) : sp_ r d = r 1 + r 2 * (d - r 0) - sm_ (am_ r d) (r 4).toNat := rfl
/-- one day -/
theorem vxd1_ {B M : Int} {r : rw_t} (h : wf_T B r) (hM : ∀ k : Int, 0 ≤ k → k < r 4 → r (113 + 3 * k) ≤ M) : (pd_ r 0 = r 0 + 1 ∧ pd_ r 5 = r 5) ∧ (0 ≤ sp_ r (r 0 + 1) → pd_ r 7 = r 7 ∧ ∀ d : Int, r 0 + 1 ≤ d → sp_ (pd_ r) d = sp_ r d) ∧ (sp_ r (r 0 + 1) < 0 → r 7 < pd_ r 7) ∧ r 7 ≤ pd_ r 7 ∧ ∀ k : Int, 0 ≤ k → k < pd_ r 4 → pd_ r (113 + 3 * k) ≤ M := by
  have w4 : 0 ≤ r 4 ∧ r 4 ≤ 8 := h.2.2.2.1
  have hd := pi_wd h
  have u : ∀ j : Int, j ≠ 0 → j ≠ 1 → j ≠ 8 → pi_ r j = r j := fun j a b c => by unfold pi_ up_; rw [if_neg c, if_neg b, if_neg a]
  have u0 : pi_ r 0 = r 0 + 1 := by simp [pi_, up_]
  have u1 : pi_ r 1 = r 1 + r 2 := by simp [pi_, up_]
  have u4 := u 4 (by decide) (by decide) (by decide)
  have u7 := u 7 (by decide) (by decide) (by decide)
  have u2 := u 2 (by decide) (by decide) (by decide)
  have u5 := u 5 (by decide) (by decide) (by decide)
  have f := vxf1_ (M := M) hd (fun k k0 k1 => by
    rw [u _ (by omega) (by omega) (by omega)]
    exact hM k k0 (by omega)) (r 4).toNat (by omega)
  have w := wv_n hd (r 4).toNat (by omega)
  have sq : ∀ d : Int, sm_ (am_ (pi_ r) d) (r 4).toNat = sm_ (am_ r d) (r 4).toNat := fun d => sm_eq (fun k k0 _ => by
    show (if pi_ r (113 + 3 * k) ≤ d then pi_ r (114 + 3 * k) else 0) = (if r (113 + 3 * k) ≤ d then r (114 + 3 * k) else 0)
    rw [u _ (by omega) (by omega) (by omega), u _ (by omega) (by omega) (by omega)])
  have v : ∀ j : Int, j ≠ 4 → pd_ r j = (vf_ (pi_ r) (r 4).toNat).1 j := fun j hj => by
    show up_ (vf_ (pi_ r) (pi_ r 4).toNat).1 4 (vf_ (pi_ r) (pi_ r 4).toNat).2 j = _
    unfold up_
    rw [if_neg hj, u4]
  have v4 : pd_ r 4 = (vf_ (pi_ r) (r 4).toNat).2 := by
    show up_ (vf_ (pi_ r) (pi_ r 4).toNat).1 4 (vf_ (pi_ r) (pi_ r 4).toNat).2 4 = _
    unfold up_
    rw [if_pos rfl, u4]
  have v9 : ∀ d : Int, sm_ (am_ (pd_ r) d) (pd_ r 4).toNat = sm_ (am_ (vf_ (pi_ r) (r 4).toNat).1 d) (vf_ (pi_ r) (r 4).toNat).2.toNat := fun d => by
    rw [v4]
    exact sm_eq (fun k k0 _ => by
      show (if pd_ r (113 + 3 * k) ≤ d then pd_ r (114 + 3 * k) else 0) = (if (vf_ (pi_ r) (r 4).toNat).1 (113 + 3 * k) ≤ d then (vf_ (pi_ r) (r 4).toNat).1 (114 + 3 * k) else 0)
      rw [v _ (by omega), v _ (by omega)])
  have v0 := v 0 (by decide)
  have v1 := v 1 (by decide)
  have v2 := v 2 (by decide)
  have v5 := v 5 (by decide)
  have v7 := v 7 (by decide)
  have v13 : ∀ k : Int, 0 ≤ k → pd_ r (113 + 3 * k) = (vf_ (pi_ r) (r 4).toNat).1 (113 + 3 * k) := fun k k0 => v _ (by omega)
  have e1 : sp_ r (r 0 + 1) = r 1 + r 2 - sm_ (am_ r (r 0 + 1)) (r 4).toNat := by
    rw [sp_e, show r 0 + 1 - r 0 = 1 by omega, Int.mul_one]
  have s0 := sq (pi_ r 0)
  have s1 : ∀ d : Int, sp_ (pd_ r) d = pd_ r 1 + pd_ r 2 * (d - pd_ r 0) - sm_ (am_ (vf_ (pi_ r) (r 4).toNat).1 d) (vf_ (pi_ r) (r 4).toNat).2.toNat := fun d => by rw [sp_e, v9]
  rw [s0] at f
  rw [u0] at s0 f
  rw [u1, u7] at f
  generalize vf_ (pi_ r) (r 4).toNat = p at *
  obtain ⟨i1, i2, i3, i4⟩ := f
  obtain ⟨a1, ⟨b0, b2, b3, b4, b5, b8, b10⟩, -⟩ := w
  rw [u0] at b0
  have hge : r 7 ≤ pd_ r 7 := by
    by_cases c : sm_ (am_ r (r 0 + 1)) (r 4).toNat ≤ r 1 + r 2
    · have := i1 c
      omega
    · have := i2 (by omega)
      omega
  refine ⟨⟨by omega, by omega⟩, fun h0 => ?_, fun h0 => ?_, hge, fun k k0 k1 => ?_⟩
  · have q := i1 (by omega)
    refine ⟨by omega, fun d hd0 => ?_⟩
    rw [s1, i4 d hd0, sq, sp_e, v1, v2, b2, u2, q.2, v0, b0, show d - (r 0 + 1) = (d - r 0) - 1 by omega, Int.mul_sub, Int.mul_one]
    omega
  · have q := i2 (by omega)
    omega
  · rw [v13 k k0]
    exact i3 k k0 (by omega)
/-- some days -/
theorem vxn1_ {B : Int} {r : rw_t} (h : wf_T B r) : ∀ n : Nat, (ps_ r n 0 = r 0 + n ∧ ps_ r n 5 = r 5) ∧ (∀ k : Int, 0 ≤ k → k < ps_ r n 4 → ps_ r n (113 + 3 * k) ≤ r 0 + 50) ∧ (((∀ a : Int, 1 ≤ a → a ≤ n → 0 ≤ sp_ r (r 0 + a)) ∧ ps_ r n 7 = r 7 ∧ ∀ d : Int, r 0 + n ≤ d → sp_ (ps_ r n) d = sp_ r d) ∨ ((∃ a : Int, 1 ≤ a ∧ a ≤ n ∧ sp_ r (r 0 + a) < 0) ∧ r 7 < ps_ r n 7))
  | 0 => by
    refine ⟨⟨?_, rfl⟩, fun k k0 k1 => ?_, .inl ⟨fun a a0 a1 => by omega, rfl, fun d _ => rfl⟩⟩
    · show r 0 = r 0 + ((0 : Nat) : Int)
      omega
    · have k1 : k < r 4 := k1
      exact (h.2.2.2.2.2.2.2.2.2.2.2.2.2.1 k k0 k1).1.2
  | n + 1 => by
    obtain ⟨⟨i1, i2⟩, i3, i4⟩ := vxn1_ h n
    obtain ⟨⟨j1, j2⟩, j3, j4, j5, j6⟩ := vxd1_ (ps_wf h n).1 i3
    have e : ps_ r (n + 1) = pd_ (ps_ r n) := rfl
    rw [e]
    generalize ps_ r n = q at *
    refine ⟨⟨by omega, by omega⟩, j6, ?_⟩
    rcases i4 with ⟨c1, c2, c3⟩ | ⟨⟨a, a0, a1, a2⟩, c2⟩
    · have e1 := c3 (q 0 + 1) (by omega)
      by_cases c : 0 ≤ sp_ r (r 0 + ((n + 1 : Nat) : Int))
      · rw [show r 0 + ((n + 1 : Nat) : Int) = q 0 + 1 by omega, ← e1] at c
        obtain ⟨k1, k2⟩ := j3 c
        refine .inl ⟨fun a a0 a1 => ?_, by omega, fun d hd => ?_⟩
        · by_cases ea : a = ((n + 1 : Nat) : Int)
          · rw [ea, show r 0 + ((n + 1 : Nat) : Int) = q 0 + 1 by omega, ← e1]
            exact c
          · exact c1 a a0 (by omega)
        · rw [k2 d (by omega), c3 d (by omega)]
      · refine .inr ⟨⟨((n + 1 : Nat) : Int), by omega, by omega, by omega⟩, ?_⟩
        rw [show r 0 + ((n + 1 : Nat) : Int) = q 0 + 1 by omega, ← e1] at c
        have := j4 (by omega)
        omega
    · exact .inr ⟨⟨a, a0, by omega, a2⟩, by omega⟩
/-- fifty days: nothing waits any more -/
theorem vxn50_ {B : Int} {r : rw_t} (h : wf_T B r) : ps_ r 50 6 + ps_ r 50 7 = r 6 + r 7 + r 4 ∧ (((∀ a : Int, 1 ≤ a → a ≤ 50 → 0 ≤ sp_ r (r 0 + a)) ∧ ps_ r 50 7 = r 7) ∨ ((∃ a : Int, 1 ≤ a ∧ a ≤ 50 ∧ sp_ r (r 0 + a) < 0) ∧ r 7 < ps_ r 50 7)) := by
  obtain ⟨⟨i1, i2⟩, i3, i4⟩ := vxn1_ h 50
  have w := (ps_wf h 50).1
  have w4 : 0 ≤ ps_ r 50 4 := w.2.2.2.1.1
  have e5 : ps_ r 50 6 + ps_ r 50 7 + ps_ r 50 4 = ps_ r 50 5 := w.2.2.2.2.2.2.2.1
  have e5' : r 6 + r 7 + r 4 = r 5 := h.2.2.2.2.2.2.2.1
  have e4 : ps_ r 50 4 = 0 := by
    rcases Int.lt_or_le 0 (ps_ r 50 4) with c | c
    · have h1 := i3 0 (by decide) c
      have h2 := (w.2.2.2.2.2.2.2.2.2.2.2.2.2.1 0 (by decide) c).1.1
      omega
    · omega
  refine ⟨by omega, ?_⟩
  rcases i4 with ⟨c1, c2, -⟩ | ⟨c1, c2⟩
  · exact .inl ⟨fun a a0 a1 => c1 a a0 (by omega), c2⟩
  · obtain ⟨a, a0, a1, a2⟩ := c1
    exact .inr ⟨⟨a, a0, by omega, a2⟩, c2⟩
theorem ps_add (r : rw_t) (n : Nat) : ∀ m : Nat, ps_ (ps_ r n) m = ps_ r (n + m)
  | 0 => rfl
  | m + 1 => by
    show pd_ (ps_ (ps_ r n) m) = pd_ (ps_ r (n + m))
    rw [ps_add r n m]
/-- between the due days no less is left -/
theorem ve_ {r : rw_t} {a x : Int} (h2 : 0 ≤ r 2) (h0 : x ≤ sp_ r a) (hk : ∀ k : Int, 0 ≤ k → k < r 4 → a < r (113 + 3 * k) → x ≤ sp_ r (r (113 + 3 * k))) : ∀ n : Nat, x ≤ sp_ r (a + n)
  | 0 => by
    rw [show a + ((0 : Nat) : Int) = a by omega]
    exact h0
  | n + 1 => by
    have ih := ve_ h2 h0 hk n
    by_cases c : ∃ k : Int, 0 ≤ k ∧ k < r 4 ∧ r (113 + 3 * k) = a + ((n + 1 : Nat) : Int)
    · obtain ⟨k, k0, k1, k2⟩ := c
      rw [← k2]
      exact hk k k0 k1 (by omega)
    · have e : sm_ (am_ r (a + ((n + 1 : Nat) : Int))) (r 4).toNat = sm_ (am_ r (a + (n : Int))) (r 4).toNat := by
        have e1 : a + ((n + 1 : Nat) : Int) = a + (n : Int) + 1 := by omega
        have z : sm_ (an_ r (a + (n : Int) + 1)) (r 4).toNat = 0 := sm_0 (fun k k0 k1 => if_neg (fun q => c ⟨k, k0, by omega, by rw [q]; omega⟩))
        rw [e1, am_s, z]
        omega
      rw [sp_e, e, show a + ((n + 1 : Nat) : Int) - r 0 = (a + (n : Int) - r 0) + 1 by omega, Int.mul_add, Int.mul_one]
      rw [sp_e] at ih
      omega
theorem vq_by {B : Int} {r : rw_t} (h : wf_T B r) : (∀ k : Int, 0 ≤ k → k < r 4 → 0 ≤ sp_ r (r (113 + 3 * k))) ↔ ∀ a : Int, 1 ≤ a → a ≤ 50 → 0 ≤ sp_ r (r 0 + a) := by
  have w13 := h.2.2.2.2.2.2.2.2.2.2.2.2.2.1
  constructor
  · intro hk a a0 a1
    have z : sm_ (am_ r (r 0)) (r 4).toNat = 0 := sm_0 (fun k k0 k1 => if_neg (by have := (w13 k k0 (by omega)).1.1; omega))
    have h1 : 0 ≤ r 1 := h.2.1
    have s0 : 0 ≤ sp_ r (r 0) := by
      rw [sp_e, z, show r 0 - r 0 = 0 by omega, Int.mul_zero]
      omega
    have := ve_ h.2.2.1.1 s0 (fun k k0 k1 _ => hk k k0 k1) a.toNat
    rw [Int.toNat_of_nonneg (by omega)] at this
    exact this
  · intro ha k k0 k1
    have := ha (r (113 + 3 * k) - r 0) (by have := (w13 k k0 k1).1; omega) (by have := (w13 k k0 k1).1; omega)
    rw [show r 0 + (r (113 + 3 * k) - r 0) = r (113 + 3 * k) by omega] at this
    exact this
/-- one more vow -/
theorem sp_rv {r : rw_t} (h4 : 0 ≤ r 4) (a u d : Int) : sp_ (rv_ r a u) d = sp_ r d - (if a ≤ d then u else 0) := by
  have v : ∀ j : Int, j ≠ 112 + 3 * r 4 → j ≠ 113 + 3 * r 4 → j ≠ 114 + 3 * r 4 → j ≠ 4 → j ≠ 5 → rv_ r a u j = r j := fun j c1 c2 c3 c4 c5 => by
    unfold rv_ up_
    rw [if_neg c5, if_neg c4, if_neg c3, if_neg c2, if_neg c1]
  have v4 : rv_ r a u 4 = r 4 + 1 := by
    unfold rv_ up_
    rw [if_neg (by decide), if_pos rfl]
  have v13 : rv_ r a u (113 + 3 * r 4) = a := by
    unfold rv_ up_
    rw [if_neg (by omega), if_neg (by omega), if_neg (by omega), if_pos rfl]
  have v14 : rv_ r a u (114 + 3 * r 4) = u := by
    unfold rv_ up_
    rw [if_neg (by omega), if_neg (by omega), if_pos rfl]
  have s1 : sm_ (am_ (rv_ r a u) d) (r 4).toNat = sm_ (am_ r d) (r 4).toNat := sm_eq (fun k k0 k1 => by
    show (if rv_ r a u (113 + 3 * k) ≤ d then rv_ r a u (114 + 3 * k) else 0) = (if r (113 + 3 * k) ≤ d then r (114 + 3 * k) else 0)
    rw [v _ (by omega) (by omega) (by omega) (by omega) (by omega), v _ (by omega) (by omega) (by omega) (by omega) (by omega)])
  have s2 : am_ (rv_ r a u) d (r 4) = if a ≤ d then u else 0 := by
    show (if rv_ r a u (113 + 3 * r 4) ≤ d then rv_ r a u (114 + 3 * r 4) else 0) = _
    rw [v13, v14]
  rw [sp_e, v4, sm_s h4, s1, s2, v 1 (by omega) (by omega) (by omega) (by decide) (by decide), v 2 (by omega) (by omega) (by omega) (by decide) (by decide), v 0 (by omega) (by omega) (by omega) (by decide) (by decide), sp_e]
  omega
/-- the greatest further vow is kept beside the others, a greater one isn't -/
theorem vq_gr {B : Int} {r : rw_t} (h : wf_T B r) {a x : Int} (ha : r 0 < a ∧ a ≤ r 0 + 50) (hc : ∀ b : Int, 1 ≤ b → b ≤ 50 → 0 ≤ sp_ r (r 0 + b)) (q1 : x ≤ sp_ r a) (q2 : ∀ k : Int, 0 ≤ k → k < r 4 → a < r (113 + 3 * k) → x ≤ sp_ r (r (113 + 3 * k))) (q3 : x = sp_ r a ∨ ∃ k : Int, 0 ≤ k ∧ k < r 4 ∧ a < r (113 + 3 * k) ∧ x = sp_ r (r (113 + 3 * k))) : 0 ≤ x ∧ (∀ b : Int, 1 ≤ b → b ≤ 50 → 0 ≤ sp_ (rv_ r a x) (r 0 + b)) ∧ ∃ b : Int, 1 ≤ b ∧ b ≤ 50 ∧ sp_ (rv_ r a (x + 1)) (r 0 + b) < 0 := by
  have w4 : 0 ≤ r 4 := h.2.2.2.1.1
  have w13 := h.2.2.2.2.2.2.2.2.2.2.2.2.2.1
  have sa : 0 ≤ sp_ r a := by
    have := hc (a - r 0) (by omega) (by omega)
    rw [show r 0 + (a - r 0) = a by omega] at this
    exact this
  refine ⟨?_, fun b b0 b1 => ?_, ?_⟩
  · rcases q3 with e | ⟨k, k0, k1, k2, e⟩
    · omega
    · rw [e]
      exact (vq_by h).mpr hc k k0 k1
  · rw [sp_rv w4]
    by_cases c : a ≤ r 0 + b
    · rw [if_pos c]
      have := ve_ h.2.2.1.1 q1 q2 (r 0 + b - a).toNat
      rw [Int.toNat_of_nonneg (by omega), show a + (r 0 + b - a) = r 0 + b by omega] at this
      omega
    · rw [if_neg c]
      have := hc b b0 b1
      omega
  · rcases q3 with e | ⟨k, k0, k1, k2, e⟩
    · refine ⟨a - r 0, by omega, by omega, ?_⟩
      rw [sp_rv w4, show r 0 + (a - r 0) = a by omega, if_pos (Int.le_refl _)]
      omega
    · have := (w13 k k0 k1).1
      refine ⟨r (113 + 3 * k) - r 0, by omega, by omega, ?_⟩
      rw [sp_rv w4, show r 0 + (r (113 + 3 * k) - r 0) = r (113 + 3 * k) by omega, if_pos (by omega)]
      omega
theorem rv_0 {r : rw_t} (h4 : 0 ≤ r 4) (a u : Int) : rv_ r a u 0 = r 0 := by
  unfold rv_ up_
  rw [if_neg (by decide), if_neg (by decide), if_neg (by omega), if_neg (by omega), if_neg (by omega)]
/-- ranks ascend as due days and ids do -/
theorem vk_ord {B : Int} {r : rw_t} (hT : wf_T B r) {s t : Int} (s0 : 0 ≤ s ∧ s < r 4) (t0 : 0 ≤ t ∧ t < r 4) (h : vk_r r s < vk_r r t) : r (113 + 3 * s) < r (113 + 3 * t) ∨ (r (113 + 3 * s) = r (113 + 3 * t) ∧ r (112 + 3 * s) < r (112 + 3 * t)) := by
  have hord := hT.2.2.2.2.2.2.2.2.2.2.2.2.2.2
  have g := fun hb => vk_lt (q := r) (x := t) (u := s) t0.1 t0.2 hb
  have hne : s ≠ t := fun e => by rw [e] at h; omega
  by_cases c : vb_ r t s = 1
  · have := g c
    omega
  · unfold vb_ at c
    have hid : r (112 + 3 * s) ≠ r (112 + 3 * t) := fun e => by
      rcases Int.lt_or_gt_of_ne hne with q | q
      · have := hord s t s0.1 q t0.2
        omega
      · have := hord t s t0.1 q s0.2
        omega
    (repeat' split at c) <;> omega
