/-! what an update of one part of the row leaves of the others -/
def eM_ (r r' : rw_t) : Prop := ∀ j : Int, j = 3 ∨ (16 ≤ j ∧ j < 112) → r' j = r j
def eN_ (r r' : rw_t) : Prop := ∀ j : Int, 11 ≤ j ∧ j ≤ 15 → r' j = r j
def eT_ (r r' : rw_t) : Prop := ∀ j : Int, (0 ≤ j ∧ j ≤ 2) ∨ (4 ≤ j ∧ j ≤ 10) ∨ (112 ≤ j ∧ j < 136) → r' j = r j
theorem st_M_e {σ : bc_M} {b : Nat} {r r' : rw_t} (e : eM_ r r') (h : st_M σ b r) : st_M σ b r' := by
  refine ⟨by rw [e 3 (by omega)]; exact h.1, fun k k0 k1 => ?_⟩
  rw [e (16 + 6 * k) (by omega), e (17 + 6 * k) (by omega), e (18 + 6 * k) (by omega), e (19 + 6 * k) (by omega), e (20 + 6 * k) (by omega), e (21 + 6 * k) (by omega)]
  exact h.2 k k0 k1
theorem wf_M_e {r r' : rw_t} (e : eM_ r r') (h : wf_M r) : wf_M r' := by
  refine ⟨by rw [e 3 (by omega)]; exact h.1, fun k k0 k1 => ?_⟩
  rw [e (16 + 6 * k) (by omega), e (17 + 6 * k) (by omega), e (18 + 6 * k) (by omega), e (19 + 6 * k) (by omega), e (20 + 6 * k) (by omega), e (21 + 6 * k) (by omega)]
  exact h.2 k k0 k1
theorem st_N_e {σ : bc_M} {b : Nat} {r r' : rw_t} (e : eN_ r r') (h : st_N σ b r) : st_N σ b r' := ⟨by rw [e 11 (by omega)]; exact h.1, fun k k0 k1 => by rw [e (12 + k) (by omega)]; exact h.2 k k0 k1⟩
theorem wf_N_e {r r' : rw_t} (e : eN_ r r') (h : wf_N r) : wf_N r' := by
  unfold wf_N at *
  rw [e 11 (by omega), e 12 (by omega), e 13 (by omega), e 14 (by omega), e 15 (by omega)]
  exact h
theorem st_T_e {σ : bc_M} {b : Nat} {r r' : rw_t} (e : eT_ r r') (h : st_T σ b r) : st_T σ b r' := by
  refine ⟨?_, fun k k0 k1 => ?_⟩
  · rw [e 0 (by omega), e 1 (by omega), e 2 (by omega), e 8 (by omega), e 9 (by omega), e 10 (by omega), e 6 (by omega), e 7 (by omega), e 5 (by omega), e 4 (by omega)]
    exact h.1
  · rw [e (112 + 3 * k) (by omega), e (113 + 3 * k) (by omega), e (114 + 3 * k) (by omega)]
    exact h.2 k k0 k1
theorem wf_T_e {B : Int} {r r' : rw_t} (e : eT_ r r') (h : wf_T B r) : wf_T B r' := by
  obtain ⟨a0, a1, a2, a3, a4, a5, a6, a7, a8, a9, a10, a11, a12, a13, a14⟩ := h
  unfold wf_T
  rw [e 0 (by omega), e 1 (by omega), e 2 (by omega), e 8 (by omega), e 9 (by omega), e 10 (by omega), e 6 (by omega), e 7 (by omega), e 5 (by omega), e 4 (by omega)]
  refine ⟨a0, a1, a2, a3, a4, a5, a6, a7, a8, a9, a10, a11, fun k k0 k1 => ?_, fun k k0 k1 => ?_, fun k l k0 k1 k2 => ?_⟩
  · rw [e (112 + 3 * k) (by omega), e (113 + 3 * k) (by omega), e (114 + 3 * k) (by omega)]
    exact a12 k k0 k1
  · rw [e (112 + 3 * k) (by omega), e (113 + 3 * k) (by omega)]
    exact a13 k k0 k1
  · rw [e (112 + 3 * k) (by omega), e (112 + 3 * l) (by omega)]
    exact a14 k l k0 k1 k2
theorem st_A_M {P : Nat → Prop} {B : Int} {σ σ' : bc_M} {r r' : rw_t} (h : st_A B σ 1 r) (hf : fr_ P σ σ') (hp : ∀ k, 9 ≤ k → k ≤ 14 → ¬ P k) (eN : eN_ r r') (eT : eT_ r r') (hS : st_M σ' 1 r') (hW : wf_M r') : st_A B σ' 1 r' :=
  ⟨⟨hS, st_N_e eN (st_N_fr h.1.2.1 hf (fun k a b => hp k (by omega) (by omega))), st_T_e eT (st_T_fr h.1.2.2 hf (fun k a b => hp k (by omega) (by omega)))⟩, hW, wf_N_e eN h.2.2.1, wf_T_e eT h.2.2.2⟩
theorem st_A_N {P : Nat → Prop} {B : Int} {σ σ' : bc_M} {r r' : rw_t} (h : st_A B σ 1 r) (hf : fr_ P σ σ') (hp : ∀ k, (2 ≤ k ∧ k ≤ 8) ∨ (11 ≤ k ∧ k ≤ 14) → ¬ P k) (eM : eM_ r r') (eT : eT_ r r') (hS : st_N σ' 1 r') (hW : wf_N r') : st_A B σ' 1 r' :=
  ⟨⟨st_M_e eM (st_M_fr h.1.1 hf (fun k a b => hp k (by omega))), hS, st_T_e eT (st_T_fr h.1.2.2 hf (fun k a b => hp k (by omega)))⟩, wf_M_e eM h.2.1, hW, wf_T_e eT h.2.2.2⟩
theorem st_A_T {P : Nat → Prop} {B B' : Int} {σ σ' : bc_M} {r r' : rw_t} (h : st_A B σ 1 r) (hf : fr_ P σ σ') (hp : ∀ k, 2 ≤ k → k ≤ 10 → ¬ P k) (eM : eM_ r r') (eN : eN_ r r') (hS : st_T σ' 1 r') (hW : wf_T B' r') : st_A B' σ' 1 r' :=
  ⟨⟨st_M_e eM (st_M_fr h.1.1 hf (fun k a b => hp k (by omega) (by omega))), st_N_e eN (st_N_fr h.1.2.1 hf (fun k a b => hp k (by omega) (by omega))), hS⟩, wf_M_e eM h.2.1, wf_N_e eN h.2.2.1, hW⟩
theorem ra_wf {r : rw_t} {a b s : Int} (h : wf_M r) (hc : r 3 < 16) (ha : 0 ≤ a ∧ a < 8) (hb : 0 ≤ b ∧ b < 8) (hs : 1 ≤ s ∧ s ≤ 99) : wf_M (ra_ r a b s) ∧ eN_ r (ra_ r a b s) ∧ eT_ r (ra_ r a b s) := by
  have h1 := h.1
  refine ⟨⟨by unfold ra_; simp; omega, fun k k0 k1 => ?_⟩, fun j hj => ?_, fun j hj => ?_⟩
  · have := h.2 k k0 k1
    by_cases e : k = r 3
    · rw [e]
      have x0 : ra_ r a b s (16 + 6 * r 3) = min a b := by unfold ra_; rw [if_neg (by omega), if_pos rfl]
      have x1 : ra_ r a b s (17 + 6 * r 3) = max a b := by unfold ra_; rw [if_neg (by omega), if_neg (by omega), if_pos rfl]
      have x2 : ra_ r a b s (18 + 6 * r 3) = s := by unfold ra_; rw [if_neg (by omega), if_neg (by omega), if_neg (by omega), if_pos rfl]
      have x3 : ra_ r a b s (19 + 6 * r 3) = 0 := by unfold ra_; rw [if_neg (by omega), if_neg (by omega), if_neg (by omega), if_neg (by omega), if_pos rfl]
      have x4 : ra_ r a b s (20 + 6 * r 3) = 0 := by unfold ra_; rw [if_neg (by omega), if_neg (by omega), if_neg (by omega), if_neg (by omega), if_neg (by omega), if_pos rfl]
      have x5 : ra_ r a b s (21 + 6 * r 3) = 0 := by unfold ra_; rw [if_neg (by omega), if_neg (by omega), if_neg (by omega), if_neg (by omega), if_neg (by omega), if_neg (by omega), if_pos rfl]
      rw [x0, x1, x2, x3, x4, x5]
      omega
    · have y : ∀ q : Int, 16 ≤ q → q ≤ 21 → ra_ r a b s (q + 6 * k) = r (q + 6 * k) := fun q q0 q1 => by
        unfold ra_
        rw [if_neg (by omega), if_neg (by omega), if_neg (by omega), if_neg (by omega), if_neg (by omega), if_neg (by omega), if_neg (by omega)]
      rw [y 16 (by omega) (by omega), y 17 (by omega) (by omega), y 18 (by omega) (by omega), y 19 (by omega) (by omega), y 20 (by omega) (by omega), y 21 (by omega) (by omega)]
      exact this
  · unfold ra_
    rw [if_neg (by omega), if_neg (by omega), if_neg (by omega), if_neg (by omega), if_neg (by omega), if_neg (by omega), if_neg (by omega)]
  · unfold ra_
    rw [if_neg (by omega), if_neg (by omega), if_neg (by omega), if_neg (by omega), if_neg (by omega), if_neg (by omega), if_neg (by omega)]
theorem rd_wf {r : rw_t} {m f : Int} (h : wf_M r) (m0 : 0 ≤ m) (m1 : m < 16) (hf : 0 ≤ f) : wf_M (rd_ r m f) ∧ eN_ r (rd_ r m f) ∧ eT_ r (rd_ r m f) := by
  have h1 := h.1
  refine ⟨⟨by unfold rd_; rw [if_neg (by omega), if_neg (by omega)]; exact h1, fun k k0 k1 => ?_⟩, fun j hj => ?_, fun j hj => ?_⟩
  · have q := h.2 k k0 k1
    have y : ∀ z : Int, 16 ≤ z → z ≤ 21 → z ≠ 19 → z ≠ 20 → rd_ r m f (z + 6 * k) = r (z + 6 * k) := fun z z0 z1 z2 z3 => by
      unfold rd_
      rw [if_neg (by omega), if_neg (by omega)]
    rw [y 16 (by omega) (by omega) (by omega) (by omega), y 17 (by omega) (by omega) (by omega) (by omega), y 18 (by omega) (by omega) (by omega) (by omega), y 21 (by omega) (by omega) (by omega) (by omega)]
    refine ⟨q.1, q.2.1, q.2.2.1, ?_, ?_, q.2.2.2.2.2⟩
    · have := h.2 m m0 m1
      unfold rd_
      split
      · omega
      · rw [if_neg (by omega)]
        exact q.2.2.2.1
    · have := h.2 m m0 m1
      unfold rd_
      rw [if_neg (by omega)]
      split
      · omega
      · exact q.2.2.2.2.1
  · unfold rd_
    rw [if_neg (by omega), if_neg (by omega)]
  · unfold rd_
    rw [if_neg (by omega), if_neg (by omega)]
theorem rn_wf {r : rw_t} {m : Int} (h : wf_M r) (m0 : 0 ≤ m) (m1 : m < 16) : wf_M (rn_ r m) ∧ eN_ r (rn_ r m) ∧ eT_ r (rn_ r m) := by
  have h1 := h.1
  refine ⟨⟨by unfold rn_; rw [if_neg (by omega), if_neg (by omega)]; exact h1, fun k k0 k1 => ?_⟩, fun j hj => ?_, fun j hj => ?_⟩
  · have q := h.2 k k0 k1
    unfold rn_
    refine ⟨?_, ?_, ?_, ?_, ?_, ?_⟩ <;> (repeat' split) <;> omega
  · unfold rn_
    rw [if_neg (by omega), if_neg (by omega)]
  · unfold rn_
    rw [if_neg (by omega), if_neg (by omega)]
theorem rl_wf {r : rw_t} {m b : Int} (h : wf_M r) (m0 : 0 ≤ m) (m1 : m < 16) (hb : 0 ≤ b ∧ b ≤ 1) : wf_M (rl_ r m b) ∧ eN_ r (rl_ r m b) ∧ eT_ r (rl_ r m b) := by
  have h1 := h.1
  refine ⟨⟨by unfold rl_; rw [if_neg (by omega)]; exact h1, fun k k0 k1 => ?_⟩, fun j hj => ?_, fun j hj => ?_⟩
  · have q := h.2 k k0 k1
    unfold rl_
    refine ⟨?_, ?_, ?_, ?_, ?_, ?_⟩ <;> (repeat' split) <;> omega
  · unfold rl_
    rw [if_neg (by omega)]
  · unfold rl_
    rw [if_neg (by omega)]
theorem re_wf {r : rw_t} {c : Int} (hc : c = 99 ∨ c = 108) : wf_N (re_ r c) ∧ eM_ r (re_ r c) ∧ eT_ r (re_ r c) := by
  refine ⟨?_, fun j hj => ?_, fun j hj => ?_⟩
  · unfold wf_N re_
    simp
    exact hc
  · unfold re_
    rw [if_neg (by omega), if_neg (by omega)]
  · unfold re_
    rw [if_neg (by omega), if_neg (by omega)]
theorem rp_wf {r : rw_t} {p w : Int} (h : wf_N r) (p0 : 0 ≤ p) (p1 : p < 4) (hw : 0 ≤ w ∧ w ≤ 20) : wf_N (rp_ r p w) ∧ eM_ r (rp_ r p w) ∧ eT_ r (rp_ r p w) := by
  refine ⟨?_, fun j hj => ?_, fun j hj => ?_⟩
  · unfold wf_N rp_ up_ at *
    refine ⟨?_, ?_, ?_, ?_, ?_⟩ <;> repeat' split
    all_goals omega
  · unfold rp_
    exact up_ne (by omega)
  · unfold rp_
    exact up_ne (by omega)
theorem f2_wf {B : Int} {r : rw_t} {n : Int} (h : wf_T B r) (hn : 0 ≤ n ∧ n ≤ 20) : wf_T B (up_ r 2 n) ∧ eM_ r (up_ r 2 n) ∧ eN_ r (up_ r 2 n) := by
  obtain ⟨a0, a1, a2, a3, a4, a5, a6, a7, a8, a9, a10, a11, a12, a13, a14⟩ := h
  have y : ∀ j : Int, j ≠ 2 → up_ r 2 n j = r j := fun j hj => up_ne hj
  refine ⟨?_, fun j hj => y j (by omega), fun j hj => y j (by omega)⟩
  unfold wf_T
  rw [y 0 (by omega), y 1 (by omega), y 4 (by omega), y 5 (by omega), y 6 (by omega), y 7 (by omega), y 8 (by omega), y 9 (by omega), y 10 (by omega), up_at]
  refine ⟨a0, a1, hn, a3, a4, a5, a6, a7, a8, a9, a10, a11, fun k k0 k1 => ?_, fun k k0 k1 => ?_, fun k l k0 k1 k2 => ?_⟩
  · rw [y _ (by omega), y _ (by omega), y _ (by omega)]; exact a12 k k0 k1
  · rw [y _ (by omega), y _ (by omega)]; exact a13 k k0 k1
  · rw [y _ (by omega), y _ (by omega)]; exact a14 k l k0 k1 k2
theorem rs_wf {B : Int} {r : rw_t} {c : Int} (h : wf_T B r) (hc : 0 ≤ c ∧ c ≤ r 1) : wf_T B (rs_ r c) ∧ eM_ r (rs_ r c) ∧ eN_ r (rs_ r c) := by
  obtain ⟨a0, a1, a2, a3, a4, a5, a6, a7, a8, a9, a10, a11, a12, a13, a14⟩ := h
  have y : ∀ j : Int, j ≠ 1 → j ≠ 10 → rs_ r c j = r j := fun j h1 h2 => (up_ne h2).trans (up_ne h1)
  have y1 : rs_ r c 1 = r 1 - c := (up_ne (by omega)).trans up_at
  have y2 : rs_ r c 10 = r 10 + c := up_at
  refine ⟨?_, fun j hj => y j (by omega) (by omega), fun j hj => y j (by omega) (by omega)⟩
  unfold wf_T
  rw [y 0 (by omega) (by omega), y1, y 2 (by omega) (by omega), y 4 (by omega) (by omega), y 5 (by omega) (by omega), y 6 (by omega) (by omega), y 7 (by omega) (by omega), y 8 (by omega) (by omega), y 9 (by omega) (by omega), y2]
  refine ⟨a0, by omega, a2, a3, a4, a5, a6, a7, a8, a9, by omega, by omega, fun k k0 k1 => ?_, fun k k0 k1 => ?_, fun k l k0 k1 k2 => ?_⟩
  · rw [y _ (by omega) (by omega), y _ (by omega) (by omega), y _ (by omega) (by omega)]; exact a12 k k0 k1
  · rw [y _ (by omega) (by omega), y _ (by omega) (by omega)]; exact a13 k k0 k1
  · rw [y _ (by omega) (by omega), y _ (by omega) (by omega)]; exact a14 k l k0 k1 k2
theorem rv_wf {B : Int} {r : rw_t} {a u : Int} (h : wf_T B r) (ha : r 0 < a ∧ a ≤ r 0 + 50) (hu : 1 ≤ u ∧ u ≤ 99) (h8 : r 4 < 8) : wf_T (B + 1) (rv_ r a u) ∧ eM_ r (rv_ r a u) ∧ eN_ r (rv_ r a u) := by
  obtain ⟨a0, a1, a2, a3, a4, a5, a6, a7, a8, a9, a10, a11, a12, a13, a14⟩ := h
  have y : ∀ j : Int, j ≠ 4 → j ≠ 5 → j ≠ 112 + 3 * r 4 → j ≠ 113 + 3 * r 4 → j ≠ 114 + 3 * r 4 → rv_ r a u j = r j := fun j h1 h2 h3 h4 h5 => (up_ne h2).trans ((up_ne h1).trans ((up_ne h5).trans ((up_ne h4).trans (up_ne h3))))
  have y5 : rv_ r a u 5 = r 5 + 1 := up_at
  have y4 : rv_ r a u 4 = r 4 + 1 := (up_ne (by omega)).trans up_at
  have yu : rv_ r a u (114 + 3 * r 4) = u := (up_ne (by omega)).trans ((up_ne (by omega)).trans up_at)
  have ya : rv_ r a u (113 + 3 * r 4) = a := (up_ne (by omega)).trans ((up_ne (by omega)).trans ((up_ne (by omega)).trans up_at))
  have yi : rv_ r a u (112 + 3 * r 4) = r 5 := (up_ne (by omega)).trans ((up_ne (by omega)).trans ((up_ne (by omega)).trans ((up_ne (by omega)).trans up_at)))
  refine ⟨?_, fun j hj => y j (by omega) (by omega) (by omega) (by omega) (by omega), fun j hj => y j (by omega) (by omega) (by omega) (by omega) (by omega)⟩
  unfold wf_T
  rw [y 0 (by omega) (by omega) (by omega) (by omega) (by omega), y 1 (by omega) (by omega) (by omega) (by omega) (by omega), y 2 (by omega) (by omega) (by omega) (by omega) (by omega), y4, y5, y 6 (by omega) (by omega) (by omega) (by omega) (by omega), y 7 (by omega) (by omega) (by omega) (by omega) (by omega), y 8 (by omega) (by omega) (by omega) (by omega) (by omega), y 9 (by omega) (by omega) (by omega) (by omega) (by omega), y 10 (by omega) (by omega) (by omega) (by omega) (by omega)]
  refine ⟨by omega, a1, a2, by omega, by omega, a5, a6, by omega, by omega, a9, a10, a11, fun k k0 k1 => ?_, fun k k0 k1 => ?_, fun k l k0 k1 k2 => ?_⟩
  · by_cases e : k = r 4
    · rw [e, yi, ya, yu]; omega
    · rw [y _ (by omega) (by omega) (by omega) (by omega) (by omega), y _ (by omega) (by omega) (by omega) (by omega) (by omega), y _ (by omega) (by omega) (by omega) (by omega) (by omega)]
      have := a12 k k0 k1
      omega
  · by_cases e : k = r 4
    · rw [e, yi, ya]; omega
    · rw [y _ (by omega) (by omega) (by omega) (by omega) (by omega), y _ (by omega) (by omega) (by omega) (by omega) (by omega)]
      have := a13 k k0 (by omega)
      omega
  · rw [y (112 + 3 * k) (by omega) (by omega) (by omega) (by omega) (by omega)]
    by_cases e : l = r 4
    · rw [e, yi]
      exact (a13 k k0 (by omega)).2
    · rw [y (112 + 3 * l) (by omega) (by omega) (by omega) (by omega) (by omega)]
      exact a14 k l k0 k1 (by omega)
theorem vd_3 {B : Int} {r : rw_t} (hd : wd_ B r) : vd_ r 3 = r 3 := by
  have d3 := hd.2.2.2.1
  obtain ⟨a1, ⟨b0, b2, b3, b4, b5, b8, b10⟩, -⟩ := wv_n hd (r 4).toNat (by omega)
  have u : vd_ r 3 = (vf_ r (r 4).toNat).1 3 := by unfold vd_ up_; rw [if_neg (by decide)]
  rw [u, b3]
theorem pd_3 {B : Int} {r : rw_t} (h : wf_T B r) : pd_ r 3 = r 3 := by
  unfold pd_
  rw [vd_3 (pi_wd h)]
  unfold pi_ up_
  rw [if_neg (by omega), if_neg (by omega), if_neg (by omega)]
theorem ps_e {B : Int} {r : rw_t} (h : wf_T B r) (n : Nat) : eM_ r (ps_ r n) ∧ eN_ r (ps_ r n) := by
  have key : ∀ j : Int, (j = 3 ∨ (11 ≤ j ∧ j < 112)) → ps_ r n j = r j := by
    intro j hj
    rcases hj with rfl | hj
    · induction n with
      | zero => rfl
      | succ n ih =>
        show pd_ (ps_ r n) 3 = r 3
        rw [pd_3 (ps_wf h n).1]
        exact ih
    · exact (ps_wf h n).2 j hj.1 hj.2
  exact ⟨fun j hj => key j (by omega), fun j hj => key j (by omega)⟩
