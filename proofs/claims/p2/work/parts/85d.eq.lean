/-! the answers are the same -/
def EQ_ (t x t2 u : Int) : Prop := t2 = t ∧ (t = 0 → u = x) ∧ 0 ≤ t ∧ t ≤ 4
theorem eq_ix {P : Prop} {t x t2 u V : Int} (h : (t = 1 ∧ ¬ P) ∨ (t = 0 ∧ P ∧ x = V)) (k : (t2 = 1 ∧ ¬ P) ∨ (t2 = 0 ∧ P ∧ u = V)) : EQ_ t x t2 u := by
  rcases h with ⟨h1, h2⟩ | ⟨h1, h2, h3⟩ <;> rcases k with ⟨k1, k2⟩ | ⟨k1, k2, k3⟩
  · exact ⟨by omega, fun e => absurd e (by omega), by omega, by omega⟩
  · exact absurd k2 h2
  · exact absurd h2 k2
  · exact ⟨by omega, fun _ => by omega, by omega, by omega⟩
theorem eq_ab {q : rw_t} (hW : wf_M q) {m t x t2 u : Int} (h : (t = 1 ∧ ¬ (0 ≤ m ∧ m < q 3)) ∨ (t = 0 ∧ (0 ≤ m ∧ m < q 3) ∧ x = q (21 + 6 * m))) (k : (t2 = 1 ∧ ¬ (0 ≤ m ∧ m < q 3)) ∨ (t2 = 0 ∧ (0 ≤ m ∧ m < q 3) ∧ u = if q (21 + 6 * m) = 1 then 1 else 0)) : EQ_ t x t2 u := by
  refine eq_ix h (k.imp_right (fun ⟨k1, k2, k3⟩ => ⟨k1, k2, ?_⟩))
  have w3 := hW.1
  obtain ⟨-, -, -, -, -, g5⟩ := hW.2 m k2.1 (by omega)
  rw [k3]
  split <;> omega
theorem eq_wide {q : rw_t} (hW : wf_M q) (hU : uj_ q) {a b t x t2 u : Int} (h : (t = pf_ a b ∧ t ≠ 0) ∨ (pf_ a b = 0 ∧ (wb_ (sa_ q) a b = 0) ∧ t = 3) ∨ (pf_ a b = 0 ∧ (wb_ (sa_ q) a b ≠ 0 ∧ x = wb_ (sa_ q) a b) ∧ t = 0)) (k : t2 = atw_ q a b ∧ (t2 = 0 → u = xw_ q a 8 b)) : EQ_ t x t2 u := by
  obtain ⟨k1, k2⟩ := k
  rcases atw_cases hW hU a b with ⟨h1, h2⟩ | ⟨h1, h2⟩ | ⟨h1, h2, h3, h4⟩
  · rcases h with ⟨a1, a2⟩ | ⟨a1, a2, a3⟩ | ⟨a1, a2, a3⟩ <;> exact ⟨by omega, fun _ => by omega, by omega, by omega⟩
  · rcases h with ⟨a1, a2⟩ | ⟨a1, a2, a3⟩ | ⟨a1, a2, a3⟩ <;> exact ⟨by omega, fun _ => by omega, by omega, by omega⟩
  · by_cases z : xw_ q a 8 b ≤ 0
    · rw [if_pos z] at h4
      rcases h with ⟨a1, a2⟩ | ⟨a1, a2, a3⟩ | ⟨a1, a2, a3⟩ <;> exact ⟨by omega, fun _ => by omega, by omega, by omega⟩
    · rw [if_neg z] at h4
      have k3 := k2 (by omega)
      rcases h with ⟨a1, a2⟩ | ⟨a1, a2, a3⟩ | ⟨a1, a2, a3⟩ <;> exact ⟨by omega, fun _ => by omega, by omega, by omega⟩
theorem yq_le3 {q : rw_t} (hW : wf_M q) (hU : uj_ q) (a b : Int) : 0 ≤ (if yq_ q a b = 4 then 3 else yq_ q a b) ∧ (if yq_ q a b = 4 then 3 else yq_ q a b) ≤ 3 := by
  rw [(yq_atw hW hU a b).1]
  exact atw_le q a b
theorem eq_wlen {v : cs_t} (hW : wf_M (c_r v)) (hU : uj_ (c_r v)) {a b t x t2 u : Int} (h : (yq_ (c_r v) a b ≠ 0 ∧ t = (if yq_ (c_r v) a b = 4 then 3 else yq_ (c_r v) a b)) ∨ (yq_ (c_r v) a b = 0 ∧ t = 0 ∧ x = c_len (yv_ v a b))) (k : t2 = atw_ (c_r v) a b ∧ (t2 = 0 → u = xm_ (c_r v) (xw_ (c_r v) a 8 b) (-1) b 8 a)) : EQ_ t x t2 u := by
  obtain ⟨k1, k2⟩ := k
  obtain ⟨e1, e2⟩ := yq_atw hW hU a b
  have l3 := yq_le3 hW hU a b
  rcases h with ⟨a1, a2⟩ | ⟨a1, a2, a3⟩
  · rw [e1] at a2 l3
    exact ⟨by omega, fun e => absurd (e2.mpr (by omega)) a1, by omega, by omega⟩
  · have z := e2.mp a1
    have w := (yv_way hW hU z).1
    have k3 := k2 (by omega)
    exact ⟨by omega, fun _ => by omega, by omega, by omega⟩
theorem eq_wjo {v : cs_t} (hW : wf_M (c_r v)) (hU : uj_ (c_r v)) {a b i t x t2 u : Int} (h : (yq_ (c_r v) a b ≠ 0 ∧ t = (if yq_ (c_r v) a b = 4 then 3 else yq_ (c_r v) a b)) ∨ (yq_ (c_r v) a b = 0 ∧ (i < 0 ∨ c_len (yv_ v a b) < i) ∧ t = 3) ∨ (yq_ (c_r v) a b = 0 ∧ (0 ≤ i ∧ i ≤ c_len (yv_ v a b)) ∧ t = 0 ∧ x = c_J (yv_ v a b) i))
    (k : (atw_ (c_r v) a b ≠ 0 ∧ t2 = atw_ (c_r v) a b) ∨ (atw_ (c_r v) a b = 0 ∧ ¬ (0 ≤ i ∧ i ≤ xm_ (c_r v) (xw_ (c_r v) a 8 b) (-1) b 8 a) ∧ t2 = 3) ∨ (atw_ (c_r v) a b = 0 ∧ (0 ≤ i ∧ i ≤ xm_ (c_r v) (xw_ (c_r v) a 8 b) (-1) b 8 a) ∧ t2 = 0 ∧ u = wyJ_ (c_r v) a b i)) : EQ_ t x t2 u := by
  obtain ⟨e1, e2⟩ := yq_atw hW hU a b
  have l3 := yq_le3 hW hU a b
  by_cases z : atw_ (c_r v) a b = 0
  · obtain ⟨w1, w2⟩ := yv_way hW hU z
    have y0 := e2.mpr z
    rcases h with ⟨a1, a2⟩ | ⟨a1, a2, a3⟩ | ⟨a1, a2, a3, a4⟩
    · exact absurd y0 a1
    · rcases k with ⟨b1, b2⟩ | ⟨b1, b2, b3⟩ | ⟨b1, b2, b3, b4⟩
      · exact absurd z b1
      · exact ⟨by omega, fun _ => by omega, by omega, by omega⟩
      · omega
    · rcases k with ⟨b1, b2⟩ | ⟨b1, b2, b3⟩ | ⟨b1, b2, b3, b4⟩
      · exact absurd z b1
      · omega
      · have w3 := w2 i.toNat (by omega)
        rw [show ((i.toNat : Nat) : Int) = i by omega] at w3
        exact ⟨by omega, fun _ => by rw [b4, a4, w3], by omega, by omega⟩
  · have y0 : yq_ (c_r v) a b ≠ 0 := fun e => z (e2.mp e)
    rw [e1] at l3
    rcases h with ⟨a1, a2⟩ | ⟨a1, a2, a3⟩ | ⟨a1, a2, a3, a4⟩
    · rw [e1] at a2
      rcases k with ⟨b1, b2⟩ | ⟨b1, b2, b3⟩ | ⟨b1, b2, b3, b4⟩
      · exact ⟨by omega, fun _ => by omega, by omega, by omega⟩
      · exact absurd b1 z
      · exact absurd b1 z
    · exact absurd a1 y0
    · exact absurd a1 y0
theorem sm_lt {f h : Int → Int} : ∀ (n : Nat) (i : Int), (∀ k : Int, 0 ≤ k → k < n → f k ≤ h k) → 0 ≤ i → i < n → f i < h i → sm_ f n < sm_ h n
  | 0, i, _, _, hi, _ => by omega
  | n + 1, i, hle, i0, i1, hlt => by
    have e1 : sm_ f (n + 1) = sm_ f n + f n := rfl
    have e2 : sm_ h (n + 1) = sm_ h n + h n := rfl
    have hn := hle n (by omega) (by omega)
    by_cases e : i = n
    · subst e
      have : sm_ f n ≤ sm_ h n := by
        clear e1 e2 hn hlt i0 i1
        induction n with
        | zero => exact Int.le_refl _
        | succ n ih =>
          have a := ih (fun k k0 k1 => hle k k0 (by omega))
          have b := hle n (by omega) (by omega)
          show sm_ f n + f n ≤ sm_ h n + h n
          omega
      omega
    · have := sm_lt n i (fun k k0 k1 => hle k k0 (by omega)) i0 (by omega) hlt
      omega
theorem rk_lt {q : rw_t} {x u : Int} (u0 : 0 ≤ x) (u1 : x < q 3) (hb : bb_ q x u = 1) : rk_ q x < rk_ q u := by
  refine sm_lt (q 3).toNat x (fun k k0 k1 => ?_) u0 (by omega) ?_
  · have l1 := bb_01 q k x
    have l2 := bb_01 q k u
    show bb_ q k x ≤ bb_ q k u
    by_cases c : bb_ q k x = 1
    · have : bb_ q k u = 1 := by
        unfold bb_ at c hb ⊢
        (repeat' split at c) <;> (repeat' split at hb) <;> (repeat' split) <;> omega
      omega
    · omega
  · show bb_ q x x < bb_ q x u
    have : bb_ q x x = 0 := by
      unfold bb_
      (repeat' split) <;> omega
    omega
theorem rk_inj {q : rw_t} {x u : Int} (x0 : 0 ≤ x ∧ x < q 3) (u0 : 0 ≤ u ∧ u < q 3) (h : rk_ q x = rk_ q u) : x = u := by
  refine Classical.byContradiction (fun ne => ?_)
  have : bb_ q x u = 1 ∨ bb_ q u x = 1 := by
    unfold bb_
    (repeat' split) <;> omega
  rcases this with c | c
  · have := rk_lt x0.1 x0.2 c
    omega
  · have := rk_lt u0.1 u0.2 c
    omega
theorem eq_rank {q : rw_t} {a t x t2 u : Int} (h : (t = 1 ∧ ∀ k : Int, 0 ≤ k → k < q 3 → rk_ q k ≠ a) ∨ (t = 0 ∧ (0 ≤ x ∧ x < q 3) ∧ rk_ q x = a)) (k : (t2 = 1 ∧ rkx_ q a (q 3) (-1)) ∨ (t2 = 0 ∧ 0 ≤ u ∧ rkx_ q a (q 3) u)) : EQ_ t x t2 u := by
  rcases h with ⟨h1, h2⟩ | ⟨h1, h2, h3⟩ <;> rcases k with ⟨k1, k2⟩ | ⟨k1, k2, k3⟩
  · exact ⟨by omega, fun e => absurd e (by omega), by omega, by omega⟩
  · rcases k3 with ⟨e, -⟩ | ⟨e1, e2⟩
    · omega
    · exact absurd e2 (h2 u e1.1 e1.2)
  · rcases k2 with ⟨-, e⟩ | ⟨e1, e2⟩
    · exact absurd h3 (e x h2.1 h2.2)
    · omega
  · rcases k3 with ⟨e, -⟩ | ⟨e1, e2⟩
    · omega
    · exact ⟨by omega, fun _ => rk_inj e1 h2 (e2.trans h3.symm), by omega, by omega⟩
theorem vk_lt {q : rw_t} {x u : Int} (u0 : 0 ≤ x) (u1 : x < q 4) (hb : vb_ q x u = 1) : vk_r q x < vk_r q u := by
  refine sm_lt (q 4).toNat x (fun k k0 k1 => ?_) u0 (by omega) ?_
  · have l1 := vb_01 q k x
    have l2 := vb_01 q k u
    show vb_ q k x ≤ vb_ q k u
    by_cases c : vb_ q k x = 1
    · have : vb_ q k u = 1 := by
        unfold vb_ at c hb ⊢
        (repeat' split at c) <;> (repeat' split at hb) <;> (repeat' split) <;> omega
      omega
    · omega
  · show vb_ q x x < vb_ q x u
    have : vb_ q x x = 0 := by
      unfold vb_
      (repeat' split) <;> omega
    omega
theorem vk_inj {B : Int} {q : rw_t} (hT : wf_T B q) {x u : Int} (x0 : 0 ≤ x ∧ x < q 4) (u0 : 0 ≤ u ∧ u < q 4) (h : vk_r q x = vk_r q u) : x = u := by
  obtain ⟨-, -, -, -, -, -, -, -, -, -, -, -, -, -, To⟩ := hT
  refine Classical.byContradiction (fun ne => ?_)
  have o1 : x < u → q (112 + 3 * x) < q (112 + 3 * u) := fun c => To x u x0.1 c u0.2
  have o2 : u < x → q (112 + 3 * u) < q (112 + 3 * x) := fun c => To u x u0.1 c x0.2
  have : vb_ q x u = 1 ∨ vb_ q u x = 1 := by
    unfold vb_
    (repeat' split) <;> omega
  rcases this with c | c
  · have := vk_lt x0.1 x0.2 c
    omega
  · have := vk_lt u0.1 u0.2 c
    omega
theorem eq_vat {B : Int} {q : rw_t} (hT : wf_T B q) {a t x t2 u : Int} (h : (t = 1 ∧ ∀ k : Int, 0 ≤ k → k < q 4 → vk_r q k ≠ a) ∨ (t = 0 ∧ ∃ s : Int, (0 ≤ s ∧ s < q 4) ∧ vk_r q s = a ∧ x = q (112 + 3 * s))) (k : (t2 = 1 ∧ vkx_ q a (q 4) (-1)) ∨ (t2 = 0 ∧ 0 ≤ u ∧ vkx_ q a (q 4) u)) : EQ_ t x t2 u := by
  have T4 := hT.2.2.2.1
  have Tv := hT.2.2.2.2.2.2.2.2.2.2.2.2.1
  rcases h with ⟨h1, h2⟩ | ⟨h1, s, h2, h3, h4⟩ <;> rcases k with ⟨k1, k2⟩ | ⟨k1, k2, k3⟩
  · exact ⟨by omega, fun e => absurd e (by omega), by omega, by omega⟩
  · rcases k3 with ⟨e, -⟩ | ⟨r, e1, e2, e3⟩
    · omega
    · exact absurd e2 (h2 r e1.1 e1.2)
  · rcases k2 with ⟨-, e⟩ | ⟨r, e1, e2, e3⟩
    · exact absurd h3 (e s h2.1 h2.2)
    · have := (Tv r e1.1 (by omega)).1
      omega
  · rcases k3 with ⟨e, -⟩ | ⟨r, e1, e2, e3⟩
    · omega
    · have e := vk_inj hT e1 h2 (e2.trans h3.symm)
      exact ⟨by omega, fun _ => by rw [e3, h4, e], by omega, by omega⟩
theorem eq_due {B : Int} {q : rw_t} (hT : wf_T B q) {a t x t2 u p : Int} (h : (t = 1 ∧ ∀ k : Int, 0 ≤ k → k < q 4 → q (112 + 3 * k) ≠ a) ∨ (t = 0 ∧ ∃ s : Int, (0 ≤ s ∧ s < q 4) ∧ q (112 + 3 * s) = a ∧ x = q (p + 3 * s))) (k : (t2 = 1 ∧ vwp_ q a (-1)) ∨ (t2 = 0 ∧ ∃ y : Int, 0 ≤ y ∧ vwp_ q a y ∧ u = q (p + 3 * y))) : EQ_ t x t2 u := by
  obtain ⟨-, -, -, -, -, -, -, -, -, -, -, -, -, -, To⟩ := hT
  rcases h with ⟨h1, h2⟩ | ⟨h1, s, h2, h3, h4⟩ <;> rcases k with ⟨k1, k2⟩ | ⟨k1, y, k2, k3, k4⟩
  · exact ⟨by omega, fun e => absurd e (by omega), by omega, by omega⟩
  · rcases k3 with ⟨e, -⟩ | ⟨e1, e2⟩
    · omega
    · exact absurd e2 (h2 y e1.1 e1.2)
  · rcases k2 with ⟨-, e⟩ | ⟨e1, e2⟩
    · exact absurd h3 (e s h2.1 h2.2)
    · omega
  · rcases k3 with ⟨e, -⟩ | ⟨e1, e2⟩
    · omega
    · have e : y = s := by
        refine Classical.byContradiction (fun ne => ?_)
        have o1 : y < s → q (112 + 3 * y) < q (112 + 3 * s) := fun c => To y s e1.1 c h2.2
        have o2 : s < y → q (112 + 3 * s) < q (112 + 3 * y) := fun c => To s y h2.1 c e1.2
        omega
      exact ⟨by omega, fun _ => by rw [k4, h4, e], by omega, by omega⟩
theorem eq_out {P : Prop} {t x t2 u V : Int} {v1 v : cs_t} (h : (t = 1 ∧ ¬ P ∧ v1 = v) ∨ (t = 0 ∧ P ∧ x = V ∧ v1 = v)) (k : (t2 = 1 ∧ ¬ P) ∨ (t2 = 0 ∧ P ∧ u = V)) : EQ_ t x t2 u :=
  eq_ix (h.imp (fun ⟨a, b, _⟩ => ⟨a, b⟩) (fun ⟨a, b, c, _⟩ => ⟨a, b, c⟩)) k
theorem eq_mark {t x t2 u V : Int} {v1 v : cs_t} (h : (t = 1 ∧ V = -1 ∧ v1 = v) ∨ (t = 0 ∧ V ≠ -1 ∧ x = V ∧ v1 = v)) (k : (t2 = 1 ∧ V = -1) ∨ (t2 = 0 ∧ V ≠ -1 ∧ u = V)) : EQ_ t x t2 u := by
  rcases h with ⟨h1, h2, -⟩ | ⟨h1, h2, h3, -⟩ <;> rcases k with ⟨k1, k2⟩ | ⟨k1, k2, k3⟩ <;> exact ⟨by omega, fun _ => by omega, by omega, by omega⟩
/-- vows: day by day, or on the due days alone -/
theorem kpa_days {B : Int} {q : rw_t} (hT : wf_T B q) : (∀ b : Int, 1 ≤ b → b ≤ 50 → 0 ≤ sp_ q (q 0 + b)) ↔ (∀ k : Int, 0 ≤ k → k < q 4 → 0 ≤ sp_ q (q (113 + 3 * k))) := by
  obtain ⟨T0, T1, T2, T4, T5, T6, T7, Ts, T8, T9, T10, Te, Tv, Tw, To⟩ := hT
  constructor
  · intro h k k0 k1
    have w := (Tw k k0 k1).1
    have e := h (q (113 + 3 * k) - q 0) (by omega) (by omega)
    rw [show q 0 + (q (113 + 3 * k) - q 0) = q (113 + 3 * k) by omega] at e
    exact e
  · intro h
    have key : ∀ n : Nat, 0 ≤ sp_ q (q 0 + (n : Int)) := by
      intro n
      induction n with
      | zero =>
        unfold sp_
        rw [sm_0 (fun k k0 k1 => by rw [if_neg (by have := (Tw k k0 (by omega)).1; omega)])]
        rw [show q 0 + ((0 : Nat) : Int) - q 0 = 0 by omega, Int.mul_zero]
        omega
      | succ n ih =>
        by_cases c : ∃ k : Int, (0 ≤ k ∧ k < q 4) ∧ q (113 + 3 * k) = q 0 + ((n + 1 : Nat) : Int)
        · obtain ⟨k, kk, e⟩ := c
          have := h k kk.1 kk.2
          rw [e] at this
          exact this
        · unfold sp_ at ih ⊢
          rw [sm_eq (h := fun k => if q (113 + 3 * k) ≤ q 0 + (n : Int) then q (114 + 3 * k) else 0) (fun k k0 k1 => ?_)]
          · have m1 : q 2 * (q 0 + ((n + 1 : Nat) : Int) - q 0) = q 2 * (q 0 + (n : Int) - q 0) + q 2 := by
              rw [show q 0 + ((n + 1 : Nat) : Int) - q 0 = (q 0 + (n : Int) - q 0) + 1 by omega, Int.mul_add, Int.mul_one]
            omega
          · have ne : q (113 + 3 * k) ≠ q 0 + ((n + 1 : Nat) : Int) := fun e => c ⟨k, ⟨k0, by omega⟩, e⟩
            by_cases l : q (113 + 3 * k) ≤ q 0 + (n : Int)
            · rw [if_pos (by omega), if_pos l]
            · rw [if_neg (by omega), if_neg l]
    intro b b1 b2
    have := key b.toNat
    rw [show ((b.toNat : Nat) : Int) = b by omega] at this
    exact this
theorem eq_keep {B : Int} {q : rw_t} (hT : wf_T B q) {x u : Int} (h : (x = 1 ∧ ∀ a : Int, 1 ≤ a → a ≤ 50 → 0 ≤ sp_ q (q 0 + a)) ∨ (x = 0 ∧ ∃ a : Int, 1 ≤ a ∧ a ≤ 50 ∧ sp_ q (q 0 + a) < 0)) (k : kpa_ q u) : u = x := by
  have e := kpa_days hT
  rcases h with ⟨h1, h2⟩ | ⟨h1, a, a1, a2, a3⟩ <;> rcases k with ⟨k1, k2⟩ | ⟨k1, b, b1, b2⟩
  · omega
  · have := e.mp h2 b b1.1 b1.2
    omega
  · have := e.mpr k2 a a1 a2
    omega
  · omega
theorem eq_keep2 {q : rw_t} {x u : Int} (h : (x = 1 ∧ ∀ k : Int, 0 ≤ k → k < q 4 → 0 ≤ sp_ q (q (113 + 3 * k))) ∨ (x = 0 ∧ ∃ k : Int, 0 ≤ k ∧ k < q 4 ∧ sp_ q (q (113 + 3 * k)) < 0)) (k : kpa_ q u) : u = x := by
  rcases h with ⟨h1, h2⟩ | ⟨h1, a, a1, a2, a3⟩ <;> rcases k with ⟨k1, k2⟩ | ⟨k1, b, b1, b2⟩
  · omega
  · have := h2 b b1.1 b1.2
    omega
  · have := k2 a a1 a2
    omega
  · omega
theorem eq_great {B : Int} {q : rw_t} (hT : wf_T B q) {a t x t2 u : Int} (h : (t = 1 ∧ ¬ (q 0 < a ∧ a ≤ q 0 + 50)) ∨ (t = 2 ∧ (q 0 < a ∧ a ≤ q 0 + 50) ∧ ∃ b : Int, 1 ≤ b ∧ b ≤ 50 ∧ sp_ q (q 0 + b) < 0) ∨ (t = 0 ∧ (q 0 < a ∧ a ≤ q 0 + 50) ∧ (∀ b : Int, 1 ≤ b → b ≤ 50 → 0 ≤ sp_ q (q 0 + b)) ∧ x ≤ sp_ q a ∧ (∀ k : Int, 0 ≤ k → k < q 4 → a < q (113 + 3 * k) → x ≤ sp_ q (q (113 + 3 * k))) ∧ (x = sp_ q a ∨ ∃ k : Int, 0 ≤ k ∧ k < q 4 ∧ a < q (113 + 3 * k) ∧ x = sp_ q (q (113 + 3 * k)))))
    (k : (t2 = 1 ∧ ¬ (q 0 < a ∧ a ≤ q 0 + 50)) ∨ (t2 = 2 ∧ (q 0 < a ∧ a ≤ q 0 + 50) ∧ kpa_ q 0) ∨ (t2 = 0 ∧ (q 0 < a ∧ a ≤ q 0 + 50) ∧ kpa_ q 1 ∧ gv_ q a (q 4) u)) : EQ_ t x t2 u := by
  have e := kpa_days hT
  rcases h with ⟨h1, h2⟩ | ⟨h1, h2, b, b1, b2, b3⟩ | ⟨h1, h2, h3, x1, x2, x3⟩ <;> rcases k with ⟨k1, k2⟩ | ⟨k1, k2, k3⟩ | ⟨k1, k2, k3, k4⟩
  · exact ⟨by omega, fun e => absurd e (by omega), by omega, by omega⟩
  · exact absurd k2 h2
  · exact absurd k2 h2
  · exact absurd h2 k2
  · exact ⟨by omega, fun e => absurd e (by omega), by omega, by omega⟩
  · rcases k3 with ⟨-, k3⟩ | ⟨k3, -⟩
    · have := e.mpr k3 b b1 b2
      omega
    · omega
  · exact absurd h2 k2
  · rcases k3 with ⟨k3, -⟩ | ⟨-, j, j1, j2⟩
    · omega
    · have := e.mp h3 j j1.1 j1.2
      omega
  · obtain ⟨u1, u2, u3⟩ := k4
    refine ⟨by omega, fun _ => ?_, by omega, by omega⟩
    have le1 : u ≤ x := by
      rcases x3 with x3 | ⟨j, j0, j1, j2, j3⟩
      · omega
      · have := u2 j j0 j1 (by omega)
        omega
    have le2 : x ≤ u := by
      rcases u3 with u3 | ⟨j, j0, j1, j2⟩
      · omega
      · by_cases c : q (113 + 3 * j) = a
        · rw [c] at j2
          omega
        · have := x2 j j0.1 j0.2 (by omega)
          omega
    omega
