/-! both sides: ways, lines, scripts -/
theorem atw_cases {q : rw_t} (hW : wf_M q) (hU : uj_ q) (a b : Int) : (pf_ a b = 1 ∧ atw_ q a b = 1) ∨ (pf_ a b = 2 ∧ atw_ q a b = 2) ∨ (pf_ a b = 0 ∧ wb_ (sa_ q) a b = xw_ q a 8 b ∧ 0 ≤ xw_ q a 8 b ∧ atw_ q a b = if xw_ q a 8 b ≤ 0 then 3 else 0) := by
  by_cases hj : (0 ≤ a ∧ a < 8) ∧ 0 ≤ b ∧ b < 8
  · by_cases hne : a = b
    · refine .inr (.inl ⟨?_, ?_⟩)
      · unfold pf_
        rw [if_neg (fun k => k hj), if_pos hne]
      · unfold atw_
        rw [if_neg (fun k => k hj), if_pos hne]
    · obtain ⟨⟨u0, u1⟩, v0, v1⟩ := id hj
      refine .inr (.inr ⟨?_, wb_xw hW hU u0 u1 v0 v1 (fun e => hne e.symm) (xw_99 hW a 8 b (fun e => hne e.symm)), ((xw_lm hW a 8) b v0 v1).1, ?_⟩)
      · unfold pf_
        rw [if_neg (fun k => k hj), if_neg hne]
      · unfold atw_
        rw [if_neg (fun k => k hj), if_neg hne]
  · refine .inl ⟨?_, ?_⟩
    · unfold pf_
      rw [if_pos hj]
    · unfold atw_
      rw [if_pos hj]
theorem yq_atw {q : rw_t} (hW : wf_M q) (hU : uj_ q) (a b : Int) : (if yq_ q a b = 4 then 3 else yq_ q a b) = atw_ q a b ∧ (yq_ q a b = 0 ↔ atw_ q a b = 0) := by
  rcases atw_cases hW hU a b with ⟨h1, h2⟩ | ⟨h1, h2⟩ | ⟨h1, h2, h3, h4⟩
  · have e : yq_ q a b = 1 := by unfold yq_; rw [h1]; rfl
    rw [e, h2]
    exact ⟨rfl, by decide⟩
  · have e : yq_ q a b = 2 := by unfold yq_; rw [h1]; rfl
    rw [e, h2]
    exact ⟨rfl, by decide⟩
  · by_cases z : xw_ q a 8 b ≤ 0
    · have e : yq_ q a b = 4 := by
        unfold yq_
        rw [h1, if_neg (by decide), h2, if_pos (by omega)]
      rw [if_pos z] at h4
      rw [e, h4]
      exact ⟨rfl, by decide⟩
    · have e : yq_ q a b = 0 := by
        unfold yq_
        rw [h1, if_neg (by decide), h2, if_neg (by omega)]
      rw [if_neg z] at h4
      rw [e, h4]
      exact ⟨rfl, by decide⟩
/-- the class's way is the reference's -/
theorem yv_way {v : cs_t} (hW : wf_M (c_r v)) (hU : uj_ (c_r v)) {a b : Int} (h : atw_ (c_r v) a b = 0) : c_len (yv_ v a b) = xm_ (c_r v) (xw_ (c_r v) a 8 b) (-1) b 8 a ∧ ∀ i : Nat, (i : Int) ≤ c_len (yv_ v a b) → c_J (yv_ v a b) (i : Int) = wyJ_ (c_r v) a b i := by
  obtain ⟨⟨⟨u0, u1⟩, v0, v1⟩, hne, l1⟩ := atw_0 h
  have l9 := xw_99 hW a 8 b (fun e => hne e.symm)
  have W := wb_xw hW hU u0 u1 v0 v1 (fun e => hne e.symm) l9
  obtain ⟨P1, P2, P3⟩ := way_fw hW hU u0 u1 v0 v1 hne (c_J v) (by rw [W]; exact l1)
  have p0 : pf_ a b = 0 := by
    unfold pf_
    rw [if_neg (fun k => k ⟨⟨u0, u1⟩, v0, v1⟩), if_neg hne]
  rw [yv_le p0]
  have ez : fz_ (sa_ (c_r v)) a b (c_J v) = fw_ (sa_ (c_r v)) a b (c_J v) := by
    unfold fz_
    rw [if_neg (by rw [W]; omega)]
  show (fz_ (sa_ (c_r v)) a b (c_J v)).2 = _ ∧ ∀ i : Nat, (i : Int) ≤ (fz_ (sa_ (c_r v)) a b (c_J v)).2 → (fz_ (sa_ (c_r v)) a b (c_J v)).1 (i : Int) = _
  rw [ez, P2, W]
  refine ⟨rfl, fun i hi => ?_⟩
  have e := P3 i (by rw [P2, W]; exact hi)
  rw [e, W]
  rfl
theorem ow_cong {J J' : Int → Int} : ∀ n : Nat, (∀ k : Nat, k < n → J (k : Int) = J' (k : Int)) → ow_ J n = ow_ J' n
  | 0, _ => rfl
  | n + 1, h => by
    have e := ow_cong n (fun k hk => h k (by omega))
    show tn_ (if 0 < n then ta_ (ow_ J n) 62 else ow_ J n) (J n) = tn_ (if 0 < n then ta_ (ow_ J' n) 62 else ow_ J' n) (J' n)
    rw [e, h n (by omega)]
theorem cf_fun {r : rw_t} (hU : uj_ r) {k x y z f f' : Int} (h : cf_ r k x y z f) (h' : cf_ r k x y z f') : f = f' := by
  unfold cf_ at h h'
  rcases h with ⟨k0, h⟩ | ⟨k0, h⟩ | ⟨k0, h⟩ | ⟨k0, h⟩ | ⟨k0, h⟩ | ⟨k0, h⟩ | ⟨k0, h⟩ | ⟨k0, h⟩ | ⟨k0, h⟩ | ⟨k0, h⟩ <;> rcases h' with ⟨k1, h'⟩ | ⟨k1, h'⟩ | ⟨k1, h'⟩ | ⟨k1, h'⟩ | ⟨k1, h'⟩ | ⟨k1, h'⟩ | ⟨k1, h'⟩ | ⟨k1, h'⟩ | ⟨k1, h'⟩ | ⟨k1, h'⟩ <;> first | (exfalso; omega) | exact h.trans h'.symm | exact adr_eq (mq_adr hU h) (mq_adr hU h')
/-- what a class's step and a reference's step make of the same row is the same -/
theorem ck_crow {q w : cs_t} {k x y z : Int} {r : rw_t} (hW : wf_M (c_r q)) (hU : uj_ (c_r q)) (hc : cf_ (c_r q) k x y z 0) (h : ck_ q k x y z w) (h' : crow_ (c_r q) k x y z r) : c_r w = r := by
  unfold ck_ at h
  unfold crow_ at h'
  rcases h with ⟨k0, h⟩ | ⟨k0, h⟩ | ⟨k0, h⟩ | ⟨k0, h⟩ | ⟨k0, h⟩ | ⟨k0, h⟩ | ⟨k0, h⟩ | ⟨k0, h⟩ | ⟨k0, h⟩ | ⟨k0, h⟩ <;> rcases h' with ⟨k1, h'⟩ | ⟨k1, h'⟩ | ⟨k1, h'⟩ | ⟨k1, h'⟩ | ⟨k1, h'⟩ | ⟨k1, h'⟩ | ⟨k1, h'⟩ | ⟨k1, h'⟩ | ⟨k1, h'⟩ | ⟨k1, h'⟩ <;> first | (exfalso; omega) | (rw [h, h']) | skip
  subst k0
  obtain ⟨r1, hz, hw⟩ := h
  have k := wq_0t hW hU ((cf_1 _ _ _ _ _).mp hc)
  rw [hw]
  exact ((walk_same hW hU (c_J q) k).2.2 r1 r hz h').1
/-- but the row and the way, a step leaves all as it is -/
def sv2_ (v w : cs_t) : Prop := c_sn w = c_sn v ∧ c_bs w = c_bs v ∧ c_h w = c_h v ∧ c_n w = c_n v ∧ c_l w = c_l v ∧ c_o w = c_o v ∧ c_hs w = c_hs v ∧ c_le w = c_le v ∧ c_lf w = c_lf v
theorem sv2_refl (v : cs_t) : sv2_ v v := ⟨rfl, rfl, rfl, rfl, rfl, rfl, rfl, rfl, rfl⟩
theorem sv2_tr {a b c : cs_t} (h : sv2_ a b) (k : sv2_ b c) : sv2_ a c := by
  obtain ⟨h1, h2, h3, h4, h5, h6, h7, h8, h9⟩ := h
  obtain ⟨k1, k2, k3, k4, k5, k6, k7, k8, k9⟩ := k
  exact ⟨k1.trans h1, k2.trans h2, k3.trans h3, k4.trans h4, k5.trans h5, k6.trans h6, k7.trans h7, k8.trans h8, k9.trans h9⟩
theorem ck_sv {q w : cs_t} {k x y z : Int} (h : ck_ q k x y z w) : sv2_ q w := by
  unfold ck_ at h
  rcases h with ⟨k0, h⟩ | ⟨k0, r1, hz, h⟩ | ⟨k0, h⟩ | ⟨k0, h⟩ | ⟨k0, h⟩ | ⟨k0, h⟩ | ⟨k0, h⟩ | ⟨k0, h⟩ | ⟨k0, h⟩ | ⟨k0, h⟩ <;> (rw [h]; exact ⟨rfl, rfl, rfl, rfl, rfl, rfl, rfl, rfl, rfl⟩)
theorem rr_sv {z : pz_t} {v : cs_t} : ∀ {n : Nat} {w : cs_t}, rr_ z v n w → sv2_ (u_bs v (c_r v)) w
  | 0, w, h => by
    have e : w = u_bs v (c_r v) := h
    rw [e]
    exact sv2_refl _
  | n + 1, w, h => by
    obtain ⟨q, h1, -, h3⟩ := h
    exact sv2_tr (rr_sv h1) (ck_sv h3)
theorem rr_rsx {z : pz_t} {v : cs_t} {B : Int} (hU : wu_ B (c_r v)) : ∀ {n : Nat} {w : cs_t} {r : rw_t}, rr_ z v n w → rsx_ z (c_r v) n r → c_r w = r ∧ wu_ (B + 30 * (n : Int)) r
  | 0, w, r, h, h' => by
    have e : w = u_bs v (c_r v) := h
    have e' : r = c_r v := h'
    rw [e, e']
    exact ⟨rfl, wu_mono hU (by omega)⟩
  | n + 1, w, r, h, h' => by
    obtain ⟨q, h1, h2, h3⟩ := h
    obtain ⟨r0, k1, k2, k3⟩ := h'
    obtain ⟨e, W⟩ := rr_rsx hU h1 k1
    subst e
    refine ⟨ck_crow W.1 W.2.2.2 h2 h3 k3, ?_⟩
    have W2 := wu_step W k2 k3
    exact wu_mono W2 (by omega)
theorem rr_pre {z : pz_t} {v : cs_t} : ∀ {n : Nat} {w : cs_t}, rr_ z v n w → ∀ i : Nat, i < n → ∃ q : cs_t, rr_ z v i q ∧ cf_ (c_r q) (z.2.2.2.1 i) (z.2.2.2.2 i 0) (z.2.2.2.2 i 1) (z.2.2.2.2 i 2) 0
  | 0, _, _, i, hi => absurd hi (Nat.not_lt_zero _)
  | n + 1, w, h, i, hi => by
    obtain ⟨q, h1, h2, h3⟩ := h
    by_cases e : i = n
    · subst e
      exact ⟨q, h1, h2⟩
    · exact rr_pre h1 i (by omega)
theorem rsx_pre {z : pz_t} {q : rw_t} : ∀ {n : Nat} {r : rw_t}, rsx_ z q n r → ∀ i : Nat, i < n → ∃ p : rw_t, rsx_ z q i p ∧ cf_ p (z.2.2.2.1 i) (z.2.2.2.2 i 0) (z.2.2.2.2 i 1) (z.2.2.2.2 i 2) 0
  | 0, _, _, i, hi => absurd hi (Nat.not_lt_zero _)
  | n + 1, r, h, i, hi => by
    obtain ⟨p, h1, h2, h3⟩ := h
    by_cases e : i = n
    · subst e
      exact ⟨p, h1, h2⟩
    · exact rsx_pre h1 i (by omega)
/-- both fail at the same command -/
theorem fail_same {z : pz_t} {v : cs_t} {B : Int} (hU : wu_ B (c_r v)) {i j : Nat} {w : cs_t} {r : rw_t} {e : Int} (h1 : rr_ z v i w) (h2 : cf_ (c_r w) (z.2.2.2.1 i) (z.2.2.2.2 i 0) (z.2.2.2.2 i 1) (z.2.2.2.2 i 2) e) (h3 : e ≠ 0) (k1 : rsx_ z (c_r v) j r) (k2 : ∀ f, cf_ r (z.2.2.2.1 j) (z.2.2.2.2 j 0) (z.2.2.2.2 j 1) (z.2.2.2.2 j 2) f → f ≠ 0) : i = j := by
  rcases Nat.lt_trichotomy i j with c | c | c
  · obtain ⟨p, p1, p2⟩ := rsx_pre k1 i c
    obtain ⟨e1, W⟩ := rr_rsx hU h1 p1
    rw [e1] at h2
    exact absurd (cf_fun W.2.2.2 h2 p2) h3
  · exact c
  · obtain ⟨q, q1, q2⟩ := rr_pre h1 j c
    obtain ⟨e1, W⟩ := rr_rsx hU q1 k1
    rw [e1] at q2
    exact absurd rfl (k2 0 q2)
theorem fail_no {z : pz_t} {v : cs_t} {B : Int} (hU : wu_ B (c_r v)) {i n : Nat} {w : cs_t} {r : rw_t} {e : Int} (hi : i < n) (h1 : rr_ z v i w) (h2 : cf_ (c_r w) (z.2.2.2.1 i) (z.2.2.2.2 i 0) (z.2.2.2.2 i 1) (z.2.2.2.2 i 2) e) (h3 : e ≠ 0) (k1 : rsx_ z (c_r v) n r) : False := by
  obtain ⟨p, p1, p2⟩ := rsx_pre k1 i hi
  obtain ⟨e1, W⟩ := rr_rsx hU h1 p1
  rw [e1] at h2
  exact h3 (cf_fun W.2.2.2 h2 p2)
theorem fail_no2 {z : pz_t} {v : cs_t} {B : Int} (hU : wu_ B (c_r v)) {j n : Nat} {w : cs_t} {r : rw_t} (hj : j < n) (h1 : rr_ z v n w) (k1 : rsx_ z (c_r v) j r) (k2 : ∀ f, cf_ r (z.2.2.2.1 j) (z.2.2.2.2 j 0) (z.2.2.2.2 j 1) (z.2.2.2.2 j 2) f → f ≠ 0) : False := by
  obtain ⟨q, q1, q2⟩ := rr_pre h1 j hj
  obtain ⟨e1, W⟩ := rr_rsx hU q1 k1
  rw [e1] at q2
  exact k2 0 q2 rfl
