section
/-! both sides: ways, lines, scripts -/
theorem atw_cases {q : rw_t} (hW : wf_M q) (hU : uj_ q) (a b : Int) : (pf_ a b = 1 ∧ atw_ q a b = 1) ∨ (pf_ a b = 2 ∧ atw_ q a b = 2) ∨ (pf_ a b = 0 ∧ wb_ (sa_ q) a b = xw_ q a 8 b ∧ 0 ≤ xw_ q a 8 b ∧ atw_ q a b = if xw_ q a 8 b ≤ 0 then 3 else 0) := by
  by_cases hj : (0 ≤ a ∧ a < 8) ∧ 0 ≤ b ∧ b < 8
  · by_cases hne : a = b
    · refine .inr (.inl ⟨?_, ?_⟩)
      · unfold pf_
        rw [if_neg (fun k => k hj), if_pos hne]
      · unfold atw_
        rw [if_neg (fun k => k hj), if_pos hne]
    · obtain ⟨⟨u0, u1⟩, v0, v1⟩ := id hj
      refine .inr (.inr ⟨?_, wb_xw hW hU u0 u1 v0 v1 (fun e => hne e.symm) (xw_99 hW a 8 b (fun e => hne e.symm)), ((xw_lm hW a 8) b v0 v1).1, ?_⟩)
      · unfold pf_
        rw [if_neg (fun k => k hj), if_neg hne]
      · unfold atw_
        rw [if_neg (fun k => k hj), if_neg hne]
  · refine .inl ⟨?_, ?_⟩
    · unfold pf_
      rw [if_pos hj]
    · unfold atw_
      rw [if_pos hj]
theorem yq_atw {q : rw_t} (hW : wf_M q) (hU : uj_ q) (a b : Int) : (if yq_ q a b = 4 then 3 else yq_ q a b) = atw_ q a b ∧ (yq_ q a b = 0 ↔ atw_ q a b = 0) := by
  rcases atw_cases hW hU a b with ⟨h1, h2⟩ | ⟨h1, h2⟩ | ⟨h1, h2, h3, h4⟩
  · have e : yq_ q a b = 1 := by unfold yq_; rw [h1]; rfl
    rw [e, h2]
    exact ⟨rfl, by decide⟩
  · have e : yq_ q a b = 2 := by unfold yq_; rw [h1]; rfl
    rw [e, h2]
    exact ⟨rfl, by decide⟩
  · by_cases z : xw_ q a 8 b ≤ 0
    · have e : yq_ q a b = 4 := by
        unfold yq_
        rw [h1, if_neg (by decide), h2, if_pos (by omega)]
      rw [if_pos z] at h4
      rw [e, h4]
      exact ⟨rfl, by decide⟩
    · have e : yq_ q a b = 0 := by
        unfold yq_
        rw [h1, if_neg (by decide), h2, if_neg (by omega)]
      rw [if_neg z] at h4
      rw [e, h4]
      exact ⟨rfl, by decide⟩
/-- the class's way is the reference's -/
theorem yv_way {v : cs_t} (hW : wf_M (c_r v)) (hU : uj_ (c_r v)) {a b : Int} (h : atw_ (c_r v) a b = 0) : c_len (yv_ v a b) = xm_ (c_r v) (xw_ (c_r v) a 8 b) (-1) b 8 a ∧ ∀ i : Nat, (i : Int) ≤ c_len (yv_ v a b) → c_J (yv_ v a b) (i : Int) = wyJ_ (c_r v) a b i := by
  obtain ⟨⟨⟨u0, u1⟩, v0, v1⟩, hne, l1⟩ := atw_0 h
  have l9 := xw_99 hW a 8 b (fun e => hne e.symm)
  have W := wb_xw hW hU u0 u1 v0 v1 (fun e => hne e.symm) l9
  obtain ⟨P1, P2, P3⟩ := way_fw hW hU u0 u1 v0 v1 hne (c_J v) (by rw [W]; exact l1)
  have p0 : pf_ a b = 0 := by
    unfold pf_
    rw [if_neg (fun k => k ⟨⟨u0, u1⟩, v0, v1⟩), if_neg hne]
  rw [yv_le p0]
  have ez : fz_ (sa_ (c_r v)) a b (c_J v) = fw_ (sa_ (c_r v)) a b (c_J v) := by
    unfold fz_
    rw [if_neg (by rw [W]; omega)]
  show (fz_ (sa_ (c_r v)) a b (c_J v)).2 = _ ∧ ∀ i : Nat, (i : Int) ≤ (fz_ (sa_ (c_r v)) a b (c_J v)).2 → (fz_ (sa_ (c_r v)) a b (c_J v)).1 (i : Int) = _
  rw [ez, P2, W]
  refine ⟨rfl, fun i hi => ?_⟩
  have e := P3 i (by rw [P2, W]; exact hi)
  rw [e, W]
  rfl
theorem ow_cong {J J' : Int → Int} : ∀ n : Nat, (∀ k : Nat, k < n → J (k : Int) = J' (k : Int)) → ow_ J n = ow_ J' n
  | 0, _ => rfl
  | n + 1, h => by
    have e := ow_cong n (fun k hk => h k (by omega))
    show tn_ (if 0 < n then ta_ (ow_ J n) 62 else ow_ J n) (J n) = tn_ (if 0 < n then ta_ (ow_ J' n) 62 else ow_ J' n) (J' n)
    rw [e, h n (by omega)]
theorem cf_fun {r : rw_t} (hU : uj_ r) {k x y z f f' : Int} (h : cf_ r k x y z f) (h' : cf_ r k x y z f') : f = f' := by
  unfold cf_ at h h'
  rcases h with ⟨k0, h⟩ | ⟨k0, h⟩ | ⟨k0, h⟩ | ⟨k0, h⟩ | ⟨k0, h⟩ | ⟨k0, h⟩ | ⟨k0, h⟩ | ⟨k0, h⟩ | ⟨k0, h⟩ | ⟨k0, h⟩ <;> rcases h' with ⟨k1, h'⟩ | ⟨k1, h'⟩ | ⟨k1, h'⟩ | ⟨k1, h'⟩ | ⟨k1, h'⟩ | ⟨k1, h'⟩ | ⟨k1, h'⟩ | ⟨k1, h'⟩ | ⟨k1, h'⟩ | ⟨k1, h'⟩ <;> first | (exfalso; omega) | exact h.trans h'.symm | exact adr_eq (mq_adr hU h) (mq_adr hU h')
/-- what a class's step and a reference's step make of the same row is the same -/
theorem ck_crow {q w : cs_t} {k x y z : Int} {r : rw_t} (hW : wf_M (c_r q)) (hU : uj_ (c_r q)) (hc : cf_ (c_r q) k x y z 0) (h : ck_ q k x y z w) (h' : crow_ (c_r q) k x y z r) : c_r w = r := by
  unfold ck_ at h
  unfold crow_ at h'
  rcases h with ⟨k0, h⟩ | ⟨k0, h⟩ | ⟨k0, h⟩ | ⟨k0, h⟩ | ⟨k0, h⟩ | ⟨k0, h⟩ | ⟨k0, h⟩ | ⟨k0, h⟩ | ⟨k0, h⟩ | ⟨k0, h⟩ <;> rcases h' with ⟨k1, h'⟩ | ⟨k1, h'⟩ | ⟨k1, h'⟩ | ⟨k1, h'⟩ | ⟨k1, h'⟩ | ⟨k1, h'⟩ | ⟨k1, h'⟩ | ⟨k1, h'⟩ | ⟨k1, h'⟩ | ⟨k1, h'⟩ <;> first | (exfalso; omega) | (rw [h, h']) | skip
  subst k0
  obtain ⟨r1, hz, hw⟩ := h
  have k := wq_0t hW hU ((cf_1 _ _ _ _ _).mp hc)
  rw [hw]
  exact ((walk_same hW hU (c_J q) k).2.2 r1 r hz h').1
/-- but the row and the way, a step leaves all as it is -/
noncomputable def sv2_ (v w : cs_t) : Prop := c_sn w = c_sn v ∧ c_bs w = c_bs v ∧ c_h w = c_h v ∧ c_n w = c_n v ∧ c_l w = c_l v ∧ c_o w = c_o v ∧ c_hs w = c_hs v ∧ c_le w = c_le v ∧ c_lf w = c_lf v
theorem sv2_refl (v : cs_t) : sv2_ v v := ⟨rfl, rfl, rfl, rfl, rfl, rfl, rfl, rfl, rfl⟩
theorem sv2_tr {a b c : cs_t} (h : sv2_ a b) (k : sv2_ b c) : sv2_ a c := by
  obtain ⟨h1, h2, h3, h4, h5, h6, h7, h8, h9⟩ := h
  obtain ⟨k1, k2, k3, k4, k5, k6, k7, k8, k9⟩ := k
  exact ⟨k1.trans h1, k2.trans h2, k3.trans h3, k4.trans h4, k5.trans h5, k6.trans h6, k7.trans h7, k8.trans h8, k9.trans h9⟩
theorem ck_sv {q w : cs_t} {k x y z : Int} (h : ck_ q k x y z w) : sv2_ q w := by
  unfold ck_ at h
  rcases h with ⟨k0, h⟩ | ⟨k0, r1, hz, h⟩ | ⟨k0, h⟩ | ⟨k0, h⟩ | ⟨k0, h⟩ | ⟨k0, h⟩ | ⟨k0, h⟩ | ⟨k0, h⟩ | ⟨k0, h⟩ | ⟨k0, h⟩ <;> (rw [h]; exact ⟨rfl, rfl, rfl, rfl, rfl, rfl, rfl, rfl, rfl⟩)
theorem rr_sv {z : pz_t} {v : cs_t} : ∀ {n : Nat} {w : cs_t}, rr_ z v n w → sv2_ (u_bs v (c_r v)) w
  | 0, w, h => by
    have e : w = u_bs v (c_r v) := h
    rw [e]
    exact sv2_refl _
  | n + 1, w, h => by
    obtain ⟨q, h1, -, h3⟩ := h
    exact sv2_tr (rr_sv h1) (ck_sv h3)
theorem rr_rsx {z : pz_t} {v : cs_t} {B : Int} (hU : wu_ B (c_r v)) : ∀ {n : Nat} {w : cs_t} {r : rw_t}, rr_ z v n w → rsx_ z (c_r v) n r → c_r w = r ∧ wu_ (B + 30 * (n : Int)) r
  | 0, w, r, h, h' => by
    have e : w = u_bs v (c_r v) := h
    have e' : r = c_r v := h'
    rw [e, e']
    exact ⟨rfl, wu_mono hU (by omega)⟩
  | n + 1, w, r, h, h' => by
    obtain ⟨q, h1, h2, h3⟩ := h
    obtain ⟨r0, k1, k2, k3⟩ := h'
    obtain ⟨e, W⟩ := rr_rsx hU h1 k1
    subst e
    refine ⟨ck_crow W.1 W.2.2.2 h2 h3 k3, ?_⟩
    have W2 := wu_step W k2 k3
    exact wu_mono W2 (by omega)
theorem rr_pre {z : pz_t} {v : cs_t} : ∀ {n : Nat} {w : cs_t}, rr_ z v n w → ∀ i : Nat, i < n → ∃ q : cs_t, rr_ z v i q ∧ cf_ (c_r q) (z.2.2.2.1 i) (z.2.2.2.2 i 0) (z.2.2.2.2 i 1) (z.2.2.2.2 i 2) 0
  | 0, _, _, i, hi => absurd hi (Nat.not_lt_zero _)
  | n + 1, w, h, i, hi => by
    obtain ⟨q, h1, h2, h3⟩ := h
    by_cases e : i = n
    · subst e
      exact ⟨q, h1, h2⟩
    · exact rr_pre h1 i (by omega)
theorem rsx_pre {z : pz_t} {q : rw_t} : ∀ {n : Nat} {r : rw_t}, rsx_ z q n r → ∀ i : Nat, i < n → ∃ p : rw_t, rsx_ z q i p ∧ cf_ p (z.2.2.2.1 i) (z.2.2.2.2 i 0) (z.2.2.2.2 i 1) (z.2.2.2.2 i 2) 0
  | 0, _, _, i, hi => absurd hi (Nat.not_lt_zero _)
  | n + 1, r, h, i, hi => by
    obtain ⟨p, h1, h2, h3⟩ := h
    by_cases e : i = n
    · subst e
      exact ⟨p, h1, h2⟩
    · exact rsx_pre h1 i (by omega)
/-- both fail at the same command -/
theorem fail_same {z : pz_t} {v : cs_t} {B : Int} (hU : wu_ B (c_r v)) {i j : Nat} {w : cs_t} {r : rw_t} {e : Int} (h1 : rr_ z v i w) (h2 : cf_ (c_r w) (z.2.2.2.1 i) (z.2.2.2.2 i 0) (z.2.2.2.2 i 1) (z.2.2.2.2 i 2) e) (h3 : e ≠ 0) (k1 : rsx_ z (c_r v) j r) (k2 : ∀ f, cf_ r (z.2.2.2.1 j) (z.2.2.2.2 j 0) (z.2.2.2.2 j 1) (z.2.2.2.2 j 2) f → f ≠ 0) : i = j := by
  rcases Nat.lt_trichotomy i j with c | c | c
  · obtain ⟨p, p1, p2⟩ := rsx_pre k1 i c
    obtain ⟨e1, W⟩ := rr_rsx hU h1 p1
    rw [e1] at h2
    exact absurd (cf_fun W.2.2.2 h2 p2) h3
  · exact c
  · obtain ⟨q, q1, q2⟩ := rr_pre h1 j c
    obtain ⟨e1, W⟩ := rr_rsx hU q1 k1
    rw [e1] at q2
    exact absurd rfl (k2 0 q2)
theorem fail_no {z : pz_t} {v : cs_t} {B : Int} (hU : wu_ B (c_r v)) {i n : Nat} {w : cs_t} {r : rw_t} {e : Int} (hi : i < n) (h1 : rr_ z v i w) (h2 : cf_ (c_r w) (z.2.2.2.1 i) (z.2.2.2.2 i 0) (z.2.2.2.2 i 1) (z.2.2.2.2 i 2) e) (h3 : e ≠ 0) (k1 : rsx_ z (c_r v) n r) : False := by
  obtain ⟨p, p1, p2⟩ := rsx_pre k1 i hi
  obtain ⟨e1, W⟩ := rr_rsx hU h1 p1
  rw [e1] at h2
  exact h3 (cf_fun W.2.2.2 h2 p2)
theorem fail_no2 {z : pz_t} {v : cs_t} {B : Int} (hU : wu_ B (c_r v)) {j n : Nat} {w : cs_t} {r : rw_t} (hj : j < n) (h1 : rr_ z v n w) (k1 : rsx_ z (c_r v) j r) (k2 : ∀ f, cf_ r (z.2.2.2.1 j) (z.2.2.2.2 j 0) (z.2.2.2.2 j 1) (z.2.2.2.2 j 2) f → f ≠ 0) : False := by
  obtain ⟨q, q1, q2⟩ := rr_pre h1 j hj
  obtain ⟨e1, W⟩ := rr_rsx hU q1 k1
  rw [e1] at q2
  exact k2 0 q2 rfl
end
section
/-! the reference looks -/
section ZRE
variable {g : bc_C} {d : Nat} {σ : bc_M} {B : Int} {v : cs_t} {Rr : Option bc_A → bc_M → Prop} {X : Nat → bc_M → Prop}
theorem z_firstJoint {m : Int} (J : jnt_ B σ v) (hB : B ≤ 999000) (hm : bc_in m) (f : ∀ (σ2 : bc_M) (t u : Int), jnt_ B σ2 v → σ2.1 218 ((14 : Nat) : Int) = t → (0 ≤ t ∧ t ≤ 4) → ((t = 1 ∧ ¬ (0 ≤ m ∧ m < (c_r v) 3)) ∨ (t = 0 ∧ (0 ≤ m ∧ m < (c_r v) 3) ∧ u = (c_r v) (16 + 6 * m))) → σ2.2 = σ.2 → Rr (some (bc_I u)) σ2) : bc_Sem g (d + 20) mX11_firstJoint [bc_R 218, bc_I m] σ Rr X := by
  have W := jo_wu J
  have N := J.2.2.1.1
  refine t_X11_firstJoint N W.1 hm (fun c s R => ?_) (fun c s R => ?_)
  · exact f s 1 0 (jo_roc J R) R.1 (by decide) (.inl ⟨rfl, c⟩) R.2.1.2
  · exact f s 0 _ (jo_roc J R) R.1 (by decide) (.inr ⟨rfl, c, rfl⟩) R.2.1.2
theorem z_secondJoint {m : Int} (J : jnt_ B σ v) (hB : B ≤ 999000) (hm : bc_in m) (f : ∀ (σ2 : bc_M) (t u : Int), jnt_ B σ2 v → σ2.1 218 ((14 : Nat) : Int) = t → (0 ≤ t ∧ t ≤ 4) → ((t = 1 ∧ ¬ (0 ≤ m ∧ m < (c_r v) 3)) ∨ (t = 0 ∧ (0 ≤ m ∧ m < (c_r v) 3) ∧ u = (c_r v) (17 + 6 * m))) → σ2.2 = σ.2 → Rr (some (bc_I u)) σ2) : bc_Sem g (d + 20) mX11_secondJoint [bc_R 218, bc_I m] σ Rr X := by
  have W := jo_wu J
  have N := J.2.2.1.1
  refine t_X11_secondJoint N W.1 hm (fun c s R => ?_) (fun c s R => ?_)
  · exact f s 1 0 (jo_roc J R) R.1 (by decide) (.inl ⟨rfl, c⟩) R.2.1.2
  · exact f s 0 _ (jo_roc J R) R.1 (by decide) (.inr ⟨rfl, c, rfl⟩) R.2.1.2
theorem z_crack {m : Int} (J : jnt_ B σ v) (hB : B ≤ 999000) (hm : bc_in m) (f : ∀ (σ2 : bc_M) (t u : Int), jnt_ B σ2 v → σ2.1 218 ((14 : Nat) : Int) = t → (0 ≤ t ∧ t ≤ 4) → ((t = 1 ∧ ¬ (0 ≤ m ∧ m < (c_r v) 3)) ∨ (t = 0 ∧ (0 ≤ m ∧ m < (c_r v) 3) ∧ u = (c_r v) (19 + 6 * m))) → σ2.2 = σ.2 → Rr (some (bc_I u)) σ2) : bc_Sem g (d + 20) mX11_crack [bc_R 218, bc_I m] σ Rr X := by
  have W := jo_wu J
  have N := J.2.2.1.1
  refine t_X11_crack N W.1 hm (fun c s R => ?_) (fun c s R => ?_)
  · exact f s 1 0 (jo_roc J R) R.1 (by decide) (.inl ⟨rfl, c⟩) R.2.1.2
  · exact f s 0 _ (jo_roc J R) R.1 (by decide) (.inr ⟨rfl, c, rfl⟩) R.2.1.2
theorem z_wear {m : Int} (J : jnt_ B σ v) (hB : B ≤ 999000) (hm : bc_in m) (f : ∀ (σ2 : bc_M) (t u : Int), jnt_ B σ2 v → σ2.1 218 ((14 : Nat) : Int) = t → (0 ≤ t ∧ t ≤ 4) → ((t = 1 ∧ ¬ (0 ≤ m ∧ m < (c_r v) 3)) ∨ (t = 0 ∧ (0 ≤ m ∧ m < (c_r v) 3) ∧ u = (c_r v) (20 + 6 * m))) → σ2.2 = σ.2 → Rr (some (bc_I u)) σ2) : bc_Sem g (d + 20) mX11_wear [bc_R 218, bc_I m] σ Rr X := by
  have W := jo_wu J
  have N := J.2.2.1.1
  refine t_X11_wear N W.1 hm (fun c s R => ?_) (fun c s R => ?_)
  · exact f s 1 0 (jo_roc J R) R.1 (by decide) (.inl ⟨rfl, c⟩) R.2.1.2
  · exact f s 0 _ (jo_roc J R) R.1 (by decide) (.inr ⟨rfl, c, rfl⟩) R.2.1.2
theorem z_isAbandoned {m : Int} (J : jnt_ B σ v) (hB : B ≤ 999000) (hm : bc_in m) (f : ∀ (σ2 : bc_M) (t u : Int), jnt_ B σ2 v → σ2.1 218 ((14 : Nat) : Int) = t → (0 ≤ t ∧ t ≤ 4) → ((t = 1 ∧ ¬ (0 ≤ m ∧ m < (c_r v) 3)) ∨ (t = 0 ∧ (0 ≤ m ∧ m < (c_r v) 3) ∧ u = (if (c_r v) (21 + 6 * m) = 1 then 1 else 0))) → σ2.2 = σ.2 → Rr (some (bc_I u)) σ2) : bc_Sem g (d + 20) mX11_isAbandoned [bc_R 218, bc_I m] σ Rr X := by
  have W := jo_wu J
  have N := J.2.2.1.1
  refine t_X11_isAbandoned N W.1 hm (fun c s R => ?_) (fun c s R => ?_)
  · exact f s 1 0 (jo_roc J R) R.1 (by decide) (.inl ⟨rfl, c⟩) R.2.1.2
  · exact f s 0 _ (jo_roc J R) R.1 (by decide) (.inr ⟨rfl, c, rfl⟩) R.2.1.2
theorem z_bearing {m : Int} (J : jnt_ B σ v) (hB : B ≤ 999000) (hm : bc_in m) (f : ∀ (σ2 : bc_M) (t u : Int), jnt_ B σ2 v → σ2.1 218 ((14 : Nat) : Int) = t → (0 ≤ t ∧ t ≤ 4) → ((t = 1 ∧ ¬ (0 ≤ m ∧ m < (c_r v) 3)) ∨ (t = 0 ∧ (0 ≤ m ∧ m < (c_r v) 3) ∧ u = br_ (c_r v) m)) → σ2.2 = σ.2 → Rr (some (bc_I u)) σ2) : bc_Sem g (d + 20) mX11_bearing [bc_R 218, bc_I m] σ Rr X := by
  have W := jo_wu J
  have N := J.2.2.1.1
  refine t_X11_bearing N W.1 hm (fun c s R => ?_) (fun c s R => ?_)
  · exact f s 1 0 (jo_roc J R) R.1 (by decide) (.inl ⟨rfl, c⟩) R.2.1.2
  · exact f s 0 _ (jo_roc J R) R.1 (by decide) (.inr ⟨rfl, c, rfl⟩) R.2.1.2
theorem z_repairCost {m : Int} (J : jnt_ B σ v) (hB : B ≤ 999000) (hm : bc_in m) (f : ∀ (σ2 : bc_M) (t u : Int), jnt_ B σ2 v → σ2.1 218 ((14 : Nat) : Int) = t → (0 ≤ t ∧ t ≤ 4) → ((t = 1 ∧ ¬ (0 ≤ m ∧ m < (c_r v) 3)) ∨ (t = 0 ∧ (0 ≤ m ∧ m < (c_r v) 3) ∧ u = co_ (c_r v) m)) → σ2.2 = σ.2 → Rr (some (bc_I u)) σ2) : bc_Sem g (d + 20) mX11_repairCost [bc_R 218, bc_I m] σ Rr X := by
  have W := jo_wu J
  have N := J.2.2.1.1
  refine t_X11_repairCost N W.1 hm (fun c s R => ?_) (fun c s R => ?_)
  · exact f s 1 0 (jo_roc J R) R.1 (by decide) (.inl ⟨rfl, c⟩) R.2.1.2
  · exact f s 0 _ (jo_roc J R) R.1 (by decide) (.inr ⟨rfl, c, rfl⟩) R.2.1.2
theorem z_isCritical {m : Int} (J : jnt_ B σ v) (hB : B ≤ 999000) (hm : bc_in m) (f : ∀ (σ2 : bc_M) (t u : Int), jnt_ B σ2 v → σ2.1 218 ((14 : Nat) : Int) = t → (0 ≤ t ∧ t ≤ 4) → ((t = 1 ∧ ¬ (0 ≤ m ∧ m < (c_r v) 3)) ∨ (t = 0 ∧ (0 ≤ m ∧ m < (c_r v) 3) ∧ u = acr_ (c_r v) m)) → σ2.2 = σ.2 → Rr (some (bc_I u)) σ2) : bc_Sem g (d + 20) mX11_isCritical [bc_R 218, bc_I m] σ Rr X := by
  have W := jo_wu J
  have N := J.2.2.1.1
  refine t_X11_isCritical N W.1 hm (fun c s R => ?_) (fun c s R => ?_)
  · exact f s 1 0 (jo_roc J R) R.1 (by decide) (.inl ⟨rfl, c⟩) R.2.1.2
  · exact f s 0 _ (jo_roc J R) R.1 (by decide) (.inr ⟨rfl, c, rfl⟩) R.2.1.2
theorem z_isCriticalByRemoval {m : Int} (J : jnt_ B σ v) (hB : B ≤ 999000) (hm : bc_in m) (f : ∀ (σ2 : bc_M) (t u : Int), jnt_ B σ2 v → σ2.1 218 ((14 : Nat) : Int) = t → (0 ≤ t ∧ t ≤ 4) → ((t = 1 ∧ ¬ (0 ≤ m ∧ m < (c_r v) 3)) ∨ (t = 0 ∧ (0 ≤ m ∧ m < (c_r v) 3) ∧ u = acr_ (c_r v) m)) → σ2.2 = σ.2 → Rr (some (bc_I u)) σ2) : bc_Sem g (d + 20) mX11_isCriticalByRemoval [bc_R 218, bc_I m] σ Rr X := by
  have W := jo_wu J
  have N := J.2.2.1.1
  refine t_X11_isCriticalByRemoval N W.1 hm (fun c s R => ?_) (fun c s R => ?_)
  · exact f s 1 0 (jo_roc J R) R.1 (by decide) (.inl ⟨rfl, c⟩) R.2.1.2
  · exact f s 0 _ (jo_roc J R) R.1 (by decide) (.inr ⟨rfl, c, rfl⟩) R.2.1.2
theorem z_strain {m l : Int} (J : jnt_ B σ v) (hB : B ≤ 999000) (hm : bc_in m) (hl : bc_in l) (f : ∀ (σ2 : bc_M) (t : Int) (u : UInt32), jnt_ B σ2 v → σ2.1 218 ((14 : Nat) : Int) = t → (0 ≤ t ∧ t ≤ 4) → (t = stt_ (c_r v) m ∧ (t = 0 → u = stv_ (c_r v) m l)) → σ2.2 = σ.2 → Rr (some (bc_F u)) σ2) : bc_Sem g (d + 20) mX11_strain [bc_R 218, bc_I m, bc_I l] σ Rr X := by
  have W := jo_wu J
  have N := J.2.2.1.1
  have ls := stt_le (c_r v) m
  refine t_X11_strain N W.1 hm (fun c s R => ?_) (fun c s R => ?_)
  · exact f s _ _ (jo_roc J R) R.1 (by omega) ⟨rfl, fun e => absurd e c⟩ R.2.1.2
  · exact f s 0 _ (jo_roc J R) R.1 (by decide) ⟨c.symm, fun _ => rfl⟩ R.2.1.2
theorem z_strainBits {m l : Int} (J : jnt_ B σ v) (hB : B ≤ 999000) (hm : bc_in m) (hl : bc_in l) (f : ∀ (σ2 : bc_M) (t u : Int), jnt_ B σ2 v → σ2.1 218 ((14 : Nat) : Int) = t → (0 ≤ t ∧ t ≤ 4) → (t = stt_ (c_r v) m ∧ (t = 0 → u = (stv_ (c_r v) m l).toInt32.toInt)) → σ2.2 = σ.2 → Rr (some (bc_I u)) σ2) : bc_Sem g (d + 20) mX11_strainBits [bc_R 218, bc_I m, bc_I l] σ Rr X := by
  have W := jo_wu J
  have N := J.2.2.1.1
  have ls := stt_le (c_r v) m
  refine t_X11_strainBits N W.1 hm (fun c s R => ?_) (fun c s R => ?_)
  · exact f s _ _ (jo_roc J R) R.1 (by omega) ⟨rfl, fun e => absurd e c⟩ R.2.1.2
  · exact f s 0 _ (jo_roc J R) R.1 (by decide) ⟨c.symm, fun _ => rfl⟩ R.2.1.2
theorem z_links (J : jnt_ B σ v) (hB : B ≤ 999000) (f : ∀ (σ2 : bc_M) (t : Int) (u : Int64), jnt_ B σ2 v → σ2.1 218 ((14 : Nat) : Int) = t → (0 ≤ t ∧ t ≤ 4) → (t = 0 ∧ u = lnk_ (c_r v) ((c_r v) 3).toNat) → σ2.2 = σ.2 → Rr (some (bc_J u)) σ2) : bc_Sem g (d + 20) mX11_links [bc_R 218] σ Rr X := by
  have W := jo_wu J
  have N := J.2.2.1.1
  refine t_X11_links N W.1 (fun s R => ?_)
  exact f s 0 _ (jo_roc J R) R.1 (by decide) ⟨rfl, rfl⟩ R.2.1.2
theorem z_widestLoad {a b : Int} (J : jnt_ B σ v) (hB : B ≤ 999000) (ha : bc_in a) (hb : bc_in b) (f : ∀ (σ2 : bc_M) (t u : Int), jnt_ B σ2 v → σ2.1 218 ((14 : Nat) : Int) = t → (0 ≤ t ∧ t ≤ 4) → (t = atw_ (c_r v) a b ∧ (t = 0 → u = xw_ (c_r v) a 8 b)) → σ2.2 = σ.2 → Rr (some (bc_I u)) σ2) : bc_Sem g (d + 20) mX11_widestLoad [bc_R 218, bc_I a, bc_I b] σ Rr X := by
  have W := jo_wu J
  have N := J.2.2.1.1
  have la := atw_le (c_r v) a b
  refine t_X11_widestLoad N W.1 ha hb (fun c s R => ?_) (fun c s R => ?_)
  · exact f s _ 0 (jo_roc J R) R.1 (by omega) ⟨rfl, fun e => absurd e c⟩ R.2.1.2
  · exact f s 0 _ (jo_roc J R) R.1 (by decide) ⟨c.symm, fun _ => rfl⟩ R.2.1.2
theorem z_widestLoadByTrial {a b : Int} (J : jnt_ B σ v) (hB : B ≤ 999000) (ha : bc_in a) (hb : bc_in b) (f : ∀ (σ2 : bc_M) (t u : Int), jnt_ B σ2 v → σ2.1 218 ((14 : Nat) : Int) = t → (0 ≤ t ∧ t ≤ 4) → (t = atw_ (c_r v) a b ∧ (t = 0 → u = xw_ (c_r v) a 8 b)) → σ2.2 = σ.2 → Rr (some (bc_I u)) σ2) : bc_Sem g (d + 20) mX11_widestLoadByTrial [bc_R 218, bc_I a, bc_I b] σ Rr X := by
  have W := jo_wu J
  have N := J.2.2.1.1
  have la := atw_le (c_r v) a b
  refine t_X11_widestLoadByTrial N W.1 ha hb (fun c s R => ?_) (fun c s R => ?_)
  · exact f s _ 0 (jo_roc J R) R.1 (by omega) ⟨rfl, fun e => absurd e c⟩ R.2.1.2
  · exact f s 0 _ (jo_roc J R) R.1 (by decide) ⟨c.symm, fun _ => rfl⟩ R.2.1.2
theorem z_wayLength {a b : Int} (J : jnt_ B σ v) (hB : B ≤ 999000) (ha : bc_in a) (hb : bc_in b) (f : ∀ (σ2 : bc_M) (t u : Int), jnt_ B σ2 v → σ2.1 218 ((14 : Nat) : Int) = t → (0 ≤ t ∧ t ≤ 4) → (t = atw_ (c_r v) a b ∧ (t = 0 → u = xm_ (c_r v) (xw_ (c_r v) a 8 b) (-1) b 8 a)) → σ2.2 = σ.2 → Rr (some (bc_I u)) σ2) : bc_Sem g (d + 20) mX11_wayLength [bc_R 218, bc_I a, bc_I b] σ Rr X := by
  have W := jo_wu J
  have N := J.2.2.1.1
  have la := atw_le (c_r v) a b
  refine t_X11_wayLength N W.1 W.2.2.2 ha hb (fun c s R => ?_) (fun c s R => ?_)
  · exact f s _ 0 (jo_roc J R) R.1 (by omega) ⟨rfl, fun e => absurd e c⟩ R.2.1.2
  · exact f s 0 _ (jo_roc J R) R.1 (by decide) ⟨c.symm, fun _ => rfl⟩ R.2.1.2
theorem z_wayJoint {a b i : Int} (J : jnt_ B σ v) (hB : B ≤ 999000) (ha : bc_in a) (hb : bc_in b) (hi : bc_in i) (f : ∀ (σ2 : bc_M) (t u : Int), jnt_ B σ2 v → σ2.1 218 ((14 : Nat) : Int) = t → (0 ≤ t ∧ t ≤ 4) → ((atw_ (c_r v) a b ≠ 0 ∧ t = atw_ (c_r v) a b) ∨ (atw_ (c_r v) a b = 0 ∧ ¬ (0 ≤ i ∧ i ≤ xm_ (c_r v) (xw_ (c_r v) a 8 b) (-1) b 8 a) ∧ t = 3) ∨ (atw_ (c_r v) a b = 0 ∧ (0 ≤ i ∧ i ≤ xm_ (c_r v) (xw_ (c_r v) a 8 b) (-1) b 8 a) ∧ t = 0 ∧ u = wyJ_ (c_r v) a b i)) → σ2.2 = σ.2 → Rr (some (bc_I u)) σ2) : bc_Sem g (d + 20) mX11_wayJoint [bc_R 218, bc_I a, bc_I b, bc_I i] σ Rr X := by
  have W := jo_wu J
  have N := J.2.2.1.1
  have la := atw_le (c_r v) a b
  refine t_X11_wayJoint N W.1 W.2.2.2 ha hb hi (fun c s R => ?_) (fun c e s R => ?_) (fun c e s R => ?_)
  · exact f s _ 0 (jo_roc J R) R.1 (by omega) (.inl ⟨c, rfl⟩) R.2.1.2
  · exact f s 3 0 (jo_roc J R) R.1 (by decide) (.inr (.inl ⟨c, e, rfl⟩)) R.2.1.2
  · exact f s 0 _ (jo_roc J R) R.1 (by decide) (.inr (.inr ⟨c, e, rfl, rfl⟩)) R.2.1.2
theorem z_affordableLoad {a b : Int} (J : jnt_ B σ v) (hB : B ≤ 999000) (ha : bc_in a) (hb : bc_in b) (f : ∀ (σ2 : bc_M) (t u : Int), jnt_ B σ2 v → σ2.1 218 ((14 : Nat) : Int) = t → (0 ≤ t ∧ t ≤ 4) → (True) → σ2.2 = σ.2 → Rr (some (bc_I u)) σ2) : bc_Sem g (d + 20) mX11_affordableLoad [bc_R 218, bc_I a, bc_I b] σ Rr X := by
  have W := jo_wu J
  have N := J.2.2.1.1
  refine t_X11_affordableLoad N W.1 W.2.2.1 (by omega) ha hb (fun t x s ht hx R => ?_)
  exact f s t x (jo_roc J R) R.1 (by omega) trivial R.2.1.2
theorem z_affordableLoadByTable {a b : Int} (J : jnt_ B σ v) (hB : B ≤ 999000) (ha : bc_in a) (hb : bc_in b) (f : ∀ (σ2 : bc_M) (t u : Int), jnt_ B σ2 v → σ2.1 218 ((14 : Nat) : Int) = t → (0 ≤ t ∧ t ≤ 4) → (True) → σ2.2 = σ.2 → Rr (some (bc_I u)) σ2) : bc_Sem g (d + 20) mX11_affordableLoadByTable [bc_R 218, bc_I a, bc_I b] σ Rr X := by
  have W := jo_wu J
  have N := J.2.2.1.1
  refine t_X11_affordableLoadByTable N W.1 W.2.2.1 (by omega) ha hb (fun t x s ht hx R => ?_)
  exact f s t x (jo_roc J R) R.1 (by omega) trivial R.2.1.2
theorem z_memberByBearing {a : Int} (J : jnt_ B σ v) (hB : B ≤ 999000) (ha : bc_in a) (f : ∀ (σ2 : bc_M) (t u : Int), jnt_ B σ2 v → σ2.1 218 ((14 : Nat) : Int) = t → (0 ≤ t ∧ t ≤ 4) → ((t = 1 ∧ rkx_ (c_r v) a ((c_r v) 3) (-1)) ∨ (t = 0 ∧ 0 ≤ u ∧ rkx_ (c_r v) a ((c_r v) 3) u)) → σ2.2 = σ.2 → Rr (some (bc_I u)) σ2) : bc_Sem g (d + 20) mX11_memberByBearing [bc_R 218, bc_I a] σ Rr X := by
  have W := jo_wu J
  have N := J.2.2.1.1
  refine t_X11_memberByBearing N W.1 ha (fun c s R => ?_) (fun x x0 c s R => ?_)
  · exact f s 1 0 (jo_roc J R) R.1 (by decide) (.inl ⟨rfl, c⟩) R.2.1.2
  · exact f s 0 x (jo_roc J R) R.1 (by decide) (.inr ⟨rfl, x0, c⟩) R.2.1.2
theorem z_vowAt {a : Int} (J : jnt_ B σ v) (hB : B ≤ 999000) (ha : bc_in a) (f : ∀ (σ2 : bc_M) (t u : Int), jnt_ B σ2 v → σ2.1 218 ((14 : Nat) : Int) = t → (0 ≤ t ∧ t ≤ 4) → ((t = 1 ∧ vkx_ (c_r v) a ((c_r v) 4) (-1)) ∨ (t = 0 ∧ 0 ≤ u ∧ vkx_ (c_r v) a ((c_r v) 4) u)) → σ2.2 = σ.2 → Rr (some (bc_I u)) σ2) : bc_Sem g (d + 20) mX11_vowAt [bc_R 218, bc_I a] σ Rr X := by
  have W := jo_wu J
  have N := J.2.2.1.1
  refine t_X11_vowAt N W.2.2.1 (by omega) ha (fun c s R => ?_) (fun x x0 c s R => ?_)
  · exact f s 1 0 (jo_roc J R) R.1 (by decide) (.inl ⟨rfl, c⟩) R.2.1.2
  · exact f s 0 x (jo_roc J R) R.1 (by decide) (.inr ⟨rfl, x0, c⟩) R.2.1.2
theorem z_dueDay {a : Int} (J : jnt_ B σ v) (hB : B ≤ 999000) (ha : bc_in a) (f : ∀ (σ2 : bc_M) (t u : Int), jnt_ B σ2 v → σ2.1 218 ((14 : Nat) : Int) = t → (0 ≤ t ∧ t ≤ 4) → ((t = 1 ∧ vwp_ (c_r v) a (-1)) ∨ (t = 0 ∧ ∃ x : Int, 0 ≤ x ∧ vwp_ (c_r v) a x ∧ u = (c_r v) (113 + 3 * x))) → σ2.2 = σ.2 → Rr (some (bc_I u)) σ2) : bc_Sem g (d + 20) mX11_dueDay [bc_R 218, bc_I a] σ Rr X := by
  have W := jo_wu J
  have N := J.2.2.1.1
  refine t_X11_dueDay N W.2.2.1 (by omega) ha (fun c s R => ?_) (fun x x0 c s R => ?_)
  · exact f s 1 0 (jo_roc J R) R.1 (by decide) (.inl ⟨rfl, c⟩) R.2.1.2
  · exact f s 0 _ (jo_roc J R) R.1 (by decide) (.inr ⟨rfl, x, x0, c, rfl⟩) R.2.1.2
theorem z_amount {a : Int} (J : jnt_ B σ v) (hB : B ≤ 999000) (ha : bc_in a) (f : ∀ (σ2 : bc_M) (t u : Int), jnt_ B σ2 v → σ2.1 218 ((14 : Nat) : Int) = t → (0 ≤ t ∧ t ≤ 4) → ((t = 1 ∧ vwp_ (c_r v) a (-1)) ∨ (t = 0 ∧ ∃ x : Int, 0 ≤ x ∧ vwp_ (c_r v) a x ∧ u = (c_r v) (114 + 3 * x))) → σ2.2 = σ.2 → Rr (some (bc_I u)) σ2) : bc_Sem g (d + 20) mX11_amount [bc_R 218, bc_I a] σ Rr X := by
  have W := jo_wu J
  have N := J.2.2.1.1
  refine t_X11_amount N W.2.2.1 (by omega) ha (fun c s R => ?_) (fun x x0 c s R => ?_)
  · exact f s 1 0 (jo_roc J R) R.1 (by decide) (.inl ⟨rfl, c⟩) R.2.1.2
  · exact f s 0 _ (jo_roc J R) R.1 (by decide) (.inr ⟨rfl, x, x0, c, rfl⟩) R.2.1.2
theorem z_greatestVow {a : Int} (J : jnt_ B σ v) (hB : B ≤ 999000) (ha : bc_in a) (f : ∀ (σ2 : bc_M) (t u : Int), jnt_ B σ2 v → σ2.1 218 ((14 : Nat) : Int) = t → (0 ≤ t ∧ t ≤ 4) → ((t = 1 ∧ ¬ ((c_r v) 0 < a ∧ a ≤ (c_r v) 0 + 50)) ∨ (t = 2 ∧ ((c_r v) 0 < a ∧ a ≤ (c_r v) 0 + 50) ∧ kpa_ (c_r v) 0) ∨ (t = 0 ∧ ((c_r v) 0 < a ∧ a ≤ (c_r v) 0 + 50) ∧ kpa_ (c_r v) 1 ∧ gv_ (c_r v) a ((c_r v) 4) u)) → σ2.2 = σ.2 → Rr (some (bc_I u)) σ2) : bc_Sem g (d + 20) mX11_greatestVow [bc_R 218, bc_I a] σ Rr X := by
  have W := jo_wu J
  have N := J.2.2.1.1
  refine t_X11_greatestVow N W.2.2.1 (by omega) ha (fun c s R => ?_) (fun c k s R => ?_) (fun c k x hx s R => ?_)
  · exact f s 1 0 (jo_roc J R) R.1 (by decide) (.inl ⟨rfl, c⟩) R.2.1.2
  · exact f s 2 0 (jo_roc J R) R.1 (by decide) (.inr (.inl ⟨rfl, c, k⟩)) R.2.1.2
  · exact f s 0 x (jo_roc J R) R.1 (by decide) (.inr (.inr ⟨rfl, c, k, hx⟩)) R.2.1.2
theorem z_canKeepAll (J : jnt_ B σ v) (hB : B ≤ 999000) (f : ∀ (σ2 : bc_M) (t u : Int), jnt_ B σ2 v → σ2.1 218 ((14 : Nat) : Int) = t → (0 ≤ t ∧ t ≤ 4) → (t = 0 ∧ kpa_ (c_r v) u) → σ2.2 = σ.2 → Rr (some (bc_I u)) σ2) : bc_Sem g (d + 20) mX11_canKeepAll [bc_R 218] σ Rr X := by
  have W := jo_wu J
  have N := J.2.2.1.1
  refine t_X11_canKeepAll N W.2.2.1 (by omega) (fun s x k R => ?_)
  exact f s 0 x (jo_roc J R) R.1 (by decide) ⟨rfl, k⟩ R.2.1.2
theorem z_canKeepAllBySums (J : jnt_ B σ v) (hB : B ≤ 999000) (f : ∀ (σ2 : bc_M) (t u : Int), jnt_ B σ2 v → σ2.1 218 ((14 : Nat) : Int) = t → (0 ≤ t ∧ t ≤ 4) → (t = 0 ∧ kpa_ (c_r v) u) → σ2.2 = σ.2 → Rr (some (bc_I u)) σ2) : bc_Sem g (d + 20) mX11_canKeepAllBySums [bc_R 218] σ Rr X := by
  have W := jo_wu J
  have N := J.2.2.1.1
  refine t_X11_canKeepAllBySums N W.2.2.1 (by omega) (fun s x k R => ?_)
  exact f s 0 x (jo_roc J R) R.1 (by decide) ⟨rfl, k⟩ R.2.1.2
theorem z_memberCount (J : jnt_ B σ v) (hB : B ≤ 999000) (f : ∀ (σ2 : bc_M) (t u : Int), jnt_ B σ2 v → σ2.1 218 ((14 : Nat) : Int) = t → (0 ≤ t ∧ t ≤ 4) → (t = 0 ∧ u = (c_r v) 3) → σ2.2 = σ.2 → Rr (some (bc_I u)) σ2) : bc_Sem g (d + 20) mX11_memberCount [bc_R 218] σ Rr X := by
  have W := jo_wu J
  have N := J.2.2.1.1
  refine t_X11_memberCount N (fun s R => ?_)
  exact f s 0 _ (jo_roc J R) R.1 (by decide) ⟨rfl, rfl⟩ R.2.1.2
theorem z_vowCount (J : jnt_ B σ v) (hB : B ≤ 999000) (f : ∀ (σ2 : bc_M) (t u : Int), jnt_ B σ2 v → σ2.1 218 ((14 : Nat) : Int) = t → (0 ≤ t ∧ t ≤ 4) → (t = 0 ∧ u = (c_r v) 4) → σ2.2 = σ.2 → Rr (some (bc_I u)) σ2) : bc_Sem g (d + 20) mX11_vowCount [bc_R 218] σ Rr X := by
  have W := jo_wu J
  have N := J.2.2.1.1
  refine t_X11_vowCount N (fun s R => ?_)
  exact f s 0 _ (jo_roc J R) R.1 (by decide) ⟨rfl, rfl⟩ R.2.1.2
theorem z_keptTotal (J : jnt_ B σ v) (hB : B ≤ 999000) (f : ∀ (σ2 : bc_M) (t u : Int), jnt_ B σ2 v → σ2.1 218 ((14 : Nat) : Int) = t → (0 ≤ t ∧ t ≤ 4) → (t = 0 ∧ u = (c_r v) 6) → σ2.2 = σ.2 → Rr (some (bc_I u)) σ2) : bc_Sem g (d + 20) mX11_keptTotal [bc_R 218] σ Rr X := by
  have W := jo_wu J
  have N := J.2.2.1.1
  refine t_X11_keptTotal N (fun s R => ?_)
  exact f s 0 _ (jo_roc J R) R.1 (by decide) ⟨rfl, rfl⟩ R.2.1.2
theorem z_brokenTotal (J : jnt_ B σ v) (hB : B ≤ 999000) (f : ∀ (σ2 : bc_M) (t u : Int), jnt_ B σ2 v → σ2.1 218 ((14 : Nat) : Int) = t → (0 ≤ t ∧ t ≤ 4) → (t = 0 ∧ u = (c_r v) 7) → σ2.2 = σ.2 → Rr (some (bc_I u)) σ2) : bc_Sem g (d + 20) mX11_brokenTotal [bc_R 218] σ Rr X := by
  have W := jo_wu J
  have N := J.2.2.1.1
  refine t_X11_brokenTotal N (fun s R => ?_)
  exact f s 0 _ (jo_roc J R) R.1 (by decide) ⟨rfl, rfl⟩ R.2.1.2
theorem z_steel (J : jnt_ B σ v) (hB : B ≤ 999000) (f : ∀ (σ2 : bc_M) (t u : Int), jnt_ B σ2 v → σ2.1 218 ((14 : Nat) : Int) = t → (0 ≤ t ∧ t ≤ 4) → (t = 0 ∧ u = (c_r v) 1) → σ2.2 = σ.2 → Rr (some (bc_I u)) σ2) : bc_Sem g (d + 20) mX11_steel [bc_R 218] σ Rr X := by
  have W := jo_wu J
  have N := J.2.2.1.1
  refine t_X11_steel N (fun s R => ?_)
  exact f s 0 _ (jo_roc J R) R.1 (by decide) ⟨rfl, rfl⟩ R.2.1.2
theorem z_day (J : jnt_ B σ v) (hB : B ≤ 999000) (f : ∀ (σ2 : bc_M) (t u : Int), jnt_ B σ2 v → σ2.1 218 ((14 : Nat) : Int) = t → (0 ≤ t ∧ t ≤ 4) → (t = 0 ∧ u = (c_r v) 0) → σ2.2 = σ.2 → Rr (some (bc_I u)) σ2) : bc_Sem g (d + 20) mX11_day [bc_R 218] σ Rr X := by
  have W := jo_wu J
  have N := J.2.2.1.1
  refine t_X11_day N (fun s R => ?_)
  exact f s 0 _ (jo_roc J R) R.1 (by decide) ⟨rfl, rfl⟩ R.2.1.2
theorem z_nicheKind (J : jnt_ B σ v) (hB : B ≤ 999000) (f : ∀ (σ2 : bc_M) (t u : Int), jnt_ B σ2 v → σ2.1 218 ((14 : Nat) : Int) = t → (0 ≤ t ∧ t ≤ 4) → (t = 0 ∧ u = (c_r v) 11) → σ2.2 = σ.2 → Rr (some (bc_I u)) σ2) : bc_Sem g (d + 20) mX11_nicheKind [bc_R 218] σ Rr X := by
  have W := jo_wu J
  have N := J.2.2.1.1
  refine t_X11_nicheKind N W.2.1 (fun s R => ?_)
  exact f s 0 _ (jo_roc J R) R.1 (by decide) ⟨rfl, rfl⟩ R.2.1.2
theorem z_nicheWeight (J : jnt_ B σ v) (hB : B ≤ 999000) (f : ∀ (σ2 : bc_M) (t u : Int), jnt_ B σ2 v → σ2.1 218 ((14 : Nat) : Int) = t → (0 ≤ t ∧ t ≤ 4) → (t = 0 ∧ u = tw_ (c_r v)) → σ2.2 = σ.2 → Rr (some (bc_I u)) σ2) : bc_Sem g (d + 20) mX11_nicheWeight [bc_R 218] σ Rr X := by
  have W := jo_wu J
  have N := J.2.2.1.1
  refine t_X11_nicheWeight N (fun s R => ?_)
  exact f s 0 _ (jo_roc J R) R.1 (by decide) ⟨rfl, rfl⟩ R.2.1.2
theorem z_steelByAccounts (J : jnt_ B σ v) (hB : B ≤ 999000) (f : ∀ (σ2 : bc_M) (t u : Int), jnt_ B σ2 v → σ2.1 218 ((14 : Nat) : Int) = t → (0 ≤ t ∧ t ≤ 4) → (t = 0 ∧ u = (c_r v) 1) → σ2.2 = σ.2 → Rr (some (bc_I u)) σ2) : bc_Sem g (d + 20) mX11_steelByAccounts [bc_R 218] σ Rr X := by
  have W := jo_wu J
  have N := J.2.2.1.1
  have e1 := W.2.2.1.2.2.2.2.2.2.2.2.2.2.2.1
  refine t_X11_steelByAccounts N (fun s R => ?_)
  exact f s 0 _ (jo_roc J R) R.1 (by decide) ⟨rfl, e1.symm⟩ R.2.1.2
theorem z_isConsistent (J : jnt_ B σ v) (hB : B ≤ 999000) (f : ∀ (σ2 : bc_M) (t u : Int), jnt_ B σ2 v → σ2.1 218 ((14 : Nat) : Int) = t → (0 ≤ t ∧ t ≤ 4) → (t = 0 ∧ u = 1) → σ2.2 = σ.2 → Rr (some (bc_I u)) σ2) : bc_Sem g (d + 20) mX11_isConsistent [bc_R 218] σ Rr X := by
  have W := jo_wu J
  have N := J.2.2.1.1
  refine t_X11_isConsistent (fun s R => ?_)
  exact f s 0 _ (jo_roc J R) R.1 (by decide) ⟨rfl, rfl⟩ R.2.1.2
theorem z_meanBearing (J : jnt_ B σ v) (hB : B ≤ 999000) (f : ∀ (σ2 : bc_M) (t : Int) (u : UInt64), jnt_ B σ2 v → σ2.1 218 ((14 : Nat) : Int) = t → (0 ≤ t ∧ t ≤ 4) → ((t = 1 ∧ (c_r v) 3 = 0) ∨ (t = 0 ∧ 0 < (c_r v) 3 ∧ u = FP.ddiv (FP.i2d (Int32.ofInt (sm_ (br_ (c_r v)) ((c_r v) 3).toNat))) (FP.i2d (Int32.ofInt ((c_r v) 3))))) → σ2.2 = σ.2 → Rr (some (bc_D u)) σ2) : bc_Sem g (d + 20) mX11_meanBearing [bc_R 218] σ Rr X := by
  have W := jo_wu J
  have N := J.2.2.1.1
  refine t_X11_meanBearing N W.1 (fun c s R => ?_) (fun c s R => ?_)
  · exact f s 1 _ (jo_roc J R) R.1 (by decide) (.inl ⟨rfl, c⟩) R.2.1.2
  · exact f s 0 _ (jo_roc J R) R.1 (by decide) (.inr ⟨rfl, c, rfl⟩) R.2.1.2
theorem z_crackedShare (J : jnt_ B σ v) (hB : B ≤ 999000) (f : ∀ (σ2 : bc_M) (t : Int) (u : UInt32), jnt_ B σ2 v → σ2.1 218 ((14 : Nat) : Int) = t → (0 ≤ t ∧ t ≤ 4) → ((t = 1 ∧ (c_r v) 3 = 0) ∨ (t = 0 ∧ 0 < (c_r v) 3 ∧ u = FP.fdiv (FP.i2f (Int32.ofInt (sm_ (fun k => if 0 < (c_r v) (19 + 6 * k) then 1 else 0) ((c_r v) 3).toNat))) (FP.i2f (Int32.ofInt ((c_r v) 3))))) → σ2.2 = σ.2 → Rr (some (bc_F u)) σ2) : bc_Sem g (d + 20) mX11_crackedShare [bc_R 218] σ Rr X := by
  have W := jo_wu J
  have N := J.2.2.1.1
  refine t_X11_crackedShare N W.1 (fun c s R => ?_) (fun c s R => ?_)
  · exact f s 1 _ (jo_roc J R) R.1 (by decide) (.inl ⟨rfl, c⟩) R.2.1.2
  · exact f s 0 _ (jo_roc J R) R.1 (by decide) (.inr ⟨rfl, c, rfl⟩) R.2.1.2
theorem z_outputAt {i : Int} (J : jnt_ B σ v) (hB : B ≤ 999000) (hi : bc_in i) (f : ∀ (σ2 : bc_M) (t u : Int), jnt_ B σ2 v → σ2.1 218 ((14 : Nat) : Int) = t → (0 ≤ t ∧ t ≤ 4) → ((t = 1 ∧ ¬ (0 ≤ i ∧ i < (c_o v).length)) ∨ (t = 0 ∧ (0 ≤ i ∧ i < (c_o v).length) ∧ u = tg_ (c_o v) i)) → σ2.2 = σ.2 → Rr (some (bc_I u)) σ2) : bc_Sem g (d + 20) mX11_outputAt [bc_R 218, bc_I i] σ Rr X := by
  have W := jo_wu J
  have N := J.2.2.1.1
  refine t_X11_outputAt J.2.2.2.2.2.2.2.2.1 hi (fun c s R => ?_) (fun c s R => ?_)
  · exact f s 1 0 (jo_roc J R) R.1 (by decide) (.inl ⟨rfl, c⟩) R.2.1.2
  · exact f s 0 _ (jo_roc J R) R.1 (by decide) (.inr ⟨rfl, c, rfl⟩) R.2.1.2
theorem z_errorPosition (J : jnt_ B σ v) (hB : B ≤ 999000) (f : ∀ (σ2 : bc_M) (t u : Int), jnt_ B σ2 v → σ2.1 218 ((14 : Nat) : Int) = t → (0 ≤ t ∧ t ≤ 4) → ((t = 1 ∧ c_le v = -1) ∨ (t = 0 ∧ c_le v ≠ -1 ∧ u = c_le v)) → σ2.2 = σ.2 → Rr (some (bc_I u)) σ2) : bc_Sem g (d + 20) mX11_errorPosition [bc_R 218] σ Rr X := by
  have W := jo_wu J
  have N := J.2.2.1.1
  refine t_X11_errorPosition J.2.2.2.2.2.1 J.1.2.2.2.2.2.2.2.2.1.2 (fun c s R => ?_) (fun c s R => ?_)
  · exact f s 1 0 (jo_roc J R) R.1 (by decide) (.inl ⟨rfl, c⟩) R.2.1.2
  · exact f s 0 _ (jo_roc J R) R.1 (by decide) (.inr ⟨rfl, c, rfl⟩) R.2.1.2
theorem z_failedCommand (J : jnt_ B σ v) (hB : B ≤ 999000) (f : ∀ (σ2 : bc_M) (t u : Int), jnt_ B σ2 v → σ2.1 218 ((14 : Nat) : Int) = t → (0 ≤ t ∧ t ≤ 4) → ((t = 1 ∧ c_lf v = -1) ∨ (t = 0 ∧ c_lf v ≠ -1 ∧ u = c_lf v)) → σ2.2 = σ.2 → Rr (some (bc_I u)) σ2) : bc_Sem g (d + 20) mX11_failedCommand [bc_R 218] σ Rr X := by
  have W := jo_wu J
  have N := J.2.2.1.1
  have lf := J.1.2.2.2.2.2.2.2.2.2.2
  refine t_X11_failedCommand J.2.2.2.2.2.2.1 (by omega) (fun c s R => ?_) (fun c s R => ?_)
  · exact f s 1 0 (jo_roc J R) R.1 (by decide) (.inl ⟨rfl, c⟩) R.2.1.2
  · exact f s 0 _ (jo_roc J R) R.1 (by decide) (.inr ⟨rfl, c, rfl⟩) R.2.1.2
end ZRE
end
section
/-! the reference changes as the class did -/
theorem jo_spo2 {B B1 t : Int} {σ σ1 σ2 : bc_M} {v v1 : cs_t} {r : rw_t} {h : List rw_t} {n : Int} (J : jnt_ B σ v) (F : fa_ B1 σ1 v1) (y : yo_ σ σ1) (hv : ∀ s, rf2_ s (u_h (u_r v r) h n) → rf2_ s v1) (U : ujs_ v1) (S : spo_ t r h σ1 σ2) : jnt_ B1 σ2 v1 :=
  ⟨fa_ref F S.2.2.1 (by omega), U, hv _ (rf2_gen (rf2_yo J.2.2 y) S.1 S.2.2.1 S.2.2.2 (by decide) (by decide) (by decide) (by decide) (by decide) (by decide) (by decide) (by decide) (by decide))⟩
theorem rf2_rot {σ σ' : bc_M} {v : cs_t} {o : List Int} (H : rf2_ σ v) (L : liq_ σ' o) (R : rot_ σ σ') : rf2_ σ' (u_o v o) := by
  obtain ⟨⟨g1, g2⟩, h2, h3, h4, h5, h6, h7, h8⟩ := H
  obtain ⟨-, hf, hj⟩ := R
  exact ⟨⟨nw_fr g1 hf (by decide), mh_fr g2 hf (by decide) (hj _ (by decide))⟩, fun e => nw_fr (h2 e) hf (by decide), by rw [hj ((4 : Nat) : Int) (by decide)]; exact h3, by rw [hj ((6 : Nat) : Int) (by decide)]; exact h4, by rw [hj ((7 : Nat) : Int) (by decide)]; exact h5, tyt_fr h6 hf (by decide) (hj _ (by decide)), L, fun j => by rw [hf.1 227 (by decide)]; exact h8 j⟩
theorem rf2_typ {σ σ' : bc_M} {v : cs_t} {l : List Int} (H : rf2_ σ v) (L : tyt_ σ' l) (hf : fr_ (fun k => k = 218 ∨ k = 225) σ σ') (hj : fj_ (fun j => j = 11 ∨ j = 14) σ σ') : rf2_ σ' (u_l v l) := by
  obtain ⟨⟨g1, g2⟩, h2, h3, h4, h5, h6, h7, h8⟩ := H
  exact ⟨⟨nw_fr g1 hf (by decide), mh_fr g2 hf (by decide) (hj _ (by decide))⟩, fun e => nw_fr (h2 e) hf (by decide), by rw [hj ((4 : Nat) : Int) (by decide)]; exact h3, by rw [hj ((6 : Nat) : Int) (by decide)]; exact h4, by rw [hj ((7 : Nat) : Int) (by decide)]; exact h5, L, liq_fr h7 hf (by decide) (hj _ (by decide)), fun j => by rw [hf.1 227 (by decide)]; exact h8 j⟩
theorem rf2_scr {t : Int} {σ s : bc_M} {v w : cs_t} (H : rf2_ σ v) (Fi : rfin_ t σ s) (G : rg_ s (c_r w) (c_h w)) (e6 : s.1 218 ((6 : Nat) : Int) = c_le w) (e7 : s.1 218 ((7 : Nat) : Int) = c_lf w) (w1 : c_l w = []) (w2 : c_o w = c_o v) (w3 : c_hs w = c_hs v) (w4 : c_sn w = c_sn v) : rf2_ s w := by
  obtain ⟨-, h2, h3, h4, h5, h6, h7, h8⟩ := H
  obtain ⟨f1, f2, f3, hf, hj⟩ := Fi
  refine ⟨G, fun e => ?_, ?_, e6, e7, ?_, ?_, f3⟩
  · rw [w4]
    exact nw_fr (h2 (by rw [← w3]; exact e)) hf (by decide)
  · rw [hj ((4 : Nat) : Int) (by omega), w3]
    exact h3
  · rw [w1]
    exact ⟨f2, by decide, fun j hj => absurd hj (Nat.not_lt_zero _)⟩
  · rw [w2]
    exact liq_fr h7 hf (by decide) (hj _ (by omega))
theorem yv_vis {v : cs_t} (a b : Int) : (∀ s, rf2_ s v → rf2_ s (yv_ v a b)) ∧ (ujs_ v → ujs_ (yv_ v a b)) := by
  unfold yv_
  split
  · exact ⟨fun _ h => h, fun h => h⟩
  · exact ⟨fun _ h => h, fun h => h⟩
section ZCH
variable {g : bc_C} {d : Nat} {σ σ0 : bc_M} {B t x : Int} {v v1 : cs_t} {Rr : Option bc_A → bc_M → Prop} {X : Nat → bc_M → Prop}
theorem z_addMember {a b s : Int} (J : jnt_ B σ0 v) (hB : B ≤ 999000) (F : fa_ (B + 480) σ v1) (y : yo_ σ0 σ) (ha : bc_in a) (hb : bc_in b) (hs : bc_in s) (H : (t ≠ 0 ∧ v1 = v ∧ mq_ (c_r v) a b s t) ∨ (t = 0 ∧ v1 = u_r (rm_ v) (ra_ (c_r v) a b s) ∧ mq_ (c_r v) a b s 0 ∧ x = (c_r v) 3)) (f : ∀ (σ2 : bc_M) (u : Int), jnt_ (B + 480) σ2 v1 → σ2.1 218 ((14 : Nat) : Int) = t → (t = 0 → u = x) → σ2.2 = σ.2 → Rr (some (bc_I u)) σ2) : bc_Sem g (d + 20) mX11_addMember [bc_R 218, bc_I a, bc_I b, bc_I s] σ Rr X := by
  have W := jo_wu J
  have R0 := rf2_yo J.2.2 y
  have G := R0.1
  have hh := J.2.1.2.1
  have hu0 := J.2.1.1
  rcases H with ⟨tn, rfl, hf⟩ | ⟨rfl, rfl, hf, rfl⟩
  · have ad := mq_adr hu0 hf
    refine t_X11_addMember G W.1 ha hb hs (fun t2 a nt s S => ?_) (fun a s S => ?_)
    · have e := adr_eq a ad
      subst e
      exact f s 0 (jo_spo (n := c_n v1) J F y rfl hu0 hh S) (S.2.1) (fun e => absurd e tn) S.2.2.1.2
    · exact absurd (adr_eq ad a) tn
  · have ad := mq_adr hu0 hf
    refine t_X11_addMember G W.1 ha hb hs (fun t2 a nt s S => ?_) (fun a s S => ?_)
    · exact absurd (adr_eq a ad) nt
    · have hu := uj_ra W.1 hu0 ad
      exact f s _ (jo_spo J F y rfl hu (ujs_hr hh hu0) S) S.2.1 (fun _ => rfl) S.2.2.1.2
theorem z_makeVow {a u : Int} (J : jnt_ B σ0 v) (hB : B ≤ 999000) (F : fa_ (B + 480) σ v1) (y : yo_ σ0 σ) (ha : bc_in a) (hu : bc_in u) (H : (t ≠ 0 ∧ v1 = v ∧ vq_ (c_r v) a u ≠ 0 ∧ t = (if vq_ (c_r v) a u = 2 then 1 else 2)) ∨ (t = 0 ∧ v1 = u_r (rm_ v) (rv_ (c_r v) a u) ∧ vq_ (c_r v) a u = 0 ∧ x = (c_r v) 5)) (f : ∀ (σ2 : bc_M) (u : Int), jnt_ (B + 480) σ2 v1 → σ2.1 218 ((14 : Nat) : Int) = t → (t = 0 → u = x) → σ2.2 = σ.2 → Rr (some (bc_I u)) σ2) : bc_Sem g (d + 20) mX11_makeVow [bc_R 218, bc_I a, bc_I u] σ Rr X := by
  have W := jo_wu J
  have R0 := rf2_yo J.2.2 y
  have G := R0.1
  have hh := J.2.1.2.1
  have hu0 := J.2.1.1
  have w0 := W.2.2.1.1
  have w4 := W.2.2.1.2.2.2.1
  rcases H with ⟨tn, rfl, hne, ht⟩ | ⟨rfl, rfl, hf, rfl⟩
  · refine t_X11_makeVow G (by omega) w4 ha hu (fun c s S1 S2 S3 S4 => ?_) (fun c s S1 S2 S3 S4 => absurd c hne)
    rw [← ht] at S2
    have S := spo_ex S1 S2 S3 S4
    exact f s 0 (jo_spo (n := c_n v1) J F y rfl hu0 hh S) (S.2.1) (fun e => absurd e tn) S.2.2.1.2
  · refine t_X11_makeVow G (by omega) w4 ha hu (fun c s S1 S2 S3 S4 => absurd hf c) (fun c s S1 S2 S3 S4 => ?_)
    have S := spo_ex S1 S2 S3 S4
    have hu := (wu_step W ((cf_2 _ a u 0 _).mpr hf.symm) (.inr (.inr (.inl ⟨rfl, rfl⟩)))).2.2.2
    exact f s _ (jo_spo J F y rfl hu (ujs_hr hh hu0) S) S.2.1 (fun _ => rfl) S.2.2.1.2
theorem z_setForge {n : Int} (J : jnt_ B σ0 v) (hB : B ≤ 999000) (F : fa_ (B + 480) σ v1) (y : yo_ σ0 σ) (hn : bc_in n) (H : (t ≠ 0 ∧ v1 = v ∧ fq1_ n ≠ 0 ∧ t = 1) ∨ (t = 0 ∧ v1 = u_r (rm_ v) (up_ (c_r v) 2 n) ∧ fq1_ n = 0 ∧ x = (c_r v) 2)) (f : ∀ (σ2 : bc_M) (u : Int), jnt_ (B + 480) σ2 v1 → σ2.1 218 ((14 : Nat) : Int) = t → (t = 0 → u = x) → σ2.2 = σ.2 → Rr (some (bc_I u)) σ2) : bc_Sem g (d + 20) mX11_setForge [bc_R 218, bc_I n] σ Rr X := by
  have W := jo_wu J
  have R0 := rf2_yo J.2.2 y
  have G := R0.1
  have hh := J.2.1.2.1
  have hu0 := J.2.1.1
  have k : fq1_ n = if 0 ≤ n ∧ n ≤ 20 then 0 else 2 := by
    unfold fq1_
    (repeat' split) <;> omega
  rcases H with ⟨tn, rfl, hne, rfl⟩ | ⟨rfl, rfl, hf, rfl⟩
  · refine t_X11_setForge G hn (fun c s S1 S2 S3 S4 => ?_) (fun c0 c1 s S1 S2 S3 S4 => absurd (k.trans (if_pos ⟨c0, c1⟩)) hne)
    have S := spo_ex S1 S2 S3 S4
    exact f s 0 (jo_spo (n := c_n v1) J F y rfl hu0 hh S) (S.2.1) (fun e => absurd e tn) S.2.2.1.2
  · refine t_X11_setForge G hn (fun c s S1 S2 S3 S4 => absurd (hf.symm.trans (k.trans (if_neg c))) (by decide)) (fun c0 c1 s S1 S2 S3 S4 => ?_)
    have S := spo_ex S1 S2 S3 S4
    have hu := (wu_step W ((cf_3 _ n 0 0 _).mpr hf.symm) (.inr (.inr (.inr (.inl ⟨rfl, rfl⟩))))).2.2.2
    exact f s _ (jo_spo J F y rfl hu (ujs_hr hh hu0) S) S.2.1 (fun _ => rfl) S.2.2.1.2
theorem z_repair {m : Int} (J : jnt_ B σ0 v) (hB : B ≤ 999000) (F : fa_ (B + 480) σ v1) (y : yo_ σ0 σ) (hm : bc_in m) (H : (t ≠ 0 ∧ v1 = v ∧ eq_ (c_r v) m ≠ 0 ∧ t = (if eq_ (c_r v) m = 1 then 1 else if eq_ (c_r v) m = 3 then 2 else 3)) ∨ (t = 0 ∧ v1 = u_r (rm_ v) (rn_ (rs_ (c_r v) (co_ (c_r v) m)) m) ∧ eq_ (c_r v) m = 0 ∧ x = co_ (c_r v) m)) (f : ∀ (σ2 : bc_M) (u : Int), jnt_ (B + 480) σ2 v1 → σ2.1 218 ((14 : Nat) : Int) = t → (t = 0 → u = x) → σ2.2 = σ.2 → Rr (some (bc_I u)) σ2) : bc_Sem g (d + 20) mX11_repair [bc_R 218, bc_I m] σ Rr X := by
  have W := jo_wu J
  have R0 := rf2_yo J.2.2 y
  have G := R0.1
  have hh := J.2.1.2.1
  have hu0 := J.2.1.1
  have le3 : 0 ≤ er_ (c_r v) m ∧ er_ (c_r v) m ≤ 3 := by
    unfold er_
    (repeat' split) <;> omega
  have k := eq_er (c_r v) m
  rcases H with ⟨tn, rfl, hne, ht⟩ | ⟨rfl, rfl, hf, rfl⟩
  · have e : t = er_ (c_r v1) m := by
      rw [k] at ht
      (repeat' split at ht) <;> omega
    refine t_X11_repair G W.1 W.2.2.1 (by omega) hm (fun c s S => ?_) (fun c s S => absurd (e.trans c) tn)
    rw [← e] at S
    exact f s 0 (jo_spo (n := c_n v1) J F y rfl hu0 hh S) (S.2.1) (fun e => absurd e tn) S.2.2.1.2
  · refine t_X11_repair G W.1 W.2.2.1 (by omega) hm (fun c s S => ?_) (fun c s S => ?_)
    · rw [k] at hf
      (repeat' split at hf) <;> omega
    · have hu := (wu_step W ((cf_4 _ m 0 0 _).mpr hf.symm) (.inr (.inr (.inr (.inr (.inl ⟨rfl, rfl⟩)))))).2.2.2
      exact f s _ (jo_spo J F y rfl hu (ujs_hr hh hu0) S) S.2.1 (fun _ => rfl) S.2.2.1.2
theorem z_abandon {m : Int} (J : jnt_ B σ0 v) (hB : B ≤ 999000) (F : fa_ (B + 480) σ v1) (y : yo_ σ0 σ) (hm : bc_in m) (H : (t ≠ 0 ∧ v1 = v ∧ lq_ (c_r v) m 0 ≠ 0 ∧ t = (if lq_ (c_r v) m 0 = 1 then 1 else 2)) ∨ (t = 0 ∧ v1 = u_r (rm_ v) (rl_ (c_r v) m 1) ∧ lq_ (c_r v) m 0 = 0 ∧ x = ab_ (rl_ (c_r v) m 1))) (f : ∀ (σ2 : bc_M) (u : Int), jnt_ (B + 480) σ2 v1 → σ2.1 218 ((14 : Nat) : Int) = t → (t = 0 → u = x) → σ2.2 = σ.2 → Rr (some (bc_I u)) σ2) : bc_Sem g (d + 20) mX11_abandon [bc_R 218, bc_I m] σ Rr X := by
  have W := jo_wu J
  have R0 := rf2_yo J.2.2 y
  have G := R0.1
  have hh := J.2.1.2.1
  have hu0 := J.2.1.1
  rcases H with ⟨tn, rfl, hne, ht⟩ | ⟨rfl, rfl, hf, rfl⟩
  · refine t_X11_abandon G W.1 hm (fun c s S1 S2 S3 S4 => ?_) (fun c s S1 S2 S3 S4 => absurd c hne)
    have S2 : s.1 218 ((14 : Nat) : Int) = t := S2.trans ht.symm
    have S := spo_ex S1 S2 S3 S4
    exact f s 0 (jo_spo (n := c_n v1) J F y rfl hu0 hh S) (S.2.1) (fun e => absurd e tn) S.2.2.1.2
  · refine t_X11_abandon G W.1 hm (fun c s S1 S2 S3 S4 => absurd hf c) (fun c s S1 S2 S3 S4 => ?_)
    have S := spo_ex S1 S2 S3 S4
    have hu := (wu_step W ((cf_5 _ m 0 0 _).mpr hf.symm) (.inr (.inr (.inr (.inr (.inr (.inl ⟨rfl, rfl⟩))))))).2.2.2
    exact f s _ (jo_spo J F y rfl hu (ujs_hr hh hu0) S) S.2.1 (fun _ => rfl) S.2.2.1.2
theorem z_resume {m : Int} (J : jnt_ B σ0 v) (hB : B ≤ 999000) (F : fa_ (B + 480) σ v1) (y : yo_ σ0 σ) (hm : bc_in m) (H : (t ≠ 0 ∧ v1 = v ∧ lq_ (c_r v) m 1 ≠ 0 ∧ t = (if lq_ (c_r v) m 1 = 1 then 1 else 2)) ∨ (t = 0 ∧ v1 = u_r (rm_ v) (rl_ (c_r v) m 0) ∧ lq_ (c_r v) m 1 = 0 ∧ x = ab_ (rl_ (c_r v) m 0))) (f : ∀ (σ2 : bc_M) (u : Int), jnt_ (B + 480) σ2 v1 → σ2.1 218 ((14 : Nat) : Int) = t → (t = 0 → u = x) → σ2.2 = σ.2 → Rr (some (bc_I u)) σ2) : bc_Sem g (d + 20) mX11_resume [bc_R 218, bc_I m] σ Rr X := by
  have W := jo_wu J
  have R0 := rf2_yo J.2.2 y
  have G := R0.1
  have hh := J.2.1.2.1
  have hu0 := J.2.1.1
  rcases H with ⟨tn, rfl, hne, ht⟩ | ⟨rfl, rfl, hf, rfl⟩
  · refine t_X11_resume G W.1 hm (fun c s S1 S2 S3 S4 => ?_) (fun c s S1 S2 S3 S4 => absurd c hne)
    have S2 : s.1 218 ((14 : Nat) : Int) = t := S2.trans ht.symm
    have S := spo_ex S1 S2 S3 S4
    exact f s 0 (jo_spo (n := c_n v1) J F y rfl hu0 hh S) (S.2.1) (fun e => absurd e tn) S.2.2.1.2
  · refine t_X11_resume G W.1 hm (fun c s S1 S2 S3 S4 => absurd hf c) (fun c s S1 S2 S3 S4 => ?_)
    have S := spo_ex S1 S2 S3 S4
    have hu := (wu_step W ((cf_6 _ m 0 0 _).mpr hf.symm) (.inr (.inr (.inr (.inr (.inr (.inr (.inl ⟨rfl, rfl⟩)))))))).2.2.2
    exact f s _ (jo_spo J F y rfl hu (ujs_hr hh hu0) S) S.2.1 (fun _ => rfl) S.2.2.1.2
theorem z_setNiche {c : Int} (J : jnt_ B σ0 v) (hB : B ≤ 999000) (F : fa_ (B + 480) σ v1) (y : yo_ σ0 σ) (hc : 0 ≤ c ∧ c ≤ 65535) (H : (t ≠ 0 ∧ v1 = v ∧ nq1_ c ≠ 0 ∧ t = 1) ∨ (t = 0 ∧ v1 = u_r (rm_ v) (re_ (c_r v) c) ∧ nq1_ c = 0 ∧ x = tw_ (c_r v))) (f : ∀ (σ2 : bc_M) (u : Int), jnt_ (B + 480) σ2 v1 → σ2.1 218 ((14 : Nat) : Int) = t → (t = 0 → u = x) → σ2.2 = σ.2 → Rr (some (bc_I u)) σ2) : bc_Sem g (d + 20) mX11_setNiche [bc_R 218, bc_I c] σ Rr X := by
  have W := jo_wu J
  have R0 := rf2_yo J.2.2 y
  have G := R0.1
  have hh := J.2.1.2.1
  have hu0 := J.2.1.1
  have k : nq1_ c = if c = 99 ∨ c = 108 then 0 else 2 := rfl
  rcases H with ⟨tn, rfl, hne, rfl⟩ | ⟨rfl, rfl, hf, rfl⟩
  · refine t_X11_setNiche G (by constructor <;> omega) (fun k9 s S1 S2 S3 S4 => ?_) (fun k9 s S1 S2 S3 S4 => absurd (k.trans (if_pos k9)) hne)
    have S := spo_ex S1 S2 S3 S4
    exact f s 0 (jo_spo (n := c_n v1) J F y rfl hu0 hh S) (S.2.1) (fun e => absurd e tn) S.2.2.1.2
  · refine t_X11_setNiche G (by constructor <;> omega) (fun k9 s S1 S2 S3 S4 => absurd (hf.symm.trans (k.trans (if_neg k9))) (by decide)) (fun k9 s S1 S2 S3 S4 => ?_)
    have S := spo_ex S1 S2 S3 S4
    have hu := (wu_step W ((cf_7 _ c 0 0 _).mpr hf.symm) (.inr (.inr (.inr (.inr (.inr (.inr (.inr (.inl ⟨rfl, rfl⟩))))))))).2.2.2
    exact f s _ (jo_spo J F y rfl hu (ujs_hr hh hu0) S) S.2.1 (fun _ => rfl) S.2.2.1.2
theorem z_put {p c w : Int} (J : jnt_ B σ0 v) (hB : B ≤ 999000) (F : fa_ (B + 480) σ v1) (y : yo_ σ0 σ) (hp : bc_in p) (hc : 0 ≤ c ∧ c ≤ 65535) (hw : bc_in w) (H : (t ≠ 0 ∧ v1 = v ∧ pq_ (c_r v) p c w ≠ 0 ∧ t = (if pq_ (c_r v) p c w = 5 then 3 else if pq_ (c_r v) p c w = 3 then 4 else pq_ (c_r v) p c w)) ∨ (t = 0 ∧ v1 = u_r (rm_ v) (rp_ (c_r v) p w) ∧ pq_ (c_r v) p c w = 0 ∧ x = tw_ (rp_ (c_r v) p w))) (f : ∀ (σ2 : bc_M) (u : Int), jnt_ (B + 480) σ2 v1 → σ2.1 218 ((14 : Nat) : Int) = t → (t = 0 → u = x) → σ2.2 = σ.2 → Rr (some (bc_I u)) σ2) : bc_Sem g (d + 20) mX11_put [bc_R 218, bc_I p, bc_I c, bc_I w] σ Rr X := by
  have W := jo_wu J
  have R0 := rf2_yo J.2.2 y
  have G := R0.1
  have hh := J.2.1.2.1
  have hu0 := J.2.1.1
  have le4 := put_le (c_r v) p c w
  have k := pq_put W.2.1 p c w
  rcases H with ⟨tn, rfl, hne, ht⟩ | ⟨rfl, rfl, hf, rfl⟩
  · have e : t = put_ (c_r v1) p c w := by
      rw [k] at ht
      (repeat' split at ht) <;> omega
    refine t_X11_put G W.2.1 hp (by constructor <;> omega) hw (fun k9 s S => ?_) (fun k9 s S => absurd (e.trans k9) tn)
    rw [← e] at S
    exact f s 0 (jo_spo (n := c_n v1) J F y rfl hu0 hh S) (S.2.1) (fun e => absurd e tn) S.2.2.1.2
  · refine t_X11_put G W.2.1 hp (by constructor <;> omega) hw (fun k9 s S => ?_) (fun k9 s S => ?_)
    · rw [k] at hf
      (repeat' split at hf) <;> omega
    · have hu := (wu_step W ((cf_8 _ p c w _).mpr hf.symm) (.inr (.inr (.inr (.inr (.inr (.inr (.inr (.inr (.inl ⟨rfl, rfl⟩)))))))))).2.2.2
      exact f s _ (jo_spo J F y rfl hu (ujs_hr hh hu0) S) S.2.1 (fun _ => rfl) S.2.2.1.2
theorem z_passDays {n : Int} (J : jnt_ B σ0 v) (hB : B ≤ 999000) (F : fa_ (B + 480) σ v1) (y : yo_ σ0 σ) (hn : bc_in n) (H : (t ≠ 0 ∧ v1 = v ∧ dq_ n ≠ 0 ∧ t = 1) ∨ (t = 0 ∧ v1 = u_r (rm_ v) (ps_ (c_r v) n.toNat) ∧ dq_ n = 0 ∧ x = ps_ (c_r v) n.toNat 6 - (c_r v) 6)) (f : ∀ (σ2 : bc_M) (u : Int), jnt_ (B + 480) σ2 v1 → σ2.1 218 ((14 : Nat) : Int) = t → (t = 0 → u = x) → σ2.2 = σ.2 → Rr (some (bc_I u)) σ2) : bc_Sem g (d + 20) mX11_passDays [bc_R 218, bc_I n] σ Rr X := by
  have W := jo_wu J
  have R0 := rf2_yo J.2.2 y
  have G := R0.1
  have hh := J.2.1.2.1
  have hu0 := J.2.1.1
  have k : dq_ n = if 1 ≤ n ∧ n ≤ 30 then 0 else 2 := by
    unfold dq_
    (repeat' split) <;> omega
  rcases H with ⟨tn, rfl, hne, rfl⟩ | ⟨rfl, rfl, hf, rfl⟩
  · refine t_X11_passDays G W.2.2.1 (by omega) hn (fun c s S => ?_) (fun c s S => absurd (k.trans (if_pos c)) hne)
    exact f s 0 (jo_spo (n := c_n v1) J F y rfl hu0 hh S) (S.2.1) (fun e => absurd e tn) S.2.2.1.2
  · refine t_X11_passDays G W.2.2.1 (by omega) hn (fun c s S => absurd (hf.symm.trans (k.trans (if_neg c))) (by decide)) (fun c s S => ?_)
    have hu := (wu_step W ((cf_9 _ n 0 0 _).mpr hf.symm) (.inr (.inr (.inr (.inr (.inr (.inr (.inr (.inr (.inr (⟨rfl, rfl⟩))))))))))).2.2.2
    exact f s _ (jo_spo J F y rfl hu (ujs_hr hh hu0) S) S.2.1 (fun _ => rfl) S.2.2.1.2
theorem z_procession {a b n : Int} (J : jnt_ B σ0 v) (hB : B ≤ 999000) (F : fa_ (B + 480) σ v1) (y : yo_ σ0 σ) (ha : bc_in a) (hb : bc_in b) (hn : bc_in n) (H : (t ≠ 0 ∧ v1 = v ∧ t = wkt_ (c_r v) a b n) ∨ (t = 0 ∧ wkt_ (c_r v) a b n = 0 ∧ ∃ r1 : rw_t, wz_ v a b n r1 ∧ v1 = wv1_ (rm_ v) a b r1 ∧ x = (fz_ (sa_ (c_r v)) a b (c_J v)).2)) (f : ∀ (σ2 : bc_M) (u : Int), jnt_ (B + 480) σ2 v1 → σ2.1 218 ((14 : Nat) : Int) = t → (t = 0 → u = x) → σ2.2 = σ.2 → Rr (some (bc_I u)) σ2) : bc_Sem g (d + 20) mX11_procession [bc_R 218, bc_I a, bc_I b, bc_I n] σ Rr X := by
  have W := jo_wu J
  have R0 := rf2_yo J.2.2 y
  have G := R0.1
  have hh := J.2.1.2.1
  have hu0 := J.2.1.1
  rcases H with ⟨tn, rfl, ht⟩ | ⟨rfl, hk, r1, hz, rfl, rfl⟩
  · refine t_X11_procession G W.1 W.2.1 W.2.2.2 ha hb hn (fun c s S => ?_) (fun c s r2 hw S => absurd (ht.trans c) tn)
    rw [← ht] at S
    exact f s 0 (jo_spo (n := c_n v1) J F y rfl hu0 hh S) (S.2.1) (fun e => absurd e tn) S.2.2.1.2
  · obtain ⟨-, e2, e3⟩ := walk_same W.1 hu0 (c_J v) hk
    refine t_X11_procession G W.1 W.2.1 W.2.2.2 ha hb hn (fun c s S => absurd hk c) (fun c s r2 hw S => ?_)
    obtain ⟨e4, e5⟩ := e3 r1 r2 hz hw
    have hu := uj_eJ W.1.1.2 e5 hu0
    subst e4
    exact f s _ (jo_spo2 (n := (c_n v + 1) % 8) J F y (fun _ h => h) ⟨hu, ujs_hr hh hu0, J.2.1.2.2⟩ S) S.2.1 (fun _ => e2.symm) S.2.2.1.2
theorem z_renderMember {m : Int} (J : jnt_ B σ0 v) (hB : B ≤ 999000) (F : fa_ (B + 480) σ v1) (y : yo_ σ0 σ) (hm : bc_in m) (H : (t = 1 ∧ ¬ (0 ≤ m ∧ m < (c_r v) 3) ∧ v1 = v) ∨ (t = 0 ∧ (0 ≤ m ∧ m < (c_r v) 3) ∧ x = (om_ (c_r v) m).length ∧ v1 = u_o v (om_ (c_r v) m))) (f : ∀ (σ2 : bc_M) (u : Int), jnt_ (B + 480) σ2 v1 → σ2.1 218 ((14 : Nat) : Int) = t → (t = 0 → u = x) → σ2.2 = σ.2 → Rr (some (bc_I u)) σ2) : bc_Sem g (d + 20) mX11_renderMember [bc_R 218, bc_I m] σ Rr X := by
  have W := jo_wu J
  have R0 := rf2_yo J.2.2 y
  have G := R0.1
  have hh := J.2.1.2.1
  have hu0 := J.2.1.1
  have J1 : ∀ {v2 : cs_t}, fa_ (B + 480) σ v2 → v2 = v → jnt_ (B + 480) σ v2 := fun F e => by
    subst e
    exact ⟨F, J.2.1, R0⟩
  rcases H with ⟨rfl, hm2, rfl⟩ | ⟨rfl, hm2, rfl, rfl⟩
  · refine t_X11_renderMember G.1 W.1 hm (fun c s R => ?_) (fun c s L R => absurd c hm2)
    exact f s 0 (jo_roc (J1 F rfl) R) R.1 (fun e => absurd e (by decide)) R.2.1.2
  · refine t_X11_renderMember G.1 W.1 hm (fun c s R => absurd hm2 c) (fun c s L R => ?_)
    exact f s _ ⟨fa_ref F R.2.1 (by omega), J.2.1, rf2_rot R0 L R⟩ R.1 (fun _ => rfl) R.2.1.2
theorem z_renderWay {a b : Int} (J : jnt_ B σ0 v) (hB : B ≤ 999000) (F : fa_ (B + 480) σ v1) (y : yo_ σ0 σ) (ha : bc_in a) (hb : bc_in b) (H : (yq_ (c_r v) a b ≠ 0 ∧ t = (if yq_ (c_r v) a b = 4 then 3 else yq_ (c_r v) a b) ∧ v1 = yv_ v a b) ∨ (yq_ (c_r v) a b = 0 ∧ t = 0 ∧ x = (ow_ (c_J (yv_ v a b)) ((c_len (yv_ v a b)).toNat + 1)).length ∧ v1 = u_o (yv_ v a b) (ow_ (c_J (yv_ v a b)) ((c_len (yv_ v a b)).toNat + 1)))) (f : ∀ (σ2 : bc_M) (u : Int), jnt_ (B + 480) σ2 v1 → σ2.1 218 ((14 : Nat) : Int) = t → (t = 0 → u = x) → σ2.2 = σ.2 → Rr (some (bc_I u)) σ2) : bc_Sem g (d + 20) mX11_renderWay [bc_R 218, bc_I a, bc_I b] σ Rr X := by
  have W := jo_wu J
  have R0 := rf2_yo J.2.2 y
  have G := R0.1
  have hh := J.2.1.2.1
  have hu0 := J.2.1.1
  obtain ⟨k1, k2⟩ := yq_atw W.1 hu0 a b
  obtain ⟨V1, V2⟩ := yv_vis (v := v) a b
  have la := atw_le (c_r v) a b
  rcases H with ⟨hne, ht, rfl⟩ | ⟨hy, rfl, rfl, rfl⟩
  · rw [k1] at ht
    have tn : t ≠ 0 := fun e => hne (k2.mpr (ht.symm.trans e))
    refine t_X11_renderWay G.1 W.1 W.2.2.2 ha hb (fun c s R => ?_) (fun c s L R => absurd (ht.trans c) tn)
    rw [← ht] at R
    exact f s 0 (jo_roc ⟨F, V2 J.2.1, V1 _ R0⟩ R) R.1 (fun e => absurd e tn) R.2.1.2
  · have z := k2.mp hy
    obtain ⟨w1, w2⟩ := yv_way W.1 hu0 z
    have lm := (atw_m W.1 hu0 z).2
    have e : ow_ (c_J (yv_ v a b)) ((c_len (yv_ v a b)).toNat + 1) = ow_ (wyJ_ (c_r v) a b) ((xm_ (c_r v) (xw_ (c_r v) a 8 b) (-1) b 8 a).toNat + 1) := by
      rw [← w1]
      refine ow_cong _ (fun i hi => ?_)
      exact w2 i (by omega)
    refine t_X11_renderWay G.1 W.1 W.2.2.2 ha hb (fun c s R => absurd z c) (fun c s L R => ?_)
    rw [← e] at L ⊢
    exact f s _ ⟨fa_ref F R.2.1 (by omega), V2 J.2.1, rf2_rot (V1 _ R0) L R⟩ R.1 (fun _ => rfl) R.2.1.2
theorem z_type {c : Int} (J : jnt_ B σ0 v) (hB : B ≤ 999000) (F : fa_ (B + 480) σ v1) (y : yo_ σ0 σ) (hc : 0 ≤ c ∧ c ≤ 65535) (H : (t = 1 ∧ ¬ (32 ≤ c ∧ c ≤ 126) ∧ v1 = v) ∨ (t = 2 ∧ (32 ≤ c ∧ c ≤ 126) ∧ 60 ≤ (c_l v).length ∧ v1 = v) ∨ (t = 0 ∧ (32 ≤ c ∧ c ≤ 126) ∧ (c_l v).length < 60 ∧ x = (c_l v).length + 1 ∧ v1 = u_l v (c_l v ++ [c]))) (f : ∀ (σ2 : bc_M) (u : Int), jnt_ (B + 480) σ2 v1 → σ2.1 218 ((14 : Nat) : Int) = t → (t = 0 → u = x) → σ2.2 = σ.2 → Rr (some (bc_I u)) σ2) : bc_Sem g (d + 20) mX11_type [bc_R 218, bc_I c] σ Rr X := by
  have W := jo_wu J
  have R0 := rf2_yo J.2.2 y
  have G := R0.1
  have hh := J.2.1.2.1
  have hu0 := J.2.1.1
  have T := R0.2.2.2.2.2.1
  have J1 : ∀ {v2 : cs_t}, fa_ (B + 480) σ v2 → v2 = v → jnt_ (B + 480) σ v2 := fun F e => by
    subst e
    exact ⟨F, J.2.1, R0⟩
  rcases H with ⟨rfl, h1, rfl⟩ | ⟨rfl, h1, h2, rfl⟩ | ⟨rfl, h1, h2, rfl, rfl⟩
  · refine t_X11_type T hc (fun c s R => ?_) (fun c c2 s R => absurd c h1) (fun c c2 s L e fr fj => absurd c h1)
    exact f s 0 (jo_roc (J1 F rfl) R) R.1 (fun e => absurd e (by decide)) R.2.1.2
  · refine t_X11_type T hc (fun c s R => absurd h1 c) (fun c c2 s R => ?_) (fun c c2 s L e fr fj => absurd h2 (by omega))
    exact f s 0 (jo_roc (J1 F rfl) R) R.1 (fun e => absurd e (by decide)) R.2.1.2
  · refine t_X11_type T hc (fun c s R => absurd h1 c) (fun c c2 s R => absurd h2 (by omega)) (fun c c2 s L e fr fj => ?_)
    exact f s _ ⟨fa_ref F fr (by omega), J.2.1, rf2_typ R0 L fr fj⟩ e (fun _ => rfl) fr.2
theorem z_undo (J : jnt_ B σ0 v) (hB : B ≤ 999000) (F : fa_ (B + 480) σ v1) (y : yo_ σ0 σ) (H : (t = 1 ∧ c_h v = [] ∧ v1 = v) ∨ (t = 0 ∧ ∃ (p : rw_t) (s : List rw_t), c_h v = p :: s ∧ x = s.length ∧ v1 = u_h (u_r v p) s ((c_n v + 7) % 8))) (f : ∀ (σ2 : bc_M) (u : Int), jnt_ (B + 480) σ2 v1 → σ2.1 218 ((14 : Nat) : Int) = t → (t = 0 → u = x) → σ2.2 = σ.2 → Rr (some (bc_I u)) σ2) : bc_Sem g (d + 20) mX11_undo [bc_R 218] σ Rr X := by
  have W := jo_wu J
  have R0 := rf2_yo J.2.2 y
  have G := R0.1
  have hh := J.2.1.2.1
  have hu0 := J.2.1.1
  rcases H with ⟨rfl, h1, rfl⟩ | ⟨rfl, p, r, h1, rfl, rfl⟩
  · rw [h1] at G
    refine t_X11_undo0 G (fun s S1 S2 S3 S4 => ?_)
    rw [← h1] at S1
    have S := spo_ex S1 S2 S3 S4
    exact f s 0 (jo_spo (n := c_n v1) J F y rfl hu0 hh S) S.2.1 (fun e => absurd e (by decide)) S.2.2.1.2
  · rw [h1] at G hh
    refine t_X11_undo1 G (fun s S1 S2 S3 S4 => ?_)
    have S := spo_ex S1 S2 S3 S4
    exact f s _ (jo_spo J F y rfl (hh p (List.mem_cons_self ..)) (fun q hq => hh q (List.mem_cons_of_mem _ hq)) S) S.2.1 (fun _ => rfl) S.2.2.1.2
theorem z_restore (J : jnt_ B σ0 v) (hB : B ≤ 999000) (F : fa_ (B + 480) σ v1) (y : yo_ σ0 σ) (H : (t = 1 ∧ c_hs v = 0 ∧ v1 = v) ∨ (t = 0 ∧ c_hs v = 1 ∧ x = (c_sn v) 3 ∧ v1 = u_h (u_r v (c_sn v)) [] (c_n v))) (f : ∀ (σ2 : bc_M) (u : Int), jnt_ (B + 480) σ2 v1 → σ2.1 218 ((14 : Nat) : Int) = t → (t = 0 → u = x) → σ2.2 = σ.2 → Rr (some (bc_I u)) σ2) : bc_Sem g (d + 20) mX11_restore [bc_R 218] σ Rr X := by
  have W := jo_wu J
  have R0 := rf2_yo J.2.2 y
  have G := R0.1
  have hh := J.2.1.2.1
  have hu0 := J.2.1.1
  have e4 := R0.2.2.1
  rcases H with ⟨rfl, h1, rfl⟩ | ⟨rfl, h1, rfl, rfl⟩
  · refine t_X11_restore0 G (e4.trans h1) (fun s S => ?_)
    exact f s 0 (jo_spo (n := c_n v1) J F y rfl hu0 hh S) S.2.1 (fun e => absurd e (by decide)) S.2.2.1.2
  · refine t_X11_restore1 G (R0.2.1 h1) (e4.trans h1) (fun s S => ?_)
    exact f s _ (jo_spo J F y rfl (J.2.1.2.2 h1) (fun q hq => absurd hq (List.not_mem_nil)) S) S.2.1 (fun _ => rfl) S.2.2.1.2
theorem z_save (J : jnt_ B σ0 v) (hB : B ≤ 999000) (F : fa_ (B + 480) σ v1) (y : yo_ σ0 σ) (H : t = 0 ∧ v1 = u_hs (u_sn v (c_r v)) 1 ∧ x = (c_r v) 3) (f : ∀ (σ2 : bc_M) (u : Int), jnt_ (B + 480) σ2 v1 → σ2.1 218 ((14 : Nat) : Int) = t → (t = 0 → u = x) → σ2.2 = σ.2 → Rr (some (bc_I u)) σ2) : bc_Sem g (d + 20) mX11_save [bc_R 218] σ Rr X := by
  have W := jo_wu J
  have R0 := rf2_yo J.2.2 y
  have G := R0.1
  have hh := J.2.1.2.1
  have hu0 := J.2.1.1
  obtain ⟨rfl, rfl, rfl⟩ := H
  refine t_X11_save G (fun s S1 S2 S3 S4 fr fj => ?_)
  obtain ⟨-, h2, h3, h4, h5, h6, h7, h8⟩ := R0
  refine f s _ ⟨fa_ref F fr (by omega), ⟨hu0, hh, fun _ => hu0⟩, ⟨S1, fun _ => S2, S3, ?_, ?_, tyt_fr h6 fr (by decide) (fj _ (by decide)), liq_fr h7 fr (by decide) (fj _ (by decide)), fun j => ?_⟩⟩ S4 (fun _ => rfl) fr.2
  · rw [fj ((6 : Nat) : Int) (by decide)]; exact h4
  · rw [fj ((7 : Nat) : Int) (by decide)]; exact h5
  · rw [fr.1 227 (by decide)]; exact h8 j
theorem z_runScript (J : jnt_ B σ0 v) (hB : B ≤ 999000) (F : fa_ (B + 480) σ v1) (y : yo_ σ0 σ) (H : (t = 1 ∧ (zp_ v).1 = 0 ∧ v1 = u_le (vp_ v) (zp_ v).2.1) ∨ (t = 2 ∧ (zp_ v).1 = 1 ∧ ∃ (i : Nat) (w : cs_t) (e : Int), (i : Int) < (zp_ v).2.2.1 ∧ rr_ (zp_ v) (vp_ v) i w ∧ cf_ (c_r w) ((zp_ v).2.2.2.1 i) ((zp_ v).2.2.2.2 i 0) ((zp_ v).2.2.2.2 i 1) ((zp_ v).2.2.2.2 i 2) e ∧ e ≠ 0 ∧ v1 = u_lf (u_r w (c_bs w)) i) ∨ (t = 0 ∧ (zp_ v).1 = 1 ∧ x = (zp_ v).2.2.1 ∧ ∃ w : cs_t, rr_ (zp_ v) (vp_ v) (zp_ v).2.2.1.toNat w ∧ v1 = u_h w (hr_ (c_h w) (c_bs w)) ((c_n w + 1) % 8))) (f : ∀ (σ2 : bc_M) (u : Int), jnt_ (B + 480) σ2 v1 → σ2.1 218 ((14 : Nat) : Int) = t → (t = 0 → u = x) → σ2.2 = σ.2 → Rr (some (bc_I u)) σ2) : bc_Sem g (d + 20) mX11_runScript [bc_R 218] σ Rr X := by
  have W := jo_wu J
  have R0 := rf2_yo J.2.2 y
  have G := R0.1
  have hh := J.2.1.2.1
  have hu0 := J.2.1.1
  have T := R0.2.2.2.2.2.1
  have hc := J.1.2.2.2.1.2.2.2
  have kk := J.1.2.2.2.2.1.2
  have gA := J.1.2.2.2.2.2.1.2
  have hb := R0.2.2.2.2.2.2.2
  have e6 := R0.2.2.2.1
  have e7 := R0.2.2.2.2.1
  have U : wu_ B (c_r (vp_ v)) := W
  rcases H with ⟨rfl, z0, rfl⟩ | ⟨rfl, z1, i, w, e, hi, hr, hf, hne, rfl⟩ | ⟨rfl, z1, rfl, w, hr, rfl⟩
  · refine t_X11_runScript (k0 := c_k v) (A0 := c_A v) G W (by omega) T hc kk gA rfl hb (fun z s Fi G2 s6 s7 => ?_) (fun z => absurd (z0.symm.trans z) (by decide)) (fun z => absurd (z0.symm.trans z) (by decide))
    exact f s 0 ⟨fa_ref F Fi.2.2.2.1 (by omega), J.2.1, rf2_scr R0 Fi G2 s6 (s7.trans e7) rfl rfl rfl rfl⟩ Fi.1 (fun e => absurd e (by decide)) Fi.2.2.2.1.2
  · have V := rr_sv hr
    obtain ⟨v1, v2, v3, v4, v5, v6, v7, v8, v9⟩ := V
    refine t_X11_runScript (k0 := c_k v) (A0 := c_A v) G W (by omega) T hc kk gA rfl hb (fun z => absurd (z1.symm.trans z) (by decide)) (fun z j r s hj hx hno Fi G2 s6 s7 => ?_) (fun z r s hx hW Fi G2 s6 s7 => ?_)
    · have ij := fail_same U hr hf hne hx hno
      subst ij
      have G3 : rg_ s (c_r (u_lf (u_r w (c_bs w)) i)) (c_h (u_lf (u_r w (c_bs w)) i)) := by
        show rg_ s (c_bs w) (c_h w)
        rw [v2, v3]
        exact G2
      refine f s 0 ⟨fa_ref F Fi.2.2.2.1 (by omega), ⟨?_, ?_, ?_⟩, rf2_scr R0 Fi G3 ?_ s7 v5 v6 v7 v1⟩ Fi.1 (fun e => absurd e (by decide)) Fi.2.2.2.1.2
      · show uj_ (c_bs w)
        rw [v2]
        exact hu0
      · show ∀ q ∈ c_h w, uj_ q
        rw [v3]
        exact hh
      · show c_hs w = 1 → uj_ (c_sn w)
        rw [v7, v1]
        exact J.2.1.2.2
      · show s.1 218 ((6 : Nat) : Int) = c_le w
        rw [v8]
        exact s6.trans e6
    · exact (fail_no (n := (zp_ v).2.2.1.toNat) U (by omega) hr hf hne hx).elim
  · have V := rr_sv hr
    obtain ⟨v1, v2, v3, v4, v5, v6, v7, v8, v9⟩ := V
    refine t_X11_runScript (k0 := c_k v) (A0 := c_A v) G W (by omega) T hc kk gA rfl hb (fun z => absurd (z1.symm.trans z) (by decide)) (fun z j r s hj hx hno Fi G2 s6 s7 => ?_) (fun z r s hx hW Fi G2 s6 s7 => ?_)
    · have hj2 : (j : Int) < (zp_ v).2.2.1 := hj
      exact (fail_no2 U (by omega) hr hx hno).elim
    · have er := (rr_rsx U hr hx).1
      have G3 : rg_ s (c_r (u_h w (hr_ (c_h w) (c_bs w)) ((c_n w + 1) % 8))) (c_h (u_h w (hr_ (c_h w) (c_bs w)) ((c_n w + 1) % 8))) := by
        show rg_ s (c_r w) (hr_ (c_h w) (c_bs w))
        rw [v2, v3, er]
        exact G2
      refine f s _ ⟨fa_ref F Fi.2.2.2.1 (by omega), ⟨?_, ?_, ?_⟩, rf2_scr R0 Fi G3 ?_ ?_ v5 v6 v7 v1⟩ Fi.1 (fun _ => rfl) Fi.2.2.2.1.2
      · show uj_ (c_r w)
        rw [er]
        exact hW.2.2.2
      · show ∀ q ∈ hr_ (c_h w) (c_bs w), uj_ q
        rw [v2, v3]
        exact ujs_hr hh hu0
      · show c_hs w = 1 → uj_ (c_sn w)
        rw [v7, v1]
        exact J.2.1.2.2
      · show s.1 218 ((6 : Nat) : Int) = c_le w
        rw [v8]
        exact s6.trans e6
      · show s.1 218 ((7 : Nat) : Int) = c_lf w
        rw [v9]
        exact s7.trans e7
end ZCH
end
section
/-! THE CLAIM OUT OF ONE WALK OF THE LAW'S BODY. Your part is whole_start (and what it stands on); all else here is the same for every law, but numbers. -/
def R_law : String := "BridgeChapelLaw"
def lw_P (b : Addr) (xs : List Int32) (args : Array Value) (s : State) : Prop := args = #[.ref b] ∧ s.IntsAt b xs ∧ xs.length ≤ 2048 ∧ (Jvm.Cond.and given_1 narrow_1).before args s = true
/-- what a walk over the start with the record d0 says of its end, said of the start itself -/
theorem lw_closed {s t : State} {o : Outcome} {d0 : Drawn} {L : List Loc} {k n : Nat} (hd0 : s.drawn.sameBut d0 lw_cs) (hv : ∃ v, o = .returned v) (hW : (s.setDrawn d0).WarmedH t.vm) (hs : (s.setDrawn d0).sameButNew ({ t with vm := s.vm } : State) L k n) : State.butDraws s t lw_cs (fun t1 => Framed s o t1 L k n) := by
  have h2 : t.drawn = d0 := congrArg State.drawn hs.1
  refine ⟨⟨hv, hW, State.sameButNew.setDrawn hs s.drawn⟩, ?_, by decide⟩
  rw [h2]
  exact hd0
def lw_Q (_ : Array Value) (s : State) (o : Outcome) (t : State) : Prop := o = .returned (some (.int 1)) ∧ State.butDraws s t lw_cs (fun t1 => Framed s o t1 [] 603072 7178346)
def lw_Z (below : List Frame) (a : Array Value) (s : State) : State → Prop := fun t => ∃ o, t.status = .running ∧ Ended t below o ∧ lw_Q a s o t
/-- the law's own end, with 1 on the stack, nothing written that was there before, its room as the claim has it; d0: the record of draws at this point (at the entry s.drawn: begin with 'refine W.base ?_' and 'have hd0 := Drawn.sameBut.refl s.drawn lw_cs') -/
theorem lw_ret {p : Program} {l : Launch} {e : Env} {s : State} {m : MethodId} {below : List Frame} {meth : Method} {c : Code} {b : Nat} {d0 : Drawn} (hd0 : s.drawn.sameBut d0 lw_cs) (hx : p.tables.exec = Jvm.exec) (hb : c.code = code) (hr : meth.sig.returnType = ret) (hlocks : meth.locks = false) {pc : Nat} {H : Heap} {ls : Array Slot} (hdg : decode code pc = .ok (.ireturn, 1)) : W p l e room_1 (s.setDrawn d0) m #[Value.ref b] below meth c H [] 603072 7178346 (lw_Z below #[Value.ref b] s) (F0 m pc ls [.int 1]) := by
  intro T hT X
  obtain ⟨fs, hret, hrun, hended, hW, hframe⟩ := X.leave (v := some (.int 1)) (hlocks := hlocks) (fun h => by rw [hr] at h; cases h)
  have hmeth' : T.vm.method? m = some meth := X.method'
  refine ⟨T.setFrames fs, ?_, .returned (some (.int 1)), hrun, hended, rfl, lw_closed hd0 ⟨_, rfl⟩ hW hframe⟩
  jvm_step X.here [X.here.top, hx, hb, hdg, hmeth', hr, ret, narrow_b1]
  (try refine ⟨rfl, ?_⟩); (try refine ⟨rfl, ?_⟩)
  first | (intro acts; rw [hret _ acts rfl rfl rfl]) | rw [hret _ _ rfl rfl rfl]
  exact Steps.refl _
/-- what holds at the law's entry: the machine, the code, the tables' words (any of lw_tbl by 'hts w (by decide +kernel)'), the script of L ints xs at the cell b, what the Statement gives of the start (any of its parts by flat_of_before) -/
def lw_At (p : Program) (s : State) (m : MethodId) (meth : Method) (c : Code) (b L : Nat) (xs : Nat → Int32) : Prop :=
  p.tables.exec = Jvm.exec ∧ c.code = code ∧ meth.sig.returnType = ret ∧ c.maxLocals = 9 ∧ s.vm.findClass R_law = some m.cls ∧ (∀ w ∈ lw_tbl, w.before #[Value.ref b] s = true) ∧ va_X b L xs s s.heap ∧ b < s.heap.size ∧ meth.locks = false ∧ (Jvm.Cond.and given_1 narrow_1).before #[Value.ref b] s = true
end
section
/-! THE LAW'S OWN BODY, over the abstract machine: the script is cell 999 -/
theorem z_L_law : ∀ pc, 1839 ≤ pc → pL_law pc = none := fun _ h => by unfold pL_law; exact bc_cut_none h
theorem kL_law : bc_ok1 code pL_law := bc_dec_ok kL_lawD z_L_law
theorem i32_in (x : Int32) : bc_in x.toInt := by
  have h1 := Int32.le_toInt x
  have h2 := Int32.toInt_lt x
  constructor <;> omega
theorem vp_in32 {j : Int} {n : Nat} (h0 : 0 ≤ j) (h1 : j < (n : Int)) (hn : n < 2147483648) : vp_in (Int32.ofInt j) n ∧ (Int32.ofInt j).toNatClampNeg = j.toNat := by
  have e : (Int32.ofInt j).toNatClampNeg = j.toNat := Int32.toNatClampNeg_ofInt_of_le (by omega) (by omega)
  refine ⟨?_, e⟩
  unfold vp_in
  rw [e]
  rintro (q | q)
  · rw [Int32.lt_iff_toInt_lt, Int32.toInt_ofInt_of_le (by omega) (by omega)] at q
    have : (0 : Int32).toInt = 0 := by decide
    omega
  · omega
/-- a continuation that the law's body may use -/
noncomputable def lw_G (g : bc_C) (d L : Nat) (xs : Nat → Int32) (K : bc_KT) : Prop := bc_Good g mL_law d (fun r _ => r = some (bc_I 1)) (fun _ _ => False) K ∧
  (∀ (pc : Nat) (lv : bc_LV) (st : List bc_A) (σ : bc_M) (n : Nat) (j : Int), bc_code mL_law pc = some (.iaload, 1, []) → 0 ≤ j → j < (L : Int) → K (pc + 1) lv (bc_I (xs j.toNat).toInt :: st) σ n → K pc lv (bc_I j :: bc_R 999 :: st) σ n) ∧
  (∀ (pc : Nat) (lv : bc_LV) (st : List bc_A) (σ : bc_M) (n : Nat), bc_code mL_law pc = some (.arraylength, 1, []) → K (pc + 1) lv (bc_I (L : Int) :: st) σ n → K pc lv (bc_R 999 :: st) σ n) ∧
  (∀ (pc : Nat) (lv : bc_LV) (st : List bc_A) (σ : bc_M) (n : Nat) (x : Int64), bc_code mL_law pc = some (.pop2, 1, []) → K (pc + 1) lv st σ n → K pc lv (bc_J x :: st) σ n)
section LAW
variable {p : Program} {e : Env} {s : State} {m : MethodId} {below : List Frame} {meth : Method} {c : Code} {g : bc_C} {d : Nat} {c0 s0 : Nat} {b L : Nat} {xs : Nat → Int32}
theorem lw_hR (F : bc_Fx g mL_law d p room_1 s m #[Value.ref b] meth c c0 s0) (hz : bc_z g = s.heap.size) (hc : c0 + 50 ≤ 603072 ∧ s0 + 300 ≤ 7178346) {pc len : Nat} {i : Instr} {ts : List Nat} {lv : bc_LV} {st : List bc_A} {σ : bc_M} {n : Nat} {r : Option bc_A} (hcd : bc_code mL_law pc = some (i, len, ts)) (hr : bc_rok (bc_ret mL_law) i r st) (h : r = some (bc_I 1)) : bc_T g mL_law p e room_1 s m #[Value.ref b] below meth c (lw_Z below #[Value.ref b] s) c0 s0 pc lv st σ n := by
  obtain ⟨hx, hb, hml, hts, hown, hlocks, hap, htr, hE, hz0, hok, -, -, -, -, hret⟩ := F
  obtain ⟨hd, htg, hln⟩ := hok pc i len ts hcd
  intro H locs ls hn hH hS hl
  have hn : n ≤ 50 := hn
  subst h
  have hst : i = .ireturn ∧ st = [bc_I 1] := by
    rcases hr with ⟨q, x, e1, e2, -⟩ | ⟨q, x, e1, e2, -⟩ | ⟨q, x, e1, e2, -⟩ | ⟨q, x, e1, e2, -⟩ | ⟨q, x, e1, e2, -⟩ | ⟨q, e1, -⟩
    · have e3 : (1 : Int) = x := Sum.inl.inj (Option.some.inj e1)
      rw [← e3] at e2
      exact ⟨q, e2⟩
    · cases e1
    · cases e1
    · cases e1
    · cases e1
    · cases e1
  obtain ⟨rfl, rfl⟩ := hst
  have hl1 : len = 1 := by simpa [bc_ln] using hln
  subst hl1
  refine va_forget (fun q hq => by have := hS.2.2 q hq; unfold bc_Z at this; omega) ?_
  refine W.widen (k := 603072) (n := 7178346) (by omega) (by omega) ?_
  refine W.base ?_
  exact lw_ret (Drawn.sameBut.refl s.drawn lw_cs) hx hb hret hlocks hd
theorem lw_good (F : bc_Fx g mL_law d p room_1 s m #[Value.ref b] meth c c0 s0) (hz : bc_z g = s.heap.size) (hc : c0 + 50 ≤ 603072 ∧ s0 + 300 ≤ 7178346) (had : bc_ad g 999 = b) (hX : va_X b L xs s s.heap) (hbl : b < s.heap.size) (hL : L < 2147483648) : lw_G g d L xs (bc_T g mL_law p e room_1 s m #[Value.ref b] below meth c (lw_Z below #[Value.ref b] s) c0 s0) := by
  have F0 := F
  obtain ⟨hx, hb, hml, hts, hown, hlocks, hap, htr, hE, hz0, hok, -, -, -, -, hret⟩ := F
  have hbA : ¬ bc_Z g b := fun q => by unfold bc_Z at q; omega
  refine ⟨⟨fun cuts f pc lv st σ n h => ?_, fun pc lv lv' st σ n hs h => bc_T_sub hs h⟩, fun pc lv st σ n j hcd h0 h1 h => ?_, fun pc lv st σ n hcd h => ?_, fun pc lv st σ n x hcd h => ?_⟩
  · refine bc_run_ok F0 (cv_all _) (fun _ _ _ _ _ h => h) (fun pc i len ts lv st σ n r hcd hr h => lw_hR F0 hz hc hcd hr h) (fun K hK pc lv n x σ h hx6 => ?_) (fun pc ix len ts lv st σ n _ _ _ _ h => h.elim) (bc_jdk_all g mL_law d p e _ s m _ below meth c _ c0 s0 F0) f pc lv st σ n h
    unfold bc_thr at h
    rw [show bc_find (bc_hh mL_law) pc x = none from rfl] at h
    exact h.elim
  · obtain ⟨hd, -, -⟩ := hok pc _ _ _ hcd
    intro H locs ls hn hH hS hl
    obtain ⟨v1, v2⟩ := vp_in32 h0 h1 hL
    have h2 := h H locs ls hn hH hS hl
    have e1 : bc_v g (bc_R 999) = .ref b := by rw [bc_v_R, had]
    rw [List.map_cons, List.map_cons, bc_v_I, e1]
    refine va_sld hx hb hX hbl hbA hS v1 hd ?_
    rw [v2]
    rw [List.map_cons, bc_v_I, Int32.ofInt_toInt] at h2
    exact h2
  · obtain ⟨hd, -, -⟩ := hok pc _ _ _ hcd
    intro H locs ls hn hH hS hl
    have h2 := h H locs ls hn hH hS hl
    have e1 : bc_v g (bc_R 999) = .ref b := by rw [bc_v_R, had]
    rw [List.map_cons, e1]
    refine va_slen hx hb hX hbl hbA hS hd ?_
    rw [List.map_cons, bc_v_I] at h2
    exact h2
  · obtain ⟨hd, -, -⟩ := hok pc _ _ _ hcd
    intro H locs ls hn hH hS hl
    have h2 := h H locs ls hn hH hS hl
    rw [List.map_cons, bc_v_J]
    exact lv_pop2_2 hx hb hd rfl h2
end LAW
theorem lg0 (x : Int64) : lg_cmp x x = 0 := by
  unfold lg_cmp
  rw [if_neg (by simp), if_pos rfl]
end
