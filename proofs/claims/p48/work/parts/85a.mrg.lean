section
/-! both sides: ways, lines, scripts -/
theorem atw_cases {q : rw_t} (hW : wf_M q) (hU : uj_ q) (a b : Int) : (pf_ a b = 1 ∧ atw_ q a b = 1) ∨ (pf_ a b = 2 ∧ atw_ q a b = 2) ∨ (pf_ a b = 0 ∧ wb_ (sa_ q) a b = xw_ q a 8 b ∧ 0 ≤ xw_ q a 8 b ∧ atw_ q a b = if xw_ q a 8 b ≤ 0 then 3 else 0) := by
  by_cases hj : (0 ≤ a ∧ a < 8) ∧ 0 ≤ b ∧ b < 8
  · by_cases hne : a = b
    · refine .inr (.inl ⟨?_, ?_⟩)
      · unfold pf_
        rw [if_neg (fun k => k hj), if_pos hne]
      · unfold atw_
        rw [if_neg (fun k => k hj), if_pos hne]
    · obtain ⟨⟨u0, u1⟩, v0, v1⟩ := id hj
      refine .inr (.inr ⟨?_, wb_xw hW hU u0 u1 v0 v1 (fun e => hne e.symm) (xw_99 hW a 8 b (fun e => hne e.symm)), ((xw_lm hW a 8) b v0 v1).1, ?_⟩)
      · unfold pf_
        rw [if_neg (fun k => k hj), if_neg hne]
      · unfold atw_
        rw [if_neg (fun k => k hj), if_neg hne]
  · refine .inl ⟨?_, ?_⟩
    · unfold pf_
      rw [if_pos hj]
    · unfold atw_
      rw [if_pos hj]
theorem yq_atw {q : rw_t} (hW : wf_M q) (hU : uj_ q) (a b : Int) : (if yq_ q a b = 4 then 3 else yq_ q a b) = atw_ q a b ∧ (yq_ q a b = 0 ↔ atw_ q a b = 0) := by
  rcases atw_cases hW hU a b with ⟨h1, h2⟩ | ⟨h1, h2⟩ | ⟨h1, h2, h3, h4⟩
  · have e : yq_ q a b = 1 := by unfold yq_; rw [h1]; rfl
    rw [e, h2]
    exact ⟨rfl, by decide⟩
  · have e : yq_ q a b = 2 := by unfold yq_; rw [h1]; rfl
    rw [e, h2]
    exact ⟨rfl, by decide⟩
  · by_cases z : xw_ q a 8 b ≤ 0
    · have e : yq_ q a b = 4 := by
        unfold yq_
        rw [h1, if_neg (by decide), h2, if_pos (by omega)]
      rw [if_pos z] at h4
      rw [e, h4]
      exact ⟨rfl, by decide⟩
    · have e : yq_ q a b = 0 := by
        unfold yq_
        rw [h1, if_neg (by decide), h2, if_neg (by omega)]
      rw [if_neg z] at h4
      rw [e, h4]
      exact ⟨rfl, by decide⟩
/-- the class's way is the reference's -/
theorem yv_way {v : cs_t} (hW : wf_M (c_r v)) (hU : uj_ (c_r v)) {a b : Int} (h : atw_ (c_r v) a b = 0) : c_len (yv_ v a b) = xm_ (c_r v) (xw_ (c_r v) a 8 b) (-1) b 8 a ∧ ∀ i : Nat, (i : Int) ≤ c_len (yv_ v a b) → c_J (yv_ v a b) (i : Int) = wyJ_ (c_r v) a b i := by
  obtain ⟨⟨⟨u0, u1⟩, v0, v1⟩, hne, l1⟩ := atw_0 h
  have l9 := xw_99 hW a 8 b (fun e => hne e.symm)
  have W := wb_xw hW hU u0 u1 v0 v1 (fun e => hne e.symm) l9
  obtain ⟨P1, P2, P3⟩ := way_fw hW hU u0 u1 v0 v1 hne (c_J v) (by rw [W]; exact l1)
  have p0 : pf_ a b = 0 := by
    unfold pf_
    rw [if_neg (fun k => k ⟨⟨u0, u1⟩, v0, v1⟩), if_neg hne]
  rw [yv_le p0]
  have ez : fz_ (sa_ (c_r v)) a b (c_J v) = fw_ (sa_ (c_r v)) a b (c_J v) := by
    unfold fz_
    rw [if_neg (by rw [W]; omega)]
  show (fz_ (sa_ (c_r v)) a b (c_J v)).2 = _ ∧ ∀ i : Nat, (i : Int) ≤ (fz_ (sa_ (c_r v)) a b (c_J v)).2 → (fz_ (sa_ (c_r v)) a b (c_J v)).1 (i : Int) = _
  rw [ez, P2, W]
  refine ⟨rfl, fun i hi => ?_⟩
  have e := P3 i (by rw [P2, W]; exact hi)
  rw [e, W]
  rfl
theorem ow_cong {J J' : Int → Int} : ∀ n : Nat, (∀ k : Nat, k < n → J (k : Int) = J' (k : Int)) → ow_ J n = ow_ J' n
  | 0, _ => rfl
  | n + 1, h => by
    have e := ow_cong n (fun k hk => h k (by omega))
    show tn_ (if 0 < n then ta_ (ow_ J n) 62 else ow_ J n) (J n) = tn_ (if 0 < n then ta_ (ow_ J' n) 62 else ow_ J' n) (J' n)
    rw [e, h n (by omega)]
theorem cf_fun {r : rw_t} (hU : uj_ r) {k x y z f f' : Int} (h : cf_ r k x y z f) (h' : cf_ r k x y z f') : f = f' := by
  unfold cf_ at h h'
  rcases h with ⟨k0, h⟩ | ⟨k0, h⟩ | ⟨k0, h⟩ | ⟨k0, h⟩ | ⟨k0, h⟩ | ⟨k0, h⟩ | ⟨k0, h⟩ | ⟨k0, h⟩ | ⟨k0, h⟩ | ⟨k0, h⟩ <;> rcases h' with ⟨k1, h'⟩ | ⟨k1, h'⟩ | ⟨k1, h'⟩ | ⟨k1, h'⟩ | ⟨k1, h'⟩ | ⟨k1, h'⟩ | ⟨k1, h'⟩ | ⟨k1, h'⟩ | ⟨k1, h'⟩ | ⟨k1, h'⟩ <;> first | (exfalso; omega) | exact h.trans h'.symm | exact adr_eq (mq_adr hU h) (mq_adr hU h')
/-- what a class's step and a reference's step make of the same row is the same -/
theorem ck_crow {q w : cs_t} {k x y z : Int} {r : rw_t} (hW : wf_M (c_r q)) (hU : uj_ (c_r q)) (hc : cf_ (c_r q) k x y z 0) (h : ck_ q k x y z w) (h' : crow_ (c_r q) k x y z r) : c_r w = r := by
  unfold ck_ at h
  unfold crow_ at h'
  rcases h with ⟨k0, h⟩ | ⟨k0, h⟩ | ⟨k0, h⟩ | ⟨k0, h⟩ | ⟨k0, h⟩ | ⟨k0, h⟩ | ⟨k0, h⟩ | ⟨k0, h⟩ | ⟨k0, h⟩ | ⟨k0, h⟩ <;> rcases h' with ⟨k1, h'⟩ | ⟨k1, h'⟩ | ⟨k1, h'⟩ | ⟨k1, h'⟩ | ⟨k1, h'⟩ | ⟨k1, h'⟩ | ⟨k1, h'⟩ | ⟨k1, h'⟩ | ⟨k1, h'⟩ | ⟨k1, h'⟩ <;> first | (exfalso; omega) | (rw [h, h']) | skip
  subst k0
  obtain ⟨r1, hz, hw⟩ := h
  have k := wq_0t hW hU ((cf_1 _ _ _ _ _).mp hc)
  rw [hw]
  exact ((walk_same hW hU (c_J q) k).2.2 r1 r hz h').1
/-- but the row and the way, a step leaves all as it is -/
def sv2_ (v w : cs_t) : Prop := c_sn w = c_sn v ∧ c_bs w = c_bs v ∧ c_h w = c_h v ∧ c_n w = c_n v ∧ c_l w = c_l v ∧ c_o w = c_o v ∧ c_hs w = c_hs v ∧ c_le w = c_le v ∧ c_lf w = c_lf v
theorem sv2_refl (v : cs_t) : sv2_ v v := ⟨rfl, rfl, rfl, rfl, rfl, rfl, rfl, rfl, rfl⟩
theorem sv2_tr {a b c : cs_t} (h : sv2_ a b) (k : sv2_ b c) : sv2_ a c := by
  obtain ⟨h1, h2, h3, h4, h5, h6, h7, h8, h9⟩ := h
  obtain ⟨k1, k2, k3, k4, k5, k6, k7, k8, k9⟩ := k
  exact ⟨k1.trans h1, k2.trans h2, k3.trans h3, k4.trans h4, k5.trans h5, k6.trans h6, k7.trans h7, k8.trans h8, k9.trans h9⟩
theorem ck_sv {q w : cs_t} {k x y z : Int} (h : ck_ q k x y z w) : sv2_ q w := by
  unfold ck_ at h
  rcases h with ⟨k0, h⟩ | ⟨k0, r1, hz, h⟩ | ⟨k0, h⟩ | ⟨k0, h⟩ | ⟨k0, h⟩ | ⟨k0, h⟩ | ⟨k0, h⟩ | ⟨k0, h⟩ | ⟨k0, h⟩ | ⟨k0, h⟩ <;> (rw [h]; exact ⟨rfl, rfl, rfl, rfl, rfl, rfl, rfl, rfl, rfl⟩)
theorem rr_sv {z : pz_t} {v : cs_t} : ∀ {n : Nat} {w : cs_t}, rr_ z v n w → sv2_ (u_bs v (c_r v)) w
  | 0, w, h => by
    have e : w = u_bs v (c_r v) := h
    rw [e]
    exact sv2_refl _
  | n + 1, w, h => by
    obtain ⟨q, h1, -, h3⟩ := h
    exact sv2_tr (rr_sv h1) (ck_sv h3)
theorem rr_rsx {z : pz_t} {v : cs_t} {B : Int} (hU : wu_ B (c_r v)) : ∀ {n : Nat} {w : cs_t} {r : rw_t}, rr_ z v n w → rsx_ z (c_r v) n r → c_r w = r ∧ wu_ (B + 30 * (n : Int)) r
  | 0, w, r, h, h' => by
    have e : w = u_bs v (c_r v) := h
    have e' : r = c_r v := h'
    rw [e, e']
    exact ⟨rfl, wu_mono hU (by omega)⟩
  | n + 1, w, r, h, h' => by
    obtain ⟨q, h1, h2, h3⟩ := h
    obtain ⟨r0, k1, k2, k3⟩ := h'
    obtain ⟨e, W⟩ := rr_rsx hU h1 k1
    subst e
    refine ⟨ck_crow W.1 W.2.2.2 h2 h3 k3, ?_⟩
    have W2 := wu_step W k2 k3
    exact wu_mono W2 (by omega)
theorem rr_pre {z : pz_t} {v : cs_t} : ∀ {n : Nat} {w : cs_t}, rr_ z v n w → ∀ i : Nat, i < n → ∃ q : cs_t, rr_ z v i q ∧ cf_ (c_r q) (z.2.2.2.1 i) (z.2.2.2.2 i 0) (z.2.2.2.2 i 1) (z.2.2.2.2 i 2) 0
  | 0, _, _, i, hi => absurd hi (Nat.not_lt_zero _)
  | n + 1, w, h, i, hi => by
    obtain ⟨q, h1, h2, h3⟩ := h
    by_cases e : i = n
    · subst e
      exact ⟨q, h1, h2⟩
    · exact rr_pre h1 i (by omega)
theorem rsx_pre {z : pz_t} {q : rw_t} : ∀ {n : Nat} {r : rw_t}, rsx_ z q n r → ∀ i : Nat, i < n → ∃ p : rw_t, rsx_ z q i p ∧ cf_ p (z.2.2.2.1 i) (z.2.2.2.2 i 0) (z.2.2.2.2 i 1) (z.2.2.2.2 i 2) 0
  | 0, _, _, i, hi => absurd hi (Nat.not_lt_zero _)
  | n + 1, r, h, i, hi => by
    obtain ⟨p, h1, h2, h3⟩ := h
    by_cases e : i = n
    · subst e
      exact ⟨p, h1, h2⟩
    · exact rsx_pre h1 i (by omega)
/-- both fail at the same command -/
theorem fail_same {z : pz_t} {v : cs_t} {B : Int} (hU : wu_ B (c_r v)) {i j : Nat} {w : cs_t} {r : rw_t} {e : Int} (h1 : rr_ z v i w) (h2 : cf_ (c_r w) (z.2.2.2.1 i) (z.2.2.2.2 i 0) (z.2.2.2.2 i 1) (z.2.2.2.2 i 2) e) (h3 : e ≠ 0) (k1 : rsx_ z (c_r v) j r) (k2 : ∀ f, cf_ r (z.2.2.2.1 j) (z.2.2.2.2 j 0) (z.2.2.2.2 j 1) (z.2.2.2.2 j 2) f → f ≠ 0) : i = j := by
  rcases Nat.lt_trichotomy i j with c | c | c
  · obtain ⟨p, p1, p2⟩ := rsx_pre k1 i c
    obtain ⟨e1, W⟩ := rr_rsx hU h1 p1
    rw [e1] at h2
    exact absurd (cf_fun W.2.2.2 h2 p2) h3
  · exact c
  · obtain ⟨q, q1, q2⟩ := rr_pre h1 j c
    obtain ⟨e1, W⟩ := rr_rsx hU q1 k1
    rw [e1] at q2
    exact absurd rfl (k2 0 q2)
theorem fail_no {z : pz_t} {v : cs_t} {B : Int} (hU : wu_ B (c_r v)) {i n : Nat} {w : cs_t} {r : rw_t} {e : Int} (hi : i < n) (h1 : rr_ z v i w) (h2 : cf_ (c_r w) (z.2.2.2.1 i) (z.2.2.2.2 i 0) (z.2.2.2.2 i 1) (z.2.2.2.2 i 2) e) (h3 : e ≠ 0) (k1 : rsx_ z (c_r v) n r) : False := by
  obtain ⟨p, p1, p2⟩ := rsx_pre k1 i hi
  obtain ⟨e1, W⟩ := rr_rsx hU h1 p1
  rw [e1] at h2
  exact h3 (cf_fun W.2.2.2 h2 p2)
theorem fail_no2 {z : pz_t} {v : cs_t} {B : Int} (hU : wu_ B (c_r v)) {j n : Nat} {w : cs_t} {r : rw_t} (hj : j < n) (h1 : rr_ z v n w) (k1 : rsx_ z (c_r v) j r) (k2 : ∀ f, cf_ r (z.2.2.2.1 j) (z.2.2.2.2 j 0) (z.2.2.2.2 j 1) (z.2.2.2.2 j 2) f → f ≠ 0) : False := by
  obtain ⟨q, q1, q2⟩ := rr_pre h1 j hj
  obtain ⟨e1, W⟩ := rr_rsx hU q1 k1
  rw [e1] at q2
  exact k2 0 q2 rfl
end
section
/-! the reference looks -/
section ZRE
variable {g : bc_C} {d : Nat} {σ : bc_M} {B : Int} {v : cs_t} {Rr : Option bc_A → bc_M → Prop} {X : Nat → bc_M → Prop}
theorem z_firstJoint {m : Int} (J : jnt_ B σ v) (hB : B ≤ 999000) (hm : bc_in m) (f : ∀ (σ2 : bc_M) (t u : Int), jnt_ B σ2 v → σ2.1 218 ((14 : Nat) : Int) = t → (0 ≤ t ∧ t ≤ 4) → ((t = 1 ∧ ¬ (0 ≤ m ∧ m < (c_r v) 3)) ∨ (t = 0 ∧ (0 ≤ m ∧ m < (c_r v) 3) ∧ u = (c_r v) (16 + 6 * m))) → σ2.2 = σ.2 → Rr (some (bc_I u)) σ2) : bc_Sem g (d + 20) mX11_firstJoint [bc_R 218, bc_I m] σ Rr X := by
  have W := jo_wu J
  have N := J.2.2.1.1
  refine t_X11_firstJoint N W.1 hm (fun c s R => ?_) (fun c s R => ?_)
  · exact f s 1 0 (jo_roc J R) R.1 (by decide) (.inl ⟨rfl, c⟩) R.2.1.2
  · exact f s 0 _ (jo_roc J R) R.1 (by decide) (.inr ⟨rfl, c, rfl⟩) R.2.1.2
theorem z_secondJoint {m : Int} (J : jnt_ B σ v) (hB : B ≤ 999000) (hm : bc_in m) (f : ∀ (σ2 : bc_M) (t u : Int), jnt_ B σ2 v → σ2.1 218 ((14 : Nat) : Int) = t → (0 ≤ t ∧ t ≤ 4) → ((t = 1 ∧ ¬ (0 ≤ m ∧ m < (c_r v) 3)) ∨ (t = 0 ∧ (0 ≤ m ∧ m < (c_r v) 3) ∧ u = (c_r v) (17 + 6 * m))) → σ2.2 = σ.2 → Rr (some (bc_I u)) σ2) : bc_Sem g (d + 20) mX11_secondJoint [bc_R 218, bc_I m] σ Rr X := by
  have W := jo_wu J
  have N := J.2.2.1.1
  refine t_X11_secondJoint N W.1 hm (fun c s R => ?_) (fun c s R => ?_)
  · exact f s 1 0 (jo_roc J R) R.1 (by decide) (.inl ⟨rfl, c⟩) R.2.1.2
  · exact f s 0 _ (jo_roc J R) R.1 (by decide) (.inr ⟨rfl, c, rfl⟩) R.2.1.2
theorem z_crack {m : Int} (J : jnt_ B σ v) (hB : B ≤ 999000) (hm : bc_in m) (f : ∀ (σ2 : bc_M) (t u : Int), jnt_ B σ2 v → σ2.1 218 ((14 : Nat) : Int) = t → (0 ≤ t ∧ t ≤ 4) → ((t = 1 ∧ ¬ (0 ≤ m ∧ m < (c_r v) 3)) ∨ (t = 0 ∧ (0 ≤ m ∧ m < (c_r v) 3) ∧ u = (c_r v) (19 + 6 * m))) → σ2.2 = σ.2 → Rr (some (bc_I u)) σ2) : bc_Sem g (d + 20) mX11_crack [bc_R 218, bc_I m] σ Rr X := by
  have W := jo_wu J
  have N := J.2.2.1.1
  refine t_X11_crack N W.1 hm (fun c s R => ?_) (fun c s R => ?_)
  · exact f s 1 0 (jo_roc J R) R.1 (by decide) (.inl ⟨rfl, c⟩) R.2.1.2
  · exact f s 0 _ (jo_roc J R) R.1 (by decide) (.inr ⟨rfl, c, rfl⟩) R.2.1.2
theorem z_wear {m : Int} (J : jnt_ B σ v) (hB : B ≤ 999000) (hm : bc_in m) (f : ∀ (σ2 : bc_M) (t u : Int), jnt_ B σ2 v → σ2.1 218 ((14 : Nat) : Int) = t → (0 ≤ t ∧ t ≤ 4) → ((t = 1 ∧ ¬ (0 ≤ m ∧ m < (c_r v) 3)) ∨ (t = 0 ∧ (0 ≤ m ∧ m < (c_r v) 3) ∧ u = (c_r v) (20 + 6 * m))) → σ2.2 = σ.2 → Rr (some (bc_I u)) σ2) : bc_Sem g (d + 20) mX11_wear [bc_R 218, bc_I m] σ Rr X := by
  have W := jo_wu J
  have N := J.2.2.1.1
  refine t_X11_wear N W.1 hm (fun c s R => ?_) (fun c s R => ?_)
  · exact f s 1 0 (jo_roc J R) R.1 (by decide) (.inl ⟨rfl, c⟩) R.2.1.2
  · exact f s 0 _ (jo_roc J R) R.1 (by decide) (.inr ⟨rfl, c, rfl⟩) R.2.1.2
theorem z_isAbandoned {m : Int} (J : jnt_ B σ v) (hB : B ≤ 999000) (hm : bc_in m) (f : ∀ (σ2 : bc_M) (t u : Int), jnt_ B σ2 v → σ2.1 218 ((14 : Nat) : Int) = t → (0 ≤ t ∧ t ≤ 4) → ((t = 1 ∧ ¬ (0 ≤ m ∧ m < (c_r v) 3)) ∨ (t = 0 ∧ (0 ≤ m ∧ m < (c_r v) 3) ∧ u = (if (c_r v) (21 + 6 * m) = 1 then 1 else 0))) → σ2.2 = σ.2 → Rr (some (bc_I u)) σ2) : bc_Sem g (d + 20) mX11_isAbandoned [bc_R 218, bc_I m] σ Rr X := by
  have W := jo_wu J
  have N := J.2.2.1.1
  refine t_X11_isAbandoned N W.1 hm (fun c s R => ?_) (fun c s R => ?_)
  · exact f s 1 0 (jo_roc J R) R.1 (by decide) (.inl ⟨rfl, c⟩) R.2.1.2
  · exact f s 0 _ (jo_roc J R) R.1 (by decide) (.inr ⟨rfl, c, rfl⟩) R.2.1.2
theorem z_bearing {m : Int} (J : jnt_ B σ v) (hB : B ≤ 999000) (hm : bc_in m) (f : ∀ (σ2 : bc_M) (t u : Int), jnt_ B σ2 v → σ2.1 218 ((14 : Nat) : Int) = t → (0 ≤ t ∧ t ≤ 4) → ((t = 1 ∧ ¬ (0 ≤ m ∧ m < (c_r v) 3)) ∨ (t = 0 ∧ (0 ≤ m ∧ m < (c_r v) 3) ∧ u = br_ (c_r v) m)) → σ2.2 = σ.2 → Rr (some (bc_I u)) σ2) : bc_Sem g (d + 20) mX11_bearing [bc_R 218, bc_I m] σ Rr X := by
  have W := jo_wu J
  have N := J.2.2.1.1
  refine t_X11_bearing N W.1 hm (fun c s R => ?_) (fun c s R => ?_)
  · exact f s 1 0 (jo_roc J R) R.1 (by decide) (.inl ⟨rfl, c⟩) R.2.1.2
  · exact f s 0 _ (jo_roc J R) R.1 (by decide) (.inr ⟨rfl, c, rfl⟩) R.2.1.2
theorem z_repairCost {m : Int} (J : jnt_ B σ v) (hB : B ≤ 999000) (hm : bc_in m) (f : ∀ (σ2 : bc_M) (t u : Int), jnt_ B σ2 v → σ2.1 218 ((14 : Nat) : Int) = t → (0 ≤ t ∧ t ≤ 4) → ((t = 1 ∧ ¬ (0 ≤ m ∧ m < (c_r v) 3)) ∨ (t = 0 ∧ (0 ≤ m ∧ m < (c_r v) 3) ∧ u = co_ (c_r v) m)) → σ2.2 = σ.2 → Rr (some (bc_I u)) σ2) : bc_Sem g (d + 20) mX11_repairCost [bc_R 218, bc_I m] σ Rr X := by
  have W := jo_wu J
  have N := J.2.2.1.1
  refine t_X11_repairCost N W.1 hm (fun c s R => ?_) (fun c s R => ?_)
  · exact f s 1 0 (jo_roc J R) R.1 (by decide) (.inl ⟨rfl, c⟩) R.2.1.2
  · exact f s 0 _ (jo_roc J R) R.1 (by decide) (.inr ⟨rfl, c, rfl⟩) R.2.1.2
theorem z_isCritical {m : Int} (J : jnt_ B σ v) (hB : B ≤ 999000) (hm : bc_in m) (f : ∀ (σ2 : bc_M) (t u : Int), jnt_ B σ2 v → σ2.1 218 ((14 : Nat) : Int) = t → (0 ≤ t ∧ t ≤ 4) → ((t = 1 ∧ ¬ (0 ≤ m ∧ m < (c_r v) 3)) ∨ (t = 0 ∧ (0 ≤ m ∧ m < (c_r v) 3) ∧ u = acr_ (c_r v) m)) → σ2.2 = σ.2 → Rr (some (bc_I u)) σ2) : bc_Sem g (d + 20) mX11_isCritical [bc_R 218, bc_I m] σ Rr X := by
  have W := jo_wu J
  have N := J.2.2.1.1
  refine t_X11_isCritical N W.1 hm (fun c s R => ?_) (fun c s R => ?_)
  · exact f s 1 0 (jo_roc J R) R.1 (by decide) (.inl ⟨rfl, c⟩) R.2.1.2
  · exact f s 0 _ (jo_roc J R) R.1 (by decide) (.inr ⟨rfl, c, rfl⟩) R.2.1.2
theorem z_isCriticalByRemoval {m : Int} (J : jnt_ B σ v) (hB : B ≤ 999000) (hm : bc_in m) (f : ∀ (σ2 : bc_M) (t u : Int), jnt_ B σ2 v → σ2.1 218 ((14 : Nat) : Int) = t → (0 ≤ t ∧ t ≤ 4) → ((t = 1 ∧ ¬ (0 ≤ m ∧ m < (c_r v) 3)) ∨ (t = 0 ∧ (0 ≤ m ∧ m < (c_r v) 3) ∧ u = acr_ (c_r v) m)) → σ2.2 = σ.2 → Rr (some (bc_I u)) σ2) : bc_Sem g (d + 20) mX11_isCriticalByRemoval [bc_R 218, bc_I m] σ Rr X := by
  have W := jo_wu J
  have N := J.2.2.1.1
  refine t_X11_isCriticalByRemoval N W.1 hm (fun c s R => ?_) (fun c s R => ?_)
  · exact f s 1 0 (jo_roc J R) R.1 (by decide) (.inl ⟨rfl, c⟩) R.2.1.2
  · exact f s 0 _ (jo_roc J R) R.1 (by decide) (.inr ⟨rfl, c, rfl⟩) R.2.1.2
theorem z_strain {m l : Int} (J : jnt_ B σ v) (hB : B ≤ 999000) (hm : bc_in m) (hl : bc_in l) (f : ∀ (σ2 : bc_M) (t : Int) (u : UInt32), jnt_ B σ2 v → σ2.1 218 ((14 : Nat) : Int) = t → (0 ≤ t ∧ t ≤ 4) → (t = stt_ (c_r v) m ∧ (t = 0 → u = stv_ (c_r v) m l)) → σ2.2 = σ.2 → Rr (some (bc_F u)) σ2) : bc_Sem g (d + 20) mX11_strain [bc_R 218, bc_I m, bc_I l] σ Rr X := by
  have W := jo_wu J
  have N := J.2.2.1.1
  have ls := stt_le (c_r v) m
  refine t_X11_strain N W.1 hm (fun c s R => ?_) (fun c s R => ?_)
  · exact f s _ _ (jo_roc J R) R.1 (by omega) ⟨rfl, fun e => absurd e c⟩ R.2.1.2
  · exact f s 0 _ (jo_roc J R) R.1 (by decide) ⟨c.symm, fun _ => rfl⟩ R.2.1.2
theorem z_strainBits {m l : Int} (J : jnt_ B σ v) (hB : B ≤ 999000) (hm : bc_in m) (hl : bc_in l) (f : ∀ (σ2 : bc_M) (t u : Int), jnt_ B σ2 v → σ2.1 218 ((14 : Nat) : Int) = t → (0 ≤ t ∧ t ≤ 4) → (t = stt_ (c_r v) m ∧ (t = 0 → u = (stv_ (c_r v) m l).toInt32.toInt)) → σ2.2 = σ.2 → Rr (some (bc_I u)) σ2) : bc_Sem g (d + 20) mX11_strainBits [bc_R 218, bc_I m, bc_I l] σ Rr X := by
  have W := jo_wu J
  have N := J.2.2.1.1
  have ls := stt_le (c_r v) m
  refine t_X11_strainBits N W.1 hm (fun c s R => ?_) (fun c s R => ?_)
  · exact f s _ _ (jo_roc J R) R.1 (by omega) ⟨rfl, fun e => absurd e c⟩ R.2.1.2
  · exact f s 0 _ (jo_roc J R) R.1 (by decide) ⟨c.symm, fun _ => rfl⟩ R.2.1.2
theorem z_links (J : jnt_ B σ v) (hB : B ≤ 999000) (f : ∀ (σ2 : bc_M) (t : Int) (u : Int64), jnt_ B σ2 v → σ2.1 218 ((14 : Nat) : Int) = t → (0 ≤ t ∧ t ≤ 4) → (t = 0 ∧ u = lnk_ (c_r v) ((c_r v) 3).toNat) → σ2.2 = σ.2 → Rr (some (bc_J u)) σ2) : bc_Sem g (d + 20) mX11_links [bc_R 218] σ Rr X := by
  have W := jo_wu J
  have N := J.2.2.1.1
  refine t_X11_links N W.1 (fun s R => ?_)
  exact f s 0 _ (jo_roc J R) R.1 (by decide) ⟨rfl, rfl⟩ R.2.1.2
theorem z_widestLoad {a b : Int} (J : jnt_ B σ v) (hB : B ≤ 999000) (ha : bc_in a) (hb : bc_in b) (f : ∀ (σ2 : bc_M) (t u : Int), jnt_ B σ2 v → σ2.1 218 ((14 : Nat) : Int) = t → (0 ≤ t ∧ t ≤ 4) → (t = atw_ (c_r v) a b ∧ (t = 0 → u = xw_ (c_r v) a 8 b)) → σ2.2 = σ.2 → Rr (some (bc_I u)) σ2) : bc_Sem g (d + 20) mX11_widestLoad [bc_R 218, bc_I a, bc_I b] σ Rr X := by
  have W := jo_wu J
  have N := J.2.2.1.1
  have la := atw_le (c_r v) a b
  refine t_X11_widestLoad N W.1 ha hb (fun c s R => ?_) (fun c s R => ?_)
  · exact f s _ 0 (jo_roc J R) R.1 (by omega) ⟨rfl, fun e => absurd e c⟩ R.2.1.2
  · exact f s 0 _ (jo_roc J R) R.1 (by decide) ⟨c.symm, fun _ => rfl⟩ R.2.1.2
theorem z_widestLoadByTrial {a b : Int} (J : jnt_ B σ v) (hB : B ≤ 999000) (ha : bc_in a) (hb : bc_in b) (f : ∀ (σ2 : bc_M) (t u : Int), jnt_ B σ2 v → σ2.1 218 ((14 : Nat) : Int) = t → (0 ≤ t ∧ t ≤ 4) → (t = atw_ (c_r v) a b ∧ (t = 0 → u = xw_ (c_r v) a 8 b)) → σ2.2 = σ.2 → Rr (some (bc_I u)) σ2) : bc_Sem g (d + 20) mX11_widestLoadByTrial [bc_R 218, bc_I a, bc_I b] σ Rr X := by
  have W := jo_wu J
  have N := J.2.2.1.1
  have la := atw_le (c_r v) a b
  refine t_X11_widestLoadByTrial N W.1 ha hb (fun c s R => ?_) (fun c s R => ?_)
  · exact f s _ 0 (jo_roc J R) R.1 (by omega) ⟨rfl, fun e => absurd e c⟩ R.2.1.2
  · exact f s 0 _ (jo_roc J R) R.1 (by decide) ⟨c.symm, fun _ => rfl⟩ R.2.1.2
theorem z_wayLength {a b : Int} (J : jnt_ B σ v) (hB : B ≤ 999000) (ha : bc_in a) (hb : bc_in b) (f : ∀ (σ2 : bc_M) (t u : Int), jnt_ B σ2 v → σ2.1 218 ((14 : Nat) : Int) = t → (0 ≤ t ∧ t ≤ 4) → (t = atw_ (c_r v) a b ∧ (t = 0 → u = xm_ (c_r v) (xw_ (c_r v) a 8 b) (-1) b 8 a)) → σ2.2 = σ.2 → Rr (some (bc_I u)) σ2) : bc_Sem g (d + 20) mX11_wayLength [bc_R 218, bc_I a, bc_I b] σ Rr X := by
  have W := jo_wu J
  have N := J.2.2.1.1
  have la := atw_le (c_r v) a b
  refine t_X11_wayLength N W.1 W.2.2.2 ha hb (fun c s R => ?_) (fun c s R => ?_)
  · exact f s _ 0 (jo_roc J R) R.1 (by omega) ⟨rfl, fun e => absurd e c⟩ R.2.1.2
  · exact f s 0 _ (jo_roc J R) R.1 (by decide) ⟨c.symm, fun _ => rfl⟩ R.2.1.2
theorem z_wayJoint {a b i : Int} (J : jnt_ B σ v) (hB : B ≤ 999000) (ha : bc_in a) (hb : bc_in b) (hi : bc_in i) (f : ∀ (σ2 : bc_M) (t u : Int), jnt_ B σ2 v → σ2.1 218 ((14 : Nat) : Int) = t → (0 ≤ t ∧ t ≤ 4) → ((atw_ (c_r v) a b ≠ 0 ∧ t = atw_ (c_r v) a b) ∨ (atw_ (c_r v) a b = 0 ∧ ¬ (0 ≤ i ∧ i ≤ xm_ (c_r v) (xw_ (c_r v) a 8 b) (-1) b 8 a) ∧ t = 3) ∨ (atw_ (c_r v) a b = 0 ∧ (0 ≤ i ∧ i ≤ xm_ (c_r v) (xw_ (c_r v) a 8 b) (-1) b 8 a) ∧ t = 0 ∧ u = wyJ_ (c_r v) a b i)) → σ2.2 = σ.2 → Rr (some (bc_I u)) σ2) : bc_Sem g (d + 20) mX11_wayJoint [bc_R 218, bc_I a, bc_I b, bc_I i] σ Rr X := by
  have W := jo_wu J
  have N := J.2.2.1.1
  have la := atw_le (c_r v) a b
  refine t_X11_wayJoint N W.1 W.2.2.2 ha hb hi (fun c s R => ?_) (fun c e s R => ?_) (fun c e s R => ?_)
  · exact f s _ 0 (jo_roc J R) R.1 (by omega) (.inl ⟨c, rfl⟩) R.2.1.2
  · exact f s 3 0 (jo_roc J R) R.1 (by decide) (.inr (.inl ⟨c, e, rfl⟩)) R.2.1.2
  · exact f s 0 _ (jo_roc J R) R.1 (by decide) (.inr (.inr ⟨c, e, rfl, rfl⟩)) R.2.1.2
theorem z_affordableLoad {a b : Int} (J : jnt_ B σ v) (hB : B ≤ 999000) (ha : bc_in a) (hb : bc_in b) (f : ∀ (σ2 : bc_M) (t u : Int), jnt_ B σ2 v → σ2.1 218 ((14 : Nat) : Int) = t → (0 ≤ t ∧ t ≤ 4) → (True) → σ2.2 = σ.2 → Rr (some (bc_I u)) σ2) : bc_Sem g (d + 20) mX11_affordableLoad [bc_R 218, bc_I a, bc_I b] σ Rr X := by
  have W := jo_wu J
  have N := J.2.2.1.1
  refine t_X11_affordableLoad N W.1 W.2.2.1 (by omega) ha hb (fun t x s ht hx R => ?_)
  exact f s t x (jo_roc J R) R.1 (by omega) trivial R.2.1.2
theorem z_affordableLoadByTable {a b : Int} (J : jnt_ B σ v) (hB : B ≤ 999000) (ha : bc_in a) (hb : bc_in b) (f : ∀ (σ2 : bc_M) (t u : Int), jnt_ B σ2 v → σ2.1 218 ((14 : Nat) : Int) = t → (0 ≤ t ∧ t ≤ 4) → (True) → σ2.2 = σ.2 → Rr (some (bc_I u)) σ2) : bc_Sem g (d + 20) mX11_affordableLoadByTable [bc_R 218, bc_I a, bc_I b] σ Rr X := by
  have W := jo_wu J
  have N := J.2.2.1.1
  refine t_X11_affordableLoadByTable N W.1 W.2.2.1 (by omega) ha hb (fun t x s ht hx R => ?_)
  exact f s t x (jo_roc J R) R.1 (by omega) trivial R.2.1.2
theorem z_memberByBearing {a : Int} (J : jnt_ B σ v) (hB : B ≤ 999000) (ha : bc_in a) (f : ∀ (σ2 : bc_M) (t u : Int), jnt_ B σ2 v → σ2.1 218 ((14 : Nat) : Int) = t → (0 ≤ t ∧ t ≤ 4) → ((t = 1 ∧ rkx_ (c_r v) a ((c_r v) 3) (-1)) ∨ (t = 0 ∧ 0 ≤ u ∧ rkx_ (c_r v) a ((c_r v) 3) u)) → σ2.2 = σ.2 → Rr (some (bc_I u)) σ2) : bc_Sem g (d + 20) mX11_memberByBearing [bc_R 218, bc_I a] σ Rr X := by
  have W := jo_wu J
  have N := J.2.2.1.1
  refine t_X11_memberByBearing N W.1 ha (fun c s R => ?_) (fun x x0 c s R => ?_)
  · exact f s 1 0 (jo_roc J R) R.1 (by decide) (.inl ⟨rfl, c⟩) R.2.1.2
  · exact f s 0 x (jo_roc J R) R.1 (by decide) (.inr ⟨rfl, x0, c⟩) R.2.1.2
theorem z_vowAt {a : Int} (J : jnt_ B σ v) (hB : B ≤ 999000) (ha : bc_in a) (f : ∀ (σ2 : bc_M) (t u : Int), jnt_ B σ2 v → σ2.1 218 ((14 : Nat) : Int) = t → (0 ≤ t ∧ t ≤ 4) → ((t = 1 ∧ vkx_ (c_r v) a ((c_r v) 4) (-1)) ∨ (t = 0 ∧ 0 ≤ u ∧ vkx_ (c_r v) a ((c_r v) 4) u)) → σ2.2 = σ.2 → Rr (some (bc_I u)) σ2) : bc_Sem g (d + 20) mX11_vowAt [bc_R 218, bc_I a] σ Rr X := by
  have W := jo_wu J
  have N := J.2.2.1.1
  refine t_X11_vowAt N W.2.2.1 (by omega) ha (fun c s R => ?_) (fun x x0 c s R => ?_)
  · exact f s 1 0 (jo_roc J R) R.1 (by decide) (.inl ⟨rfl, c⟩) R.2.1.2
  · exact f s 0 x (jo_roc J R) R.1 (by decide) (.inr ⟨rfl, x0, c⟩) R.2.1.2
theorem z_dueDay {a : Int} (J : jnt_ B σ v) (hB : B ≤ 999000) (ha : bc_in a) (f : ∀ (σ2 : bc_M) (t u : Int), jnt_ B σ2 v → σ2.1 218 ((14 : Nat) : Int) = t → (0 ≤ t ∧ t ≤ 4) → ((t = 1 ∧ vwp_ (c_r v) a (-1)) ∨ (t = 0 ∧ ∃ x : Int, 0 ≤ x ∧ vwp_ (c_r v) a x ∧ u = (c_r v) (113 + 3 * x))) → σ2.2 = σ.2 → Rr (some (bc_I u)) σ2) : bc_Sem g (d + 20) mX11_dueDay [bc_R 218, bc_I a] σ Rr X := by
  have W := jo_wu J
  have N := J.2.2.1.1
  refine t_X11_dueDay N W.2.2.1 (by omega) ha (fun c s R => ?_) (fun x x0 c s R => ?_)
  · exact f s 1 0 (jo_roc J R) R.1 (by decide) (.inl ⟨rfl, c⟩) R.2.1.2
  · exact f s 0 _ (jo_roc J R) R.1 (by decide) (.inr ⟨rfl, x, x0, c, rfl⟩) R.2.1.2
theorem z_amount {a : Int} (J : jnt_ B σ v) (hB : B ≤ 999000) (ha : bc_in a) (f : ∀ (σ2 : bc_M) (t u : Int), jnt_ B σ2 v → σ2.1 218 ((14 : Nat) : Int) = t → (0 ≤ t ∧ t ≤ 4) → ((t = 1 ∧ vwp_ (c_r v) a (-1)) ∨ (t = 0 ∧ ∃ x : Int, 0 ≤ x ∧ vwp_ (c_r v) a x ∧ u = (c_r v) (114 + 3 * x))) → σ2.2 = σ.2 → Rr (some (bc_I u)) σ2) : bc_Sem g (d + 20) mX11_amount [bc_R 218, bc_I a] σ Rr X := by
  have W := jo_wu J
  have N := J.2.2.1.1
  refine t_X11_amount N W.2.2.1 (by omega) ha (fun c s R => ?_) (fun x x0 c s R => ?_)
  · exact f s 1 0 (jo_roc J R) R.1 (by decide) (.inl ⟨rfl, c⟩) R.2.1.2
  · exact f s 0 _ (jo_roc J R) R.1 (by decide) (.inr ⟨rfl, x, x0, c, rfl⟩) R.2.1.2
theorem z_greatestVow {a : Int} (J : jnt_ B σ v) (hB : B ≤ 999000) (ha : bc_in a) (f : ∀ (σ2 : bc_M) (t u : Int), jnt_ B σ2 v → σ2.1 218 ((14 : Nat) : Int) = t → (0 ≤ t ∧ t ≤ 4) → ((t = 1 ∧ ¬ ((c_r v) 0 < a ∧ a ≤ (c_r v) 0 + 50)) ∨ (t = 2 ∧ ((c_r v) 0 < a ∧ a ≤ (c_r v) 0 + 50) ∧ kpa_ (c_r v) 0) ∨ (t = 0 ∧ ((c_r v) 0 < a ∧ a ≤ (c_r v) 0 + 50) ∧ kpa_ (c_r v) 1 ∧ gv_ (c_r v) a ((c_r v) 4) u)) → σ2.2 = σ.2 → Rr (some (bc_I u)) σ2) : bc_Sem g (d + 20) mX11_greatestVow [bc_R 218, bc_I a] σ Rr X := by
  have W := jo_wu J
  have N := J.2.2.1.1
  refine t_X11_greatestVow N W.2.2.1 (by omega) ha (fun c s R => ?_) (fun c k s R => ?_) (fun c k x hx s R => ?_)
  · exact f s 1 0 (jo_roc J R) R.1 (by decide) (.inl ⟨rfl, c⟩) R.2.1.2
  · exact f s 2 0 (jo_roc J R) R.1 (by decide) (.inr (.inl ⟨rfl, c, k⟩)) R.2.1.2
  · exact f s 0 x (jo_roc J R) R.1 (by decide) (.inr (.inr ⟨rfl, c, k, hx⟩)) R.2.1.2
theorem z_canKeepAll (J : jnt_ B σ v) (hB : B ≤ 999000) (f : ∀ (σ2 : bc_M) (t u : Int), jnt_ B σ2 v → σ2.1 218 ((14 : Nat) : Int) = t → (0 ≤ t ∧ t ≤ 4) → (t = 0 ∧ kpa_ (c_r v) u) → σ2.2 = σ.2 → Rr (some (bc_I u)) σ2) : bc_Sem g (d + 20) mX11_canKeepAll [bc_R 218] σ Rr X := by
  have W := jo_wu J
  have N := J.2.2.1.1
  refine t_X11_canKeepAll N W.2.2.1 (by omega) (fun s x k R => ?_)
  exact f s 0 x (jo_roc J R) R.1 (by decide) ⟨rfl, k⟩ R.2.1.2
theorem z_canKeepAllBySums (J : jnt_ B σ v) (hB : B ≤ 999000) (f : ∀ (σ2 : bc_M) (t u : Int), jnt_ B σ2 v → σ2.1 218 ((14 : Nat) : Int) = t → (0 ≤ t ∧ t ≤ 4) → (t = 0 ∧ kpa_ (c_r v) u) → σ2.2 = σ.2 → Rr (some (bc_I u)) σ2) : bc_Sem g (d + 20) mX11_canKeepAllBySums [bc_R 218] σ Rr X := by
  have W := jo_wu J
  have N := J.2.2.1.1
  refine t_X11_canKeepAllBySums N W.2.2.1 (by omega) (fun s x k R => ?_)
  exact f s 0 x (jo_roc J R) R.1 (by decide) ⟨rfl, k⟩ R.2.1.2
theorem z_memberCount (J : jnt_ B σ v) (hB : B ≤ 999000) (f : ∀ (σ2 : bc_M) (t u : Int), jnt_ B σ2 v → σ2.1 218 ((14 : Nat) : Int) = t → (0 ≤ t ∧ t ≤ 4) → (t = 0 ∧ u = (c_r v) 3) → σ2.2 = σ.2 → Rr (some (bc_I u)) σ2) : bc_Sem g (d + 20) mX11_memberCount [bc_R 218] σ Rr X := by
  have W := jo_wu J
  have N := J.2.2.1.1
  refine t_X11_memberCount N (fun s R => ?_)
  exact f s 0 _ (jo_roc J R) R.1 (by decide) ⟨rfl, rfl⟩ R.2.1.2
theorem z_vowCount (J : jnt_ B σ v) (hB : B ≤ 999000) (f : ∀ (σ2 : bc_M) (t u : Int), jnt_ B σ2 v → σ2.1 218 ((14 : Nat) : Int) = t → (0 ≤ t ∧ t ≤ 4) → (t = 0 ∧ u = (c_r v) 4) → σ2.2 = σ.2 → Rr (some (bc_I u)) σ2) : bc_Sem g (d + 20) mX11_vowCount [bc_R 218] σ Rr X := by
  have W := jo_wu J
  have N := J.2.2.1.1
  refine t_X11_vowCount N (fun s R => ?_)
  exact f s 0 _ (jo_roc J R) R.1 (by decide) ⟨rfl, rfl⟩ R.2.1.2
theorem z_keptTotal (J : jnt_ B σ v) (hB : B ≤ 999000) (f : ∀ (σ2 : bc_M) (t u : Int), jnt_ B σ2 v → σ2.1 218 ((14 : Nat) : Int) = t → (0 ≤ t ∧ t ≤ 4) → (t = 0 ∧ u = (c_r v) 6) → σ2.2 = σ.2 → Rr (some (bc_I u)) σ2) : bc_Sem g (d + 20) mX11_keptTotal [bc_R 218] σ Rr X := by
  have W := jo_wu J
  have N := J.2.2.1.1
  refine t_X11_keptTotal N (fun s R => ?_)
  exact f s 0 _ (jo_roc J R) R.1 (by decide) ⟨rfl, rfl⟩ R.2.1.2
theorem z_brokenTotal (J : jnt_ B σ v) (hB : B ≤ 999000) (f : ∀ (σ2 : bc_M) (t u : Int), jnt_ B σ2 v → σ2.1 218 ((14 : Nat) : Int) = t → (0 ≤ t ∧ t ≤ 4) → (t = 0 ∧ u = (c_r v) 7) → σ2.2 = σ.2 → Rr (some (bc_I u)) σ2) : bc_Sem g (d + 20) mX11_brokenTotal [bc_R 218] σ Rr X := by
  have W := jo_wu J
  have N := J.2.2.1.1
  refine t_X11_brokenTotal N (fun s R => ?_)
  exact f s 0 _ (jo_roc J R) R.1 (by decide) ⟨rfl, rfl⟩ R.2.1.2
theorem z_steel (J : jnt_ B σ v) (hB : B ≤ 999000) (f : ∀ (σ2 : bc_M) (t u : Int), jnt_ B σ2 v → σ2.1 218 ((14 : Nat) : Int) = t → (0 ≤ t ∧ t ≤ 4) → (t = 0 ∧ u = (c_r v) 1) → σ2.2 = σ.2 → Rr (some (bc_I u)) σ2) : bc_Sem g (d + 20) mX11_steel [bc_R 218] σ Rr X := by
  have W := jo_wu J
  have N := J.2.2.1.1
  refine t_X11_steel N (fun s R => ?_)
  exact f s 0 _ (jo_roc J R) R.1 (by decide) ⟨rfl, rfl⟩ R.2.1.2
theorem z_day (J : jnt_ B σ v) (hB : B ≤ 999000) (f : ∀ (σ2 : bc_M) (t u : Int), jnt_ B σ2 v → σ2.1 218 ((14 : Nat) : Int) = t → (0 ≤ t ∧ t ≤ 4) → (t = 0 ∧ u = (c_r v) 0) → σ2.2 = σ.2 → Rr (some (bc_I u)) σ2) : bc_Sem g (d + 20) mX11_day [bc_R 218] σ Rr X := by
  have W := jo_wu J
  have N := J.2.2.1.1
  refine t_X11_day N (fun s R => ?_)
  exact f s 0 _ (jo_roc J R) R.1 (by decide) ⟨rfl, rfl⟩ R.2.1.2
theorem z_nicheKind (J : jnt_ B σ v) (hB : B ≤ 999000) (f : ∀ (σ2 : bc_M) (t u : Int), jnt_ B σ2 v → σ2.1 218 ((14 : Nat) : Int) = t → (0 ≤ t ∧ t ≤ 4) → (t = 0 ∧ u = (c_r v) 11) → σ2.2 = σ.2 → Rr (some (bc_I u)) σ2) : bc_Sem g (d + 20) mX11_nicheKind [bc_R 218] σ Rr X := by
  have W := jo_wu J
  have N := J.2.2.1.1
  refine t_X11_nicheKind N W.2.1 (fun s R => ?_)
  exact f s 0 _ (jo_roc J R) R.1 (by decide) ⟨rfl, rfl⟩ R.2.1.2
theorem z_nicheWeight (J : jnt_ B σ v) (hB : B ≤ 999000) (f : ∀ (σ2 : bc_M) (t u : Int), jnt_ B σ2 v → σ2.1 218 ((14 : Nat) : Int) = t → (0 ≤ t ∧ t ≤ 4) → (t = 0 ∧ u = tw_ (c_r v)) → σ2.2 = σ.2 → Rr (some (bc_I u)) σ2) : bc_Sem g (d + 20) mX11_nicheWeight [bc_R 218] σ Rr X := by
  have W := jo_wu J
  have N := J.2.2.1.1
  refine t_X11_nicheWeight N (fun s R => ?_)
  exact f s 0 _ (jo_roc J R) R.1 (by decide) ⟨rfl, rfl⟩ R.2.1.2
theorem z_steelByAccounts (J : jnt_ B σ v) (hB : B ≤ 999000) (f : ∀ (σ2 : bc_M) (t u : Int), jnt_ B σ2 v → σ2.1 218 ((14 : Nat) : Int) = t → (0 ≤ t ∧ t ≤ 4) → (t = 0 ∧ u = (c_r v) 1) → σ2.2 = σ.2 → Rr (some (bc_I u)) σ2) : bc_Sem g (d + 20) mX11_steelByAccounts [bc_R 218] σ Rr X := by
  have W := jo_wu J
  have N := J.2.2.1.1
  have e1 := W.2.2.1.2.2.2.2.2.2.2.2.2.2.2.1
  refine t_X11_steelByAccounts N (fun s R => ?_)
  exact f s 0 _ (jo_roc J R) R.1 (by decide) ⟨rfl, e1.symm⟩ R.2.1.2
theorem z_isConsistent (J : jnt_ B σ v) (hB : B ≤ 999000) (f : ∀ (σ2 : bc_M) (t u : Int), jnt_ B σ2 v → σ2.1 218 ((14 : Nat) : Int) = t → (0 ≤ t ∧ t ≤ 4) → (t = 0 ∧ u = 1) → σ2.2 = σ.2 → Rr (some (bc_I u)) σ2) : bc_Sem g (d + 20) mX11_isConsistent [bc_R 218] σ Rr X := by
  have W := jo_wu J
  have N := J.2.2.1.1
  refine t_X11_isConsistent (fun s R => ?_)
  exact f s 0 _ (jo_roc J R) R.1 (by decide) ⟨rfl, rfl⟩ R.2.1.2
theorem z_meanBearing (J : jnt_ B σ v) (hB : B ≤ 999000) (f : ∀ (σ2 : bc_M) (t : Int) (u : UInt64), jnt_ B σ2 v → σ2.1 218 ((14 : Nat) : Int) = t → (0 ≤ t ∧ t ≤ 4) → ((t = 1 ∧ (c_r v) 3 = 0) ∨ (t = 0 ∧ 0 < (c_r v) 3 ∧ u = FP.ddiv (FP.i2d (Int32.ofInt (sm_ (br_ (c_r v)) ((c_r v) 3).toNat))) (FP.i2d (Int32.ofInt ((c_r v) 3))))) → σ2.2 = σ.2 → Rr (some (bc_D u)) σ2) : bc_Sem g (d + 20) mX11_meanBearing [bc_R 218] σ Rr X := by
  have W := jo_wu J
  have N := J.2.2.1.1
  refine t_X11_meanBearing N W.1 (fun c s R => ?_) (fun c s R => ?_)
  · exact f s 1 _ (jo_roc J R) R.1 (by decide) (.inl ⟨rfl, c⟩) R.2.1.2
  · exact f s 0 _ (jo_roc J R) R.1 (by decide) (.inr ⟨rfl, c, rfl⟩) R.2.1.2
theorem z_crackedShare (J : jnt_ B σ v) (hB : B ≤ 999000) (f : ∀ (σ2 : bc_M) (t : Int) (u : UInt32), jnt_ B σ2 v → σ2.1 218 ((14 : Nat) : Int) = t → (0 ≤ t ∧ t ≤ 4) → ((t = 1 ∧ (c_r v) 3 = 0) ∨ (t = 0 ∧ 0 < (c_r v) 3 ∧ u = FP.fdiv (FP.i2f (Int32.ofInt (sm_ (fun k => if 0 < (c_r v) (19 + 6 * k) then 1 else 0) ((c_r v) 3).toNat))) (FP.i2f (Int32.ofInt ((c_r v) 3))))) → σ2.2 = σ.2 → Rr (some (bc_F u)) σ2) : bc_Sem g (d + 20) mX11_crackedShare [bc_R 218] σ Rr X := by
  have W := jo_wu J
  have N := J.2.2.1.1
  refine t_X11_crackedShare N W.1 (fun c s R => ?_) (fun c s R => ?_)
  · exact f s 1 _ (jo_roc J R) R.1 (by decide) (.inl ⟨rfl, c⟩) R.2.1.2
  · exact f s 0 _ (jo_roc J R) R.1 (by decide) (.inr ⟨rfl, c, rfl⟩) R.2.1.2
theorem z_outputAt {i : Int} (J : jnt_ B σ v) (hB : B ≤ 999000) (hi : bc_in i) (f : ∀ (σ2 : bc_M) (t u : Int), jnt_ B σ2 v → σ2.1 218 ((14 : Nat) : Int) = t → (0 ≤ t ∧ t ≤ 4) → ((t = 1 ∧ ¬ (0 ≤ i ∧ i < (c_o v).length)) ∨ (t = 0 ∧ (0 ≤ i ∧ i < (c_o v).length) ∧ u = tg_ (c_o v) i)) → σ2.2 = σ.2 → Rr (some (bc_I u)) σ2) : bc_Sem g (d + 20) mX11_outputAt [bc_R 218, bc_I i] σ Rr X := by
  have W := jo_wu J
  have N := J.2.2.1.1
  refine t_X11_outputAt J.2.2.2.2.2.2.2.2.1 hi (fun c s R => ?_) (fun c s R => ?_)
  · exact f s 1 0 (jo_roc J R) R.1 (by decide) (.inl ⟨rfl, c⟩) R.2.1.2
  · exact f s 0 _ (jo_roc J R) R.1 (by decide) (.inr ⟨rfl, c, rfl⟩) R.2.1.2
theorem z_errorPosition (J : jnt_ B σ v) (hB : B ≤ 999000) (f : ∀ (σ2 : bc_M) (t u : Int), jnt_ B σ2 v → σ2.1 218 ((14 : Nat) : Int) = t → (0 ≤ t ∧ t ≤ 4) → ((t = 1 ∧ c_le v = -1) ∨ (t = 0 ∧ c_le v ≠ -1 ∧ u = c_le v)) → σ2.2 = σ.2 → Rr (some (bc_I u)) σ2) : bc_Sem g (d + 20) mX11_errorPosition [bc_R 218] σ Rr X := by
  have W := jo_wu J
  have N := J.2.2.1.1
  refine t_X11_errorPosition J.2.2.2.2.2.1 J.1.2.2.2.2.2.2.2.2.1.2 (fun c s R => ?_) (fun c s R => ?_)
  · exact f s 1 0 (jo_roc J R) R.1 (by decide) (.inl ⟨rfl, c⟩) R.2.1.2
  · exact f s 0 _ (jo_roc J R) R.1 (by decide) (.inr ⟨rfl, c, rfl⟩) R.2.1.2
theorem z_failedCommand (J : jnt_ B σ v) (hB : B ≤ 999000) (f : ∀ (σ2 : bc_M) (t u : Int), jnt_ B σ2 v → σ2.1 218 ((14 : Nat) : Int) = t → (0 ≤ t ∧ t ≤ 4) → ((t = 1 ∧ c_lf v = -1) ∨ (t = 0 ∧ c_lf v ≠ -1 ∧ u = c_lf v)) → σ2.2 = σ.2 → Rr (some (bc_I u)) σ2) : bc_Sem g (d + 20) mX11_failedCommand [bc_R 218] σ Rr X := by
  have W := jo_wu J
  have N := J.2.2.1.1
  have lf := J.1.2.2.2.2.2.2.2.2.2.2
  refine t_X11_failedCommand J.2.2.2.2.2.2.1 (by omega) (fun c s R => ?_) (fun c s R => ?_)
  · exact f s 1 0 (jo_roc J R) R.1 (by decide) (.inl ⟨rfl, c⟩) R.2.1.2
  · exact f s 0 _ (jo_roc J R) R.1 (by decide) (.inr ⟨rfl, c, rfl⟩) R.2.1.2
end ZRE
end
section
/-! the reference changes as the class did -/
theorem jo_spo2 {B B1 t : Int} {σ σ1 σ2 : bc_M} {v v1 : cs_t} {r : rw_t} {h : List rw_t} {n : Int} (J : jnt_ B σ v) (F : fa_ B1 σ1 v1) (y : yo_ σ σ1) (hv : ∀ s, rf2_ s (u_h (u_r v r) h n) → rf2_ s v1) (U : ujs_ v1) (S : spo_ t r h σ1 σ2) : jnt_ B1 σ2 v1 :=
  ⟨fa_ref F S.2.2.1 (by omega), U, hv _ (rf2_gen (rf2_yo J.2.2 y) S.1 S.2.2.1 S.2.2.2 (by decide) (by decide) (by decide) (by decide) (by decide) (by decide) (by decide) (by decide) (by decide))⟩
theorem rf2_rot {σ σ' : bc_M} {v : cs_t} {o : List Int} (H : rf2_ σ v) (L : liq_ σ' o) (R : rot_ σ σ') : rf2_ σ' (u_o v o) := by
  obtain ⟨⟨g1, g2⟩, h2, h3, h4, h5, h6, h7, h8⟩ := H
  obtain ⟨-, hf, hj⟩ := R
  exact ⟨⟨nw_fr g1 hf (by decide), mh_fr g2 hf (by decide) (hj _ (by decide))⟩, fun e => nw_fr (h2 e) hf (by decide), by rw [hj ((4 : Nat) : Int) (by decide)]; exact h3, by rw [hj ((6 : Nat) : Int) (by decide)]; exact h4, by rw [hj ((7 : Nat) : Int) (by decide)]; exact h5, tyt_fr h6 hf (by decide) (hj _ (by decide)), L, fun j => by rw [hf.1 227 (by decide)]; exact h8 j⟩
theorem rf2_typ {σ σ' : bc_M} {v : cs_t} {l : List Int} (H : rf2_ σ v) (L : tyt_ σ' l) (hf : fr_ (fun k => k = 218 ∨ k = 225) σ σ') (hj : fj_ (fun j => j = 11 ∨ j = 14) σ σ') : rf2_ σ' (u_l v l) := by
  obtain ⟨⟨g1, g2⟩, h2, h3, h4, h5, h6, h7, h8⟩ := H
  exact ⟨⟨nw_fr g1 hf (by decide), mh_fr g2 hf (by decide) (hj _ (by decide))⟩, fun e => nw_fr (h2 e) hf (by decide), by rw [hj ((4 : Nat) : Int) (by decide)]; exact h3, by rw [hj ((6 : Nat) : Int) (by decide)]; exact h4, by rw [hj ((7 : Nat) : Int) (by decide)]; exact h5, L, liq_fr h7 hf (by decide) (hj _ (by decide)), fun j => by rw [hf.1 227 (by decide)]; exact h8 j⟩
theorem rf2_scr {t : Int} {σ s : bc_M} {v w : cs_t} (H : rf2_ σ v) (Fi : rfin_ t σ s) (G : rg_ s (c_r w) (c_h w)) (e6 : s.1 218 ((6 : Nat) : Int) = c_le w) (e7 : s.1 218 ((7 : Nat) : Int) = c_lf w) (w1 : c_l w = []) (w2 : c_o w = c_o v) (w3 : c_hs w = c_hs v) (w4 : c_sn w = c_sn v) : rf2_ s w := by
  obtain ⟨-, h2, h3, h4, h5, h6, h7, h8⟩ := H
  obtain ⟨f1, f2, f3, hf, hj⟩ := Fi
  refine ⟨G, fun e => ?_, ?_, e6, e7, ?_, ?_, f3⟩
  · rw [w4]
    exact nw_fr (h2 (by rw [← w3]; exact e)) hf (by decide)
  · rw [hj ((4 : Nat) : Int) (by omega), w3]
    exact h3
  · rw [w1]
    exact ⟨f2, by decide, fun j hj => absurd hj (Nat.not_lt_zero _)⟩
  · rw [w2]
    exact liq_fr h7 hf (by decide) (hj _ (by omega))
theorem yv_vis {v : cs_t} (a b : Int) : (∀ s, rf2_ s v → rf2_ s (yv_ v a b)) ∧ (ujs_ v → ujs_ (yv_ v a b)) := by
  unfold yv_
  split
  · exact ⟨fun _ h => h, fun h => h⟩
  · exact ⟨fun _ h => h, fun h => h⟩
section ZCH
variable {g : bc_C} {d : Nat} {σ σ0 : bc_M} {B t x : Int} {v v1 : cs_t} {Rr : Option bc_A → bc_M → Prop} {X : Nat → bc_M → Prop}
theorem z_addMember {a b s : Int} (J : jnt_ B σ0 v) (hB : B ≤ 999000) (F : fa_ (B + 480) σ v1) (y : yo_ σ0 σ) (ha : bc_in a) (hb : bc_in b) (hs : bc_in s) (H : (t ≠ 0 ∧ v1 = v ∧ mq_ (c_r v) a b s t) ∨ (t = 0 ∧ v1 = u_r (rm_ v) (ra_ (c_r v) a b s) ∧ mq_ (c_r v) a b s 0 ∧ x = (c_r v) 3)) (f : ∀ (σ2 : bc_M) (u : Int), jnt_ (B + 480) σ2 v1 → σ2.1 218 ((14 : Nat) : Int) = t → (t = 0 → u = x) → σ2.2 = σ.2 → Rr (some (bc_I u)) σ2) : bc_Sem g (d + 20) mX11_addMember [bc_R 218, bc_I a, bc_I b, bc_I s] σ Rr X := by
  have W := jo_wu J
  have R0 := rf2_yo J.2.2 y
  have G := R0.1
  have hh := J.2.1.2.1
  have hu0 := J.2.1.1
  rcases H with ⟨tn, rfl, hf⟩ | ⟨rfl, rfl, hf, rfl⟩
  · have ad := mq_adr hu0 hf
    refine t_X11_addMember G W.1 ha hb hs (fun t2 a nt s S => ?_) (fun a s S => ?_)
    · have e := adr_eq a ad
      subst e
      exact f s 0 (jo_spo (n := c_n v1) J F y rfl hu0 hh S) (S.2.1) (fun e => absurd e tn) S.2.2.1.2
    · exact absurd (adr_eq ad a) tn
  · have ad := mq_adr hu0 hf
    refine t_X11_addMember G W.1 ha hb hs (fun t2 a nt s S => ?_) (fun a s S => ?_)
    · exact absurd (adr_eq a ad) nt
    · have hu := uj_ra W.1 hu0 ad
      exact f s _ (jo_spo J F y rfl hu (ujs_hr hh hu0) S) S.2.1 (fun _ => rfl) S.2.2.1.2
theorem z_makeVow {a u : Int} (J : jnt_ B σ0 v) (hB : B ≤ 999000) (F : fa_ (B + 480) σ v1) (y : yo_ σ0 σ) (ha : bc_in a) (hu : bc_in u) (H : (t ≠ 0 ∧ v1 = v ∧ vq_ (c_r v) a u ≠ 0 ∧ t = (if vq_ (c_r v) a u = 2 then 1 else 2)) ∨ (t = 0 ∧ v1 = u_r (rm_ v) (rv_ (c_r v) a u) ∧ vq_ (c_r v) a u = 0 ∧ x = (c_r v) 5)) (f : ∀ (σ2 : bc_M) (u : Int), jnt_ (B + 480) σ2 v1 → σ2.1 218 ((14 : Nat) : Int) = t → (t = 0 → u = x) → σ2.2 = σ.2 → Rr (some (bc_I u)) σ2) : bc_Sem g (d + 20) mX11_makeVow [bc_R 218, bc_I a, bc_I u] σ Rr X := by
  have W := jo_wu J
  have R0 := rf2_yo J.2.2 y
  have G := R0.1
  have hh := J.2.1.2.1
  have hu0 := J.2.1.1
  have w0 := W.2.2.1.1
  have w4 := W.2.2.1.2.2.2.1
  rcases H with ⟨tn, rfl, hne, ht⟩ | ⟨rfl, rfl, hf, rfl⟩
  · refine t_X11_makeVow G (by omega) w4 ha hu (fun c s S1 S2 S3 S4 => ?_) (fun c s S1 S2 S3 S4 => absurd c hne)
    rw [← ht] at S2
    have S := spo_ex S1 S2 S3 S4
    exact f s 0 (jo_spo (n := c_n v1) J F y rfl hu0 hh S) (S.2.1) (fun e => absurd e tn) S.2.2.1.2
  · refine t_X11_makeVow G (by omega) w4 ha hu (fun c s S1 S2 S3 S4 => absurd hf c) (fun c s S1 S2 S3 S4 => ?_)
    have S := spo_ex S1 S2 S3 S4
    have hu := (wu_step W ((cf_2 _ a u 0 _).mpr hf.symm) (.inr (.inr (.inl ⟨rfl, rfl⟩)))).2.2.2
    exact f s _ (jo_spo J F y rfl hu (ujs_hr hh hu0) S) S.2.1 (fun _ => rfl) S.2.2.1.2
theorem z_setForge {n : Int} (J : jnt_ B σ0 v) (hB : B ≤ 999000) (F : fa_ (B + 480) σ v1) (y : yo_ σ0 σ) (hn : bc_in n) (H : (t ≠ 0 ∧ v1 = v ∧ fq1_ n ≠ 0 ∧ t = 1) ∨ (t = 0 ∧ v1 = u_r (rm_ v) (up_ (c_r v) 2 n) ∧ fq1_ n = 0 ∧ x = (c_r v) 2)) (f : ∀ (σ2 : bc_M) (u : Int), jnt_ (B + 480) σ2 v1 → σ2.1 218 ((14 : Nat) : Int) = t → (t = 0 → u = x) → σ2.2 = σ.2 → Rr (some (bc_I u)) σ2) : bc_Sem g (d + 20) mX11_setForge [bc_R 218, bc_I n] σ Rr X := by
  have W := jo_wu J
  have R0 := rf2_yo J.2.2 y
  have G := R0.1
  have hh := J.2.1.2.1
  have hu0 := J.2.1.1
  have k : fq1_ n = if 0 ≤ n ∧ n ≤ 20 then 0 else 2 := by
    unfold fq1_
    (repeat' split) <;> omega
  rcases H with ⟨tn, rfl, hne, rfl⟩ | ⟨rfl, rfl, hf, rfl⟩
  · refine t_X11_setForge G hn (fun c s S1 S2 S3 S4 => ?_) (fun c0 c1 s S1 S2 S3 S4 => absurd (k.trans (if_pos ⟨c0, c1⟩)) hne)
    have S := spo_ex S1 S2 S3 S4
    exact f s 0 (jo_spo (n := c_n v1) J F y rfl hu0 hh S) (S.2.1) (fun e => absurd e tn) S.2.2.1.2
  · refine t_X11_setForge G hn (fun c s S1 S2 S3 S4 => absurd (hf.symm.trans (k.trans (if_neg c))) (by decide)) (fun c0 c1 s S1 S2 S3 S4 => ?_)
    have S := spo_ex S1 S2 S3 S4
    have hu := (wu_step W ((cf_3 _ n 0 0 _).mpr hf.symm) (.inr (.inr (.inr (.inl ⟨rfl, rfl⟩))))).2.2.2
    exact f s _ (jo_spo J F y rfl hu (ujs_hr hh hu0) S) S.2.1 (fun _ => rfl) S.2.2.1.2
theorem z_repair {m : Int} (J : jnt_ B σ0 v) (hB : B ≤ 999000) (F : fa_ (B + 480) σ v1) (y : yo_ σ0 σ) (hm : bc_in m) (H : (t ≠ 0 ∧ v1 = v ∧ eq_ (c_r v) m ≠ 0 ∧ t = (if eq_ (c_r v) m = 1 then 1 else if eq_ (c_r v) m = 3 then 2 else 3)) ∨ (t = 0 ∧ v1 = u_r (rm_ v) (rn_ (rs_ (c_r v) (co_ (c_r v) m)) m) ∧ eq_ (c_r v) m = 0 ∧ x = co_ (c_r v) m)) (f : ∀ (σ2 : bc_M) (u : Int), jnt_ (B + 480) σ2 v1 → σ2.1 218 ((14 : Nat) : Int) = t → (t = 0 → u = x) → σ2.2 = σ.2 → Rr (some (bc_I u)) σ2) : bc_Sem g (d + 20) mX11_repair [bc_R 218, bc_I m] σ Rr X := by
  have W := jo_wu J
  have R0 := rf2_yo J.2.2 y
  have G := R0.1
  have hh := J.2.1.2.1
  have hu0 := J.2.1.1
  have le3 : 0 ≤ er_ (c_r v) m ∧ er_ (c_r v) m ≤ 3 := by
    unfold er_
    (repeat' split) <;> omega
  have k := eq_er (c_r v) m
  rcases H with ⟨tn, rfl, hne, ht⟩ | ⟨rfl, rfl, hf, rfl⟩
  · have e : t = er_ (c_r v1) m := by
      rw [k] at ht
      (repeat' split at ht) <;> omega
    refine t_X11_repair G W.1 W.2.2.1 (by omega) hm (fun c s S => ?_) (fun c s S => absurd (e.trans c) tn)
    rw [← e] at S
    exact f s 0 (jo_spo (n := c_n v1) J F y rfl hu0 hh S) (S.2.1) (fun e => absurd e tn) S.2.2.1.2
  · refine t_X11_repair G W.1 W.2.2.1 (by omega) hm (fun c s S => ?_) (fun c s S => ?_)
    · rw [k] at hf
      (repeat' split at hf) <;> omega
    · have hu := (wu_step W ((cf_4 _ m 0 0 _).mpr hf.symm) (.inr (.inr (.inr (.inr (.inl ⟨rfl, rfl⟩)))))).2.2.2
      exact f s _ (jo_spo J F y rfl hu (ujs_hr hh hu0) S) S.2.1 (fun _ => rfl) S.2.2.1.2
theorem z_abandon {m : Int} (J : jnt_ B σ0 v) (hB : B ≤ 999000) (F : fa_ (B + 480) σ v1) (y : yo_ σ0 σ) (hm : bc_in m) (H : (t ≠ 0 ∧ v1 = v ∧ lq_ (c_r v) m 0 ≠ 0 ∧ t = (if lq_ (c_r v) m 0 = 1 then 1 else 2)) ∨ (t = 0 ∧ v1 = u_r (rm_ v) (rl_ (c_r v) m 1) ∧ lq_ (c_r v) m 0 = 0 ∧ x = ab_ (rl_ (c_r v) m 1))) (f : ∀ (σ2 : bc_M) (u : Int), jnt_ (B + 480) σ2 v1 → σ2.1 218 ((14 : Nat) : Int) = t → (t = 0 → u = x) → σ2.2 = σ.2 → Rr (some (bc_I u)) σ2) : bc_Sem g (d + 20) mX11_abandon [bc_R 218, bc_I m] σ Rr X := by
  have W := jo_wu J
  have R0 := rf2_yo J.2.2 y
  have G := R0.1
  have hh := J.2.1.2.1
  have hu0 := J.2.1.1
  rcases H with ⟨tn, rfl, hne, ht⟩ | ⟨rfl, rfl, hf, rfl⟩
  · refine t_X11_abandon G W.1 hm (fun c s S1 S2 S3 S4 => ?_) (fun c s S1 S2 S3 S4 => absurd c hne)
    have S2 : s.1 218 ((14 : Nat) : Int) = t := S2.trans ht.symm
    have S := spo_ex S1 S2 S3 S4
    exact f s 0 (jo_spo (n := c_n v1) J F y rfl hu0 hh S) (S.2.1) (fun e => absurd e tn) S.2.2.1.2
  · refine t_X11_abandon G W.1 hm (fun c s S1 S2 S3 S4 => absurd hf c) (fun c s S1 S2 S3 S4 => ?_)
    have S := spo_ex S1 S2 S3 S4
    have hu := (wu_step W ((cf_5 _ m 0 0 _).mpr hf.symm) (.inr (.inr (.inr (.inr (.inr (.inl ⟨rfl, rfl⟩))))))).2.2.2
    exact f s _ (jo_spo J F y rfl hu (ujs_hr hh hu0) S) S.2.1 (fun _ => rfl) S.2.2.1.2
theorem z_resume {m : Int} (J : jnt_ B σ0 v) (hB : B ≤ 999000) (F : fa_ (B + 480) σ v1) (y : yo_ σ0 σ) (hm : bc_in m) (H : (t ≠ 0 ∧ v1 = v ∧ lq_ (c_r v) m 1 ≠ 0 ∧ t = (if lq_ (c_r v) m 1 = 1 then 1 else 2)) ∨ (t = 0 ∧ v1 = u_r (rm_ v) (rl_ (c_r v) m 0) ∧ lq_ (c_r v) m 1 = 0 ∧ x = ab_ (rl_ (c_r v) m 0))) (f : ∀ (σ2 : bc_M) (u : Int), jnt_ (B + 480) σ2 v1 → σ2.1 218 ((14 : Nat) : Int) = t → (t = 0 → u = x) → σ2.2 = σ.2 → Rr (some (bc_I u)) σ2) : bc_Sem g (d + 20) mX11_resume [bc_R 218, bc_I m] σ Rr X := by
  have W := jo_wu J
  have R0 := rf2_yo J.2.2 y
  have G := R0.1
  have hh := J.2.1.2.1
  have hu0 := J.2.1.1
  rcases H with ⟨tn, rfl, hne, ht⟩ | ⟨rfl, rfl, hf, rfl⟩
  · refine t_X11_resume G W.1 hm (fun c s S1 S2 S3 S4 => ?_) (fun c s S1 S2 S3 S4 => absurd c hne)
    have S2 : s.1 218 ((14 : Nat) : Int) = t := S2.trans ht.symm
    have S := spo_ex S1 S2 S3 S4
    exact f s 0 (jo_spo (n := c_n v1) J F y rfl hu0 hh S) (S.2.1) (fun e => absurd e tn) S.2.2.1.2
  · refine t_X11_resume G W.1 hm (fun c s S1 S2 S3 S4 => absurd hf c) (fun c s S1 S2 S3 S4 => ?_)
    have S := spo_ex S1 S2 S3 S4
    have hu := (wu_step W ((cf_6 _ m 0 0 _).mpr hf.symm) (.inr (.inr (.inr (.inr (.inr (.inr (.inl ⟨rfl, rfl⟩)))))))).2.2.2
    exact f s _ (jo_spo J F y rfl hu (ujs_hr hh hu0) S) S.2.1 (fun _ => rfl) S.2.2.1.2
theorem z_setNiche {c : Int} (J : jnt_ B σ0 v) (hB : B ≤ 999000) (F : fa_ (B + 480) σ v1) (y : yo_ σ0 σ) (hc : 0 ≤ c ∧ c ≤ 65535) (H : (t ≠ 0 ∧ v1 = v ∧ nq1_ c ≠ 0 ∧ t = 1) ∨ (t = 0 ∧ v1 = u_r (rm_ v) (re_ (c_r v) c) ∧ nq1_ c = 0 ∧ x = tw_ (c_r v))) (f : ∀ (σ2 : bc_M) (u : Int), jnt_ (B + 480) σ2 v1 → σ2.1 218 ((14 : Nat) : Int) = t → (t = 0 → u = x) → σ2.2 = σ.2 → Rr (some (bc_I u)) σ2) : bc_Sem g (d + 20) mX11_setNiche [bc_R 218, bc_I c] σ Rr X := by
  have W := jo_wu J
  have R0 := rf2_yo J.2.2 y
  have G := R0.1
  have hh := J.2.1.2.1
  have hu0 := J.2.1.1
  have k : nq1_ c = if c = 99 ∨ c = 108 then 0 else 2 := rfl
  rcases H with ⟨tn, rfl, hne, rfl⟩ | ⟨rfl, rfl, hf, rfl⟩
  · refine t_X11_setNiche G (by constructor <;> omega) (fun k9 s S1 S2 S3 S4 => ?_) (fun k9 s S1 S2 S3 S4 => absurd (k.trans (if_pos k9)) hne)
    have S := spo_ex S1 S2 S3 S4
    exact f s 0 (jo_spo (n := c_n v1) J F y rfl hu0 hh S) (S.2.1) (fun e => absurd e tn) S.2.2.1.2
  · refine t_X11_setNiche G (by constructor <;> omega) (fun k9 s S1 S2 S3 S4 => absurd (hf.symm.trans (k.trans (if_neg k9))) (by decide)) (fun k9 s S1 S2 S3 S4 => ?_)
    have S := spo_ex S1 S2 S3 S4
    have hu := (wu_step W ((cf_7 _ c 0 0 _).mpr hf.symm) (.inr (.inr (.inr (.inr (.inr (.inr (.inr (.inl ⟨rfl, rfl⟩))))))))).2.2.2
    exact f s _ (jo_spo J F y rfl hu (ujs_hr hh hu0) S) S.2.1 (fun _ => rfl) S.2.2.1.2
theorem z_put {p c w : Int} (J : jnt_ B σ0 v) (hB : B ≤ 999000) (F : fa_ (B + 480) σ v1) (y : yo_ σ0 σ) (hp : bc_in p) (hc : 0 ≤ c ∧ c ≤ 65535) (hw : bc_in w) (H : (t ≠ 0 ∧ v1 = v ∧ pq_ (c_r v) p c w ≠ 0 ∧ t = (if pq_ (c_r v) p c w = 5 then 3 else if pq_ (c_r v) p c w = 3 then 4 else pq_ (c_r v) p c w)) ∨ (t = 0 ∧ v1 = u_r (rm_ v) (rp_ (c_r v) p w) ∧ pq_ (c_r v) p c w = 0 ∧ x = tw_ (rp_ (c_r v) p w))) (f : ∀ (σ2 : bc_M) (u : Int), jnt_ (B + 480) σ2 v1 → σ2.1 218 ((14 : Nat) : Int) = t → (t = 0 → u = x) → σ2.2 = σ.2 → Rr (some (bc_I u)) σ2) : bc_Sem g (d + 20) mX11_put [bc_R 218, bc_I p, bc_I c, bc_I w] σ Rr X := by
  have W := jo_wu J
  have R0 := rf2_yo J.2.2 y
  have G := R0.1
  have hh := J.2.1.2.1
  have hu0 := J.2.1.1
  have le4 := put_le (c_r v) p c w
  have k := pq_put W.2.1 p c w
  rcases H with ⟨tn, rfl, hne, ht⟩ | ⟨rfl, rfl, hf, rfl⟩
  · have e : t = put_ (c_r v1) p c w := by
      rw [k] at ht
      (repeat' split at ht) <;> omega
    refine t_X11_put G W.2.1 hp (by constructor <;> omega) hw (fun k9 s S => ?_) (fun k9 s S => absurd (e.trans k9) tn)
    rw [← e] at S
    exact f s 0 (jo_spo (n := c_n v1) J F y rfl hu0 hh S) (S.2.1) (fun e => absurd e tn) S.2.2.1.2
  · refine t_X11_put G W.2.1 hp (by constructor <;> omega) hw (fun k9 s S => ?_) (fun k9 s S => ?_)
    · rw [k] at hf
      (repeat' split at hf) <;> omega
    · have hu := (wu_step W ((cf_8 _ p c w _).mpr hf.symm) (.inr (.inr (.inr (.inr (.inr (.inr (.inr (.inr (.inl ⟨rfl, rfl⟩)))))))))).2.2.2
      exact f s _ (jo_spo J F y rfl hu (ujs_hr hh hu0) S) S.2.1 (fun _ => rfl) S.2.2.1.2
theorem z_passDays {n : Int} (J : jnt_ B σ0 v) (hB : B ≤ 999000) (F : fa_ (B + 480) σ v1) (y : yo_ σ0 σ) (hn : bc_in n) (H : (t ≠ 0 ∧ v1 = v ∧ dq_ n ≠ 0 ∧ t = 1) ∨ (t = 0 ∧ v1 = u_r (rm_ v) (ps_ (c_r v) n.toNat) ∧ dq_ n = 0 ∧ x = ps_ (c_r v) n.toNat 6 - (c_r v) 6)) (f : ∀ (σ2 : bc_M) (u : Int), jnt_ (B + 480) σ2 v1 → σ2.1 218 ((14 : Nat) : Int) = t → (t = 0 → u = x) → σ2.2 = σ.2 → Rr (some (bc_I u)) σ2) : bc_Sem g (d + 20) mX11_passDays [bc_R 218, bc_I n] σ Rr X := by
  have W := jo_wu J
  have R0 := rf2_yo J.2.2 y
  have G := R0.1
  have hh := J.2.1.2.1
  have hu0 := J.2.1.1
  have k : dq_ n = if 1 ≤ n ∧ n ≤ 30 then 0 else 2 := by
    unfold dq_
    (repeat' split) <;> omega
  rcases H with ⟨tn, rfl, hne, rfl⟩ | ⟨rfl, rfl, hf, rfl⟩
  · refine t_X11_passDays G W.2.2.1 (by omega) hn (fun c s S => ?_) (fun c s S => absurd (k.trans (if_pos c)) hne)
    exact f s 0 (jo_spo (n := c_n v1) J F y rfl hu0 hh S) (S.2.1) (fun e => absurd e tn) S.2.2.1.2
  · refine t_X11_passDays G W.2.2.1 (by omega) hn (fun c s S => absurd (hf.symm.trans (k.trans (if_neg c))) (by decide)) (fun c s S => ?_)
    have hu := (wu_step W ((cf_9 _ n 0 0 _).mpr hf.symm) (.inr (.inr (.inr (.inr (.inr (.inr (.inr (.inr (.inr (⟨rfl, rfl⟩))))))))))).2.2.2
    exact f s _ (jo_spo J F y rfl hu (ujs_hr hh hu0) S) S.2.1 (fun _ => rfl) S.2.2.1.2
theorem z_procession {a b n : Int} (J : jnt_ B σ0 v) (hB : B ≤ 999000) (F : fa_ (B + 480) σ v1) (y : yo_ σ0 σ) (ha : bc_in a) (hb : bc_in b) (hn : bc_in n) (H : (t ≠ 0 ∧ v1 = v ∧ t = wkt_ (c_r v) a b n) ∨ (t = 0 ∧ wkt_ (c_r v) a b n = 0 ∧ ∃ r1 : rw_t, wz_ v a b n r1 ∧ v1 = wv1_ (rm_ v) a b r1 ∧ x = (fz_ (sa_ (c_r v)) a b (c_J v)).2)) (f : ∀ (σ2 : bc_M) (u : Int), jnt_ (B + 480) σ2 v1 → σ2.1 218 ((14 : Nat) : Int) = t → (t = 0 → u = x) → σ2.2 = σ.2 → Rr (some (bc_I u)) σ2) : bc_Sem g (d + 20) mX11_procession [bc_R 218, bc_I a, bc_I b, bc_I n] σ Rr X := by
  have W := jo_wu J
  have R0 := rf2_yo J.2.2 y
  have G := R0.1
  have hh := J.2.1.2.1
  have hu0 := J.2.1.1
  rcases H with ⟨tn, rfl, ht⟩ | ⟨rfl, hk, r1, hz, rfl, rfl⟩
  · refine t_X11_procession G W.1 W.2.1 W.2.2.2 ha hb hn (fun c s S => ?_) (fun c s r2 hw S => absurd (ht.trans c) tn)
    rw [← ht] at S
    exact f s 0 (jo_spo (n := c_n v1) J F y rfl hu0 hh S) (S.2.1) (fun e => absurd e tn) S.2.2.1.2
  · obtain ⟨-, e2, e3⟩ := walk_same W.1 hu0 (c_J v) hk
    refine t_X11_procession G W.1 W.2.1 W.2.2.2 ha hb hn (fun c s S => absurd hk c) (fun c s r2 hw S => ?_)
    obtain ⟨e4, e5⟩ := e3 r1 r2 hz hw
    have hu := uj_eJ W.1.1.2 e5 hu0
    subst e4
    exact f s _ (jo_spo2 (n := (c_n v + 1) % 8) J F y (fun _ h => h) ⟨hu, ujs_hr hh hu0, J.2.1.2.2⟩ S) S.2.1 (fun _ => e2.symm) S.2.2.1.2
theorem z_renderMember {m : Int} (J : jnt_ B σ0 v) (hB : B ≤ 999000) (F : fa_ (B + 480) σ v1) (y : yo_ σ0 σ) (hm : bc_in m) (H : (t = 1 ∧ ¬ (0 ≤ m ∧ m < (c_r v) 3) ∧ v1 = v) ∨ (t = 0 ∧ (0 ≤ m ∧ m < (c_r v) 3) ∧ x = (om_ (c_r v) m).length ∧ v1 = u_o v (om_ (c_r v) m))) (f : ∀ (σ2 : bc_M) (u : Int), jnt_ (B + 480) σ2 v1 → σ2.1 218 ((14 : Nat) : Int) = t → (t = 0 → u = x) → σ2.2 = σ.2 → Rr (some (bc_I u)) σ2) : bc_Sem g (d + 20) mX11_renderMember [bc_R 218, bc_I m] σ Rr X := by
  have W := jo_wu J
  have R0 := rf2_yo J.2.2 y
  have G := R0.1
  have hh := J.2.1.2.1
  have hu0 := J.2.1.1
  have J1 : ∀ {v2 : cs_t}, fa_ (B + 480) σ v2 → v2 = v → jnt_ (B + 480) σ v2 := fun F e => by
    subst e
    exact ⟨F, J.2.1, R0⟩
  rcases H with ⟨rfl, hm2, rfl⟩ | ⟨rfl, hm2, rfl, rfl⟩
  · refine t_X11_renderMember G.1 W.1 hm (fun c s R => ?_) (fun c s L R => absurd c hm2)
    exact f s 0 (jo_roc (J1 F rfl) R) R.1 (fun e => absurd e (by decide)) R.2.1.2
  · refine t_X11_renderMember G.1 W.1 hm (fun c s R => absurd hm2 c) (fun c s L R => ?_)
    exact f s _ ⟨fa_ref F R.2.1 (by omega), J.2.1, rf2_rot R0 L R⟩ R.1 (fun _ => rfl) R.2.1.2
theorem z_renderWay {a b : Int} (J : jnt_ B σ0 v) (hB : B ≤ 999000) (F : fa_ (B + 480) σ v1) (y : yo_ σ0 σ) (ha : bc_in a) (hb : bc_in b) (H : (yq_ (c_r v) a b ≠ 0 ∧ t = (if yq_ (c_r v) a b = 4 then 3 else yq_ (c_r v) a b) ∧ v1 = yv_ v a b) ∨ (yq_ (c_r v) a b = 0 ∧ t = 0 ∧ x = (ow_ (c_J (yv_ v a b)) ((c_len (yv_ v a b)).toNat + 1)).length ∧ v1 = u_o (yv_ v a b) (ow_ (c_J (yv_ v a b)) ((c_len (yv_ v a b)).toNat + 1)))) (f : ∀ (σ2 : bc_M) (u : Int), jnt_ (B + 480) σ2 v1 → σ2.1 218 ((14 : Nat) : Int) = t → (t = 0 → u = x) → σ2.2 = σ.2 → Rr (some (bc_I u)) σ2) : bc_Sem g (d + 20) mX11_renderWay [bc_R 218, bc_I a, bc_I b] σ Rr X := by
  have W := jo_wu J
  have R0 := rf2_yo J.2.2 y
  have G := R0.1
  have hh := J.2.1.2.1
  have hu0 := J.2.1.1
  obtain ⟨k1, k2⟩ := yq_atw W.1 hu0 a b
  obtain ⟨V1, V2⟩ := yv_vis (v := v) a b
  have la := atw_le (c_r v) a b
  rcases H with ⟨hne, ht, rfl⟩ | ⟨hy, rfl, rfl, rfl⟩
  · rw [k1] at ht
    have tn : t ≠ 0 := fun e => hne (k2.mpr (ht.symm.trans e))
    refine t_X11_renderWay G.1 W.1 W.2.2.2 ha hb (fun c s R => ?_) (fun c s L R => absurd (ht.trans c) tn)
    rw [← ht] at R
    exact f s 0 (jo_roc ⟨F, V2 J.2.1, V1 _ R0⟩ R) R.1 (fun e => absurd e tn) R.2.1.2
  · have z := k2.mp hy
    obtain ⟨w1, w2⟩ := yv_way W.1 hu0 z
    have lm := (atw_m W.1 hu0 z).2
    have e : ow_ (c_J (yv_ v a b)) ((c_len (yv_ v a b)).toNat + 1) = ow_ (wyJ_ (c_r v) a b) ((xm_ (c_r v) (xw_ (c_r v) a 8 b) (-1) b 8 a).toNat + 1) := by
      rw [← w1]
      refine ow_cong _ (fun i hi => ?_)
      exact w2 i (by omega)
    refine t_X11_renderWay G.1 W.1 W.2.2.2 ha hb (fun c s R => absurd z c) (fun c s L R => ?_)
    rw [← e] at L ⊢
    exact f s _ ⟨fa_ref F R.2.1 (by omega), V2 J.2.1, rf2_rot (V1 _ R0) L R⟩ R.1 (fun _ => rfl) R.2.1.2
theorem z_type {c : Int} (J : jnt_ B σ0 v) (hB : B ≤ 999000) (F : fa_ (B + 480) σ v1) (y : yo_ σ0 σ) (hc : 0 ≤ c ∧ c ≤ 65535) (H : (t = 1 ∧ ¬ (32 ≤ c ∧ c ≤ 126) ∧ v1 = v) ∨ (t = 2 ∧ (32 ≤ c ∧ c ≤ 126) ∧ 60 ≤ (c_l v).length ∧ v1 = v) ∨ (t = 0 ∧ (32 ≤ c ∧ c ≤ 126) ∧ (c_l v).length < 60 ∧ x = (c_l v).length + 1 ∧ v1 = u_l v (c_l v ++ [c]))) (f : ∀ (σ2 : bc_M) (u : Int), jnt_ (B + 480) σ2 v1 → σ2.1 218 ((14 : Nat) : Int) = t → (t = 0 → u = x) → σ2.2 = σ.2 → Rr (some (bc_I u)) σ2) : bc_Sem g (d + 20) mX11_type [bc_R 218, bc_I c] σ Rr X := by
  have W := jo_wu J
  have R0 := rf2_yo J.2.2 y
  have G := R0.1
  have hh := J.2.1.2.1
  have hu0 := J.2.1.1
  have T := R0.2.2.2.2.2.1
  have J1 : ∀ {v2 : cs_t}, fa_ (B + 480) σ v2 → v2 = v → jnt_ (B + 480) σ v2 := fun F e => by
    subst e
    exact ⟨F, J.2.1, R0⟩
  rcases H with ⟨rfl, h1, rfl⟩ | ⟨rfl, h1, h2, rfl⟩ | ⟨rfl, h1, h2, rfl, rfl⟩
  · refine t_X11_type T hc (fun c s R => ?_) (fun c c2 s R => absurd c h1) (fun c c2 s L e fr fj => absurd c h1)
    exact f s 0 (jo_roc (J1 F rfl) R) R.1 (fun e => absurd e (by decide)) R.2.1.2
  · refine t_X11_type T hc (fun c s R => absurd h1 c) (fun c c2 s R => ?_) (fun c c2 s L e fr fj => absurd h2 (by omega))
    exact f s 0 (jo_roc (J1 F rfl) R) R.1 (fun e => absurd e (by decide)) R.2.1.2
  · refine t_X11_type T hc (fun c s R => absurd h1 c) (fun c c2 s R => absurd h2 (by omega)) (fun c c2 s L e fr fj => ?_)
    exact f s _ ⟨fa_ref F fr (by omega), J.2.1, rf2_typ R0 L fr fj⟩ e (fun _ => rfl) fr.2
theorem z_undo (J : jnt_ B σ0 v) (hB : B ≤ 999000) (F : fa_ (B + 480) σ v1) (y : yo_ σ0 σ) (H : (t = 1 ∧ c_h v = [] ∧ v1 = v) ∨ (t = 0 ∧ ∃ (p : rw_t) (s : List rw_t), c_h v = p :: s ∧ x = s.length ∧ v1 = u_h (u_r v p) s ((c_n v + 7) % 8))) (f : ∀ (σ2 : bc_M) (u : Int), jnt_ (B + 480) σ2 v1 → σ2.1 218 ((14 : Nat) : Int) = t → (t = 0 → u = x) → σ2.2 = σ.2 → Rr (some (bc_I u)) σ2) : bc_Sem g (d + 20) mX11_undo [bc_R 218] σ Rr X := by
  have W := jo_wu J
  have R0 := rf2_yo J.2.2 y
  have G := R0.1
  have hh := J.2.1.2.1
  have hu0 := J.2.1.1
  rcases H with ⟨rfl, h1, rfl⟩ | ⟨rfl, p, r, h1, rfl, rfl⟩
  · rw [h1] at G
    refine t_X11_undo0 G (fun s S1 S2 S3 S4 => ?_)
    rw [← h1] at S1
    have S := spo_ex S1 S2 S3 S4
    exact f s 0 (jo_spo (n := c_n v1) J F y rfl hu0 hh S) S.2.1 (fun e => absurd e (by decide)) S.2.2.1.2
  · rw [h1] at G hh
    refine t_X11_undo1 G (fun s S1 S2 S3 S4 => ?_)
    have S := spo_ex S1 S2 S3 S4
    exact f s _ (jo_spo J F y rfl (hh p (List.mem_cons_self ..)) (fun q hq => hh q (List.mem_cons_of_mem _ hq)) S) S.2.1 (fun _ => rfl) S.2.2.1.2
theorem z_restore (J : jnt_ B σ0 v) (hB : B ≤ 999000) (F : fa_ (B + 480) σ v1) (y : yo_ σ0 σ) (H : (t = 1 ∧ c_hs v = 0 ∧ v1 = v) ∨ (t = 0 ∧ c_hs v = 1 ∧ x = (c_sn v) 3 ∧ v1 = u_h (u_r v (c_sn v)) [] (c_n v))) (f : ∀ (σ2 : bc_M) (u : Int), jnt_ (B + 480) σ2 v1 → σ2.1 218 ((14 : Nat) : Int) = t → (t = 0 → u = x) → σ2.2 = σ.2 → Rr (some (bc_I u)) σ2) : bc_Sem g (d + 20) mX11_restore [bc_R 218] σ Rr X := by
  have W := jo_wu J
  have R0 := rf2_yo J.2.2 y
  have G := R0.1
  have hh := J.2.1.2.1
  have hu0 := J.2.1.1
  have e4 := R0.2.2.1
  rcases H with ⟨rfl, h1, rfl⟩ | ⟨rfl, h1, rfl, rfl⟩
  · refine t_X11_restore0 G (e4.trans h1) (fun s S => ?_)
    exact f s 0 (jo_spo (n := c_n v1) J F y rfl hu0 hh S) S.2.1 (fun e => absurd e (by decide)) S.2.2.1.2
  · refine t_X11_restore1 G (R0.2.1 h1) (e4.trans h1) (fun s S => ?_)
    exact f s _ (jo_spo J F y rfl (J.2.1.2.2 h1) (fun q hq => absurd hq (List.not_mem_nil)) S) S.2.1 (fun _ => rfl) S.2.2.1.2
theorem z_save (J : jnt_ B σ0 v) (hB : B ≤ 999000) (F : fa_ (B + 480) σ v1) (y : yo_ σ0 σ) (H : t = 0 ∧ v1 = u_hs (u_sn v (c_r v)) 1 ∧ x = (c_r v) 3) (f : ∀ (σ2 : bc_M) (u : Int), jnt_ (B + 480) σ2 v1 → σ2.1 218 ((14 : Nat) : Int) = t → (t = 0 → u = x) → σ2.2 = σ.2 → Rr (some (bc_I u)) σ2) : bc_Sem g (d + 20) mX11_save [bc_R 218] σ Rr X := by
  have W := jo_wu J
  have R0 := rf2_yo J.2.2 y
  have G := R0.1
  have hh := J.2.1.2.1
  have hu0 := J.2.1.1
  obtain ⟨rfl, rfl, rfl⟩ := H
  refine t_X11_save G (fun s S1 S2 S3 S4 fr fj => ?_)
  obtain ⟨-, h2, h3, h4, h5, h6, h7, h8⟩ := R0
  refine f s _ ⟨fa_ref F fr (by omega), ⟨hu0, hh, fun _ => hu0⟩, ⟨S1, fun _ => S2, S3, ?_, ?_, tyt_fr h6 fr (by decide) (fj _ (by decide)), liq_fr h7 fr (by decide) (fj _ (by decide)), fun j => ?_⟩⟩ S4 (fun _ => rfl) fr.2
  · rw [fj ((6 : Nat) : Int) (by decide)]; exact h4
  · rw [fj ((7 : Nat) : Int) (by decide)]; exact h5
  · rw [fr.1 227 (by decide)]; exact h8 j
theorem z_runScript (J : jnt_ B σ0 v) (hB : B ≤ 999000) (F : fa_ (B + 480) σ v1) (y : yo_ σ0 σ) (H : (t = 1 ∧ (zp_ v).1 = 0 ∧ v1 = u_le (vp_ v) (zp_ v).2.1) ∨ (t = 2 ∧ (zp_ v).1 = 1 ∧ ∃ (i : Nat) (w : cs_t) (e : Int), (i : Int) < (zp_ v).2.2.1 ∧ rr_ (zp_ v) (vp_ v) i w ∧ cf_ (c_r w) ((zp_ v).2.2.2.1 i) ((zp_ v).2.2.2.2 i 0) ((zp_ v).2.2.2.2 i 1) ((zp_ v).2.2.2.2 i 2) e ∧ e ≠ 0 ∧ v1 = u_lf (u_r w (c_bs w)) i) ∨ (t = 0 ∧ (zp_ v).1 = 1 ∧ x = (zp_ v).2.2.1 ∧ ∃ w : cs_t, rr_ (zp_ v) (vp_ v) (zp_ v).2.2.1.toNat w ∧ v1 = u_h w (hr_ (c_h w) (c_bs w)) ((c_n w + 1) % 8))) (f : ∀ (σ2 : bc_M) (u : Int), jnt_ (B + 480) σ2 v1 → σ2.1 218 ((14 : Nat) : Int) = t → (t = 0 → u = x) → σ2.2 = σ.2 → Rr (some (bc_I u)) σ2) : bc_Sem g (d + 20) mX11_runScript [bc_R 218] σ Rr X := by
  have W := jo_wu J
  have R0 := rf2_yo J.2.2 y
  have G := R0.1
  have hh := J.2.1.2.1
  have hu0 := J.2.1.1
  have T := R0.2.2.2.2.2.1
  have hc := J.1.2.2.2.1.2.2.2
  have kk := J.1.2.2.2.2.1.2
  have gA := J.1.2.2.2.2.2.1.2
  have hb := R0.2.2.2.2.2.2.2
  have e6 := R0.2.2.2.1
  have e7 := R0.2.2.2.2.1
  have U : wu_ B (c_r (vp_ v)) := W
  rcases H with ⟨rfl, z0, rfl⟩ | ⟨rfl, z1, i, w, e, hi, hr, hf, hne, rfl⟩ | ⟨rfl, z1, rfl, w, hr, rfl⟩
  · refine t_X11_runScript (k0 := c_k v) (A0 := c_A v) G W (by omega) T hc kk gA rfl hb (fun z s Fi G2 s6 s7 => ?_) (fun z => absurd (z0.symm.trans z) (by decide)) (fun z => absurd (z0.symm.trans z) (by decide))
    exact f s 0 ⟨fa_ref F Fi.2.2.2.1 (by omega), J.2.1, rf2_scr R0 Fi G2 s6 (s7.trans e7) rfl rfl rfl rfl⟩ Fi.1 (fun e => absurd e (by decide)) Fi.2.2.2.1.2
  · have V := rr_sv hr
    obtain ⟨v1, v2, v3, v4, v5, v6, v7, v8, v9⟩ := V
    refine t_X11_runScript (k0 := c_k v) (A0 := c_A v) G W (by omega) T hc kk gA rfl hb (fun z => absurd (z1.symm.trans z) (by decide)) (fun z j r s hj hx hno Fi G2 s6 s7 => ?_) (fun z r s hx hW Fi G2 s6 s7 => ?_)
    · have ij := fail_same U hr hf hne hx hno
      subst ij
      have G3 : rg_ s (c_r (u_lf (u_r w (c_bs w)) i)) (c_h (u_lf (u_r w (c_bs w)) i)) := by
        show rg_ s (c_bs w) (c_h w)
        rw [v2, v3]
        exact G2
      refine f s 0 ⟨fa_ref F Fi.2.2.2.1 (by omega), ⟨?_, ?_, ?_⟩, rf2_scr R0 Fi G3 ?_ s7 v5 v6 v7 v1⟩ Fi.1 (fun e => absurd e (by decide)) Fi.2.2.2.1.2
      · show uj_ (c_bs w)
        rw [v2]
        exact hu0
      · show ∀ q ∈ c_h w, uj_ q
        rw [v3]
        exact hh
      · show c_hs w = 1 → uj_ (c_sn w)
        rw [v7, v1]
        exact J.2.1.2.2
      · show s.1 218 ((6 : Nat) : Int) = c_le w
        rw [v8]
        exact s6.trans e6
    · exact (fail_no (n := (zp_ v).2.2.1.toNat) U (by omega) hr hf hne hx).elim
  · have V := rr_sv hr
    obtain ⟨v1, v2, v3, v4, v5, v6, v7, v8, v9⟩ := V
    refine t_X11_runScript (k0 := c_k v) (A0 := c_A v) G W (by omega) T hc kk gA rfl hb (fun z => absurd (z1.symm.trans z) (by decide)) (fun z j r s hj hx hno Fi G2 s6 s7 => ?_) (fun z r s hx hW Fi G2 s6 s7 => ?_)
    · have hj2 : (j : Int) < (zp_ v).2.2.1 := hj
      exact (fail_no2 U (by omega) hr hx hno).elim
    · have er := (rr_rsx U hr hx).1
      have G3 : rg_ s (c_r (u_h w (hr_ (c_h w) (c_bs w)) ((c_n w + 1) % 8))) (c_h (u_h w (hr_ (c_h w) (c_bs w)) ((c_n w + 1) % 8))) := by
        show rg_ s (c_r w) (hr_ (c_h w) (c_bs w))
        rw [v2, v3, er]
        exact G2
      refine f s _ ⟨fa_ref F Fi.2.2.2.1 (by omega), ⟨?_, ?_, ?_⟩, rf2_scr R0 Fi G3 ?_ ?_ v5 v6 v7 v1⟩ Fi.1 (fun _ => rfl) Fi.2.2.2.1.2
      · show uj_ (c_r w)
        rw [er]
        exact hW.2.2.2
      · show ∀ q ∈ hr_ (c_h w) (c_bs w), uj_ q
        rw [v2, v3]
        exact ujs_hr hh hu0
      · show c_hs w = 1 → uj_ (c_sn w)
        rw [v7, v1]
        exact J.2.1.2.2
      · show s.1 218 ((6 : Nat) : Int) = c_le w
        rw [v8]
        exact s6.trans e6
      · show s.1 218 ((7 : Nat) : Int) = c_lf w
        rw [v9]
        exact s7.trans e7
end ZCH
end
section
/-! the answers are the same -/
def EQ_ (t x t2 u : Int) : Prop := t2 = t ∧ (t = 0 → u = x) ∧ 0 ≤ t ∧ t ≤ 4
theorem eq_ix {P : Prop} {t x t2 u V : Int} (h : (t = 1 ∧ ¬ P) ∨ (t = 0 ∧ P ∧ x = V)) (k : (t2 = 1 ∧ ¬ P) ∨ (t2 = 0 ∧ P ∧ u = V)) : EQ_ t x t2 u := by
  rcases h with ⟨h1, h2⟩ | ⟨h1, h2, h3⟩ <;> rcases k with ⟨k1, k2⟩ | ⟨k1, k2, k3⟩
  · exact ⟨by omega, fun e => absurd e (by omega), by omega, by omega⟩
  · exact absurd k2 h2
  · exact absurd h2 k2
  · exact ⟨by omega, fun _ => by omega, by omega, by omega⟩
theorem eq_ab {q : rw_t} (hW : wf_M q) {m t x t2 u : Int} (h : (t = 1 ∧ ¬ (0 ≤ m ∧ m < q 3)) ∨ (t = 0 ∧ (0 ≤ m ∧ m < q 3) ∧ x = q (21 + 6 * m))) (k : (t2 = 1 ∧ ¬ (0 ≤ m ∧ m < q 3)) ∨ (t2 = 0 ∧ (0 ≤ m ∧ m < q 3) ∧ u = if q (21 + 6 * m) = 1 then 1 else 0)) : EQ_ t x t2 u := by
  refine eq_ix h (k.imp_right (fun ⟨k1, k2, k3⟩ => ⟨k1, k2, ?_⟩))
  have w3 := hW.1
  obtain ⟨-, -, -, -, -, g5⟩ := hW.2 m k2.1 (by omega)
  rw [k3]
  split <;> omega
theorem eq_wide {q : rw_t} (hW : wf_M q) (hU : uj_ q) {a b t x t2 u : Int} (h : (t = pf_ a b ∧ t ≠ 0) ∨ (pf_ a b = 0 ∧ (wb_ (sa_ q) a b = 0) ∧ t = 3) ∨ (pf_ a b = 0 ∧ (wb_ (sa_ q) a b ≠ 0 ∧ x = wb_ (sa_ q) a b) ∧ t = 0)) (k : t2 = atw_ q a b ∧ (t2 = 0 → u = xw_ q a 8 b)) : EQ_ t x t2 u := by
  obtain ⟨k1, k2⟩ := k
  rcases atw_cases hW hU a b with ⟨h1, h2⟩ | ⟨h1, h2⟩ | ⟨h1, h2, h3, h4⟩
  · rcases h with ⟨a1, a2⟩ | ⟨a1, a2, a3⟩ | ⟨a1, a2, a3⟩ <;> exact ⟨by omega, fun _ => by omega, by omega, by omega⟩
  · rcases h with ⟨a1, a2⟩ | ⟨a1, a2, a3⟩ | ⟨a1, a2, a3⟩ <;> exact ⟨by omega, fun _ => by omega, by omega, by omega⟩
  · by_cases z : xw_ q a 8 b ≤ 0
    · rw [if_pos z] at h4
      rcases h with ⟨a1, a2⟩ | ⟨a1, a2, a3⟩ | ⟨a1, a2, a3⟩ <;> exact ⟨by omega, fun _ => by omega, by omega, by omega⟩
    · rw [if_neg z] at h4
      have k3 := k2 (by omega)
      rcases h with ⟨a1, a2⟩ | ⟨a1, a2, a3⟩ | ⟨a1, a2, a3⟩ <;> exact ⟨by omega, fun _ => by omega, by omega, by omega⟩
theorem yq_le3 {q : rw_t} (hW : wf_M q) (hU : uj_ q) (a b : Int) : 0 ≤ (if yq_ q a b = 4 then 3 else yq_ q a b) ∧ (if yq_ q a b = 4 then 3 else yq_ q a b) ≤ 3 := by
  rw [(yq_atw hW hU a b).1]
  exact atw_le q a b
theorem eq_wlen {v : cs_t} (hW : wf_M (c_r v)) (hU : uj_ (c_r v)) {a b t x t2 u : Int} (h : (yq_ (c_r v) a b ≠ 0 ∧ t = (if yq_ (c_r v) a b = 4 then 3 else yq_ (c_r v) a b)) ∨ (yq_ (c_r v) a b = 0 ∧ t = 0 ∧ x = c_len (yv_ v a b))) (k : t2 = atw_ (c_r v) a b ∧ (t2 = 0 → u = xm_ (c_r v) (xw_ (c_r v) a 8 b) (-1) b 8 a)) : EQ_ t x t2 u := by
  obtain ⟨k1, k2⟩ := k
  obtain ⟨e1, e2⟩ := yq_atw hW hU a b
  have l3 := yq_le3 hW hU a b
  rcases h with ⟨a1, a2⟩ | ⟨a1, a2, a3⟩
  · rw [e1] at a2 l3
    exact ⟨by omega, fun e => absurd (e2.mpr (by omega)) a1, by omega, by omega⟩
  · have z := e2.mp a1
    have w := (yv_way hW hU z).1
    have k3 := k2 (by omega)
    exact ⟨by omega, fun _ => by omega, by omega, by omega⟩
theorem eq_wjo {v : cs_t} (hW : wf_M (c_r v)) (hU : uj_ (c_r v)) {a b i t x t2 u : Int} (h : (yq_ (c_r v) a b ≠ 0 ∧ t = (if yq_ (c_r v) a b = 4 then 3 else yq_ (c_r v) a b)) ∨ (yq_ (c_r v) a b = 0 ∧ (i < 0 ∨ c_len (yv_ v a b) < i) ∧ t = 3) ∨ (yq_ (c_r v) a b = 0 ∧ (0 ≤ i ∧ i ≤ c_len (yv_ v a b)) ∧ t = 0 ∧ x = c_J (yv_ v a b) i))
    (k : (atw_ (c_r v) a b ≠ 0 ∧ t2 = atw_ (c_r v) a b) ∨ (atw_ (c_r v) a b = 0 ∧ ¬ (0 ≤ i ∧ i ≤ xm_ (c_r v) (xw_ (c_r v) a 8 b) (-1) b 8 a) ∧ t2 = 3) ∨ (atw_ (c_r v) a b = 0 ∧ (0 ≤ i ∧ i ≤ xm_ (c_r v) (xw_ (c_r v) a 8 b) (-1) b 8 a) ∧ t2 = 0 ∧ u = wyJ_ (c_r v) a b i)) : EQ_ t x t2 u := by
  obtain ⟨e1, e2⟩ := yq_atw hW hU a b
  have l3 := yq_le3 hW hU a b
  by_cases z : atw_ (c_r v) a b = 0
  · obtain ⟨w1, w2⟩ := yv_way hW hU z
    have y0 := e2.mpr z
    rcases h with ⟨a1, a2⟩ | ⟨a1, a2, a3⟩ | ⟨a1, a2, a3, a4⟩
    · exact absurd y0 a1
    · rcases k with ⟨b1, b2⟩ | ⟨b1, b2, b3⟩ | ⟨b1, b2, b3, b4⟩
      · exact absurd z b1
      · exact ⟨by omega, fun _ => by omega, by omega, by omega⟩
      · omega
    · rcases k with ⟨b1, b2⟩ | ⟨b1, b2, b3⟩ | ⟨b1, b2, b3, b4⟩
      · exact absurd z b1
      · omega
      · have w3 := w2 i.toNat (by omega)
        rw [show ((i.toNat : Nat) : Int) = i by omega] at w3
        exact ⟨by omega, fun _ => by rw [b4, a4, w3], by omega, by omega⟩
  · have y0 : yq_ (c_r v) a b ≠ 0 := fun e => z (e2.mp e)
    rw [e1] at l3
    rcases h with ⟨a1, a2⟩ | ⟨a1, a2, a3⟩ | ⟨a1, a2, a3, a4⟩
    · rw [e1] at a2
      rcases k with ⟨b1, b2⟩ | ⟨b1, b2, b3⟩ | ⟨b1, b2, b3, b4⟩
      · exact ⟨by omega, fun _ => by omega, by omega, by omega⟩
      · exact absurd b1 z
      · exact absurd b1 z
    · exact absurd a1 y0
    · exact absurd a1 y0
theorem sm_lt {f h : Int → Int} : ∀ (n : Nat) (i : Int), (∀ k : Int, 0 ≤ k → k < n → f k ≤ h k) → 0 ≤ i → i < n → f i < h i → sm_ f n < sm_ h n
  | 0, i, _, _, hi, _ => by omega
  | n + 1, i, hle, i0, i1, hlt => by
    have e1 : sm_ f (n + 1) = sm_ f n + f n := rfl
    have e2 : sm_ h (n + 1) = sm_ h n + h n := rfl
    have hn := hle n (by omega) (by omega)
    by_cases e : i = n
    · subst e
      have : sm_ f n ≤ sm_ h n := by
        clear e1 e2 hn hlt i0 i1
        induction n with
        | zero => exact Int.le_refl _
        | succ n ih =>
          have a := ih (fun k k0 k1 => hle k k0 (by omega))
          have b := hle n (by omega) (by omega)
          show sm_ f n + f n ≤ sm_ h n + h n
          omega
      omega
    · have := sm_lt n i (fun k k0 k1 => hle k k0 (by omega)) i0 (by omega) hlt
      omega
theorem rk_lt {q : rw_t} {x u : Int} (u0 : 0 ≤ x) (u1 : x < q 3) (hb : bb_ q x u = 1) : rk_ q x < rk_ q u := by
  refine sm_lt (q 3).toNat x (fun k k0 k1 => ?_) u0 (by omega) ?_
  · have l1 := bb_01 q k x
    have l2 := bb_01 q k u
    show bb_ q k x ≤ bb_ q k u
    by_cases c : bb_ q k x = 1
    · have : bb_ q k u = 1 := by
        unfold bb_ at c hb ⊢
        (repeat' split at c) <;> (repeat' split at hb) <;> (repeat' split) <;> omega
      omega
    · omega
  · show bb_ q x x < bb_ q x u
    have : bb_ q x x = 0 := by
      unfold bb_
      (repeat' split) <;> omega
    omega
theorem rk_inj {q : rw_t} {x u : Int} (x0 : 0 ≤ x ∧ x < q 3) (u0 : 0 ≤ u ∧ u < q 3) (h : rk_ q x = rk_ q u) : x = u := by
  refine Classical.byContradiction (fun ne => ?_)
  have : bb_ q x u = 1 ∨ bb_ q u x = 1 := by
    unfold bb_
    (repeat' split) <;> omega
  rcases this with c | c
  · have := rk_lt x0.1 x0.2 c
    omega
  · have := rk_lt u0.1 u0.2 c
    omega
theorem eq_rank {q : rw_t} {a t x t2 u : Int} (h : (t = 1 ∧ ∀ k : Int, 0 ≤ k → k < q 3 → rk_ q k ≠ a) ∨ (t = 0 ∧ (0 ≤ x ∧ x < q 3) ∧ rk_ q x = a)) (k : (t2 = 1 ∧ rkx_ q a (q 3) (-1)) ∨ (t2 = 0 ∧ 0 ≤ u ∧ rkx_ q a (q 3) u)) : EQ_ t x t2 u := by
  rcases h with ⟨h1, h2⟩ | ⟨h1, h2, h3⟩ <;> rcases k with ⟨k1, k2⟩ | ⟨k1, k2, k3⟩
  · exact ⟨by omega, fun e => absurd e (by omega), by omega, by omega⟩
  · rcases k3 with ⟨e, -⟩ | ⟨e1, e2⟩
    · omega
    · exact absurd e2 (h2 u e1.1 e1.2)
  · rcases k2 with ⟨-, e⟩ | ⟨e1, e2⟩
    · exact absurd h3 (e x h2.1 h2.2)
    · omega
  · rcases k3 with ⟨e, -⟩ | ⟨e1, e2⟩
    · omega
    · exact ⟨by omega, fun _ => rk_inj e1 h2 (e2.trans h3.symm), by omega, by omega⟩
theorem vk_lt {q : rw_t} {x u : Int} (u0 : 0 ≤ x) (u1 : x < q 4) (hb : vb_ q x u = 1) : vk_r q x < vk_r q u := by
  refine sm_lt (q 4).toNat x (fun k k0 k1 => ?_) u0 (by omega) ?_
  · have l1 := vb_01 q k x
    have l2 := vb_01 q k u
    show vb_ q k x ≤ vb_ q k u
    by_cases c : vb_ q k x = 1
    · have : vb_ q k u = 1 := by
        unfold vb_ at c hb ⊢
        (repeat' split at c) <;> (repeat' split at hb) <;> (repeat' split) <;> omega
      omega
    · omega
  · show vb_ q x x < vb_ q x u
    have : vb_ q x x = 0 := by
      unfold vb_
      (repeat' split) <;> omega
    omega
theorem vk_inj {B : Int} {q : rw_t} (hT : wf_T B q) {x u : Int} (x0 : 0 ≤ x ∧ x < q 4) (u0 : 0 ≤ u ∧ u < q 4) (h : vk_r q x = vk_r q u) : x = u := by
  obtain ⟨-, -, -, -, -, -, -, -, -, -, -, -, -, -, To⟩ := hT
  refine Classical.byContradiction (fun ne => ?_)
  have o1 : x < u → q (112 + 3 * x) < q (112 + 3 * u) := fun c => To x u x0.1 c u0.2
  have o2 : u < x → q (112 + 3 * u) < q (112 + 3 * x) := fun c => To u x u0.1 c x0.2
  have : vb_ q x u = 1 ∨ vb_ q u x = 1 := by
    unfold vb_
    (repeat' split) <;> omega
  rcases this with c | c
  · have := vk_lt x0.1 x0.2 c
    omega
  · have := vk_lt u0.1 u0.2 c
    omega
theorem eq_vat {B : Int} {q : rw_t} (hT : wf_T B q) {a t x t2 u : Int} (h : (t = 1 ∧ ∀ k : Int, 0 ≤ k → k < q 4 → vk_r q k ≠ a) ∨ (t = 0 ∧ ∃ s : Int, (0 ≤ s ∧ s < q 4) ∧ vk_r q s = a ∧ x = q (112 + 3 * s))) (k : (t2 = 1 ∧ vkx_ q a (q 4) (-1)) ∨ (t2 = 0 ∧ 0 ≤ u ∧ vkx_ q a (q 4) u)) : EQ_ t x t2 u := by
  have T4 := hT.2.2.2.1
  have Tv := hT.2.2.2.2.2.2.2.2.2.2.2.2.1
  rcases h with ⟨h1, h2⟩ | ⟨h1, s, h2, h3, h4⟩ <;> rcases k with ⟨k1, k2⟩ | ⟨k1, k2, k3⟩
  · exact ⟨by omega, fun e => absurd e (by omega), by omega, by omega⟩
  · rcases k3 with ⟨e, -⟩ | ⟨r, e1, e2, e3⟩
    · omega
    · exact absurd e2 (h2 r e1.1 e1.2)
  · rcases k2 with ⟨-, e⟩ | ⟨r, e1, e2, e3⟩
    · exact absurd h3 (e s h2.1 h2.2)
    · have := (Tv r e1.1 (by omega)).1
      omega
  · rcases k3 with ⟨e, -⟩ | ⟨r, e1, e2, e3⟩
    · omega
    · have e := vk_inj hT e1 h2 (e2.trans h3.symm)
      exact ⟨by omega, fun _ => by rw [e3, h4, e], by omega, by omega⟩
theorem eq_due {B : Int} {q : rw_t} (hT : wf_T B q) {a t x t2 u p : Int} (h : (t = 1 ∧ ∀ k : Int, 0 ≤ k → k < q 4 → q (112 + 3 * k) ≠ a) ∨ (t = 0 ∧ ∃ s : Int, (0 ≤ s ∧ s < q 4) ∧ q (112 + 3 * s) = a ∧ x = q (p + 3 * s))) (k : (t2 = 1 ∧ vwp_ q a (-1)) ∨ (t2 = 0 ∧ ∃ y : Int, 0 ≤ y ∧ vwp_ q a y ∧ u = q (p + 3 * y))) : EQ_ t x t2 u := by
  obtain ⟨-, -, -, -, -, -, -, -, -, -, -, -, -, -, To⟩ := hT
  rcases h with ⟨h1, h2⟩ | ⟨h1, s, h2, h3, h4⟩ <;> rcases k with ⟨k1, k2⟩ | ⟨k1, y, k2, k3, k4⟩
  · exact ⟨by omega, fun e => absurd e (by omega), by omega, by omega⟩
  · rcases k3 with ⟨e, -⟩ | ⟨e1, e2⟩
    · omega
    · exact absurd e2 (h2 y e1.1 e1.2)
  · rcases k2 with ⟨-, e⟩ | ⟨e1, e2⟩
    · exact absurd h3 (e s h2.1 h2.2)
    · omega
  · rcases k3 with ⟨e, -⟩ | ⟨e1, e2⟩
    · omega
    · have e : y = s := by
        refine Classical.byContradiction (fun ne => ?_)
        have o1 : y < s → q (112 + 3 * y) < q (112 + 3 * s) := fun c => To y s e1.1 c h2.2
        have o2 : s < y → q (112 + 3 * s) < q (112 + 3 * y) := fun c => To s y h2.1 c e1.2
        omega
      exact ⟨by omega, fun _ => by rw [k4, h4, e], by omega, by omega⟩
theorem eq_out {P : Prop} {t x t2 u V : Int} {v1 v : cs_t} (h : (t = 1 ∧ ¬ P ∧ v1 = v) ∨ (t = 0 ∧ P ∧ x = V ∧ v1 = v)) (k : (t2 = 1 ∧ ¬ P) ∨ (t2 = 0 ∧ P ∧ u = V)) : EQ_ t x t2 u :=
  eq_ix (h.imp (fun ⟨a, b, _⟩ => ⟨a, b⟩) (fun ⟨a, b, c, _⟩ => ⟨a, b, c⟩)) k
theorem eq_mark {t x t2 u V : Int} {v1 v : cs_t} (h : (t = 1 ∧ V = -1 ∧ v1 = v) ∨ (t = 0 ∧ V ≠ -1 ∧ x = V ∧ v1 = v)) (k : (t2 = 1 ∧ V = -1) ∨ (t2 = 0 ∧ V ≠ -1 ∧ u = V)) : EQ_ t x t2 u := by
  rcases h with ⟨h1, h2, -⟩ | ⟨h1, h2, h3, -⟩ <;> rcases k with ⟨k1, k2⟩ | ⟨k1, k2, k3⟩ <;> exact ⟨by omega, fun _ => by omega, by omega, by omega⟩
/-- vows: day by day, or on the due days alone -/
theorem kpa_days {B : Int} {q : rw_t} (hT : wf_T B q) : (∀ b : Int, 1 ≤ b → b ≤ 50 → 0 ≤ sp_ q (q 0 + b)) ↔ (∀ k : Int, 0 ≤ k → k < q 4 → 0 ≤ sp_ q (q (113 + 3 * k))) := by
  obtain ⟨T0, T1, T2, T4, T5, T6, T7, Ts, T8, T9, T10, Te, Tv, Tw, To⟩ := hT
  constructor
  · intro h k k0 k1
    have w := (Tw k k0 k1).1
    have e := h (q (113 + 3 * k) - q 0) (by omega) (by omega)
    rw [show q 0 + (q (113 + 3 * k) - q 0) = q (113 + 3 * k) by omega] at e
    exact e
  · intro h
    have key : ∀ n : Nat, 0 ≤ sp_ q (q 0 + (n : Int)) := by
      intro n
      induction n with
      | zero =>
        unfold sp_
        rw [sm_0 (fun k k0 k1 => by rw [if_neg (by have := (Tw k k0 (by omega)).1; omega)])]
        rw [show q 0 + ((0 : Nat) : Int) - q 0 = 0 by omega, Int.mul_zero]
        omega
      | succ n ih =>
        by_cases c : ∃ k : Int, (0 ≤ k ∧ k < q 4) ∧ q (113 + 3 * k) = q 0 + ((n + 1 : Nat) : Int)
        · obtain ⟨k, kk, e⟩ := c
          have := h k kk.1 kk.2
          rw [e] at this
          exact this
        · unfold sp_ at ih ⊢
          rw [sm_eq (h := fun k => if q (113 + 3 * k) ≤ q 0 + (n : Int) then q (114 + 3 * k) else 0) (fun k k0 k1 => ?_)]
          · have m1 : q 2 * (q 0 + ((n + 1 : Nat) : Int) - q 0) = q 2 * (q 0 + (n : Int) - q 0) + q 2 := by
              rw [show q 0 + ((n + 1 : Nat) : Int) - q 0 = (q 0 + (n : Int) - q 0) + 1 by omega, Int.mul_add, Int.mul_one]
            omega
          · have ne : q (113 + 3 * k) ≠ q 0 + ((n + 1 : Nat) : Int) := fun e => c ⟨k, ⟨k0, by omega⟩, e⟩
            by_cases l : q (113 + 3 * k) ≤ q 0 + (n : Int)
            · rw [if_pos (by omega), if_pos l]
            · rw [if_neg (by omega), if_neg l]
    intro b b1 b2
    have := key b.toNat
    rw [show ((b.toNat : Nat) : Int) = b by omega] at this
    exact this
theorem eq_keep {B : Int} {q : rw_t} (hT : wf_T B q) {x u : Int} (h : (x = 1 ∧ ∀ a : Int, 1 ≤ a → a ≤ 50 → 0 ≤ sp_ q (q 0 + a)) ∨ (x = 0 ∧ ∃ a : Int, 1 ≤ a ∧ a ≤ 50 ∧ sp_ q (q 0 + a) < 0)) (k : kpa_ q u) : u = x := by
  have e := kpa_days hT
  rcases h with ⟨h1, h2⟩ | ⟨h1, a, a1, a2, a3⟩ <;> rcases k with ⟨k1, k2⟩ | ⟨k1, b, b1, b2⟩
  · omega
  · have := e.mp h2 b b1.1 b1.2
    omega
  · have := e.mpr k2 a a1 a2
    omega
  · omega
theorem eq_keep2 {q : rw_t} {x u : Int} (h : (x = 1 ∧ ∀ k : Int, 0 ≤ k → k < q 4 → 0 ≤ sp_ q (q (113 + 3 * k))) ∨ (x = 0 ∧ ∃ k : Int, 0 ≤ k ∧ k < q 4 ∧ sp_ q (q (113 + 3 * k)) < 0)) (k : kpa_ q u) : u = x := by
  rcases h with ⟨h1, h2⟩ | ⟨h1, a, a1, a2, a3⟩ <;> rcases k with ⟨k1, k2⟩ | ⟨k1, b, b1, b2⟩
  · omega
  · have := h2 b b1.1 b1.2
    omega
  · have := k2 a a1 a2
    omega
  · omega
theorem eq_great {B : Int} {q : rw_t} (hT : wf_T B q) {a t x t2 u : Int} (h : (t = 1 ∧ ¬ (q 0 < a ∧ a ≤ q 0 + 50)) ∨ (t = 2 ∧ (q 0 < a ∧ a ≤ q 0 + 50) ∧ ∃ b : Int, 1 ≤ b ∧ b ≤ 50 ∧ sp_ q (q 0 + b) < 0) ∨ (t = 0 ∧ (q 0 < a ∧ a ≤ q 0 + 50) ∧ (∀ b : Int, 1 ≤ b → b ≤ 50 → 0 ≤ sp_ q (q 0 + b)) ∧ x ≤ sp_ q a ∧ (∀ k : Int, 0 ≤ k → k < q 4 → a < q (113 + 3 * k) → x ≤ sp_ q (q (113 + 3 * k))) ∧ (x = sp_ q a ∨ ∃ k : Int, 0 ≤ k ∧ k < q 4 ∧ a < q (113 + 3 * k) ∧ x = sp_ q (q (113 + 3 * k)))))
    (k : (t2 = 1 ∧ ¬ (q 0 < a ∧ a ≤ q 0 + 50)) ∨ (t2 = 2 ∧ (q 0 < a ∧ a ≤ q 0 + 50) ∧ kpa_ q 0) ∨ (t2 = 0 ∧ (q 0 < a ∧ a ≤ q 0 + 50) ∧ kpa_ q 1 ∧ gv_ q a (q 4) u)) : EQ_ t x t2 u := by
  have e := kpa_days hT
  rcases h with ⟨h1, h2⟩ | ⟨h1, h2, b, b1, b2, b3⟩ | ⟨h1, h2, h3, x1, x2, x3⟩ <;> rcases k with ⟨k1, k2⟩ | ⟨k1, k2, k3⟩ | ⟨k1, k2, k3, k4⟩
  · exact ⟨by omega, fun e => absurd e (by omega), by omega, by omega⟩
  · exact absurd k2 h2
  · exact absurd k2 h2
  · exact absurd h2 k2
  · exact ⟨by omega, fun e => absurd e (by omega), by omega, by omega⟩
  · rcases k3 with ⟨-, k3⟩ | ⟨k3, -⟩
    · have := e.mpr k3 b b1 b2
      omega
    · omega
  · exact absurd h2 k2
  · rcases k3 with ⟨k3, -⟩ | ⟨-, j, j1, j2⟩
    · omega
    · have := e.mp h3 j j1.1 j1.2
      omega
  · obtain ⟨u1, u2, u3⟩ := k4
    refine ⟨by omega, fun _ => ?_, by omega, by omega⟩
    have le1 : u ≤ x := by
      rcases x3 with x3 | ⟨j, j0, j1, j2, j3⟩
      · omega
      · have := u2 j j0 j1 (by omega)
        omega
    have le2 : x ≤ u := by
      rcases u3 with u3 | ⟨j, j0, j1, j2⟩
      · omega
      · by_cases c : q (113 + 3 * j) = a
        · rw [c] at j2
          omega
        · have := x2 j j0.1 j0.2 (by omega)
          omega
    omega
end
section
/-! sets of joints as bits; what connects two joints; the widest load by trial; critical by removal -/
def ist_ (x : Int) (i : Nat) : Prop := (Int32.ofInt x).toBitVec.getLsbD i = true
theorem lt8_ {i : Nat} (h : i < 8) : i = 0 ∨ i = 1 ∨ i = 2 ∨ i = 3 ∨ i = 4 ∨ i = 5 ∨ i = 6 ∨ i = 7 := by omega
theorem jb_bv {i : Nat} (hi : i < 8) : (Int32.ofInt 1 <<< (Int32.ofInt (i : Int) &&& 31)).toBitVec = BitVec.twoPow 32 i := by
  rcases lt8_ hi with rfl | rfl | rfl | rfl | rfl | rfl | rfl | rfl <;> decide
theorem tp_ne {i : Nat} (hi : i < 8) : BitVec.twoPow 32 i ≠ 0#32 := by
  rcases lt8_ hi with rfl | rfl | rfl | rfl | rfl | rfl | rfl | rfl <;> decide
theorem i3_ne (A : Int32) : A.toInt ≠ 0 ↔ A.toBitVec ≠ 0#32 := by
  have e : A.toInt = 0 ↔ A.toBitVec = 0#32 := by
    rw [show (0 : Int) = (0 : Int32).toInt from rfl, Int32.toInt_inj, ← Int32.toBitVec_inj]
    exact Iff.rfl
  exact not_congr e
theorem ist_and {x : Int} {i : Nat} (hi : i < 8) : ja_ x (jb_ (i : Int)) ≠ 0 ↔ ist_ x i := by
  unfold ist_
  show (Int32.ofInt x &&& Int32.ofInt (Int32.ofInt 1 <<< (Int32.ofInt (i : Int) &&& 31)).toInt).toInt ≠ 0 ↔ _
  rw [Int32.ofInt_toInt, i3_ne, Int32.toBitVec_and, jb_bv hi, BitVec.and_twoPow]
  have := tp_ne hi
  cases (Int32.ofInt x).toBitVec.getLsbD i <;> simp [this]
theorem ist_or {x y : Int} {i : Nat} : ist_ (jo_ x y) i ↔ ist_ x i ∨ ist_ y i := by
  unfold ist_
  show (Int32.ofInt (Int32.ofInt x ||| Int32.ofInt y).toInt).toBitVec.getLsbD i = true ↔ _
  rw [Int32.ofInt_toInt, Int32.toBitVec_or, BitVec.getLsbD_or]
  simp
theorem ist_b {k i : Nat} (hk : k < 8) (hi : i < 8) : ist_ (jb_ (k : Int)) i ↔ i = k := by
  unfold ist_
  show (Int32.ofInt (Int32.ofInt 1 <<< (Int32.ofInt (k : Int) &&& 31)).toInt).toBitVec.getLsbD i = true ↔ _
  rw [Int32.ofInt_toInt, jb_bv hk]
  rcases lt8_ hk with rfl | rfl | rfl | rfl | rfl | rfl | rfl | rfl <;> rcases lt8_ hi with rfl | rfl | rfl | rfl | rfl | rfl | rfl | rfl <;> decide
theorem ist_two {x : Int} {a b : Nat} (ha : a < 8) (hb : b < 8) : ja_ x (jo_ (jb_ (a : Int)) (jb_ (b : Int))) ≠ 0 ↔ ist_ x a ∨ ist_ x b := by
  unfold ist_
  show (Int32.ofInt x &&& Int32.ofInt (Int32.ofInt (Int32.ofInt 1 <<< (Int32.ofInt (a : Int) &&& 31)).toInt ||| Int32.ofInt (Int32.ofInt 1 <<< (Int32.ofInt (b : Int) &&& 31)).toInt).toInt).toInt ≠ 0 ↔ _
  rw [Int32.ofInt_toInt, Int32.ofInt_toInt, Int32.ofInt_toInt, i3_ne, Int32.toBitVec_and, Int32.toBitVec_or, jb_bv ha, jb_bv hb]
  generalize (Int32.ofInt x).toBitVec = X
  have key : ∀ j : Nat, (X &&& (BitVec.twoPow 32 a ||| BitVec.twoPow 32 b)).getLsbD j = (X.getLsbD j && (decide (a = j) || decide (b = j))) := by
    intro j
    rw [BitVec.getLsbD_and, BitVec.getLsbD_or, BitVec.getLsbD_twoPow, BitVec.getLsbD_twoPow]
    have a32 : a < 32 := by omega
    have b32 : b < 32 := by omega
    simp [a32, b32]
  constructor
  · intro h
    refine Classical.byContradiction (fun no => h ?_)
    refine BitVec.eq_of_getLsbD_eq (fun j hj => ?_)
    rw [key]
    have n1 : X.getLsbD a = false := by
      cases e : X.getLsbD a with
      | true => exact absurd (.inl e) no
      | false => rfl
    have n2 : X.getLsbD b = false := by
      cases e : X.getLsbD b with
      | true => exact absurd (.inr e) no
      | false => rfl
    by_cases e1 : a = j
    · subst e1
      simp [n1]
    · by_cases e2 : b = j
      · subst e2
        simp [n2]
      · simp [e1, e2]
  · intro h e
    rcases h with h | h
    · have k := key a
      rw [e, h] at k
      simp at k
    · have k := key b
      rw [e, h] at k
      simp at k
theorem nat8 {x : Int} (h : 0 ≤ x ∧ x ≤ 7) : ∃ n : Nat, x = n ∧ n < 8 := ⟨x.toNat, by omega, by omega⟩
theorem je_mono {q : rw_t} {l u m x : Int} {j : Nat} (h : ist_ x j) : ist_ (je_ q l u m x) j := by
  unfold je_
  split
  · exact ist_or.mpr (.inl h)
  · exact h
theorem je_hit {q : rw_t} (hW : wf_M q) {l u x : Int} {m i j : Nat} (m1 : (m : Int) < q 3) (hu : (m : Int) ≠ u) (hb : l ≤ br_ q m) (hm : jn_ q m i j) (hi : ist_ x i) (i8 : i < 8) (j8 : j < 8) : ist_ (je_ q l u m x) j := by
  have w3 := hW.1
  obtain ⟨g0, g1, -⟩ := hW.2 m (by omega) (by omega)
  obtain ⟨o, eo, lo⟩ := nat8 g0
  obtain ⟨p, ep, lp⟩ := nat8 g1
  unfold jn_ at hm
  unfold je_
  rw [eo, ep] at hm ⊢
  have h2 : ist_ x o ∨ ist_ x p := by
    rcases hm with ⟨h1, h2⟩ | ⟨h1, h2⟩
    · have : o = i := by omega
      subst this
      exact .inl hi
    · have : p = i := by omega
      subst this
      exact .inr hi
  rw [if_pos ⟨hu, (ist_two lo lp).mpr h2, hb⟩]
  refine ist_or.mpr (.inr (ist_or.mpr ?_))
  rcases hm with ⟨h1, h2⟩ | ⟨h1, h2⟩
  · exact .inr ((ist_b lp j8).mpr (by omega))
  · exact .inl ((ist_b lo j8).mpr (by omega))
theorem je_sound {q : rw_t} (hW : wf_M q) {l u x : Int} {m j : Nat} (m1 : (m : Int) < q 3) (j8 : j < 8) (h : ist_ (je_ q l u m x) j) : ist_ x j ∨ (l ≤ br_ q m ∧ (m : Int) ≠ u ∧ ∃ i : Nat, i < 8 ∧ ist_ x i ∧ (jn_ q m i j ∨ i = j)) := by
  have w3 := hW.1
  obtain ⟨g0, g1, -⟩ := hW.2 m (by omega) (by omega)
  obtain ⟨o, eo, lo⟩ := nat8 g0
  obtain ⟨p, ep, lp⟩ := nat8 g1
  unfold je_ at h
  rw [eo, ep] at h
  split at h
  · rename_i c
    obtain ⟨c1, c2, c3⟩ := c
    rcases ist_or.mp h with h | h
    · exact .inl h
    · refine .inr ⟨c3, c1, ?_⟩
      rcases ist_or.mp h with h | h
      · have e := (ist_b lo j8).mp h
        subst e
        rcases (ist_two lo lp).mp c2 with k | k
        · exact ⟨j, lo, k, .inr rfl⟩
        · exact ⟨p, lp, k, .inl (by unfold jn_; rw [eo, ep]; omega)⟩
      · have e := (ist_b lp j8).mp h
        subst e
        rcases (ist_two lo lp).mp c2 with k | k
        · exact ⟨o, lo, k, .inl (by unfold jn_; rw [eo, ep]; omega)⟩
        · exact ⟨j, lp, k, .inr rfl⟩
  · exact .inl h
theorem jf_mono {q : rw_t} {l u x : Int} {j : Nat} (h : ist_ x j) : ∀ n : Nat, ist_ (jf_ q l u x n) j
  | 0 => h
  | n + 1 => je_mono (jf_mono h n)
theorem jf_hit {q : rw_t} (hW : wf_M q) {l u x : Int} {m i j : Nat} (hu : (m : Int) ≠ u) (hb : l ≤ br_ q m) (hm : jn_ q m i j) (hi : ist_ x i) (i8 : i < 8) (j8 : j < 8) : ∀ n : Nat, (n : Int) ≤ q 3 → m < n → ist_ (jf_ q l u x n) j
  | 0, _, h => absurd h (Nat.not_lt_zero _)
  | n + 1, hn, h => by
    by_cases e : m = n
    · subst e
      exact je_hit hW (by omega) hu hb hm (jf_mono hi m) i8 j8
    · exact je_mono (jf_hit hW hu hb hm hi i8 j8 n (by omega) (by omega))
theorem jh_full {q : rw_t} (hW : wf_M q) (hU : uj_ q) {l : Int} {a : Nat} (l1 : 1 ≤ l) (a8 : a < 8) : ∀ (k n : Nat) (j : Nat), n ≤ k → j < 8 → rch_ (sa_ q) l a n j → ist_ (jh_ q l (-1) a k) j := by
  have w3 := hW.1
  intro k
  induction k with
  | zero =>
    intro n j hn j8 h
    have e : n = 0 := by omega
    subst e
    have e2 : (j : Int) = a := h
    exact (ist_b a8 j8).mpr (by omega)
  | succ k ih =>
    intro n j hn j8 h
    have base : ∀ i : Nat, ist_ (jh_ q l (-1) a k) i → ist_ (jh_ q l (-1) a (k + 1)) i := fun i hi => jf_mono hi _
    cases n with
    | zero => exact base j (ih 0 j (by omega) j8 h)
    | succ n =>
      rcases h with h | ⟨i, ⟨i0, i1⟩, hi, hl⟩
      · exact base j (ih n j (by omega) j8 h)
      · obtain ⟨i', ei, i8⟩ := nat8 (x := i) ⟨i0, by omega⟩
        subst ei
        obtain ⟨m, m1, hm, hb⟩ := sa_ex hU w3.1 l1 hl
        exact jf_hit hW (by omega) hb hm (ih n i' (by omega) i8 hi) i8 j8 (q 3).toNat (by omega) (by omega)
theorem jh_sound {q : rw_t} (hW : wf_M q) (hU : uj_ q) {l : Int} {a : Nat} (a8 : a < 8) : ∀ (k : Nat) (j : Nat), j < 8 → ist_ (jh_ q l (-1) a k) j → ∃ n : Nat, rch_ (sa_ q) l a n j := by
  have w3 := hW.1
  intro k
  induction k with
  | zero =>
    intro j j8 h
    have e := (ist_b a8 j8).mp h
    exact ⟨0, by show (j : Int) = a; omega⟩
  | succ k ih =>
    have key : ∀ n : Nat, (n : Int) ≤ q 3 → ∀ j : Nat, j < 8 → ist_ (jf_ q l (-1) (jh_ q l (-1) a k) n) j → ∃ n : Nat, rch_ (sa_ q) l a n j := by
      intro n
      induction n with
      | zero => intro _ j j8 h; exact ih j j8 h
      | succ n ihn =>
        intro hn j j8 h
        rcases je_sound hW (by omega) j8 h with h | ⟨hb, -, i, i8, hi, hm | e⟩
        · exact ihn (by omega) j j8 h
        · obtain ⟨c, hc⟩ := ihn (by omega) i i8 hi
          refine ⟨c + 1, .inr ⟨i, by omega, hc, ?_⟩⟩
          rw [sa_yes hU w3.1 (by omega) (by omega) hm]
          exact hb
        · rw [← e]
          exact ihn (by omega) i i8 hi
    intro j j8 h
    exact key (q 3).toNat (by omega) j j8 h
theorem jc_iff {q : rw_t} (hW : wf_M q) (hU : uj_ q) {l a b : Int} (l1 : 1 ≤ l) (a0 : 0 ≤ a ∧ a ≤ 7) (b0 : 0 ≤ b ∧ b ≤ 7) : jc_ q l (-1) a b ≠ 0 ↔ rch_ (sa_ q) l a 7 b := by
  obtain ⟨a', rfl, a8⟩ := nat8 a0
  obtain ⟨b', rfl, b8⟩ := nat8 b0
  have e : jc_ q l (-1) a' b' ≠ 0 ↔ ja_ (jh_ q l (-1) a' 7) (jb_ b') ≠ 0 := by
    unfold jc_
    split
    · rename_i c
      exact ⟨fun h => absurd rfl h, fun h => absurd c h⟩
    · rename_i c
      exact ⟨fun _ => c, fun _ => by decide⟩
  rw [e, ist_and b8]
  constructor
  · intro h
    obtain ⟨n, hn⟩ := jh_sound hW hU a8 7 b' b8 h
    exact rch_7 (by omega) (by omega) (by omega) (by omega) hn
  · intro h
    exact jh_full hW hU l1 a8 7 7 b' (Nat.le_refl 7) b8 h
/-! by trial -/
theorem rch_up {f : gr_t} {l l' a : Int} (h : ∀ i j : Int, 0 ≤ i → i < 8 → l ≤ f i j → l' ≤ f i j) : ∀ (n : Nat) (j : Int), rch_ f l a n j → rch_ f l' a n j
  | 0, _, k => k
  | n + 1, j, k => by
    rcases k with k | ⟨i, i0, hi, hl⟩
    · exact .inl (rch_up h n j k)
    · exact .inr ⟨i, i0, rch_up h n i hi, h i j i0.1 i0.2 hl⟩
theorem rch_st {f : gr_t} {l a : Int} : ∀ (n : Nat) (j : Int), rch_ f l a n j → j = a ∨ ∃ i k : Int, l ≤ f i k
  | 0, _, k => .inl k
  | n + 1, j, k => by
    rcases k with k | ⟨i, i0, hi, hl⟩
    · exact rch_st n j k
    · exact .inr ⟨i, j, hl⟩
theorem wt1_xw {q : rw_t} (hW : wf_M q) (hU : uj_ q) {a b x : Int} (a0 : 0 ≤ a ∧ a < 8) (b0 : 0 ≤ b ∧ b < 8) (hne : a ≠ b) (h : wt1_ q a b x) : x = xw_ q a 8 b := by
  have w3 := hW.1
  have l0 := ((xw_lm hW a 8) b b0.1 b0.2).1
  have l9 := xw_99 hW a 8 b (fun e => hne e.symm)
  have br9 : ∀ k : Int, 0 ≤ k → k < q 3 → br_ q k ≤ 99 := fun k k0 k1 => (br_le hW k0 (by omega)).2
  -- some member bears just as much
  have ex : 1 ≤ xw_ q a 8 b → wb1_ q a b (xw_ q a 8 b) := by
    intro l1
    have hr := (xw_iff hW hU a0.1 a0.2 b0.1 b0.2 l1 l9).mp (Int.le_refl _)
    refine ⟨Classical.byContradiction (fun no => ?_), (jc_iff hW hU l1 ⟨a0.1, by omega⟩ ⟨b0.1, by omega⟩).mpr hr⟩
    have hr2 := rch_up (l' := xw_ q a 8 b + 1) (fun i j i0 i1 hl => by
      obtain ⟨m, m1, hm, hb⟩ := sa_ex hU w3.1 l1 hl
      rw [sa_yes hU w3.1 (by omega) m1 hm]
      have : br_ q m ≠ xw_ q a 8 b := fun e => no ⟨m, by omega, m1, e⟩
      omega) 7 b hr
    by_cases c : xw_ q a 8 b + 1 ≤ 99
    · have := (xw_iff hW hU a0.1 a0.2 b0.1 b0.2 (by omega) c).mpr hr2
      omega
    · rcases rch_st 7 b hr2 with e | ⟨i, k, e⟩
      · exact hne e.symm
      · obtain ⟨m, m1, hm, hb⟩ := sa_ex hU w3.1 (by omega) e
        have := br9 m (by omega) m1
        omega
  have le : ∀ l : Int, 1 ≤ l → l ≤ 99 → wb1_ q a b l → l ≤ xw_ q a 8 b := fun l l1 l9 hw => (xw_iff hW hU a0.1 a0.2 b0.1 b0.2 l1 l9).mpr ((jc_iff hW hU l1 ⟨a0.1, by omega⟩ ⟨b0.1, by omega⟩).mp hw.2)
  rcases h with ⟨h1, h2⟩ | ⟨h1, h2, h3⟩
  · by_cases c : 1 ≤ xw_ q a 8 b
    · exact absurd (ex c) (h2 _ c l9)
    · omega
  · have := le x h1.1 h1.2 h2
    by_cases c : x < xw_ q a 8 b
    · exact absurd (ex (by omega)) (h3 _ c l9)
    · omega
theorem eq_trial {q : rw_t} (hW : wf_M q) (hU : uj_ q) {a b t x t2 u : Int} (h : (t = pf_ a b ∧ t ≠ 0) ∨ (pf_ a b = 0 ∧ (wt1_ q a b 0) ∧ t = 3) ∨ (pf_ a b = 0 ∧ (x ≠ 0 ∧ wt1_ q a b x) ∧ t = 0)) (k : t2 = atw_ q a b ∧ (t2 = 0 → u = xw_ q a 8 b)) : EQ_ t x t2 u := by
  obtain ⟨k1, k2⟩ := k
  have pp : pf_ a b = 0 → ((0 ≤ a ∧ a < 8) ∧ 0 ≤ b ∧ b < 8) ∧ a ≠ b := fun e => by
    unfold pf_ at e
    split at e
    · omega
    · split at e
      · omega
      · rename_i c1 c2
        exact ⟨Classical.not_not.mp c1, c2⟩
  rcases atw_cases hW hU a b with ⟨h1, h2⟩ | ⟨h1, h2⟩ | ⟨h1, h2, h3, h4⟩
  · rcases h with ⟨a1, a2⟩ | ⟨a1, a2, a3⟩ | ⟨a1, a2, a3⟩ <;> exact ⟨by omega, fun _ => by omega, by omega, by omega⟩
  · rcases h with ⟨a1, a2⟩ | ⟨a1, a2, a3⟩ | ⟨a1, a2, a3⟩ <;> exact ⟨by omega, fun _ => by omega, by omega, by omega⟩
  · obtain ⟨⟨p1, p2⟩, p3⟩ := pp h1
    rcases h with ⟨a1, a2⟩ | ⟨a1, a2, a3⟩ | ⟨a1, ⟨a2, a4⟩, a3⟩
    · omega
    · have e := wt1_xw hW hU p1 p2 p3 a2
      rw [if_pos (by omega)] at h4
      exact ⟨by omega, fun _ => by omega, by omega, by omega⟩
    · have e := wt1_xw hW hU p1 p2 p3 a4
      rw [if_neg (by omega)] at h4
      have k3 := k2 (by omega)
      exact ⟨by omega, fun _ => by omega, by omega, by omega⟩
/-! by removal: a member left out is as a member abandoned -/
theorem rl_br {q : rw_t} {m k : Int} : br_ (rl_ q m 1) k = if k = m then 0 else br_ q k := by
  unfold br_ rl_
  by_cases e : k = m
  · rw [if_pos e]
    subst e
    rw [if_pos rfl, if_neg (by decide)]
  · rw [if_neg e]
    have h1 : ¬ (21 + 6 * k = 21 + 6 * m) := by omega
    have h2 : ¬ (19 + 6 * k = 21 + 6 * m) := by omega
    have h3 : ¬ (18 + 6 * k = 21 + 6 * m) := by omega
    have h4 : ¬ (20 + 6 * k = 21 + 6 * m) := by omega
    simp only [if_neg h1, if_neg h2, if_neg h3, if_neg h4]
theorem fo_cong {α : Type} {f h : Int → α → α} {a : α} : ∀ n : Nat, (∀ (i : Int) (x : α), 0 ≤ i → i < n → f i x = h i x) → fo_ f a n = fo_ h a n
  | 0, _ => rfl
  | n + 1, e => by
    show f n (fo_ f a n) = h n (fo_ h a n)
    rw [fo_cong n (fun i x i0 i1 => e i x i0 (by omega)), e n _ (by omega) (by omega)]
theorem rl_jn {q : rw_t} {m k : Int} (m0 : 0 ≤ m) (k0 : 0 ≤ k) : rl_ q m 1 (16 + 6 * k) = q (16 + 6 * k) ∧ rl_ q m 1 (17 + 6 * k) = q (17 + 6 * k) ∧ rl_ q m 1 3 = q 3 := by
  unfold rl_
  refine ⟨?_, ?_, ?_⟩ <;> rw [if_neg (by omega)]
theorem jc_rl {q : rw_t} {l m a b : Int} (l1 : 1 ≤ l) (m0 : 0 ≤ m) : jc_ q l m a b = jc_ (rl_ q m 1) l (-1) a b := by
  have e : ∀ n : Nat, jh_ q l m a n = jh_ (rl_ q m 1) l (-1) a n := by
    intro n
    refine fo_cong n (fun i x i0 i1 => ?_)
    show jf_ q l m x (q 3).toNat = jf_ (rl_ q m 1) l (-1) x ((rl_ q m 1) 3).toNat
    rw [(rl_jn m0 m0).2.2]
    refine fo_cong _ (fun k y k0 k1 => ?_)
    obtain ⟨r1, r2, -⟩ := rl_jn (q := q) m0 k0
    unfold je_
    rw [r1, r2, rl_br]
    by_cases c : k = m
    · rw [if_pos c, if_neg (fun h => h.1 c), if_neg (fun h => by have := h.2.2; omega)]
    · rw [if_neg c]
      by_cases d : ja_ y (jo_ (jb_ (q (16 + 6 * k))) (jb_ (q (17 + 6 * k)))) ≠ 0 ∧ l ≤ br_ q k
      · rw [if_pos ⟨c, d⟩, if_pos ⟨by omega, d⟩]
      · rw [if_neg (fun h => d h.2), if_neg (fun h => d h.2)]
  unfold jc_
  rw [e]
theorem xm_rl {q : rw_t} {m t : Int} (m0 : 0 ≤ m) : ∀ n : Nat, xm_ q 1 m t n = xm_ (rl_ q m 1) 1 (-1) t n := by
  intro n
  refine fo_cong n (fun i x i0 i1 => ?_)
  show xm2_ q 1 m x (q 3).toNat = xm2_ (rl_ q m 1) 1 (-1) x ((rl_ q m 1) 3).toNat
  rw [(rl_jn m0 m0).2.2]
  refine fo_cong _ (fun k y k0 k1 => ?_)
  obtain ⟨r1, r2, -⟩ := rl_jn (q := q) m0 k0
  unfold xm1_
  rw [r1, r2, rl_br]
  by_cases c : k = m
  · rw [if_pos c, if_neg (fun h => h.1 c), if_neg (fun h => by have := h.2; omega)]
  · rw [if_neg c]
    by_cases d : 1 ≤ br_ q k
    · rw [if_pos ⟨c, d⟩, if_pos ⟨by omega, d⟩]
    · rw [if_neg (fun h => d h.2), if_neg (fun h => d h.2)]
theorem acr_cut {q : rw_t} (hW : wf_M q) (hU : uj_ q) {m : Int} (hm : 0 ≤ m ∧ m < q 3) : acr_ q m = if br_ q m = 0 then 0 else @ite Int (rch_ (sa_ (rl_ q m 1)) 1 (q (16 + 6 * m)) 7 (q (17 + 6 * m))) (Classical.propDecidable _) 0 1 := by
  have w3 := hW.1
  have W2 := (rl_wf (m := m) (b := 1) hW hm.1 (by omega) (by decide)).1
  have U2 := uj_eJ w3.2 (eJ_rl (w := 1) hm.1 (eJ_refl q)) hU
  obtain ⟨g0, g1, -⟩ := hW.2 m hm.1 (by omega)
  unfold acr_
  by_cases z : br_ q m = 0
  · rw [if_pos z, if_pos z]
  · rw [if_neg z, if_neg z, xm_rl hm.1]
    by_cases c : rch_ (sa_ (rl_ q m 1)) 1 (q (16 + 6 * m)) 7 (q (17 + 6 * m))
    · rw [if_pos c]
      obtain ⟨k, hk⟩ := rch_rev (sa_sym (rl_ q m 1)) 7 _ g1.1 (by omega) c
      have h7 := rch_7 (by omega) (by omega) g0.1 (by omega) hk
      have := (xm_iff W2 U2 g0.1 (by omega) (by decide) (n := 7) (by decide)).mpr h7
      rw [if_neg (by omega)]
    · rw [if_neg c]
      by_cases d : xm_ (rl_ q m 1) 1 (-1) (q (17 + 6 * m)) 8 (q (16 + 6 * m)) < 99999
      · have h8 := (xm_sound W2 U2 (l := 1) (t := q (17 + 6 * m)) 8 (q (16 + 6 * m)) g0.1 (by omega)).2 d
        obtain ⟨k, hk⟩ := rch_rev (sa_sym (rl_ q m 1)) _ _ g0.1 (by omega) h8
        exact absurd (rch_7 g0.1 (by omega) g1.1 (by omega) hk) c
      · rw [if_pos (by omega)]
theorem acr_01 (q : rw_t) (m : Int) : 0 ≤ acr_ q m ∧ acr_ q m ≤ 1 := by unfold acr_; (repeat' split) <;> omega
theorem cr1_acr {q : rw_t} (hW : wf_M q) (hU : uj_ q) {m : Int} (hm : 0 ≤ m ∧ m < q 3) : cr1_ q m = acr_ q m := by
  have w3 := hW.1
  have W2 := (rl_wf (m := m) (b := 1) hW hm.1 (by omega) (by decide)).1
  have U2 := uj_eJ w3.2 (eJ_rl (w := 1) hm.1 (eJ_refl q)) hU
  obtain ⟨g0, g1, -⟩ := hW.2 m hm.1 (by omega)
  have lb := br_le hW hm.1 (by omega : m < 16)
  have ji := jc_iff W2 U2 (l := 1) (by decide) g0 g1
  rw [acr_cut hW hU hm]
  unfold cr1_
  rw [jc_rl (by decide) hm.1]
  by_cases z : br_ q m = 0
  · rw [if_pos z, if_neg (fun h => by have := h.1; omega)]
  · rw [if_neg z]
    by_cases c : rch_ (sa_ (rl_ q m 1)) 1 (q (16 + 6 * m)) 7 (q (17 + 6 * m))
    · rw [if_pos c, if_neg (fun h => ji.mpr c h.2)]
    · rw [if_neg c, if_pos ⟨by omega, Classical.not_not.mp (fun h => c (ji.mp h))⟩]
theorem eq_rem {q : rw_t} (hW : wf_M q) (hU : uj_ q) {m t x t2 u : Int} (h : (t = 1 ∧ ¬ (0 ≤ m ∧ m < q 3)) ∨ (t = 0 ∧ (0 ≤ m ∧ m < q 3) ∧ x = cr1_ q m)) (k : (t2 = 1 ∧ ¬ (0 ≤ m ∧ m < q 3)) ∨ (t2 = 0 ∧ (0 ≤ m ∧ m < q 3) ∧ u = acr_ q m)) : EQ_ t x t2 u :=
  eq_ix h (k.imp_right (fun ⟨k1, k2, k3⟩ => ⟨k1, k2, k3.trans (cr1_acr hW hU k2).symm⟩))
end
section
/-! the search for critical members finds them -/
def gm_ (f : gr_t) (r : Int) : gr_t := fun i j => if i = r ∨ j = r then 0 else f i j
/-- connected, the joint r avoided -/
def cvr_ (f : gr_t) (r a j : Int) : Prop := ∃ n : Nat, rch_ (gm_ f r) 1 a n j
/-- x is joined to r by another way than its own member -/
def cnn_ (f : gr_t) (r x : Int) : Prop := ∃ y : Int, (0 ≤ y ∧ y < 8) ∧ y ≠ x ∧ y ≠ r ∧ 0 < f y r ∧ cvr_ f r x y
theorem cvr_refl (f : gr_t) (r a : Int) : cvr_ f r a a := ⟨0, rfl⟩
theorem cvr_tr {f : gr_t} {r a i j : Int} (h : cvr_ f r a i) (k : cvr_ f r i j) : cvr_ f r a j := by
  obtain ⟨n, h⟩ := h
  obtain ⟨m, k⟩ := k
  exact ⟨n + m, rch_tr h m j k⟩
theorem cvr_1 {f : gr_t} {r a j : Int} (a0 : 0 ≤ a ∧ a < 8) (ha : a ≠ r) (hj : j ≠ r) (h : 0 < f a j) : cvr_ f r a j := by
  refine ⟨1, .inr ⟨a, a0, rfl, ?_⟩⟩
  show 1 ≤ gm_ f r a j
  unfold gm_
  rw [if_neg (fun k => k.elim ha hj)]
  omega
abbrev vis_ (s : vs_t) (v : Int) : Prop := s.1 v ≠ 0
def wfv_ (r : Int) (s : vs_t) : Prop := s.1 r = 1 ∧ 1 ≤ s.2.2 ∧ (∀ v : Int, 0 ≤ v → v < 8 → v ≠ r → vis_ s v → 2 ≤ s.1 v) ∧ ∀ v : Int, 0 ≤ v → v < 8 → vis_ s v → 1 ≤ s.2.1 v
noncomputable def uvc_ (s : vs_t) : Nat := cnt_ (fun v => s.1 v = 0) 8
abbrev dn_ (s s' : vs_t) (v : Int) : Prop := vis_ s' v ∧ ¬ vis_ s v
def pst_ (f : gr_t) (r a c : Int) (s s' : vs_t) : Prop :=
  (∀ v : Int, 0 ≤ v → v < 8 → vis_ s v → s'.1 v = s.1 v ∧ s'.2.1 v = s.2.1 v) ∧ vis_ s' a ∧
  (∀ x y : Int, 0 ≤ x → x < 8 → 0 ≤ y → y < 8 → dn_ s s' x → 0 < f x y → vis_ s' y) ∧
  (∀ x : Int, 0 ≤ x → x < 8 → dn_ s s' x → cvr_ f r a x) ∧
  (s'.2.1 a = 1 ↔ (∃ y : Int, (0 ≤ y ∧ y < 8) ∧ dn_ s s' y ∧ y ≠ a ∧ 0 < f y r) ∨ (0 < f a r ∧ c ≠ r)) ∧
  (∀ x : Int, 0 ≤ x → x < 8 → dn_ s s' x → 0 < f x r → (s'.2.1 x = 1 ↔ cnn_ f r x)) ∧ wfv_ r s'
def prv_ (f : gr_t) (r a c : Int) (s : vs_t) (n : Nat) : Prop :=
  ((0 ≤ a ∧ a < 8) ∧ ¬ vis_ s a ∧ a ≠ r) ∧ wfv_ r s ∧ uvc_ s ≤ n ∧ ((0 ≤ c ∧ c < 8) ∧ vis_ s c ∧ 0 < f a c) ∧
  (c = r ∨ (c ≠ r ∧ ∃ y : Int, (0 ≤ y ∧ y < 8) ∧ y ≠ r ∧ vis_ s y ∧ 0 < f y r ∧ cvr_ f r c y)) ∧
  (c = r → ∀ u w : Int, 0 ≤ u → u < 8 → 0 ≤ w → w < 8 → vis_ s u → u ≠ r → 0 < f u w → vis_ s w)
theorem uvc_mono {s s' : vs_t} (h : ∀ v : Int, 0 ≤ v → v < 8 → vis_ s v → vis_ s' v) : uvc_ s' ≤ uvc_ s :=
  cnt_mono 8 (fun j hj k => Classical.byContradiction (fun q => h j (by omega) (by omega) q k))
theorem uvc_lt {s s' : vs_t} {a : Int} (h : ∀ v : Int, 0 ≤ v → v < 8 → vis_ s v → vis_ s' v) (a0 : 0 ≤ a ∧ a < 8) (ha : ¬ vis_ s a) (ha' : vis_ s' a) : uvc_ s' < uvc_ s := by
  refine cnt_lt 8 (fun j hj k => Classical.byContradiction (fun q => h j (by omega) (by omega) q k)) ⟨a.toNat, by omega, ?_, ?_⟩
  · rw [show ((a.toNat : Nat) : Int) = a by omega]
    exact Classical.not_not.mp ha
  · rw [show ((a.toNat : Nat) : Int) = a by omega]
    exact ha'
theorem min_1 {x y : Int} (hx : 1 ≤ x) (hy : 1 ≤ y) : min x y = 1 ↔ x = 1 ∨ y = 1 := by omega
theorem lt_ks {r : Int} {k : Nat} (h : r < ((k + 1 : Nat) : Int)) (e : ¬ (k : Int) = r) : r < (k : Int) := by omega
theorem vcall {f : gr_t} {r : Int} (r0 : 0 ≤ r ∧ r < 8) (hf : ∀ i j : Int, 0 ≤ i → i < 8 → 0 ≤ j → j < 8 → 0 ≤ f i j) (hs : ∀ i j : Int, f i j = f j i) : ∀ (n : Nat) (a c : Int) (s : vs_t), prv_ f r a c s n → pst_ f r a c s (vi_ f n a c s) := by
  intro n
  induction n with
  | zero =>
    rintro a c s ⟨⟨a0, ha, hr⟩, hw, hu, -⟩
    have : uvc_ (up_ s.1 a 1, s.2.1, s.2.2) < uvc_ s := by
      refine uvc_lt (fun v v0 v1 hv => ?_) a0 ha ?_
      · show up_ s.1 a 1 v ≠ 0
        unfold up_
        split
        · decide
        · exact hv
      · show up_ s.1 a 1 a ≠ 0
        rw [up_at]
        decide
    omega
  | succ n ih =>
    intro a c s ⟨⟨a0, ha, har⟩, hw, hu, ⟨c0, hc, hac⟩, hG, hH⟩
    obtain ⟨w1, w2, w3, w4⟩ := id hw
    have rvis : vis_ s r := by
      show s.1 r ≠ 0
      omega
    -- one joint more has its number
    have z1 : ∀ v : Int, (vz_ a s).1 v = if v = a then s.2.2 + 1 else s.1 v := fun v => rfl
    have z2 : ∀ v : Int, (vz_ a s).2.1 v = if v = a then s.2.2 + 1 else s.2.1 v := fun v => rfl
    have zv : ∀ v : Int, vis_ s v → vis_ (vz_ a s) v := fun v hv => by
      show (vz_ a s).1 v ≠ 0
      rw [z1]
      split
      · omega
      · exact hv
    have za : vis_ (vz_ a s) a := by
      show (vz_ a s).1 a ≠ 0
      rw [z1, if_pos rfl]
      omega
    have zu : uvc_ (vz_ a s) ≤ n := by
      have := uvc_lt (fun v _ _ hv => zv v hv) a0 ha za
      omega
    have inv : ∀ k : Nat, k ≤ 8 → ∀ t : vs_t, t = fo_ (fun i x => vx_ (vi_ f n) f a c i x) (vz_ a s) k →
        (∀ v : Int, 0 ≤ v → v < 8 → vis_ s v → t.1 v = s.1 v ∧ t.2.1 v = s.2.1 v) ∧ vis_ t a ∧
        ((∀ x y : Int, 0 ≤ x → x < 8 → 0 ≤ y → y < 8 → dn_ s t x → x ≠ a → 0 < f x y → vis_ t y) ∧ ∀ j : Int, 0 ≤ j → j < k → 0 < f a j → vis_ t j) ∧
        (∀ x : Int, 0 ≤ x → x < 8 → dn_ s t x → cvr_ f r a x) ∧
        (t.2.1 a = 1 ↔ (∃ y : Int, (0 ≤ y ∧ y < 8) ∧ dn_ s t y ∧ y ≠ a ∧ 0 < f y r) ∨ (0 < f a r ∧ c ≠ r ∧ r < k)) ∧
        (∀ x : Int, 0 ≤ x → x < 8 → dn_ s t x → x ≠ a → 0 < f x r → (t.2.1 x = 1 ↔ cnn_ f r x)) ∧ wfv_ r t ∧ uvc_ t ≤ n := by
      intro k
      induction k with
      | zero =>
        intro _ t ht
        have e : t = vz_ a s := ht
        subst e
        have only : ∀ x, dn_ s (vz_ a s) x → x = a := fun x hx => by
          refine Classical.byContradiction (fun ne => ?_)
          have h1 := hx.1
          rw [show vis_ (vz_ a s) x = ((vz_ a s).1 x ≠ 0) from rfl, z1, if_neg ne] at h1
          exact hx.2 h1
        refine ⟨fun v v0 v1 hv => ?_, za, ⟨fun x y _ _ _ _ hx ne _ => absurd (only x hx) ne, fun j j0 j1 _ => by omega⟩, fun x _ _ hx => ?_, ?_, fun x _ _ hx ne _ => absurd (only x hx) ne, ⟨?_, ?_, fun v v0 v1 ne hv => ?_, fun v v0 v1 hv => ?_⟩, zu⟩
        · have ne : v ≠ a := fun e => ha (by rw [← e]; exact hv)
          rw [z1, z2, if_neg ne, if_neg ne]
          exact ⟨rfl, rfl⟩
        · rw [only x hx]
          exact cvr_refl f r a
        · rw [z2, if_pos rfl]
          constructor
          · intro h
            omega
          · rintro (⟨y, -, hy, ne, -⟩ | ⟨-, -, h⟩)
            · exact absurd (only y hy) ne
            · omega
        · rw [z1, if_neg (fun e => har e.symm)]
          exact w1
        · show 1 ≤ s.2.2 + 1
          omega
        · have hv : (vz_ a s).1 v ≠ 0 := hv
          rw [z1] at hv ⊢
          split
          · omega
          · rename_i na
            rw [if_neg na] at hv
            exact w3 v v0 v1 ne hv
        · have hv : (vz_ a s).1 v ≠ 0 := hv
          rw [z1] at hv
          rw [z2]
          split
          · omega
          · rename_i na
            rw [if_neg na] at hv
            exact w4 v v0 v1 hv
      | succ k ihk =>
        intro hk t ht
        obtain ⟨i1, i2, ⟨i3, i3a⟩, i4, i5, i6, i7, i8⟩ := ihk (by omega) _ rfl
        have ht2 : t = vx_ (vi_ f n) f a c (k : Int) (fo_ (fun i x => vx_ (vi_ f n) f a c i x) (vz_ a s) k) := ht
        generalize fo_ (fun i x => vx_ (vi_ f n) f a c i x) (vz_ a s) k = u at i1 i2 i3 i3a i4 i5 i6 i7 i8 ht2
        clear ht
        obtain ⟨u1, u2, u3, u4⟩ := id i7
        have k0 : (0 : Int) ≤ (k : Int) ∧ (k : Int) < 8 := by omega
        have sv : ∀ v : Int, 0 ≤ v → v < 8 → vis_ s v → vis_ u v := fun v v0 v1 hv => by
          show u.1 v ≠ 0
          rw [(i1 v v0 v1 hv).1]
          exact hv
        have cu : vis_ u c := sv c c0.1 c0.2 hc
        have fa_k := hf a k a0.1 a0.2 k0.1 k0.2
        unfold vx_ at ht2
        by_cases c1 : (k : Int) = c ∨ f a k = 0
        · rw [if_pos c1] at ht2
          subst ht2
          refine ⟨i1, i2, ⟨i3, fun j j0 j1 hj => ?_⟩, i4, ?_, i6, i7, i8⟩
          · by_cases e : j = k
            · rw [e] at hj ⊢
              rcases c1 with c1 | c1
              · rw [c1]
                exact cu
              · omega
            · exact i3a j j0 (by omega) hj
          · rw [i5]
            constructor
            · rintro (h | ⟨h1, h2, h3⟩)
              · exact .inl h
              · exact .inr ⟨h1, h2, by omega⟩
            · rintro (h | ⟨h1, h2, h3⟩)
              · exact .inl h
              · refine .inr ⟨h1, h2, ?_⟩
                refine Classical.byContradiction (fun no => ?_)
                have e : r = k := by omega
                rcases c1 with c1 | c1
                · exact h2 (by omega)
                · rw [← e] at c1
                  omega
        · rw [if_neg c1] at ht2
          have nc : (k : Int) ≠ c := fun e => c1 (.inl e)
          have fk : 0 < f a k := by
            have : f a k ≠ 0 := fun e => c1 (.inr e)
            omega
          by_cases c2 : u.1 k = 0
          · -- a joint not yet seen
            rw [if_pos c2] at ht2
            have kr : (k : Int) ≠ r := fun e => by
              rw [e] at c2
              omega
            have pre : prv_ f r k a u n := by
              refine ⟨⟨k0, fun h => h c2, kr⟩, i7, i8, ⟨a0, i2, by rw [hs]; exact fk⟩, .inr ⟨har, ?_⟩, fun e => absurd e har⟩
              rcases hG with e | ⟨ne, y, y0, yr, yv, yf, yc⟩
              · exact ⟨a, a0, har, i2, by rw [← e]; exact hac, cvr_refl f r a⟩
              · exact ⟨y, y0, yr, sv y y0.1 y0.2 yv, yf, cvr_tr (cvr_1 a0 har ne hac) yc⟩
            obtain ⟨p1, p2, p3, p4, p5, p6, p7⟩ := ih k a u pre
            generalize vi_ f n k a u = w at p1 p2 p3 p4 p5 p6 p7 ht2
            subst ht2
            obtain ⟨q1, q2, q3, q4⟩ := id p7
            have uv : ∀ v : Int, 0 ≤ v → v < 8 → vis_ u v → vis_ w v := fun v v0 v1 hv => by
              show w.1 v ≠ 0
              rw [(p1 v v0 v1 hv).1]
              exact hv
            have wa : vis_ w a := uv a a0.1 a0.2 i2
            have la := q4 a a0.1 a0.2 wa
            have lk := q4 k k0.1 k0.2 p2
            have split : ∀ x : Int, 0 ≤ x → x < 8 → dn_ s w x → dn_ s u x ∨ dn_ u w x := fun x x0 x1 hx => by
              by_cases e : vis_ u x
              · exact .inl ⟨e, hx.2⟩
              · exact .inr ⟨hx.1, e⟩
            have back : ∀ x : Int, 0 ≤ x → x < 8 → dn_ u w x → dn_ s w x := fun x x0 x1 hx => ⟨hx.1, fun h => hx.2 (sv x x0 x1 h)⟩
            have back2 : ∀ x : Int, 0 ≤ x → x < 8 → dn_ s u x → dn_ s w x := fun x x0 x1 hx => ⟨uv x x0 x1 hx.1, hx.2⟩
            have dk : dn_ u w k := ⟨p2, fun h => h c2⟩
            have kna : (k : Int) ≠ a := fun e => by
              rw [e] at c2
              exact i2 c2
            have low : ∀ v : Int, v ≠ a → up_ w.2.1 a (min (w.2.1 a) (w.2.1 k)) v = w.2.1 v := fun v ne => up_ne ne
            refine ⟨fun v v0 v1 hv => ?_, wa, ⟨fun x y x0 x1 y0 y1 hx ne hxy => ?_, fun j j0 j1 hj => ?_⟩, fun x x0 x1 hx => ?_, ?_, fun x x0 x1 hx ne hxr => ?_, ⟨q1, q2, q3, fun v v0 v1 hv => ?_⟩, ?_⟩
            · have ne : v ≠ a := fun e => ha (by rw [← e]; exact hv)
              have h1 := i1 v v0 v1 hv
              have h2 := p1 v v0 v1 (sv v v0 v1 hv)
              exact ⟨h2.1.trans h1.1, (low v ne).trans (h2.2.trans h1.2)⟩
            · rcases split x x0 x1 hx with h | h
              · exact uv y y0 y1 (i3 x y x0 x1 y0 y1 h ne hxy)
              · exact p3 x y x0 x1 y0 y1 h hxy
            · by_cases e : j = k
              · rw [e]
                exact p2
              · exact uv j j0 (by omega) (i3a j j0 (by omega) hj)
            · rcases split x x0 x1 hx with h | h
              · exact i4 x x0 x1 h
              · exact cvr_tr (cvr_1 a0 har kr fk) (p4 x x0 x1 h)
            · show up_ w.2.1 a (min (w.2.1 a) (w.2.1 k)) a = 1 ↔ _
              rw [up_at, min_1 la lk, (p1 a a0.1 a0.2 i2).2, i5, p5]
              constructor
              · rintro ((⟨y, y0, hy, ya, yf⟩ | ⟨h1, h2, h3⟩) | (⟨y, y0, hy, ya, yf⟩ | ⟨h1, h2⟩))
                · exact .inl ⟨y, y0, back2 y y0.1 y0.2 hy, ya, yf⟩
                · exact .inr ⟨h1, h2, by omega⟩
                · refine .inl ⟨y, y0, back y y0.1 y0.2 hy, fun e => ?_, yf⟩
                  rw [e] at hy
                  exact hy.2 i2
                · exact .inl ⟨k, k0, back k k0.1 k0.2 dk, kna, h1⟩
              · rintro (⟨y, y0, hy, ya, yf⟩ | ⟨h1, h2, h3⟩)
                · rcases split y y0.1 y0.2 hy with h | h
                  · exact .inl (.inl ⟨y, y0, h, ya, yf⟩)
                  · by_cases e : y = k
                    · rw [e] at yf
                      exact .inr (.inr ⟨yf, har⟩)
                    · exact .inr (.inl ⟨y, y0, h, e, yf⟩)
                · exact .inl (.inr ⟨h1, h2, lt_ks h3 kr⟩)
            · show up_ w.2.1 a (min (w.2.1 a) (w.2.1 k)) x = 1 ↔ _
              rw [low x ne]
              rcases split x x0 x1 hx with h | h
              · rw [(p1 x x0 x1 h.1).2]
                exact i6 x x0 x1 h ne hxr
              · exact p6 x x0 x1 h hxr
            · show 1 ≤ up_ w.2.1 a (min (w.2.1 a) (w.2.1 k)) v
              by_cases e : v = a
              · rw [e, up_at]
                omega
              · rw [low v e]
                exact q4 v v0 v1 hv
            · exact Nat.le_trans (uvc_mono (s := u) (fun v v0 v1 hv => uv v v0 v1 hv)) i8
          · -- a joint seen before
            rw [if_neg c2] at ht2
            subst ht2
            have la := u4 a a0.1 a0.2 i2
            have nk : 1 ≤ u.1 k ∧ (u.1 k = 1 ↔ (k : Int) = r) := by
              by_cases e : (k : Int) = r
              · rw [e, u1]
                exact ⟨by decide, ⟨fun _ => rfl, fun _ => rfl⟩⟩
              · have := u3 k k0.1 k0.2 e c2
                exact ⟨by omega, ⟨fun h => by omega, fun h => absurd h e⟩⟩
            have low : ∀ v : Int, v ≠ a → up_ u.2.1 a (min (u.2.1 a) (u.1 k)) v = u.2.1 v := fun v ne => up_ne ne
            refine ⟨fun v v0 v1 hv => ?_, i2, ⟨i3, fun j j0 j1 hj => ?_⟩, i4, ?_, fun x x0 x1 hx ne hxr => ?_, ⟨u1, u2, u3, fun v v0 v1 hv => ?_⟩, i8⟩
            · have ne : v ≠ a := fun e => ha (by rw [← e]; exact hv)
              have h1 := i1 v v0 v1 hv
              exact ⟨h1.1, (low v ne).trans h1.2⟩
            · by_cases e : j = k
              · rw [e]
                exact c2
              · exact i3a j j0 (by omega) hj
            · show up_ u.2.1 a (min (u.2.1 a) (u.1 k)) a = 1 ↔ _
              rw [up_at, min_1 la nk.1, i5, nk.2]
              constructor
              · rintro ((h | ⟨h1, h2, h3⟩) | h)
                · exact .inl h
                · exact .inr ⟨h1, h2, by omega⟩
                · exact .inr ⟨by rw [← h]; exact fk, fun e => nc (h.trans e.symm), by omega⟩
              · rintro (h | ⟨h1, h2, h3⟩)
                · exact .inl (.inl h)
                · by_cases e : (k : Int) = r
                  · exact .inr e
                  · exact .inl (.inr ⟨h1, h2, lt_ks h3 e⟩)
            · show up_ u.2.1 a (min (u.2.1 a) (u.1 k)) x = 1 ↔ _
              rw [low x ne]
              exact i6 x x0 x1 hx ne hxr
            · show 1 ≤ up_ u.2.1 a (min (u.2.1 a) (u.1 k)) v
              by_cases e : v = a
              · rw [e, up_at]
                omega
              · rw [low v e]
                exact u4 v v0 v1 hv
    obtain ⟨i1, i2, ⟨i3, i3a⟩, i4, i5, i6, i7, i8⟩ := inv 8 (Nat.le_refl 8) _ rfl
    show pst_ f r a c s (fo_ (fun i x => vx_ (vi_ f n) f a c i x) (vz_ a s) 8)
    generalize fo_ (fun i x => vx_ (vi_ f n) f a c i x) (vz_ a s) 8 = t at i1 i2 i3 i3a i4 i5 i6 i7 i8
    have cl : ∀ x y : Int, 0 ≤ x → x < 8 → 0 ≤ y → y < 8 → dn_ s t x → 0 < f x y → vis_ t y := fun x y x0 x1 y0 y1 hx hxy => by
      by_cases e : x = a
      · rw [e] at hxy
        exact i3a y y0 (by omega) hxy
      · exact i3 x y x0 x1 y0 y1 hx e hxy
    have l5 : t.2.1 a = 1 ↔ (∃ y : Int, (0 ≤ y ∧ y < 8) ∧ dn_ s t y ∧ y ≠ a ∧ 0 < f y r) ∨ (0 < f a r ∧ c ≠ r) := by
      rw [i5]
      constructor
      · rintro (h | ⟨h1, h2, h3⟩)
        · exact .inl h
        · exact .inr ⟨h1, h2⟩
      · rintro (h | ⟨h1, h2⟩)
        · exact .inl h
        · exact .inr ⟨h1, h2, by omega⟩
    have da : dn_ s t a := ⟨i2, ha⟩
    refine ⟨i1, i2, cl, i4, l5, fun x x0 x1 hx hxr => ?_, i7⟩
    by_cases e : x = a
    · subst e
      rw [l5]
      by_cases cr : c = r
      · have stay : ∀ (n : Nat) (j : Int), 0 ≤ j → j < 8 → rch_ (gm_ f r) 1 x n j → dn_ s t j := by
          intro n
          induction n with
          | zero =>
            intro j _ _ h
            have e : j = x := h
            rw [e]
            exact da
          | succ n ihn =>
            intro j j0 j1 h
            rcases h with h | ⟨i, ir, h, hl⟩
            · exact ihn j j0 j1 h
            · have di := ihn i ir.1 ir.2 h
              unfold gm_ at hl
              split at hl
              · omega
              · rename_i ne
                have fij : 0 < f i j := by omega
                refine ⟨cl i j ir.1 ir.2 j0 j1 di fij, fun hv => ?_⟩
                exact di.2 (hH cr j i j0 j1 ir.1 ir.2 hv (fun e => ne (.inr e)) (by rw [hs]; exact fij))
        constructor
        · rintro (⟨y, y0, hy, ya, yf⟩ | ⟨-, h⟩)
          · refine ⟨y, y0, ya, fun e => ?_, yf, i4 y y0.1 y0.2 hy⟩
            rw [e] at hy
            exact hy.2 rvis
          · exact absurd cr h
        · rintro ⟨y, y0, ya, yr, yf, m, ym⟩
          exact .inl ⟨y, y0, stay m y y0.1 y0.2 ym, ya, yf⟩
      · constructor
        · intro _
          rcases hG with e | ⟨ne, y, y0, yr, yv, yf, yc⟩
          · exact absurd e cr
          · exact ⟨y, y0, fun e => ha (by rw [← e]; exact yv), yr, yf, cvr_tr (cvr_1 a0 har ne hac) yc⟩
        · intro _
          exact .inr ⟨hxr, cr⟩
    · exact i6 x x0 x1 hx e hxr
theorem vroot {f : gr_t} {r : Int} (r0 : 0 ≤ r ∧ r < 8) (hf : ∀ i j : Int, 0 ≤ i → i < 8 → 0 ≤ j → j < 8 → 0 ≤ f i j) (hs : ∀ i j : Int, f i j = f j i) {b : Int} (b0 : 0 ≤ b ∧ b < 8) (hb : b ≠ r) (hbr : 0 < f b r) : se_ f r b = 1 ↔ ¬ cnn_ f r b := by
  have inv : ∀ k : Nat, k ≤ 8 → ∀ t : vs_t, t = fo_ (fun i x => vx_ (vi_ f 7) f r (-1) i x) (vz_ r (fun _ => 0, fun _ => 0, 0)) k →
      wfv_ r t ∧ uvc_ t ≤ 7 ∧ (∀ u w : Int, 0 ≤ u → u < 8 → 0 ≤ w → w < 8 → vis_ t u → u ≠ r → 0 < f u w → vis_ t w) ∧
      (∀ x : Int, 0 ≤ x → x < 8 → vis_ t x → x ≠ r → 0 < f x r → (t.2.1 x = 1 ↔ cnn_ f r x)) ∧ ∀ j : Int, 0 ≤ j → j < k → 0 < f r j → vis_ t j := by
    intro k
    induction k with
    | zero =>
      intro _ t ht
      have e : t = vz_ r (fun _ => 0, fun _ => 0, 0) := ht
      subst e
      have z1 : ∀ v : Int, (vz_ r (fun _ => 0, fun _ => 0, 0)).1 v = if v = r then 0 + 1 else 0 := fun v => rfl
      have z2 : ∀ v : Int, (vz_ r (fun _ => 0, fun _ => 0, 0)).2.1 v = if v = r then 0 + 1 else 0 := fun v => rfl
      have only : ∀ x, vis_ (vz_ r (fun _ => 0, fun _ => 0, 0)) x → x = r := fun x hx => by
        refine Classical.byContradiction (fun ne => hx ?_)
        rw [z1, if_neg ne]
      refine ⟨⟨?_, ?_, fun v _ _ ne hv => absurd (only v hv) ne, fun v _ _ hv => ?_⟩, ?_, fun u w _ _ _ _ hu ne _ => absurd (only u hu) ne, fun x _ _ hx ne _ => absurd (only x hx) ne, fun j j0 j1 _ => by omega⟩
      · rw [z1, if_pos rfl]
        rfl
      · show (1 : Int) ≤ 0 + 1
        decide
      · rw [z2, if_pos (only v hv)]
        decide
      · have h8 : uvc_ ((fun _ => 0, fun _ => 0, 0) : vs_t) ≤ 8 := cnt_le _ 8
        have := uvc_lt (s := (fun _ => 0, fun _ => 0, 0)) (s' := vz_ r (fun _ => 0, fun _ => 0, 0)) (a := r) (fun v _ _ hv => absurd rfl hv) r0 (fun h => h rfl) (by show (vz_ r (fun _ => 0, fun _ => 0, 0)).1 r ≠ 0; rw [z1, if_pos rfl]; decide)
        omega
    | succ k ihk =>
      intro hk t ht
      obtain ⟨i7, i8, iH, i6, i3a⟩ := ihk (by omega) _ rfl
      have ht2 : t = vx_ (vi_ f 7) f r (-1) (k : Int) (fo_ (fun i x => vx_ (vi_ f 7) f r (-1) i x) (vz_ r (fun _ => 0, fun _ => 0, 0)) k) := ht
      generalize fo_ (fun i x => vx_ (vi_ f 7) f r (-1) i x) (vz_ r (fun _ => 0, fun _ => 0, 0)) k = u at i7 i8 iH i6 i3a ht2
      clear ht
      obtain ⟨u1, u2, u3, u4⟩ := id i7
      have k0 : (0 : Int) ≤ (k : Int) ∧ (k : Int) < 8 := by omega
      have ru : vis_ u r := by
        show u.1 r ≠ 0
        omega
      unfold vx_ at ht2
      by_cases c1 : (k : Int) = -1 ∨ f r k = 0
      · rw [if_pos c1] at ht2
        subst ht2
        refine ⟨i7, i8, iH, i6, fun j j0 j1 hj => ?_⟩
        by_cases e : j = k
        · rw [e] at hj
          rcases c1 with c1 | c1 <;> omega
        · exact i3a j j0 (by omega) hj
      · rw [if_neg c1] at ht2
        have fk : 0 < f r k := by
          have h1 : f r k ≠ 0 := fun e => c1 (.inr e)
          have h2 := hf r k r0.1 r0.2 k0.1 k0.2
          omega
        by_cases c2 : u.1 k = 0
        · rw [if_pos c2] at ht2
          have kr : (k : Int) ≠ r := fun e => by
            rw [e] at c2
            omega
          have pre : prv_ f r k r u 7 := ⟨⟨k0, fun h => h c2, kr⟩, i7, i8, ⟨r0, ru, by rw [hs]; exact fk⟩, .inl rfl, fun _ => iH⟩
          obtain ⟨p1, p2, p3, p4, p5, p6, p7⟩ := vcall r0 hf hs 7 k r u pre
          generalize vi_ f 7 k r u = w at p1 p2 p3 p4 p5 p6 p7 ht2
          subst ht2
          obtain ⟨q1, q2, q3, q4⟩ := id p7
          have uv : ∀ v : Int, 0 ≤ v → v < 8 → vis_ u v → vis_ w v := fun v v0 v1 hv => by
            show w.1 v ≠ 0
            rw [(p1 v v0 v1 hv).1]
            exact hv
          have low : ∀ v : Int, v ≠ r → up_ w.2.1 r (min (w.2.1 r) (w.2.1 k)) v = w.2.1 v := fun v ne => up_ne ne
          have lr := q4 r r0.1 r0.2 (uv r r0.1 r0.2 ru)
          have lk := q4 k k0.1 k0.2 p2
          refine ⟨⟨q1, q2, q3, fun v v0 v1 hv => ?_⟩, Nat.le_trans (uvc_mono (s := u) (fun v v0 v1 hv => uv v v0 v1 hv)) i8, fun x y x0 x1 y0 y1 hx ne hxy => ?_, fun x x0 x1 hx ne hxr => ?_, fun j j0 j1 hj => ?_⟩
          · show 1 ≤ up_ w.2.1 r (min (w.2.1 r) (w.2.1 k)) v
            by_cases e : v = r
            · rw [e, up_at]
              omega
            · rw [low v e]
              exact q4 v v0 v1 hv
          · by_cases e : vis_ u x
            · exact uv y y0 y1 (iH x y x0 x1 y0 y1 e ne hxy)
            · exact p3 x y x0 x1 y0 y1 ⟨hx, e⟩ hxy
          · show up_ w.2.1 r (min (w.2.1 r) (w.2.1 k)) x = 1 ↔ _
            rw [low x ne]
            by_cases e : vis_ u x
            · rw [(p1 x x0 x1 e).2]
              exact i6 x x0 x1 e ne hxr
            · exact p6 x x0 x1 ⟨hx, e⟩ hxr
          · by_cases e : j = k
            · rw [e]
              exact p2
            · exact uv j j0 (by omega) (i3a j j0 (by omega) hj)
        · rw [if_neg c2] at ht2
          subst ht2
          have low : ∀ v : Int, v ≠ r → up_ u.2.1 r (min (u.2.1 r) (u.1 k)) v = u.2.1 v := fun v ne => up_ne ne
          have lr := u4 r r0.1 r0.2 ru
          have nk : 1 ≤ u.1 k := by
            by_cases e : (k : Int) = r
            · rw [e, u1]
              decide
            · have := u3 k k0.1 k0.2 e c2
              omega
          refine ⟨⟨u1, u2, u3, fun v v0 v1 hv => ?_⟩, i8, iH, fun x x0 x1 hx ne hxr => ?_, fun j j0 j1 hj => ?_⟩
          · show 1 ≤ up_ u.2.1 r (min (u.2.1 r) (u.1 k)) v
            by_cases e : v = r
            · rw [e, up_at]
              omega
            · rw [low v e]
              exact u4 v v0 v1 hv
          · show up_ u.2.1 r (min (u.2.1 r) (u.1 k)) x = 1 ↔ _
            rw [low x ne]
            exact i6 x x0 x1 hx ne hxr
          · by_cases e : j = k
            · rw [e]
              exact c2
            · exact i3a j j0 (by omega) hj
  obtain ⟨⟨u1, u2, u3, u4⟩, -, -, i6, i3a⟩ := inv 8 (Nat.le_refl 8) _ rfl
  have e : vi_ f 8 r (-1) (fun _ => 0, fun _ => 0, 0) = fo_ (fun i x => vx_ (vi_ f 7) f r (-1) i x) (vz_ r (fun _ => 0, fun _ => 0, 0)) 8 := rfl
  unfold se_
  rw [e]
  generalize fo_ (fun i x => vx_ (vi_ f 7) f r (-1) i x) (vz_ r (fun _ => 0, fun _ => 0, 0)) 8 = t at u1 u2 u3 u4 i6 i3a
  have bv := i3a b b0.1 (by omega) (by rw [hs]; exact hbr)
  have lb := u4 b b0.1 b0.2 bv
  have k6 := i6 b b0.1 b0.2 bv hb hbr
  rw [u1]
  by_cases c : t.2.1 b = 1
  · rw [c, if_neg (by decide)]
    exact ⟨fun h => absurd h (by decide), fun h => absurd (k6.mp c) h⟩
  · rw [if_pos (by omega)]
    exact ⟨fun _ h => c (k6.mpr h), fun _ => rfl⟩
/-- the graph without member m -/
theorem sa_rl {q : rw_t} (hW : wf_M q) (hU : uj_ q) {m : Int} (hm : 0 ≤ m ∧ m < q 3) (i j : Int) : sa_ (rl_ q m 1) i j = @ite Int (jn_ q m i j) (Classical.propDecidable _) 0 (sa_ q i j) := by
  have w3 := hW.1
  have U2 := uj_eJ w3.2 (eJ_rl (w := 1) hm.1 (eJ_refl q)) hU
  have n3 := (rl_jn (q := q) hm.1 hm.1).2.2
  have jj : ∀ k : Int, 0 ≤ k → (jn_ (rl_ q m 1) k i j ↔ jn_ q k i j) := fun k k0 => by
    obtain ⟨r1, r2, -⟩ := rl_jn (q := q) hm.1 k0
    unfold jn_
    rw [r1, r2]
  by_cases c : ∃ k : Int, (0 ≤ k ∧ k < q 3) ∧ jn_ q k i j
  · obtain ⟨k, k0, hk⟩ := c
    rw [sa_yes U2 (by rw [n3]; exact w3.1) k0.1 (by rw [n3]; exact k0.2) ((jj k k0.1).mpr hk), sa_yes hU w3.1 k0.1 k0.2 hk, rl_br]
    by_cases e : k = m
    · rw [if_pos e, if_pos (by rw [← e]; exact hk)]
    · rw [if_neg e, if_neg (fun h => e (uj_eq hU k0.1 k0.2 hm.1 hm.2 hk h))]
  · have no : ∀ k : Int, 0 ≤ k → k < q 3 → ¬ jn_ q k i j := fun k k0 k1 h => c ⟨k, ⟨k0, k1⟩, h⟩
    rw [sa_no (by rw [n3]; exact w3.1) (fun k k0 k1 h => no k k0 (by rw [n3] at k1; exact k1) ((jj k k0).mp h)), sa_no w3.1 no, if_neg (no m hm.1 hm.2)]
theorem cnn_cut {q : rw_t} (hW : wf_M q) (hU : uj_ q) {m : Int} (hm : 0 ≤ m ∧ m < q 3) : cnn_ (sa_ q) (q (16 + 6 * m)) (q (17 + 6 * m)) ↔ rch_ (sa_ (rl_ q m 1)) 1 (q (16 + 6 * m)) 7 (q (17 + 6 * m)) := by
  have w3 := hW.1
  obtain ⟨g0, g1, -⟩ := hW.2 m hm.1 (by omega)
  have lt := hU.1 m hm.1 hm.2
  have sy := sa_sym q
  have key := fun i j => sa_rl hW hU hm i j
  generalize hr : q (16 + 6 * m) = r at *
  generalize hb : q (17 + 6 * m) = b at *
  have jm : ∀ i j : Int, jn_ q m i j ↔ (i = r ∧ j = b) ∨ (i = b ∧ j = r) := fun i j => by
    unfold jn_
    rw [hr, hb]
    omega
  constructor
  · rintro ⟨y, y0, yb, yr, yf, n, hn⟩
    -- from b to y, then to r, all without member m
    have up : ∀ (n : Nat) (j : Int), rch_ (gm_ (sa_ q) r) 1 b n j → rch_ (sa_ (rl_ q m 1)) 1 b n j := fun n j h => by
      induction n generalizing j with
      | zero => exact h
      | succ n ih =>
        rcases h with h | ⟨i, ir, h, hl⟩
        · exact .inl (ih j h)
        · refine .inr ⟨i, ir, ih i h, ?_⟩
          unfold gm_ at hl
          split at hl
          · omega
          · rename_i ne
            rw [key, if_neg (fun h => ne (by rcases (jm i j).mp h with h | h <;> omega))]
            exact hl
    have h2 : rch_ (sa_ (rl_ q m 1)) 1 b (n + 1) r := by
      refine .inr ⟨y, y0, up n y hn, ?_⟩
      rw [key, if_neg (fun h => by rcases (jm y r).mp h with h | h <;> omega)]
      omega
    obtain ⟨k, hk⟩ := rch_rev (sa_sym (rl_ q m 1)) _ _ g0.1 (by omega) h2
    exact rch_7 g0.1 (by omega) g1.1 (by omega) hk
  · intro h
    have w : ∀ (n : Nat) (j : Int), 0 ≤ j → j < 8 → rch_ (sa_ (rl_ q m 1)) 1 r n j → j = r ∨ ∃ y : Int, (0 ≤ y ∧ y < 8) ∧ 1 ≤ sa_ (rl_ q m 1) r y ∧ y ≠ r ∧ cvr_ (sa_ q) r y j := by
      intro n
      induction n with
      | zero => intro j _ _ h; exact .inl h
      | succ n ih =>
        intro j j0 j1 h
        rcases h with h | ⟨i, ir, h, hl⟩
        · exact ih j j0 j1 h
        · by_cases e : j = r
          · exact .inl e
          · refine .inr ?_
            rcases ih i ir.1 ir.2 h with e2 | ⟨y, y0, y1, y2, y3⟩
            · rw [e2] at hl
              exact ⟨j, ⟨j0, j1⟩, hl, e, cvr_refl _ _ _⟩
            · by_cases e3 : i = r
              · rw [e3] at hl
                exact ⟨j, ⟨j0, j1⟩, hl, e, cvr_refl _ _ _⟩
              · refine ⟨y, y0, y1, y2, cvr_tr y3 (cvr_1 ir e3 e ?_)⟩
                rw [key] at hl
                split at hl <;> omega
    rcases w 7 b g1.1 (by omega) h with e | ⟨y, y0, y1, y2, n, y3⟩
    · omega
    · rw [key] at y1
      split at y1
      · omega
      · rename_i ne
        have yb : y ≠ b := fun e => ne ((jm r y).mpr (.inl ⟨rfl, e⟩))
        have gs : ∀ i j : Int, gm_ (sa_ q) r i j = gm_ (sa_ q) r j i := fun i j => by
          unfold gm_
          by_cases c : i = r ∨ j = r
          · rw [if_pos c, if_pos c.symm]
          · rw [if_neg c, if_neg (fun h => c h.symm)]
            exact sy i j
        obtain ⟨k, hk⟩ := rch_rev gs n b g1.1 (by omega) y3
        exact ⟨y, y0, yb, y2, by rw [sy]; omega, k, hk⟩
theorem cq_acr {q : rw_t} (hW : wf_M q) (hU : uj_ q) {m : Int} (hm : 0 ≤ m ∧ m < q 3) : cq_ q m = acr_ q m := by
  have w3 := hW.1
  obtain ⟨g0, g1, -⟩ := hW.2 m hm.1 (by omega)
  have lb := br_le hW hm.1 (by omega : m < 16)
  have lt := hU.1 m hm.1 hm.2
  rw [acr_cut hW hU hm]
  unfold cq_
  by_cases z : br_ q m = 0
  · rw [if_pos z, if_pos z]
  · rw [if_neg z, if_neg z]
    have hf : ∀ i j : Int, 0 ≤ i → i < 8 → 0 ≤ j → j < 8 → 0 ≤ sa_ q i j := fun i j _ _ _ _ => by
      refine Classical.byContradiction (fun no => ?_)
      by_cases c : ∃ k : Int, (0 ≤ k ∧ k < q 3) ∧ jn_ q k i j
      · obtain ⟨k, k0, hk⟩ := c
        have := br_le hW k0.1 (by omega : k < 16)
        rw [sa_yes hU w3.1 k0.1 k0.2 hk] at no
        omega
      · rw [sa_no w3.1 (fun k k0 k1 h => c ⟨k, ⟨k0, k1⟩, h⟩)] at no
        omega
    have hbr : 0 < sa_ q (q (17 + 6 * m)) (q (16 + 6 * m)) := by
      rw [sa_yes hU w3.1 hm.1 hm.2 (.inr ⟨rfl, rfl⟩)]
      omega
    have R := vroot (r := q (16 + 6 * m)) (b := q (17 + 6 * m)) ⟨g0.1, by omega⟩ hf (sa_sym q) ⟨g1.1, by omega⟩ (by omega) hbr
    have ls := se_le (sa_ q) (q (16 + 6 * m)) (q (17 + 6 * m))
    rw [cnn_cut hW hU hm] at R
    by_cases c : rch_ (sa_ (rl_ q m 1)) 1 (q (16 + 6 * m)) 7 (q (17 + 6 * m))
    · rw [if_pos c]
      have : se_ (sa_ q) (q (16 + 6 * m)) (q (17 + 6 * m)) ≠ 1 := fun e => R.mp e c
      omega
    · rw [if_neg c]
      exact R.mpr c
theorem eq_crit {q : rw_t} (hW : wf_M q) (hU : uj_ q) {m t x t2 u : Int} (h : (t = 1 ∧ ¬ (0 ≤ m ∧ m < q 3)) ∨ (t = 0 ∧ (0 ≤ m ∧ m < q 3) ∧ x = cq_ q m)) (k : (t2 = 1 ∧ ¬ (0 ≤ m ∧ m < q 3)) ∨ (t2 = 0 ∧ (0 ≤ m ∧ m < q 3) ∧ u = acr_ q m)) : EQ_ t x t2 u :=
  eq_ix h (k.imp_right (fun ⟨k1, k2, k3⟩ => ⟨k1, k2, k3.trans (cq_acr hW hU k2).symm⟩))
end
section
/-! the cheapest way and the closed prices -/
theorem up2_spec (s : dj_t) : ∀ k : Nat, ((up2_ s k).1 = -1 ∧ (up2_ s k).2 = 1000000 ∧ ∀ j : Int, 0 ≤ j → j < k → s.2 j = 0 → 1000000 ≤ s.1 j) ∨ ((0 ≤ (up2_ s k).1 ∧ (up2_ s k).1 < k) ∧ s.2 (up2_ s k).1 = 0 ∧ (up2_ s k).2 = s.1 (up2_ s k).1 ∧ s.1 (up2_ s k).1 < 1000000 ∧ ∀ j : Int, 0 ≤ j → j < k → s.2 j = 0 → s.1 (up2_ s k).1 ≤ s.1 j)
  | 0 => .inl ⟨rfl, rfl, fun j j0 j1 => by omega⟩
  | k + 1 => by
    have e : up2_ s (k + 1) = uq_ s (up2_ s k) (k : Int) := rfl
    rw [e]
    unfold uq_
    by_cases c : s.2 (k : Int) = 0 ∧ s.1 (k : Int) < (up2_ s k).2
    · rw [if_pos c]
      refine .inr ⟨by constructor <;> simp only <;> omega, c.1, rfl, ?_, fun j j0 j1 hj => ?_⟩
      · rcases up2_spec s k with ⟨-, h, -⟩ | ⟨-, -, h, h2, -⟩
        · simp only; omega
        · simp only; omega
      · by_cases ej : j = (k : Int)
        · rw [ej]; exact Int.le_refl _
        · rcases up2_spec s k with ⟨-, h, h2⟩ | ⟨-, -, h, h2, h3⟩
          · have := h2 j j0 (by omega) hj
            simp only; omega
          · have := h3 j j0 (by omega) hj
            simp only; omega
    · rw [if_neg c]
      rcases up2_spec s k with ⟨h0, h, h2⟩ | ⟨h0, h1, h, h2, h3⟩
      · refine .inl ⟨h0, h, fun j j0 j1 hj => ?_⟩
        by_cases ej : j = (k : Int)
        · rw [ej] at hj ⊢
          omega
        · exact h2 j j0 (by omega) hj
      · refine .inr ⟨by omega, h1, h, h2, fun j j0 j1 hj => ?_⟩
        by_cases ej : j = (k : Int)
        · rw [ej] at hj ⊢
          omega
        · exact h3 j j0 (by omega) hj
/-- what holds while the joints are settled -/
def djv_ (f : gr_t) (a : Int) (F : gr_t) (s : dj_t) : Prop := s.1 a = 0 ∧ lm_ s.1 1000000 ∧ (∀ u w : Int, 0 ≤ u → u < 8 → 0 ≤ w → w < 8 → s.2 u ≠ 0 → s.2 w = 0 → s.1 u ≤ s.1 w) ∧ (∀ u j : Int, 0 ≤ u → u < 8 → 0 ≤ j → j < 8 → s.2 u ≠ 0 → s.1 j ≤ s.1 u + f u j) ∧ ∀ j : Int, 0 ≤ j → j < 8 → j = a ∨ F a j ≤ s.1 j
def djn_ (s : dj_t) : Prop := ∀ j : Int, 0 ≤ j → j < 8 → s.2 j = 0 → 1000000 ≤ s.1 j
theorem djv_0 {f F : gr_t} {a : Int} (a0 : 0 ≤ a) (a1 : a < 8) (hF : ∀ j : Int, 0 ≤ j → j < 8 → F a j ≤ 1000000) : djv_ f a F (di_ a) := by
  refine ⟨if_pos rfl, fun j j0 j1 => ?_, fun u w _ _ _ _ h => absurd rfl h, fun u w _ _ _ _ h => absurd rfl h, fun j j0 j1 => ?_⟩
  · show 0 ≤ (if j = a then (0 : Int) else 1000000) ∧ (if j = a then (0 : Int) else 1000000) ≤ 1000000
    split <;> omega
  · by_cases e : j = a
    · exact .inl e
    · right
      show F a j ≤ (if j = a then (0 : Int) else 1000000)
      rw [if_neg e]
      exact hF j j0 j1
theorem djv_s {f F : gr_t} {a : Int} {s : dj_t} (a0 : 0 ≤ a) (a1 : a < 8) (lf : gl_ f 1000000) (hF1 : ∀ j : Int, 0 ≤ j → j < 8 → F a j ≤ f a j) (hF2 : ∀ u j : Int, 0 ≤ u → u < 8 → 0 ≤ j → j < 8 → F a j ≤ F a u + f u j) (h : djv_ f a F s) (hn : un_ s ≠ -1) : djv_ f a F (dg_ f s) ∧ s.2 (un_ s) = 0 ∧ (0 ≤ un_ s ∧ un_ s < 8) ∧ s.1 (un_ s) < 1000000 := by
  obtain ⟨i0, i1, i2, i3, i4⟩ := h
  have e : un_ s = (up2_ s 8).1 := rfl
  rcases up2_spec s 8 with ⟨h0, -, -⟩ | ⟨n01, nu, -, npos, nmax⟩
  · exact absurd (e.trans h0) hn
  · rw [← e] at n01 nu npos nmax
    unfold dg_
    rw [if_neg hn]
    generalize un_ s = n at n01 nu npos nmax
    have n0 := n01.1
    have n1 : n < 8 := by omega
    have ln := i1 n n0 n1
    have vis : ∀ j : Int, up_ s.2 n 1 j ≠ 0 ↔ (s.2 j ≠ 0 ∨ j = n) := fun j => by
      unfold up_
      split
      · rename_i q; exact ⟨fun _ => .inr q, fun _ => by decide⟩
      · rename_i q; exact ⟨fun h => .inl h, fun h => h.resolve_right q⟩
    have unv : ∀ j : Int, up_ s.2 n 1 j = 0 → s.2 j = 0 ∧ j ≠ n := fun j hj => by
      refine ⟨Classical.byContradiction fun c => (vis j).mpr (.inl c) hj, fun c => (vis j).mpr (.inr c) hj⟩
    refine ⟨⟨?_, fun j j0 j1 => ?_, fun x m x0 x1 m0 m1 hx hm => ?_, fun x j x0 x1 j0 j1 hx => ?_, fun j j0 j1 => ?_⟩, nu, ⟨n0, n1⟩, npos⟩
    · show min (s.1 a) (s.1 n + f n a) = 0
      have := lf n a n0 n1 a0 a1
      omega
    · show 0 ≤ min (s.1 j) (s.1 n + f n j) ∧ min (s.1 j) (s.1 n + f n j) ≤ 1000000
      have := lf n j n0 n1 j0 j1
      have := i1 j j0 j1
      omega
    · obtain ⟨mu, mn⟩ := unv m hm
      have t1 := nmax m m0 (by omega) mu
      have t2 := lf n m n0 n1 m0 m1
      show min (s.1 x) (s.1 n + f n x) ≤ min (s.1 m) (s.1 n + f n m)
      rcases (vis x).mp hx with hv | rfl
      · have t3 := i2 x m x0 x1 m0 m1 hv mu
        have t4 := i2 x n x0 x1 n0 n1 hv nu
        omega
      · omega
    · show min (s.1 j) (s.1 n + f n j) ≤ min (s.1 x) (s.1 n + f n x) + f x j
      have t2 := lf n x n0 n1 x0 x1
      rcases (vis x).mp hx with hv | rfl
      · have t3 := i3 x j x0 x1 j0 j1 hv
        have t4 := i2 x n x0 x1 n0 n1 hv nu
        omega
      · omega
    · rcases i4 j j0 j1 with h | h
      · exact .inl h
      · right
        show F a j ≤ min (s.1 j) (s.1 n + f n j)
        by_cases c : n = a
        · have t := hF1 j j0 j1
          rw [c, i0]
          omega
        · have t := hF2 n j n0 n1 j0 j1
          have t2 := (i4 n n0 n1).resolve_left c
          omega
theorem dk_inv {f F : gr_t} {a : Int} (a0 : 0 ≤ a) (a1 : a < 8) (lf : gl_ f 1000000) (hF1 : ∀ j : Int, 0 ≤ j → j < 8 → F a j ≤ f a j) (hF2 : ∀ u j : Int, 0 ≤ u → u < 8 → 0 ≤ j → j < 8 → F a j ≤ F a u + f u j) : ∀ k : Nat, djv_ f a F (dk_ f a k) ∧ (k ≤ cnt_ (fun j => (dk_ f a k).2 j ≠ 0) 8 ∨ djn_ (dk_ f a k))
  | 0 => ⟨djv_0 a0 a1 (fun j j0 j1 => Int.le_trans (hF1 j j0 j1) (lf a j a0 a1 j0 j1).2), .inl (Nat.zero_le _)⟩
  | k + 1 => by
    obtain ⟨h1, h2⟩ := dk_inv a0 a1 lf hF1 hF2 k
    have e : dk_ f a (k + 1) = dg_ f (dk_ f a k) := rfl
    rw [e]
    by_cases hn : un_ (dk_ f a k) = -1
    · have eg : dg_ f (dk_ f a k) = dk_ f a k := by unfold dg_; rw [if_pos hn]
      rw [eg]
      refine ⟨h1, .inr (fun j j0 j1 hj => ?_)⟩
      have en : un_ (dk_ f a k) = (up2_ (dk_ f a k) 8).1 := rfl
      rcases up2_spec (dk_ f a k) 8 with ⟨-, -, h⟩ | ⟨h, -⟩
      · exact h j j0 (by omega) hj
      · omega
    · obtain ⟨i1, nu, n01, npos⟩ := djv_s a0 a1 lf hF1 hF2 h1 hn
      refine ⟨i1, .inl ?_⟩
      rcases h2 with h2 | h2
      · have h := cnt_lt (P := fun j => (dk_ f a k).2 j ≠ 0) (Q := fun j => (dg_ f (dk_ f a k)).2 j ≠ 0) 8 (fun j hj hv => by
            unfold dg_
            rw [if_neg hn]
            show up_ (dk_ f a k).2 _ 1 (j : Int) ≠ 0
            unfold up_
            split
            · decide
            · exact hv) ⟨(un_ (dk_ f a k)).toNat, by omega, by
            unfold dg_
            rw [if_neg hn, Int.toNat_of_nonneg n01.1]
            show up_ (dk_ f a k).2 _ 1 _ ≠ 0
            rw [up_at]
            decide, by
            rw [Int.toNat_of_nonneg n01.1]
            exact fun q => q nu⟩
        omega
      · have := h2 _ n01.1 n01.2 nu
        omega
theorem dk_fin {f F : gr_t} {a : Int} (a0 : 0 ≤ a) (a1 : a < 8) (lf : gl_ f 1000000) (hF1 : ∀ j : Int, 0 ≤ j → j < 8 → F a j ≤ f a j) (hF2 : ∀ u j : Int, 0 ≤ u → u < 8 → 0 ≤ j → j < 8 → F a j ≤ F a u + f u j) : (dk_ f a 8).1 a = 0 ∧ lm_ (dk_ f a 8).1 1000000 ∧ (∀ u j : Int, 0 ≤ u → u < 8 → 0 ≤ j → j < 8 → (dk_ f a 8).1 j ≤ (dk_ f a 8).1 u + f u j) ∧ ∀ j : Int, 0 ≤ j → j < 8 → j = a ∨ F a j ≤ (dk_ f a 8).1 j := by
  obtain ⟨⟨i0, i1, i2, i3, i4⟩, hc⟩ := dk_inv a0 a1 lf hF1 hF2 8
  have fin : djn_ (dk_ f a 8) := by
    rcases hc with hc | hc
    · intro j j0 j1 hj
      have h := cnt_lt (P := fun j => (dk_ f a 8).2 j ≠ 0) (Q := fun _ => True) 8 (fun _ _ _ => trivial) ⟨j.toNat, by omega, trivial, by rw [Int.toNat_of_nonneg j0]; exact fun q => q hj⟩
      have h2 := cnt_le (fun _ => True) 8
      omega
    · exact hc
  refine ⟨i0, i1, fun u j u0 u1 j0 j1 => ?_, i4⟩
  by_cases c : (dk_ f a 8).2 u = 0
  · have t := fin u u0 u1 c
    have t2 := i1 j j0 j1
    have t3 := lf u j u0 u1 j0 j1
    omega
  · exact i3 u j u0 u1 j0 j1 c
/-! the closed prices -/
theorem fr1_at {k i : Int} {f : gr_t} (k0 : 0 ≤ k) (hk : 0 ≤ f k k) : ∀ n : Nat, ∀ a b : Int, fr1_ k i f n a b = if a = i ∧ 0 ≤ b ∧ b < n then min (f i b) (f i k + f k b) else f a b
  | 0, a, b => by
    rw [if_neg (by omega)]
    rfl
  | n + 1, a, b => by
    have ih := fr1_at (i := i) k0 hk n
    have e : fr1_ k i f (n + 1) = fq_ k i n (fr1_ k i f n) := rfl
    have g1 : fr1_ k i f n i n = f i n := by rw [ih, if_neg (by omega)]
    have g2 : fr1_ k i f n i k = f i k := by
      rw [ih]
      split
      · omega
      · rfl
    have g3 : fr1_ k i f n k n = f k n := by rw [ih, if_neg (by omega)]
    rw [e]
    unfold fq_ ug_
    rw [g1, g2, g3]
    by_cases c : a = i ∧ b = n
    · rw [if_pos c, if_pos (by omega), c.2]
    · rw [if_neg c, ih]
      by_cases d : a = i ∧ 0 ≤ b ∧ b < n
      · rw [if_pos d, if_pos (by omega)]
      · rw [if_neg d, if_neg (by omega)]
theorem fr2_at {k : Int} {f : gr_t} (k0 : 0 ≤ k) (k1 : k < 8) (hk : 0 ≤ f k k) : ∀ n : Nat, ∀ a b : Int, 0 ≤ b → b < 8 → fr2_ k f n a b = if 0 ≤ a ∧ a < n then min (f a b) (f a k + f k b) else f a b
  | 0, a, b, _, _ => by
    rw [if_neg (by omega)]
    rfl
  | n + 1, a, b, b0, b1 => by
    have ih := fr2_at k0 k1 hk n
    have e : fr2_ k f (n + 1) = fr1_ k n (fr2_ k f n) 8 := rfl
    have g0 : 0 ≤ fr2_ k f n k k := by
      rw [ih k k k0 k1]
      split <;> omega
    have g1 : fr2_ k f n n b = f n b := by rw [ih n b b0 b1, if_neg (by omega)]
    have g2 : fr2_ k f n n k = f n k := by rw [ih n k k0 k1, if_neg (by omega)]
    have g3 : fr2_ k f n k b = f k b := by
      rw [ih k b b0 b1]
      split <;> omega
    rw [e, fr1_at k0 g0 8 a b, g1, g2, g3]
    by_cases c : a = n
    · rw [if_pos (by omega), if_pos (by omega), c]
    · rw [if_neg (by omega), ih a b b0 b1]
      by_cases d : 0 ≤ a ∧ a < n
      · rw [if_pos d, if_pos (by omega)]
      · rw [if_neg d, if_neg (by omega)]
def fwv_ (f0 : gr_t) (k : Nat) (f : gr_t) : Prop := gl_ f 1000000 ∧ (∀ m i j : Int, 0 ≤ m → m < k → 0 ≤ i → i < 8 → 0 ≤ j → j < 8 → f i j ≤ f i m + f m j) ∧ (∀ i j : Int, 0 ≤ i → i < 8 → 0 ≤ j → j < 8 → f i j ≤ f0 i j) ∧ ∀ D : Int → Int, (∀ u j : Int, 0 ≤ u → u < 8 → 0 ≤ j → j < 8 → D j ≤ D u + f0 u j) → ∀ i j : Int, 0 ≤ i → i < 8 → 0 ≤ j → j < 8 → D j ≤ D i + f i j
theorem fwv_s {f0 f : gr_t} {k : Nat} (hk : k < 8) (h : fwv_ f0 k f) : fwv_ f0 (k + 1) (fr2_ k f 8) := by
  obtain ⟨h1, h2, h3, h4⟩ := h
  have kk := h1 k k (by omega) (by omega) (by omega) (by omega)
  have at_ : ∀ i j : Int, 0 ≤ i → i < 8 → 0 ≤ j → j < 8 → fr2_ k f 8 i j = min (f i j) (f i k + f k j) := fun i j i0 i1 j0 j1 => by
    rw [fr2_at (by omega) (by omega) kk.1 8 i j j0 j1, if_pos (by omega)]
  refine ⟨fun i j i0 i1 j0 j1 => ?_, fun m i j m0 m1 i0 i1 j0 j1 => ?_, fun i j i0 i1 j0 j1 => ?_, fun D hD i j i0 i1 j0 j1 => ?_⟩
  · rw [at_ i j i0 i1 j0 j1]
    have a1 := h1 i j i0 i1 j0 j1
    have a2 := h1 i k i0 i1 (by omega) (by omega)
    have a3 := h1 k j (by omega) (by omega) j0 j1
    omega
  · rw [at_ i j i0 i1 j0 j1, at_ i m i0 i1 m0 (by omega), at_ m j m0 (by omega) j0 j1]
    have a2 := h1 i k i0 i1 (by omega) (by omega)
    have a3 := h1 k j (by omega) (by omega) j0 j1
    by_cases c : m = k
    · rw [c]
      omega
    · have b1 := h2 m i j m0 (by omega) i0 i1 j0 j1
      have b2 := h2 m k j m0 (by omega) (by omega) (by omega) j0 j1
      have b3 := h2 m i k m0 (by omega) i0 i1 (by omega) (by omega)
      have a4 := h1 k m (by omega) (by omega) m0 (by omega)
      have a5 := h1 m k m0 (by omega) (by omega) (by omega)
      omega
  · rw [at_ i j i0 i1 j0 j1]
    have := h3 i j i0 i1 j0 j1
    omega
  · rw [at_ i j i0 i1 j0 j1]
    have b1 := h4 D hD i j i0 i1 j0 j1
    have b2 := h4 D hD i k i0 i1 (by omega) (by omega)
    have b3 := h4 D hD k j (by omega) (by omega) j0 j1
    omega
theorem fwv_k {f0 : gr_t} (h : gl_ f0 1000000) : ∀ k : Nat, k ≤ 8 → fwv_ f0 k (fr3_ f0 k)
  | 0, _ => ⟨h, fun m i j m0 m1 => by omega, fun i j _ _ _ _ => Int.le_refl _, fun D hD i j i0 i1 j0 j1 => hD i j i0 i1 j0 j1⟩
  | k + 1, hk => fwv_s (by omega) (fwv_k h k (by omega))
theorem dc_fc {f : gr_t} {a b : Int} (lf : gl_ f 1000000) (a0 : 0 ≤ a) (a1 : a < 8) (b0 : 0 ≤ b) (b1 : b < 8) (hne : a ≠ b) : dc_ f a b = fc_ f a b := by
  obtain ⟨h1, h2, h3, h4⟩ := fwv_k lf 8 (Nat.le_refl 8)
  obtain ⟨d1, d2, d3, d4⟩ := dk_fin (F := fr3_ f 8) a0 a1 lf (fun j j0 j1 => h3 a j a0 a1 j0 j1) (fun u j u0 u1 j0 j1 => by
    have t1 := h2 u a j u0 (by omega) a0 a1 j0 j1
    have t2 := h3 u j u0 u1 j0 j1
    omega)
  have t1 := h4 (dk_ f a 8).1 d3 a b a0 a1 b0 b1
  have t2 := (d4 b b0 b1).resolve_left (fun e => hne e.symm)
  show (dk_ f a 8).1 b = fr3_ f 8 a b
  omega
/-! the table -/
theorem nr_at {f t : gr_t} {l s i : Int} : ∀ n : Nat, ∀ a b : Int, nr_ f l s i t n a b = if a = i ∧ 0 ≤ b ∧ b < n then (if t a b = 0 ∧ f a b ≤ s then l else t a b) else t a b
  | 0, a, b => by
    rw [if_neg (by omega)]
    rfl
  | n + 1, a, b => by
    have ih := nr_at (f := f) (t := t) (l := l) (s := s) (i := i) n
    have e : nr_ f l s i t (n + 1) = nq_ f l s i n (nr_ f l s i t n) := rfl
    have g1 : nr_ f l s i t n i n = t i n := by rw [ih, if_neg (by omega)]
    rw [e]
    unfold nq_
    rw [g1]
    by_cases c : a = i ∧ b = n
    · obtain ⟨rfl, rfl⟩ := c
      rw [if_pos (show a = a ∧ 0 ≤ (n : Int) ∧ (n : Int) < (n + 1 : Nat) by omega)]
      by_cases d : t a n = 0 ∧ f a n ≤ s
      · rw [if_pos d, if_pos d]
        unfold ug_
        rw [if_pos ⟨rfl, rfl⟩]
      · rw [if_neg d, if_neg d, g1]
    · have k : (if t i n = 0 ∧ f i n ≤ s then ug_ (nr_ f l s i t n) i n l else nr_ f l s i t n) a b = nr_ f l s i t n a b := by
        split
        · unfold ug_
          rw [if_neg c]
        · rfl
      rw [k, ih]
      generalize (if t a b = 0 ∧ f a b ≤ s then l else t a b) = V
      by_cases d : a = i ∧ 0 ≤ b ∧ b < n
      · rw [if_pos d, if_pos (by omega)]
      · rw [if_neg d, if_neg (by omega)]
theorem na_at {f t : gr_t} {l s : Int} : ∀ n : Nat, ∀ a b : Int, 0 ≤ b → b < 8 → na_ f l s t n a b = if 0 ≤ a ∧ a < n then (if t a b = 0 ∧ f a b ≤ s then l else t a b) else t a b
  | 0, a, b, _, _ => by
    rw [if_neg (by omega)]
    rfl
  | n + 1, a, b, b0, b1 => by
    have ih := na_at (f := f) (t := t) (l := l) (s := s) n
    have e : na_ f l s t (n + 1) = nr_ f l s n (na_ f l s t n) 8 := rfl
    rw [e, nr_at]
    by_cases c : a = n
    · have g1 : na_ f l s t n a b = t a b := by rw [ih a b b0 b1, if_neg (by omega)]
      rw [g1]
      generalize (if t a b = 0 ∧ f a b ≤ s then l else t a b) = V
      rw [if_pos (by omega), if_pos (by omega)]
    · rw [if_neg (by omega : ¬ (a = (n : Int) ∧ 0 ≤ b ∧ b < ((8 : Nat) : Int))), ih a b b0 b1]
      generalize (if t a b = 0 ∧ f a b ≤ s then l else t a b) = V
      by_cases d : 0 ≤ a ∧ a < n
      · rw [if_pos d, if_pos (by omega)]
      · rw [if_neg d, if_neg (by omega)]
theorem tl_at {r : rw_t} (hW : wf_M r) {s a b : Int} (a0 : 0 ≤ a) (a1 : a < 8) (b0 : 0 ≤ b) (b1 : b < 8) (hne : a ≠ b) : ∀ (n : Nat) (t : gr_t), tl_ r s n t a b = if t a b = 0 then la_ r s a b n else t a b
  | 0, t => by
    show t a b = _
    split
    · rename_i h
      exact h
    · rfl
  | n + 1, t => by
    have e : tl_ r s (n + 1) t = tl_ r s n (ta1_ r s (n + 1 : Nat) t) := rfl
    have ih := tl_at hW (s := s) a0 a1 b0 b1 hne n (ta1_ r s (n + 1 : Nat) t)
    have ta : ta1_ r s (n + 1 : Nat) t a b = if iw_ r (n + 1 : Nat) = 1 ∧ (t a b = 0 ∧ dc_ (pr_ r (n + 1 : Nat)) a b ≤ s) then ((n + 1 : Nat) : Int) else t a b := by
      unfold ta1_
      by_cases c : iw_ r (n + 1 : Nat) = 1
      · rw [if_pos c, na_at 8 a b b0 b1, if_pos (by omega), ← dc_fc (pr_le hW) a0 a1 b0 b1 hne]
        by_cases d : t a b = 0 ∧ dc_ (pr_ r (n + 1 : Nat)) a b ≤ s
        · rw [if_pos d, if_pos ⟨c, d⟩]
        · rw [if_neg d, if_neg (fun h => d h.2)]
      · rw [if_neg c, if_neg (fun h => c h.1)]
    have la : la_ r s a b (n + 1) = if iw_ r (n + 1 : Nat) = 1 ∧ dc_ (pr_ r (n + 1 : Nat)) a b ≤ s then ((n + 1 : Nat) : Int) else la_ r s a b n := rfl
    rw [e, ih, la]
    by_cases z : t a b = 0
    · by_cases c : iw_ r (n + 1 : Nat) = 1 ∧ dc_ (pr_ r (n + 1 : Nat)) a b ≤ s
      · have t2 : ta1_ r s (n + 1 : Nat) t a b = ((n + 1 : Nat) : Int) := by rw [ta, if_pos ⟨c.1, z, c.2⟩]
        rw [t2, if_neg (show ¬ ((n + 1 : Nat) : Int) = 0 by omega), if_pos z, if_pos c]
      · have t2 : ta1_ r s (n + 1 : Nat) t a b = 0 := by rw [ta, if_neg (fun h => c ⟨h.1, h.2.2⟩), z]
        rw [t2, if_pos rfl, if_pos z, if_neg c]
    · have t2 : ta1_ r s (n + 1 : Nat) t a b = t a b := by rw [ta, if_neg (fun h => z h.2.1)]
      rw [t2, if_neg z, if_neg z]
theorem la_tb {r : rw_t} (hW : wf_M r) {s a b : Int} (a0 : 0 ≤ a) (a1 : a < 8) (b0 : 0 ≤ b) (b1 : b < 8) (hne : a ≠ b) : la_ r s a b 99 = tb_ r s a b := by
  have h := tl_at hW (s := s) a0 a1 b0 b1 hne 99 (fun _ _ => 0)
  show _ = tl_ r s 99 (fun _ _ => 0) a b
  rw [h, if_pos rfl]
theorem wt1_ex (r : rw_t) (a b : Int) : ∃ x, wt1_ r a b x := by
  have L : ∀ n : Nat, n ≤ 99 → (∀ l : Int, (n : Int) < l → l ≤ 99 → ¬ wb1_ r a b l) → ∃ x, wt1_ r a b x := by
    intro n
    induction n with
    | zero => intro _ h; exact ⟨0, .inl ⟨rfl, fun l l1 l9 => h l (by omega) l9⟩⟩
    | succ n ih =>
      intro hn h
      by_cases c : wb1_ r a b (n + 1 : Nat)
      · exact ⟨_, .inr ⟨⟨by omega, by omega⟩, c, h⟩⟩
      · refine ih (by omega) (fun l l1 l9 => ?_)
        by_cases e : l = (n + 1 : Nat)
        · rw [e]
          exact c
        · exact h l (by omega) l9
  exact L 99 (Nat.le_refl _) (fun l l1 l9 => by omega)
theorem ak_yes {B : Int} {σ : bc_M} {v : cs_t} (J : jnt_ B σ v) : ak1_ (c_r v) := by
  have W := jo_wu J
  have hW := W.1
  have hU := W.2.2.2
  refine ⟨fun a b a0 a1 b0 b1 hne => ⟨?_, la_tb hW a0 a1 b0 b1 hne⟩, fun m m0 m1 => (cq_acr hW hU ⟨m0, m1⟩).trans (cr1_acr hW hU ⟨m0, m1⟩).symm, kpa_days W.2.2.1⟩
  obtain ⟨x, hx⟩ := wt1_ex (c_r v) a b
  have e := wt1_xw hW hU ⟨a0, a1⟩ ⟨b0, b1⟩ hne hx
  rw [wb_xw hW hU a0 a1 b0 b1 (fun h => hne h.symm) (xw_99 hW a 8 b (fun h => hne h.symm)), ← e]
  exact hx
end
section
/-! THE CLAIM OUT OF ONE WALK OF THE LAW'S BODY. Your part is whole_start (and what it stands on); all else here is the same for every law, but numbers. -/
def R_law : String := "BridgeChapelLaw"
def lw_P (b : Addr) (xs : List Int32) (args : Array Value) (s : State) : Prop := args = #[.ref b] ∧ s.IntsAt b xs ∧ xs.length ≤ 2048 ∧ (Jvm.Cond.and given_1 narrow_1).before args s = true
/-- what a walk over the start with the record d0 says of its end, said of the start itself -/
theorem lw_closed {s t : State} {o : Outcome} {d0 : Drawn} {L : List Loc} {k n : Nat} (hd0 : s.drawn.sameBut d0 lw_cs) (hv : ∃ v, o = .returned v) (hW : (s.setDrawn d0).WarmedH t.vm) (hs : (s.setDrawn d0).sameButNew ({ t with vm := s.vm } : State) L k n) : State.butDraws s t lw_cs (fun t1 => Framed s o t1 L k n) := by
  have h2 : t.drawn = d0 := congrArg State.drawn hs.1
  refine ⟨⟨hv, hW, State.sameButNew.setDrawn hs s.drawn⟩, ?_, by decide⟩
  rw [h2]
  exact hd0
def lw_Q (_ : Array Value) (s : State) (o : Outcome) (t : State) : Prop := o = .returned (some (.int 1)) ∧ State.butDraws s t lw_cs (fun t1 => Framed s o t1 [] 603072 7178346)
def lw_Z (below : List Frame) (a : Array Value) (s : State) : State → Prop := fun t => ∃ o, t.status = .running ∧ Ended t below o ∧ lw_Q a s o t
/-- the law's own end, with 1 on the stack, nothing written that was there before, its room as the claim has it; d0: the record of draws at this point (at the entry s.drawn: begin with 'refine W.base ?_' and 'have hd0 := Drawn.sameBut.refl s.drawn lw_cs') -/
theorem lw_ret {p : Program} {l : Launch} {e : Env} {s : State} {m : MethodId} {below : List Frame} {meth : Method} {c : Code} {b : Nat} {d0 : Drawn} (hd0 : s.drawn.sameBut d0 lw_cs) (hx : p.tables.exec = Jvm.exec) (hb : c.code = code) (hr : meth.sig.returnType = ret) (hlocks : meth.locks = false) {pc : Nat} {H : Heap} {ls : Array Slot} (hdg : decode code pc = .ok (.ireturn, 1)) : W p l e room_1 (s.setDrawn d0) m #[Value.ref b] below meth c H [] 603072 7178346 (lw_Z below #[Value.ref b] s) (F0 m pc ls [.int 1]) := by
  intro T hT X
  obtain ⟨fs, hret, hrun, hended, hW, hframe⟩ := X.leave (v := some (.int 1)) (hlocks := hlocks) (fun h => by rw [hr] at h; cases h)
  have hmeth' : T.vm.method? m = some meth := X.method'
  refine ⟨T.setFrames fs, ?_, .returned (some (.int 1)), hrun, hended, rfl, lw_closed hd0 ⟨_, rfl⟩ hW hframe⟩
  jvm_step X.here [X.here.top, hx, hb, hdg, hmeth', hr, ret, narrow_b1]
  (try refine ⟨rfl, ?_⟩); (try refine ⟨rfl, ?_⟩)
  first | (intro acts; rw [hret _ acts rfl rfl rfl]) | rw [hret _ _ rfl rfl rfl]
  exact Steps.refl _
/-- what holds at the law's entry: the machine, the code, the tables' words (any of lw_tbl by 'hts w (by decide +kernel)'), the script of L ints xs at the cell b, what the Statement gives of the start (any of its parts by flat_of_before) -/
def lw_At (p : Program) (s : State) (m : MethodId) (meth : Method) (c : Code) (b L : Nat) (xs : Nat → Int32) : Prop :=
  p.tables.exec = Jvm.exec ∧ c.code = code ∧ meth.sig.returnType = ret ∧ c.maxLocals = 9 ∧ s.vm.findClass R_law = some m.cls ∧ (∀ w ∈ lw_tbl, w.before #[Value.ref b] s = true) ∧ va_X b L xs s s.heap ∧ b < s.heap.size ∧ meth.locks = false ∧ (Jvm.Cond.and given_1 narrow_1).before #[Value.ref b] s = true
end
section
/-! THE LAW'S OWN BODY, over the abstract machine: the script is cell 999 -/
theorem z_L_law : ∀ pc, 1811 ≤ pc → pL_law pc = none := fun _ h => by unfold pL_law; exact bc_cut_none h
theorem kL_law : bc_ok1 code pL_law := bc_dec_ok kL_lawD z_L_law
theorem i32_in (x : Int32) : bc_in x.toInt := by
  have h1 := Int32.le_toInt x
  have h2 := Int32.toInt_lt x
  constructor <;> omega
theorem vp_in32 {j : Int} {n : Nat} (h0 : 0 ≤ j) (h1 : j < (n : Int)) (hn : n < 2147483648) : vp_in (Int32.ofInt j) n ∧ (Int32.ofInt j).toNatClampNeg = j.toNat := by
  have e : (Int32.ofInt j).toNatClampNeg = j.toNat := Int32.toNatClampNeg_ofInt_of_le (by omega) (by omega)
  refine ⟨?_, e⟩
  unfold vp_in
  rw [e]
  rintro (q | q)
  · rw [Int32.lt_iff_toInt_lt, Int32.toInt_ofInt_of_le (by omega) (by omega)] at q
    have : (0 : Int32).toInt = 0 := by decide
    omega
  · omega
/-- a continuation that the law's body may use -/
def lw_G (g : bc_C) (d L : Nat) (xs : Nat → Int32) (K : bc_KT) : Prop := bc_Good g mL_law d (fun r _ => r = some (bc_I 1)) (fun _ _ => False) K ∧
  (∀ (pc : Nat) (lv : bc_LV) (st : List bc_A) (σ : bc_M) (n : Nat) (j : Int), bc_code mL_law pc = some (.iaload, 1, []) → 0 ≤ j → j < (L : Int) → K (pc + 1) lv (bc_I (xs j.toNat).toInt :: st) σ n → K pc lv (bc_I j :: bc_R 999 :: st) σ n) ∧
  (∀ (pc : Nat) (lv : bc_LV) (st : List bc_A) (σ : bc_M) (n : Nat), bc_code mL_law pc = some (.arraylength, 1, []) → K (pc + 1) lv (bc_I (L : Int) :: st) σ n → K pc lv (bc_R 999 :: st) σ n) ∧
  (∀ (pc : Nat) (lv : bc_LV) (st : List bc_A) (σ : bc_M) (n : Nat) (x : Int64), bc_code mL_law pc = some (.pop2, 1, []) → K (pc + 1) lv st σ n → K pc lv (bc_J x :: st) σ n)
section LAW
variable {p : Program} {e : Env} {s : State} {m : MethodId} {below : List Frame} {meth : Method} {c : Code} {g : bc_C} {d : Nat} {c0 s0 : Nat} {b L : Nat} {xs : Nat → Int32}
theorem lw_hR (F : bc_Fx g mL_law d p room_1 s m #[Value.ref b] meth c c0 s0) (hz : bc_z g = s.heap.size) (hc : c0 + 50 ≤ 603072 ∧ s0 + 300 ≤ 7178346) {pc len : Nat} {i : Instr} {ts : List Nat} {lv : bc_LV} {st : List bc_A} {σ : bc_M} {n : Nat} {r : Option bc_A} (hcd : bc_code mL_law pc = some (i, len, ts)) (hr : bc_rok (bc_ret mL_law) i r st) (h : r = some (bc_I 1)) : bc_T g mL_law p e room_1 s m #[Value.ref b] below meth c (lw_Z below #[Value.ref b] s) c0 s0 pc lv st σ n := by
  obtain ⟨hx, hb, hml, hts, hown, hlocks, hap, htr, hE, hz0, hok, -, -, -, -, hret⟩ := F
  obtain ⟨hd, htg, hln⟩ := hok pc i len ts hcd
  intro H locs ls hn hH hS hl
  have hn : n ≤ 50 := hn
  subst h
  have hst : i = .ireturn ∧ st = [bc_I 1] := by
    rcases hr with ⟨q, x, e1, e2, -⟩ | ⟨q, x, e1, e2, -⟩ | ⟨q, x, e1, e2, -⟩ | ⟨q, x, e1, e2, -⟩ | ⟨q, x, e1, e2, -⟩ | ⟨q, e1, -⟩
    · have e3 : (1 : Int) = x := Sum.inl.inj (Option.some.inj e1)
      rw [← e3] at e2
      exact ⟨q, e2⟩
    · cases e1
    · cases e1
    · cases e1
    · cases e1
    · cases e1
  obtain ⟨rfl, rfl⟩ := hst
  have hl1 : len = 1 := by simpa [bc_ln] using hln
  subst hl1
  refine va_forget (fun q hq => by have := hS.2.2 q hq; unfold bc_Z at this; omega) ?_
  refine W.widen (k := 603072) (n := 7178346) (by omega) (by omega) ?_
  refine W.base ?_
  exact lw_ret (Drawn.sameBut.refl s.drawn lw_cs) hx hb hret hlocks hd
theorem lw_good (F : bc_Fx g mL_law d p room_1 s m #[Value.ref b] meth c c0 s0) (hz : bc_z g = s.heap.size) (hc : c0 + 50 ≤ 603072 ∧ s0 + 300 ≤ 7178346) (had : bc_ad g 999 = b) (hX : va_X b L xs s s.heap) (hbl : b < s.heap.size) (hL : L < 2147483648) : lw_G g d L xs (bc_T g mL_law p e room_1 s m #[Value.ref b] below meth c (lw_Z below #[Value.ref b] s) c0 s0) := by
  have F0 := F
  obtain ⟨hx, hb, hml, hts, hown, hlocks, hap, htr, hE, hz0, hok, -, -, -, -, hret⟩ := F
  have hbA : ¬ bc_Z g b := fun q => by unfold bc_Z at q; omega
  refine ⟨⟨fun cuts f pc lv st σ n h => ?_, fun pc lv lv' st σ n hs h => bc_T_sub hs h⟩, fun pc lv st σ n j hcd h0 h1 h => ?_, fun pc lv st σ n hcd h => ?_, fun pc lv st σ n x hcd h => ?_⟩
  · refine bc_run_ok F0 (cv_all _) (fun _ _ _ _ _ h => h) (fun pc i len ts lv st σ n r hcd hr h => lw_hR F0 hz hc hcd hr h) (fun K hK pc lv n x σ h hx6 => ?_) (fun pc ix len ts lv st σ n _ _ _ _ h => h.elim) (bc_jdk_all g mL_law d p e _ s m _ below meth c _ c0 s0 F0) f pc lv st σ n h
    unfold bc_thr at h
    rw [show bc_find (bc_hh mL_law) pc x = none from rfl] at h
    exact h.elim
  · obtain ⟨hd, -, -⟩ := hok pc _ _ _ hcd
    intro H locs ls hn hH hS hl
    obtain ⟨v1, v2⟩ := vp_in32 h0 h1 hL
    have h2 := h H locs ls hn hH hS hl
    have e1 : bc_v g (bc_R 999) = .ref b := by rw [bc_v_R, had]
    rw [List.map_cons, List.map_cons, bc_v_I, e1]
    refine va_sld hx hb hX hbl hbA hS v1 hd ?_
    rw [v2]
    rw [List.map_cons, bc_v_I, Int32.ofInt_toInt] at h2
    exact h2
  · obtain ⟨hd, -, -⟩ := hok pc _ _ _ hcd
    intro H locs ls hn hH hS hl
    have h2 := h H locs ls hn hH hS hl
    have e1 : bc_v g (bc_R 999) = .ref b := by rw [bc_v_R, had]
    rw [List.map_cons, e1]
    refine va_slen hx hb hX hbl hbA hS hd ?_
    rw [List.map_cons, bc_v_I] at h2
    exact h2
  · obtain ⟨hd, -, -⟩ := hok pc _ _ _ hcd
    intro H locs ls hn hH hS hl
    have h2 := h H locs ls hn hH hS hl
    rw [List.map_cons, bc_v_J]
    exact lv_pop2_2 hx hb hd rfl h2
end LAW
theorem lg0 (x : Int64) : lg_cmp x x = 0 := by
  unfold lg_cmp
  rw [if_neg (by simp), if_pos rfl]
end
