/-! the reference changes as the class did -/
theorem jo_spo2 {B B1 t : Int} {σ σ1 σ2 : bc_M} {v v1 : cs_t} {r : rw_t} {h : List rw_t} {n : Int} (J : jnt_ B σ v) (F : fa_ B1 σ1 v1) (y : yo_ σ σ1) (hv : ∀ s, rf2_ s (u_h (u_r v r) h n) → rf2_ s v1) (U : ujs_ v1) (S : spo_ t r h σ1 σ2) : jnt_ B1 σ2 v1 :=
  ⟨fa_ref F S.2.2.1 (by omega), U, hv _ (rf2_gen (rf2_yo J.2.2 y) S.1 S.2.2.1 S.2.2.2 (by decide) (by decide) (by decide) (by decide) (by decide) (by decide) (by decide) (by decide) (by decide))⟩
theorem rf2_rot {σ σ' : bc_M} {v : cs_t} {o : List Int} (H : rf2_ σ v) (L : liq_ σ' o) (R : rot_ σ σ') : rf2_ σ' (u_o v o) := by
  obtain ⟨⟨g1, g2⟩, h2, h3, h4, h5, h6, h7, h8⟩ := H
  obtain ⟨-, hf, hj⟩ := R
  exact ⟨⟨nw_fr g1 hf (by decide), mh_fr g2 hf (by decide) (hj _ (by decide))⟩, fun e => nw_fr (h2 e) hf (by decide), by rw [hj ((4 : Nat) : Int) (by decide)]; exact h3, by rw [hj ((6 : Nat) : Int) (by decide)]; exact h4, by rw [hj ((7 : Nat) : Int) (by decide)]; exact h5, tyt_fr h6 hf (by decide) (hj _ (by decide)), L, fun j => by rw [hf.1 227 (by decide)]; exact h8 j⟩
theorem rf2_typ {σ σ' : bc_M} {v : cs_t} {l : List Int} (H : rf2_ σ v) (L : tyt_ σ' l) (hf : fr_ (fun k => k = 218 ∨ k = 225) σ σ') (hj : fj_ (fun j => j = 11 ∨ j = 14) σ σ') : rf2_ σ' (u_l v l) := by
  obtain ⟨⟨g1, g2⟩, h2, h3, h4, h5, h6, h7, h8⟩ := H
  exact ⟨⟨nw_fr g1 hf (by decide), mh_fr g2 hf (by decide) (hj _ (by decide))⟩, fun e => nw_fr (h2 e) hf (by decide), by rw [hj ((4 : Nat) : Int) (by decide)]; exact h3, by rw [hj ((6 : Nat) : Int) (by decide)]; exact h4, by rw [hj ((7 : Nat) : Int) (by decide)]; exact h5, L, liq_fr h7 hf (by decide) (hj _ (by decide)), fun j => by rw [hf.1 227 (by decide)]; exact h8 j⟩
theorem rf2_scr {t : Int} {σ s : bc_M} {v w : cs_t} (H : rf2_ σ v) (Fi : rfin_ t σ s) (G : rg_ s (c_r w) (c_h w)) (e6 : s.1 218 ((6 : Nat) : Int) = c_le w) (e7 : s.1 218 ((7 : Nat) : Int) = c_lf w) (w1 : c_l w = []) (w2 : c_o w = c_o v) (w3 : c_hs w = c_hs v) (w4 : c_sn w = c_sn v) : rf2_ s w := by
  obtain ⟨-, h2, h3, h4, h5, h6, h7, h8⟩ := H
  obtain ⟨f1, f2, f3, hf, hj⟩ := Fi
  refine ⟨G, fun e => ?_, ?_, e6, e7, ?_, ?_, f3⟩
  · rw [w4]
    exact nw_fr (h2 (by rw [← w3]; exact e)) hf (by decide)
  · rw [hj ((4 : Nat) : Int) (by omega), w3]
    exact h3
  · rw [w1]
    exact ⟨f2, by decide, fun j hj => absurd hj (Nat.not_lt_zero _)⟩
  · rw [w2]
    exact liq_fr h7 hf (by decide) (hj _ (by omega))
theorem yv_vis {v : cs_t} (a b : Int) : (∀ s, rf2_ s v → rf2_ s (yv_ v a b)) ∧ (ujs_ v → ujs_ (yv_ v a b)) := by
  unfold yv_
  split
  · exact ⟨fun _ h => h, fun h => h⟩
  · exact ⟨fun _ h => h, fun h => h⟩
section ZCH
variable {g : bc_C} {d : Nat} {σ σ0 : bc_M} {B t x : Int} {v v1 : cs_t} {Rr : Option bc_A → bc_M → Prop} {X : Nat → bc_M → Prop}
theorem z_addMember {a b s : Int} (J : jnt_ B σ0 v) (hB : B ≤ 999000) (F : fa_ (B + 480) σ v1) (y : yo_ σ0 σ) (ha : bc_in a) (hb : bc_in b) (hs : bc_in s) (H : (t ≠ 0 ∧ v1 = v ∧ mq_ (c_r v) a b s t) ∨ (t = 0 ∧ v1 = u_r (rm_ v) (ra_ (c_r v) a b s) ∧ mq_ (c_r v) a b s 0 ∧ x = (c_r v) 3)) (f : ∀ (σ2 : bc_M) (u : Int), jnt_ (B + 480) σ2 v1 → σ2.1 218 ((14 : Nat) : Int) = t → (t = 0 → u = x) → σ2.2 = σ.2 → Rr (some (bc_I u)) σ2) : bc_Sem g (d + 20) mX11_addMember [bc_R 218, bc_I a, bc_I b, bc_I s] σ Rr X := by
  have W := jo_wu J
  have R0 := rf2_yo J.2.2 y
  have G := R0.1
  have hh := J.2.1.2.1
  have hu0 := J.2.1.1
  rcases H with ⟨tn, rfl, hf⟩ | ⟨rfl, rfl, hf, rfl⟩
  · have ad := mq_adr hu0 hf
    refine t_X11_addMember G W.1 ha hb hs (fun t2 a nt s S => ?_) (fun a s S => ?_)
    · have e := adr_eq a ad
      subst e
      exact f s 0 (jo_spo (n := c_n v1) J F y rfl hu0 hh S) (S.2.1) (fun e => absurd e tn) S.2.2.1.2
    · exact absurd (adr_eq ad a) tn
  · have ad := mq_adr hu0 hf
    refine t_X11_addMember G W.1 ha hb hs (fun t2 a nt s S => ?_) (fun a s S => ?_)
    · exact absurd (adr_eq a ad) nt
    · have hu := uj_ra W.1 hu0 ad
      exact f s _ (jo_spo J F y rfl hu (ujs_hr hh hu0) S) S.2.1 (fun _ => rfl) S.2.2.1.2
theorem z_makeVow {a u : Int} (J : jnt_ B σ0 v) (hB : B ≤ 999000) (F : fa_ (B + 480) σ v1) (y : yo_ σ0 σ) (ha : bc_in a) (hu : bc_in u) (H : (t ≠ 0 ∧ v1 = v ∧ vq_ (c_r v) a u ≠ 0 ∧ t = (if vq_ (c_r v) a u = 2 then 1 else 2)) ∨ (t = 0 ∧ v1 = u_r (rm_ v) (rv_ (c_r v) a u) ∧ vq_ (c_r v) a u = 0 ∧ x = (c_r v) 5)) (f : ∀ (σ2 : bc_M) (u : Int), jnt_ (B + 480) σ2 v1 → σ2.1 218 ((14 : Nat) : Int) = t → (t = 0 → u = x) → σ2.2 = σ.2 → Rr (some (bc_I u)) σ2) : bc_Sem g (d + 20) mX11_makeVow [bc_R 218, bc_I a, bc_I u] σ Rr X := by
  have W := jo_wu J
  have R0 := rf2_yo J.2.2 y
  have G := R0.1
  have hh := J.2.1.2.1
  have hu0 := J.2.1.1
  have w0 := W.2.2.1.1
  have w4 := W.2.2.1.2.2.2.1
  rcases H with ⟨tn, rfl, hne, ht⟩ | ⟨rfl, rfl, hf, rfl⟩
  · refine t_X11_makeVow G (by omega) w4 ha hu (fun c s S1 S2 S3 S4 => ?_) (fun c s S1 S2 S3 S4 => absurd c hne)
    rw [← ht] at S2
    have S := spo_ex S1 S2 S3 S4
    exact f s 0 (jo_spo (n := c_n v1) J F y rfl hu0 hh S) (S.2.1) (fun e => absurd e tn) S.2.2.1.2
  · refine t_X11_makeVow G (by omega) w4 ha hu (fun c s S1 S2 S3 S4 => absurd hf c) (fun c s S1 S2 S3 S4 => ?_)
    have S := spo_ex S1 S2 S3 S4
    have hu := (wu_step W ((cf_2 _ a u 0 _).mpr hf.symm) (.inr (.inr (.inl ⟨rfl, rfl⟩)))).2.2.2
    exact f s _ (jo_spo J F y rfl hu (ujs_hr hh hu0) S) S.2.1 (fun _ => rfl) S.2.2.1.2
theorem z_setForge {n : Int} (J : jnt_ B σ0 v) (hB : B ≤ 999000) (F : fa_ (B + 480) σ v1) (y : yo_ σ0 σ) (hn : bc_in n) (H : (t ≠ 0 ∧ v1 = v ∧ fq1_ n ≠ 0 ∧ t = 1) ∨ (t = 0 ∧ v1 = u_r (rm_ v) (up_ (c_r v) 2 n) ∧ fq1_ n = 0 ∧ x = (c_r v) 2)) (f : ∀ (σ2 : bc_M) (u : Int), jnt_ (B + 480) σ2 v1 → σ2.1 218 ((14 : Nat) : Int) = t → (t = 0 → u = x) → σ2.2 = σ.2 → Rr (some (bc_I u)) σ2) : bc_Sem g (d + 20) mX11_setForge [bc_R 218, bc_I n] σ Rr X := by
  have W := jo_wu J
  have R0 := rf2_yo J.2.2 y
  have G := R0.1
  have hh := J.2.1.2.1
  have hu0 := J.2.1.1
  have k : fq1_ n = if 0 ≤ n ∧ n ≤ 20 then 0 else 2 := by
    unfold fq1_
    (repeat' split) <;> omega
  rcases H with ⟨tn, rfl, hne, rfl⟩ | ⟨rfl, rfl, hf, rfl⟩
  · refine t_X11_setForge G hn (fun c s S1 S2 S3 S4 => ?_) (fun c0 c1 s S1 S2 S3 S4 => absurd (k.trans (if_pos ⟨c0, c1⟩)) hne)
    have S := spo_ex S1 S2 S3 S4
    exact f s 0 (jo_spo (n := c_n v1) J F y rfl hu0 hh S) (S.2.1) (fun e => absurd e tn) S.2.2.1.2
  · refine t_X11_setForge G hn (fun c s S1 S2 S3 S4 => absurd (hf.symm.trans (k.trans (if_neg c))) (by decide)) (fun c0 c1 s S1 S2 S3 S4 => ?_)
    have S := spo_ex S1 S2 S3 S4
    have hu := (wu_step W ((cf_3 _ n 0 0 _).mpr hf.symm) (.inr (.inr (.inr (.inl ⟨rfl, rfl⟩))))).2.2.2
    exact f s _ (jo_spo J F y rfl hu (ujs_hr hh hu0) S) S.2.1 (fun _ => rfl) S.2.2.1.2
theorem z_repair {m : Int} (J : jnt_ B σ0 v) (hB : B ≤ 999000) (F : fa_ (B + 480) σ v1) (y : yo_ σ0 σ) (hm : bc_in m) (H : (t ≠ 0 ∧ v1 = v ∧ eq_ (c_r v) m ≠ 0 ∧ t = (if eq_ (c_r v) m = 1 then 1 else if eq_ (c_r v) m = 3 then 2 else 3)) ∨ (t = 0 ∧ v1 = u_r (rm_ v) (rn_ (rs_ (c_r v) (co_ (c_r v) m)) m) ∧ eq_ (c_r v) m = 0 ∧ x = co_ (c_r v) m)) (f : ∀ (σ2 : bc_M) (u : Int), jnt_ (B + 480) σ2 v1 → σ2.1 218 ((14 : Nat) : Int) = t → (t = 0 → u = x) → σ2.2 = σ.2 → Rr (some (bc_I u)) σ2) : bc_Sem g (d + 20) mX11_repair [bc_R 218, bc_I m] σ Rr X := by
  have W := jo_wu J
  have R0 := rf2_yo J.2.2 y
  have G := R0.1
  have hh := J.2.1.2.1
  have hu0 := J.2.1.1
  have le3 : 0 ≤ er_ (c_r v) m ∧ er_ (c_r v) m ≤ 3 := by
    unfold er_
    (repeat' split) <;> omega
  have k := eq_er (c_r v) m
  rcases H with ⟨tn, rfl, hne, ht⟩ | ⟨rfl, rfl, hf, rfl⟩
  · have e : t = er_ (c_r v1) m := by
      rw [k] at ht
      (repeat' split at ht) <;> omega
    refine t_X11_repair G W.1 W.2.2.1 (by omega) hm (fun c s S => ?_) (fun c s S => absurd (e.trans c) tn)
    rw [← e] at S
    exact f s 0 (jo_spo (n := c_n v1) J F y rfl hu0 hh S) (S.2.1) (fun e => absurd e tn) S.2.2.1.2
  · refine t_X11_repair G W.1 W.2.2.1 (by omega) hm (fun c s S => ?_) (fun c s S => ?_)
    · rw [k] at hf
      (repeat' split at hf) <;> omega
    · have hu := (wu_step W ((cf_4 _ m 0 0 _).mpr hf.symm) (.inr (.inr (.inr (.inr (.inl ⟨rfl, rfl⟩)))))).2.2.2
      exact f s _ (jo_spo J F y rfl hu (ujs_hr hh hu0) S) S.2.1 (fun _ => rfl) S.2.2.1.2
theorem z_abandon {m : Int} (J : jnt_ B σ0 v) (hB : B ≤ 999000) (F : fa_ (B + 480) σ v1) (y : yo_ σ0 σ) (hm : bc_in m) (H : (t ≠ 0 ∧ v1 = v ∧ lq_ (c_r v) m 0 ≠ 0 ∧ t = (if lq_ (c_r v) m 0 = 1 then 1 else 2)) ∨ (t = 0 ∧ v1 = u_r (rm_ v) (rl_ (c_r v) m 1) ∧ lq_ (c_r v) m 0 = 0 ∧ x = ab_ (rl_ (c_r v) m 1))) (f : ∀ (σ2 : bc_M) (u : Int), jnt_ (B + 480) σ2 v1 → σ2.1 218 ((14 : Nat) : Int) = t → (t = 0 → u = x) → σ2.2 = σ.2 → Rr (some (bc_I u)) σ2) : bc_Sem g (d + 20) mX11_abandon [bc_R 218, bc_I m] σ Rr X := by
  have W := jo_wu J
  have R0 := rf2_yo J.2.2 y
  have G := R0.1
  have hh := J.2.1.2.1
  have hu0 := J.2.1.1
  rcases H with ⟨tn, rfl, hne, ht⟩ | ⟨rfl, rfl, hf, rfl⟩
  · refine t_X11_abandon G W.1 hm (fun c s S1 S2 S3 S4 => ?_) (fun c s S1 S2 S3 S4 => absurd c hne)
    have S2 : s.1 218 ((14 : Nat) : Int) = t := S2.trans ht.symm
    have S := spo_ex S1 S2 S3 S4
    exact f s 0 (jo_spo (n := c_n v1) J F y rfl hu0 hh S) (S.2.1) (fun e => absurd e tn) S.2.2.1.2
  · refine t_X11_abandon G W.1 hm (fun c s S1 S2 S3 S4 => absurd hf c) (fun c s S1 S2 S3 S4 => ?_)
    have S := spo_ex S1 S2 S3 S4
    have hu := (wu_step W ((cf_5 _ m 0 0 _).mpr hf.symm) (.inr (.inr (.inr (.inr (.inr (.inl ⟨rfl, rfl⟩))))))).2.2.2
    exact f s _ (jo_spo J F y rfl hu (ujs_hr hh hu0) S) S.2.1 (fun _ => rfl) S.2.2.1.2
theorem z_resume {m : Int} (J : jnt_ B σ0 v) (hB : B ≤ 999000) (F : fa_ (B + 480) σ v1) (y : yo_ σ0 σ) (hm : bc_in m) (H : (t ≠ 0 ∧ v1 = v ∧ lq_ (c_r v) m 1 ≠ 0 ∧ t = (if lq_ (c_r v) m 1 = 1 then 1 else 2)) ∨ (t = 0 ∧ v1 = u_r (rm_ v) (rl_ (c_r v) m 0) ∧ lq_ (c_r v) m 1 = 0 ∧ x = ab_ (rl_ (c_r v) m 0))) (f : ∀ (σ2 : bc_M) (u : Int), jnt_ (B + 480) σ2 v1 → σ2.1 218 ((14 : Nat) : Int) = t → (t = 0 → u = x) → σ2.2 = σ.2 → Rr (some (bc_I u)) σ2) : bc_Sem g (d + 20) mX11_resume [bc_R 218, bc_I m] σ Rr X := by
  have W := jo_wu J
  have R0 := rf2_yo J.2.2 y
  have G := R0.1
  have hh := J.2.1.2.1
  have hu0 := J.2.1.1
  rcases H with ⟨tn, rfl, hne, ht⟩ | ⟨rfl, rfl, hf, rfl⟩
  · refine t_X11_resume G W.1 hm (fun c s S1 S2 S3 S4 => ?_) (fun c s S1 S2 S3 S4 => absurd c hne)
    have S2 : s.1 218 ((14 : Nat) : Int) = t := S2.trans ht.symm
    have S := spo_ex S1 S2 S3 S4
    exact f s 0 (jo_spo (n := c_n v1) J F y rfl hu0 hh S) (S.2.1) (fun e => absurd e tn) S.2.2.1.2
  · refine t_X11_resume G W.1 hm (fun c s S1 S2 S3 S4 => absurd hf c) (fun c s S1 S2 S3 S4 => ?_)
    have S := spo_ex S1 S2 S3 S4
    have hu := (wu_step W ((cf_6 _ m 0 0 _).mpr hf.symm) (.inr (.inr (.inr (.inr (.inr (.inr (.inl ⟨rfl, rfl⟩)))))))).2.2.2
    exact f s _ (jo_spo J F y rfl hu (ujs_hr hh hu0) S) S.2.1 (fun _ => rfl) S.2.2.1.2
theorem z_setNiche {c : Int} (J : jnt_ B σ0 v) (hB : B ≤ 999000) (F : fa_ (B + 480) σ v1) (y : yo_ σ0 σ) (hc : 0 ≤ c ∧ c ≤ 65535) (H : (t ≠ 0 ∧ v1 = v ∧ nq1_ c ≠ 0 ∧ t = 1) ∨ (t = 0 ∧ v1 = u_r (rm_ v) (re_ (c_r v) c) ∧ nq1_ c = 0 ∧ x = tw_ (c_r v))) (f : ∀ (σ2 : bc_M) (u : Int), jnt_ (B + 480) σ2 v1 → σ2.1 218 ((14 : Nat) : Int) = t → (t = 0 → u = x) → σ2.2 = σ.2 → Rr (some (bc_I u)) σ2) : bc_Sem g (d + 20) mX11_setNiche [bc_R 218, bc_I c] σ Rr X := by
  have W := jo_wu J
  have R0 := rf2_yo J.2.2 y
  have G := R0.1
  have hh := J.2.1.2.1
  have hu0 := J.2.1.1
  have k : nq1_ c = if c = 99 ∨ c = 108 then 0 else 2 := rfl
  rcases H with ⟨tn, rfl, hne, rfl⟩ | ⟨rfl, rfl, hf, rfl⟩
  · refine t_X11_setNiche G (by constructor <;> omega) (fun k9 s S1 S2 S3 S4 => ?_) (fun k9 s S1 S2 S3 S4 => absurd (k.trans (if_pos k9)) hne)
    have S := spo_ex S1 S2 S3 S4
    exact f s 0 (jo_spo (n := c_n v1) J F y rfl hu0 hh S) (S.2.1) (fun e => absurd e tn) S.2.2.1.2
  · refine t_X11_setNiche G (by constructor <;> omega) (fun k9 s S1 S2 S3 S4 => absurd (hf.symm.trans (k.trans (if_neg k9))) (by decide)) (fun k9 s S1 S2 S3 S4 => ?_)
    have S := spo_ex S1 S2 S3 S4
    have hu := (wu_step W ((cf_7 _ c 0 0 _).mpr hf.symm) (.inr (.inr (.inr (.inr (.inr (.inr (.inr (.inl ⟨rfl, rfl⟩))))))))).2.2.2
    exact f s _ (jo_spo J F y rfl hu (ujs_hr hh hu0) S) S.2.1 (fun _ => rfl) S.2.2.1.2
theorem z_put {p c w : Int} (J : jnt_ B σ0 v) (hB : B ≤ 999000) (F : fa_ (B + 480) σ v1) (y : yo_ σ0 σ) (hp : bc_in p) (hc : 0 ≤ c ∧ c ≤ 65535) (hw : bc_in w) (H : (t ≠ 0 ∧ v1 = v ∧ pq_ (c_r v) p c w ≠ 0 ∧ t = (if pq_ (c_r v) p c w = 5 then 3 else if pq_ (c_r v) p c w = 3 then 4 else pq_ (c_r v) p c w)) ∨ (t = 0 ∧ v1 = u_r (rm_ v) (rp_ (c_r v) p w) ∧ pq_ (c_r v) p c w = 0 ∧ x = tw_ (rp_ (c_r v) p w))) (f : ∀ (σ2 : bc_M) (u : Int), jnt_ (B + 480) σ2 v1 → σ2.1 218 ((14 : Nat) : Int) = t → (t = 0 → u = x) → σ2.2 = σ.2 → Rr (some (bc_I u)) σ2) : bc_Sem g (d + 20) mX11_put [bc_R 218, bc_I p, bc_I c, bc_I w] σ Rr X := by
  have W := jo_wu J
  have R0 := rf2_yo J.2.2 y
  have G := R0.1
  have hh := J.2.1.2.1
  have hu0 := J.2.1.1
  have le4 := put_le (c_r v) p c w
  have k := pq_put W.2.1 p c w
  rcases H with ⟨tn, rfl, hne, ht⟩ | ⟨rfl, rfl, hf, rfl⟩
  · have e : t = put_ (c_r v1) p c w := by
      rw [k] at ht
      (repeat' split at ht) <;> omega
    refine t_X11_put G W.2.1 hp (by constructor <;> omega) hw (fun k9 s S => ?_) (fun k9 s S => absurd (e.trans k9) tn)
    rw [← e] at S
    exact f s 0 (jo_spo (n := c_n v1) J F y rfl hu0 hh S) (S.2.1) (fun e => absurd e tn) S.2.2.1.2
  · refine t_X11_put G W.2.1 hp (by constructor <;> omega) hw (fun k9 s S => ?_) (fun k9 s S => ?_)
    · rw [k] at hf
      (repeat' split at hf) <;> omega
    · have hu := (wu_step W ((cf_8 _ p c w _).mpr hf.symm) (.inr (.inr (.inr (.inr (.inr (.inr (.inr (.inr (.inl ⟨rfl, rfl⟩)))))))))).2.2.2
      exact f s _ (jo_spo J F y rfl hu (ujs_hr hh hu0) S) S.2.1 (fun _ => rfl) S.2.2.1.2
theorem z_passDays {n : Int} (J : jnt_ B σ0 v) (hB : B ≤ 999000) (F : fa_ (B + 480) σ v1) (y : yo_ σ0 σ) (hn : bc_in n) (H : (t ≠ 0 ∧ v1 = v ∧ dq_ n ≠ 0 ∧ t = 1) ∨ (t = 0 ∧ v1 = u_r (rm_ v) (ps_ (c_r v) n.toNat) ∧ dq_ n = 0 ∧ x = ps_ (c_r v) n.toNat 6 - (c_r v) 6)) (f : ∀ (σ2 : bc_M) (u : Int), jnt_ (B + 480) σ2 v1 → σ2.1 218 ((14 : Nat) : Int) = t → (t = 0 → u = x) → σ2.2 = σ.2 → Rr (some (bc_I u)) σ2) : bc_Sem g (d + 20) mX11_passDays [bc_R 218, bc_I n] σ Rr X := by
  have W := jo_wu J
  have R0 := rf2_yo J.2.2 y
  have G := R0.1
  have hh := J.2.1.2.1
  have hu0 := J.2.1.1
  have k : dq_ n = if 1 ≤ n ∧ n ≤ 30 then 0 else 2 := by
    unfold dq_
    (repeat' split) <;> omega
  rcases H with ⟨tn, rfl, hne, rfl⟩ | ⟨rfl, rfl, hf, rfl⟩
  · refine t_X11_passDays G W.2.2.1 (by omega) hn (fun c s S => ?_) (fun c s S => absurd (k.trans (if_pos c)) hne)
    exact f s 0 (jo_spo (n := c_n v1) J F y rfl hu0 hh S) (S.2.1) (fun e => absurd e tn) S.2.2.1.2
  · refine t_X11_passDays G W.2.2.1 (by omega) hn (fun c s S => absurd (hf.symm.trans (k.trans (if_neg c))) (by decide)) (fun c s S => ?_)
    have hu := (wu_step W ((cf_9 _ n 0 0 _).mpr hf.symm) (.inr (.inr (.inr (.inr (.inr (.inr (.inr (.inr (.inr (⟨rfl, rfl⟩))))))))))).2.2.2
    exact f s _ (jo_spo J F y rfl hu (ujs_hr hh hu0) S) S.2.1 (fun _ => rfl) S.2.2.1.2
theorem z_procession {a b n : Int} (J : jnt_ B σ0 v) (hB : B ≤ 999000) (F : fa_ (B + 480) σ v1) (y : yo_ σ0 σ) (ha : bc_in a) (hb : bc_in b) (hn : bc_in n) (H : (t ≠ 0 ∧ v1 = v ∧ t = wkt_ (c_r v) a b n) ∨ (t = 0 ∧ wkt_ (c_r v) a b n = 0 ∧ ∃ r1 : rw_t, wz_ v a b n r1 ∧ v1 = wv1_ (rm_ v) a b r1 ∧ x = (fz_ (sa_ (c_r v)) a b (c_J v)).2)) (f : ∀ (σ2 : bc_M) (u : Int), jnt_ (B + 480) σ2 v1 → σ2.1 218 ((14 : Nat) : Int) = t → (t = 0 → u = x) → σ2.2 = σ.2 → Rr (some (bc_I u)) σ2) : bc_Sem g (d + 20) mX11_procession [bc_R 218, bc_I a, bc_I b, bc_I n] σ Rr X := by
  have W := jo_wu J
  have R0 := rf2_yo J.2.2 y
  have G := R0.1
  have hh := J.2.1.2.1
  have hu0 := J.2.1.1
  rcases H with ⟨tn, rfl, ht⟩ | ⟨rfl, hk, r1, hz, rfl, rfl⟩
  · refine t_X11_procession G W.1 W.2.1 W.2.2.2 ha hb hn (fun c s S => ?_) (fun c s r2 hw S => absurd (ht.trans c) tn)
    rw [← ht] at S
    exact f s 0 (jo_spo (n := c_n v1) J F y rfl hu0 hh S) (S.2.1) (fun e => absurd e tn) S.2.2.1.2
  · obtain ⟨-, e2, e3⟩ := walk_same W.1 hu0 (c_J v) hk
    refine t_X11_procession G W.1 W.2.1 W.2.2.2 ha hb hn (fun c s S => absurd hk c) (fun c s r2 hw S => ?_)
    obtain ⟨e4, e5⟩ := e3 r1 r2 hz hw
    have hu := uj_eJ W.1.1.2 e5 hu0
    subst e4
    exact f s _ (jo_spo2 (n := (c_n v + 1) % 8) J F y (fun _ h => h) ⟨hu, ujs_hr hh hu0, J.2.1.2.2⟩ S) S.2.1 (fun _ => e2.symm) S.2.2.1.2
theorem z_renderMember {m : Int} (J : jnt_ B σ0 v) (hB : B ≤ 999000) (F : fa_ (B + 480) σ v1) (y : yo_ σ0 σ) (hm : bc_in m) (H : (t = 1 ∧ ¬ (0 ≤ m ∧ m < (c_r v) 3) ∧ v1 = v) ∨ (t = 0 ∧ (0 ≤ m ∧ m < (c_r v) 3) ∧ x = (om_ (c_r v) m).length ∧ v1 = u_o v (om_ (c_r v) m))) (f : ∀ (σ2 : bc_M) (u : Int), jnt_ (B + 480) σ2 v1 → σ2.1 218 ((14 : Nat) : Int) = t → (t = 0 → u = x) → σ2.2 = σ.2 → Rr (some (bc_I u)) σ2) : bc_Sem g (d + 20) mX11_renderMember [bc_R 218, bc_I m] σ Rr X := by
  have W := jo_wu J
  have R0 := rf2_yo J.2.2 y
  have G := R0.1
  have hh := J.2.1.2.1
  have hu0 := J.2.1.1
  have J1 : ∀ {v2 : cs_t}, fa_ (B + 480) σ v2 → v2 = v → jnt_ (B + 480) σ v2 := fun F e => by
    subst e
    exact ⟨F, J.2.1, R0⟩
  rcases H with ⟨rfl, hm2, rfl⟩ | ⟨rfl, hm2, rfl, rfl⟩
  · refine t_X11_renderMember G.1 W.1 hm (fun c s R => ?_) (fun c s L R => absurd c hm2)
    exact f s 0 (jo_roc (J1 F rfl) R) R.1 (fun e => absurd e (by decide)) R.2.1.2
  · refine t_X11_renderMember G.1 W.1 hm (fun c s R => absurd hm2 c) (fun c s L R => ?_)
    exact f s _ ⟨fa_ref F R.2.1 (by omega), J.2.1, rf2_rot R0 L R⟩ R.1 (fun _ => rfl) R.2.1.2
theorem z_renderWay {a b : Int} (J : jnt_ B σ0 v) (hB : B ≤ 999000) (F : fa_ (B + 480) σ v1) (y : yo_ σ0 σ) (ha : bc_in a) (hb : bc_in b) (H : (yq_ (c_r v) a b ≠ 0 ∧ t = (if yq_ (c_r v) a b = 4 then 3 else yq_ (c_r v) a b) ∧ v1 = yv_ v a b) ∨ (yq_ (c_r v) a b = 0 ∧ t = 0 ∧ x = (ow_ (c_J (yv_ v a b)) ((c_len (yv_ v a b)).toNat + 1)).length ∧ v1 = u_o (yv_ v a b) (ow_ (c_J (yv_ v a b)) ((c_len (yv_ v a b)).toNat + 1)))) (f : ∀ (σ2 : bc_M) (u : Int), jnt_ (B + 480) σ2 v1 → σ2.1 218 ((14 : Nat) : Int) = t → (t = 0 → u = x) → σ2.2 = σ.2 → Rr (some (bc_I u)) σ2) : bc_Sem g (d + 20) mX11_renderWay [bc_R 218, bc_I a, bc_I b] σ Rr X := by
  have W := jo_wu J
  have R0 := rf2_yo J.2.2 y
  have G := R0.1
  have hh := J.2.1.2.1
  have hu0 := J.2.1.1
  obtain ⟨k1, k2⟩ := yq_atw W.1 hu0 a b
  obtain ⟨V1, V2⟩ := yv_vis (v := v) a b
  have la := atw_le (c_r v) a b
  rcases H with ⟨hne, ht, rfl⟩ | ⟨hy, rfl, rfl, rfl⟩
  · rw [k1] at ht
    have tn : t ≠ 0 := fun e => hne (k2.mpr (ht.symm.trans e))
    refine t_X11_renderWay G.1 W.1 W.2.2.2 ha hb (fun c s R => ?_) (fun c s L R => absurd (ht.trans c) tn)
    rw [← ht] at R
    exact f s 0 (jo_roc ⟨F, V2 J.2.1, V1 _ R0⟩ R) R.1 (fun e => absurd e tn) R.2.1.2
  · have z := k2.mp hy
    obtain ⟨w1, w2⟩ := yv_way W.1 hu0 z
    have lm := (atw_m W.1 hu0 z).2
    have e : ow_ (c_J (yv_ v a b)) ((c_len (yv_ v a b)).toNat + 1) = ow_ (wyJ_ (c_r v) a b) ((xm_ (c_r v) (xw_ (c_r v) a 8 b) (-1) b 8 a).toNat + 1) := by
      rw [← w1]
      refine ow_cong _ (fun i hi => ?_)
      exact w2 i (by omega)
    refine t_X11_renderWay G.1 W.1 W.2.2.2 ha hb (fun c s R => absurd z c) (fun c s L R => ?_)
    rw [← e] at L ⊢
    exact f s _ ⟨fa_ref F R.2.1 (by omega), V2 J.2.1, rf2_rot (V1 _ R0) L R⟩ R.1 (fun _ => rfl) R.2.1.2
theorem z_type {c : Int} (J : jnt_ B σ0 v) (hB : B ≤ 999000) (F : fa_ (B + 480) σ v1) (y : yo_ σ0 σ) (hc : 0 ≤ c ∧ c ≤ 65535) (H : (t = 1 ∧ ¬ (32 ≤ c ∧ c ≤ 126) ∧ v1 = v) ∨ (t = 2 ∧ (32 ≤ c ∧ c ≤ 126) ∧ 60 ≤ (c_l v).length ∧ v1 = v) ∨ (t = 0 ∧ (32 ≤ c ∧ c ≤ 126) ∧ (c_l v).length < 60 ∧ x = (c_l v).length + 1 ∧ v1 = u_l v (c_l v ++ [c]))) (f : ∀ (σ2 : bc_M) (u : Int), jnt_ (B + 480) σ2 v1 → σ2.1 218 ((14 : Nat) : Int) = t → (t = 0 → u = x) → σ2.2 = σ.2 → Rr (some (bc_I u)) σ2) : bc_Sem g (d + 20) mX11_type [bc_R 218, bc_I c] σ Rr X := by
  have W := jo_wu J
  have R0 := rf2_yo J.2.2 y
  have G := R0.1
  have hh := J.2.1.2.1
  have hu0 := J.2.1.1
  have T := R0.2.2.2.2.2.1
  have J1 : ∀ {v2 : cs_t}, fa_ (B + 480) σ v2 → v2 = v → jnt_ (B + 480) σ v2 := fun F e => by
    subst e
    exact ⟨F, J.2.1, R0⟩
  rcases H with ⟨rfl, h1, rfl⟩ | ⟨rfl, h1, h2, rfl⟩ | ⟨rfl, h1, h2, rfl, rfl⟩
  · refine t_X11_type T hc (fun c s R => ?_) (fun c c2 s R => absurd c h1) (fun c c2 s L e fr fj => absurd c h1)
    exact f s 0 (jo_roc (J1 F rfl) R) R.1 (fun e => absurd e (by decide)) R.2.1.2
  · refine t_X11_type T hc (fun c s R => absurd h1 c) (fun c c2 s R => ?_) (fun c c2 s L e fr fj => absurd h2 (by omega))
    exact f s 0 (jo_roc (J1 F rfl) R) R.1 (fun e => absurd e (by decide)) R.2.1.2
  · refine t_X11_type T hc (fun c s R => absurd h1 c) (fun c c2 s R => absurd h2 (by omega)) (fun c c2 s L e fr fj => ?_)
    exact f s _ ⟨fa_ref F fr (by omega), J.2.1, rf2_typ R0 L fr fj⟩ e (fun _ => rfl) fr.2
theorem z_undo (J : jnt_ B σ0 v) (hB : B ≤ 999000) (F : fa_ (B + 480) σ v1) (y : yo_ σ0 σ) (H : (t = 1 ∧ c_h v = [] ∧ v1 = v) ∨ (t = 0 ∧ ∃ (p : rw_t) (s : List rw_t), c_h v = p :: s ∧ x = s.length ∧ v1 = u_h (u_r v p) s ((c_n v + 7) % 8))) (f : ∀ (σ2 : bc_M) (u : Int), jnt_ (B + 480) σ2 v1 → σ2.1 218 ((14 : Nat) : Int) = t → (t = 0 → u = x) → σ2.2 = σ.2 → Rr (some (bc_I u)) σ2) : bc_Sem g (d + 20) mX11_undo [bc_R 218] σ Rr X := by
  have W := jo_wu J
  have R0 := rf2_yo J.2.2 y
  have G := R0.1
  have hh := J.2.1.2.1
  have hu0 := J.2.1.1
  rcases H with ⟨rfl, h1, rfl⟩ | ⟨rfl, p, r, h1, rfl, rfl⟩
  · rw [h1] at G
    refine t_X11_undo0 G (fun s S1 S2 S3 S4 => ?_)
    rw [← h1] at S1
    have S := spo_ex S1 S2 S3 S4
    exact f s 0 (jo_spo (n := c_n v1) J F y rfl hu0 hh S) S.2.1 (fun e => absurd e (by decide)) S.2.2.1.2
  · rw [h1] at G hh
    refine t_X11_undo1 G (fun s S1 S2 S3 S4 => ?_)
    have S := spo_ex S1 S2 S3 S4
    exact f s _ (jo_spo J F y rfl (hh p (List.mem_cons_self ..)) (fun q hq => hh q (List.mem_cons_of_mem _ hq)) S) S.2.1 (fun _ => rfl) S.2.2.1.2
theorem z_restore (J : jnt_ B σ0 v) (hB : B ≤ 999000) (F : fa_ (B + 480) σ v1) (y : yo_ σ0 σ) (H : (t = 1 ∧ c_hs v = 0 ∧ v1 = v) ∨ (t = 0 ∧ c_hs v = 1 ∧ x = (c_sn v) 3 ∧ v1 = u_h (u_r v (c_sn v)) [] (c_n v))) (f : ∀ (σ2 : bc_M) (u : Int), jnt_ (B + 480) σ2 v1 → σ2.1 218 ((14 : Nat) : Int) = t → (t = 0 → u = x) → σ2.2 = σ.2 → Rr (some (bc_I u)) σ2) : bc_Sem g (d + 20) mX11_restore [bc_R 218] σ Rr X := by
  have W := jo_wu J
  have R0 := rf2_yo J.2.2 y
  have G := R0.1
  have hh := J.2.1.2.1
  have hu0 := J.2.1.1
  have e4 := R0.2.2.1
  rcases H with ⟨rfl, h1, rfl⟩ | ⟨rfl, h1, rfl, rfl⟩
  · refine t_X11_restore0 G (e4.trans h1) (fun s S => ?_)
    exact f s 0 (jo_spo (n := c_n v1) J F y rfl hu0 hh S) S.2.1 (fun e => absurd e (by decide)) S.2.2.1.2
  · refine t_X11_restore1 G (R0.2.1 h1) (e4.trans h1) (fun s S => ?_)
    exact f s _ (jo_spo J F y rfl (J.2.1.2.2 h1) (fun q hq => absurd hq (List.not_mem_nil)) S) S.2.1 (fun _ => rfl) S.2.2.1.2
theorem z_save (J : jnt_ B σ0 v) (hB : B ≤ 999000) (F : fa_ (B + 480) σ v1) (y : yo_ σ0 σ) (H : t = 0 ∧ v1 = u_hs (u_sn v (c_r v)) 1 ∧ x = (c_r v) 3) (f : ∀ (σ2 : bc_M) (u : Int), jnt_ (B + 480) σ2 v1 → σ2.1 218 ((14 : Nat) : Int) = t → (t = 0 → u = x) → σ2.2 = σ.2 → Rr (some (bc_I u)) σ2) : bc_Sem g (d + 20) mX11_save [bc_R 218] σ Rr X := by
  have W := jo_wu J
  have R0 := rf2_yo J.2.2 y
  have G := R0.1
  have hh := J.2.1.2.1
  have hu0 := J.2.1.1
  obtain ⟨rfl, rfl, rfl⟩ := H
  refine t_X11_save G (fun s S1 S2 S3 S4 fr fj => ?_)
  obtain ⟨-, h2, h3, h4, h5, h6, h7, h8⟩ := R0
  refine f s _ ⟨fa_ref F fr (by omega), ⟨hu0, hh, fun _ => hu0⟩, ⟨S1, fun _ => S2, S3, ?_, ?_, tyt_fr h6 fr (by decide) (fj _ (by decide)), liq_fr h7 fr (by decide) (fj _ (by decide)), fun j => ?_⟩⟩ S4 (fun _ => rfl) fr.2
  · rw [fj ((6 : Nat) : Int) (by decide)]; exact h4
  · rw [fj ((7 : Nat) : Int) (by decide)]; exact h5
  · rw [fr.1 227 (by decide)]; exact h8 j
theorem z_runScript (J : jnt_ B σ0 v) (hB : B ≤ 999000) (F : fa_ (B + 480) σ v1) (y : yo_ σ0 σ) (H : (t = 1 ∧ (zp_ v).1 = 0 ∧ v1 = u_le (vp_ v) (zp_ v).2.1) ∨ (t = 2 ∧ (zp_ v).1 = 1 ∧ ∃ (i : Nat) (w : cs_t) (e : Int), (i : Int) < (zp_ v).2.2.1 ∧ rr_ (zp_ v) (vp_ v) i w ∧ cf_ (c_r w) ((zp_ v).2.2.2.1 i) ((zp_ v).2.2.2.2 i 0) ((zp_ v).2.2.2.2 i 1) ((zp_ v).2.2.2.2 i 2) e ∧ e ≠ 0 ∧ v1 = u_lf (u_r w (c_bs w)) i) ∨ (t = 0 ∧ (zp_ v).1 = 1 ∧ x = (zp_ v).2.2.1 ∧ ∃ w : cs_t, rr_ (zp_ v) (vp_ v) (zp_ v).2.2.1.toNat w ∧ v1 = u_h w (hr_ (c_h w) (c_bs w)) ((c_n w + 1) % 8))) (f : ∀ (σ2 : bc_M) (u : Int), jnt_ (B + 480) σ2 v1 → σ2.1 218 ((14 : Nat) : Int) = t → (t = 0 → u = x) → σ2.2 = σ.2 → Rr (some (bc_I u)) σ2) : bc_Sem g (d + 20) mX11_runScript [bc_R 218] σ Rr X := by
  have W := jo_wu J
  have R0 := rf2_yo J.2.2 y
  have G := R0.1
  have hh := J.2.1.2.1
  have hu0 := J.2.1.1
  have T := R0.2.2.2.2.2.1
  have hc := J.1.2.2.2.1.2.2.2
  have kk := J.1.2.2.2.2.1.2
  have gA := J.1.2.2.2.2.2.1.2
  have hb := R0.2.2.2.2.2.2.2
  have e6 := R0.2.2.2.1
  have e7 := R0.2.2.2.2.1
  have U : wu_ B (c_r (vp_ v)) := W
  rcases H with ⟨rfl, z0, rfl⟩ | ⟨rfl, z1, i, w, e, hi, hr, hf, hne, rfl⟩ | ⟨rfl, z1, rfl, w, hr, rfl⟩
  · refine t_X11_runScript (k0 := c_k v) (A0 := c_A v) G W (by omega) T hc kk gA rfl hb (fun z s Fi G2 s6 s7 => ?_) (fun z => absurd (z0.symm.trans z) (by decide)) (fun z => absurd (z0.symm.trans z) (by decide))
    exact f s 0 ⟨fa_ref F Fi.2.2.2.1 (by omega), J.2.1, rf2_scr R0 Fi G2 s6 (s7.trans e7) rfl rfl rfl rfl⟩ Fi.1 (fun e => absurd e (by decide)) Fi.2.2.2.1.2
  · have V := rr_sv hr
    obtain ⟨v1, v2, v3, v4, v5, v6, v7, v8, v9⟩ := V
    refine t_X11_runScript (k0 := c_k v) (A0 := c_A v) G W (by omega) T hc kk gA rfl hb (fun z => absurd (z1.symm.trans z) (by decide)) (fun z j r s hj hx hno Fi G2 s6 s7 => ?_) (fun z r s hx hW Fi G2 s6 s7 => ?_)
    · have ij := fail_same U hr hf hne hx hno
      subst ij
      have G3 : rg_ s (c_r (u_lf (u_r w (c_bs w)) i)) (c_h (u_lf (u_r w (c_bs w)) i)) := by
        show rg_ s (c_bs w) (c_h w)
        rw [v2, v3]
        exact G2
      refine f s 0 ⟨fa_ref F Fi.2.2.2.1 (by omega), ⟨?_, ?_, ?_⟩, rf2_scr R0 Fi G3 ?_ s7 v5 v6 v7 v1⟩ Fi.1 (fun e => absurd e (by decide)) Fi.2.2.2.1.2
      · show uj_ (c_bs w)
        rw [v2]
        exact hu0
      · show ∀ q ∈ c_h w, uj_ q
        rw [v3]
        exact hh
      · show c_hs w = 1 → uj_ (c_sn w)
        rw [v7, v1]
        exact J.2.1.2.2
      · show s.1 218 ((6 : Nat) : Int) = c_le w
        rw [v8]
        exact s6.trans e6
    · exact (fail_no (n := (zp_ v).2.2.1.toNat) U (by omega) hr hf hne hx).elim
  · have V := rr_sv hr
    obtain ⟨v1, v2, v3, v4, v5, v6, v7, v8, v9⟩ := V
    refine t_X11_runScript (k0 := c_k v) (A0 := c_A v) G W (by omega) T hc kk gA rfl hb (fun z => absurd (z1.symm.trans z) (by decide)) (fun z j r s hj hx hno Fi G2 s6 s7 => ?_) (fun z r s hx hW Fi G2 s6 s7 => ?_)
    · have hj2 : (j : Int) < (zp_ v).2.2.1 := hj
      exact (fail_no2 U (by omega) hr hx hno).elim
    · have er := (rr_rsx U hr hx).1
      have G3 : rg_ s (c_r (u_h w (hr_ (c_h w) (c_bs w)) ((c_n w + 1) % 8))) (c_h (u_h w (hr_ (c_h w) (c_bs w)) ((c_n w + 1) % 8))) := by
        show rg_ s (c_r w) (hr_ (c_h w) (c_bs w))
        rw [v2, v3, er]
        exact G2
      refine f s _ ⟨fa_ref F Fi.2.2.2.1 (by omega), ⟨?_, ?_, ?_⟩, rf2_scr R0 Fi G3 ?_ ?_ v5 v6 v7 v1⟩ Fi.1 (fun _ => rfl) Fi.2.2.2.1.2
      · show uj_ (c_r w)
        rw [er]
        exact hW.2.2.2
      · show ∀ q ∈ hr_ (c_h w) (c_bs w), uj_ q
        rw [v2, v3]
        exact ujs_hr hh hu0
      · show c_hs w = 1 → uj_ (c_sn w)
        rw [v7, v1]
        exact J.2.1.2.2
      · show s.1 218 ((6 : Nat) : Int) = c_le w
        rw [v8]
        exact s6.trans e6
      · show s.1 218 ((7 : Nat) : Int) = c_lf w
        rw [v9]
        exact s7.trans e7
end ZCH
