/-! a command's step on a row: what stays so -/
def wu_ (B : Int) (q : rw_t) : Prop := wf_M q ∧ wf_N q ∧ wf_T B q ∧ uj_ q
theorem wu_mono {B B' : Int} {q : rw_t} (h : wu_ B q) (hb : B ≤ B') : wu_ B' q := ⟨h.1, h.2.1, wf_T_mono h.2.2.1 hb, h.2.2.2⟩
def crow_ (q : rw_t) (k x y z : Int) (q' : rw_t) : Prop :=
  (k = 0 ∧ q' = ra_ q x y z) ∨ (k = 1 ∧ wl_ (z + tw_ q) (wyJ_ q x y) q (xm_ q (xw_ q x 8 y) (-1) y 8 x).toNat q') ∨ (k = 2 ∧ q' = rv_ q x y) ∨ (k = 3 ∧ q' = up_ q 2 x) ∨
  (k = 4 ∧ q' = rn_ (rs_ q (co_ q x)) x) ∨ (k = 5 ∧ q' = rl_ q x 1) ∨ (k = 6 ∧ q' = rl_ q x 0) ∨ (k = 7 ∧ q' = re_ q x) ∨ (k = 8 ∧ q' = rp_ q x z) ∨ (k = 9 ∧ q' = ps_ q x.toNat)
theorem wl_wf {f : Int} {J : Int → Int} {q : rw_t} (hW : wf_M q) (hf : 0 ≤ f) : ∀ (n : Nat) (r : rw_t), wl_ f J q n r → wf_M r ∧ eN_ q r ∧ eT_ q r
  | 0, r, h => by
    have e : r = q := h
    rw [e]
    exact ⟨hW, fun _ _ => rfl, fun _ _ => rfl⟩
  | n + 1, r, h => by
    obtain ⟨q1, x, h1, b1, e1⟩ := h
    obtain ⟨a1, a2, a3⟩ := wl_wf hW hf n q1 h1
    rw [e1]
    split
    · exact ⟨a1, a2, a3⟩
    · rename_i c
      have w := a1.1
      have lx : 0 ≤ x ∧ x < q1 3 := by
        rcases b1 with ⟨e, -⟩ | ⟨x0, x1, -⟩
        · exact absurd e c
        · exact ⟨x0, x1⟩
      obtain ⟨b1, b2, b3⟩ := rd_wf (m := x) (f := f) a1 lx.1 (by omega) hf
      exact ⟨b1, fun j hj => (b2 j hj).trans (a2 j hj), fun j hj => (b3 j hj).trans (a3 j hj)⟩
theorem adr_0 {q : rw_t} {x y s : Int} (h : adr_ q x y s 0) : ((0 ≤ x ∧ x < 8) ∧ 0 ≤ y ∧ y < 8) ∧ (x ≠ y ∧ 1 ≤ s ∧ s ≤ 99) ∧ q 3 < 16 := by
  rcases h with ⟨-, e⟩ | ⟨-, -, e⟩ | ⟨-, -, -, e⟩ | ⟨h1, h2, h3, -, -⟩
  · exact absurd e (by decide)
  · exact absurd e (by decide)
  · exact absurd e (by decide)
  · exact ⟨h1, h2, h3⟩
theorem wkt_0 {q : rw_t} {u v n : Int} (h : wkt_ q u v n = 0) : 1 ≤ n ∧ n ≤ 99 := by
  unfold wkt_ at h
  split at h
  · exact absurd h (by decide)
  · split at h
    · exact absurd h (by decide)
    · omega
theorem cf_0 (r : rw_t) (x y z f : Int) : cf_ r 0 x y z f ↔ mq_ r x y z f := by simp [cf_]
theorem cf_1 (r : rw_t) (x y z f : Int) : cf_ r 1 x y z f ↔ f = wq_ r x y z := by simp [cf_]
theorem cf_2 (r : rw_t) (x y z f : Int) : cf_ r 2 x y z f ↔ f = vq_ r x y := by simp [cf_]
theorem cf_3 (r : rw_t) (x y z f : Int) : cf_ r 3 x y z f ↔ f = fq1_ x := by simp [cf_]
theorem cf_4 (r : rw_t) (x y z f : Int) : cf_ r 4 x y z f ↔ f = eq_ r x := by simp [cf_]
theorem cf_5 (r : rw_t) (x y z f : Int) : cf_ r 5 x y z f ↔ f = lq_ r x 0 := by simp [cf_]
theorem cf_6 (r : rw_t) (x y z f : Int) : cf_ r 6 x y z f ↔ f = lq_ r x 1 := by simp [cf_]
theorem cf_7 (r : rw_t) (x y z f : Int) : cf_ r 7 x y z f ↔ f = nq1_ x := by simp [cf_]
theorem cf_8 (r : rw_t) (x y z f : Int) : cf_ r 8 x y z f ↔ f = pq_ r x y z := by simp [cf_]
theorem cf_9 (r : rw_t) (x y z f : Int) : cf_ r 9 x y z f ↔ f = dq_ x := by simp [cf_]
theorem wq_0t {q : rw_t} (hW : wf_M q) (hU : uj_ q) {u v n : Int} (h : 0 = wq_ q u v n) : wkt_ q u v n = 0 := by
  have e := wq_wkt hW hU u v n
  rw [← h] at e
  split at e
  · exact absurd e (by decide)
  · split at e
    · exact absurd e (by decide)
    · exact e.symm
theorem wu_step {B : Int} {q q' : rw_t} {k x y z : Int} (h : wu_ B q) (hc : cf_ q k x y z 0) (hr : crow_ q k x y z q') : wu_ (B + 30) q' := by
  obtain ⟨hM, hN, hT, hU⟩ := h
  have w3 := hM.1
  have w4 : 0 ≤ q 4 := hT.2.2.2.1.1
  have twl : 0 ≤ tw_ q := by
    have := hN
    unfold wf_N at this
    unfold tw_
    omega
  have up : ∀ {r : rw_t} {B' : Int}, wf_M r → wf_N r → wf_T B' r → B' ≤ B + 30 → eJ_ q r → wu_ (B + 30) r := fun a b c d e => ⟨a, b, wf_T_mono c d, uj_eJ w3.2 e hU⟩
  rcases hr with ⟨rfl, rfl⟩ | ⟨rfl, hr⟩ | ⟨rfl, rfl⟩ | ⟨rfl, rfl⟩ | ⟨rfl, rfl⟩ | ⟨rfl, rfl⟩ | ⟨rfl, rfl⟩ | ⟨rfl, rfl⟩ | ⟨rfl, rfl⟩ | ⟨rfl, rfl⟩
  · have hm := mq_adr hU ((cf_0 _ _ _ _ _).mp hc)
    obtain ⟨⟨h1, h2⟩, ⟨-, h3⟩, h4⟩ := adr_0 hm
    obtain ⟨a1, a2, a3⟩ := ra_wf hM h4 h1 h2 h3
    exact ⟨a1, wf_N_e a2 hN, wf_T_mono (wf_T_e a3 hT) (by omega), uj_ra hM hU hm⟩
  · have hw := wq_0t hM hU ((cf_1 _ _ _ _ _).mp hc)
    have lz := wkt_0 hw
    obtain ⟨a1, a2, a3⟩ := wl_wf hM (by omega) _ _ hr
    have e := (wl_eq w3.2 hU _ _ _ (fun _ _ => rfl) hr hr).2
    exact up a1 (wf_N_e a2 hN) (wf_T_e a3 hT) (by omega) e
  · obtain ⟨h1, h2, h3⟩ := vq_0 ((cf_2 _ _ _ _ _).mp hc)
    obtain ⟨a1, a2, a3⟩ := rv_wf hT h1 h2 h3
    exact up (wf_M_e a2 hM) (wf_N_e a3 hN) a1 (by omega) (eJ_rv (eJ_refl q) w4)
  · have h1 := (cf_3 _ _ _ _ _).mp hc
    have lx : 0 ≤ x ∧ x ≤ 20 := by
      unfold fq1_ at h1
      split at h1 <;> omega
    obtain ⟨a1, a2, a3⟩ := f2_wf hT lx
    exact up (wf_M_e a2 hM) (wf_N_e a3 hN) a1 (by omega) (eJ_up (eJ_refl q) (by decide))
  · obtain ⟨h1, h2⟩ := eq_0 ((cf_4 _ _ _ _ _).mp hc)
    have lc := co_le hM h1.1 (by omega : x < 16)
    obtain ⟨a1, a2, a3⟩ := rs_wf hT ⟨lc.1, h2⟩
    obtain ⟨b1, b2, b3⟩ := rn_wf (m := x) (wf_M_e a2 hM) h1.1 (by omega)
    exact up b1 (wf_N_e b2 (wf_N_e a3 hN)) (wf_T_e b3 a1) (by omega) (eJ_rn (eJ_rs (eJ_refl q)))
  · have h1 := lq_0 ((cf_5 _ _ _ _ _).mp hc)
    obtain ⟨b1, b2, b3⟩ := rl_wf (m := x) (b := 1) hM h1.1 (by omega) (by decide)
    exact up b1 (wf_N_e b2 hN) (wf_T_e b3 hT) (by omega) (eJ_rl h1.1 (eJ_refl q))
  · have h1 := lq_0 ((cf_6 _ _ _ _ _).mp hc)
    obtain ⟨b1, b2, b3⟩ := rl_wf (m := x) (b := 0) hM h1.1 (by omega) (by decide)
    exact up b1 (wf_N_e b2 hN) (wf_T_e b3 hT) (by omega) (eJ_rl h1.1 (eJ_refl q))
  · have h1 := (cf_7 _ _ _ _ _).mp hc
    have lx : x = 99 ∨ x = 108 := by
      unfold nq1_ at h1
      split at h1
      · assumption
      · omega
    obtain ⟨a1, a2, a3⟩ := re_wf (r := q) lx
    exact up (wf_M_e a2 hM) a1 (wf_T_e a3 hT) (by omega) (eJ_re (eJ_refl q))
  · obtain ⟨h1, h2⟩ := pq_0 ((cf_8 _ _ _ _ _).mp hc)
    obtain ⟨a1, a2, a3⟩ := rp_wf hN h1.1 h1.2 h2
    exact up (wf_M_e a2 hM) a1 (wf_T_e a3 hT) (by omega) (eJ_rp (eJ_refl q) (by omega))
  · have h1 := (cf_9 _ _ _ _ _).mp hc
    have lx : 1 ≤ x ∧ x ≤ 30 := by
      unfold dq_ at h1
      split at h1 <;> omega
    obtain ⟨a2, a3⟩ := ps_e hT x.toNat
    have a1 := (ps_wf hT x.toNat).1
    exact up (wf_M_e a2 hM) (wf_N_e a3 hN) a1 (by omega) (eJ_ps hT _)
theorem adr_mq0 {q : rw_t} (hU : uj_ q) {x y s : Int} (h : adr_ q x y s 0) : mq_ q x y s 0 := by
  rcases h with ⟨-, e⟩ | ⟨-, -, e⟩ | ⟨-, -, -, e⟩ | ⟨h1, h2, h3, h4, -⟩
  · exact absurd e (by decide)
  · exact absurd e (by decide)
  · exact absurd e (by decide)
  · refine .inr (.inr (.inr ⟨?_, h2.2, h3, fun k k0 k1 => ?_, rfl⟩))
    · unfold pf_
      (repeat' split) <;> omega
    · exact fun q => h4 k k0 k1 ((jn_jr (hU.1 k k0 k1)).mpr q)
/-! the reference carries a command out -/
section REF
variable {g : bc_C} {d : Nat} {σ : bc_M} {q b : rw_t} {h : List rw_t} {Rr : Option bc_A → bc_M → Prop} {X : Nat → bc_M → Prop} {B : Int}
theorem su_ex {t : Int} {σ' : bc_M} (h1 : rg_ σ' q h) (h2 : nw_ σ' 220 b) (h3 : σ'.1 218 ((14 : Nat) : Int) = t) (h4 : fr_ ex_ σ σ') (h5 : fj_ ej_ σ σ') : su_ t q h b σ σ' := ⟨⟨h1, h2⟩, h3, fr_mono h4 (fun k hk => by omega), h5⟩
theorem t_X11_does {j : Int} {F : Int → Int} (hG : rg_ σ q h) (hb : nw_ σ 220 b) (hU : wu_ B q) (hB : B + 30 ≤ 1000000) (hF : σ.1 227 = F) (j0 : 0 ≤ j) (j1 : j + 3 < 120) (hl : ∀ i : Int, 0 ≤ i → i < 120 → -1 ≤ F i ∧ F i ≤ 999) (hk : 0 ≤ F j ∧ F j ≤ 9)
    (f1 : ∀ t r σ', (1 ≤ t ∧ t ≤ 4) → (∀ f, cf_ q (F j) (F (j + 1)) (F (j + 2)) (F (j + 3)) f → f ≠ 0) → su_ t q h b σ σ' → Rr (some (bc_I r)) σ')
    (f0 : ∀ q' r σ', cf_ q (F j) (F (j + 1)) (F (j + 2)) (F (j + 3)) 0 → crow_ q (F j) (F (j + 1)) (F (j + 2)) (F (j + 3)) q' → su_ 0 q' h b σ σ' → Rr (some (bc_I r)) σ') : bc_Sem g (d + 9) mX11_does [bc_R 218, bc_I j] σ Rr X := by
  obtain ⟨hM, hN, hT, hUj⟩ := hU
  have lx := hl (j + 1) (by omega) (by omega)
  have ly := hl (j + 2) (by omega) (by omega)
  have lz := hl (j + 3) (by omega) (by omega)
  subst hF
  have ix : bc_in (σ.1 227 (j + 1)) := by constructor <;> omega
  have iy : bc_in (σ.1 227 (j + 2)) := by constructor <;> omega
  have iz : bc_in (σ.1 227 (j + 3)) := by constructor <;> omega
  have w0 : 0 ≤ q 0 ∧ q 0 ≤ 1000000 := by have := hT.1; omega
  have w4 := hT.2.2.2.1
  refine e_X11_does rfl (fun K hK => ?_)
  refine hK.1 [] 90 _ _ _ _ _ ?_
  refine bc_ob_i (by omega) ?_
  refine bc_ob_i (by omega) ?_
  refine bc_ob_i (by omega) ?_
  refine bc_ob_i (by omega) ?_
  refine bc_ob_i (by constructor <;> omega) ?_
  generalize hk2 : σ.1 227 j = k at hk f1 f0 ⊢
  generalize σ.1 227 (j + 1) = x at lx ix f1 f0 ⊢
  generalize σ.1 227 (j + 2) = y at ly iy f1 f0 ⊢
  generalize σ.1 227 (j + 3) = z at lz iz f1 f0 ⊢
  refine bc_br_i (fun c => ?_) (fun c0 => ?_)
  · subst c
    refine t_X11_adds hG hb hM ix iy iz (fun t a nt s S => ?_) (fun a s S => ?_)
    · exact f1 t _ s (by have := adr_le a; omega) (fun f hf e => nt (adr_eq a (by rw [e] at hf; exact mq_adr hUj ((cf_0 _ _ _ _ _).mp hf)))) S
    · exact f0 _ _ s ((cf_0 _ _ _ _ _).mpr (adr_mq0 hUj a)) (.inl ⟨rfl, rfl⟩) S
  refine bc_br_i (fun c => ?_) (fun c1 => ?_)
  · subst c
    have le := wkt_le q x y z
    refine t_X11_walks hG hb hM hN hUj ix iy iz (fun nt s S => ?_) (fun e s r' hw S => ?_)
    · exact f1 _ _ s (by omega) (fun f hf e => nt (wq_0t hM hUj (e.symm.trans ((cf_1 _ _ _ _ _).mp hf)))) S
    · refine f0 r' _ s ((cf_1 _ _ _ _ _).mpr ?_) (.inr (.inl ⟨rfl, hw⟩)) S
      rw [wq_wkt hM hUj, e]
      rfl
  refine bc_br_i (fun c => ?_) (fun c2 => ?_)
  · subst c
    refine t_X11_vows hG hb w0 w4 ix iy (fun nt s S1 S2 S3 S4 S5 => ?_) (fun e s S1 S2 S3 S4 S5 => ?_)
    · exact f1 _ _ s (by split <;> omega) (fun f hf e => nt (((cf_2 _ _ _ _ _).mp hf).symm.trans e)) (su_ex S1 S2 S3 S4 S5)
    · exact f0 _ _ s ((cf_2 _ _ _ _ _).mpr e.symm) (.inr (.inr (.inl ⟨rfl, rfl⟩))) (su_ex S1 S2 S3 S4 S5)
  refine bc_br_i (fun c => ?_) (fun c3 => ?_)
  · subst c
    refine t_X11_forges hG hb ix (fun s S1 S2 S3 S4 S5 => ?_)
    by_cases e : 0 ≤ x ∧ x ≤ 20
    · rw [if_pos e] at S1 S3
      refine f0 _ _ s ((cf_3 _ _ _ _ _).mpr ?_) (.inr (.inr (.inr (.inl ⟨rfl, rfl⟩)))) (su_ex S1 S2 S3 S4 S5)
      unfold fq1_
      rw [if_neg (by omega)]
    · rw [if_neg e] at S1 S3
      refine f1 1 _ s (by decide) (fun f hf e2 => ?_) (su_ex S1 S2 S3 S4 S5)
      have h2 := (cf_3 _ _ _ _ _).mp hf
      unfold fq1_ at h2
      rw [if_pos (by omega)] at h2
      omega
  refine bc_br_i (fun c => ?_) (fun c4 => ?_)
  · subst c
    have le := er_le q x
    refine t_X11_repairs hG hb hM hT (by omega) ix (fun nt s S => ?_) (fun e s S => ?_)
    · refine f1 _ _ s (by omega) (fun f hf e2 => ?_) S
      have h2 := (cf_4 _ _ _ _ _).mp hf
      rw [eq_er, e2] at h2
      split at h2
      · omega
      · split at h2 <;> omega
    · refine f0 _ _ s ((cf_4 _ _ _ _ _).mpr ?_) (.inr (.inr (.inr (.inr (.inl ⟨rfl, rfl⟩))))) S
      rw [eq_er, e]
      rfl
  refine bc_br_i (fun c => ?_) (fun c5 => ?_)
  · subst c
    refine t_X11_leaves hG hb hM ix (by decide) (fun nt s S1 S2 S3 S4 S5 => ?_) (fun e s S1 S2 S3 S4 S5 => ?_)
    · exact f1 _ _ s (by split <;> omega) (fun f hf e => nt (((cf_5 _ _ _ _ _).mp hf).symm.trans e)) (su_ex S1 S2 S3 S4 S5)
    · exact f0 _ _ s ((cf_5 _ _ _ _ _).mpr e.symm) (.inr (.inr (.inr (.inr (.inr (.inl ⟨rfl, rfl⟩)))))) (su_ex S1 S2 S3 S4 S5)
  refine bc_br_i (fun c => ?_) (fun c6 => ?_)
  · subst c
    refine t_X11_leaves hG hb hM ix (by decide) (fun nt s S1 S2 S3 S4 S5 => ?_) (fun e s S1 S2 S3 S4 S5 => ?_)
    · exact f1 _ _ s (by split <;> omega) (fun f hf e => nt (((cf_6 _ _ _ _ _).mp hf).symm.trans e)) (su_ex S1 S2 S3 S4 S5)
    · exact f0 _ _ s ((cf_6 _ _ _ _ _).mpr e.symm) (.inr (.inr (.inr (.inr (.inr (.inr (.inl ⟨rfl, rfl⟩))))))) (su_ex S1 S2 S3 S4 S5)
  refine bc_br_i (fun c => ?_) (fun c7 => ?_)
  · subst c
    refine t_X11_empties hG hb ix (fun s S1 S2 S3 S4 S5 => ?_)
    by_cases e : x = 99 ∨ x = 108
    · rw [if_pos e] at S1 S3
      refine f0 _ _ s ((cf_7 _ _ _ _ _).mpr ?_) (.inr (.inr (.inr (.inr (.inr (.inr (.inr (.inl ⟨rfl, rfl⟩)))))))) (su_ex S1 S2 S3 S4 S5)
      unfold nq1_
      rw [if_pos e]
    · rw [if_neg e] at S1 S3
      refine f1 1 _ s (by decide) (fun f hf e2 => ?_) (su_ex S1 S2 S3 S4 S5)
      have h2 := (cf_7 _ _ _ _ _).mp hf
      unfold nq1_ at h2
      rw [if_neg e] at h2
      omega
  refine bc_br_i (fun c => ?_) (fun c8 => ?_)
  · subst c
    have le := put_le q x y z
    refine t_X11_puts hG hb hN ix iy iz (fun nt s S => ?_) (fun e s S => ?_)
    · refine f1 _ _ s (by omega) (fun f hf e2 => ?_) S
      have h2 := (cf_8 _ _ _ _ _).mp hf
      rw [pq_put hN, e2] at h2
      split at h2
      · omega
      · split at h2 <;> omega
    · refine f0 _ _ s ((cf_8 _ _ _ _ _).mpr ?_) (.inr (.inr (.inr (.inr (.inr (.inr (.inr (.inr (.inl ⟨rfl, rfl⟩))))))))) S
      rw [pq_put hN, e]
      rfl
  · have e9 : k = 9 := by omega
    subst e9
    refine t_X11_waits hG hb hT hB ix (fun nt s S => ?_) (fun e s S => ?_)
    · refine f1 1 _ s (by decide) (fun f hf e2 => ?_) S
      have h2 := (cf_9 _ _ _ _ _).mp hf
      unfold dq_ at h2
      rw [if_pos (by omega)] at h2
      omega
    · refine f0 _ _ s ((cf_9 _ _ _ _ _).mpr ?_) (.inr (.inr (.inr (.inr (.inr (.inr (.inr (.inr (.inr ⟨rfl, rfl⟩))))))))) S
      unfold dq_
      rw [if_neg (by omega)]
end REF
