/-! the reference: a day goes by -/
theorem vf_S (r : rw_t) (n : Nat) : vf_ r (n + 1) = vs_ (vf_ r n) n := rfl
theorem wv_f {B : Int} {r : rw_t} (hd : wd_ B r) : ∀ n : Nat, (n : Int) ≤ r 4 → wv_ B r n (vf_ r n)
  | 0, _ => wv_0 hd
  | n + 1, h => wv_s hd (by omega) (wv_f hd n (by omega))
/-- the reference's row and the kept ones so far, beside the class's row -/
def rk6_ (R P : rw_t) (kp : Int) : Prop := (∀ j : Int, j ≠ 6 → R j = P j) ∧ P 6 = R 6 + kp
theorem rk6_kept {R P : rw_t} {kp u : Int} (h : rk6_ R P kp) (hu : u ≤ P 1) : rk6_ (up_ (up_ (up_ R 1 (R 1 - u)) 9 (R 9 + u)) 7 (R 7 + 0)) (sg_ P u) (kp + 1) := by
  have a1 := h.1 1 (by decide)
  have a9 := h.1 9 (by decide)
  have a7 := h.1 7 (by decide)
  unfold sg_
  rw [if_pos hu]
  refine ⟨fun j hj => ?_, ?_⟩
  · have := h.1 j hj
    simp only [up_]
    by_cases j1 : j = 1
    · subst j1; simp; omega
    by_cases j9 : j = 9
    · subst j9; simp; omega
    by_cases j7 : j = 7
    · subst j7; simp; omega
    simp [j1, j9, j7, hj, this]
  · have := h.2
    simp only [up_]
    simp
    omega
theorem rk6_broken {R P : rw_t} {kp u : Int} (h : rk6_ R P kp) (hu : ¬ u ≤ P 1) : rk6_ (up_ (up_ (up_ R 1 (R 1 - 0)) 9 (R 9 + 0)) 7 (R 7 + 1)) (sg_ P u) (kp + 0) := by
  have a1 := h.1 1 (by decide)
  have a9 := h.1 9 (by decide)
  have a7 := h.1 7 (by decide)
  unfold sg_
  rw [if_neg hu]
  refine ⟨fun j hj => ?_, ?_⟩
  · have := h.1 j hj
    simp only [up_]
    by_cases j1 : j = 1
    · subst j1; simp; omega
    by_cases j9 : j = 9
    · subst j9; simp; omega
    by_cases j7 : j = 7
    · subst j7; simp; omega
    simp [j1, j9, j7, this]
  · have := h.2
    simp only [up_]
    simp
    omega
theorem rk6_same {R P : rw_t} {kp : Int} (h : rk6_ R P kp) : rk6_ (up_ (up_ (up_ R 1 (R 1 - 0)) 9 (R 9 + 0)) 7 (R 7 + 0)) P (kp + 0) := by
  have a1 := h.1 1 (by decide)
  have a9 := h.1 9 (by decide)
  have a7 := h.1 7 (by decide)
  refine ⟨fun j hj => ?_, ?_⟩
  · have := h.1 j hj
    simp only [up_]
    by_cases j1 : j = 1
    · subst j1; simp; omega
    by_cases j9 : j = 9
    · subst j9; simp; omega
    by_cases j7 : j = 7
    · subst j7; simp; omega
    simp [j1, j9, j7, this]
  · have := h.2
    simp only [up_]
    simp
    omega
theorem rk6_up {R P : rw_t} {kp i v w : Int} (h : rk6_ R P kp) (hi : i ≠ 6) (e : v = w) : rk6_ (up_ R i v) (up_ P i w) kp := by
  refine ⟨fun j hj => ?_, ?_⟩
  · have := h.1 j hj
    simp only [up_]
    split
    · exact e
    · exact this
  · have := h.2
    simp only [up_]
    rw [if_neg (by omega), if_neg (by omega)]
    exact this
theorem nw_wv {σ : bc_M} {c : Nat} {r : rw_t} {i v w : Int} (h : nw_ σ c r) (e : v = w) : nw_ (bc_wr σ c i v) c (up_ r i w) := e ▸ nw_wr h
theorem nw_w2 {σ : bc_M} {c : Nat} {r : rw_t} {i j v w : Int} (h : nw_ σ c r) (ei : i = j) (e : v = w) : nw_ (bc_wr σ c i v) c (up_ r j w) := e ▸ ei ▸ nw_wr h
section REF
variable {g : bc_C} {d : Nat} {σ : bc_M} {q b : rw_t} {h : List rw_t} {Rr : Option bc_A → bc_M → Prop} {X : Nat → bc_M → Prop} {B : Int}
theorem t_X11_ofVow {k j : Int} (p : Int) (hN : nw_ σ 219 q) (hk : 0 ≤ k ∧ k < 8) (hj : 0 ≤ j ∧ j ≤ 2) (e : p = 112 + j) (f : Rr (some (bc_I (q (p + 3 * k)))) σ) : bc_Sem g (d + 1) mX11_ofVow [bc_R 218, bc_I k, bc_I j] σ Rr X := by
  refine e_X11_ofVow rfl (fun K hK => ?_)
  refine hK.1 [] 60 _ _ _ _ _ ?_
  refine bc_ob_i (by omega) ?_
  exact rt_ f ((hN _ (by omega) (by omega)).trans (by rw [e]; congr 1; omega))
theorem t_X11_passes (hN : nw_ σ 219 q) (hT : wf_T B q) (hB : B ≤ 1000000) (f : ∀ σ', nw_ σ' 219 (pd_ q) → fr_ (fun k => k = 219) σ σ' → Rr (some (bc_I (pd_ q 6 - q 6))) σ') : bc_Sem g (d + 2) mX11_passes [bc_R 218] σ Rr X := by
  have hd := pi_wd hT
  have hd0 := hd
  obtain ⟨T0, T1, T2, T4, T5, T6, T7, Ts, T8, T9, T10, Te, Tv, Tw, -⟩ := hd0
  have p4 : pi_ q 4 = q 4 := rfl
  have p6 : pi_ q 6 = q 6 := rfl
  rw [p4] at T4
  refine e_X11_passes rfl (fun K hK => ?_)
  have D : ∀ (i : Int) (n : Nat) (s : bc_M) (R P : rw_t) (S kp x u : Int), (n : Int) = i → i < q 4 → nw_ s 219 R → fr_ (fun k => k = 219) σ s → R 6 = q 6 → rk6_ R P kp → 0 ≤ kp ∧ kp ≤ i → wv_ (B + 1) (pi_ q) n (P, S) → u = P (114 + 3 * i) → (x = if P (113 + 3 * i) ≤ P 0 ∧ u ≤ P 1 then 1 else 0) → (∀ (s' : bc_M) (R' : rw_t) (kp' : Int) (z : bc_LV), nw_ s' 219 R' → fr_ (fun k => k = 219) σ s' → R' 6 = q 6 → rk6_ R' (vs_ (P, S) n).1 kp' → 0 ≤ kp' ∧ kp' ≤ i + 1 → K 55 ([(0, bc_R 218), (1, bc_I kp'), (2, bc_I (vs_ (P, S) n).2), (3, bc_I (q 4)), (4, bc_I (i + 1))] ++ z) [] s' 0) → K 102 [(0, bc_R 218), (1, bc_I kp), (2, bc_I S), (3, bc_I (q 4)), (4, bc_I i), (5, bc_I u)] [bc_I x] s 0 := by
    intro i n s R P S kp x u en hi hNs F h6 hr hkp W hu hx go
    subst hu
    obtain ⟨w1, w2, w3, w4, w5, w6, w7, w8, w9, w10, -⟩ := id W
    obtain ⟨x1, x2, x3⟩ := w9 i (by omega) (by omega)
    obtain ⟨y1, y2, y3⟩ := w10 i (by omega) (by omega)
    have y4 := (Tw i (by omega) (by rw [p4]; omega)).1.1
    simp only at x1 x2 x3 y1 y2 y3
    have b2 := w2.1
    have b3 := w3
    simp only at b2 b3
    have a0 := hr.1 0 (by decide)
    have a1 := hr.1 1 (by decide)
    have ad := hr.1 (113 + 3 * i) (by omega)
    have au := hr.1 (114 + 3 * i) (by omega)
    have v1 := hNs 1 (by decide) (by decide)
    have i8 : 0 ≤ i ∧ i < 8 := by omega
    have ev : vs_ (P, S) n = if P (113 + 3 * i) ≤ P 0 then (sg_ P (P (114 + 3 * i)), S) else (up_ (up_ (up_ P (112 + 3 * S) (P (112 + 3 * i))) (113 + 3 * S) (P (113 + 3 * i))) (114 + 3 * S) (P (114 + 3 * i)), S + 1) := by
      unfold vs_
      rw [en]
    rw [ev] at go
    by_cases k1 : P (113 + 3 * i) ≤ P 0
    · rw [if_pos k1] at go
      by_cases k2 : P (114 + 3 * i) ≤ P 1
      · rw [if_pos ⟨k1, k2⟩] at hx
        subst hx
        have N1 : nw_ (bc_wr s 219 1 (s.1 219 1 - P (114 + 3 * i))) 219 (up_ R 1 (R 1 - P (114 + 3 * i))) := nw_wv hNs (by rw [v1])
        have a9 : (bc_wr s 219 1 (s.1 219 1 - P (114 + 3 * i))).1 219 9 = R 9 := (N1 9 (by decide) (by decide)).trans (up_ne (by decide))
        have N2 : nw_ (bc_wr (bc_wr s 219 1 (s.1 219 1 - P (114 + 3 * i))) 219 9 ((bc_wr s 219 1 (s.1 219 1 - P (114 + 3 * i))).1 219 9 + P (114 + 3 * i))) 219 (up_ (up_ R 1 (R 1 - P (114 + 3 * i))) 9 (R 9 + P (114 + 3 * i))) := nw_wv N1 (by rw [a9])
        have a7 : (bc_wr (bc_wr s 219 1 (s.1 219 1 - P (114 + 3 * i))) 219 9 ((bc_wr s 219 1 (s.1 219 1 - P (114 + 3 * i))).1 219 9 + P (114 + 3 * i))).1 219 7 = R 7 := (N2 7 (by decide) (by decide)).trans ((up_ne (by decide)).trans (up_ne (by decide)))
        have c0 : (bc_wr (bc_wr s 219 1 (s.1 219 1 - P (114 + 3 * i))) 219 9 ((bc_wr s 219 1 (s.1 219 1 - P (114 + 3 * i))).1 219 9 + P (114 + 3 * i))).1 219 0 = R 0 := (N2 0 (by decide) (by decide)).trans ((up_ne (by decide)).trans (up_ne (by decide)))
        have cd : (up_ (up_ R 1 (R 1 - P (114 + 3 * i))) 9 (R 9 + P (114 + 3 * i))) (113 + 3 * i) = R (113 + 3 * i) := (up_ne (by omega)).trans (up_ne (by omega))
        have N3 : nw_ (bc_wr (bc_wr (bc_wr s 219 1 (s.1 219 1 - P (114 + 3 * i))) 219 9 ((bc_wr s 219 1 (s.1 219 1 - P (114 + 3 * i))).1 219 9 + P (114 + 3 * i))) 219 7 ((bc_wr (bc_wr s 219 1 (s.1 219 1 - P (114 + 3 * i))) 219 9 ((bc_wr s 219 1 (s.1 219 1 - P (114 + 3 * i))).1 219 9 + P (114 + 3 * i))).1 219 7 + 0)) 219 (up_ (up_ (up_ R 1 (R 1 - P (114 + 3 * i))) 9 (R 9 + P (114 + 3 * i))) 7 (R 7 + 0)) := nw_wv N2 (by rw [a7])
        have d0 : (bc_wr (bc_wr (bc_wr s 219 1 (s.1 219 1 - P (114 + 3 * i))) 219 9 ((bc_wr s 219 1 (s.1 219 1 - P (114 + 3 * i))).1 219 9 + P (114 + 3 * i))) 219 7 ((bc_wr (bc_wr s 219 1 (s.1 219 1 - P (114 + 3 * i))) 219 9 ((bc_wr s 219 1 (s.1 219 1 - P (114 + 3 * i))).1 219 9 + P (114 + 3 * i))).1 219 7 + 0)).1 219 0 = R 0 := (N3 0 (by decide) (by decide)).trans ((up_ne (by decide)).trans ((up_ne (by decide)).trans (up_ne (by decide))))
        have dd : (up_ (up_ (up_ R 1 (R 1 - P (114 + 3 * i))) 9 (R 9 + P (114 + 3 * i))) 7 (R 7 + 0)) (113 + 3 * i) = R (113 + 3 * i) := (up_ne (by omega)).trans ((up_ne (by omega)).trans (up_ne (by omega)))
        have F3 : fr_ (fun k => k = 219) σ (bc_wr (bc_wr (bc_wr s 219 1 (s.1 219 1 - P (114 + 3 * i))) 219 9 ((bc_wr s 219 1 (s.1 219 1 - P (114 + 3 * i))).1 219 9 + P (114 + 3 * i))) 219 7 ((bc_wr (bc_wr s 219 1 (s.1 219 1 - P (114 + 3 * i))) 219 9 ((bc_wr s 219 1 (s.1 219 1 - P (114 + 3 * i))).1 219 9 + P (114 + 3 * i))).1 219 7 + 0)) := fr_trans F (fr_trans (fr_wr rfl) (fr_trans (fr_wr rfl) (fr_wr rfl)))
        have q6 : (up_ (up_ (up_ R 1 (R 1 - P (114 + 3 * i))) 9 (R 9 + P (114 + 3 * i))) 7 (R 7 + 0)) 6 = q 6 := (up_ne (by decide)).trans ((up_ne (by decide)).trans ((up_ne (by decide)).trans h6))
        have G := go _ _ (kp + 1) [(5, bc_I (P (114 + 3 * i))), (6, bc_I 1)] N3 F3 q6 (rk6_kept hr k2) (by omega)
        refine hK.1 [55] 200 _ _ _ _ _ ?_
        refine bc_ob_i (by decide) ?_
        refine bc_ob_i (by decide) ?_
        refine bc_br_i (fun c => absurd c (by decide)) (fun _ => ?_)
        refine bc_ob_i (by decide) ?_
        refine bc_ob_i (by decide) ?_
        refine bc_ob_i (by decide) ?_
        refine bc_br_i (fun c => absurd c (by decide)) (fun _ => ?_)
        refine bc_ob_i (by decide) ?_
        refine bc_ob_i (by decide) ?_
        refine bc_br_i (fun c => absurd c (by decide)) (fun _ => ?_)
        refine bc_ob_i (by decide) ?_
        refine t_X11_ofVow 113 N2 i8 (by decide) rfl ?_
        rw [cd]
        refine bc_ob_i (by decide) ?_
        refine bc_ob_i (by rw [c0]; constructor <;> constructor <;> omega) ?_
        refine bc_br_i (fun _ => ?_) (fun c => absurd (by rw [c0]; omega) c)
        refine bc_ob_i (by decide) ?_
        refine bc_br_i (fun c => absurd c (by decide)) (fun _ => ?_)
        refine bc_ob_i (by decide) ?_
        refine t_X11_ofVow 113 N3 i8 (by decide) rfl ?_
        rw [dd]
        refine bc_ob_i (by decide) ?_
        refine bc_ob_i (by rw [d0]; constructor <;> constructor <;> omega) ?_
        refine bc_br_i (fun _ => ?_) (fun c => absurd (by rw [d0]; omega) c)
        exact G
      · rw [if_neg (fun c => k2 c.2)] at hx
        subst hx
        have N1 : nw_ (bc_wr s 219 1 (s.1 219 1 - 0)) 219 (up_ R 1 (R 1 - 0)) := nw_wv hNs (by rw [v1])
        have a9 : (bc_wr s 219 1 (s.1 219 1 - 0)).1 219 9 = R 9 := (N1 9 (by decide) (by decide)).trans (up_ne (by decide))
        have N2 : nw_ (bc_wr (bc_wr s 219 1 (s.1 219 1 - 0)) 219 9 ((bc_wr s 219 1 (s.1 219 1 - 0)).1 219 9 + 0)) 219 (up_ (up_ R 1 (R 1 - 0)) 9 (R 9 + 0)) := nw_wv N1 (by rw [a9])
        have a7 : (bc_wr (bc_wr s 219 1 (s.1 219 1 - 0)) 219 9 ((bc_wr s 219 1 (s.1 219 1 - 0)).1 219 9 + 0)).1 219 7 = R 7 := (N2 7 (by decide) (by decide)).trans ((up_ne (by decide)).trans (up_ne (by decide)))
        have c0 : (bc_wr (bc_wr s 219 1 (s.1 219 1 - 0)) 219 9 ((bc_wr s 219 1 (s.1 219 1 - 0)).1 219 9 + 0)).1 219 0 = R 0 := (N2 0 (by decide) (by decide)).trans ((up_ne (by decide)).trans (up_ne (by decide)))
        have cd : (up_ (up_ R 1 (R 1 - 0)) 9 (R 9 + 0)) (113 + 3 * i) = R (113 + 3 * i) := (up_ne (by omega)).trans (up_ne (by omega))
        have N3 : nw_ (bc_wr (bc_wr (bc_wr s 219 1 (s.1 219 1 - 0)) 219 9 ((bc_wr s 219 1 (s.1 219 1 - 0)).1 219 9 + 0)) 219 7 ((bc_wr (bc_wr s 219 1 (s.1 219 1 - 0)) 219 9 ((bc_wr s 219 1 (s.1 219 1 - 0)).1 219 9 + 0)).1 219 7 + 1)) 219 (up_ (up_ (up_ R 1 (R 1 - 0)) 9 (R 9 + 0)) 7 (R 7 + 1)) := nw_wv N2 (by rw [a7])
        have d0 : (bc_wr (bc_wr (bc_wr s 219 1 (s.1 219 1 - 0)) 219 9 ((bc_wr s 219 1 (s.1 219 1 - 0)).1 219 9 + 0)) 219 7 ((bc_wr (bc_wr s 219 1 (s.1 219 1 - 0)) 219 9 ((bc_wr s 219 1 (s.1 219 1 - 0)).1 219 9 + 0)).1 219 7 + 1)).1 219 0 = R 0 := (N3 0 (by decide) (by decide)).trans ((up_ne (by decide)).trans ((up_ne (by decide)).trans (up_ne (by decide))))
        have dd : (up_ (up_ (up_ R 1 (R 1 - 0)) 9 (R 9 + 0)) 7 (R 7 + 1)) (113 + 3 * i) = R (113 + 3 * i) := (up_ne (by omega)).trans ((up_ne (by omega)).trans (up_ne (by omega)))
        have F3 : fr_ (fun k => k = 219) σ (bc_wr (bc_wr (bc_wr s 219 1 (s.1 219 1 - 0)) 219 9 ((bc_wr s 219 1 (s.1 219 1 - 0)).1 219 9 + 0)) 219 7 ((bc_wr (bc_wr s 219 1 (s.1 219 1 - 0)) 219 9 ((bc_wr s 219 1 (s.1 219 1 - 0)).1 219 9 + 0)).1 219 7 + 1)) := fr_trans F (fr_trans (fr_wr rfl) (fr_trans (fr_wr rfl) (fr_wr rfl)))
        have q6 : (up_ (up_ (up_ R 1 (R 1 - 0)) 9 (R 9 + 0)) 7 (R 7 + 1)) 6 = q 6 := (up_ne (by decide)).trans ((up_ne (by decide)).trans ((up_ne (by decide)).trans h6))
        have G := go _ _ (kp + 0) [(5, bc_I (P (114 + 3 * i))), (6, bc_I 0)] N3 F3 q6 (rk6_broken hr k2) (by omega)
        refine hK.1 [55] 200 _ _ _ _ _ ?_
        refine bc_ob_i (by decide) ?_
        refine bc_ob_i (by decide) ?_
        refine bc_br_i (fun _ => ?_) (fun c => absurd rfl c)
        refine bc_ob_i (by decide) ?_
        refine bc_ob_i (by decide) ?_
        refine bc_ob_i (by decide) ?_
        refine bc_br_i (fun _ => ?_) (fun c => absurd rfl c)
        refine bc_ob_i (by decide) ?_
        refine bc_ob_i (by decide) ?_
        refine bc_br_i (fun _ => ?_) (fun c => absurd rfl c)
        refine bc_ob_i (by decide) ?_
        refine t_X11_ofVow 113 N2 i8 (by decide) rfl ?_
        rw [cd]
        refine bc_ob_i (by decide) ?_
        refine bc_ob_i (by rw [c0]; constructor <;> constructor <;> omega) ?_
        refine bc_br_i (fun _ => ?_) (fun c => absurd (by rw [c0]; omega) c)
        refine bc_ob_i (by decide) ?_
        refine bc_br_i (fun _ => ?_) (fun c => absurd rfl c)
        refine bc_ob_i (by decide) ?_
        refine t_X11_ofVow 113 N3 i8 (by decide) rfl ?_
        rw [dd]
        refine bc_ob_i (by decide) ?_
        refine bc_ob_i (by rw [d0]; constructor <;> constructor <;> omega) ?_
        refine bc_br_i (fun _ => ?_) (fun c => absurd (by rw [d0]; omega) c)
        exact G
    · rw [if_neg k1] at go
      rw [if_neg (fun c => k1 c.1)] at hx
      subst hx
      have N1 : nw_ (bc_wr s 219 1 (s.1 219 1 - 0)) 219 (up_ R 1 (R 1 - 0)) := nw_wv hNs (by rw [v1])
      have a9 : (bc_wr s 219 1 (s.1 219 1 - 0)).1 219 9 = R 9 := (N1 9 (by decide) (by decide)).trans (up_ne (by decide))
      have N2 : nw_ (bc_wr (bc_wr s 219 1 (s.1 219 1 - 0)) 219 9 ((bc_wr s 219 1 (s.1 219 1 - 0)).1 219 9 + 0)) 219 (up_ (up_ R 1 (R 1 - 0)) 9 (R 9 + 0)) := nw_wv N1 (by rw [a9])
      have a7 : (bc_wr (bc_wr s 219 1 (s.1 219 1 - 0)) 219 9 ((bc_wr s 219 1 (s.1 219 1 - 0)).1 219 9 + 0)).1 219 7 = R 7 := (N2 7 (by decide) (by decide)).trans ((up_ne (by decide)).trans (up_ne (by decide)))
      have c0 : (bc_wr (bc_wr s 219 1 (s.1 219 1 - 0)) 219 9 ((bc_wr s 219 1 (s.1 219 1 - 0)).1 219 9 + 0)).1 219 0 = R 0 := (N2 0 (by decide) (by decide)).trans ((up_ne (by decide)).trans (up_ne (by decide)))
      have cd : (up_ (up_ R 1 (R 1 - 0)) 9 (R 9 + 0)) (113 + 3 * i) = R (113 + 3 * i) := (up_ne (by omega)).trans (up_ne (by omega))
      have N3 : nw_ (bc_wr (bc_wr (bc_wr s 219 1 (s.1 219 1 - 0)) 219 9 ((bc_wr s 219 1 (s.1 219 1 - 0)).1 219 9 + 0)) 219 7 ((bc_wr (bc_wr s 219 1 (s.1 219 1 - 0)) 219 9 ((bc_wr s 219 1 (s.1 219 1 - 0)).1 219 9 + 0)).1 219 7 + 0)) 219 (up_ (up_ (up_ R 1 (R 1 - 0)) 9 (R 9 + 0)) 7 (R 7 + 0)) := nw_wv N2 (by rw [a7])
      have d0 : (bc_wr (bc_wr (bc_wr s 219 1 (s.1 219 1 - 0)) 219 9 ((bc_wr s 219 1 (s.1 219 1 - 0)).1 219 9 + 0)) 219 7 ((bc_wr (bc_wr s 219 1 (s.1 219 1 - 0)) 219 9 ((bc_wr s 219 1 (s.1 219 1 - 0)).1 219 9 + 0)).1 219 7 + 0)).1 219 0 = R 0 := (N3 0 (by decide) (by decide)).trans ((up_ne (by decide)).trans ((up_ne (by decide)).trans (up_ne (by decide))))
      have dd : (up_ (up_ (up_ R 1 (R 1 - 0)) 9 (R 9 + 0)) 7 (R 7 + 0)) (113 + 3 * i) = R (113 + 3 * i) := (up_ne (by omega)).trans ((up_ne (by omega)).trans (up_ne (by omega)))
      have F3 : fr_ (fun k => k = 219) σ (bc_wr (bc_wr (bc_wr s 219 1 (s.1 219 1 - 0)) 219 9 ((bc_wr s 219 1 (s.1 219 1 - 0)).1 219 9 + 0)) 219 7 ((bc_wr (bc_wr s 219 1 (s.1 219 1 - 0)) 219 9 ((bc_wr s 219 1 (s.1 219 1 - 0)).1 219 9 + 0)).1 219 7 + 0)) := fr_trans F (fr_trans (fr_wr rfl) (fr_trans (fr_wr rfl) (fr_wr rfl)))
      have q6 : (up_ (up_ (up_ R 1 (R 1 - 0)) 9 (R 9 + 0)) 7 (R 7 + 0)) 6 = q 6 := (up_ne (by decide)).trans ((up_ne (by decide)).trans ((up_ne (by decide)).trans h6))
      refine hK.1 [55] 200 _ _ _ _ _ ?_
      refine bc_ob_i (by decide) ?_
      refine bc_ob_i (by decide) ?_
      refine bc_br_i (fun _ => ?_) (fun c => absurd rfl c)
      refine bc_ob_i (by decide) ?_
      refine bc_ob_i (by decide) ?_
      refine bc_ob_i (by decide) ?_
      refine bc_br_i (fun _ => ?_) (fun c => absurd rfl c)
      refine bc_ob_i (by decide) ?_
      refine bc_ob_i (by decide) ?_
      refine bc_br_i (fun _ => ?_) (fun c => absurd rfl c)
      refine bc_ob_i (by decide) ?_
      refine t_X11_ofVow 113 N2 i8 (by decide) rfl ?_
      rw [cd]
      refine bc_ob_i (by decide) ?_
      refine bc_ob_i (by rw [c0]; constructor <;> constructor <;> omega) ?_
      refine bc_br_i (fun c => absurd c (by rw [c0]; omega)) (fun _ => ?_)
      refine bc_ob_i (by decide) ?_
      refine t_X11_ofVow 113 N3 i8 (by decide) rfl ?_
      rw [dd]
      refine bc_ob_i (by decide) ?_
      refine bc_ob_i (by rw [d0]; constructor <;> constructor <;> omega) ?_
      refine bc_br_i (fun c => absurd c (by rw [d0]; omega)) (fun _ => ?_)
      have a2 := hr.1 (112 + 3 * i) (by omega)
      have u3 : ∀ j : Int, 112 ≤ j → (up_ (up_ (up_ R 1 (R 1 - 0)) 9 (R 9 + 0)) 7 (R 7 + 0)) j = R j := fun j hj => (up_ne (by omega)).trans ((up_ne (by omega)).trans (up_ne (by omega)))
      have e0 : ((up_ (up_ (up_ R 1 (R 1 - 0)) 9 (R 9 + 0)) 7 (R 7 + 0)) (112 + 3 * i)) = P (112 + 3 * i) := (u3 _ (by omega)).trans a2
      have N4 : nw_ (bc_wr (bc_wr (bc_wr (bc_wr s 219 1 (s.1 219 1 - 0)) 219 9 ((bc_wr s 219 1 (s.1 219 1 - 0)).1 219 9 + 0)) 219 7 ((bc_wr (bc_wr s 219 1 (s.1 219 1 - 0)) 219 9 ((bc_wr s 219 1 (s.1 219 1 - 0)).1 219 9 + 0)).1 219 7 + 0)) 219 (112 + 3 * S + 0) ((up_ (up_ (up_ R 1 (R 1 - 0)) 9 (R 9 + 0)) 7 (R 7 + 0)) (112 + 3 * i))) 219 (up_ (up_ (up_ (up_ R 1 (R 1 - 0)) 9 (R 9 + 0)) 7 (R 7 + 0)) (112 + 3 * S) (P (112 + 3 * i))) := nw_w2 N3 (by omega) e0
      have e1 : ((up_ (up_ (up_ (up_ R 1 (R 1 - 0)) 9 (R 9 + 0)) 7 (R 7 + 0)) (112 + 3 * S) (P (112 + 3 * i))) (113 + 3 * i)) = P (113 + 3 * i) := (up_ne (by omega)).trans ((u3 _ (by omega)).trans ad)
      have N5 : nw_ (bc_wr (bc_wr (bc_wr (bc_wr (bc_wr s 219 1 (s.1 219 1 - 0)) 219 9 ((bc_wr s 219 1 (s.1 219 1 - 0)).1 219 9 + 0)) 219 7 ((bc_wr (bc_wr s 219 1 (s.1 219 1 - 0)) 219 9 ((bc_wr s 219 1 (s.1 219 1 - 0)).1 219 9 + 0)).1 219 7 + 0)) 219 (112 + 3 * S + 0) ((up_ (up_ (up_ R 1 (R 1 - 0)) 9 (R 9 + 0)) 7 (R 7 + 0)) (112 + 3 * i))) 219 (112 + 3 * S + 1) ((up_ (up_ (up_ (up_ R 1 (R 1 - 0)) 9 (R 9 + 0)) 7 (R 7 + 0)) (112 + 3 * S) (P (112 + 3 * i))) (113 + 3 * i))) 219 (up_ (up_ (up_ (up_ (up_ R 1 (R 1 - 0)) 9 (R 9 + 0)) 7 (R 7 + 0)) (112 + 3 * S) (P (112 + 3 * i))) (113 + 3 * S) (P (113 + 3 * i))) := nw_w2 N4 (by omega) e1
      have e2 : ((up_ (up_ (up_ (up_ (up_ R 1 (R 1 - 0)) 9 (R 9 + 0)) 7 (R 7 + 0)) (112 + 3 * S) (P (112 + 3 * i))) (113 + 3 * S) (P (113 + 3 * i))) (114 + 3 * i)) = P (114 + 3 * i) := (up_ne (by omega)).trans ((up_ne (by omega)).trans ((u3 _ (by omega)).trans au))
      have N6 : nw_ (bc_wr (bc_wr (bc_wr (bc_wr (bc_wr (bc_wr s 219 1 (s.1 219 1 - 0)) 219 9 ((bc_wr s 219 1 (s.1 219 1 - 0)).1 219 9 + 0)) 219 7 ((bc_wr (bc_wr s 219 1 (s.1 219 1 - 0)) 219 9 ((bc_wr s 219 1 (s.1 219 1 - 0)).1 219 9 + 0)).1 219 7 + 0)) 219 (112 + 3 * S + 0) ((up_ (up_ (up_ R 1 (R 1 - 0)) 9 (R 9 + 0)) 7 (R 7 + 0)) (112 + 3 * i))) 219 (112 + 3 * S + 1) ((up_ (up_ (up_ (up_ R 1 (R 1 - 0)) 9 (R 9 + 0)) 7 (R 7 + 0)) (112 + 3 * S) (P (112 + 3 * i))) (113 + 3 * i))) 219 (112 + 3 * S + 2) ((up_ (up_ (up_ (up_ (up_ R 1 (R 1 - 0)) 9 (R 9 + 0)) 7 (R 7 + 0)) (112 + 3 * S) (P (112 + 3 * i))) (113 + 3 * S) (P (113 + 3 * i))) (114 + 3 * i))) 219 (up_ (up_ (up_ (up_ (up_ (up_ R 1 (R 1 - 0)) 9 (R 9 + 0)) 7 (R 7 + 0)) (112 + 3 * S) (P (112 + 3 * i))) (113 + 3 * S) (P (113 + 3 * i))) (114 + 3 * S) (P (114 + 3 * i))) := nw_w2 N5 (by omega) e2
      have F6 : fr_ (fun k => k = 219) σ (bc_wr (bc_wr (bc_wr (bc_wr (bc_wr (bc_wr s 219 1 (s.1 219 1 - 0)) 219 9 ((bc_wr s 219 1 (s.1 219 1 - 0)).1 219 9 + 0)) 219 7 ((bc_wr (bc_wr s 219 1 (s.1 219 1 - 0)) 219 9 ((bc_wr s 219 1 (s.1 219 1 - 0)).1 219 9 + 0)).1 219 7 + 0)) 219 (112 + 3 * S + 0) ((up_ (up_ (up_ R 1 (R 1 - 0)) 9 (R 9 + 0)) 7 (R 7 + 0)) (112 + 3 * i))) 219 (112 + 3 * S + 1) ((up_ (up_ (up_ (up_ R 1 (R 1 - 0)) 9 (R 9 + 0)) 7 (R 7 + 0)) (112 + 3 * S) (P (112 + 3 * i))) (113 + 3 * i))) 219 (112 + 3 * S + 2) ((up_ (up_ (up_ (up_ (up_ R 1 (R 1 - 0)) 9 (R 9 + 0)) 7 (R 7 + 0)) (112 + 3 * S) (P (112 + 3 * i))) (113 + 3 * S) (P (113 + 3 * i))) (114 + 3 * i))) := fr_trans F3 (fr_trans (fr_wr rfl) (fr_trans (fr_wr rfl) (fr_wr rfl)))
      have z6 : (up_ (up_ (up_ (up_ (up_ (up_ R 1 (R 1 - 0)) 9 (R 9 + 0)) 7 (R 7 + 0)) (112 + 3 * S) (P (112 + 3 * i))) (113 + 3 * S) (P (113 + 3 * i))) (114 + 3 * S) (P (114 + 3 * i))) 6 = q 6 := (up_ne (by omega)).trans ((up_ne (by omega)).trans ((up_ne (by omega)).trans q6))
      have G := go _ _ (kp + 0) [(5, bc_I (P (114 + 3 * i))), (6, bc_I 0), (7, bc_I 3)] N6 F6 z6 (rk6_up (rk6_up (rk6_up (rk6_same hr) (by omega) rfl) (by omega) rfl) (by omega) rfl) (by omega)
      refine bc_ob_i (by decide) ?_
      refine bc_br_i (fun _ => ?_) (fun c => absurd (by decide) c)
      refine t_X11_ofVow 112 N3 i8 (by decide) rfl ?_
      refine bc_ob_i (by omega) ?_
      refine bc_ob_i (by decide) ?_
      refine bc_br_i (fun _ => ?_) (fun c => absurd (by decide) c)
      refine t_X11_ofVow 113 N4 i8 (by decide) rfl ?_
      refine bc_ob_i (by omega) ?_
      refine bc_ob_i (by decide) ?_
      refine bc_br_i (fun _ => ?_) (fun c => absurd (by decide) c)
      refine t_X11_ofVow 114 N5 i8 (by decide) rfl ?_
      refine bc_ob_i (by omega) ?_
      refine bc_ob_i (by decide) ?_
      refine bc_br_i (fun c => absurd c (by decide)) (fun _ => ?_)
      exact G
  have L : ∀ i : Int, ∀ (s : bc_M) (R : rw_t) (kp : Int) (z : bc_LV), 0 ≤ i → i ≤ q 4 → nw_ s 219 R → fr_ (fun k => k = 219) σ s → R 6 = q 6 → rk6_ R (vf_ (pi_ q) i.toNat).1 kp → 0 ≤ kp ∧ kp ≤ i → K 55 ([(0, bc_R 218), (1, bc_I kp), (2, bc_I (vf_ (pi_ q) i.toNat).2), (3, bc_I (q 4)), (4, bc_I i)] ++ z) [] s 0 := by
    refine up_ind (q 4) (fun i hi s R kp z i0 i1 hNs F h6 hr hkp => ?_) (fun i hi ih s R kp z i0 i1 hNs F h6 hr hkp => ?_)
    · have ei : i = q 4 := by omega
      subst ei
      have W := wv_f hd (q 4).toNat (by rw [p4]; omega)
      have e0 : vd_ (pi_ q) = up_ (vf_ (pi_ q) (q 4).toNat).1 4 (vf_ (pi_ q) (q 4).toNat).2 := rfl
      generalize vf_ (pi_ q) (q 4).toNat = p at hr W e0 ⊢
      obtain ⟨P, S⟩ := p
      have hr : rk6_ R P kp := hr
      have N1 := nw_wr (i := 4) (v := S) hNs
      have a6 : (bc_wr s 219 4 S).1 219 6 = q 6 := by rw [N1 6 (by decide) (by decide), up_ne (by decide)]; exact h6
      have N2 := nw_wr (i := 6) (v := (bc_wr s 219 4 S).1 219 6 + kp) N1
      rw [a6] at N2
      have r6 := hr.2
      have er : up_ (up_ R 4 S) 6 (q 6 + kp) = pd_ q := by
        show _ = vd_ (pi_ q)
        rw [e0]
        funext j
        by_cases j6 : j = 6
        · subst j6
          rw [up_at, up_ne (by decide)]
          show q 6 + kp = P 6
          omega
        · rw [up_ne j6]
          simp only [up_]
          split
          · rfl
          · exact hr.1 j j6
      rw [er] at N2
      have k6 : pd_ q 6 - q 6 = kp := by
        rw [← er, up_at]
        omega
      have fin := f _ N2 (fr_trans F (fr_trans (fr_wr rfl) (fr_wr rfl)))
      rw [k6] at fin
      refine hK.2 _ _ [(0, bc_R 218), (1, bc_I kp), (2, bc_I S), (3, bc_I (q 4)), (4, bc_I (q 4))] _ _ _ (ls_ _ _) ?_
      refine hK.1 [55] 60 _ _ _ _ _ ?_
      refine bc_ob_i (by constructor <;> constructor <;> omega) ?_
      refine bc_br_i (fun c => absurd c (by omega)) (fun _ => ?_)
      refine bc_ob_i (by decide) ?_
      refine bc_ob_i (by decide) ?_
      refine bc_ob_i (by decide) ?_
      rw [← a6] at fin
      exact fin
    · have en : ((i.toNat : Nat) : Int) = i := by omega
      have W := wv_f hd i.toNat (by rw [p4]; omega)
      have e0 : vf_ (pi_ q) (i + 1).toNat = vs_ (vf_ (pi_ q) i.toNat) i.toNat := by
        rw [show (i + 1).toNat = i.toNat + 1 by omega]
        rfl
      have ih' : ∀ (s' : bc_M) (R' : rw_t) (kp' : Int) (z : bc_LV), nw_ s' 219 R' → fr_ (fun k => k = 219) σ s' → R' 6 = q 6 → rk6_ R' (vs_ (vf_ (pi_ q) i.toNat) i.toNat).1 kp' → 0 ≤ kp' ∧ kp' ≤ i + 1 → K 55 ([(0, bc_R 218), (1, bc_I kp'), (2, bc_I (vs_ (vf_ (pi_ q) i.toNat) i.toNat).2), (3, bc_I (q 4)), (4, bc_I (i + 1))] ++ z) [] s' 0 := by
        intro s' R' kp' z a1 a2 a3 a4 a5
        rw [← e0] at a4 ⊢
        exact ih s' R' kp' z (by omega) (by omega) a1 a2 a3 a4 a5
      generalize hp : vf_ (pi_ q) i.toNat = p at hr W ih' ⊢
      obtain ⟨P, S⟩ := p
      have hr : rk6_ R P kp := hr
      obtain ⟨w1, w2, w3, w4, w5, w6, w7, w8, w9, w10, -⟩ := id W
      obtain ⟨x1, x2, x3⟩ := w9 i i0 (by omega)
      obtain ⟨y1, y2, y3⟩ := w10 i (by omega) (by omega)
      have y4 := (Tw i i0 (by rw [p4]; omega)).1.1
      have a0 := hr.1 0 (by decide)
      have a1 := hr.1 1 (by decide)
      have ad := hr.1 (113 + 3 * i) (by omega)
      have au := hr.1 (114 + 3 * i) (by omega)
      have v0 := hNs 0 (by decide) (by decide)
      have v1 := hNs 1 (by decide) (by decide)
      have b2 := w2.1
      have b3 := w3
      refine hK.2 _ _ [(0, bc_R 218), (1, bc_I kp), (2, bc_I S), (3, bc_I (q 4)), (4, bc_I i)] _ _ _ (ls_ _ _) ?_
      refine hK.1 [55, 102] 60 _ _ _ _ _ ?_
      refine bc_ob_i (by constructor <;> constructor <;> omega) ?_
      refine bc_br_i (fun _ => ?_) (fun c => absurd c (by omega))
      refine t_X11_ofVow 114 hNs (by omega) (by decide) rfl ?_
      refine t_X11_ofVow 113 hNs (by omega) (by decide) rfl ?_
      refine bc_ob_i (by decide) ?_
      simp only at x1 x2 x3 y1 y2 y3 b2 b3
      refine bc_ob_i (by constructor <;> constructor <;> omega) ?_
      refine bc_br_i (fun c => ?_) (fun c => ?_)
      · refine bc_ob_i (by decide) ?_
        refine bc_ob_i (by constructor <;> constructor <;> omega) ?_
        refine bc_br_i (fun c2 => ?_) (fun c2 => ?_)
        · exact D i i.toNat s R P S kp _ _ en hi hNs F h6 hr hkp W au (by first | exact (if_pos (by omega)).symm | exact (if_neg (by omega)).symm) ih'
        · exact D i i.toNat s R P S kp _ _ en hi hNs F h6 hr hkp W au (by first | exact (if_pos (by omega)).symm | exact (if_neg (by omega)).symm) ih'
      · exact D i i.toNat s R P S kp _ _ en hi hNs F h6 hr hkp W au (by first | exact (if_pos (by omega)).symm | exact (if_neg (by omega)).symm) ih'
  have v0 := hN 0 (by decide) (by decide)
  have N1 : nw_ (bc_wr σ 219 0 (σ.1 219 0 + 1)) 219 (up_ q 0 (q 0 + 1)) := nw_wv hN (by rw [v0])
  have a1 : (bc_wr σ 219 0 (σ.1 219 0 + 1)).1 219 1 = q 1 := (N1 1 (by decide) (by decide)).trans (up_ne (by decide))
  have a2 : (bc_wr σ 219 0 (σ.1 219 0 + 1)).1 219 2 = q 2 := (N1 2 (by decide) (by decide)).trans (up_ne (by decide))
  have N2 : nw_ (bc_wr (bc_wr σ 219 0 (σ.1 219 0 + 1)) 219 1 ((bc_wr σ 219 0 (σ.1 219 0 + 1)).1 219 1 + (bc_wr σ 219 0 (σ.1 219 0 + 1)).1 219 2)) 219 (up_ (up_ q 0 (q 0 + 1)) 1 (q 1 + q 2)) := nw_wv N1 (by rw [a1, a2])
  suffices H : ∀ (s : bc_M) (x y z : Int), s.1 219 8 = q 8 → s.1 219 2 = q 2 → nw_ s 219 (up_ (up_ q 0 (q 0 + 1)) 1 (q 1 + q 2)) → fr_ (fun k => k = 219) σ s → y = s.1 219 8 + s.1 219 2 → x = (bc_wr s 219 8 y).1 219 4 → K 55 [(0, bc_R 218), (1, bc_I 0), (2, bc_I 0), (3, bc_I x), (4, bc_I 0)] [] (bc_wr s 219 8 y) 0 by
    refine hK.1 [55] 80 _ _ _ _ _ ?_
    refine bc_ob_i (by decide) ?_
    refine bc_ob_i (by decide) ?_
    refine bc_ob_i (by decide) ?_
    refine bc_ob_i (by decide) ?_
    refine bc_ob_i (by decide) ?_
    refine bc_ob_i (by decide) ?_
    refine bc_ob_i (by decide) ?_
    refine bc_ob_i (by decide) ?_
    refine bc_ob_i (by decide) ?_
    exact H _ _ _ 0 ((N2 8 (by decide) (by decide)).trans ((up_ne (by decide)).trans (up_ne (by decide)))) ((N2 2 (by decide) (by decide)).trans ((up_ne (by decide)).trans (up_ne (by decide)))) N2 (fr_trans (fr_wr rfl) (fr_wr rfl)) rfl rfl
  intro s x y z h8 h2 N F hy hx
  have N3 : nw_ (bc_wr s 219 8 y) 219 (pi_ q) := nw_wv N (by rw [hy, h8, h2])
  have e4 : x = q 4 := by rw [hx, N3 4 (by decide) (by decide)]; rfl
  subst e4
  exact L 0 _ (pi_ q) 0 [] (by decide) T4.1 N3 (fr_trans F (fr_wr rfl)) rfl ⟨fun _ _ => rfl, by show pi_ q 6 = _; omega⟩ (by omega)
end REF
