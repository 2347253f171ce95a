section
/-! the reference over any row: more of its calls that change the state -/
noncomputable abbrev ey_ (k : Nat) : Prop := k = 218 ∨ k = 219 ∨ k = 220 ∨ k = 222 ∨ k = 223 ∨ k = 224
/-- a part of a call: thrown t, row q, history h, the row before b -/
noncomputable def su_ (t : Int) (q : rw_t) (h : List rw_t) (b : rw_t) (σ σ' : bc_M) : Prop := (rg_ σ' q h ∧ nw_ σ' 220 b) ∧ σ'.1 218 ((14 : Nat) : Int) = t ∧ fr_ ey_ σ σ' ∧ fj_ ej_ σ σ'
theorem ey_ex {σ σ' : bc_M} (h : fr_ ex_ σ σ') : fr_ ey_ σ σ' := fr_mono h (fun k hk => by omega)
theorem su_t {q : rw_t} {h : List rw_t} {b : rw_t} {σ : bc_M} (hG : rg_ σ q h) (hb : nw_ σ 220 b) (v : Int) : su_ v q h b σ (bc_wr σ 218 ((14 : Nat) : Int) v) := by
  have g1 : fr_ (fun k => k = 218) σ (bc_wr σ 218 ((14 : Nat) : Int) v) := fr_wr rfl
  exact ⟨⟨⟨nw_fr hG.1 g1 (by decide), mh_fr hG.2 g1 (by decide) (by simp [bc_wr])⟩, nw_fr hb g1 (by decide)⟩, by simp [bc_wr], fr_mono g1 (fun k hk => by omega), fj_wr (.inr rfl)⟩
theorem su_fr {P : Nat → Prop} {t : Int} {q : rw_t} {h : List rw_t} {b : rw_t} {σ σ1 σ2 : bc_M} (S : su_ t q h b σ σ1) (F : fr_ P σ1 σ2) (h1 : ¬ P 218) (h2 : ¬ P 219) (h3 : ¬ P 220) (h4 : ¬ P 222) (hP : ∀ k, P k → ey_ k) : su_ t q h b σ σ2 := by
  obtain ⟨⟨⟨a1, a2⟩, a3⟩, a4, a5, a6⟩ := S
  exact ⟨⟨⟨nw_fr a1 F h2, mh_fr a2 F h4 (by rw [F.1 218 h1])⟩, nw_fr a3 F h3⟩, by rw [F.1 218 h1]; exact a4, fr_trans a5 (fr_mono F hP), fj_trans a6 (fj_fr F h1)⟩
theorem su_w {t : Int} {q : rw_t} {h : List rw_t} {b : rw_t} {σ σ1 : bc_M} (S : su_ t q h b σ σ1) {i v : Int} : su_ t (up_ q i v) h b σ (bc_wr σ1 219 i v) := by
  obtain ⟨⟨⟨a1, a2⟩, a3⟩, a4, a5, a6⟩ := S
  have F : fr_ (fun k => k = 219) σ1 (bc_wr σ1 219 i v) := fr_wr rfl
  exact ⟨⟨⟨nw_wr a1, mh_fr a2 F (by decide) (by rw [F.1 218 (by decide)])⟩, nw_fr a3 F (by decide)⟩, by rw [F.1 218 (by decide)]; exact a4, fr_trans a5 (fr_mono F (fun k hk => by omega)), fj_trans a6 (fj_fr F (by decide))⟩
noncomputable def ti_ (r : rw_t) (m : Int) : Int := if 0 ≤ m ∧ m < r 3 then m else 0
theorem pl_ti (r : rw_t) (m j : Int) : pl_ r m j = 16 + j + 6 * ti_ r m := by
  unfold pl_ ti_
  split <;> omega
theorem ti_le {r : rw_t} (m : Int) (h3 : 0 ≤ r 3 ∧ r 3 ≤ 16) : 0 ≤ ti_ r m ∧ ti_ r m < 16 := by
  unfold ti_
  split <;> omega
theorem ti_m {r : rw_t} {m : Int} (h : 0 ≤ m ∧ m < r 3) : ti_ r m = m := if_pos h
section REF
variable {g : bc_C} {d : Nat} {σ : bc_M} {q b : rw_t} {h : List rw_t} {Rr : Option bc_A → bc_M → Prop} {X : Nat → bc_M → Prop} {B : Int}
theorem t_X11_ofT {m j : Int} (p : Int) (hN : nw_ σ 219 q) (hW : wf_M q) (hm : bc_in m) (hj : 0 ≤ j ∧ j ≤ 5) (e : p = 16 + j) (f : Rr (some (bc_I (q (p + 6 * ti_ q m)))) σ) : bc_Sem g (d + 4) mX11_of [bc_R 218, bc_I m, bc_I j] σ Rr X := by
  refine t_X11_of hN hW.1 hm hj ?_
  rw [pl_ti, ← e]
  exact f
theorem t_X11_costOfT {m : Int} (hN : nw_ σ 219 q) (hW : wf_M q) (hm : bc_in m) (f : Rr (some (bc_I (co_ q (ti_ q m)))) σ) : bc_Sem g (d + 5) mX11_costOf [bc_R 218, bc_I m] σ Rr X := by
  have w := hW.1
  have tl := ti_le m w
  obtain ⟨g0, g1, g2, g3, g4, g5⟩ := hW.2 (ti_ q m) tl.1 tl.2
  refine e_X11_costOf rfl (fun K hK => ?_)
  unfold co_ at f
  refine hK.1 [] 60 _ _ _ _ _ ?_
  refine t_X11_ofT 18 hN hW hm (by decide) rfl ?_
  refine bc_ob_i ⟨⟨by omega, by omega⟩, by decide, by decide⟩ ?_
  refine t_X11_ofT 19 hN hW hm (by decide) rfl ?_
  exact f
noncomputable def er_ (q : rw_t) (m : Int) : Int := if ¬ (0 ≤ m ∧ m < q 3) then 1 else if q (21 + 6 * m) ≠ 0 then 2 else if q 1 < co_ q m then 3 else 0
theorem t_X11_repairs {m : Int} (hG : rg_ σ q h) (hb : nw_ σ 220 b) (hW : wf_M q) (hT : wf_T B q) (hB : B ≤ 1000000) (hm : bc_in m)
    (f1 : er_ q m ≠ 0 → ∀ σ', su_ (er_ q m) q h b σ σ' → Rr (some (bc_I 0)) σ')
    (f0 : er_ q m = 0 → ∀ σ', su_ 0 (rn_ (rs_ q (co_ q m)) m) h b σ σ' → Rr (some (bc_I (co_ q m))) σ') : bc_Sem g (d + 6) mX11_repairs [bc_R 218, bc_I m] σ Rr X := by
  obtain ⟨hq, hH⟩ := hG
  have h3 := hW.1
  have tl := ti_le m h3
  obtain ⟨g0, g1, g2, g3, g4, g5⟩ := hW.2 (ti_ q m) tl.1 tl.2
  obtain ⟨T0, T1, T2, T4, T5, T6, T7, Ts, T8, T9, T10, Te, -⟩ := hT
  have hc : 0 ≤ co_ q (ti_ q m) ∧ co_ q (ti_ q m) ≤ 90 := by
    unfold co_
    have := mul_le (a := (q (18 + 6 * ti_ q m) + 9) / 10) (A := 10) (b := q (19 + 6 * ti_ q m)) (B := 9) (by omega) (by omega) (by omega) (by omega)
    omega
  have e1 := hq 1 (by decide) (by decide)
  refine e_X11_repairs rfl (fun K hK => ?_)
  have T : ∀ (x y z : Int), (x = if 0 ≤ m ∧ m < q 3 then 1 else 0) → (y = if q (21 + 6 * ti_ q m) = 0 then 1 else 0) → (z = if co_ q (ti_ q m) ≤ q 1 then 1 else 0) → K 41 [(0, bc_R 218), (1, bc_I m), (2, bc_I (co_ q (ti_ q m)))] [bc_I z, bc_I y, bc_I x, bc_R 218] σ 0 := by
    intro x y z hx hy hz
    have lx : 0 ≤ x ∧ x ≤ 1 := by rw [hx]; split <;> omega
    have ly : 0 ≤ y ∧ y ≤ 1 := by rw [hy]; split <;> omega
    have lz : 0 ≤ z ∧ z ≤ 1 := by rw [hz]; split <;> omega
    have ht : ho_ x y z 1 = er_ q m := by
      unfold ho_ er_
      by_cases c : 0 ≤ m ∧ m < q 3
      · rw [ti_m c] at hy hz
        rw [hx, hy, hz]
        (repeat' split) <;> first | rfl | omega
      · rw [if_neg c] at hx
        rw [hx, if_pos rfl, if_pos c]
    refine hK.1 [] 90 _ _ _ _ _ ?_
    refine t_X11_holds lx ly lz (by decide) ?_
    rw [ht]
    have S0 := su_t (q := q) (h := h) (b := b) ⟨hq, hH⟩ hb (er_ q m)
    generalize bc_wr σ 218 ((14 : Nat) : Int) (er_ q m) = s0 at S0 ⊢
    by_cases e : er_ q m = 0
    · have pm : 0 ≤ m ∧ m < q 3 := by
        refine Classical.byContradiction (fun np => ?_)
        unfold er_ at e
        rw [if_pos np] at e
        exact absurd e (by decide)
      have pc : co_ q m ≤ q 1 := by
        unfold er_ at e
        rw [if_neg (by omega)] at e
        split at e
        · exact absurd e (by decide)
        · split at e
          · exact absurd e (by decide)
          · omega
      rw [if_pos e]
      rw [ti_m pm] at hc ⊢
      rw [e] at S0
      refine bc_ob_i (by decide) ?_
      refine bc_br_i (fun q => absurd q (by decide)) (fun _ => ?_)
      have r0 := S0.1.1.1
      have a1 := r0 1 (by decide) (by decide)
      have S1 := su_w S0 (i := 1) (v := s0.1 219 1 - co_ q m)
      have a10 : (bc_wr s0 219 1 (s0.1 219 1 - co_ q m)).1 219 10 = q 10 := by rw [S1.1.1.1 10 (by decide) (by decide), up_ne (by decide)]
      have S2 := su_w S1 (i := 10) (v := (bc_wr s0 219 1 (s0.1 219 1 - co_ q m)).1 219 10 + co_ q m)
      have e2 : up_ (up_ q 1 (s0.1 219 1 - co_ q m)) 10 ((bc_wr s0 219 1 (s0.1 219 1 - co_ q m)).1 219 10 + co_ q m) = rs_ q (co_ q m) := by
        unfold rs_
        rw [a10, a1]
      rw [e2] at S2
      have k3 : rs_ q (co_ q m) 3 = q 3 := rfl
      have p3 : pl_ (rs_ q (co_ q m)) m 3 = 19 + 6 * m := by
        rw [pl_at pm.1 (by rw [k3]; exact pm.2)]
        omega
      have S3 := su_w S2 (i := pl_ (rs_ q (co_ q m)) m 3) (v := 0)
      rw [p3] at S3
      have k4 : up_ (rs_ q (co_ q m)) (19 + 6 * m) 0 3 = q 3 := up_ne (by omega)
      have p4 : pl_ (up_ (rs_ q (co_ q m)) (19 + 6 * m) 0) m 4 = 20 + 6 * m := by
        rw [pl_at pm.1 (by rw [k4]; exact pm.2)]
        omega
      have S4 := su_w S3 (i := 20 + 6 * m) (v := 0)
      have e4 : up_ (up_ (rs_ q (co_ q m)) (19 + 6 * m) 0) (20 + 6 * m) 0 = rn_ (rs_ q (co_ q m)) m := by
        funext j
        unfold rn_ up_
        by_cases j1 : j = 20 + 6 * m
        · rw [if_pos j1, if_neg (by omega), if_pos j1]
        · rw [if_neg j1, if_neg j1]
      rw [e4] at S4
      have fin := f0 e _ S4
      refine bc_ob_i (by decide) ?_
      refine bc_ob_i (by decide) ?_
      refine bc_ob_i (by decide) ?_
      refine bc_ob_i (by decide) ?_
      refine t_X11_place S2.1.1.1 (by rw [k3]; exact h3) hm ?_
      rw [p3]
      refine bc_ob_i (by omega) ?_
      refine t_X11_place S3.1.1.1 (by rw [k4]; exact h3) hm ?_
      rw [p4]
      refine bc_ob_i (by omega) ?_
      exact fin
    · rw [if_neg e]
      refine bc_ob_i (by decide) ?_
      refine bc_br_i (fun _ => ?_) (fun q => absurd rfl q)
      exact f1 e _ S0
  have T2 : ∀ (x y : Int), (x = if 0 ≤ m ∧ m < q 3 then 1 else 0) → (y = if q (21 + 6 * ti_ q m) = 0 then 1 else 0) → K 26 [(0, bc_R 218), (1, bc_I m), (2, bc_I (co_ q (ti_ q m)))] [bc_I y, bc_I x, bc_R 218] σ 0 := by
    intro x y hx hy
    refine hK.1 [41] 60 _ _ _ _ _ ?_
    refine bc_ob_i (by decide) ?_
    refine bc_ob_i ⟨by constructor <;> omega, by rw [e1]; constructor <;> omega⟩ ?_
    rw [e1]
    refine bc_br_i (fun c => ?_) (fun c => ?_)
    · exact T x y 0 hx hy (if_neg (by omega)).symm
    · exact T x y 1 hx hy (if_pos (by omega)).symm
  refine hK.1 [26] 60 _ _ _ _ _ ?_
  refine t_X11_costOfT hq hW hm ?_
  refine t_X11_isMember hq h3 hm ?_
  refine t_X11_ofT 21 hq hW hm (by decide) rfl ?_
  refine bc_ob_i (by omega) ?_
  refine bc_br_i (fun c => ?_) (fun c => ?_)
  · exact T2 _ 1 rfl (if_pos c).symm
  · exact T2 _ 0 rfl (if_neg c).symm
end REF
end
section
/-! the reference: put, addMember, save, restore -/
section REF
variable {g : bc_C} {d : Nat} {σ : bc_M} {q b : rw_t} {h : List rw_t} {Rr : Option bc_A → bc_M → Prop} {X : Nat → bc_M → Prop} {B : Int}
theorem t_X11_puts {p c w : Int} (hG : rg_ σ q h) (hb : nw_ σ 220 b) (hW : wf_N q) (hp : bc_in p) (hc : bc_in c) (hw : bc_in w) (f1 : put_ q p c w ≠ 0 → ∀ σ', su_ (put_ q p c w) q h b σ σ' → Rr (some (bc_I 0)) σ') (f0 : put_ q p c w = 0 → ∀ σ', su_ 0 (rp_ q p w) h b σ σ' → Rr (some (bc_I (tw_ (rp_ q p w)))) σ') : bc_Sem g (d + 3) mX11_puts [bc_R 218, bc_I p, bc_I c, bc_I w] σ Rr X := by
  obtain ⟨w1, w2, w3, w4, w5⟩ := hW
  obtain ⟨hN, hH⟩ := hG
  obtain ⟨c0, c1⟩ := hc
  have e11 := hN 11 (by decide) (by decide)
  refine e_X11_puts rfl (fun K hK => ?_)
  have T : ∀ (x y k n : Int), (x = if 0 ≤ p ∧ p ≤ 3 then 1 else 0) → (y = if (0 ≤ p ∧ p ≤ 3) ∧ q (12 + p) = 0 then 1 else 0) → (k = if (c = 99 ∨ c = 108) ∧ 1 ≤ w ∧ w ≤ 20 then 1 else 0) → (n = if q 11 = c then 1 else 0) → K 73 [(0, bc_R 218), (1, bc_I p), (2, bc_I c), (3, bc_I w), (4, bc_I x), (5, bc_I y)] [bc_I n, bc_I k, bc_I x, bc_R 218] σ 0 := by
    intro x y k n hx hy hk hn
    have lx : 0 ≤ x ∧ x ≤ 1 := by rw [hx]; split <;> omega
    have ly : 0 ≤ y ∧ y ≤ 1 := by rw [hy]; split <;> omega
    have lk : 0 ≤ k ∧ k ≤ 1 := by rw [hk]; split <;> omega
    have ln : 0 ≤ n ∧ n ≤ 1 := by rw [hn]; split <;> omega
    have ht : ho_ x k n y = put_ q p c w := by
      rw [hx, hk, hn, hy]
      unfold ho_ put_
      (repeat' split) <;> first | rfl | omega
    refine hK.1 [] 80 _ _ _ _ _ ?_
    refine t_X11_holds lx lk ln ly ?_
    rw [ht]
    have B0 := su_t (q := q) (h := h) (b := b) ⟨hN, hH⟩ hb (put_ q p c w)
    have n0 := B0.1.1.1
    generalize bc_wr σ 218 ((14 : Nat) : Int) (put_ q p c w) = s0 at B0 n0 ⊢
    by_cases e : put_ q p c w = 0
    · rw [if_pos e]
      have pp : 0 ≤ p ∧ p ≤ 3 := by
        refine Classical.byContradiction (fun np => ?_)
        unfold put_ at e
        rw [if_pos np] at e
        exact absurd e (by decide)
      refine bc_ob_i (by decide) ?_
      refine bc_br_i (fun q => absurd q (by decide)) (fun _ => ?_)
      refine bc_ob_i (by omega) ?_
      rw [e] at B0
      have B1 : su_ 0 (rp_ q p w) h b σ (bc_wr s0 219 (12 + p) w) := su_w B0
      refine t_X11_weighs B1.1.1.1 ?_
      exact f0 e _ B1
    · rw [if_neg e]
      refine bc_ob_i (by decide) ?_
      refine bc_br_i (fun _ => ?_) (fun q => absurd rfl q)
      exact f1 e _ B0
  have T1 : ∀ (x y k : Int), (x = if 0 ≤ p ∧ p ≤ 3 then 1 else 0) → (y = if (0 ≤ p ∧ p ≤ 3) ∧ q (12 + p) = 0 then 1 else 0) → (k = if (c = 99 ∨ c = 108) ∧ 1 ≤ w ∧ w ≤ 20 then 1 else 0) → K 57 [(0, bc_R 218), (1, bc_I p), (2, bc_I c), (3, bc_I w), (4, bc_I x), (5, bc_I y)] [bc_I k, bc_I x, bc_R 218] σ 0 := by
    intro x y k hx hy hk
    refine hK.1 [73] 60 _ _ _ _ _ ?_
    refine bc_ob_i (by decide) ?_
    refine bc_ob_i ⟨by rw [e11]; constructor <;> omega, by constructor <;> omega⟩ ?_
    rw [e11]
    refine bc_br_i (fun c3 => ?_) (fun c3 => ?_)
    · exact T x y k 1 hx hy hk (if_pos c3).symm
    · exact T x y k 0 hx hy hk (if_neg c3).symm
  have T2 : ∀ (x y : Int), (x = if 0 ≤ p ∧ p ≤ 3 then 1 else 0) → (y = if (0 ≤ p ∧ p ≤ 3) ∧ q (12 + p) = 0 then 1 else 0) → K 30 [(0, bc_R 218), (1, bc_I p), (2, bc_I c), (3, bc_I w), (4, bc_I x)] [bc_I y] σ 0 := by
    intro x y hx hy
    refine hK.1 [57] 60 _ _ _ _ _ ?_
    refine t_X11_isKind (by constructor <;> omega) ?_
    refine bc_ob_i (by split <;> omega) ?_
    refine bc_br_i (fun c2 => ?_) (fun c2 => ?_)
    · exact T1 x y 0 hx hy (if_neg (fun q => by rw [if_pos q.1] at c2; exact absurd c2 (by decide))).symm
    · have k1 : c = 99 ∨ c = 108 := by
        refine Classical.byContradiction (fun np => ?_)
        rw [if_neg np] at c2
        exact c2 rfl
      refine t_X11_isIn hw (by decide) (by decide) ?_
      refine bc_ob_i (by split <;> omega) ?_
      refine bc_br_i (fun c3 => ?_) (fun c3 => ?_)
      · exact T1 x y 0 hx hy (if_neg (fun q => by rw [if_pos q.2] at c3; exact absurd c3 (by decide))).symm
      · exact T1 x y 1 hx hy (if_pos ⟨k1, by split at c3 <;> omega⟩).symm
  refine hK.1 [30] 60 _ _ _ _ _ ?_
  refine t_X11_isIn hp (by decide) (by decide) ?_
  refine bc_ob_i (by split <;> omega) ?_
  refine bc_br_i (fun c1 => ?_) (fun c1 => ?_)
  · exact T2 _ 0 rfl (if_neg (fun q => by rw [if_pos q.1] at c1; exact absurd c1 (by decide))).symm
  · have pp : 0 ≤ p ∧ p ≤ 3 := by
      refine Classical.byContradiction (fun np => ?_)
      rw [if_neg np] at c1
      exact c1 rfl
    have ep := hN (12 + p) (by omega) (by omega)
    have lp : 0 ≤ q (12 + p) ∧ q (12 + p) ≤ 20 := by
      have hh : p = 0 ∨ p = 1 ∨ p = 2 ∨ p = 3 := by omega
      rcases hh with rfl | rfl | rfl | rfl <;> assumption
    refine bc_ob_i (by omega) ?_
    refine bc_ob_i (by rw [ep]; constructor <;> omega) ?_
    refine bc_br_i (fun c2 => ?_) (fun c2 => ?_)
    · exact T2 _ 1 rfl (if_pos ⟨pp, by rw [← ep]; exact c2⟩).symm
    · exact T2 _ 0 rfl (if_neg (fun q => c2 (by rw [ep]; exact q.2))).symm
noncomputable def adr_ (q : rw_t) (x y s t : Int) : Prop := (¬ ((0 ≤ x ∧ x < 8) ∧ 0 ≤ y ∧ y < 8) ∧ t = 1) ∨ (((0 ≤ x ∧ x < 8) ∧ 0 ≤ y ∧ y < 8) ∧ ¬ (x ≠ y ∧ 1 ≤ s ∧ s ≤ 99) ∧ t = 2) ∨ (((0 ≤ x ∧ x < 8) ∧ 0 ≤ y ∧ y < 8) ∧ (x ≠ y ∧ 1 ≤ s ∧ s ≤ 99) ∧ (16 ≤ q 3 ∨ ∃ k : Int, 0 ≤ k ∧ k < q 3 ∧ jr_ q k x y) ∧ t = 3) ∨ (((0 ≤ x ∧ x < 8) ∧ 0 ≤ y ∧ y < 8) ∧ (x ≠ y ∧ 1 ≤ s ∧ s ≤ 99) ∧ q 3 < 16 ∧ (∀ k : Int, 0 ≤ k → k < q 3 → ¬ jr_ q k x y) ∧ t = 0)
theorem t_X11_adds {x y s : Int} (hG : rg_ σ q h) (hb : nw_ σ 220 b) (hW : wf_M q) (hx : bc_in x) (hy : bc_in y) (hs : bc_in s) (f1 : ∀ t, adr_ q x y s t → t ≠ 0 → ∀ σ', su_ t q h b σ σ' → Rr (some (bc_I 0)) σ') (f0 : adr_ q x y s 0 → ∀ σ', su_ 0 (ra_ q x y s) h b σ σ' → Rr (some (bc_I (q 3))) σ') : bc_Sem g (d + 7) mX11_adds [bc_R 218, bc_I x, bc_I y, bc_I s] σ Rr X := by
  obtain ⟨hN, hH⟩ := hG
  have w3 := hW.1
  have e3 := hN 3 (by decide) (by decide)
  refine e_X11_adds rfl (fun K hK => ?_)
  have T : ∀ u v w t : Int, (u = if x ≠ y ∧ 1 ≤ s ∧ s ≤ 99 then 1 else 0) → (v = if (0 ≤ x ∧ x < 8) ∧ 0 ≤ y ∧ y < 8 then 1 else 0) → 0 ≤ w ∧ w ≤ 1 → (ho_ v u w 1 = t) → adr_ q x y s t → K 56 [(0, bc_R 218), (1, bc_I x), (2, bc_I y), (3, bc_I s), (4, bc_I u)] [bc_I w, bc_I u, bc_I v, bc_R 218] σ 0 := by
    intro u v w t hu hv lw ht ha
    have lu : 0 ≤ u ∧ u ≤ 1 := by rw [hu]; split <;> omega
    have lv : 0 ≤ v ∧ v ≤ 1 := by rw [hv]; split <;> omega
    refine hK.1 [] 120 _ _ _ _ _ ?_
    refine t_X11_holds lv lu lw (by decide) ?_
    rw [ht]
    have S0 := su_t (q := q) (h := h) (b := b) ⟨hN, hH⟩ hb t
    generalize bc_wr σ 218 ((14 : Nat) : Int) t = s0 at S0 ⊢
    by_cases c : t = 0
    · rw [if_pos c]
      subst c
      have l3 : q 3 < 16 := by
        rcases ha with ⟨-, e⟩ | ⟨-, -, e⟩ | ⟨-, -, -, e⟩ | ⟨-, -, k, -⟩
        · exact absurd e (by decide)
        · exact absurd e (by decide)
        · exact absurd e (by decide)
        · exact k
      have a3 := S0.1.1.1 3 (by decide) (by decide)
      have S1 := su_w S0 (i := 3) (v := s0.1 219 3 + 1)
      have k1 : (up_ q 3 (s0.1 219 3 + 1)) 3 = q 3 + 1 := up_at.trans (by rw [a3])
      have p1 : pl_ (up_ q 3 (s0.1 219 3 + 1)) (s0.1 219 3) 0 = 16 + 6 * q 3 := by
        rw [pl_at (by omega) (by rw [k1]; omega), a3]
        omega
      have S2 := su_w S1 (i := 16 + 6 * q 3) (v := min x y)
      have k2 : (up_ (up_ q 3 (s0.1 219 3 + 1)) (16 + 6 * q 3) (min x y)) 3 = q 3 + 1 := (up_ne (by omega)).trans k1
      have p2 : pl_ (up_ (up_ q 3 (s0.1 219 3 + 1)) (16 + 6 * q 3) (min x y)) (s0.1 219 3) 1 = 17 + 6 * q 3 := by
        rw [pl_at (by omega) (by rw [k2]; omega), a3]
        omega
      have S3 := su_w S2 (i := 17 + 6 * q 3) (v := max x y)
      have k3 : (up_ (up_ (up_ q 3 (s0.1 219 3 + 1)) (16 + 6 * q 3) (min x y)) (17 + 6 * q 3) (max x y)) 3 = q 3 + 1 := (up_ne (by omega)).trans k2
      have p3 : pl_ (up_ (up_ (up_ q 3 (s0.1 219 3 + 1)) (16 + 6 * q 3) (min x y)) (17 + 6 * q 3) (max x y)) (s0.1 219 3) 2 = 18 + 6 * q 3 := by
        rw [pl_at (by omega) (by rw [k3]; omega), a3]
        omega
      have S4 := su_w S3 (i := 18 + 6 * q 3) (v := s)
      have k4 : (up_ (up_ (up_ (up_ q 3 (s0.1 219 3 + 1)) (16 + 6 * q 3) (min x y)) (17 + 6 * q 3) (max x y)) (18 + 6 * q 3) (s)) 3 = q 3 + 1 := (up_ne (by omega)).trans k3
      have p4 : pl_ (up_ (up_ (up_ (up_ q 3 (s0.1 219 3 + 1)) (16 + 6 * q 3) (min x y)) (17 + 6 * q 3) (max x y)) (18 + 6 * q 3) (s)) (s0.1 219 3) 3 = 19 + 6 * q 3 := by
        rw [pl_at (by omega) (by rw [k4]; omega), a3]
        omega
      have S5 := su_w S4 (i := 19 + 6 * q 3) (v := 0)
      have k5 : (up_ (up_ (up_ (up_ (up_ q 3 (s0.1 219 3 + 1)) (16 + 6 * q 3) (min x y)) (17 + 6 * q 3) (max x y)) (18 + 6 * q 3) (s)) (19 + 6 * q 3) (0)) 3 = q 3 + 1 := (up_ne (by omega)).trans k4
      have p5 : pl_ (up_ (up_ (up_ (up_ (up_ q 3 (s0.1 219 3 + 1)) (16 + 6 * q 3) (min x y)) (17 + 6 * q 3) (max x y)) (18 + 6 * q 3) (s)) (19 + 6 * q 3) (0)) (s0.1 219 3) 4 = 20 + 6 * q 3 := by
        rw [pl_at (by omega) (by rw [k5]; omega), a3]
        omega
      have S6 := su_w S5 (i := 20 + 6 * q 3) (v := 0)
      have k6 : (up_ (up_ (up_ (up_ (up_ (up_ q 3 (s0.1 219 3 + 1)) (16 + 6 * q 3) (min x y)) (17 + 6 * q 3) (max x y)) (18 + 6 * q 3) (s)) (19 + 6 * q 3) (0)) (20 + 6 * q 3) (0)) 3 = q 3 + 1 := (up_ne (by omega)).trans k5
      have p6 : pl_ (up_ (up_ (up_ (up_ (up_ (up_ q 3 (s0.1 219 3 + 1)) (16 + 6 * q 3) (min x y)) (17 + 6 * q 3) (max x y)) (18 + 6 * q 3) (s)) (19 + 6 * q 3) (0)) (20 + 6 * q 3) (0)) (s0.1 219 3) 5 = 21 + 6 * q 3 := by
        rw [pl_at (by omega) (by rw [k6]; omega), a3]
        omega
      have S7 := su_w S6 (i := 21 + 6 * q 3) (v := 0)
      have er : (up_ (up_ (up_ (up_ (up_ (up_ (up_ q 3 (s0.1 219 3 + 1)) (16 + 6 * q 3) (min x y)) (17 + 6 * q 3) (max x y)) (18 + 6 * q 3) (s)) (19 + 6 * q 3) (0)) (20 + 6 * q 3) (0)) (21 + 6 * q 3) (0)) = ra_ q x y s := by
        rw [a3]
        funext j
        unfold ra_ up_
        by_cases j3 : j = 3
        · rw [if_neg (by omega), if_neg (by omega), if_neg (by omega), if_neg (by omega), if_neg (by omega), if_neg (by omega), if_pos j3, if_pos j3]
        · rw [if_neg j3]
          (repeat' split) <;> first | rfl | omega
      rw [er] at S7
      have fin := f0 ha _ S7
      refine bc_ob_i (by decide) ?_
      refine bc_br_i (fun q => absurd q (by decide)) (fun _ => ?_)
      refine bc_ob_i (by decide) ?_
      refine bc_ob_i (by decide) ?_
      refine bc_ob_i (by decide) ?_
      refine t_X11_place S1.1.1.1 (by rw [k1]; omega) (by constructor <;> omega) ?_
      rw [p1]
      refine bc_ob_i ⟨hx, hy, Nat.le_of_ble_eq_true rfl⟩ ?_
      refine bc_ob_i (by omega) ?_
      refine t_X11_place S2.1.1.1 (by rw [k2]; omega) (by constructor <;> omega) ?_
      rw [p2]
      refine bc_ob_i ⟨hx, hy, Nat.le_of_ble_eq_true rfl⟩ ?_
      refine bc_ob_i (by omega) ?_
      refine t_X11_place S3.1.1.1 (by rw [k3]; omega) (by constructor <;> omega) ?_
      rw [p3]
      refine bc_ob_i (by omega) ?_
      refine t_X11_place S4.1.1.1 (by rw [k4]; omega) (by constructor <;> omega) ?_
      rw [p4]
      refine bc_ob_i (by omega) ?_
      refine t_X11_place S5.1.1.1 (by rw [k5]; omega) (by constructor <;> omega) ?_
      rw [p5]
      refine bc_ob_i (by omega) ?_
      refine t_X11_place S6.1.1.1 (by rw [k6]; omega) (by constructor <;> omega) ?_
      rw [p6]
      refine bc_ob_i (by omega) ?_
      exact rt_ fin a3
    · rw [if_neg c]
      refine bc_ob_i (by decide) ?_
      refine bc_br_i (fun _ => ?_) (fun q => absurd rfl q)
      exact f1 t ha c _ S0
  have T0 : ∀ u v w : Int, (u = if x ≠ y ∧ 1 ≤ s ∧ s ≤ 99 then 1 else 0) → (v = if (0 ≤ x ∧ x < 8) ∧ 0 ≤ y ∧ y < 8 then 1 else 0) → ((w = 0 ∧ (16 ≤ q 3 ∨ ∃ k : Int, 0 ≤ k ∧ k < q 3 ∧ jr_ q k x y)) ∨ (w = 1 ∧ q 3 < 16 ∧ ∀ k : Int, 0 ≤ k → k < q 3 → ¬ jr_ q k x y)) → K 56 [(0, bc_R 218), (1, bc_I x), (2, bc_I y), (3, bc_I s), (4, bc_I u)] [bc_I w, bc_I u, bc_I v, bc_R 218] σ 0 := by
    intro u v w hu hv hw
    by_cases c1 : (0 ≤ x ∧ x < 8) ∧ 0 ≤ y ∧ y < 8
    · by_cases c2 : x ≠ y ∧ 1 ≤ s ∧ s ≤ 99
      · rcases hw with ⟨w0, hw⟩ | ⟨w0, w1, hw⟩
        · exact T u v w 3 hu hv (by omega) (by rw [hu, hv, w0, if_pos c1, if_pos c2]; rfl) (.inr (.inr (.inl ⟨c1, c2, hw, rfl⟩)))
        · exact T u v w 0 hu hv (by omega) (by rw [hu, hv, w0, if_pos c1, if_pos c2]; rfl) (.inr (.inr (.inr ⟨c1, c2, w1, hw, rfl⟩)))
      · exact T u v w 2 hu hv (by omega) (by rw [hu, hv, if_pos c1, if_neg c2]; rfl) (.inr (.inl ⟨c1, c2, rfl⟩))
    · exact T u v w 1 hu hv (by omega) (by rw [hv, if_neg c1]; rfl) (.inl ⟨c1, rfl⟩)
  have T1 : ∀ u : Int, (u = if x ≠ y ∧ 1 ≤ s ∧ s ≤ 99 then 1 else 0) → K 20 [(0, bc_R 218), (1, bc_I x), (2, bc_I y), (3, bc_I s)] [bc_I u] σ 0 := by
    intro u hu
    refine hK.1 [56] 80 _ _ _ _ _ ?_
    refine t_X11_areJoints hx hy ?_
    refine bc_ob_i (by decide) ?_
    refine bc_ob_i (by omega) ?_
    refine bc_br_i (fun c => ?_) (fun c => ?_)
    · refine t_X11_between hN hW hx hy (fun v hv => ?_)
      refine bc_ob_i (by rcases hv with hv | hv <;> omega) ?_
      refine bc_br_i (fun c2 => ?_) (fun c2 => ?_)
      · refine T0 u _ 1 hu rfl (.inr ⟨rfl, by omega, ?_⟩)
        rcases hv with hv | hv
        · exact hv.2
        · omega
      · refine T0 u _ 0 hu rfl (.inl ⟨rfl, .inr ?_⟩)
        rcases hv with hv | hv
        · exact absurd hv.1 c2
        · exact ⟨v, hv⟩
    · exact T0 u _ 0 hu rfl (.inl ⟨rfl, .inl (by omega)⟩)
  refine hK.1 [20] 60 _ _ _ _ _ ?_
  refine bc_ob_i ⟨hx, hy⟩ ?_
  refine bc_br_i (fun c => ?_) (fun c => ?_)
  · exact T1 0 (if_neg (by omega)).symm
  · refine t_X11_isIn hs (by decide) (by decide) ?_
    refine bc_ob_i (by split <;> omega) ?_
    refine bc_br_i (fun c2 => ?_) (fun c2 => ?_)
    · exact T1 0 (if_neg (by split at c2 <;> omega)).symm
    · exact T1 1 (if_pos (by split at c2 <;> omega)).symm
end REF
end
section
/-! the reference: a day goes by -/
theorem wv_f {B : Int} {r : rw_t} (hd : wd_ B r) : ∀ n : Nat, (n : Int) ≤ r 4 → wv_ B r n (vf_ r n)
  | 0, _ => wv_0 hd
  | n + 1, h => wv_s hd (by omega) (wv_f hd n (by omega))
/-- the reference's row and the kept ones so far, beside the class's row -/
noncomputable def rk6_ (R P : rw_t) (kp : Int) : Prop := (∀ j : Int, j ≠ 6 → R j = P j) ∧ P 6 = R 6 + kp
theorem rk6_kept {R P : rw_t} {kp u : Int} (h : rk6_ R P kp) (hu : u ≤ P 1) : rk6_ (up_ (up_ (up_ R 1 (R 1 - u)) 9 (R 9 + u)) 7 (R 7 + 0)) (sg_ P u) (kp + 1) := by
  have a1 := h.1 1 (by decide)
  have a9 := h.1 9 (by decide)
  have a7 := h.1 7 (by decide)
  unfold sg_
  rw [if_pos hu]
  refine ⟨fun j hj => ?_, ?_⟩
  · have := h.1 j hj
    simp only [up_]
    by_cases j1 : j = 1
    · subst j1; simp; omega
    by_cases j9 : j = 9
    · subst j9; simp; omega
    by_cases j7 : j = 7
    · subst j7; simp; omega
    simp [j1, j9, j7, hj, this]
  · have := h.2
    simp only [up_]
    simp
    omega
theorem rk6_broken {R P : rw_t} {kp u : Int} (h : rk6_ R P kp) (hu : ¬ u ≤ P 1) : rk6_ (up_ (up_ (up_ R 1 (R 1 - 0)) 9 (R 9 + 0)) 7 (R 7 + 1)) (sg_ P u) (kp + 0) := by
  have a1 := h.1 1 (by decide)
  have a9 := h.1 9 (by decide)
  have a7 := h.1 7 (by decide)
  unfold sg_
  rw [if_neg hu]
  refine ⟨fun j hj => ?_, ?_⟩
  · have := h.1 j hj
    simp only [up_]
    by_cases j1 : j = 1
    · subst j1; simp; omega
    by_cases j9 : j = 9
    · subst j9; simp; omega
    by_cases j7 : j = 7
    · subst j7; simp; omega
    simp [j1, j9, j7, this]
  · have := h.2
    simp only [up_]
    simp
    omega
theorem rk6_same {R P : rw_t} {kp : Int} (h : rk6_ R P kp) : rk6_ (up_ (up_ (up_ R 1 (R 1 - 0)) 9 (R 9 + 0)) 7 (R 7 + 0)) P (kp + 0) := by
  have a1 := h.1 1 (by decide)
  have a9 := h.1 9 (by decide)
  have a7 := h.1 7 (by decide)
  refine ⟨fun j hj => ?_, ?_⟩
  · have := h.1 j hj
    simp only [up_]
    by_cases j1 : j = 1
    · subst j1; simp; omega
    by_cases j9 : j = 9
    · subst j9; simp; omega
    by_cases j7 : j = 7
    · subst j7; simp; omega
    simp [j1, j9, j7, this]
  · have := h.2
    simp only [up_]
    simp
    omega
theorem rk6_up {R P : rw_t} {kp i v w : Int} (h : rk6_ R P kp) (hi : i ≠ 6) (e : v = w) : rk6_ (up_ R i v) (up_ P i w) kp := by
  refine ⟨fun j hj => ?_, ?_⟩
  · have := h.1 j hj
    simp only [up_]
    split
    · exact e
    · exact this
  · have := h.2
    simp only [up_]
    rw [if_neg (by omega), if_neg (by omega)]
    exact this
theorem nw_wv {σ : bc_M} {c : Nat} {r : rw_t} {i v w : Int} (h : nw_ σ c r) (e : v = w) : nw_ (bc_wr σ c i v) c (up_ r i w) := e ▸ nw_wr h
theorem nw_w2 {σ : bc_M} {c : Nat} {r : rw_t} {i j v w : Int} (h : nw_ σ c r) (ei : i = j) (e : v = w) : nw_ (bc_wr σ c i v) c (up_ r j w) := e ▸ ei ▸ nw_wr h
section REF
variable {g : bc_C} {d : Nat} {σ : bc_M} {q b : rw_t} {h : List rw_t} {Rr : Option bc_A → bc_M → Prop} {X : Nat → bc_M → Prop} {B : Int}
theorem t_X11_ofVow {k j : Int} (p : Int) (hN : nw_ σ 219 q) (hk : 0 ≤ k ∧ k < 8) (hj : 0 ≤ j ∧ j ≤ 2) (e : p = 112 + j) (f : Rr (some (bc_I (q (p + 3 * k)))) σ) : bc_Sem g (d + 1) mX11_ofVow [bc_R 218, bc_I k, bc_I j] σ Rr X := by
  refine e_X11_ofVow rfl (fun K hK => ?_)
  refine hK.1 [] 60 _ _ _ _ _ ?_
  refine bc_ob_i (by omega) ?_
  exact rt_ f ((hN _ (by omega) (by omega)).trans (by rw [e]; congr 1; omega))
theorem t_X11_passes (hN : nw_ σ 219 q) (hT : wf_T B q) (hB : B ≤ 1000000) (f : ∀ σ', nw_ σ' 219 (pd_ q) → fr_ (fun k => k = 219) σ σ' → Rr (some (bc_I (pd_ q 6 - q 6))) σ') : bc_Sem g (d + 2) mX11_passes [bc_R 218] σ Rr X := by
  have hd := pi_wd hT
  have hd0 := hd
  obtain ⟨T0, T1, T2, T4, T5, T6, T7, Ts, T8, T9, T10, Te, Tv, Tw, -⟩ := hd0
  have p4 : pi_ q 4 = q 4 := rfl
  have p6 : pi_ q 6 = q 6 := rfl
  rw [p4] at T4
  refine e_X11_passes rfl (fun K hK => ?_)
  have D : ∀ (i : Int) (n : Nat) (s : bc_M) (R P : rw_t) (S kp x u : Int), (n : Int) = i → i < q 4 → nw_ s 219 R → fr_ (fun k => k = 219) σ s → R 6 = q 6 → rk6_ R P kp → 0 ≤ kp ∧ kp ≤ i → wv_ (B + 1) (pi_ q) n (P, S) → u = P (114 + 3 * i) → (x = if P (113 + 3 * i) ≤ P 0 ∧ u ≤ P 1 then 1 else 0) → (∀ (s' : bc_M) (R' : rw_t) (kp' : Int) (z : bc_LV), nw_ s' 219 R' → fr_ (fun k => k = 219) σ s' → R' 6 = q 6 → rk6_ R' (vs_ (P, S) n).1 kp' → 0 ≤ kp' ∧ kp' ≤ i + 1 → K 55 ([(0, bc_R 218), (1, bc_I kp'), (2, bc_I (vs_ (P, S) n).2), (3, bc_I (q 4)), (4, bc_I (i + 1))] ++ z) [] s' 0) → K 102 [(0, bc_R 218), (1, bc_I kp), (2, bc_I S), (3, bc_I (q 4)), (4, bc_I i), (5, bc_I u)] [bc_I x] s 0 := by
    intro i n s R P S kp x u en hi hNs F h6 hr hkp W hu hx go
    subst hu
    obtain ⟨w1, w2, w3, w4, w5, w6, w7, w8, w9, w10, -⟩ := id W
    obtain ⟨x1, x2, x3⟩ := w9 i (by omega) (by omega)
    obtain ⟨y1, y2, y3⟩ := w10 i (by omega) (by omega)
    have y4 := (Tw i (by omega) (by rw [p4]; omega)).1.1
    simp only at x1 x2 x3 y1 y2 y3
    have b2 := w2.1
    have b3 := w3
    simp only at b2 b3
    have a0 := hr.1 0 (by decide)
    have a1 := hr.1 1 (by decide)
    have ad := hr.1 (113 + 3 * i) (by omega)
    have au := hr.1 (114 + 3 * i) (by omega)
    have v1 := hNs 1 (by decide) (by decide)
    have i8 : 0 ≤ i ∧ i < 8 := by omega
    have ev : vs_ (P, S) n = if P (113 + 3 * i) ≤ P 0 then (sg_ P (P (114 + 3 * i)), S) else (up_ (up_ (up_ P (112 + 3 * S) (P (112 + 3 * i))) (113 + 3 * S) (P (113 + 3 * i))) (114 + 3 * S) (P (114 + 3 * i)), S + 1) := by
      unfold vs_
      rw [en]
    rw [ev] at go
    by_cases k1 : P (113 + 3 * i) ≤ P 0
    · rw [if_pos k1] at go
      by_cases k2 : P (114 + 3 * i) ≤ P 1
      · rw [if_pos ⟨k1, k2⟩] at hx
        subst hx
        have N1 : nw_ (bc_wr s 219 1 (s.1 219 1 - P (114 + 3 * i))) 219 (up_ R 1 (R 1 - P (114 + 3 * i))) := nw_wv hNs (by rw [v1])
        have a9 : (bc_wr s 219 1 (s.1 219 1 - P (114 + 3 * i))).1 219 9 = R 9 := (N1 9 (by decide) (by decide)).trans (up_ne (by decide))
        have N2 : nw_ (bc_wr (bc_wr s 219 1 (s.1 219 1 - P (114 + 3 * i))) 219 9 ((bc_wr s 219 1 (s.1 219 1 - P (114 + 3 * i))).1 219 9 + P (114 + 3 * i))) 219 (up_ (up_ R 1 (R 1 - P (114 + 3 * i))) 9 (R 9 + P (114 + 3 * i))) := nw_wv N1 (by rw [a9])
        have a7 : (bc_wr (bc_wr s 219 1 (s.1 219 1 - P (114 + 3 * i))) 219 9 ((bc_wr s 219 1 (s.1 219 1 - P (114 + 3 * i))).1 219 9 + P (114 + 3 * i))).1 219 7 = R 7 := (N2 7 (by decide) (by decide)).trans ((up_ne (by decide)).trans (up_ne (by decide)))
        have c0 : (bc_wr (bc_wr s 219 1 (s.1 219 1 - P (114 + 3 * i))) 219 9 ((bc_wr s 219 1 (s.1 219 1 - P (114 + 3 * i))).1 219 9 + P (114 + 3 * i))).1 219 0 = R 0 := (N2 0 (by decide) (by decide)).trans ((up_ne (by decide)).trans (up_ne (by decide)))
        have cd : (up_ (up_ R 1 (R 1 - P (114 + 3 * i))) 9 (R 9 + P (114 + 3 * i))) (113 + 3 * i) = R (113 + 3 * i) := (up_ne (by omega)).trans (up_ne (by omega))
        have N3 : nw_ (bc_wr (bc_wr (bc_wr s 219 1 (s.1 219 1 - P (114 + 3 * i))) 219 9 ((bc_wr s 219 1 (s.1 219 1 - P (114 + 3 * i))).1 219 9 + P (114 + 3 * i))) 219 7 ((bc_wr (bc_wr s 219 1 (s.1 219 1 - P (114 + 3 * i))) 219 9 ((bc_wr s 219 1 (s.1 219 1 - P (114 + 3 * i))).1 219 9 + P (114 + 3 * i))).1 219 7 + 0)) 219 (up_ (up_ (up_ R 1 (R 1 - P (114 + 3 * i))) 9 (R 9 + P (114 + 3 * i))) 7 (R 7 + 0)) := nw_wv N2 (by rw [a7])
        have d0 : (bc_wr (bc_wr (bc_wr s 219 1 (s.1 219 1 - P (114 + 3 * i))) 219 9 ((bc_wr s 219 1 (s.1 219 1 - P (114 + 3 * i))).1 219 9 + P (114 + 3 * i))) 219 7 ((bc_wr (bc_wr s 219 1 (s.1 219 1 - P (114 + 3 * i))) 219 9 ((bc_wr s 219 1 (s.1 219 1 - P (114 + 3 * i))).1 219 9 + P (114 + 3 * i))).1 219 7 + 0)).1 219 0 = R 0 := (N3 0 (by decide) (by decide)).trans ((up_ne (by decide)).trans ((up_ne (by decide)).trans (up_ne (by decide))))
        have dd : (up_ (up_ (up_ R 1 (R 1 - P (114 + 3 * i))) 9 (R 9 + P (114 + 3 * i))) 7 (R 7 + 0)) (113 + 3 * i) = R (113 + 3 * i) := (up_ne (by omega)).trans ((up_ne (by omega)).trans (up_ne (by omega)))
        have F3 : fr_ (fun k => k = 219) σ (bc_wr (bc_wr (bc_wr s 219 1 (s.1 219 1 - P (114 + 3 * i))) 219 9 ((bc_wr s 219 1 (s.1 219 1 - P (114 + 3 * i))).1 219 9 + P (114 + 3 * i))) 219 7 ((bc_wr (bc_wr s 219 1 (s.1 219 1 - P (114 + 3 * i))) 219 9 ((bc_wr s 219 1 (s.1 219 1 - P (114 + 3 * i))).1 219 9 + P (114 + 3 * i))).1 219 7 + 0)) := fr_trans F (fr_trans (fr_wr rfl) (fr_trans (fr_wr rfl) (fr_wr rfl)))
        have q6 : (up_ (up_ (up_ R 1 (R 1 - P (114 + 3 * i))) 9 (R 9 + P (114 + 3 * i))) 7 (R 7 + 0)) 6 = q 6 := (up_ne (by decide)).trans ((up_ne (by decide)).trans ((up_ne (by decide)).trans h6))
        have G := go _ _ (kp + 1) [(5, bc_I (P (114 + 3 * i))), (6, bc_I 1)] N3 F3 q6 (rk6_kept hr k2) (by omega)
        refine hK.1 [55] 200 _ _ _ _ _ ?_
        refine bc_ob_i (by decide) ?_
        refine bc_ob_i (by decide) ?_
        refine bc_br_i (fun c => absurd c (by decide)) (fun _ => ?_)
        refine bc_ob_i (by decide) ?_
        refine bc_ob_i (by decide) ?_
        refine bc_ob_i (by decide) ?_
        refine bc_br_i (fun c => absurd c (by decide)) (fun _ => ?_)
        refine bc_ob_i (by decide) ?_
        refine bc_ob_i (by decide) ?_
        refine bc_br_i (fun c => absurd c (by decide)) (fun _ => ?_)
        refine bc_ob_i (by decide) ?_
        refine t_X11_ofVow 113 N2 i8 (by decide) rfl ?_
        rw [cd]
        refine bc_ob_i (by decide) ?_
        refine bc_ob_i (by rw [c0]; constructor <;> constructor <;> omega) ?_
        refine bc_br_i (fun _ => ?_) (fun c => absurd (by rw [c0]; omega) c)
        refine bc_ob_i (by decide) ?_
        refine bc_br_i (fun c => absurd c (by decide)) (fun _ => ?_)
        refine bc_ob_i (by decide) ?_
        refine t_X11_ofVow 113 N3 i8 (by decide) rfl ?_
        rw [dd]
        refine bc_ob_i (by decide) ?_
        refine bc_ob_i (by rw [d0]; constructor <;> constructor <;> omega) ?_
        refine bc_br_i (fun _ => ?_) (fun c => absurd (by rw [d0]; omega) c)
        exact G
      · rw [if_neg (fun c => k2 c.2)] at hx
        subst hx
        have N1 : nw_ (bc_wr s 219 1 (s.1 219 1 - 0)) 219 (up_ R 1 (R 1 - 0)) := nw_wv hNs (by rw [v1])
        have a9 : (bc_wr s 219 1 (s.1 219 1 - 0)).1 219 9 = R 9 := (N1 9 (by decide) (by decide)).trans (up_ne (by decide))
        have N2 : nw_ (bc_wr (bc_wr s 219 1 (s.1 219 1 - 0)) 219 9 ((bc_wr s 219 1 (s.1 219 1 - 0)).1 219 9 + 0)) 219 (up_ (up_ R 1 (R 1 - 0)) 9 (R 9 + 0)) := nw_wv N1 (by rw [a9])
        have a7 : (bc_wr (bc_wr s 219 1 (s.1 219 1 - 0)) 219 9 ((bc_wr s 219 1 (s.1 219 1 - 0)).1 219 9 + 0)).1 219 7 = R 7 := (N2 7 (by decide) (by decide)).trans ((up_ne (by decide)).trans (up_ne (by decide)))
        have c0 : (bc_wr (bc_wr s 219 1 (s.1 219 1 - 0)) 219 9 ((bc_wr s 219 1 (s.1 219 1 - 0)).1 219 9 + 0)).1 219 0 = R 0 := (N2 0 (by decide) (by decide)).trans ((up_ne (by decide)).trans (up_ne (by decide)))
        have cd : (up_ (up_ R 1 (R 1 - 0)) 9 (R 9 + 0)) (113 + 3 * i) = R (113 + 3 * i) := (up_ne (by omega)).trans (up_ne (by omega))
        have N3 : nw_ (bc_wr (bc_wr (bc_wr s 219 1 (s.1 219 1 - 0)) 219 9 ((bc_wr s 219 1 (s.1 219 1 - 0)).1 219 9 + 0)) 219 7 ((bc_wr (bc_wr s 219 1 (s.1 219 1 - 0)) 219 9 ((bc_wr s 219 1 (s.1 219 1 - 0)).1 219 9 + 0)).1 219 7 + 1)) 219 (up_ (up_ (up_ R 1 (R 1 - 0)) 9 (R 9 + 0)) 7 (R 7 + 1)) := nw_wv N2 (by rw [a7])
        have d0 : (bc_wr (bc_wr (bc_wr s 219 1 (s.1 219 1 - 0)) 219 9 ((bc_wr s 219 1 (s.1 219 1 - 0)).1 219 9 + 0)) 219 7 ((bc_wr (bc_wr s 219 1 (s.1 219 1 - 0)) 219 9 ((bc_wr s 219 1 (s.1 219 1 - 0)).1 219 9 + 0)).1 219 7 + 1)).1 219 0 = R 0 := (N3 0 (by decide) (by decide)).trans ((up_ne (by decide)).trans ((up_ne (by decide)).trans (up_ne (by decide))))
        have dd : (up_ (up_ (up_ R 1 (R 1 - 0)) 9 (R 9 + 0)) 7 (R 7 + 1)) (113 + 3 * i) = R (113 + 3 * i) := (up_ne (by omega)).trans ((up_ne (by omega)).trans (up_ne (by omega)))
        have F3 : fr_ (fun k => k = 219) σ (bc_wr (bc_wr (bc_wr s 219 1 (s.1 219 1 - 0)) 219 9 ((bc_wr s 219 1 (s.1 219 1 - 0)).1 219 9 + 0)) 219 7 ((bc_wr (bc_wr s 219 1 (s.1 219 1 - 0)) 219 9 ((bc_wr s 219 1 (s.1 219 1 - 0)).1 219 9 + 0)).1 219 7 + 1)) := fr_trans F (fr_trans (fr_wr rfl) (fr_trans (fr_wr rfl) (fr_wr rfl)))
        have q6 : (up_ (up_ (up_ R 1 (R 1 - 0)) 9 (R 9 + 0)) 7 (R 7 + 1)) 6 = q 6 := (up_ne (by decide)).trans ((up_ne (by decide)).trans ((up_ne (by decide)).trans h6))
        have G := go _ _ (kp + 0) [(5, bc_I (P (114 + 3 * i))), (6, bc_I 0)] N3 F3 q6 (rk6_broken hr k2) (by omega)
        refine hK.1 [55] 200 _ _ _ _ _ ?_
        refine bc_ob_i (by decide) ?_
        refine bc_ob_i (by decide) ?_
        refine bc_br_i (fun _ => ?_) (fun c => absurd rfl c)
        refine bc_ob_i (by decide) ?_
        refine bc_ob_i (by decide) ?_
        refine bc_ob_i (by decide) ?_
        refine bc_br_i (fun _ => ?_) (fun c => absurd rfl c)
        refine bc_ob_i (by decide) ?_
        refine bc_ob_i (by decide) ?_
        refine bc_br_i (fun _ => ?_) (fun c => absurd rfl c)
        refine bc_ob_i (by decide) ?_
        refine t_X11_ofVow 113 N2 i8 (by decide) rfl ?_
        rw [cd]
        refine bc_ob_i (by decide) ?_
        refine bc_ob_i (by rw [c0]; constructor <;> constructor <;> omega) ?_
        refine bc_br_i (fun _ => ?_) (fun c => absurd (by rw [c0]; omega) c)
        refine bc_ob_i (by decide) ?_
        refine bc_br_i (fun _ => ?_) (fun c => absurd rfl c)
        refine bc_ob_i (by decide) ?_
        refine t_X11_ofVow 113 N3 i8 (by decide) rfl ?_
        rw [dd]
        refine bc_ob_i (by decide) ?_
        refine bc_ob_i (by rw [d0]; constructor <;> constructor <;> omega) ?_
        refine bc_br_i (fun _ => ?_) (fun c => absurd (by rw [d0]; omega) c)
        exact G
    · rw [if_neg k1] at go
      rw [if_neg (fun c => k1 c.1)] at hx
      subst hx
      have N1 : nw_ (bc_wr s 219 1 (s.1 219 1 - 0)) 219 (up_ R 1 (R 1 - 0)) := nw_wv hNs (by rw [v1])
      have a9 : (bc_wr s 219 1 (s.1 219 1 - 0)).1 219 9 = R 9 := (N1 9 (by decide) (by decide)).trans (up_ne (by decide))
      have N2 : nw_ (bc_wr (bc_wr s 219 1 (s.1 219 1 - 0)) 219 9 ((bc_wr s 219 1 (s.1 219 1 - 0)).1 219 9 + 0)) 219 (up_ (up_ R 1 (R 1 - 0)) 9 (R 9 + 0)) := nw_wv N1 (by rw [a9])
      have a7 : (bc_wr (bc_wr s 219 1 (s.1 219 1 - 0)) 219 9 ((bc_wr s 219 1 (s.1 219 1 - 0)).1 219 9 + 0)).1 219 7 = R 7 := (N2 7 (by decide) (by decide)).trans ((up_ne (by decide)).trans (up_ne (by decide)))
      have c0 : (bc_wr (bc_wr s 219 1 (s.1 219 1 - 0)) 219 9 ((bc_wr s 219 1 (s.1 219 1 - 0)).1 219 9 + 0)).1 219 0 = R 0 := (N2 0 (by decide) (by decide)).trans ((up_ne (by decide)).trans (up_ne (by decide)))
      have cd : (up_ (up_ R 1 (R 1 - 0)) 9 (R 9 + 0)) (113 + 3 * i) = R (113 + 3 * i) := (up_ne (by omega)).trans (up_ne (by omega))
      have N3 : nw_ (bc_wr (bc_wr (bc_wr s 219 1 (s.1 219 1 - 0)) 219 9 ((bc_wr s 219 1 (s.1 219 1 - 0)).1 219 9 + 0)) 219 7 ((bc_wr (bc_wr s 219 1 (s.1 219 1 - 0)) 219 9 ((bc_wr s 219 1 (s.1 219 1 - 0)).1 219 9 + 0)).1 219 7 + 0)) 219 (up_ (up_ (up_ R 1 (R 1 - 0)) 9 (R 9 + 0)) 7 (R 7 + 0)) := nw_wv N2 (by rw [a7])
      have d0 : (bc_wr (bc_wr (bc_wr s 219 1 (s.1 219 1 - 0)) 219 9 ((bc_wr s 219 1 (s.1 219 1 - 0)).1 219 9 + 0)) 219 7 ((bc_wr (bc_wr s 219 1 (s.1 219 1 - 0)) 219 9 ((bc_wr s 219 1 (s.1 219 1 - 0)).1 219 9 + 0)).1 219 7 + 0)).1 219 0 = R 0 := (N3 0 (by decide) (by decide)).trans ((up_ne (by decide)).trans ((up_ne (by decide)).trans (up_ne (by decide))))
      have dd : (up_ (up_ (up_ R 1 (R 1 - 0)) 9 (R 9 + 0)) 7 (R 7 + 0)) (113 + 3 * i) = R (113 + 3 * i) := (up_ne (by omega)).trans ((up_ne (by omega)).trans (up_ne (by omega)))
      have F3 : fr_ (fun k => k = 219) σ (bc_wr (bc_wr (bc_wr s 219 1 (s.1 219 1 - 0)) 219 9 ((bc_wr s 219 1 (s.1 219 1 - 0)).1 219 9 + 0)) 219 7 ((bc_wr (bc_wr s 219 1 (s.1 219 1 - 0)) 219 9 ((bc_wr s 219 1 (s.1 219 1 - 0)).1 219 9 + 0)).1 219 7 + 0)) := fr_trans F (fr_trans (fr_wr rfl) (fr_trans (fr_wr rfl) (fr_wr rfl)))
      have q6 : (up_ (up_ (up_ R 1 (R 1 - 0)) 9 (R 9 + 0)) 7 (R 7 + 0)) 6 = q 6 := (up_ne (by decide)).trans ((up_ne (by decide)).trans ((up_ne (by decide)).trans h6))
      refine hK.1 [55] 200 _ _ _ _ _ ?_
      refine bc_ob_i (by decide) ?_
      refine bc_ob_i (by decide) ?_
      refine bc_br_i (fun _ => ?_) (fun c => absurd rfl c)
      refine bc_ob_i (by decide) ?_
      refine bc_ob_i (by decide) ?_
      refine bc_ob_i (by decide) ?_
      refine bc_br_i (fun _ => ?_) (fun c => absurd rfl c)
      refine bc_ob_i (by decide) ?_
      refine bc_ob_i (by decide) ?_
      refine bc_br_i (fun _ => ?_) (fun c => absurd rfl c)
      refine bc_ob_i (by decide) ?_
      refine t_X11_ofVow 113 N2 i8 (by decide) rfl ?_
      rw [cd]
      refine bc_ob_i (by decide) ?_
      refine bc_ob_i (by rw [c0]; constructor <;> constructor <;> omega) ?_
      refine bc_br_i (fun c => absurd c (by rw [c0]; omega)) (fun _ => ?_)
      refine bc_ob_i (by decide) ?_
      refine t_X11_ofVow 113 N3 i8 (by decide) rfl ?_
      rw [dd]
      refine bc_ob_i (by decide) ?_
      refine bc_ob_i (by rw [d0]; constructor <;> constructor <;> omega) ?_
      refine bc_br_i (fun c => absurd c (by rw [d0]; omega)) (fun _ => ?_)
      have a2 := hr.1 (112 + 3 * i) (by omega)
      have u3 : ∀ j : Int, 112 ≤ j → (up_ (up_ (up_ R 1 (R 1 - 0)) 9 (R 9 + 0)) 7 (R 7 + 0)) j = R j := fun j hj => (up_ne (by omega)).trans ((up_ne (by omega)).trans (up_ne (by omega)))
      have e0 : ((up_ (up_ (up_ R 1 (R 1 - 0)) 9 (R 9 + 0)) 7 (R 7 + 0)) (112 + 3 * i)) = P (112 + 3 * i) := (u3 _ (by omega)).trans a2
      have N4 : nw_ (bc_wr (bc_wr (bc_wr (bc_wr s 219 1 (s.1 219 1 - 0)) 219 9 ((bc_wr s 219 1 (s.1 219 1 - 0)).1 219 9 + 0)) 219 7 ((bc_wr (bc_wr s 219 1 (s.1 219 1 - 0)) 219 9 ((bc_wr s 219 1 (s.1 219 1 - 0)).1 219 9 + 0)).1 219 7 + 0)) 219 (112 + 3 * S + 0) ((up_ (up_ (up_ R 1 (R 1 - 0)) 9 (R 9 + 0)) 7 (R 7 + 0)) (112 + 3 * i))) 219 (up_ (up_ (up_ (up_ R 1 (R 1 - 0)) 9 (R 9 + 0)) 7 (R 7 + 0)) (112 + 3 * S) (P (112 + 3 * i))) := nw_w2 N3 (by omega) e0
      have e1 : ((up_ (up_ (up_ (up_ R 1 (R 1 - 0)) 9 (R 9 + 0)) 7 (R 7 + 0)) (112 + 3 * S) (P (112 + 3 * i))) (113 + 3 * i)) = P (113 + 3 * i) := (up_ne (by omega)).trans ((u3 _ (by omega)).trans ad)
      have N5 : nw_ (bc_wr (bc_wr (bc_wr (bc_wr (bc_wr s 219 1 (s.1 219 1 - 0)) 219 9 ((bc_wr s 219 1 (s.1 219 1 - 0)).1 219 9 + 0)) 219 7 ((bc_wr (bc_wr s 219 1 (s.1 219 1 - 0)) 219 9 ((bc_wr s 219 1 (s.1 219 1 - 0)).1 219 9 + 0)).1 219 7 + 0)) 219 (112 + 3 * S + 0) ((up_ (up_ (up_ R 1 (R 1 - 0)) 9 (R 9 + 0)) 7 (R 7 + 0)) (112 + 3 * i))) 219 (112 + 3 * S + 1) ((up_ (up_ (up_ (up_ R 1 (R 1 - 0)) 9 (R 9 + 0)) 7 (R 7 + 0)) (112 + 3 * S) (P (112 + 3 * i))) (113 + 3 * i))) 219 (up_ (up_ (up_ (up_ (up_ R 1 (R 1 - 0)) 9 (R 9 + 0)) 7 (R 7 + 0)) (112 + 3 * S) (P (112 + 3 * i))) (113 + 3 * S) (P (113 + 3 * i))) := nw_w2 N4 (by omega) e1
      have e2 : ((up_ (up_ (up_ (up_ (up_ R 1 (R 1 - 0)) 9 (R 9 + 0)) 7 (R 7 + 0)) (112 + 3 * S) (P (112 + 3 * i))) (113 + 3 * S) (P (113 + 3 * i))) (114 + 3 * i)) = P (114 + 3 * i) := (up_ne (by omega)).trans ((up_ne (by omega)).trans ((u3 _ (by omega)).trans au))
      have N6 : nw_ (bc_wr (bc_wr (bc_wr (bc_wr (bc_wr (bc_wr s 219 1 (s.1 219 1 - 0)) 219 9 ((bc_wr s 219 1 (s.1 219 1 - 0)).1 219 9 + 0)) 219 7 ((bc_wr (bc_wr s 219 1 (s.1 219 1 - 0)) 219 9 ((bc_wr s 219 1 (s.1 219 1 - 0)).1 219 9 + 0)).1 219 7 + 0)) 219 (112 + 3 * S + 0) ((up_ (up_ (up_ R 1 (R 1 - 0)) 9 (R 9 + 0)) 7 (R 7 + 0)) (112 + 3 * i))) 219 (112 + 3 * S + 1) ((up_ (up_ (up_ (up_ R 1 (R 1 - 0)) 9 (R 9 + 0)) 7 (R 7 + 0)) (112 + 3 * S) (P (112 + 3 * i))) (113 + 3 * i))) 219 (112 + 3 * S + 2) ((up_ (up_ (up_ (up_ (up_ R 1 (R 1 - 0)) 9 (R 9 + 0)) 7 (R 7 + 0)) (112 + 3 * S) (P (112 + 3 * i))) (113 + 3 * S) (P (113 + 3 * i))) (114 + 3 * i))) 219 (up_ (up_ (up_ (up_ (up_ (up_ R 1 (R 1 - 0)) 9 (R 9 + 0)) 7 (R 7 + 0)) (112 + 3 * S) (P (112 + 3 * i))) (113 + 3 * S) (P (113 + 3 * i))) (114 + 3 * S) (P (114 + 3 * i))) := nw_w2 N5 (by omega) e2
      have F6 : fr_ (fun k => k = 219) σ (bc_wr (bc_wr (bc_wr (bc_wr (bc_wr (bc_wr s 219 1 (s.1 219 1 - 0)) 219 9 ((bc_wr s 219 1 (s.1 219 1 - 0)).1 219 9 + 0)) 219 7 ((bc_wr (bc_wr s 219 1 (s.1 219 1 - 0)) 219 9 ((bc_wr s 219 1 (s.1 219 1 - 0)).1 219 9 + 0)).1 219 7 + 0)) 219 (112 + 3 * S + 0) ((up_ (up_ (up_ R 1 (R 1 - 0)) 9 (R 9 + 0)) 7 (R 7 + 0)) (112 + 3 * i))) 219 (112 + 3 * S + 1) ((up_ (up_ (up_ (up_ R 1 (R 1 - 0)) 9 (R 9 + 0)) 7 (R 7 + 0)) (112 + 3 * S) (P (112 + 3 * i))) (113 + 3 * i))) 219 (112 + 3 * S + 2) ((up_ (up_ (up_ (up_ (up_ R 1 (R 1 - 0)) 9 (R 9 + 0)) 7 (R 7 + 0)) (112 + 3 * S) (P (112 + 3 * i))) (113 + 3 * S) (P (113 + 3 * i))) (114 + 3 * i))) := fr_trans F3 (fr_trans (fr_wr rfl) (fr_trans (fr_wr rfl) (fr_wr rfl)))
      have z6 : (up_ (up_ (up_ (up_ (up_ (up_ R 1 (R 1 - 0)) 9 (R 9 + 0)) 7 (R 7 + 0)) (112 + 3 * S) (P (112 + 3 * i))) (113 + 3 * S) (P (113 + 3 * i))) (114 + 3 * S) (P (114 + 3 * i))) 6 = q 6 := (up_ne (by omega)).trans ((up_ne (by omega)).trans ((up_ne (by omega)).trans q6))
      have G := go _ _ (kp + 0) [(5, bc_I (P (114 + 3 * i))), (6, bc_I 0), (7, bc_I 3)] N6 F6 z6 (rk6_up (rk6_up (rk6_up (rk6_same hr) (by omega) rfl) (by omega) rfl) (by omega) rfl) (by omega)
      refine bc_ob_i (by decide) ?_
      refine bc_br_i (fun _ => ?_) (fun c => absurd (by decide) c)
      refine t_X11_ofVow 112 N3 i8 (by decide) rfl ?_
      refine bc_ob_i (by omega) ?_
      refine bc_ob_i (by decide) ?_
      refine bc_br_i (fun _ => ?_) (fun c => absurd (by decide) c)
      refine t_X11_ofVow 113 N4 i8 (by decide) rfl ?_
      refine bc_ob_i (by omega) ?_
      refine bc_ob_i (by decide) ?_
      refine bc_br_i (fun _ => ?_) (fun c => absurd (by decide) c)
      refine t_X11_ofVow 114 N5 i8 (by decide) rfl ?_
      refine bc_ob_i (by omega) ?_
      refine bc_ob_i (by decide) ?_
      refine bc_br_i (fun c => absurd c (by decide)) (fun _ => ?_)
      exact G
  have L : ∀ i : Int, ∀ (s : bc_M) (R : rw_t) (kp : Int) (z : bc_LV), 0 ≤ i → i ≤ q 4 → nw_ s 219 R → fr_ (fun k => k = 219) σ s → R 6 = q 6 → rk6_ R (vf_ (pi_ q) i.toNat).1 kp → 0 ≤ kp ∧ kp ≤ i → K 55 ([(0, bc_R 218), (1, bc_I kp), (2, bc_I (vf_ (pi_ q) i.toNat).2), (3, bc_I (q 4)), (4, bc_I i)] ++ z) [] s 0 := by
    refine up_ind (q 4) (fun i hi s R kp z i0 i1 hNs F h6 hr hkp => ?_) (fun i hi ih s R kp z i0 i1 hNs F h6 hr hkp => ?_)
    · have ei : i = q 4 := by omega
      subst ei
      have W := wv_f hd (q 4).toNat (by rw [p4]; omega)
      have e0 : vd_ (pi_ q) = up_ (vf_ (pi_ q) (q 4).toNat).1 4 (vf_ (pi_ q) (q 4).toNat).2 := rfl
      generalize vf_ (pi_ q) (q 4).toNat = p at hr W e0 ⊢
      obtain ⟨P, S⟩ := p
      have hr : rk6_ R P kp := hr
      have N1 := nw_wr (i := 4) (v := S) hNs
      have a6 : (bc_wr s 219 4 S).1 219 6 = q 6 := by rw [N1 6 (by decide) (by decide), up_ne (by decide)]; exact h6
      have N2 := nw_wr (i := 6) (v := (bc_wr s 219 4 S).1 219 6 + kp) N1
      rw [a6] at N2
      have r6 := hr.2
      have er : up_ (up_ R 4 S) 6 (q 6 + kp) = pd_ q := by
        show _ = vd_ (pi_ q)
        rw [e0]
        funext j
        by_cases j6 : j = 6
        · subst j6
          rw [up_at, up_ne (by decide)]
          show q 6 + kp = P 6
          omega
        · rw [up_ne j6]
          simp only [up_]
          split
          · rfl
          · exact hr.1 j j6
      rw [er] at N2
      have k6 : pd_ q 6 - q 6 = kp := by
        rw [← er, up_at]
        omega
      have fin := f _ N2 (fr_trans F (fr_trans (fr_wr rfl) (fr_wr rfl)))
      rw [k6] at fin
      refine hK.2 _ _ [(0, bc_R 218), (1, bc_I kp), (2, bc_I S), (3, bc_I (q 4)), (4, bc_I (q 4))] _ _ _ (ls_ _ _) ?_
      refine hK.1 [55] 60 _ _ _ _ _ ?_
      refine bc_ob_i (by constructor <;> constructor <;> omega) ?_
      refine bc_br_i (fun c => absurd c (by omega)) (fun _ => ?_)
      refine bc_ob_i (by decide) ?_
      refine bc_ob_i (by decide) ?_
      refine bc_ob_i (by decide) ?_
      rw [← a6] at fin
      exact fin
    · have en : ((i.toNat : Nat) : Int) = i := by omega
      have W := wv_f hd i.toNat (by rw [p4]; omega)
      have e0 : vf_ (pi_ q) (i + 1).toNat = vs_ (vf_ (pi_ q) i.toNat) i.toNat := by
        rw [show (i + 1).toNat = i.toNat + 1 by omega]
        rfl
      have ih' : ∀ (s' : bc_M) (R' : rw_t) (kp' : Int) (z : bc_LV), nw_ s' 219 R' → fr_ (fun k => k = 219) σ s' → R' 6 = q 6 → rk6_ R' (vs_ (vf_ (pi_ q) i.toNat) i.toNat).1 kp' → 0 ≤ kp' ∧ kp' ≤ i + 1 → K 55 ([(0, bc_R 218), (1, bc_I kp'), (2, bc_I (vs_ (vf_ (pi_ q) i.toNat) i.toNat).2), (3, bc_I (q 4)), (4, bc_I (i + 1))] ++ z) [] s' 0 := by
        intro s' R' kp' z a1 a2 a3 a4 a5
        rw [← e0] at a4 ⊢
        exact ih s' R' kp' z (by omega) (by omega) a1 a2 a3 a4 a5
      generalize hp : vf_ (pi_ q) i.toNat = p at hr W ih' ⊢
      obtain ⟨P, S⟩ := p
      have hr : rk6_ R P kp := hr
      obtain ⟨w1, w2, w3, w4, w5, w6, w7, w8, w9, w10, -⟩ := id W
      obtain ⟨x1, x2, x3⟩ := w9 i i0 (by omega)
      obtain ⟨y1, y2, y3⟩ := w10 i (by omega) (by omega)
      have y4 := (Tw i i0 (by rw [p4]; omega)).1.1
      have a0 := hr.1 0 (by decide)
      have a1 := hr.1 1 (by decide)
      have ad := hr.1 (113 + 3 * i) (by omega)
      have au := hr.1 (114 + 3 * i) (by omega)
      have v0 := hNs 0 (by decide) (by decide)
      have v1 := hNs 1 (by decide) (by decide)
      have b2 := w2.1
      have b3 := w3
      refine hK.2 _ _ [(0, bc_R 218), (1, bc_I kp), (2, bc_I S), (3, bc_I (q 4)), (4, bc_I i)] _ _ _ (ls_ _ _) ?_
      refine hK.1 [55, 102] 60 _ _ _ _ _ ?_
      refine bc_ob_i (by constructor <;> constructor <;> omega) ?_
      refine bc_br_i (fun _ => ?_) (fun c => absurd c (by omega))
      refine t_X11_ofVow 114 hNs (by omega) (by decide) rfl ?_
      refine t_X11_ofVow 113 hNs (by omega) (by decide) rfl ?_
      refine bc_ob_i (by decide) ?_
      simp only at x1 x2 x3 y1 y2 y3 b2 b3
      refine bc_ob_i (by constructor <;> constructor <;> omega) ?_
      refine bc_br_i (fun c => ?_) (fun c => ?_)
      · refine bc_ob_i (by decide) ?_
        refine bc_ob_i (by constructor <;> constructor <;> omega) ?_
        refine bc_br_i (fun c2 => ?_) (fun c2 => ?_)
        · exact D i i.toNat s R P S kp _ _ en hi hNs F h6 hr hkp W au (by first | exact (if_pos (by omega)).symm | exact (if_neg (by omega)).symm) ih'
        · exact D i i.toNat s R P S kp _ _ en hi hNs F h6 hr hkp W au (by first | exact (if_pos (by omega)).symm | exact (if_neg (by omega)).symm) ih'
      · exact D i i.toNat s R P S kp _ _ en hi hNs F h6 hr hkp W au (by first | exact (if_pos (by omega)).symm | exact (if_neg (by omega)).symm) ih'
  have v0 := hN 0 (by decide) (by decide)
  have N1 : nw_ (bc_wr σ 219 0 (σ.1 219 0 + 1)) 219 (up_ q 0 (q 0 + 1)) := nw_wv hN (by rw [v0])
  have a1 : (bc_wr σ 219 0 (σ.1 219 0 + 1)).1 219 1 = q 1 := (N1 1 (by decide) (by decide)).trans (up_ne (by decide))
  have a2 : (bc_wr σ 219 0 (σ.1 219 0 + 1)).1 219 2 = q 2 := (N1 2 (by decide) (by decide)).trans (up_ne (by decide))
  have N2 : nw_ (bc_wr (bc_wr σ 219 0 (σ.1 219 0 + 1)) 219 1 ((bc_wr σ 219 0 (σ.1 219 0 + 1)).1 219 1 + (bc_wr σ 219 0 (σ.1 219 0 + 1)).1 219 2)) 219 (up_ (up_ q 0 (q 0 + 1)) 1 (q 1 + q 2)) := nw_wv N1 (by rw [a1, a2])
  suffices H : ∀ (s : bc_M) (x y z : Int), s.1 219 8 = q 8 → s.1 219 2 = q 2 → nw_ s 219 (up_ (up_ q 0 (q 0 + 1)) 1 (q 1 + q 2)) → fr_ (fun k => k = 219) σ s → y = s.1 219 8 + s.1 219 2 → x = (bc_wr s 219 8 y).1 219 4 → K 55 [(0, bc_R 218), (1, bc_I 0), (2, bc_I 0), (3, bc_I x), (4, bc_I 0)] [] (bc_wr s 219 8 y) 0 by
    refine hK.1 [55] 80 _ _ _ _ _ ?_
    refine bc_ob_i (by decide) ?_
    refine bc_ob_i (by decide) ?_
    refine bc_ob_i (by decide) ?_
    refine bc_ob_i (by decide) ?_
    refine bc_ob_i (by decide) ?_
    refine bc_ob_i (by decide) ?_
    refine bc_ob_i (by decide) ?_
    refine bc_ob_i (by decide) ?_
    refine bc_ob_i (by decide) ?_
    exact H _ _ _ 0 ((N2 8 (by decide) (by decide)).trans ((up_ne (by decide)).trans (up_ne (by decide)))) ((N2 2 (by decide) (by decide)).trans ((up_ne (by decide)).trans (up_ne (by decide)))) N2 (fr_trans (fr_wr rfl) (fr_wr rfl)) rfl rfl
  intro s x y z h8 h2 N F hy hx
  have N3 : nw_ (bc_wr s 219 8 y) 219 (pi_ q) := nw_wv N (by rw [hy, h8, h2])
  have e4 : x = q 4 := by rw [hx, N3 4 (by decide) (by decide)]; rfl
  subst e4
  exact L 0 _ (pi_ q) 0 [] (by decide) T4.1 N3 (fr_trans F (fr_wr rfl)) rfl ⟨fun _ _ => rfl, by show pi_ q 6 = _; omega⟩ (by omega)
end REF
end
section
/-! the reference: days go by; the calls that change the state, whole -/
section REF
variable {g : bc_C} {d : Nat} {σ : bc_M} {q b : rw_t} {h : List rw_t} {Rr : Option bc_A → bc_M → Prop} {X : Nat → bc_M → Prop} {B : Int}
theorem t_X11_waits {n : Int} (hG : rg_ σ q h) (hb : nw_ σ 220 b) (hT : wf_T B q) (hB : B + 30 ≤ 1000000) (hn : bc_in n) (f1 : ¬ (1 ≤ n ∧ n ≤ 30) → ∀ σ', su_ 1 q h b σ σ' → Rr (some (bc_I 0)) σ') (f0 : 1 ≤ n ∧ n ≤ 30 → ∀ σ', su_ 0 (ps_ q n.toNat) h b σ σ' → Rr (some (bc_I (ps_ q n.toNat 6 - q 6))) σ') : bc_Sem g (d + 3) mX11_waits [bc_R 218, bc_I n] σ Rr X := by
  obtain ⟨hN, hH⟩ := hG
  refine e_X11_waits rfl (fun K hK => ?_)
  by_cases c : 1 ≤ n ∧ n ≤ 30
  · have E : ∀ s : bc_M, nw_ s 219 (ps_ q n.toNat) → fr_ (fun k => k = 219) σ s → K 36 [(0, bc_R 218), (1, bc_I n), (2, bc_I (ps_ q n.toNat 6 - q 6)), (3, bc_I 1), (4, bc_I n)] [] s 0 := by
      intro s N F
      have G1 : rg_ s (ps_ q n.toNat) h := ⟨N, mh_fr hH F (by decide) (by rw [F.1 218 (by decide)])⟩
      have S1 := su_t G1 (nw_fr hb F (by decide)) (1 - 1)
      refine hK.1 [] 60 _ _ _ _ _ ?_
      refine t_X11_goes (by decide) ?_
      refine bc_ob_i (by decide) ?_
      refine bc_br_i (fun q => absurd q (by decide)) (fun _ => ?_)
      exact f0 c _ ⟨S1.1, S1.2.1, fr_trans (fr_mono F (fun k hk => by omega)) S1.2.2.1, fj_trans (fj_fr F (by decide)) S1.2.2.2⟩
    have L : ∀ i : Int, ∀ (s : bc_M), 0 ≤ i → i ≤ n → nw_ s 219 (ps_ q i.toNat) → fr_ (fun k => k = 219) σ s → K 13 [(0, bc_R 218), (1, bc_I n), (2, bc_I (ps_ q i.toNat 6 - q 6)), (3, bc_I 1), (4, bc_I i)] [] s 0 := by
      refine up_ind n (fun i hi s i0 i1 N F => ?_) (fun i hi ih s i0 i1 N F => ?_)
      · have ei : i = n := by omega
        subst ei
        refine hK.1 [13, 36] 60 _ _ _ _ _ ?_
        refine bc_ob_i (by omega) ?_
        refine bc_br_i (fun c => absurd c (by omega)) (fun _ => ?_)
        exact E s N F
      · have W := (ps_wf hT i.toNat).1
        refine hK.1 [13, 36] 60 _ _ _ _ _ ?_
        refine bc_ob_i (by omega) ?_
        refine bc_br_i (fun _ => ?_) (fun c => absurd c (by omega))
        refine bc_ob_i (by decide) ?_
        refine bc_br_i (fun c => absurd c (by decide)) (fun _ => ?_)
        refine t_X11_passes N W (by omega) (fun s2 N2 F2 => ?_)
        have e1 : pd_ (ps_ q i.toNat) = ps_ q (i + 1).toNat := by
          rw [show (i + 1).toNat = i.toNat + 1 by omega]
          rfl
        rw [e1] at N2 ⊢
        have H := ih s2 (by omega) (by omega) N2 (fr_trans F F2)
        rw [show ps_ q (i + 1).toNat 6 - q 6 = ps_ q i.toNat 6 - q 6 + (ps_ q (i + 1).toNat 6 - ps_ q i.toNat 6) by omega] at H
        exact H
    refine hK.1 [13] 60 _ _ _ _ _ ?_
    refine t_X11_isIn hn (by decide) (by decide) ?_
    rw [if_pos c]
    have H := L 0 σ (by decide) (by omega) hN (fr_refl _)
    rw [show ps_ q (0 : Int).toNat 6 - q 6 = 0 by show q 6 - q 6 = 0; omega] at H
    exact H
  · have E : ∀ (s : bc_M) (i : Int), s = σ → K 36 [(0, bc_R 218), (1, bc_I n), (2, bc_I 0), (3, bc_I 0), (4, bc_I i)] [] s 0 := by
      intro s i e
      subst e
      refine hK.1 [] 60 _ _ _ _ _ ?_
      refine t_X11_goes (by decide) ?_
      refine bc_ob_i (by decide) ?_
      refine bc_br_i (fun _ => ?_) (fun q => absurd rfl q)
      exact f1 c _ (su_t ⟨hN, hH⟩ hb (1 - 0))
    refine hK.1 [36] 80 _ _ _ _ _ ?_
    refine t_X11_isIn hn (by decide) (by decide) ?_
    rw [if_neg c]
    refine bc_ob_i (by omega) ?_
    refine bc_br_i (fun _ => ?_) (fun _ => ?_)
    · refine bc_ob_i (by decide) ?_
      refine bc_br_i (fun _ => ?_) (fun c => absurd rfl c)
      exact E _ 0 rfl
    · exact E _ 0 rfl
/-- a whole call: thrown t, row q, history h -/
noncomputable def spo_ (t : Int) (q : rw_t) (h : List rw_t) (σ σ' : bc_M) : Prop := rg_ σ' q h ∧ σ'.1 218 ((14 : Nat) : Int) = t ∧ fr_ ey_ σ σ' ∧ fj_ ej_ σ σ'
theorem t_X11_begins2 {K : Option bc_A → bc_M → Prop} (hG : rg_ σ q h) (f : ∀ σ', rg_ σ' q h → nw_ σ' 220 q → fr_ ey_ σ σ' → fj_ ej_ σ σ' → K none σ') : bc_Sem g (d + 2) mX11_begins [bc_R 218] σ K X := by
  refine t_X11_begins hG.1 (fun σ1 b1 g1 => ?_)
  exact f σ1 ⟨nw_fr hG.1 g1 (by decide), mh_fr hG.2 g1 (by decide) (by rw [g1.1 218 (by decide)])⟩ b1 (fr_mono g1 (fun k hk => by omega)) (fj_fr g1 (by decide))
theorem t_X11_ends1 {x t : Int} {σ0 σ1 : bc_M} (F0 : fr_ ey_ σ0 σ1) (J0 : fj_ ej_ σ0 σ1) (S : su_ t q h b σ1 σ) (t0 : 1 ≤ t ∧ t ≤ 4) (f : ∀ σ', spo_ t b h σ0 σ' → Rr (some (bc_I 0)) σ') : bc_Sem g (d + 3) mX11_ends [bc_R 218, bc_I x] σ Rr X := by
  obtain ⟨⟨G2, b2⟩, t2, g2, j2⟩ := S
  refine t_X11_ends G2 b2 t2 (by omega) (fun _ σ3 G3 t3 g3 j3 => ?_) (fun e => absurd e (by omega))
  exact f σ3 ⟨G3, t3, fr_trans F0 (fr_trans g2 (ey_ex g3)), fj_trans J0 (fj_trans j2 j3)⟩
theorem t_X11_ends0 {x : Int} {σ0 σ1 : bc_M} (F0 : fr_ ey_ σ0 σ1) (J0 : fj_ ej_ σ0 σ1) (S : su_ 0 q h b σ1 σ) (f : ∀ σ', spo_ 0 q (hr_ h b) σ0 σ' → Rr (some (bc_I x)) σ') : bc_Sem g (d + 3) mX11_ends [bc_R 218, bc_I x] σ Rr X := by
  obtain ⟨⟨G2, b2⟩, t2, g2, j2⟩ := S
  refine t_X11_ends G2 b2 t2 (by decide) (fun e => absurd rfl e) (fun _ σ3 G3 t3 g3 j3 => ?_)
  exact f σ3 ⟨G3, t3, fr_trans F0 (fr_trans g2 (ey_ex g3)), fj_trans J0 (fj_trans j2 j3)⟩
theorem er_le (q : rw_t) (m : Int) : 0 ≤ er_ q m ∧ er_ q m ≤ 4 := by
  unfold er_
  (repeat' split) <;> omega
theorem put_le (q : rw_t) (p c w : Int) : 0 ≤ put_ q p c w ∧ put_ q p c w ≤ 4 := by
  unfold put_
  (repeat' split) <;> omega
theorem adr_le {q : rw_t} {x y s t : Int} (h : adr_ q x y s t) : 0 ≤ t ∧ t ≤ 4 := by
  rcases h with ⟨-, e⟩ | ⟨-, -, e⟩ | ⟨-, -, -, e⟩ | ⟨-, -, -, -, e⟩ <;> omega
theorem t_X11_repair {m : Int} (hG : rg_ σ q h) (hW : wf_M q) (hT : wf_T B q) (hB : B ≤ 1000000) (hm : bc_in m)
    (f1 : er_ q m ≠ 0 → ∀ σ', spo_ (er_ q m) q h σ σ' → Rr (some (bc_I 0)) σ')
    (f0 : er_ q m = 0 → ∀ σ', spo_ 0 (rn_ (rs_ q (co_ q m)) m) (hr_ h q) σ σ' → Rr (some (bc_I (co_ q m))) σ') : bc_Sem g (d + 7) mX11_repair [bc_R 218, bc_I m] σ Rr X := by
  have le := er_le q m
  refine e_X11_repair rfl (fun K hK => ?_)
  refine hK.1 [] 60 _ _ _ _ _ ?_
  refine t_X11_begins2 hG (fun σ1 G1 b1 F1 J1 => ?_)
  refine t_X11_repairs G1 b1 hW hT hB hm (fun c σ2 S2 => ?_) (fun c σ2 S2 => ?_)
  · exact t_X11_ends1 F1 J1 S2 (by omega) (f1 c)
  · exact t_X11_ends0 F1 J1 S2 (f0 c)
theorem t_X11_put {p c w : Int} (hG : rg_ σ q h) (hW : wf_N q) (hp : bc_in p) (hc : bc_in c) (hw : bc_in w)
    (f1 : put_ q p c w ≠ 0 → ∀ σ', spo_ (put_ q p c w) q h σ σ' → Rr (some (bc_I 0)) σ')
    (f0 : put_ q p c w = 0 → ∀ σ', spo_ 0 (rp_ q p w) (hr_ h q) σ σ' → Rr (some (bc_I (tw_ (rp_ q p w)))) σ') : bc_Sem g (d + 4) mX11_put [bc_R 218, bc_I p, bc_I c, bc_I w] σ Rr X := by
  have le := put_le q p c w
  refine e_X11_put rfl (fun K hK => ?_)
  refine hK.1 [] 60 _ _ _ _ _ ?_
  refine t_X11_begins2 hG (fun σ1 G1 b1 F1 J1 => ?_)
  refine t_X11_puts G1 b1 hW hp hc hw (fun c σ2 S2 => ?_) (fun c σ2 S2 => ?_)
  · exact t_X11_ends1 F1 J1 S2 (by omega) (f1 c)
  · exact t_X11_ends0 F1 J1 S2 (f0 c)
theorem t_X11_addMember {x y s : Int} (hG : rg_ σ q h) (hW : wf_M q) (hx : bc_in x) (hy : bc_in y) (hs : bc_in s)
    (f1 : ∀ t, adr_ q x y s t → t ≠ 0 → ∀ σ', spo_ t q h σ σ' → Rr (some (bc_I 0)) σ')
    (f0 : adr_ q x y s 0 → ∀ σ', spo_ 0 (ra_ q x y s) (hr_ h q) σ σ' → Rr (some (bc_I (q 3))) σ') : bc_Sem g (d + 8) mX11_addMember [bc_R 218, bc_I x, bc_I y, bc_I s] σ Rr X := by
  refine e_X11_addMember rfl (fun K hK => ?_)
  refine hK.1 [] 60 _ _ _ _ _ ?_
  refine t_X11_begins2 hG (fun σ1 G1 b1 F1 J1 => ?_)
  refine t_X11_adds G1 b1 hW hx hy hs (fun t a c σ2 S2 => ?_) (fun c σ2 S2 => ?_)
  · have le := adr_le a
    exact t_X11_ends1 F1 J1 S2 (by omega) (f1 t a c)
  · exact t_X11_ends0 F1 J1 S2 (f0 c)
theorem t_X11_passDays {n : Int} (hG : rg_ σ q h) (hT : wf_T B q) (hB : B + 30 ≤ 1000000) (hn : bc_in n)
    (f1 : ¬ (1 ≤ n ∧ n ≤ 30) → ∀ σ', spo_ 1 q h σ σ' → Rr (some (bc_I 0)) σ')
    (f0 : 1 ≤ n ∧ n ≤ 30 → ∀ σ', spo_ 0 (ps_ q n.toNat) (hr_ h q) σ σ' → Rr (some (bc_I (ps_ q n.toNat 6 - q 6))) σ') : bc_Sem g (d + 4) mX11_passDays [bc_R 218, bc_I n] σ Rr X := by
  refine e_X11_passDays rfl (fun K hK => ?_)
  refine hK.1 [] 60 _ _ _ _ _ ?_
  refine t_X11_begins2 hG (fun σ1 G1 b1 F1 J1 => ?_)
  refine t_X11_waits G1 b1 hT hB hn (fun c σ2 S2 => ?_) (fun c σ2 S2 => ?_)
  · exact t_X11_ends1 F1 J1 S2 (by decide) (f1 c)
  · exact t_X11_ends0 F1 J1 S2 (f0 c)
theorem t_X11_save (hG : rg_ σ q h) (f : ∀ σ', rg_ σ' q h → nw_ σ' 221 q → σ'.1 218 ((4 : Nat) : Int) = 1 → σ'.1 218 ((14 : Nat) : Int) = 0 → fr_ (fun k => k = 218 ∨ k = 221) σ σ' → fj_ (fun j => j = 4 ∨ j = 14) σ σ' → Rr (some (bc_I (q 3))) σ') : bc_Sem g (d + 2) mX11_save [bc_R 218] σ Rr X := by
  obtain ⟨hN, hH⟩ := hG
  refine e_X11_save rfl (fun K hK => ?_)
  refine hK.1 [] 60 _ _ _ _ _ ?_
  have F0 : fr_ (fun k => k = 218) σ (bc_wr σ 218 ((14 : Nat) : Int) 0) := fr_wr rfl
  refine t_X11_copies (.inr (.inr (.inr (.inl ⟨rfl, rfl⟩)))) (by decide) (by decide) (fun σ2 hc => ?_)
  have F : fr_ (fun k => k = 218 ∨ k = 221) σ σ2 := fr_trans (fr_wr (.inl rfl)) (fr_mono hc.1 (fun k hk => .inr hk))
  have t2 : σ2.1 218 ((14 : Nat) : Int) = 0 := by
    rw [hc.1.1 218 (by decide)]
    simp [bc_wr]
  refine bc_ob_i (by decide) ?_
  refine bc_ob_i (by decide) ?_
  have F4 : fr_ (fun k => k = 218) σ2 (bc_wr σ2 218 ((4 : Nat) : Int) 1) := fr_wr rfl
  have F3 : fr_ (fun k => k = 218 ∨ k = 221) σ (bc_wr σ2 218 ((4 : Nat) : Int) 1) := fr_trans F (fr_mono F4 (fun k hk => .inl hk))
  have e3 := nw_fr hN F3 (by decide) 3 (by decide) (by decide)
  have N2 : nw_ σ2 221 q := fun j j0 j1 => by
    have := hc.2.1 j j0 j1
    rw [show (0 : Int) + j = j by omega] at this
    rw [this, F0.1 219 (by decide)]
    exact hN j j0 j1
  have J : fj_ (fun j => j = 4 ∨ j = 14) σ (bc_wr σ2 218 ((4 : Nat) : Int) 1) := fj_trans (fj_wr (.inr rfl)) (fj_trans (fj_fr hc.1 (by decide)) (fj_wr (.inl rfl)))
  have h5 : (bc_wr σ2 218 ((4 : Nat) : Int) 1).1 218 ((5 : Nat) : Int) = σ.1 218 ((5 : Nat) : Int) := J _ (by decide)
  exact rt_ (f _ ⟨nw_fr hN F3 (by decide), mh_fr hH F3 (by decide) h5⟩ (nw_fr N2 F4 (by decide)) (by simp [bc_wr]) (by rw [← t2]; simp [bc_wr]) F3 J) e3
theorem t_X11_restore0 (hG : rg_ σ q h) (z : σ.1 218 ((4 : Nat) : Int) = 0) (f : ∀ σ', spo_ 1 q h σ σ' → Rr (some (bc_I 0)) σ') : bc_Sem g (d + 3) mX11_restore [bc_R 218] σ Rr X := by
  refine e_X11_restore rfl (fun K hK => ?_)
  refine hK.1 [] 60 _ _ _ _ _ ?_
  refine t_X11_goes (by omega) ?_
  refine bc_ob_i (by omega) ?_
  refine bc_br_i (fun _ => ?_) (fun c => absurd z c)
  have F : fr_ (fun k => k = 218) σ (bc_wr σ 218 ((14 : Nat) : Int) (1 - σ.1 218 ((4 : Nat) : Int))) := fr_wr rfl
  exact f _ ⟨⟨nw_fr hG.1 F (by decide), mh_fr hG.2 F (by decide) (by simp [bc_wr])⟩, by rw [z]; simp [bc_wr], fr_mono F (fun k hk => by omega), fj_wr (.inr rfl)⟩
theorem t_X11_restore1 {p : rw_t} (hG : rg_ σ q h) (hp : nw_ σ 221 p) (z : σ.1 218 ((4 : Nat) : Int) = 1) (f : ∀ σ', spo_ 0 p [] σ σ' → Rr (some (bc_I (p 3))) σ') : bc_Sem g (d + 3) mX11_restore [bc_R 218] σ Rr X := by
  refine e_X11_restore rfl (fun K hK => ?_)
  refine hK.1 [] 60 _ _ _ _ _ ?_
  refine t_X11_goes (by omega) ?_
  refine bc_ob_i (by omega) ?_
  refine bc_br_i (fun c => absurd c (by omega)) (fun _ => ?_)
  have F : fr_ (fun k => k = 218) σ (bc_wr σ 218 ((14 : Nat) : Int) (1 - σ.1 218 ((4 : Nat) : Int))) := fr_wr rfl
  refine t_X11_copies (.inr (.inr (.inr (.inr (.inl ⟨rfl, rfl⟩))))) (by decide) (by decide) (fun σ2 hc => ?_)
  have N2 : nw_ σ2 219 p := fun j j0 j1 => by
    have := hc.2.1 j j0 j1
    rw [show (0 : Int) + j = j by omega] at this
    rw [this, F.1 221 (by decide)]
    exact hp j j0 j1
  have F5 : fr_ (fun k => k = 218) σ2 (bc_wr σ2 218 ((5 : Nat) : Int) 0) := fr_wr rfl
  have N3 := nw_fr N2 F5 (by decide)
  have e3 := N3 3 (by decide) (by decide)
  refine bc_ob_i (by decide) ?_
  have J : fj_ ej_ σ (bc_wr σ2 218 ((5 : Nat) : Int) 0) := fj_trans (fj_wr (.inr rfl)) (fj_trans (fj_fr hc.1 (by decide)) (fj_wr (.inl rfl)))
  have t14 : (bc_wr σ2 218 ((5 : Nat) : Int) 0).1 218 ((14 : Nat) : Int) = 0 := by
    have e1 : (bc_wr σ2 218 ((5 : Nat) : Int) 0).1 218 ((14 : Nat) : Int) = σ2.1 218 ((14 : Nat) : Int) := by simp [bc_wr]
    rw [e1, hc.1.1 218 (by decide), z]
    simp [bc_wr]
  exact rt_ (f _ ⟨⟨N3, by simp [bc_wr], by decide, fun t ht => absurd ht (by simp)⟩, t14, fr_trans (fr_mono F (fun k hk => by omega)) (fr_trans (fr_mono hc.1 (fun k hk => by omega)) (fr_mono F5 (fun k hk => by omega))), J⟩) e3
end REF
end
section
/-! the reference: the widest way, the fewest members, mirrored -/
noncomputable def xw1_ (q : rw_t) (m : Int) (f : Int → Int) : Int → Int := up_ (up_ f (q (17 + 6 * m)) (max (f (q (17 + 6 * m))) (min (f (q (16 + 6 * m))) (br_ q m)))) (q (16 + 6 * m)) (max ((up_ f (q (17 + 6 * m)) (max (f (q (17 + 6 * m))) (min (f (q (16 + 6 * m))) (br_ q m)))) (q (16 + 6 * m))) (min ((up_ f (q (17 + 6 * m)) (max (f (q (17 + 6 * m))) (min (f (q (16 + 6 * m))) (br_ q m)))) (q (17 + 6 * m))) (br_ q m)))
noncomputable def xw2_ (q : rw_t) (f : Int → Int) (k : Nat) : Int → Int := fo_ (fun m f => xw1_ q m f) f k
noncomputable def xw0_ (a : Int) : Int → Int := fun j => if j = a then 99999 else 0
noncomputable def xw_ (q : rw_t) (a : Int) (k : Nat) : Int → Int := fo_ (fun _ f => xw2_ q f (q 3).toNat) (xw0_ a) k
theorem ar_w2 {σ : bc_M} {c : Nat} {f : Int → Int} {i v w : Int} (h : ar_ σ c f) (e : v = w) : ar_ (bc_wr σ c i v) c (up_ f i w) := fun j j0 j1 => by
  subst e
  simp only [bc_wr, if_true, up_]
  split
  · rfl
  · exact h j j0 j1
theorem lmu_ {f : Int → Int} {M i v : Int} (h : lm_ f M) (hv : 0 ≤ v ∧ v ≤ M) : lm_ (up_ f i v) M := fun j j0 j1 => by
  unfold up_
  split
  · exact hv
  · exact h j j0 j1
theorem bre_ {q : rw_t} (hW : wf_M q) {m : Int} (m0 : 0 ≤ m) (m1 : m < 16) : 0 ≤ br_ q m ∧ br_ q m ≤ 99 := by
  obtain ⟨g0, g1, g2, g3, g4, g5⟩ := hW.2 m m0 m1
  have hp := mul_le g2.1 g2.2 (b := 10 - q (19 + 6 * m)) (B := 10) (by omega) (by omega)
  unfold br_
  split
  · constructor <;> omega
  · decide
theorem xw1_lm {q : rw_t} (hW : wf_M q) {m : Int} (m0 : 0 ≤ m) (m1 : m < 16) {f : Int → Int} (h : lm_ f 99999) : lm_ (xw1_ q m f) 99999 := by
  obtain ⟨g0, g1, -⟩ := hW.2 m m0 m1
  have hb := bre_ hW m0 m1
  have a1 := h (q (16 + 6 * m)) g0.1 (by omega)
  have a2 := h (q (17 + 6 * m)) g1.1 (by omega)
  have l1 : lm_ (up_ f (q (17 + 6 * m)) (max (f (q (17 + 6 * m))) (min (f (q (16 + 6 * m))) (br_ q m)))) 99999 := lmu_ h (by omega)
  have b1 := l1 (q (16 + 6 * m)) g0.1 (by omega)
  have b2 := l1 (q (17 + 6 * m)) g1.1 (by omega)
  unfold xw1_
  exact lmu_ l1 (by omega)
theorem xw2_lm {q : rw_t} (hW : wf_M q) {f : Int → Int} (h : lm_ f 99999) (k : Nat) (hk : (k : Int) ≤ q 3) : lm_ (xw2_ q f k) 99999 := by
  have w := hW.1
  exact fo_inv (n := k) (P := fun x => lm_ x 99999) h (fun i x i0 i1 hx => xw1_lm hW i0 (by omega) hx) k (Nat.le_refl k)
theorem xw0_lm (a : Int) : lm_ (xw0_ a) 99999 := fun j _ _ => by
  unfold xw0_
  split <;> decide
theorem xw_lm {q : rw_t} (hW : wf_M q) (a : Int) (k : Nat) : lm_ (xw_ q a k) 99999 := by
  have w := hW.1
  exact fo_inv (n := k) (P := fun x => lm_ x 99999) (xw0_lm a) (fun i x i0 i1 hx => xw2_lm hW hx _ (by omega)) k (Nat.le_refl k)
section REF
variable {g : bc_C} {d : Nat} {σ : bc_M} {q b : rw_t} {h : List rw_t} {Rr : Option bc_A → bc_M → Prop} {X : Nat → bc_M → Prop} {B : Int}
theorem t_X11_widest {u v : Int} (hN : nw_ σ 219 q) (hW : wf_M q) (a0 : 0 ≤ u ∧ u < 8) (b0 : 0 ≤ v ∧ v < 8) (f : ∀ σ', fr_ (fun k => k = 223) σ σ' → Rr (some (bc_I (xw_ q u 8 v))) σ') : bc_Sem g (d + 6) mX11_widest [bc_R 218, bc_I u, bc_I v] σ Rr X := by
  have w3 := hW.1
  refine e_X11_widest rfl (fun K hK => ?_)
  have Lm : ∀ (i : Int) (F : Int → Int), lm_ F 99999 → (∀ (s : bc_M) (z : bc_LV), ar_ s 223 (xw2_ q F (q 3).toNat) → fr_ (fun k => k = 223) σ s → K 15 ([(0, bc_R 218), (1, bc_I u), (2, bc_I v), (3, bc_I (i + 1))] ++ z) [] s 0) → ∀ m : Int, ∀ (s : bc_M) (z : bc_LV), 0 ≤ m → m ≤ q 3 → ar_ s 223 (xw2_ q F m.toNat) → fr_ (fun k => k = 223) σ s → K 24 ([(0, bc_R 218), (1, bc_I u), (2, bc_I v), (3, bc_I i), (4, bc_I m)] ++ z) [] s 0 := by
    intro i F hF go
    refine up_ind (q 3) (fun m hm s z m0 m1 ha Fr => ?_) (fun m hm ih s z m0 m1 ha Fr => ?_)
    · have em : m = q 3 := by omega
      subst em
      have e3 := (nw_fr hN Fr (by decide)) 3 (by decide) (by decide)
      refine hK.2 _ _ [(0, bc_R 218), (1, bc_I u), (2, bc_I v), (3, bc_I i), (4, bc_I (q 3))] _ _ _ (ls_ _ _) ?_
      refine hK.1 [15, 24] 60 _ _ _ _ _ ?_
      refine bc_ob_i (by decide) ?_
      refine bc_ob_i (by omega) ?_
      refine bc_br_i (fun c => absurd c (by omega)) (fun _ => ?_)
      exact go s [(4, bc_I (q 3))] ha Fr
    · have hNs := nw_fr hN Fr (by decide)
      have e3 := hNs 3 (by decide) (by decide)
      obtain ⟨g0, g1, -⟩ := hW.2 m m0 (by omega)
      have hb := bre_ hW m0 (by omega : m < 16)
      have hl := xw2_lm hW hF m.toNat (by omega)
      have es : xw2_ q F (m + 1).toNat = xw1_ q m (xw2_ q F m.toNat) := fo_s m0
      rw [es] at ih
      generalize xw2_ q F m.toNat = G at ha hl ih
      have a1 := hl (q (16 + 6 * m)) g0.1 (by omega)
      have a2 := hl (q (17 + 6 * m)) g1.1 (by omega)
      have x1 := ha (q (16 + 6 * m)) g0.1 (by omega)
      have x2 := ha (q (17 + 6 * m)) g1.1 (by omega)
      have A1 : ar_ (bc_wr s 223 (q (17 + 6 * m)) (max (s.1 223 (q (17 + 6 * m))) (min (s.1 223 (q (16 + 6 * m))) (br_ q m)))) 223 (up_ G (q (17 + 6 * m)) (max (G (q (17 + 6 * m))) (min (G (q (16 + 6 * m))) (br_ q m)))) := ar_w2 ha (by rw [x1, x2])
      have l1 : lm_ (up_ G (q (17 + 6 * m)) (max (G (q (17 + 6 * m))) (min (G (q (16 + 6 * m))) (br_ q m)))) 99999 := lmu_ hl (by omega)
      have b1 := l1 (q (16 + 6 * m)) g0.1 (by omega)
      have b2 := l1 (q (17 + 6 * m)) g1.1 (by omega)
      have y1 := A1 (q (16 + 6 * m)) g0.1 (by omega)
      have y2 := A1 (q (17 + 6 * m)) g1.1 (by omega)
      have f1 : fr_ (fun k => k = 223) s (bc_wr s 223 (q (17 + 6 * m)) (max (s.1 223 (q (17 + 6 * m))) (min (s.1 223 (q (16 + 6 * m))) (br_ q m)))) := fr_wr rfl
      refine hK.2 _ _ [(0, bc_R 218), (1, bc_I u), (2, bc_I v), (3, bc_I i), (4, bc_I m)] _ _ _ (ls_ _ _) ?_
      refine hK.1 [15, 24] 100 _ _ _ _ _ ?_
      refine bc_ob_i (by decide) ?_
      refine bc_ob_i (by omega) ?_
      refine bc_br_i (fun _ => ?_) (fun c => absurd c (by omega))
      refine t_X11_ofM 16 hNs hW m0 hm (by decide) rfl ?_
      refine t_X11_ofM 17 hNs hW m0 hm (by decide) rfl ?_
      refine bc_ob_i (by omega) ?_
      refine bc_ob_i (by omega) ?_
      refine t_X11_bears hNs hW m0 hm ?_
      refine bc_ob_i ⟨by rw [x1]; constructor <;> omega, by constructor <;> omega, Nat.le_of_ble_eq_true rfl⟩ ?_
      refine bc_ob_i ⟨by rw [x2]; constructor <;> omega, by rw [x1]; constructor <;> omega, Nat.le_of_ble_eq_true rfl⟩ ?_
      refine bc_ob_i (by omega) ?_
      refine bc_ob_i (by omega) ?_
      refine bc_ob_i (by omega) ?_
      refine t_X11_bears (nw_fr hNs f1 (by decide)) hW m0 hm ?_
      refine bc_ob_i ⟨by rw [y2]; constructor <;> omega, by constructor <;> omega, Nat.le_of_ble_eq_true rfl⟩ ?_
      refine bc_ob_i ⟨by rw [y1]; constructor <;> omega, by rw [y2]; constructor <;> omega, Nat.le_of_ble_eq_true rfl⟩ ?_
      refine bc_ob_i (by omega) ?_
      exact ih _ [(5, bc_I (q (16 + 6 * m))), (6, bc_I (q (17 + 6 * m)))] (by omega) (by omega) (ar_w2 A1 (by rw [y1, y2])) (fr_trans Fr (fr_trans f1 (fr_wr rfl)))
  have L : ∀ i : Int, ∀ (s : bc_M) (z : bc_LV), 0 ≤ i → i ≤ 8 → ar_ s 223 (xw_ q u i.toNat) → fr_ (fun k => k = 223) σ s → K 15 ([(0, bc_R 218), (1, bc_I u), (2, bc_I v), (3, bc_I i)] ++ z) [] s 0 := by
    refine up_ind 8 (fun i hi s z i0 i1 ha F => ?_) (fun i hi ih s z i0 i1 ha F => ?_)
    · have ei : i = 8 := by omega
      subst ei
      refine hK.2 _ _ [(0, bc_R 218), (1, bc_I u), (2, bc_I v), (3, bc_I 8)] _ _ _ (ls_ _ _) ?_
      refine hK.1 [15] 60 _ _ _ _ _ ?_
      refine bc_ob_i (by decide) ?_
      refine bc_br_i (fun c => absurd c (by decide)) (fun _ => ?_)
      refine bc_ob_i b0 ?_
      exact rt_ (f s F) (ha v b0.1 b0.2)
    · refine hK.2 _ _ [(0, bc_R 218), (1, bc_I u), (2, bc_I v), (3, bc_I i)] _ _ _ (ls_ _ _) ?_
      refine hK.1 [15, 24] 60 _ _ _ _ _ ?_
      refine bc_ob_i (by omega) ?_
      refine bc_br_i (fun _ => ?_) (fun c => absurd hi c)
      refine Lm i (xw_ q u i.toNat) (xw_lm hW u _) (fun s' z' h1 h2 => ih s' z' (by omega) (by omega) ?_ h2) 0 s [] (by decide) w3.1 ha F
      have e : xw_ q u (i + 1).toNat = xw2_ q (xw_ q u i.toNat) (q 3).toNat := fo_s i0
      rw [e]
      exact h1
  refine hK.1 [15] 60 _ _ _ _ _ ?_
  refine t_X11_fills (fun σ1 h1 f1 => ?_)
  refine bc_ob_i a0 ?_
  refine L 0 _ [] (by decide) (by decide) (fun j j0 j1 => ?_) (fr_trans f1 (fr_wr rfl))
  show (bc_wr σ1 223 u 99999).1 223 j = xw0_ u j
  simp only [bc_wr, if_true]
  unfold xw0_
  split
  · rfl
  · exact h1 j j0 j1
end REF
end
section
/-! the reference: how far, mirrored -/
noncomputable def xm1_ (q : rw_t) (l w m : Int) (f : Int → Int) : Int → Int := if m ≠ w ∧ l ≤ br_ q m then up_ (up_ f (q (17 + 6 * m)) (min (f (q (17 + 6 * m))) (f (q (16 + 6 * m)) + 1))) (q (16 + 6 * m)) (min ((up_ f (q (17 + 6 * m)) (min (f (q (17 + 6 * m))) (f (q (16 + 6 * m)) + 1))) (q (16 + 6 * m))) ((up_ f (q (17 + 6 * m)) (min (f (q (17 + 6 * m))) (f (q (16 + 6 * m)) + 1))) (q (17 + 6 * m)) + 1)) else f
noncomputable def xm2_ (q : rw_t) (l w : Int) (f : Int → Int) (k : Nat) : Int → Int := fo_ (fun m f => xm1_ q l w m f) f k
noncomputable def xm0_ (a : Int) : Int → Int := fun j => if j = a then 0 else 99999
noncomputable def xm_ (q : rw_t) (l w a : Int) (k : Nat) : Int → Int := fo_ (fun _ f => xm2_ q l w f (q 3).toNat) (xm0_ a) k
theorem xm1_lm {q : rw_t} (hW : wf_M q) {l w m : Int} (m0 : 0 ≤ m) (m1 : m < 16) {f : Int → Int} (h : lm_ f 99999) : lm_ (xm1_ q l w m f) 99999 := by
  obtain ⟨g0, g1, -⟩ := hW.2 m m0 m1
  have a1 := h (q (16 + 6 * m)) g0.1 (by omega)
  have a2 := h (q (17 + 6 * m)) g1.1 (by omega)
  have l1 : lm_ (up_ f (q (17 + 6 * m)) (min (f (q (17 + 6 * m))) (f (q (16 + 6 * m)) + 1))) 99999 := lm_up h (by omega)
  have b1 := l1 (q (16 + 6 * m)) g0.1 (by omega)
  have b2 := l1 (q (17 + 6 * m)) g1.1 (by omega)
  unfold xm1_
  split
  · exact lm_up l1 (by omega)
  · exact h
theorem xm2_lm {q : rw_t} (hW : wf_M q) {l w : Int} {f : Int → Int} (h : lm_ f 99999) (k : Nat) (hk : (k : Int) ≤ q 3) : lm_ (xm2_ q l w f k) 99999 := by
  have w := hW.1
  exact fo_inv (n := k) (P := fun x => lm_ x 99999) h (fun i x i0 i1 hx => xm1_lm hW i0 (by omega) hx) k (Nat.le_refl k)
theorem xm0_lm (a : Int) : lm_ (xm0_ a) 99999 := fun j _ _ => by
  unfold xm0_
  split <;> decide
theorem xm_lm {q : rw_t} (hW : wf_M q) (l w a : Int) (k : Nat) : lm_ (xm_ q l w a k) 99999 := by
  have w := hW.1
  exact fo_inv (n := k) (P := fun x => lm_ x 99999) (xm0_lm a) (fun i x i0 i1 hx => xm2_lm hW hx _ (by omega)) k (Nat.le_refl k)
section REF
variable {g : bc_C} {d : Nat} {σ : bc_M} {q b : rw_t} {h : List rw_t} {Rr : Option bc_A → bc_M → Prop} {X : Nat → bc_M → Prop} {B : Int}
theorem t_X11_measures {u l w : Int} (hN : nw_ σ 219 q) (hW : wf_M q) (a0 : 0 ≤ u ∧ u < 8) (hl : bc_in l) (hw : bc_in w) (f : ∀ σ', ar_ σ' 223 (xm_ q l w u 8) → fr_ (fun k => k = 223) σ σ' → Rr none σ') : bc_Sem g (d + 6) mX11_measures [bc_R 218, bc_I u, bc_I l, bc_I w] σ Rr X := by
  have w3 := hW.1
  obtain ⟨hl0, hl1⟩ := hl
  obtain ⟨hw0, hw1⟩ := hw
  refine e_X11_measures rfl (fun K hK => ?_)
  have Lm : ∀ (i : Int) (F : Int → Int), lm_ F 99999 → (∀ (s : bc_M) (z : bc_LV), ar_ s 223 (xm2_ q l w F (q 3).toNat) → fr_ (fun k => k = 223) σ s → K 16 ([(0, bc_R 218), (1, bc_I u), (2, bc_I l), (3, bc_I w), (4, bc_I (i + 1))] ++ z) [] s 0) → ∀ m : Int, ∀ (s : bc_M) (z : bc_LV), 0 ≤ m → m ≤ q 3 → ar_ s 223 (xm2_ q l w F m.toNat) → fr_ (fun k => k = 223) σ s → K 26 ([(0, bc_R 218), (1, bc_I u), (2, bc_I l), (3, bc_I w), (4, bc_I i), (5, bc_I m)] ++ z) [] s 0 := by
    intro i F hF go
    refine up_ind (q 3) (fun m hm s z m0 m1 ha Fr => ?_) (fun m hm ih s z m0 m1 ha Fr => ?_)
    · have em : m = q 3 := by omega
      subst em
      have e3 := (nw_fr hN Fr (by decide)) 3 (by decide) (by decide)
      refine hK.2 _ _ [(0, bc_R 218), (1, bc_I u), (2, bc_I l), (3, bc_I w), (4, bc_I i), (5, bc_I (q 3))] _ _ _ (ls_ _ _) ?_
      refine hK.1 [16, 26] 60 _ _ _ _ _ ?_
      refine bc_ob_i (by decide) ?_
      refine bc_ob_i (by omega) ?_
      refine bc_br_i (fun c => absurd c (by omega)) (fun _ => ?_)
      exact go s [(5, bc_I (q 3))] ha Fr
    · have hNs := nw_fr hN Fr (by decide)
      have e3 := hNs 3 (by decide) (by decide)
      obtain ⟨g0, g1, -⟩ := hW.2 m m0 (by omega)
      have hb := br_le hW m0 (by omega : m < 16)
      have hl := xm2_lm (l := l) (w := w) hW hF m.toNat (by omega)
      have es : xm2_ q l w F (m + 1).toNat = xm1_ q l w m (xm2_ q l w F m.toNat) := fo_s m0
      rw [es] at ih
      generalize xm2_ q l w F m.toNat = G at ha hl ih
      refine hK.2 _ _ [(0, bc_R 218), (1, bc_I u), (2, bc_I l), (3, bc_I w), (4, bc_I i), (5, bc_I m)] _ _ _ (ls_ _ _) ?_
      refine hK.1 [16, 26] 120 _ _ _ _ _ ?_
      refine bc_ob_i (by decide) ?_
      refine bc_ob_i (by omega) ?_
      refine bc_br_i (fun _ => ?_) (fun c => absurd c (by omega))
      refine bc_ob_i (by constructor <;> constructor <;> omega) ?_
      refine bc_br_i (fun c => ?_) (fun c => ?_)
      · refine ih s [] (by omega) (by omega) ?_ Fr
        unfold xm1_
        rw [if_neg (by omega)]
        exact ha
      · refine t_X11_bears hNs hW m0 hm ?_
        refine bc_ob_i (by constructor <;> constructor <;> omega) ?_
        refine bc_br_i (fun c2 => ?_) (fun c2 => ?_)
        · refine ih s [] (by omega) (by omega) ?_ Fr
          unfold xm1_
          rw [if_neg (by omega)]
          exact ha
        · have a1 := hl (q (16 + 6 * m)) g0.1 (by omega)
          have a2 := hl (q (17 + 6 * m)) g1.1 (by omega)
          have x1 := ha (q (16 + 6 * m)) g0.1 (by omega)
          have x2 := ha (q (17 + 6 * m)) g1.1 (by omega)
          have A1 : ar_ (bc_wr s 223 (q (17 + 6 * m)) (min (s.1 223 (q (17 + 6 * m))) (s.1 223 (q (16 + 6 * m)) + 1))) 223 (up_ G (q (17 + 6 * m)) (min (G (q (17 + 6 * m))) (G (q (16 + 6 * m)) + 1))) := ar_w2 ha (by rw [x1, x2])
          have l1 : lm_ (up_ G (q (17 + 6 * m)) (min (G (q (17 + 6 * m))) (G (q (16 + 6 * m)) + 1))) 99999 := lm_up hl (by omega)
          have b1 := l1 (q (16 + 6 * m)) g0.1 (by omega)
          have b2 := l1 (q (17 + 6 * m)) g1.1 (by omega)
          have y1 := A1 (q (16 + 6 * m)) g0.1 (by omega)
          have y2 := A1 (q (17 + 6 * m)) g1.1 (by omega)
          have f1 : fr_ (fun k => k = 223) s (bc_wr s 223 (q (17 + 6 * m)) (min (s.1 223 (q (17 + 6 * m))) (s.1 223 (q (16 + 6 * m)) + 1))) := fr_wr rfl
          have hN1 := nw_fr hNs f1 (by decide)
          refine t_X11_ofM 17 hNs hW m0 hm (by decide) rfl ?_
          refine t_X11_ofM 17 hNs hW m0 hm (by decide) rfl ?_
          refine bc_ob_i (by omega) ?_
          refine t_X11_ofM 16 hNs hW m0 hm (by decide) rfl ?_
          refine bc_ob_i (by omega) ?_
          refine bc_ob_i ⟨by rw [x2]; constructor <;> omega, by rw [x1]; constructor <;> omega, Nat.le_of_ble_eq_true rfl⟩ ?_
          refine bc_ob_i (by omega) ?_
          refine t_X11_ofM 16 hN1 hW m0 hm (by decide) rfl ?_
          refine t_X11_ofM 16 hN1 hW m0 hm (by decide) rfl ?_
          refine bc_ob_i (by omega) ?_
          refine t_X11_ofM 17 hN1 hW m0 hm (by decide) rfl ?_
          refine bc_ob_i (by omega) ?_
          refine bc_ob_i ⟨by rw [y1]; constructor <;> omega, by rw [y2]; constructor <;> omega, Nat.le_of_ble_eq_true rfl⟩ ?_
          refine bc_ob_i (by omega) ?_
          refine ih _ [] (by omega) (by omega) ?_ (fr_trans Fr (fr_trans f1 (fr_wr rfl)))
          unfold xm1_
          rw [if_pos ⟨by omega, by omega⟩]
          exact ar_w2 A1 (by rw [y1, y2])
  have L : ∀ i : Int, ∀ (s : bc_M) (z : bc_LV), 0 ≤ i → i ≤ 8 → ar_ s 223 (xm_ q l w u i.toNat) → fr_ (fun k => k = 223) σ s → K 16 ([(0, bc_R 218), (1, bc_I u), (2, bc_I l), (3, bc_I w), (4, bc_I i)] ++ z) [] s 0 := by
    refine up_ind 8 (fun i hi s z i0 i1 ha F => ?_) (fun i hi ih s z i0 i1 ha F => ?_)
    · have ei : i = 8 := by omega
      subst ei
      refine hK.2 _ _ [(0, bc_R 218), (1, bc_I u), (2, bc_I l), (3, bc_I w), (4, bc_I 8)] _ _ _ (ls_ _ _) ?_
      refine hK.1 [16] 60 _ _ _ _ _ ?_
      refine bc_ob_i (by decide) ?_
      refine bc_br_i (fun c => absurd c (by decide)) (fun _ => ?_)
      exact f s ha F
    · refine hK.2 _ _ [(0, bc_R 218), (1, bc_I u), (2, bc_I l), (3, bc_I w), (4, bc_I i)] _ _ _ (ls_ _ _) ?_
      refine hK.1 [16, 26] 60 _ _ _ _ _ ?_
      refine bc_ob_i (by omega) ?_
      refine bc_br_i (fun _ => ?_) (fun c => absurd hi c)
      refine Lm i (xm_ q l w u i.toNat) (xm_lm hW l w u _) (fun s' z' h1 h2 => ih s' z' (by omega) (by omega) ?_ h2) 0 s [] (by decide) w3.1 ha F
      have e : xm_ q l w u (i + 1).toNat = xm2_ q l w (xm_ q l w u i.toNat) (q 3).toNat := fo_s i0
      rw [e]
      exact h1
  refine hK.1 [16] 60 _ _ _ _ _ ?_
  refine t_X11_fills (fun σ1 h1 f1 => ?_)
  refine bc_ob_i a0 ?_
  refine L 0 _ [] (by decide) (by decide) (fun j j0 j1 => ?_) (fr_trans f1 (fr_wr rfl))
  show (bc_wr σ1 223 u 0).1 223 j = xm0_ u j
  simp only [bc_wr, if_true]
  unfold xm0_
  split
  · rfl
  · exact h1 j j0 j1
end REF
end
section
/-! members join each pair of joints once: the bearings between joints -/
noncomputable def uj_ (r : rw_t) : Prop := (∀ k : Int, 0 ≤ k → k < r 3 → r (16 + 6 * k) < r (17 + 6 * k)) ∧ ∀ k l : Int, 0 ≤ k → k < l → l < r 3 → ¬ (r (16 + 6 * k) = r (16 + 6 * l) ∧ r (17 + 6 * k) = r (17 + 6 * l))
theorem uj_eq {r : rw_t} (h : uj_ r) {k l a b : Int} (k0 : 0 ≤ k) (k1 : k < r 3) (l0 : 0 ≤ l) (l1 : l < r 3) (hk : jn_ r k a b) (hl : jn_ r l a b) : k = l := by
  have ok := h.1 k k0 k1
  have ol := h.1 l l0 l1
  have e : r (16 + 6 * k) = r (16 + 6 * l) ∧ r (17 + 6 * k) = r (17 + 6 * l) := by
    rcases hk with hk | hk <;> rcases hl with hl | hl <;> omega
  refine Classical.byContradiction (fun ne => ?_)
  rcases Int.lt_or_gt_of_ne ne with c | c
  · exact h.2 k l k0 c l1 e
  · exact h.2 l k l0 c k1 ⟨e.1.symm, e.2.symm⟩
theorem jn_jr {r : rw_t} {k a b : Int} (h : r (16 + 6 * k) < r (17 + 6 * k)) : jr_ r k a b ↔ jn_ r k a b := by
  unfold jr_ jn_
  omega
theorem sb_S (r : rw_t) (n : Nat) (a b : Int) : sb_ r (n + 1) a b = if (r (16 + 6 * (n : Int)) = a ∧ r (17 + 6 * (n : Int)) = b) ∨ (r (16 + 6 * (n : Int)) = b ∧ r (17 + 6 * (n : Int)) = a) then br_ r n else sb_ r n a b := by
  show ug_ (ug_ (sb_ r n) (r (16 + 6 * (n : Int))) (r (17 + 6 * (n : Int))) (br_ r n)) (r (17 + 6 * (n : Int))) (r (16 + 6 * (n : Int))) (br_ r n) a b = _
  unfold ug_
  by_cases e1 : a = r (17 + 6 * (n : Int)) ∧ b = r (16 + 6 * (n : Int))
  · rw [if_pos e1, if_pos (.inr ⟨e1.2.symm, e1.1.symm⟩)]
  · rw [if_neg e1]
    by_cases e2 : a = r (16 + 6 * (n : Int)) ∧ b = r (17 + 6 * (n : Int))
    · rw [if_pos e2, if_pos (.inl ⟨e2.1.symm, e2.2.symm⟩)]
    · rw [if_neg e2, if_neg (by omega)]
theorem sb_no {r : rw_t} {a b : Int} : ∀ n : Nat, (∀ m : Int, 0 ≤ m → m < n → ¬ jn_ r m a b) → sb_ r n a b = 0
  | 0, _ => rfl
  | n + 1, h => by
    have hh : ¬ ((r (16 + 6 * (n : Int)) = a ∧ r (17 + 6 * (n : Int)) = b) ∨ (r (16 + 6 * (n : Int)) = b ∧ r (17 + 6 * (n : Int)) = a)) := h n (by omega) (by omega)
    rw [sb_S, if_neg hh]
    exact sb_no n (fun m m0 m1 => h m m0 (by omega))
theorem sb_yes {r : rw_t} (hu : uj_ r) {a b m : Int} (m0 : 0 ≤ m) (hm : jn_ r m a b) : ∀ n : Nat, (n : Int) ≤ r 3 → m < n → sb_ r n a b = br_ r m
  | 0, _, h => absurd h (by omega)
  | n + 1, hn, h => by
    rw [sb_S]
    by_cases e : (r (16 + 6 * (n : Int)) = a ∧ r (17 + 6 * (n : Int)) = b) ∨ (r (16 + 6 * (n : Int)) = b ∧ r (17 + 6 * (n : Int)) = a)
    · rw [if_pos e, uj_eq hu (by omega) (by omega) m0 (by omega) e hm]
    · have ne : m ≠ (n : Int) := fun q => e (by rw [← q]; exact hm)
      rw [if_neg e]
      exact sb_yes hu m0 hm n (by omega) (by omega)
theorem sa_yes {r : rw_t} (hu : uj_ r) (h3 : 0 ≤ r 3) {a b m : Int} (m0 : 0 ≤ m) (m1 : m < r 3) (hm : jn_ r m a b) : sa_ r a b = br_ r m := sb_yes hu m0 hm _ (by omega) (by omega)
theorem sa_no {r : rw_t} (h3 : 0 ≤ r 3) {a b : Int} (h : ∀ m : Int, 0 ≤ m → m < r 3 → ¬ jn_ r m a b) : sa_ r a b = 0 := sb_no _ (fun m m0 m1 => h m m0 (by omega))
/-- what between finds, in bearings -/
theorem bq_sa {r : rw_t} (hu : uj_ r) (h3 : 0 ≤ r 3) {a b v : Int} (h : bq_ r a b v) : (v = -1 ∧ sa_ r a b = 0) ∨ (0 ≤ v ∧ v < r 3 ∧ jn_ r v a b ∧ sa_ r a b = br_ r v) := by
  rcases h with ⟨v0, h⟩ | ⟨v0, v1, h⟩
  · exact .inl ⟨v0, sa_no h3 (fun m m0 m1 q => h m m0 m1 ((jn_jr (hu.1 m m0 m1)).mpr q))⟩
  · have hj := (jn_jr (hu.1 v v0 v1)).mp h
    exact .inr ⟨v0, v1, hj, sa_yes hu h3 v0 v1 hj⟩
/-- the lowest joint behind which the rest of the way goes on -/
noncomputable def nx_ (f : gr_t) (l : Int) (D : Int → Int) (a c : Int) : Nat → Int
  | 0 => -1
  | n + 1 => if l ≤ f a (7 - (n : Int)) ∧ D (7 - (n : Int)) = c then 7 - (n : Int) else nx_ f l D a c n
noncomputable def wy1_ (f : gr_t) (l : Int) (D : Int → Int) (a : Int) : Nat → Int
  | 0 => a
  | k + 1 => nx_ f l D (wy1_ f l D a k) (D a - ((k : Int) + 1)) 8
theorem nx_le (f : gr_t) (l : Int) (D : Int → Int) (a c : Int) : ∀ n : Nat, n ≤ 8 → -1 ≤ nx_ f l D a c n ∧ nx_ f l D a c n ≤ 7
  | 0, _ => by unfold nx_; decide
  | n + 1, h => by
    have := nx_le f l D a c n (by omega)
    unfold nx_
    split <;> omega
theorem wy1_le (f : gr_t) (l : Int) (D : Int → Int) (a : Int) (ha : 0 ≤ a ∧ a < 8) : ∀ k : Nat, -1 ≤ wy1_ f l D a k ∧ wy1_ f l D a k ≤ 7
  | 0 => by unfold wy1_; omega
  | k + 1 => nx_le f l D _ _ 8 (Nat.le_refl 8)
end
section
/-! the reference lays the best way -/
section REF
variable {g : bc_C} {d : Nat} {σ : bc_M} {q b : rw_t} {h : List rw_t} {Rr : Option bc_A → bc_M → Prop} {X : Nat → bc_M → Prop} {B : Int}
theorem t_X11_finds {u v l : Int} (hN : nw_ σ 219 q) (hW : wf_M q) (hU : uj_ q) (a0 : 0 ≤ u ∧ u < 8) (b0 : 0 ≤ v ∧ v < 8) (hl : 1 ≤ l ∧ l ≤ 99) (hM : xm_ q l (-1) v 8 u ≤ 8) (f : ∀ σ', (∀ k : Nat, (k : Int) ≤ xm_ q l (-1) v 8 u → σ'.1 224 (k : Int) = wy1_ (sa_ q) l (xm_ q l (-1) v 8) u k) → fr_ (fun k => k = 223 ∨ k = 224) σ σ' → Rr (some (bc_I (xm_ q l (-1) v 8 u))) σ') : bc_Sem g (d + 7) mX11_finds [bc_R 218, bc_I u, bc_I v, bc_I l] σ Rr X := by
  have w3 := hW.1
  have lm := xm_lm hW l (-1) v 8
  have lmu := lm u a0.1 a0.2
  refine e_X11_finds rfl (fun K hK => ?_)
  generalize hD : xm_ q l (-1) v 8 = D at *
  -- the joints downwards
  have Lj : ∀ (k a : Int) (s : bc_M), 1 ≤ k → k ≤ D u → -1 ≤ a → a ≤ 7 → s.1 224 (k - 1) = a → ar_ s 223 D → fr_ (fun k => k = 223 ∨ k = 224) σ s → (∀ z : bc_LV, K 119 ([(0, bc_R 218), (1, bc_I u), (2, bc_I v), (3, bc_I l), (4, bc_I (D u)), (5, bc_I k), (6, bc_I (nx_ (sa_ q) l D a (D u - k) 8)), (7, bc_I (-1))] ++ z) [] s 0) → ∀ i : Int, ∀ z : bc_LV, 0 ≤ i → i ≤ 8 → K 39 ([(0, bc_R 218), (1, bc_I u), (2, bc_I v), (3, bc_I l), (4, bc_I (D u)), (5, bc_I k), (6, bc_I (nx_ (sa_ q) l D a (D u - k) i.toNat)), (7, bc_I (7 - i))] ++ z) [] s 0 := by
    intro k a s k1 k2 am a7 ha hA F go
    refine up_ind 8 (fun i hi z i0 i1 => ?_) (fun i hi ih z i0 i1 => ?_)
    · have ei : i = 8 := by omega
      subst ei
      refine hK.2 _ _ [(0, bc_R 218), (1, bc_I u), (2, bc_I v), (3, bc_I l), (4, bc_I (D u)), (5, bc_I k), (6, bc_I (nx_ (sa_ q) l D a (D u - k) 8)), (7, bc_I (7 - 8))] _ _ _ (ls_ _ _) ?_
      refine hK.1 [39, 119] 60 _ _ _ _ _ ?_
      refine bc_ob_i (by decide) ?_
      refine bc_br_i (fun c => ?_) (fun c => ?_)
      · first | exact go [] | exact absurd c (by decide)
      · first | exact go [] | exact absurd c (by decide)
    · have hNs := nw_fr hN F (by decide)
      have li := lm (7 - i) (by omega) (by omega)
      have ai := hA (7 - i) (by omega) (by omega)
      have ea : (7 : Int) - (i + 1) = 7 - i + -1 := by omega
      have en : ((i.toNat : Nat) : Int) = i := by omega
      have es : nx_ (sa_ q) l D a (D u - k) (i + 1).toNat = if l ≤ sa_ q a (7 - i) ∧ D (7 - i) = D u - k then 7 - i else nx_ (sa_ q) l D a (D u - k) i.toNat := by
        rw [show (i + 1).toNat = i.toNat + 1 by omega]
        show (if l ≤ sa_ q a (7 - (i.toNat : Int)) ∧ D (7 - (i.toNat : Int)) = D u - k then 7 - (i.toNat : Int) else nx_ (sa_ q) l D a (D u - k) i.toNat) = _
        rw [en]
      rw [es, ea] at ih
      have N97 : ∀ (x w : Int), (x = if l ≤ sa_ q a (7 - i) ∧ D (7 - i) = D u - k then 1 else 0) → K 97 [(0, bc_R 218), (1, bc_I u), (2, bc_I v), (3, bc_I l), (4, bc_I (D u)), (5, bc_I k), (6, bc_I (nx_ (sa_ q) l D a (D u - k) i.toNat)), (7, bc_I (7 - i)), (8, bc_I w)] [bc_I x] s 0 := by
        intro x w hx
        by_cases c : l ≤ sa_ q a (7 - i) ∧ D (7 - i) = D u - k
        · rw [if_pos c] at hx ih
          subst hx
          refine hK.1 [39] 60 _ _ _ _ _ ?_
          refine bc_ob_i (by decide) ?_
          refine bc_br_i (fun c => absurd c (by decide)) (fun _ => ?_)
          exact ih [(8, bc_I w), (9, bc_I 1)] (by omega) (by omega)
        · rw [if_neg c] at hx ih
          subst hx
          refine hK.1 [39] 60 _ _ _ _ _ ?_
          refine bc_ob_i (by decide) ?_
          refine bc_br_i (fun _ => ?_) (fun c => absurd rfl c)
          exact ih [(8, bc_I w), (9, bc_I 0)] (by omega) (by omega)
      refine hK.2 _ _ [(0, bc_R 218), (1, bc_I u), (2, bc_I v), (3, bc_I l), (4, bc_I (D u)), (5, bc_I k), (6, bc_I (nx_ (sa_ q) l D a (D u - k) i.toNat)), (7, bc_I (7 - i))] _ _ _ (ls_ _ _) ?_
      refine hK.1 [39, 97, 119] 80 _ _ _ _ _ ?_
      refine bc_ob_i (by constructor <;> omega) ?_
      refine bc_br_i (fun c => ?_) (fun c => ?_)
      · exact absurd c (by omega)
      · refine bc_ob_i (by omega) ?_
        refine t_X11_between hNs hW (by rw [ha]; constructor <;> omega) (by constructor <;> omega) (fun w hw => ?_)
        rw [ha] at hw
        rcases bq_sa hU w3.1 hw with ⟨w0, w1⟩ | ⟨w0, w1, w2, w4⟩
        · subst w0
          refine bc_ob_i (by decide) ?_
          refine bc_br_i (fun _ => ?_) (fun c => absurd rfl c)
          exact N97 0 _ (if_neg (by omega)).symm
        · have hb := br_le hW w0 (by omega : w < 16)
          refine bc_ob_i (by constructor <;> constructor <;> omega) ?_
          refine bc_br_i (fun c => absurd c (by omega)) (fun _ => ?_)
          refine t_X11_bears hNs hW w0 w1 ?_
          refine bc_ob_i (by constructor <;> constructor <;> omega) ?_
          refine bc_br_i (fun c => ?_) (fun c => ?_)
          · exact N97 0 _ (if_neg (by omega)).symm
          · refine bc_ob_i (by omega) ?_
            refine bc_ob_i (by rw [ai]; constructor <;> constructor <;> omega) ?_
            rw [ai]
            refine bc_br_i (fun c2 => ?_) (fun c2 => ?_)
            · exact N97 1 _ (if_pos (by omega)).symm
            · exact N97 0 _ (if_neg (by omega)).symm
  have L : ∀ k : Int, ∀ (s : bc_M) (z : bc_LV), 1 ≤ k → k ≤ D u + 1 → (∀ j : Nat, (j : Int) < k → s.1 224 (j : Int) = wy1_ (sa_ q) l D u j) → ar_ s 223 D → fr_ (fun k => k = 223 ∨ k = 224) σ s → K 25 ([(0, bc_R 218), (1, bc_I u), (2, bc_I v), (3, bc_I l), (4, bc_I (D u)), (5, bc_I k)] ++ z) [] s 0 := by
    refine up_ind (D u + 1) (fun k hk s z k1 k2 hJ hA F => ?_) (fun k hk ih s z k1 k2 hJ hA F => ?_)
    · have ek : k = D u + 1 := by omega
      subst ek
      refine hK.2 _ _ [(0, bc_R 218), (1, bc_I u), (2, bc_I v), (3, bc_I l), (4, bc_I (D u)), (5, bc_I (D u + 1))] _ _ _ (ls_ _ _) ?_
      refine hK.1 [25] 60 _ _ _ _ _ ?_
      refine bc_ob_i (by constructor <;> constructor <;> omega) ?_
      refine bc_br_i (fun c => ?_) (fun c => ?_)
      · first | exact absurd c (by omega) | exact f s (fun j hj => hJ j (by omega)) F
      · first | exact absurd c (by omega) | exact f s (fun j hj => hJ j (by omega)) F
    · have wl := wy1_le (sa_ q) l D u a0 (k - 1).toNat
      have ek : (((k - 1).toNat : Nat) : Int) = k - 1 := by omega
      have ha := hJ (k - 1).toNat (by omega)
      rw [ek] at ha
      have en : wy1_ (sa_ q) l D u k.toNat = nx_ (sa_ q) l D (wy1_ (sa_ q) l D u (k - 1).toNat) (D u - k) 8 := by
        rw [show k.toNat = (k - 1).toNat + 1 by omega]
        show nx_ (sa_ q) l D (wy1_ (sa_ q) l D u (k - 1).toNat) (D u - (((k - 1).toNat : Int) + 1)) 8 = _
        rw [ek, show k - 1 + 1 = k by omega]
      have go : ∀ z : bc_LV, K 119 ([(0, bc_R 218), (1, bc_I u), (2, bc_I v), (3, bc_I l), (4, bc_I (D u)), (5, bc_I k), (6, bc_I (nx_ (sa_ q) l D (wy1_ (sa_ q) l D u (k - 1).toNat) (D u - k) 8)), (7, bc_I (-1))] ++ z) [] s 0 := by
        intro z
        refine hK.2 _ _ [(0, bc_R 218), (1, bc_I u), (2, bc_I v), (3, bc_I l), (4, bc_I (D u)), (5, bc_I k), (6, bc_I (nx_ (sa_ q) l D (wy1_ (sa_ q) l D u (k - 1).toNat) (D u - k) 8)), (7, bc_I (-1))] _ _ _ (ls_ _ _) ?_
        refine hK.1 [25] 60 _ _ _ _ _ ?_
        refine bc_ob_i (by omega) ?_
        rw [← en]
        have f4 : fr_ (fun k => k = 224) s (bc_wr s 224 k (wy1_ (sa_ q) l D u k.toNat)) := fr_wr rfl
        refine ih _ [(6, bc_I (wy1_ (sa_ q) l D u k.toNat)), (7, bc_I (-1))] (by omega) (by omega) (fun j hj => ?_) (fun j j0 j1 => by rw [f4.1 223 (by decide)]; exact hA j j0 j1) (fr_trans F (fr_mono f4 (fun k hk => .inr hk)))
        simp only [bc_wr, if_true]
        by_cases e : (j : Int) = k
        · rw [if_pos e, show j = k.toNat by omega]
        · rw [if_neg e]
          exact hJ j (by omega)
      refine hK.2 _ _ [(0, bc_R 218), (1, bc_I u), (2, bc_I v), (3, bc_I l), (4, bc_I (D u)), (5, bc_I k)] _ _ _ (ls_ _ _) ?_
      refine hK.1 [25, 39] 60 _ _ _ _ _ ?_
      refine bc_ob_i (by constructor <;> constructor <;> omega) ?_
      refine bc_br_i (fun c => ?_) (fun c => ?_)
      · first | exact absurd c (by omega) | exact Lj k (wy1_ (sa_ q) l D u (k - 1).toNat) s k1 (by omega) wl.1 wl.2 ha hA F go 0 [] (by decide) (by decide)
      · first | exact absurd c (by omega) | exact Lj k (wy1_ (sa_ q) l D u (k - 1).toNat) s k1 (by omega) wl.1 wl.2 ha hA F go 0 [] (by decide) (by decide)
  refine hK.1 [25] 60 _ _ _ _ _ ?_
  refine t_X11_measures hN hW b0 (by constructor <;> omega) (by decide) (fun σ1 h1 f1 => ?_)
  rw [hD] at h1
  have e1 := h1 u a0.1 a0.2
  refine bc_ob_i a0 ?_
  refine bc_ob_i (by decide) ?_
  have f4 : fr_ (fun k => k = 224) σ1 (bc_wr σ1 224 0 u) := fr_wr rfl
  have H := L 1 (bc_wr σ1 224 0 u) [] (by decide) (by omega) (fun j hj => by
    have j0 : j = 0 := by omega
    subst j0
    simp [bc_wr, wy1_]) (fun j j0 j1 => by rw [f4.1 223 (by decide)]; exact h1 j j0 j1) (fr_trans (fr_mono f1 (fun k hk => .inl hk)) (fr_mono f4 (fun k hk => .inr hk)))
  rw [← e1] at H
  exact H
end REF
end
section
/-! which joints are reached by members that bear as much -/
noncomputable def rch_ (f : gr_t) (l a : Int) : Nat → Int → Prop
  | 0, j => j = a
  | n + 1, j => rch_ f l a n j ∨ ∃ i : Int, (0 ≤ i ∧ i < 8) ∧ rch_ f l a n i ∧ l ≤ f i j
noncomputable def cnt_ (P : Int → Prop) : Nat → Nat
  | 0 => 0
  | n + 1 => cnt_ P n + @ite Nat (P (n : Int)) (Classical.propDecidable _) 1 0
theorem cnt_le (P : Int → Prop) : ∀ n : Nat, cnt_ P n ≤ n
  | 0 => Nat.le_refl 0
  | n + 1 => by
    have := cnt_le P n
    unfold cnt_
    split <;> omega
theorem cnt_mono {P Q : Int → Prop} : ∀ n : Nat, (∀ j : Nat, j < n → P j → Q j) → cnt_ P n ≤ cnt_ Q n
  | 0, _ => Nat.le_refl 0
  | n + 1, h => by
    have h1 := cnt_mono n (fun j hj => h j (by omega))
    have h2 := h n (by omega)
    unfold cnt_
    by_cases c : P (n : Int)
    · rw [if_pos c, if_pos (h2 c)]
      omega
    · rw [if_neg c]
      omega
theorem cnt_lt {P Q : Int → Prop} : ∀ n : Nat, (∀ j : Nat, j < n → P j → Q j) → (∃ j : Nat, j < n ∧ Q j ∧ ¬ P j) → cnt_ P n < cnt_ Q n
  | 0, _, h => by
    obtain ⟨j, hj, -⟩ := h
    omega
  | n + 1, h, ⟨j, hj, hq, hp⟩ => by
    have h2 := h n (by omega)
    unfold cnt_
    by_cases e : j = n
    · have h1 := cnt_mono (P := P) (Q := Q) n (fun j hj => h j (by omega))
      subst e
      rw [if_neg hp, if_pos hq]
      omega
    · have h1 := cnt_lt (P := P) (Q := Q) n (fun j hj => h j (by omega)) ⟨j, by omega, hq, hp⟩
      by_cases c : P (n : Int)
      · rw [if_pos c, if_pos (h2 c)]
        omega
      · rw [if_neg c]
        omega
theorem rch_stay {f : gr_t} {l a : Int} {n : Nat} (h : ∀ j : Int, 0 ≤ j → j < 8 → rch_ f l a (n + 1) j → rch_ f l a n j) : ∀ (m : Nat) (j : Int), 0 ≤ j → j < 8 → rch_ f l a (n + m) j → rch_ f l a n j
  | 0, _, _, _, hj => hj
  | m + 1, j, j0, j1, hj => by
    rcases hj with hj | ⟨i, hi, hr, hl⟩
    · exact rch_stay h m j j0 j1 hj
    · exact h j j0 j1 (.inr ⟨i, hi, rch_stay h m i hi.1 hi.2 hr, hl⟩)
theorem rch_le {f : gr_t} {l a : Int} {n : Nat} {j : Int} (h : rch_ f l a n j) : ∀ m : Nat, n ≤ m → rch_ f l a m j
  | 0, hm => by
    have : n = 0 := by omega
    subst this
    exact h
  | m + 1, hm => by
    by_cases e : n = m + 1
    · rw [← e]; exact h
    · exact .inl (rch_le h m (by omega))
theorem rch_grow {f : gr_t} {l a : Int} (a0 : 0 ≤ a) (a1 : a < 8) : ∀ n : Nat, (∃ k : Nat, k ≤ n ∧ ∀ j : Int, 0 ≤ j → j < 8 → rch_ f l a (k + 1) j → rch_ f l a k j) ∨ n + 1 ≤ cnt_ (rch_ f l a n) 8
  | 0 => by
    refine .inr ?_
    have h := cnt_lt (P := fun _ => False) (Q := rch_ f l a 0) 8 (fun j hj h => h.elim) ⟨a.toNat, by omega, by show ((a.toNat : Nat) : Int) = a; omega, fun h => h⟩
    omega
  | n + 1 => by
    rcases rch_grow (f := f) (l := l) a0 a1 n with ⟨k, hk, h⟩ | h
    · exact .inl ⟨k, by omega, h⟩
    · by_cases c : ∀ j : Int, 0 ≤ j → j < 8 → rch_ f l a (n + 1) j → rch_ f l a n j
      · exact .inl ⟨n, by omega, c⟩
      · refine .inr ?_
        have c2 : ∃ j : Nat, j < 8 ∧ rch_ f l a (n + 1) (j : Int) ∧ ¬ rch_ f l a n (j : Int) := by
          refine Classical.byContradiction (fun no => c (fun j j0 j1 hj => ?_))
          refine Classical.byContradiction (fun nj => no ⟨j.toNat, by omega, ?_, ?_⟩)
          · rw [Int.toNat_of_nonneg j0]; exact hj
          · rw [Int.toNat_of_nonneg j0]; exact nj
        have := cnt_lt (P := rch_ f l a n) (Q := rch_ f l a (n + 1)) 8 (fun j _ hj => .inl hj) c2
        omega
/-- eight joints: seven steps reach what can be reached -/
theorem rch_7 {f : gr_t} {l a : Int} (a0 : 0 ≤ a) (a1 : a < 8) {n : Nat} {j : Int} (j0 : 0 ≤ j) (j1 : j < 8) (h : rch_ f l a n j) : rch_ f l a 7 j := by
  have key : ∃ k : Nat, k ≤ 7 ∧ ∀ j : Int, 0 ≤ j → j < 8 → rch_ f l a (k + 1) j → rch_ f l a k j := by
    rcases rch_grow (f := f) (l := l) a0 a1 8 with ⟨k, hk, hs⟩ | hs
    · by_cases e : k ≤ 7
      · exact ⟨k, e, hs⟩
      · rcases rch_grow (f := f) (l := l) a0 a1 7 with ⟨k2, hk2, hs2⟩ | hs2
        · exact ⟨k2, hk2, hs2⟩
        · refine ⟨7, Nat.le_refl 7, fun j j0 j1 hj => ?_⟩
          refine Classical.byContradiction (fun nj => ?_)
          have h1 := cnt_lt (P := rch_ f l a 7) (Q := rch_ f l a 8) 8 (fun j _ hj => .inl hj) ⟨j.toNat, by omega, by rw [Int.toNat_of_nonneg j0]; exact hj, by rw [Int.toNat_of_nonneg j0]; exact nj⟩
          have h2 := cnt_le (rch_ f l a 8) 8
          omega
    · have h2 := cnt_le (rch_ f l a 8) 8
      omega
  obtain ⟨k, hk, hs⟩ := key
  rcases Nat.le_total n k with c | c
  · exact rch_le (rch_le h k c) 7 hk
  · obtain ⟨m, rfl⟩ : ∃ m, n = k + m := ⟨n - k, by omega⟩
    exact rch_le (rch_stay hs m j j0 j1 h) 7 hk
end
section
/-! the reference's widest way is the widest -/
theorem xw1_ge (q : rw_t) (m : Int) (F : Int → Int) (j : Int) : F j ≤ xw1_ q m F j := by
  unfold xw1_
  by_cases e1 : j = q (16 + 6 * m)
  · rw [← e1, up_at]
    by_cases e2 : j = q (17 + 6 * m)
    · rw [← e2, up_at]
      omega
    · rw [up_ne e2]
      omega
  · rw [up_ne e1]
    by_cases e2 : j = q (17 + 6 * m)
    · rw [← e2, up_at]
      omega
    · rw [up_ne e2]
      omega
theorem xw1_hit {q : rw_t} {m l i j : Int} {F : Int → Int} (hi : l ≤ F i) (hm : jn_ q m i j) (hb : l ≤ br_ q m) : l ≤ xw1_ q m F j := by
  unfold xw1_
  rcases hm with ⟨h1, h2⟩ | ⟨h1, h2⟩
  · rw [h1, h2]
    by_cases e : j = i
    · subst e
      rw [up_at, up_at]
      omega
    · rw [up_ne e, up_at]
      omega
  · rw [h1, h2, up_at]
    have e1 : (up_ F i (max (F i) (min (F j) (br_ q m)))) i = max (F i) (min (F j) (br_ q m)) := up_at
    rw [e1]
    omega
theorem xw2_ge (q : rw_t) (F : Int → Int) (j : Int) (n : Nat) : ∀ m : Nat, xw2_ q F n j ≤ xw2_ q F (n + m) j
  | 0 => Int.le_refl _
  | m + 1 => Int.le_trans (xw2_ge q F j n m) (xw1_ge q ((n + m : Nat) : Int) (xw2_ q F (n + m)) j)
theorem xw2_hit {q : rw_t} {m : Nat} {l i j : Int} {F : Int → Int} {n : Nat} (hn : m < n) (hi : l ≤ F i) (hm : jn_ q m i j) (hb : l ≤ br_ q m) : l ≤ xw2_ q F n j := by
  have h1 : l ≤ xw2_ q F m i := by
    have := xw2_ge q F i 0 m
    rw [Nat.zero_add] at this
    exact Int.le_trans hi this
  have h2 : l ≤ xw2_ q F (m + 1) j := xw1_hit h1 hm hb
  obtain ⟨k, rfl⟩ : ∃ k, n = (m + 1) + k := ⟨n - (m + 1), by omega⟩
  exact Int.le_trans h2 (xw2_ge q F j (m + 1) k)
/-- a bearing between joints is a member's -/
theorem sa_ex {r : rw_t} (hu : uj_ r) (h3 : 0 ≤ r 3) {l a b : Int} (l1 : 1 ≤ l) (h : l ≤ sa_ r a b) : ∃ m : Nat, (m : Int) < r 3 ∧ jn_ r m a b ∧ l ≤ br_ r m := by
  refine Classical.byContradiction (fun no => ?_)
  have z : sa_ r a b = 0 := by
    refine sa_no h3 (fun m m0 m1 hj => no ⟨m.toNat, by omega, ?_, ?_⟩)
    · rw [Int.toNat_of_nonneg m0]; exact hj
    · rw [Int.toNat_of_nonneg m0, ← sa_yes hu h3 m0 m1 hj]; exact h
  omega
theorem xw_full {q : rw_t} (hu : uj_ q) (h3 : 0 ≤ q 3) {l a : Int} (l1 : 1 ≤ l) (l9 : l ≤ 99) : ∀ (k n : Nat) (j : Int), n ≤ k → rch_ (sa_ q) l a n j → l ≤ xw_ q a k j
  | 0, n, j, hn, h => by
    have n0 : n = 0 := by omega
    subst n0
    have e : j = a := h
    show l ≤ xw0_ a j
    unfold xw0_
    rw [if_pos e]
    omega
  | k + 1, n, j, hk, h => by
    have ge : ∀ i, xw_ q a k i ≤ xw_ q a (k + 1) i := fun i => by
      have := xw2_ge q (xw_ q a k) i 0 (q 3).toNat
      rw [Nat.zero_add] at this
      exact this
    by_cases e : n ≤ k
    · exact Int.le_trans (xw_full hu h3 l1 l9 k n j e h) (ge j)
    · have en : n = k + 1 := by omega
      subst en
      rcases h with h | ⟨i, hi, hr, hl⟩
      · exact Int.le_trans (xw_full hu h3 l1 l9 k k j (Nat.le_refl k) h) (ge j)
      · obtain ⟨m, m1, hm, hb⟩ := sa_ex hu h3 l1 hl
        exact xw2_hit (by omega) (xw_full hu h3 l1 l9 k k i (Nat.le_refl k) hr) hm hb
theorem xw_sound {q : rw_t} (hW : wf_M q) (hu : uj_ q) {l a : Int} (l1 : 1 ≤ l) (k : Nat) : ∀ j : Int, 0 ≤ j → j < 8 → l ≤ xw_ q a k j → ∃ n : Nat, rch_ (sa_ q) l a n j := by
  have w3 := hW.1
  refine fo_inv (n := k) (P := fun (F : Int → Int) => ∀ j : Int, 0 ≤ j → j < 8 → l ≤ F j → ∃ n : Nat, rch_ (sa_ q) l a n j) (fun j _ _ h => ⟨0, ?_⟩) (fun _ F _ _ hF => ?_) k (Nat.le_refl k)
  · show j = a
    unfold xw0_ at h
    refine Classical.byContradiction (fun e => ?_)
    rw [if_neg e] at h
    omega
  · refine fo_inv (n := (q 3).toNat) (P := fun (F : Int → Int) => ∀ j : Int, 0 ≤ j → j < 8 → l ≤ F j → ∃ n : Nat, rch_ (sa_ q) l a n j) hF (fun m F m0 m1 hF => ?_) _ (Nat.le_refl _)
    obtain ⟨g0, g1, -⟩ := hW.2 m m0 (by omega)
    have s1 := sa_yes hu w3.1 m0 (by omega) (.inl ⟨rfl, rfl⟩ : jn_ q m (q (16 + 6 * m)) (q (17 + 6 * m)))
    have s2 := sa_yes hu w3.1 m0 (by omega) (.inr ⟨rfl, rfl⟩ : jn_ q m (q (17 + 6 * m)) (q (16 + 6 * m)))
    have st : ∀ i j : Int, 0 ≤ i → i < 8 → l ≤ F i → l ≤ sa_ q i j → ∃ n : Nat, rch_ (sa_ q) l a n j := fun i j i0 i1 hi hl => by
      obtain ⟨n, hn⟩ := hF i i0 i1 hi
      exact ⟨n + 1, .inr ⟨i, ⟨i0, i1⟩, hn, hl⟩⟩
    have hp : l ≤ max (F (q (17 + 6 * m))) (min (F (q (16 + 6 * m))) (br_ q m)) → ∃ n : Nat, rch_ (sa_ q) l a n (q (17 + 6 * m)) := fun h => by
      by_cases c : l ≤ F (q (17 + 6 * m))
      · exact hF _ g1.1 (by omega) c
      · exact st (q (16 + 6 * m)) _ g0.1 (by omega) (by omega) (by rw [s1]; omega)
    intro j j0 j1 h
    unfold xw1_ at h
    by_cases e1 : j = q (16 + 6 * m)
    · rw [← e1, up_at] at h
      rw [← e1] at hp s1 s2 g0
      rw [up_at] at h
      by_cases c : l ≤ (up_ F (q (17 + 6 * m)) (max (F (q (17 + 6 * m))) (min (F j) (br_ q m)))) j
      · by_cases e2 : j = q (17 + 6 * m)
        · rw [e2]
          rw [e2] at c
          rw [up_at] at c
          rw [e2] at hp
          exact hp c
        · rw [up_ne e2] at c
          exact hF j j0 j1 c
      · obtain ⟨n, hn⟩ := hp (by omega)
        exact ⟨n + 1, .inr ⟨q (17 + 6 * m), ⟨g1.1, by omega⟩, hn, by rw [s2]; omega⟩⟩
    · rw [up_ne e1] at h
      by_cases e2 : j = q (17 + 6 * m)
      · rw [e2]
        rw [e2, up_at] at h
        exact hp h
      · rw [up_ne e2] at h
        exact hF j j0 j1 h
theorem xw_iff {q : rw_t} (hW : wf_M q) (hu : uj_ q) {l a j : Int} (a0 : 0 ≤ a) (a1 : a < 8) (j0 : 0 ≤ j) (j1 : j < 8) (l1 : 1 ≤ l) (l9 : l ≤ 99) : l ≤ xw_ q a 8 j ↔ rch_ (sa_ q) l a 7 j :=
  ⟨fun h => by obtain ⟨n, hn⟩ := xw_sound hW hu l1 8 j j0 j1 h; exact rch_7 a0 a1 j0 j1 hn, fun h => xw_full hu hW.1.1 l1 l9 8 7 j (by decide) h⟩
end
section
/-! the widest way by growing is the widest -/
theorem wp_spec (w q : Int → Int) : ∀ k : Nat, ((wp_ w q k).1 = -1 ∧ (wp_ w q k).2 = 0 ∧ ∀ j : Int, 0 ≤ j → j < k → q j = 0 → w j ≤ 0) ∨ ((0 ≤ (wp_ w q k).1 ∧ (wp_ w q k).1 < k) ∧ q (wp_ w q k).1 = 0 ∧ (wp_ w q k).2 = w (wp_ w q k).1 ∧ 0 < w (wp_ w q k).1 ∧ ∀ j : Int, 0 ≤ j → j < k → q j = 0 → w j ≤ w (wp_ w q k).1)
  | 0 => .inl ⟨rfl, rfl, fun j j0 j1 => by omega⟩
  | k + 1 => by
    have e : wp_ w q (k + 1) = wo_ w q (wp_ w q k) (k : Int) := rfl
    rw [e]
    unfold wo_
    by_cases c : q (k : Int) = 0 ∧ (wp_ w q k).2 < w (k : Int)
    · rw [if_pos c]
      refine .inr ⟨by constructor <;> simp only <;> omega, c.1, rfl, ?_, fun j j0 j1 hj => ?_⟩
      · rcases wp_spec w q k with ⟨-, h, -⟩ | ⟨-, -, h, h2, -⟩
        · simp only; omega
        · simp only; omega
      · by_cases ej : j = (k : Int)
        · rw [ej]; exact Int.le_refl _
        · rcases wp_spec w q k with ⟨-, h, h2⟩ | ⟨-, -, h, h2, h3⟩
          · have := h2 j j0 (by omega) hj
            simp only; omega
          · have := h3 j j0 (by omega) hj
            simp only; omega
    · rw [if_neg c]
      rcases wp_spec w q k with ⟨h0, h, h2⟩ | ⟨h0, h1, h, h2, h3⟩
      · refine .inl ⟨h0, h, fun j j0 j1 hj => ?_⟩
        by_cases ej : j = (k : Int)
        · rw [ej] at hj ⊢
          omega
        · exact h2 j j0 (by omega) hj
      · refine .inr ⟨by omega, h1, h, h2, fun j j0 j1 hj => ?_⟩
        by_cases ej : j = (k : Int)
        · rw [ej] at hj ⊢
          omega
        · exact h3 j j0 (by omega) hj
/-- what holds while the reached joints grow -/
noncomputable def wiv_ (f : gr_t) (a : Int) (s : wq_t) : Prop := s.2 a ≠ 0 ∧ (∀ n m : Int, 0 ≤ n → n < 8 → s.2 n ≠ 0 → n ≠ a → 0 ≤ m → m < 8 → s.2 m = 0 → s.1 m ≤ s.1 n) ∧ (∀ n j : Int, 0 ≤ n → n < 8 → s.2 n ≠ 0 → n ≠ a → 0 ≤ j → j < 8 → min (s.1 n) (f n j) ≤ s.1 j) ∧ (∀ j : Int, 0 ≤ j → j < 8 → f a j ≤ s.1 j) ∧ ∀ l j : Int, 1 ≤ l → 0 ≤ j → j < 8 → l ≤ s.1 j → ∃ n : Nat, rch_ f l a n j
noncomputable def wend_ (s : wq_t) : Prop := ∀ j : Int, 0 ≤ j → j < 8 → s.2 j = 0 → s.1 j ≤ 0
theorem wiv_0 (f : gr_t) {a : Int} (a0 : 0 ≤ a) (a1 : a < 8) : wiv_ f a (wi_ f a) := by
  refine ⟨by simp [wi_], fun n m n0 n1 hn na => ?_, fun n j n0 n1 hn na => ?_, fun j _ _ => Int.le_refl _, fun l j l1 j0 j1 h => ⟨1, .inr ⟨a, ⟨a0, a1⟩, rfl, h⟩⟩⟩
  · exact absurd (by simp [wi_, na]) hn
  · exact absurd (by simp [wi_, na]) hn
theorem wiv_s {f : gr_t} {a : Int} {s : wq_t} (h : wiv_ f a s) (hn : wn_ s.1 s.2 ≠ -1) : wiv_ f a (wg_ f s) ∧ s.2 (wn_ s.1 s.2) = 0 ∧ (0 ≤ wn_ s.1 s.2 ∧ wn_ s.1 s.2 < 8) ∧ 0 < s.1 (wn_ s.1 s.2) := by
  obtain ⟨i0, i1, i2, i3, i4⟩ := h
  have e : wn_ s.1 s.2 = (wp_ s.1 s.2 8).1 := rfl
  rcases wp_spec s.1 s.2 8 with ⟨h0, -, -⟩ | ⟨n01, nu, -, npos, nmax⟩
  · exact absurd (e.trans h0) hn
  · rw [← e] at n01 nu npos nmax
    unfold wg_
    rw [if_neg hn]
    generalize wn_ s.1 s.2 = n at n01 nu npos nmax
    have na : n ≠ a := fun q => i0 (q ▸ nu)
    have keep : ∀ j, s.1 j ≤ max (s.1 j) (min (s.1 n) (f n j)) := fun j => by omega
    have vis : ∀ j : Int, up_ s.2 n 1 j ≠ 0 ↔ (s.2 j ≠ 0 ∨ j = n) := fun j => by
      unfold up_
      split
      · rename_i q; exact ⟨fun _ => .inr q, fun _ => by decide⟩
      · rename_i q; exact ⟨fun h => .inl h, fun h => h.resolve_right q⟩
    have unv : ∀ j : Int, up_ s.2 n 1 j = 0 → s.2 j = 0 ∧ j ≠ n := fun j hj => by
      refine ⟨Classical.byContradiction fun c => (vis j).mpr (.inl c) hj, fun c => (vis j).mpr (.inr c) hj⟩
    refine ⟨⟨(vis a).mpr (.inl i0), fun x m x0 x1 hx xa m0 m1 hm => ?_, fun x j x0 x1 hx xa j0 j1 => ?_, fun j j0 j1 => Int.le_trans (i3 j j0 j1) (keep j), fun l j l1 j0 j1 hj => ?_⟩, nu, by omega, npos⟩
    · obtain ⟨mu, mn⟩ := unv m hm
      have t1 := nmax m m0 (by omega) mu
      show max (s.1 m) (min (s.1 n) (f n m)) ≤ max (s.1 x) (min (s.1 n) (f n x))
      rcases (vis x).mp hx with hv | rfl
      · have t2 := i1 x m x0 x1 hv xa m0 m1 mu
        have t3 := i1 x n x0 x1 hv xa n01.1 (by omega) nu
        omega
      · omega
    · show min (max (s.1 x) (min (s.1 n) (f n x))) (f x j) ≤ max (s.1 j) (min (s.1 n) (f n j))
      rcases (vis x).mp hx with hv | rfl
      · have t3 := i1 x n x0 x1 hv xa n01.1 (by omega) nu
        have t4 := i2 x j x0 x1 hv xa j0 j1
        omega
      · omega
    · have hj : l ≤ max (s.1 j) (min (s.1 n) (f n j)) := hj
      by_cases c : l ≤ s.1 j
      · exact i4 l j l1 j0 j1 c
      · obtain ⟨k, hk⟩ := i4 l n l1 n01.1 (by omega) (by omega)
        exact ⟨k + 1, .inr ⟨n, ⟨n01.1, by omega⟩, hk, by omega⟩⟩
theorem wk_inv (f : gr_t) {a : Int} (a0 : 0 ≤ a) (a1 : a < 8) : ∀ k : Nat, wiv_ f a (wk_ f a k) ∧ (k + 1 ≤ cnt_ (fun j => (wk_ f a k).2 j ≠ 0) 8 ∨ wend_ (wk_ f a k))
  | 0 => by
    refine ⟨wiv_0 f a0 a1, .inl ?_⟩
    have h := cnt_lt (P := fun _ => False) (Q := fun j => (wk_ f a 0).2 j ≠ 0) 8 (fun j hj h => h.elim) ⟨a.toNat, by omega, by rw [Int.toNat_of_nonneg a0]; exact (wiv_0 f a0 a1).1, fun h => h⟩
    omega
  | k + 1 => by
    obtain ⟨h1, h2⟩ := wk_inv f a0 a1 k
    have e : wk_ f a (k + 1) = wg_ f (wk_ f a k) := rfl
    rw [e]
    by_cases hn : wn_ (wk_ f a k).1 (wk_ f a k).2 = -1
    · have eg : wg_ f (wk_ f a k) = wk_ f a k := by unfold wg_; rw [if_pos hn]
      rw [eg]
      refine ⟨h1, .inr (fun j j0 j1 hj => ?_)⟩
      have en : wn_ (wk_ f a k).1 (wk_ f a k).2 = (wp_ (wk_ f a k).1 (wk_ f a k).2 8).1 := rfl
      rcases wp_spec (wk_ f a k).1 (wk_ f a k).2 8 with ⟨-, -, h⟩ | ⟨h, -⟩
      · exact h j j0 (by omega) hj
      · omega
    · obtain ⟨i1, nu, n01, npos⟩ := wiv_s h1 hn
      refine ⟨i1, .inl ?_⟩
      rcases h2 with h2 | h2
      · have h := cnt_lt (P := fun j => (wk_ f a k).2 j ≠ 0) (Q := fun j => (wg_ f (wk_ f a k)).2 j ≠ 0) 8 (fun j hj hv => by
            unfold wg_
            rw [if_neg hn]
            show up_ (wk_ f a k).2 _ 1 (j : Int) ≠ 0
            unfold up_
            split
            · decide
            · exact hv) ⟨(wn_ (wk_ f a k).1 (wk_ f a k).2).toNat, by omega, by
            unfold wg_
            rw [if_neg hn, Int.toNat_of_nonneg n01.1]
            show up_ (wk_ f a k).2 _ 1 _ ≠ 0
            rw [up_at]
            decide, by
            rw [Int.toNat_of_nonneg n01.1]
            exact fun q => q nu⟩
        omega
      · have := h2 _ n01.1 n01.2 nu
        omega
theorem wb_iff {f : gr_t} {l a b : Int} (a0 : 0 ≤ a) (a1 : a < 8) (b0 : 0 ≤ b) (b1 : b < 8) (hne : b ≠ a) (l1 : 1 ≤ l) : l ≤ wb_ f a b ↔ rch_ f l a 7 b := by
  obtain ⟨⟨i0, i1, i2, i3, i4⟩, hc⟩ := wk_inv f a0 a1 7
  have fin : wend_ (wk_ f a 7) := by
    rcases hc with hc | hc
    · intro j j0 j1 hj
      have h := cnt_lt (P := fun j => (wk_ f a 7).2 j ≠ 0) (Q := fun _ => True) 8 (fun _ _ _ => trivial) ⟨j.toNat, by omega, trivial, by rw [Int.toNat_of_nonneg j0]; exact fun q => q hj⟩
      have h2 := cnt_le (fun _ => True) 8
      omega
    · exact hc
  have comp : ∀ (n : Nat) (j : Int), 0 ≤ j → j < 8 → rch_ f l a n j → j = a ∨ l ≤ (wk_ f a 7).1 j := by
    intro n
    induction n with
    | zero => intro j _ _ h; exact .inl h
    | succ n ih =>
      intro j j0 j1 h
      rcases h with h | ⟨i, hi, hr, hl⟩
      · exact ih j j0 j1 h
      · rcases ih i hi.1 hi.2 hr with e | e
        · rw [e] at hl
          exact .inr (Int.le_trans hl (i3 j j0 j1))
        · by_cases c : i = a
          · rw [c] at hl
            exact .inr (Int.le_trans hl (i3 j j0 j1))
          · have hv : (wk_ f a 7).2 i ≠ 0 := fun q => by
              have := fin i hi.1 hi.2 q
              omega
            have := i2 i j hi.1 hi.2 hv c j0 j1
            exact .inr (by omega)
  refine ⟨fun h => ?_, fun h => (comp 7 b b0 b1 h).resolve_left hne⟩
  obtain ⟨n, hn⟩ := i4 l b l1 b0 b1 h
  exact rch_7 a0 a1 b0 b1 hn
/-- the class and the reference find the same bearing -/
theorem wb_xw {q : rw_t} (hW : wf_M q) (hu : uj_ q) {a b : Int} (a0 : 0 ≤ a) (a1 : a < 8) (b0 : 0 ≤ b) (b1 : b < 8) (hne : b ≠ a) (hx : xw_ q a 8 b ≤ 99) : wb_ (sa_ q) a b = xw_ q a 8 b := by
  have l1 := wb_le (sa_le hW) a0 a1 b0 b1
  have l2 := (xw_lm hW a 8) b b0 b1
  have h1 : 1 ≤ wb_ (sa_ q) a b → wb_ (sa_ q) a b ≤ xw_ q a 8 b := fun h => (xw_iff hW hu a0 a1 b0 b1 h l1.2).mpr ((wb_iff a0 a1 b0 b1 hne h).mp (Int.le_refl _))
  have h2 : 1 ≤ xw_ q a 8 b → xw_ q a 8 b ≤ wb_ (sa_ q) a b := fun h => (wb_iff a0 a1 b0 b1 hne h).mpr ((xw_iff hW hu a0 a1 b0 b1 h hx).mp (Int.le_refl _))
  omega
end
section
/-! how far: class and reference -/
theorem xw_99 {q : rw_t} (hW : wf_M q) (a : Int) (k : Nat) : ∀ j : Int, j ≠ a → xw_ q a k j ≤ 99 := by
  have w3 := hW.1
  refine fo_inv (n := k) (P := fun (F : Int → Int) => ∀ j : Int, j ≠ a → F j ≤ 99) (fun j h => ?_) (fun _ F _ _ hF => ?_) k (Nat.le_refl k)
  · unfold xw0_
    rw [if_neg h]
    decide
  · refine fo_inv (n := (q 3).toNat) (P := fun (F : Int → Int) => ∀ j : Int, j ≠ a → F j ≤ 99) hF (fun m F m0 m1 hF => ?_) _ (Nat.le_refl _)
    have hb := br_le hW m0 (by omega : m < 16)
    intro j hj
    have h0 := hF j hj
    unfold xw1_
    by_cases e1 : j = q (16 + 6 * m)
    · rw [← e1, up_at]
      by_cases e2 : j = q (17 + 6 * m)
      · rw [← e2, up_at]
        omega
      · rw [up_ne e2]
        omega
    · rw [up_ne e1]
      by_cases e2 : j = q (17 + 6 * m)
      · rw [← e2, up_at]
        omega
      · rw [up_ne e2]
        omega
theorem xm1_le2 (q : rw_t) (l w m : Int) (F : Int → Int) (j : Int) : xm1_ q l w m F j ≤ F j := by
  unfold xm1_
  split
  · by_cases e1 : j = q (16 + 6 * m)
    · rw [← e1, up_at]
      by_cases e2 : j = q (17 + 6 * m)
      · rw [← e2, up_at]
        omega
      · rw [up_ne e2]
        omega
    · rw [up_ne e1]
      by_cases e2 : j = q (17 + 6 * m)
      · rw [← e2, up_at]
        omega
      · rw [up_ne e2]
        omega
  · exact Int.le_refl _
theorem xm1_hit {q : rw_t} {m l w i j n : Int} {F : Int → Int} (hi : F i ≤ n) (hm : jn_ q m i j) (hb : l ≤ br_ q m) (hw : m ≠ w) : xm1_ q l w m F j ≤ n + 1 := by
  unfold xm1_
  rw [if_pos ⟨hw, hb⟩]
  rcases hm with ⟨h1, h2⟩ | ⟨h1, h2⟩
  · rw [h1, h2]
    by_cases e : j = i
    · subst e
      rw [up_at, up_at]
      omega
    · rw [up_ne e, up_at]
      omega
  · rw [h1, h2, up_at]
    have e1 : (up_ F i (min (F i) (F j + 1))) i = min (F i) (F j + 1) := up_at
    rw [e1]
    omega
theorem xm2_le2 (q : rw_t) (l w : Int) (F : Int → Int) (j : Int) (n : Nat) : ∀ m : Nat, xm2_ q l w F (n + m) j ≤ xm2_ q l w F n j
  | 0 => Int.le_refl _
  | m + 1 => Int.le_trans (xm1_le2 q l w ((n + m : Nat) : Int) (xm2_ q l w F (n + m)) j) (xm2_le2 q l w F j n m)
theorem xm2_hit {q : rw_t} {m : Nat} {l w i j c : Int} {F : Int → Int} {n : Nat} (hn : m < n) (hi : F i ≤ c) (hm : jn_ q m i j) (hb : l ≤ br_ q m) (hw : (m : Int) ≠ w) : xm2_ q l w F n j ≤ c + 1 := by
  have h1 : xm2_ q l w F m i ≤ c := by
    have := xm2_le2 q l w F i 0 m
    rw [Nat.zero_add] at this
    exact Int.le_trans this hi
  have h2 : xm2_ q l w F (m + 1) j ≤ c + 1 := xm1_hit h1 hm hb hw
  obtain ⟨k, rfl⟩ : ∃ k, n = (m + 1) + k := ⟨n - (m + 1), by omega⟩
  exact Int.le_trans (xm2_le2 q l w F j (m + 1) k) h2
theorem xm_full {q : rw_t} (hu : uj_ q) (h3 : 0 ≤ q 3) {l t : Int} (l1 : 1 ≤ l) : ∀ (k n : Nat) (j : Int), n ≤ k → rch_ (sa_ q) l t n j → xm_ q l (-1) t k j ≤ n
  | 0, n, j, hn, h => by
    have n0 : n = 0 := by omega
    subst n0
    have e : j = t := h
    show xm0_ t j ≤ _
    unfold xm0_
    rw [if_pos e]
    decide
  | k + 1, n, j, hk, h => by
    have le : ∀ i, xm_ q l (-1) t (k + 1) i ≤ xm_ q l (-1) t k i := fun i => by
      have := xm2_le2 q l (-1) (xm_ q l (-1) t k) i 0 (q 3).toNat
      rw [Nat.zero_add] at this
      exact this
    by_cases e : n ≤ k
    · exact Int.le_trans (le j) (xm_full hu h3 l1 k n j e h)
    · have en : n = k + 1 := by omega
      subst en
      rcases h with h | ⟨i, hi, hr, hl⟩
      · have := xm_full hu h3 l1 k k j (Nat.le_refl k) h
        have := le j
        omega
      · obtain ⟨m, m1, hm, hb⟩ := sa_ex hu h3 l1 hl
        have := xm2_hit (n := (q 3).toNat) (F := xm_ q l (-1) t k) (by omega) (xm_full hu h3 l1 k k i (Nat.le_refl k) hr) hm hb (by omega : (m : Int) ≠ -1)
        exact Int.le_trans this (by omega)
theorem xm_sound {q : rw_t} (hW : wf_M q) (hu : uj_ q) {l t : Int} (k : Nat) : ∀ j : Int, 0 ≤ j → j < 8 → 0 ≤ xm_ q l (-1) t k j ∧ (xm_ q l (-1) t k j < 99999 → rch_ (sa_ q) l t (xm_ q l (-1) t k j).toNat j) := by
  have w3 := hW.1
  refine fo_inv (n := k) (P := fun (F : Int → Int) => ∀ j : Int, 0 ≤ j → j < 8 → 0 ≤ F j ∧ (F j < 99999 → rch_ (sa_ q) l t (F j).toNat j)) (fun j _ _ => ?_) (fun _ F _ _ hF => ?_) k (Nat.le_refl k)
  · unfold xm0_
    split
    · rename_i e
      exact ⟨by decide, fun _ => e⟩
    · exact ⟨by decide, fun h => absurd h (by decide)⟩
  · refine fo_inv (n := (q 3).toNat) (P := fun (F : Int → Int) => ∀ j : Int, 0 ≤ j → j < 8 → 0 ≤ F j ∧ (F j < 99999 → rch_ (sa_ q) l t (F j).toNat j)) hF (fun m F m0 m1 hF => ?_) _ (Nat.le_refl _)
    obtain ⟨g0, g1, -⟩ := hW.2 m m0 (by omega)
    have s1 := sa_yes hu w3.1 m0 (by omega) (.inl ⟨rfl, rfl⟩ : jn_ q m (q (16 + 6 * m)) (q (17 + 6 * m)))
    have s2 := sa_yes hu w3.1 m0 (by omega) (.inr ⟨rfl, rfl⟩ : jn_ q m (q (17 + 6 * m)) (q (16 + 6 * m)))
    unfold xm1_
    split
    · rename_i hc
      have st : ∀ (G : Int → Int) (i j : Int), (∀ j : Int, 0 ≤ j → j < 8 → 0 ≤ G j ∧ (G j < 99999 → rch_ (sa_ q) l t (G j).toNat j)) → 0 ≤ i → i < 8 → l ≤ sa_ q i j → 0 ≤ j → j < 8 → ∀ x : Int, 0 ≤ x → x < 8 → 0 ≤ (up_ G j (min (G j) (G i + 1))) x ∧ ((up_ G j (min (G j) (G i + 1))) x < 99999 → rch_ (sa_ q) l t ((up_ G j (min (G j) (G i + 1))) x).toNat x) := by
        intro G i j hG i0 i1 hl j0 j1 x x0 x1
        have gi := hG i i0 i1
        have gj := hG j j0 j1
        by_cases e : x = j
        · subst e
          rw [up_at]
          refine ⟨by omega, fun h => ?_⟩
          by_cases c : G x ≤ G i + 1
          · rw [show min (G x) (G i + 1) = G x by omega]
            exact gj.2 (by omega)
          · rw [show min (G x) (G i + 1) = G i + 1 by omega, show (G i + 1).toNat = (G i).toNat + 1 by omega]
            exact .inr ⟨i, ⟨i0, i1⟩, gi.2 (by omega), hl⟩
        · rw [up_ne e]
          exact hG x x0 x1
      have h1 := st F (q (16 + 6 * m)) (q (17 + 6 * m)) hF g0.1 (by omega) (by rw [s1]; exact hc.2) g1.1 (by omega)
      exact st _ (q (17 + 6 * m)) (q (16 + 6 * m)) h1 g1.1 (by omega) (by rw [s2]; exact hc.2) g0.1 (by omega)
    · exact hF
theorem xm_iff {q : rw_t} (hW : wf_M q) (hu : uj_ q) {l t j : Int} (j0 : 0 ≤ j) (j1 : j < 8) (l1 : 1 ≤ l) {n : Nat} (hn : n ≤ 8) : xm_ q l (-1) t 8 j ≤ n ↔ rch_ (sa_ q) l t n j := by
  obtain ⟨h0, h1⟩ := xm_sound (l := l) (t := t) hW hu 8 j j0 j1
  exact ⟨fun h => rch_le (h1 (by omega)) n (by omega), fun h => xm_full hu hW.1.1 l1 8 n j hn h⟩
end
section
/-! how far the class measures -/
theorem mj_spec (f : gr_t) (l c : Int) (dd : Int → Int) : ∀ k : Nat, k ≤ 8 → (∀ x : Int, mj_ f l c dd k x ≤ dd x) ∧ (∀ x : Int, dd x ≤ c → mj_ f l c dd k x = dd x) ∧ (∀ i : Int, 0 ≤ i → i < k → dd i = c → ∀ x : Int, l ≤ f i x → mj_ f l c dd k x ≤ c + 1) ∧ ∀ x : Int, mj_ f l c dd k x = dd x ∨ (mj_ f l c dd k x = c + 1 ∧ ∃ i : Int, (0 ≤ i ∧ i < 8) ∧ dd i = c ∧ l ≤ f i x)
  | 0, _ => ⟨fun _ => Int.le_refl _, fun _ _ => rfl, fun i i0 i1 => by omega, fun _ => .inl rfl⟩
  | k + 1, hk => by
    obtain ⟨hA, hB, hC, hD⟩ := mj_spec f l c dd k (by omega)
    have e : mj_ f l c dd (k + 1) = if mj_ f l c dd k (k : Int) = c then sp1_ f l (mj_ f l c dd k) k else mj_ f l c dd k := rfl
    rw [e]
    generalize mj_ f l c dd k = E at *
    by_cases h : E (k : Int) = c
    · rw [if_pos h]
      have dk : dd (k : Int) = c := by
        rcases hD (k : Int) with q | ⟨q, -⟩
        · rw [← q]; exact h
        · omega
      have val : ∀ x, sp1_ f l E (k : Int) x = if l ≤ f (k : Int) x then min (E x) (c + 1) else E x := fun x => by
        unfold sp1_
        rw [h]
      refine ⟨fun x => ?_, fun x hx => ?_, fun i i0 i1 hi x hx => ?_, fun x => ?_⟩
      · rw [val]
        have := hA x
        split <;> omega
      · rw [val, hB x hx]
        split <;> omega
      · rw [val]
        by_cases ei : i = (k : Int)
        · rw [ei] at hx
          rw [if_pos hx]
          omega
        · have := hC i i0 (by omega) hi x hx
          split <;> omega
      · rw [val]
        by_cases hx : l ≤ f (k : Int) x
        · rw [if_pos hx]
          by_cases cc : E x ≤ c + 1
          · rw [show min (E x) (c + 1) = E x by omega]
            exact hD x
          · rw [show min (E x) (c + 1) = c + 1 by omega]
            exact .inr ⟨rfl, (k : Int), by omega, dk, hx⟩
        · rw [if_neg hx]
          exact hD x
    · rw [if_neg h]
      refine ⟨hA, hB, fun i i0 i1 hi x hx => ?_, hD⟩
      by_cases ei : i = (k : Int)
      · rw [ei] at hi
        have := hB (k : Int) (by omega)
        omega
      · exact hC i i0 (by omega) hi x hx
theorem mc_spec (f : gr_t) (l : Int) {t : Int} : ∀ k : Nat, k ≤ 7 → (∀ x : Int, 0 ≤ x → x < 8 → 0 ≤ mc_ f l t k x ∧ mc_ f l t k x ≤ 8 ∧ (mc_ f l t k x ≤ 7 → rch_ f l t (mc_ f l t k x).toNat x)) ∧ ∀ (n : Nat) (x : Int), n ≤ k → 0 ≤ x → x < 8 → rch_ f l t n x → mc_ f l t k x ≤ n
  | 0, _ => by
    refine ⟨fun x x0 x1 => ?_, fun n x hn x0 x1 h => ?_⟩
    · show 0 ≤ m0_ t x ∧ m0_ t x ≤ 8 ∧ (m0_ t x ≤ 7 → rch_ f l t (m0_ t x).toNat x)
      unfold m0_
      split
      · rename_i e
        exact ⟨by decide, by decide, fun _ => e⟩
      · exact ⟨by decide, by decide, fun h => absurd h (by decide)⟩
    · have n0 : n = 0 := by omega
      subst n0
      have e : x = t := h
      show m0_ t x ≤ _
      unfold m0_
      rw [if_pos e]
      decide
  | k + 1, hk => by
    obtain ⟨hS, hF⟩ := mc_spec f l (t := t) k (by omega)
    have e : mc_ f l t (k + 1) = mj_ f l (k : Int) (mc_ f l t k) 8 := rfl
    rw [e]
    obtain ⟨hA, hB, hC, hD⟩ := mj_spec f l (k : Int) (mc_ f l t k) 8 (Nat.le_refl 8)
    generalize mc_ f l t k = D at *
    refine ⟨fun x x0 x1 => ?_, fun n x hn x0 x1 h => ?_⟩
    · rcases hD x with q | ⟨q, i, hi, di, hl⟩
      · rw [q]
        exact hS x x0 x1
      · rw [q]
        refine ⟨by omega, by omega, fun _ => ?_⟩
        have hr := (hS i hi.1 hi.2).2.2 (by omega)
        rw [di] at hr
        rw [show ((k : Int) + 1).toNat = (k : Int).toNat + 1 by omega]
        exact .inr ⟨i, hi, hr, hl⟩
    · by_cases c : n ≤ k
      · exact Int.le_trans (hA x) (hF n x c x0 x1 h)
      · have en : n = k + 1 := by omega
        subst en
        rcases h with h | ⟨i, hi, hr, hl⟩
        · have := hF k x (Nat.le_refl k) x0 x1 h
          have := hA x
          omega
        · have li := hF k i (Nat.le_refl k) hi.1 hi.2 hr
          have si := hS i hi.1 hi.2
          by_cases ci : D i = (k : Int)
          · have := hC i hi.1 (by omega) ci x hl
            omega
          · have h2 : rch_ f l t ((D i).toNat + 1) x := .inr ⟨i, hi, si.2.2 (by omega), hl⟩
            have := hF ((D i).toNat + 1) x (by omega) x0 x1 h2
            have := hA x
            omega
theorem md_iff (f : gr_t) {l t x : Int} (x0 : 0 ≤ x) (x1 : x < 8) {n : Nat} (hn : n ≤ 7) : md_ f l t x ≤ n ↔ rch_ f l t n x := by
  obtain ⟨hS, hF⟩ := mc_spec f l (t := t) 7 (Nat.le_refl 7)
  have h := hS x x0 x1
  exact ⟨fun q => rch_le (h.2.2 (show mc_ f l t 7 x ≤ 7 by have : mc_ f l t 7 x ≤ n := q; omega)) n (by have : mc_ f l t 7 x ≤ n := q; omega), fun q => hF n x hn x0 x1 q⟩
theorem md_le (f : gr_t) {l t x : Int} (x0 : 0 ≤ x) (x1 : x < 8) : 0 ≤ md_ f l t x ∧ md_ f l t x ≤ 8 := by
  obtain ⟨hS, -⟩ := mc_spec f l (t := t) 7 (Nat.le_refl 7)
  exact ⟨(hS x x0 x1).1, (hS x x0 x1).2.1⟩
/-- class and reference: equally far, where it can be reached -/
theorem md_xm {q : rw_t} (hW : wf_M q) (hu : uj_ q) {l t x : Int} (t0 : 0 ≤ t) (t1 : t < 8) (x0 : 0 ≤ x) (x1 : x < 8) (l1 : 1 ≤ l) : (md_ (sa_ q) l t x ≤ 7 ∧ xm_ q l (-1) t 8 x = md_ (sa_ q) l t x) ∨ (md_ (sa_ q) l t x = 8 ∧ 8 < xm_ q l (-1) t 8 x) := by
  have h1 := md_le (sa_ q) (l := l) (t := t) x0 x1
  have h2 := (xm_sound (l := l) (t := t) hW hu 8 x x0 x1).1
  by_cases c : md_ (sa_ q) l t x ≤ 7
  · refine .inl ⟨c, ?_⟩
    have a := (md_iff (sa_ q) (l := l) (t := t) x0 x1 (n := (md_ (sa_ q) l t x).toNat) (by omega)).mp (by omega)
    have b := (xm_iff hW hu x0 x1 l1 (n := (md_ (sa_ q) l t x).toNat) (by omega)).mpr a
    have a2 := (xm_iff hW hu x0 x1 l1 (t := t) (n := (xm_ q l (-1) t 8 x).toNat) (by omega)).mp (by omega)
    have b2 := (md_iff (sa_ q) (l := l) (t := t) x0 x1 (n := (xm_ q l (-1) t 8 x).toNat) (by omega)).mpr a2
    omega
  · refine .inr ⟨by omega, ?_⟩
    refine Classical.byContradiction (fun no => ?_)
    have a := (xm_iff hW hu x0 x1 l1 (t := t) (n := 8) (Nat.le_refl 8)).mp (by omega)
    have b := (md_iff (sa_ q) (l := l) (t := t) x0 x1 (n := 7) (Nat.le_refl 7)).mpr (rch_7 t0 t1 x0 x1 a)
    omega
end
