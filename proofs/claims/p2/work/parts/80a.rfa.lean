/-! the reference over any row: more of its calls that change the state -/
abbrev ey_ (k : Nat) : Prop := k = 218 ∨ k = 219 ∨ k = 220 ∨ k = 222 ∨ k = 223 ∨ k = 224
/-- a part of a call: thrown t, row q, history h, the row before b -/
def su_ (t : Int) (q : rw_t) (h : List rw_t) (b : rw_t) (σ σ' : bc_M) : Prop := (rg_ σ' q h ∧ nw_ σ' 220 b) ∧ σ'.1 218 ((14 : Nat) : Int) = t ∧ fr_ ey_ σ σ' ∧ fj_ ej_ σ σ'
theorem ey_ex {σ σ' : bc_M} (h : fr_ ex_ σ σ') : fr_ ey_ σ σ' := fr_mono h (fun k hk => by omega)
theorem su_of {t : Int} {q : rw_t} {h : List rw_t} {b : rw_t} {σ σ' : bc_M} (h1 : rg_ σ' q h) (h2 : nw_ σ' 220 b) (h3 : σ'.1 218 ((14 : Nat) : Int) = t) (h4 : fr_ ex_ σ σ') (h5 : fj_ ej_ σ σ') : su_ t q h b σ σ' := ⟨⟨h1, h2⟩, h3, ey_ex h4, h5⟩
theorem su_t {q : rw_t} {h : List rw_t} {b : rw_t} {σ : bc_M} (hG : rg_ σ q h) (hb : nw_ σ 220 b) (v : Int) : su_ v q h b σ (bc_wr σ 218 ((14 : Nat) : Int) v) := by
  have g1 : fr_ (fun k => k = 218) σ (bc_wr σ 218 ((14 : Nat) : Int) v) := fr_wr rfl
  exact ⟨⟨⟨nw_fr hG.1 g1 (by decide), mh_fr hG.2 g1 (by decide) (by simp [bc_wr])⟩, nw_fr hb g1 (by decide)⟩, by simp [bc_wr], fr_mono g1 (fun k hk => by omega), fj_wr (.inr rfl)⟩
theorem su_fr {P : Nat → Prop} {t : Int} {q : rw_t} {h : List rw_t} {b : rw_t} {σ σ1 σ2 : bc_M} (S : su_ t q h b σ σ1) (F : fr_ P σ1 σ2) (h1 : ¬ P 218) (h2 : ¬ P 219) (h3 : ¬ P 220) (h4 : ¬ P 222) (hP : ∀ k, P k → ey_ k) : su_ t q h b σ σ2 := by
  obtain ⟨⟨⟨a1, a2⟩, a3⟩, a4, a5, a6⟩ := S
  exact ⟨⟨⟨nw_fr a1 F h2, mh_fr a2 F h4 (by rw [F.1 218 h1])⟩, nw_fr a3 F h3⟩, by rw [F.1 218 h1]; exact a4, fr_trans a5 (fr_mono F hP), fj_trans a6 (fj_fr F h1)⟩
theorem su_w {t : Int} {q : rw_t} {h : List rw_t} {b : rw_t} {σ σ1 : bc_M} (S : su_ t q h b σ σ1) {i v : Int} : su_ t (up_ q i v) h b σ (bc_wr σ1 219 i v) := by
  obtain ⟨⟨⟨a1, a2⟩, a3⟩, a4, a5, a6⟩ := S
  have F : fr_ (fun k => k = 219) σ1 (bc_wr σ1 219 i v) := fr_wr rfl
  exact ⟨⟨⟨nw_wr a1, mh_fr a2 F (by decide) (by rw [F.1 218 (by decide)])⟩, nw_fr a3 F (by decide)⟩, by rw [F.1 218 (by decide)]; exact a4, fr_trans a5 (fr_mono F (fun k hk => by omega)), fj_trans a6 (fj_fr F (by decide))⟩
def ti_ (r : rw_t) (m : Int) : Int := if 0 ≤ m ∧ m < r 3 then m else 0
theorem pl_ti (r : rw_t) (m j : Int) : pl_ r m j = 16 + j + 6 * ti_ r m := by
  unfold pl_ ti_
  split <;> omega
theorem ti_le {r : rw_t} (m : Int) (h3 : 0 ≤ r 3 ∧ r 3 ≤ 16) : 0 ≤ ti_ r m ∧ ti_ r m < 16 := by
  unfold ti_
  split <;> omega
theorem ti_m {r : rw_t} {m : Int} (h : 0 ≤ m ∧ m < r 3) : ti_ r m = m := if_pos h
section REF
variable {g : bc_C} {d : Nat} {σ : bc_M} {q b : rw_t} {h : List rw_t} {Rr : Option bc_A → bc_M → Prop} {X : Nat → bc_M → Prop} {B : Int}
theorem t_X11_ofT {m j : Int} (p : Int) (hN : nw_ σ 219 q) (hW : wf_M q) (hm : bc_in m) (hj : 0 ≤ j ∧ j ≤ 5) (e : p = 16 + j) (f : Rr (some (bc_I (q (p + 6 * ti_ q m)))) σ) : bc_Sem g (d + 4) mX11_of [bc_R 218, bc_I m, bc_I j] σ Rr X := by
  refine t_X11_of hN hW.1 hm hj ?_
  rw [pl_ti, ← e]
  exact f
theorem t_X11_costOfT {m : Int} (hN : nw_ σ 219 q) (hW : wf_M q) (hm : bc_in m) (f : Rr (some (bc_I (co_ q (ti_ q m)))) σ) : bc_Sem g (d + 5) mX11_costOf [bc_R 218, bc_I m] σ Rr X := by
  have w := hW.1
  have tl := ti_le m w
  obtain ⟨g0, g1, g2, g3, g4, g5⟩ := hW.2 (ti_ q m) tl.1 tl.2
  refine e_X11_costOf rfl (fun K hK => ?_)
  unfold co_ at f
  refine hK.1 [] 60 _ _ _ _ _ ?_
  refine t_X11_ofT 18 hN hW hm (by decide) rfl ?_
  refine bc_ob_i ⟨⟨by omega, by omega⟩, by decide, by decide⟩ ?_
  refine t_X11_ofT 19 hN hW hm (by decide) rfl ?_
  exact f
def er_ (q : rw_t) (m : Int) : Int := if ¬ (0 ≤ m ∧ m < q 3) then 1 else if q (21 + 6 * m) ≠ 0 then 2 else if q 1 < co_ q m then 3 else 0
theorem t_X11_repairs {m : Int} (hG : rg_ σ q h) (hb : nw_ σ 220 b) (hW : wf_M q) (hT : wf_T B q) (hB : B ≤ 1000000) (hm : bc_in m)
    (f1 : er_ q m ≠ 0 → ∀ σ', su_ (er_ q m) q h b σ σ' → Rr (some (bc_I 0)) σ')
    (f0 : er_ q m = 0 → ∀ σ', su_ 0 (rn_ (rs_ q (co_ q m)) m) h b σ σ' → Rr (some (bc_I (co_ q m))) σ') : bc_Sem g (d + 6) mX11_repairs [bc_R 218, bc_I m] σ Rr X := by
  obtain ⟨hq, hH⟩ := hG
  have h3 := hW.1
  have tl := ti_le m h3
  obtain ⟨g0, g1, g2, g3, g4, g5⟩ := hW.2 (ti_ q m) tl.1 tl.2
  obtain ⟨T0, T1, T2, T4, T5, T6, T7, Ts, T8, T9, T10, Te, -⟩ := hT
  have hc : 0 ≤ co_ q (ti_ q m) ∧ co_ q (ti_ q m) ≤ 90 := by
    unfold co_
    have := mul_le (a := (q (18 + 6 * ti_ q m) + 9) / 10) (A := 10) (b := q (19 + 6 * ti_ q m)) (B := 9) (by omega) (by omega) (by omega) (by omega)
    omega
  have e1 := hq 1 (by decide) (by decide)
  refine e_X11_repairs rfl (fun K hK => ?_)
  have T : ∀ (x y z : Int), (x = if 0 ≤ m ∧ m < q 3 then 1 else 0) → (y = if q (21 + 6 * ti_ q m) = 0 then 1 else 0) → (z = if co_ q (ti_ q m) ≤ q 1 then 1 else 0) → K 41 [(0, bc_R 218), (1, bc_I m), (2, bc_I (co_ q (ti_ q m)))] [bc_I z, bc_I y, bc_I x, bc_R 218] σ 0 := by
    intro x y z hx hy hz
    have lx : 0 ≤ x ∧ x ≤ 1 := by rw [hx]; split <;> omega
    have ly : 0 ≤ y ∧ y ≤ 1 := by rw [hy]; split <;> omega
    have lz : 0 ≤ z ∧ z ≤ 1 := by rw [hz]; split <;> omega
    have ht : ho_ x y z 1 = er_ q m := by
      unfold ho_ er_
      by_cases c : 0 ≤ m ∧ m < q 3
      · rw [ti_m c] at hy hz
        rw [hx, hy, hz]
        (repeat' split) <;> first | rfl | omega
      · rw [if_neg c] at hx
        rw [hx, if_pos rfl, if_pos c]
    refine hK.1 [] 90 _ _ _ _ _ ?_
    refine t_X11_holds lx ly lz (by decide) ?_
    rw [ht]
    have S0 := su_t (q := q) (h := h) (b := b) ⟨hq, hH⟩ hb (er_ q m)
    generalize bc_wr σ 218 ((14 : Nat) : Int) (er_ q m) = s0 at S0 ⊢
    by_cases e : er_ q m = 0
    · have pm : 0 ≤ m ∧ m < q 3 := by
        refine Classical.byContradiction (fun np => ?_)
        unfold er_ at e
        rw [if_pos np] at e
        exact absurd e (by decide)
      have pc : co_ q m ≤ q 1 := by
        unfold er_ at e
        rw [if_neg (by omega)] at e
        split at e
        · exact absurd e (by decide)
        · split at e
          · exact absurd e (by decide)
          · omega
      rw [if_pos e]
      rw [ti_m pm] at hc ⊢
      rw [e] at S0
      refine bc_ob_i (by decide) ?_
      refine bc_br_i (fun q => absurd q (by decide)) (fun _ => ?_)
      have r0 := S0.1.1.1
      have a1 := r0 1 (by decide) (by decide)
      have S1 := su_w S0 (i := 1) (v := s0.1 219 1 - co_ q m)
      have a10 : (bc_wr s0 219 1 (s0.1 219 1 - co_ q m)).1 219 10 = q 10 := by rw [S1.1.1.1 10 (by decide) (by decide), up_ne (by decide)]
      have S2 := su_w S1 (i := 10) (v := (bc_wr s0 219 1 (s0.1 219 1 - co_ q m)).1 219 10 + co_ q m)
      have e2 : up_ (up_ q 1 (s0.1 219 1 - co_ q m)) 10 ((bc_wr s0 219 1 (s0.1 219 1 - co_ q m)).1 219 10 + co_ q m) = rs_ q (co_ q m) := by
        unfold rs_
        rw [a10, a1]
      rw [e2] at S2
      have k3 : rs_ q (co_ q m) 3 = q 3 := rfl
      have p3 : pl_ (rs_ q (co_ q m)) m 3 = 19 + 6 * m := by
        rw [pl_at pm.1 (by rw [k3]; exact pm.2)]
        omega
      have S3 := su_w S2 (i := pl_ (rs_ q (co_ q m)) m 3) (v := 0)
      rw [p3] at S3
      have k4 : up_ (rs_ q (co_ q m)) (19 + 6 * m) 0 3 = q 3 := up_ne (by omega)
      have p4 : pl_ (up_ (rs_ q (co_ q m)) (19 + 6 * m) 0) m 4 = 20 + 6 * m := by
        rw [pl_at pm.1 (by rw [k4]; exact pm.2)]
        omega
      have S4 := su_w S3 (i := 20 + 6 * m) (v := 0)
      have e4 : up_ (up_ (rs_ q (co_ q m)) (19 + 6 * m) 0) (20 + 6 * m) 0 = rn_ (rs_ q (co_ q m)) m := by
        funext j
        unfold rn_ up_
        by_cases j1 : j = 20 + 6 * m
        · rw [if_pos j1, if_neg (by omega), if_pos j1]
        · rw [if_neg j1, if_neg j1]
      rw [e4] at S4
      have fin := f0 e _ S4
      refine bc_ob_i (by decide) ?_
      refine bc_ob_i (by decide) ?_
      refine bc_ob_i (by decide) ?_
      refine bc_ob_i (by decide) ?_
      refine t_X11_place S2.1.1.1 (by rw [k3]; exact h3) hm ?_
      rw [p3]
      refine bc_ob_i (by omega) ?_
      refine t_X11_place S3.1.1.1 (by rw [k4]; exact h3) hm ?_
      rw [p4]
      refine bc_ob_i (by omega) ?_
      exact fin
    · rw [if_neg e]
      refine bc_ob_i (by decide) ?_
      refine bc_br_i (fun _ => ?_) (fun q => absurd rfl q)
      exact f1 e _ S0
  have T2 : ∀ (x y : Int), (x = if 0 ≤ m ∧ m < q 3 then 1 else 0) → (y = if q (21 + 6 * ti_ q m) = 0 then 1 else 0) → K 26 [(0, bc_R 218), (1, bc_I m), (2, bc_I (co_ q (ti_ q m)))] [bc_I y, bc_I x, bc_R 218] σ 0 := by
    intro x y hx hy
    refine hK.1 [41] 60 _ _ _ _ _ ?_
    refine bc_ob_i (by decide) ?_
    refine bc_ob_i ⟨by constructor <;> omega, by rw [e1]; constructor <;> omega⟩ ?_
    rw [e1]
    refine bc_br_i (fun c => ?_) (fun c => ?_)
    · exact T x y 0 hx hy (if_neg (by omega)).symm
    · exact T x y 1 hx hy (if_pos (by omega)).symm
  refine hK.1 [26] 60 _ _ _ _ _ ?_
  refine t_X11_costOfT hq hW hm ?_
  refine t_X11_isMember hq h3 hm ?_
  refine t_X11_ofT 21 hq hW hm (by decide) rfl ?_
  refine bc_ob_i (by omega) ?_
  refine bc_br_i (fun c => ?_) (fun c => ?_)
  · exact T2 _ 1 rfl (if_pos c).symm
  · exact T2 _ 0 rfl (if_neg c).symm
end REF
