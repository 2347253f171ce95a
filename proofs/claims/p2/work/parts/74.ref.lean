section REF
variable {g : bc_C} {d : Nat} {σ : bc_M} {q b : rw_t} {h : List rw_t} {Rr : Option bc_A → bc_M → Prop} {X : Nat → bc_M → Prop}
theorem t_X11_isDue {a : Int} (hN : nw_ σ 219 q) (h0 : 0 ≤ q 0 ∧ q 0 ≤ 1000000) (ha : bc_in a) (h : Rr (some (bc_I (if q 0 < a ∧ a ≤ q 0 + 50 then 1 else 0))) σ) : bc_Sem g (d + 1) mX11_isDue [bc_R 218, bc_I a] σ Rr X := by
  obtain ⟨a0, a1⟩ := ha
  have e0 := hN 0 (by decide) (by decide)
  refine e_X11_isDue rfl (fun K hK => ?_)
  refine hK.1 [] 60 _ _ _ _ _ ?_
  refine bc_ob_i (by decide) ?_
  refine bc_ob_i (by omega) ?_
  refine bc_br_i (fun c => ?_) (fun c => ?_)
  · refine bc_ob_i (by decide) ?_
    refine bc_ob_i (by omega) ?_
    refine bc_br_i (fun c2 => ?_) (fun c2 => ?_)
    · refine bc_ob_i (by decide) ?_
      exact rt_ h (if_neg (by omega)).symm
    · refine bc_ob_i (by decide) ?_
      exact rt_ h (if_pos (by omega)).symm
  · refine bc_ob_i (by decide) ?_
    exact rt_ h (if_neg (by omega)).symm
theorem t_X11_leftOnes (hN : nw_ σ 219 q) (hW : wf_M q) (h : Rr (some (bc_I (ab_ q))) σ) : bc_Sem g (d + 5) mX11_leftOnes [bc_R 218] σ Rr X := by
  have w := hW.1
  have e3 := hN 3 (by decide) (by decide)
  refine e_X11_leftOnes rfl (fun K hK => ?_)
  have L : ∀ i : Int, ∀ s : Int, 0 ≤ i → i ≤ q 3 → s = sm_ (fun k => q (21 + 6 * k)) i.toNat → K 4 [(0, bc_R 218), (1, bc_I s), (2, bc_I i)] [] σ 0 := by
    refine up_ind (q 3) (fun i hi s i0 i1 hs => ?_) (fun i hi ih s i0 i1 hs => ?_)
    · have e : i = q 3 := by omega
      refine hK.1 [4] 60 _ _ _ _ _ ?_
      refine bc_ob_i (by decide) ?_
      refine bc_ob_i (by omega) ?_
      refine bc_br_i (fun c => by omega) (fun _ => ?_)
      refine rt_ h ?_
      rw [hs, e]
      rfl
    · have es := sm_s (f := fun k => q (21 + 6 * k)) i0
      refine hK.1 [4] 60 _ _ _ _ _ ?_
      refine bc_ob_i (by decide) ?_
      refine bc_ob_i (by omega) ?_
      refine bc_br_i (fun _ => ?_) (fun c => by omega)
      refine t_X11_ofM 21 hN hW i0 hi (by decide) rfl ?_
      exact ih _ (by omega) (by omega) (by rw [es, hs])
  refine hK.1 [4] 40 _ _ _ _ _ ?_
  exact L 0 0 (by decide) w.1 rfl
theorem t_X11_vows {a u : Int} (hG : rg_ σ q h) (hb : nw_ σ 220 b) (h0 : 0 ≤ q 0 ∧ q 0 ≤ 1000000) (h4 : 0 ≤ q 4 ∧ q 4 ≤ 8) (ha : bc_in a) (hu : bc_in u)
    (f1 : vq_ q a u ≠ 0 → ∀ σ', rg_ σ' q h → nw_ σ' 220 b → σ'.1 218 ((14 : Nat) : Int) = (if vq_ q a u = 2 then 1 else 2) → fr_ ex_ σ σ' → fj_ ej_ σ σ' → Rr (some (bc_I 0)) σ')
    (f0 : vq_ q a u = 0 → ∀ σ', rg_ σ' (rv_ q a u) h → nw_ σ' 220 b → σ'.1 218 ((14 : Nat) : Int) = 0 → fr_ ex_ σ σ' → fj_ ej_ σ σ' → Rr (some (bc_I (q 5))) σ') : bc_Sem g (d + 3) mX11_vows [bc_R 218, bc_I a, bc_I u] σ Rr X := by
  obtain ⟨hq, hH⟩ := hG
  have e4 := hq 4 (by decide) (by decide)
  have e5 := hq 5 (by decide) (by decide)
  refine e_X11_vows rfl (fun K hK => ?_)
  -- after the two answers
  have body : ∀ (x : Int), (x = if (q 0 < a ∧ a ≤ q 0 + 50) ∧ 1 ≤ u ∧ u ≤ 99 then 1 else 0) → ∀ y : Int, (y = if q 4 < 8 then 1 else 0) → (ho_ x y 1 1 = 0 ↔ vq_ q a u = 0) ∧ (vq_ q a u ≠ 0 → ho_ x y 1 1 = if vq_ q a u = 2 then 1 else 2) := by
    intro x hx y hy
    unfold ho_ vq_
    by_cases c1 : (q 0 < a ∧ a ≤ q 0 + 50) ∧ 1 ≤ u ∧ u ≤ 99
    · rw [if_pos c1] at hx
      subst hx
      rw [if_neg (show ¬ (¬ (q 0 < a ∧ a ≤ q 0 + 50) ∨ u < 1 ∨ 99 < u) by omega)]
      by_cases c2 : q 4 < 8
      · rw [if_pos c2] at hy
        subst hy
        rw [if_neg (show ¬ 8 ≤ q 4 by omega)]
        decide
      · rw [if_neg c2] at hy
        subst hy
        rw [if_pos (show 8 ≤ q 4 by omega)]
        decide
    · rw [if_neg c1] at hx
      subst hx
      rw [if_pos (show ¬ (q 0 < a ∧ a ≤ q 0 + 50) ∨ u < 1 ∨ 99 < u by omega)]
      simp
  have T2 : ∀ (x y : Int), (x = if (q 0 < a ∧ a ≤ q 0 + 50) ∧ 1 ≤ u ∧ u ≤ 99 then 1 else 0) → (y = if q 4 < 8 then 1 else 0) → K 40 [(0, bc_R 218), (1, bc_I a), (2, bc_I u)] [bc_I y, bc_I x, bc_R 218] σ 0 := by
    intro x y hx hy
    obtain ⟨t1, t2⟩ := body x hx y hy
    have lx : 0 ≤ x ∧ x ≤ 1 := by rw [hx]; split <;> omega
    have ly : 0 ≤ y ∧ y ≤ 1 := by rw [hy]; split <;> omega
    refine hK.1 [] 80 _ _ _ _ _ ?_
    refine t_X11_holds lx ly (by decide) (by decide) ?_
    have g1 : fr_ (fun k => k = 218) σ (bc_wr σ 218 ((14 : Nat) : Int) (ho_ x y 1 1)) := fr_wr rfl
    have z14 : (bc_wr σ 218 ((14 : Nat) : Int) (ho_ x y 1 1)).1 218 ((14 : Nat) : Int) = ho_ x y 1 1 := by simp [bc_wr]
    have hH1 : mh_ (bc_wr σ 218 ((14 : Nat) : Int) (ho_ x y 1 1)) h := mh_fr hH g1 (by decide) (by simp [bc_wr])
    have hq1 := nw_fr hq g1 (by decide)
    have hb1 := nw_fr hb g1 (by decide)
    have j1 : fj_ ej_ σ (bc_wr σ 218 ((14 : Nat) : Int) (ho_ x y 1 1)) := fj_wr (.inr rfl)
    generalize bc_wr σ 218 ((14 : Nat) : Int) (ho_ x y 1 1) = s0 at *
    by_cases c : vq_ q a u = 0
    · have c' := t1.mpr c
      have p8 := vq_0 c.symm
      rw [if_pos c']
      have r4 := hq1 4 (by decide) (by decide)
      have r5 := hq1 5 (by decide) (by decide)
      have n1 := nw_wr (i := 112 + 3 * s0.1 219 4 + 0) (v := s0.1 219 5) hq1
      have n2 := nw_wr (i := 112 + 3 * s0.1 219 4 + 1) (v := a) n1
      have n3 := nw_wr (i := 112 + 3 * s0.1 219 4 + 2) (v := u) n2
      generalize hs3 : bc_wr (bc_wr (bc_wr s0 219 (112 + 3 * s0.1 219 4 + 0) (s0.1 219 5)) 219 (112 + 3 * s0.1 219 4 + 1) a) 219 (112 + 3 * s0.1 219 4 + 2) u = s3 at n3
      have k4 : s3.1 219 4 = q 4 := by
        rw [n3 4 (by decide) (by decide), up_ne (by omega), up_ne (by omega), up_ne (by omega)]
      have n4 := nw_wr (i := 4) (v := s3.1 219 4 + 1) n3
      have k5 : (bc_wr s3 219 4 (s3.1 219 4 + 1)).1 219 5 = q 5 := by
        rw [n4 5 (by decide) (by decide), up_ne (by decide), up_ne (by omega), up_ne (by omega), up_ne (by omega)]
      have n5 := nw_wr (i := 5) (v := (bc_wr s3 219 4 (s3.1 219 4 + 1)).1 219 5 + 1) n4
      have er : up_ (up_ (up_ (up_ (up_ q (112 + 3 * s0.1 219 4 + 0) (s0.1 219 5)) (112 + 3 * s0.1 219 4 + 1) a) (112 + 3 * s0.1 219 4 + 2) u) 4 (s3.1 219 4 + 1)) 5 ((bc_wr s3 219 4 (s3.1 219 4 + 1)).1 219 5 + 1) = rv_ q a u := by
        unfold rv_
        rw [k5, k4, r4, r5, show 112 + 3 * q 4 + 0 = 112 + 3 * q 4 by omega, show 112 + 3 * q 4 + 1 = 113 + 3 * q 4 by omega, show 112 + 3 * q 4 + 2 = 114 + 3 * q 4 by omega]
      rw [er] at n5
      have f5 : fr_ (fun k => k = 219) s0 (bc_wr (bc_wr s3 219 4 (s3.1 219 4 + 1)) 219 5 ((bc_wr s3 219 4 (s3.1 219 4 + 1)).1 219 5 + 1)) := by
        rw [← hs3]
        exact fr_trans (fr_wr rfl) (fr_trans (fr_wr rfl) (fr_trans (fr_wr rfl) (fr_trans (fr_wr rfl) (fr_wr rfl))))
      have fin := f0 c _ ⟨n5, mh_fr hH1 f5 (by decide) (by rw [f5.1 218 (by decide)])⟩ (nw_fr hb1 f5 (by decide)) (by rw [f5.1 218 (by decide), z14]; exact c') (fr_trans (fr_mono g1 (fun k hk => by omega)) (fr_mono f5 (fun k hk => by omega))) (fj_trans j1 (fj_fr f5 (by decide)))
      have k6 := n5 5 (by decide) (by decide)
      have v5 : rv_ q a u 5 = q 5 + 1 := up_at
      rw [← hs3] at fin k6
      refine bc_ob_i (by decide) ?_
      refine bc_br_i (fun q => absurd q (by decide)) (fun _ => ?_)
      refine bc_ob_i (by decide) ?_
      refine bc_ob_i (by decide) ?_
      refine bc_ob_i (by omega) ?_
      refine bc_ob_i (by omega) ?_
      refine bc_ob_i (by omega) ?_
      refine bc_ob_i (by decide) ?_
      refine bc_ob_i (by decide) ?_
      refine bc_ob_i (by decide) ?_
      refine bc_ob_i (by decide) ?_
      refine bc_ob_i (by decide) ?_
      exact rt_ fin (by rw [k6, v5]; omega)
    · have c' : ¬ ho_ x y 1 1 = 0 := fun e => c (t1.mp e)
      rw [if_neg c']
      refine bc_ob_i (by decide) ?_
      refine bc_br_i (fun _ => ?_) (fun q => absurd rfl q)
      exact f1 c _ ⟨hq1, hH1⟩ hb1 (by rw [z14]; exact t2 c) (fr_mono g1 (fun k hk => by omega)) j1
  have T : ∀ (x : Int), (x = if (q 0 < a ∧ a ≤ q 0 + 50) ∧ 1 ≤ u ∧ u ≤ 99 then 1 else 0) → K 24 [(0, bc_R 218), (1, bc_I a), (2, bc_I u)] [bc_I x, bc_R 218] σ 0 := by
    intro x hx
    refine hK.1 [40] 40 _ _ _ _ _ ?_
    refine bc_ob_i (by decide) ?_
    refine bc_ob_i (by omega) ?_
    refine bc_br_i (fun c => ?_) (fun c => ?_)
    · exact T2 x 1 hx (if_pos (by omega)).symm
    · exact T2 x 0 hx (if_neg (by omega)).symm
  refine hK.1 [24] 40 _ _ _ _ _ ?_
  refine t_X11_isDue hq h0 ha ?_
  refine bc_ob_i (by split <;> omega) ?_
  refine bc_br_i (fun c => ?_) (fun c => ?_)
  · exact T 0 (if_neg (by split at c <;> omega)).symm
  · refine t_X11_isIn hu (by decide) (by decide) ?_
    refine bc_ob_i (by split <;> omega) ?_
    refine bc_br_i (fun c2 => ?_) (fun c2 => ?_)
    · exact T 0 (if_neg (by split at c2 <;> omega)).symm
    · exact T 1 (if_pos (by split at c <;> split at c2 <;> omega)).symm
end REF
