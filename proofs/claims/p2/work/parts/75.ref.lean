section REF
variable {g : bc_C} {d : Nat} {σ : bc_M} {q b : rw_t} {h : List rw_t} {Rr : Option bc_A → bc_M → Prop} {X : Nat → bc_M → Prop}
theorem t_X11_makeVow {a u : Int} (hG : rg_ σ q h) (h0 : 0 ≤ q 0 ∧ q 0 ≤ 1000000) (h4 : 0 ≤ q 4 ∧ q 4 ≤ 8) (ha : bc_in a) (hu : bc_in u)
    (f1 : vq_ q a u ≠ 0 → ∀ σ', rg_ σ' q h → σ'.1 218 ((14 : Nat) : Int) = (if vq_ q a u = 2 then 1 else 2) → fr_ ex_ σ σ' → fj_ ej_ σ σ' → Rr (some (bc_I 0)) σ')
    (f0 : vq_ q a u = 0 → ∀ σ', rg_ σ' (rv_ q a u) (hr_ h q) → σ'.1 218 ((14 : Nat) : Int) = 0 → fr_ ex_ σ σ' → fj_ ej_ σ σ' → Rr (some (bc_I (q 5))) σ') : bc_Sem g (d + 4) mX11_makeVow [bc_R 218, bc_I a, bc_I u] σ Rr X := by
  refine e_X11_makeVow rfl (fun K hK => ?_)
  refine hK.1 [] 60 _ _ _ _ _ ?_
  refine t_X11_begins hG.1 (fun σ1 b1 g1 => ?_)
  have F1 : fr_ ex_ σ σ1 := fr_mono g1 (fun k hk => by omega)
  have G1 : rg_ σ1 q h := ⟨nw_fr hG.1 g1 (by decide), mh_fr hG.2 g1 (by decide) (by rw [g1.1 218 (by decide)])⟩
  have J1 : fj_ ej_ σ σ1 := fj_fr g1 (by decide)
  refine t_X11_vows G1 b1 h0 h4 ha hu (fun c σ2 G2 b2 t2 g2 j2 => ?_) (fun c σ2 G2 b2 t2 g2 j2 => ?_)
  · refine t_X11_ends G2 b2 t2 (by split <;> omega) (fun _ σ3 G3 t3 g3 j3 => ?_) (fun e => absurd e (by split <;> omega))
    exact f1 c σ3 G3 t3 (fr_trans F1 (fr_trans g2 g3)) (fj_trans J1 (fj_trans j2 j3))
  · refine t_X11_ends G2 b2 t2 (by decide) (fun e => absurd rfl e) (fun _ σ3 G3 t3 g3 j3 => ?_)
    exact f0 c σ3 G3 t3 (fr_trans F1 (fr_trans g2 g3)) (fj_trans J1 (fj_trans j2 j3))
theorem t_X11_leaves {m w : Int} (hG : rg_ σ q h) (hb : nw_ σ 220 b) (hW : wf_M q) (hm : bc_in m) (hw : 0 ≤ w ∧ w ≤ 1)
    (f1 : lq_ q m (1 - w) ≠ 0 → ∀ σ', rg_ σ' q h → nw_ σ' 220 b → σ'.1 218 ((14 : Nat) : Int) = (if lq_ q m (1 - w) = 1 then 1 else 2) → fr_ ex_ σ σ' → fj_ ej_ σ σ' → Rr (some (bc_I 0)) σ')
    (f0 : lq_ q m (1 - w) = 0 → ∀ σ', rg_ σ' (rl_ q m w) h → nw_ σ' 220 b → σ'.1 218 ((14 : Nat) : Int) = 0 → fr_ ex_ σ σ' → fj_ ej_ σ σ' → Rr (some (bc_I (ab_ (rl_ q m w)))) σ') : bc_Sem g (d + 6) mX11_leaves [bc_R 218, bc_I m, bc_I w] σ Rr X := by
  obtain ⟨hq, hH⟩ := hG
  have h3 := hW.1
  have hpl := pl_le (m := m) (j := 5) h3 (by decide)
  have lv : 0 ≤ q (pl_ q m 5) ∧ q (pl_ q m 5) ≤ 1 := by
    by_cases c : 0 ≤ m ∧ m < q 3
    · rw [pl_at c.1 c.2]
      exact (hW.2 m c.1 (by omega)).2.2.2.2.2
    · unfold pl_
      rw [if_neg c]
      exact (hW.2 0 (by decide) (by decide)).2.2.2.2.2
  refine e_X11_leaves rfl (fun K hK => ?_)
  have T : ∀ (x y : Int), (x = if 0 ≤ m ∧ m < q 3 then 1 else 0) → (y = if q (pl_ q m 5) = w then 0 else 1) → K 21 [(0, bc_R 218), (1, bc_I m), (2, bc_I w)] [bc_I y, bc_I x, bc_R 218] σ 0 := by
    intro x y hx hy
    have lx : 0 ≤ x ∧ x ≤ 1 := by rw [hx]; split <;> omega
    have ly : 0 ≤ y ∧ y ≤ 1 := by rw [hy]; split <;> omega
    have t1 : (ho_ x y 1 1 = 0 ↔ lq_ q m (1 - w) = 0) ∧ (lq_ q m (1 - w) ≠ 0 → ho_ x y 1 1 = if lq_ q m (1 - w) = 1 then 1 else 2) := by
      unfold ho_ lq_
      by_cases c1 : 0 ≤ m ∧ m < q 3
      · rw [if_pos c1] at hx
        rw [pl_at c1.1 c1.2] at hy lv
        have e21 : (16 : Int) + 5 + 6 * m = 21 + 6 * m := by omega
        rw [e21] at hy lv
        subst hx
        rw [if_neg (show ¬ ¬ (0 ≤ m ∧ m < q 3) by omega)]
        by_cases c2 : q (21 + 6 * m) = w
        · rw [if_pos c2] at hy
          subst hy
          rw [if_neg (show ¬ q (21 + 6 * m) = 1 - w by omega)]
          decide
        · rw [if_neg c2] at hy
          subst hy
          rw [if_pos (show q (21 + 6 * m) = 1 - w by omega)]
          decide
      · rw [if_neg c1] at hx
        subst hx
        rw [if_pos c1]
        simp
    refine hK.1 [] 80 _ _ _ _ _ ?_
    refine t_X11_holds lx ly (by decide) (by decide) ?_
    have g1 : fr_ (fun k => k = 218) σ (bc_wr σ 218 ((14 : Nat) : Int) (ho_ x y 1 1)) := fr_wr rfl
    have z14 : (bc_wr σ 218 ((14 : Nat) : Int) (ho_ x y 1 1)).1 218 ((14 : Nat) : Int) = ho_ x y 1 1 := by simp [bc_wr]
    have hH1 : mh_ (bc_wr σ 218 ((14 : Nat) : Int) (ho_ x y 1 1)) h := mh_fr hH g1 (by decide) (by simp [bc_wr])
    have hq1 := nw_fr hq g1 (by decide)
    have hb1 := nw_fr hb g1 (by decide)
    have j1 : fj_ ej_ σ (bc_wr σ 218 ((14 : Nat) : Int) (ho_ x y 1 1)) := fj_wr (.inr rfl)
    generalize bc_wr σ 218 ((14 : Nat) : Int) (ho_ x y 1 1) = s0 at *
    by_cases c : lq_ q m (1 - w) = 0
    · have c' := t1.1.mpr c
      have pm := lq_0 c.symm
      rw [if_pos c']
      have n1 := nw_wr (i := pl_ q m 5) (v := w) hq1
      have er : up_ q (pl_ q m 5) w = rl_ q m w := by
        rw [pl_at pm.1 pm.2, show (16 : Int) + 5 + 6 * m = 21 + 6 * m by omega]
        rfl
      rw [er] at n1
      have f5 : fr_ (fun k => k = 219) s0 (bc_wr s0 219 (pl_ q m 5) w) := fr_wr rfl
      refine bc_ob_i (by decide) ?_
      refine bc_br_i (fun q => absurd q (by decide)) (fun _ => ?_)
      refine t_X11_place hq1 h3 hm ?_
      refine bc_ob_i hpl ?_
      refine t_X11_leftOnes n1 (rl_wf hW pm.1 (by omega) hw).1 ?_
      exact f0 c _ ⟨n1, mh_fr hH1 f5 (by decide) (by rw [f5.1 218 (by decide)])⟩ (nw_fr hb1 f5 (by decide)) (by rw [f5.1 218 (by decide), z14]; exact c') (fr_trans (fr_mono g1 (fun k hk => by omega)) (fr_mono f5 (fun k hk => by omega))) (fj_trans j1 (fj_fr f5 (by decide)))
    · have c' : ¬ ho_ x y 1 1 = 0 := fun e => c (t1.1.mp e)
      rw [if_neg c']
      refine bc_ob_i (by decide) ?_
      refine bc_br_i (fun _ => ?_) (fun q => absurd rfl q)
      exact f1 c _ ⟨hq1, hH1⟩ hb1 (by rw [z14]; exact t1.2 c) (fr_mono g1 (fun k hk => by omega)) j1
  refine hK.1 [21] 60 _ _ _ _ _ ?_
  refine t_X11_isMember hq h3 hm ?_
  refine t_X11_of hq h3 hm (by decide) ?_
  refine bc_ob_i (by omega) ?_
  refine bc_br_i (fun c => ?_) (fun c => ?_)
  · exact T _ 0 rfl (if_pos c).symm
  · exact T _ 1 rfl (if_neg c).symm
end REF
