/-! the reference's reading calls -/
/-- a reading call: thrown t; the scratch may have changed -/
def roc_ (t : Int) (σ σ' : bc_M) : Prop := σ'.1 218 ((14 : Nat) : Int) = t ∧ fr_ (fun k => k = 218 ∨ k = 223 ∨ k = 224) σ σ' ∧ fj_ (fun j => j = 14) σ σ'
theorem roc_wr {σ : bc_M} {v t : Int} (e : v = t) : roc_ t σ (bc_wr σ 218 ((14 : Nat) : Int) v) := ⟨by rw [← e]; simp [bc_wr], fr_wr (.inl rfl), fj_wr rfl⟩
theorem roc_tr {P : Nat → Prop} {σ σ1 σ2 : bc_M} {t : Int} (F : fr_ P σ σ1) (hp : ¬ P 218) (hP : ∀ k, P k → k = 223 ∨ k = 224) (h : roc_ t σ1 σ2) : roc_ t σ σ2 := ⟨h.1, fr_trans (fr_mono F (fun k hk => .inr (hP k hk))) h.2.1, fj_trans (fj_fr F hp) h.2.2⟩
theorem roc_fr {P : Nat → Prop} {σ σ1 σ2 : bc_M} {t : Int} (h : roc_ t σ σ1) (F : fr_ P σ1 σ2) (hp : ¬ P 218) (hP : ∀ k, P k → k = 223 ∨ k = 224) : roc_ t σ σ2 := ⟨by rw [F.1 218 hp]; exact h.1, fr_trans h.2.1 (fr_mono F (fun k hk => .inr (hP k hk))), fj_trans h.2.2 (fj_fr F hp)⟩
/-- the bearing of the best way, what is thrown -/
def atw_ (q : rw_t) (u v : Int) : Int := if ¬ ((0 ≤ u ∧ u < 8) ∧ 0 ≤ v ∧ v < 8) then 1 else if u = v then 2 else if xw_ q u 8 v ≤ 0 then 3 else 0
section REF
variable {g : bc_C} {d : Nat} {σ : bc_M} {q b : rw_t} {h : List rw_t} {Rr : Option bc_A → bc_M → Prop} {X : Nat → bc_M → Prop} {B : Int}
theorem t_X11_asks {m j : Int} (p : Int) (hN : nw_ σ 219 q) (hW : wf_M q) (hm : bc_in m) (hj : 0 ≤ j ∧ j ≤ 5) (e : p = 16 + j) (f1 : ¬ (0 ≤ m ∧ m < q 3) → ∀ σ', roc_ 1 σ σ' → Rr (some (bc_I 0)) σ') (f0 : 0 ≤ m ∧ m < q 3 → ∀ σ', roc_ 0 σ σ' → Rr (some (bc_I (q (p + 6 * m)))) σ') : bc_Sem g (d + 5) mX11_asks [bc_R 218, bc_I m, bc_I j] σ Rr X := by
  refine e_X11_asks rfl (fun K hK => ?_)
  refine hK.1 [] 60 _ _ _ _ _ ?_
  refine t_X11_isMember hN hW.1 hm ?_
  by_cases c : 0 ≤ m ∧ m < q 3
  · rw [if_pos c]
    refine t_X11_goes (by decide) ?_
    refine bc_ob_i (by decide) ?_
    refine bc_br_i (fun q => absurd q (by decide)) (fun _ => ?_)
    have R0 : roc_ 0 σ (bc_wr σ 218 ((14 : Nat) : Int) (1 - 1)) := roc_wr (by decide)
    refine t_X11_ofM p (nw_fr hN R0.2.1 (by decide)) hW c.1 c.2 hj e ?_
    exact f0 c _ R0
  · rw [if_neg c]
    refine t_X11_goes (by decide) ?_
    refine bc_ob_i (by decide) ?_
    refine bc_br_i (fun _ => ?_) (fun q => absurd rfl q)
    exact f1 c _ (roc_wr (by decide))
theorem t_X11_firstJoint {m : Int} (hN : nw_ σ 219 q) (hW : wf_M q) (hm : bc_in m) (f1 : ¬ (0 ≤ m ∧ m < q 3) → ∀ σ', roc_ 1 σ σ' → Rr (some (bc_I 0)) σ') (f0 : 0 ≤ m ∧ m < q 3 → ∀ σ', roc_ 0 σ σ' → Rr (some (bc_I (q (16 + 6 * m)))) σ') : bc_Sem g (d + 6) mX11_firstJoint [bc_R 218, bc_I m] σ Rr X := by
  refine e_X11_firstJoint rfl (fun K hK => ?_)
  refine hK.1 [] 60 _ _ _ _ _ ?_
  exact t_X11_asks 16 hN hW hm (by decide) rfl f1 f0
theorem t_X11_secondJoint {m : Int} (hN : nw_ σ 219 q) (hW : wf_M q) (hm : bc_in m) (f1 : ¬ (0 ≤ m ∧ m < q 3) → ∀ σ', roc_ 1 σ σ' → Rr (some (bc_I 0)) σ') (f0 : 0 ≤ m ∧ m < q 3 → ∀ σ', roc_ 0 σ σ' → Rr (some (bc_I (q (17 + 6 * m)))) σ') : bc_Sem g (d + 6) mX11_secondJoint [bc_R 218, bc_I m] σ Rr X := by
  refine e_X11_secondJoint rfl (fun K hK => ?_)
  refine hK.1 [] 60 _ _ _ _ _ ?_
  exact t_X11_asks 17 hN hW hm (by decide) rfl f1 f0
theorem t_X11_crack {m : Int} (hN : nw_ σ 219 q) (hW : wf_M q) (hm : bc_in m) (f1 : ¬ (0 ≤ m ∧ m < q 3) → ∀ σ', roc_ 1 σ σ' → Rr (some (bc_I 0)) σ') (f0 : 0 ≤ m ∧ m < q 3 → ∀ σ', roc_ 0 σ σ' → Rr (some (bc_I (q (19 + 6 * m)))) σ') : bc_Sem g (d + 6) mX11_crack [bc_R 218, bc_I m] σ Rr X := by
  refine e_X11_crack rfl (fun K hK => ?_)
  refine hK.1 [] 60 _ _ _ _ _ ?_
  exact t_X11_asks 19 hN hW hm (by decide) rfl f1 f0
theorem t_X11_wear {m : Int} (hN : nw_ σ 219 q) (hW : wf_M q) (hm : bc_in m) (f1 : ¬ (0 ≤ m ∧ m < q 3) → ∀ σ', roc_ 1 σ σ' → Rr (some (bc_I 0)) σ') (f0 : 0 ≤ m ∧ m < q 3 → ∀ σ', roc_ 0 σ σ' → Rr (some (bc_I (q (20 + 6 * m)))) σ') : bc_Sem g (d + 6) mX11_wear [bc_R 218, bc_I m] σ Rr X := by
  refine e_X11_wear rfl (fun K hK => ?_)
  refine hK.1 [] 60 _ _ _ _ _ ?_
  exact t_X11_asks 20 hN hW hm (by decide) rfl f1 f0
theorem t_X11_isAbandoned {m : Int} (hN : nw_ σ 219 q) (hW : wf_M q) (hm : bc_in m) (f1 : ¬ (0 ≤ m ∧ m < q 3) → ∀ σ', roc_ 1 σ σ' → Rr (some (bc_I 0)) σ') (f0 : 0 ≤ m ∧ m < q 3 → ∀ σ', roc_ 0 σ σ' → Rr (some (bc_I (if q (21 + 6 * m) = 1 then 1 else 0))) σ') : bc_Sem g (d + 6) mX11_isAbandoned [bc_R 218, bc_I m] σ Rr X := by
  refine e_X11_isAbandoned rfl (fun K hK => ?_)
  refine hK.1 [] 60 _ _ _ _ _ ?_
  refine t_X11_asks 21 hN hW hm (by decide) rfl (fun c σ' R => ?_) (fun c σ' R => ?_)
  · refine bc_ob_i (by decide) ?_
    refine bc_br_i (fun c => absurd c (by decide)) (fun _ => ?_)
    refine bc_ob_i (by decide) ?_
    exact f1 c σ' R
  · have w3 := hW.1
    obtain ⟨g0, g1, g2, g3, g4, g5⟩ := hW.2 m c.1 (by omega)
    have fin := f0 c σ' R
    refine bc_ob_i (by constructor <;> constructor <;> omega) ?_
    refine bc_br_i (fun e => ?_) (fun e => ?_)
    · rw [if_pos e] at fin
      refine bc_ob_i (by decide) ?_
      exact fin
    · rw [if_neg e] at fin
      refine bc_ob_i (by decide) ?_
      exact fin
theorem t_X11_bearing {m : Int} (hN : nw_ σ 219 q) (hW : wf_M q) (hm : bc_in m) (f1 : ¬ (0 ≤ m ∧ m < q 3) → ∀ σ', roc_ 1 σ σ' → Rr (some (bc_I 0)) σ') (f0 : 0 ≤ m ∧ m < q 3 → ∀ σ', roc_ 0 σ σ' → Rr (some (bc_I (br_ q m))) σ') : bc_Sem g (d + 6) mX11_bearing [bc_R 218, bc_I m] σ Rr X := by
  refine e_X11_bearing rfl (fun K hK => ?_)
  refine hK.1 [] 60 _ _ _ _ _ ?_
  refine t_X11_isMember hN hW.1 hm ?_
  by_cases c : 0 ≤ m ∧ m < q 3
  · rw [if_pos c]
    refine t_X11_goes (by decide) ?_
    refine bc_ob_i (by decide) ?_
    refine bc_br_i (fun q => absurd q (by decide)) (fun _ => ?_)
    have R0 : roc_ 0 σ (bc_wr σ 218 ((14 : Nat) : Int) (1 - 1)) := roc_wr (by decide)
    refine t_X11_bears (nw_fr hN R0.2.1 (by decide)) hW c.1 c.2 ?_
    exact f0 c _ R0
  · rw [if_neg c]
    refine t_X11_goes (by decide) ?_
    refine bc_ob_i (by decide) ?_
    refine bc_br_i (fun _ => ?_) (fun q => absurd rfl q)
    exact f1 c _ (roc_wr (by decide))
theorem t_X11_repairCost {m : Int} (hN : nw_ σ 219 q) (hW : wf_M q) (hm : bc_in m) (f1 : ¬ (0 ≤ m ∧ m < q 3) → ∀ σ', roc_ 1 σ σ' → Rr (some (bc_I 0)) σ') (f0 : 0 ≤ m ∧ m < q 3 → ∀ σ', roc_ 0 σ σ' → Rr (some (bc_I (co_ q m))) σ') : bc_Sem g (d + 6) mX11_repairCost [bc_R 218, bc_I m] σ Rr X := by
  refine e_X11_repairCost rfl (fun K hK => ?_)
  refine hK.1 [] 60 _ _ _ _ _ ?_
  refine t_X11_isMember hN hW.1 hm ?_
  by_cases c : 0 ≤ m ∧ m < q 3
  · rw [if_pos c]
    refine t_X11_goes (by decide) ?_
    refine bc_ob_i (by decide) ?_
    refine bc_br_i (fun q => absurd q (by decide)) (fun _ => ?_)
    have R0 : roc_ 0 σ (bc_wr σ 218 ((14 : Nat) : Int) (1 - 1)) := roc_wr (by decide)
    refine t_X11_costOf (nw_fr hN R0.2.1 (by decide)) hW c.1 c.2 ?_
    exact f0 c _ R0
  · rw [if_neg c]
    refine t_X11_goes (by decide) ?_
    refine bc_ob_i (by decide) ?_
    refine bc_br_i (fun _ => ?_) (fun q => absurd rfl q)
    exact f1 c _ (roc_wr (by decide))
theorem t_X11_asksWay {u v : Int} (hN : nw_ σ 219 q) (hW : wf_M q) (ha : bc_in u) (hb : bc_in v) (f1 : atw_ q u v ≠ 0 → ∀ σ', roc_ (atw_ q u v) σ σ' → Rr (some (bc_I 0)) σ') (f0 : atw_ q u v = 0 → ∀ σ', roc_ 0 σ σ' → Rr (some (bc_I (xw_ q u 8 v))) σ') : bc_Sem g (d + 7) mX11_asksWay [bc_R 218, bc_I u, bc_I v] σ Rr X := by
  refine e_X11_asksWay rfl (fun K hK => ?_)
  refine hK.1 [53] 80 _ _ _ _ _ ?_
  refine t_X11_areJoints ha hb ?_
  have T0 : ∀ (x : Int), (0 ≤ x ∧ x ≤ 1) → ho_ x 0 0 1 = atw_ q u v → K 53 [(0, bc_R 218), (1, bc_I u), (2, bc_I v), (3, bc_I x), (4, bc_I 0), (5, bc_I 0)] [bc_I 0, bc_I 0, bc_I x, bc_R 218] σ 0 := by
    intro x lx ht
    have nz : atw_ q u v ≠ 0 := by
      rw [← ht]
      unfold ho_
      split <;> decide
    have nz2 : ho_ x 0 0 1 ≠ 0 := by rw [ht]; exact nz
    refine hK.1 [] 60 _ _ _ _ _ ?_
    refine t_X11_holds lx (by decide) (by decide) (by decide) ?_
    rw [if_neg nz2]
    refine bc_ob_i (by decide) ?_
    refine bc_br_i (fun _ => ?_) (fun q => absurd rfl q)
    exact f1 nz _ (roc_wr ht)
  by_cases c : (0 ≤ u ∧ u < 8) ∧ 0 ≤ v ∧ v < 8
  · rw [if_pos c]
    refine bc_ob_i (by decide) ?_
    refine bc_br_i (fun q => absurd q (by decide)) (fun _ => ?_)
    refine bc_ob_i ⟨ha, hb⟩ ?_
    refine bc_br_i (fun e => ?_) (fun e => ?_)
    · refine bc_ob_i (by decide) ?_
      refine bc_br_i (fun _ => ?_) (fun q => absurd rfl q)
      refine bc_ob_i (by decide) ?_
      refine bc_br_i (fun q => absurd q (by decide)) (fun _ => ?_)
      refine T0 1 (by decide) ?_
      unfold atw_
      rw [if_neg (fun k => k c), if_pos e]
      rfl
    · have e1 : atw_ q u v = if xw_ q u 8 v ≤ 0 then 3 else 0 := by
        unfold atw_
        rw [if_neg (fun k => k c), if_neg e]
      have lw := xw_lm hW u 8 v c.2.1 c.2.2
      have T1 : ∀ (s : bc_M) (x : Int), fr_ (fun k => k = 223) σ s → (x = if 0 < xw_ q u 8 v then 1 else 0) → K 53 [(0, bc_R 218), (1, bc_I u), (2, bc_I v), (3, bc_I 1), (4, bc_I 1), (5, bc_I (xw_ q u 8 v))] [bc_I x, bc_I 1, bc_I 1, bc_R 218] s 0 := by
        intro s x F hx
        have lx : 0 ≤ x ∧ x ≤ 1 := by rw [hx]; split <;> omega
        refine hK.1 [] 60 _ _ _ _ _ ?_
        refine t_X11_holds (by decide) (by decide) lx (by decide) ?_
        by_cases k : 0 < xw_ q u 8 v
        · rw [if_pos k] at hx
          subst hx
          rw [if_neg (show ¬ xw_ q u 8 v ≤ 0 by omega)] at e1
          refine bc_ob_i (by decide) ?_
          refine bc_br_i (fun q => absurd q (by decide)) (fun _ => ?_)
          exact f0 e1 _ (roc_tr F (by decide) (fun k hk => .inl hk) (roc_wr (by decide)))
        · rw [if_neg k] at hx
          subst hx
          rw [if_pos (show xw_ q u 8 v ≤ 0 by omega)] at e1
          refine bc_ob_i (by decide) ?_
          refine bc_br_i (fun _ => ?_) (fun q => absurd (by decide) q)
          exact f1 (by rw [e1]; decide) _ (roc_tr F (by decide) (fun k hk => .inl hk) (roc_wr (by rw [e1]; decide)))
      refine bc_ob_i (by decide) ?_
      refine bc_br_i (fun q => absurd q (by decide)) (fun _ => ?_)
      refine t_X11_widest hN hW c.1 c.2 (fun σ1 f1 => ?_)
      refine bc_ob_i (by constructor <;> omega) ?_
      refine bc_br_i (fun k => ?_) (fun k => ?_)
      · first | exact T1 σ1 1 f1 (if_pos (by omega)).symm | exact T1 σ1 0 f1 (if_neg (by omega)).symm
      · first | exact T1 σ1 1 f1 (if_pos (by omega)).symm | exact T1 σ1 0 f1 (if_neg (by omega)).symm
  · rw [if_neg c]
    refine bc_ob_i (by decide) ?_
    refine bc_br_i (fun _ => ?_) (fun q => absurd rfl q)
    refine bc_ob_i (by decide) ?_
    refine bc_br_i (fun _ => ?_) (fun q => absurd rfl q)
    refine bc_ob_i (by decide) ?_
    refine bc_br_i (fun q => absurd q (by decide)) (fun _ => ?_)
    refine T0 0 (by decide) ?_
    unfold atw_
    rw [if_pos c]
    rfl
theorem t_X11_widestLoad {u v : Int} (hN : nw_ σ 219 q) (hW : wf_M q) (ha : bc_in u) (hb : bc_in v) (f1 : atw_ q u v ≠ 0 → ∀ σ', roc_ (atw_ q u v) σ σ' → Rr (some (bc_I 0)) σ') (f0 : atw_ q u v = 0 → ∀ σ', roc_ 0 σ σ' → Rr (some (bc_I (xw_ q u 8 v))) σ') : bc_Sem g (d + 8) mX11_widestLoad [bc_R 218, bc_I u, bc_I v] σ Rr X := by
  refine e_X11_widestLoad rfl (fun K hK => ?_)
  refine hK.1 [] 60 _ _ _ _ _ ?_
  exact t_X11_asksWay hN hW ha hb f1 f0
theorem t_X11_widestLoadByTrial {u v : Int} (hN : nw_ σ 219 q) (hW : wf_M q) (ha : bc_in u) (hb : bc_in v) (f1 : atw_ q u v ≠ 0 → ∀ σ', roc_ (atw_ q u v) σ σ' → Rr (some (bc_I 0)) σ') (f0 : atw_ q u v = 0 → ∀ σ', roc_ 0 σ σ' → Rr (some (bc_I (xw_ q u 8 v))) σ') : bc_Sem g (d + 8) mX11_widestLoadByTrial [bc_R 218, bc_I u, bc_I v] σ Rr X := by
  refine e_X11_widestLoadByTrial rfl (fun K hK => ?_)
  refine hK.1 [] 60 _ _ _ _ _ ?_
  exact t_X11_asksWay hN hW ha hb f1 f0
end REF
