/-! the reference: the way's length and joints -/
theorem atw_0 {q : rw_t} {u v : Int} (h : atw_ q u v = 0) : ((0 ≤ u ∧ u < 8) ∧ 0 ≤ v ∧ v < 8) ∧ u ≠ v ∧ 1 ≤ xw_ q u 8 v := by
  unfold atw_ at h
  by_cases c : (0 ≤ u ∧ u < 8) ∧ 0 ≤ v ∧ v < 8
  · rw [if_neg (fun k => k c)] at h
    by_cases e : u = v
    · rw [if_pos e] at h
      exact absurd h (by decide)
    · rw [if_neg e] at h
      refine ⟨c, e, ?_⟩
      refine Classical.byContradiction (fun no => ?_)
      rw [if_pos (by omega)] at h
      exact absurd h (by decide)
  · rw [if_pos c] at h
    exact absurd h (by decide)
theorem atw_m {q : rw_t} (hW : wf_M q) (hU : uj_ q) {u v : Int} (h : atw_ q u v = 0) : (1 ≤ xw_ q u 8 v ∧ xw_ q u 8 v ≤ 99) ∧ 1 ≤ xm_ q (xw_ q u 8 v) (-1) v 8 u ∧ xm_ q (xw_ q u 8 v) (-1) v 8 u ≤ 7 := by
  obtain ⟨⟨⟨u0, u1⟩, v0, v1⟩, hne, l1⟩ := atw_0 h
  have l9 := xw_99 hW u 8 v (fun e => hne e.symm)
  have W := wb_xw hW hU u0 u1 v0 v1 (fun e => hne e.symm) l9
  obtain ⟨P1, P2, -⟩ := way_fw hW hU u0 u1 v0 v1 hne (fun _ => 0) (by rw [W]; exact l1)
  rw [W] at P2
  rw [P2] at P1
  exact ⟨⟨l1, l9⟩, P1⟩
section REF
variable {g : bc_C} {d : Nat} {σ : bc_M} {q b : rw_t} {h : List rw_t} {Rr : Option bc_A → bc_M → Prop} {X : Nat → bc_M → Prop} {B : Int}
theorem atw_le (q : rw_t) (u v : Int) : 0 ≤ atw_ q u v ∧ atw_ q u v ≤ 3 := by
  unfold atw_
  (repeat' split) <;> omega
theorem t_X11_wayLength {u v : Int} (hN : nw_ σ 219 q) (hW : wf_M q) (hU : uj_ q) (ha : bc_in u) (hb : bc_in v) (f1 : atw_ q u v ≠ 0 → ∀ σ', roc_ (atw_ q u v) σ σ' → Rr (some (bc_I 0)) σ') (f0 : atw_ q u v = 0 → ∀ σ', roc_ 0 σ σ' → Rr (some (bc_I (xm_ q (xw_ q u 8 v) (-1) v 8 u))) σ') : bc_Sem g (d + 8) mX11_wayLength [bc_R 218, bc_I u, bc_I v] σ Rr X := by
  have le := atw_le q u v
  refine e_X11_wayLength rfl (fun K hK => ?_)
  refine hK.1 [] 60 _ _ _ _ _ ?_
  refine t_X11_asksWay hN hW ha hb (fun c s R => ?_) (fun c s R => ?_)
  · have t := R.1
    refine bc_ob_i (by constructor <;> omega) ?_
    refine bc_br_i (fun e => absurd e (by omega)) (fun _ => ?_)
    exact f1 c s R
  · have t := R.1
    obtain ⟨hj, hne, -⟩ := atw_0 c
    obtain ⟨hl, hm⟩ := atw_m hW hU c
    refine bc_ob_i (by constructor <;> omega) ?_
    refine bc_br_i (fun _ => ?_) (fun e => absurd t e)
    refine t_X11_finds (nw_fr hN R.2.1 (by decide)) hW hU hj.1 hj.2 hl (by omega) (fun s2 _ F => ?_)
    exact f0 c s2 (roc_fr R F (by decide) (fun k hk => hk))
theorem t_X11_wayJoint {u v p : Int} (hN : nw_ σ 219 q) (hW : wf_M q) (hU : uj_ q) (ha : bc_in u) (hb : bc_in v) (hp : bc_in p) (f1 : atw_ q u v ≠ 0 → ∀ σ', roc_ (atw_ q u v) σ σ' → Rr (some (bc_I 0)) σ') (f3 : atw_ q u v = 0 → ¬ (0 ≤ p ∧ p ≤ xm_ q (xw_ q u 8 v) (-1) v 8 u) → ∀ σ', roc_ 3 σ σ' → Rr (some (bc_I 0)) σ') (f0 : atw_ q u v = 0 → (0 ≤ p ∧ p ≤ xm_ q (xw_ q u 8 v) (-1) v 8 u) → ∀ σ', roc_ 0 σ σ' → Rr (some (bc_I (wyJ_ q u v p))) σ') : bc_Sem g (d + 8) mX11_wayJoint [bc_R 218, bc_I u, bc_I v, bc_I p] σ Rr X := by
  have le := atw_le q u v
  refine e_X11_wayJoint rfl (fun K hK => ?_)
  refine hK.1 [] 80 _ _ _ _ _ ?_
  refine t_X11_asksWay hN hW ha hb (fun c s R => ?_) (fun c s R => ?_)
  · have t := R.1
    refine bc_ob_i (by constructor <;> omega) ?_
    refine bc_br_i (fun e => absurd e (by omega)) (fun _ => ?_)
    exact f1 c s R
  · have t := R.1
    obtain ⟨hj, hne, -⟩ := atw_0 c
    obtain ⟨hl, hm⟩ := atw_m hW hU c
    refine bc_ob_i (by constructor <;> omega) ?_
    refine bc_br_i (fun _ => ?_) (fun e => absurd t e)
    refine t_X11_finds (nw_fr hN R.2.1 (by decide)) hW hU hj.1 hj.2 hl (by omega) (fun s2 hw F => ?_)
    have R2 := roc_fr R F (by decide) (fun k hk => hk)
    refine t_X11_isIn hp (by decide) (by constructor <;> omega) ?_
    by_cases k : 0 ≤ p ∧ p ≤ xm_ q (xw_ q u 8 v) (-1) v 8 u
    · rw [if_pos k]
      have hwp := hw p.toNat (by omega)
      rw [show ((p.toNat : Nat) : Int) = p by omega] at hwp
      have F4 : fr_ (fun k => k = 218) s2 (bc_wr s2 218 ((14 : Nat) : Int) 0) := fr_wr rfl
      have R3 : roc_ 0 σ (bc_wr s2 218 ((14 : Nat) : Int) 0) := ⟨by simp [bc_wr], fr_trans R2.2.1 (fr_mono F4 (fun k hk => .inl hk)), fj_trans R2.2.2 (fj_wr rfl)⟩
      have fin := f0 c k _ R3
      refine bc_ob_i (by decide) ?_
      refine bc_br_i (fun q => absurd q (by decide)) (fun _ => ?_)
      refine bc_ob_i (by rw [R3.1]; decide) ?_
      refine bc_br_i (fun _ => ?_) (fun q => absurd (by simp [bc_wr]) q)
      refine bc_ob_i (by omega) ?_
      refine rt_ fin ?_
      rw [F4.1 224 (by decide), hwp]
      rfl
    · rw [if_neg k]
      have F4 : fr_ (fun k => k = 218) s2 (bc_wr s2 218 ((14 : Nat) : Int) 3) := fr_wr rfl
      have R3 : roc_ 3 σ (bc_wr s2 218 ((14 : Nat) : Int) 3) := ⟨by simp [bc_wr], fr_trans R2.2.1 (fr_mono F4 (fun k hk => .inl hk)), fj_trans R2.2.2 (fj_wr rfl)⟩
      have fin := f3 c k _ R3
      refine bc_ob_i (by decide) ?_
      refine bc_br_i (fun _ => ?_) (fun q => absurd rfl q)
      refine bc_ob_i (by rw [R3.1]; decide) ?_
      refine bc_br_i (fun q => absurd q (by simp [bc_wr])) (fun _ => ?_)
      exact fin
end REF
