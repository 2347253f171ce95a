/-! the reference over a row without members and vows (q 3 = 0, q 4 = 0): what it answers, what it throws -/
def lpo_ (t : Int) (σ σ' : bc_M) : Prop := σ'.1 218 ((14 : Nat) : Int) = t ∧ fr_ (fun k => 218 ≤ k) σ σ'
theorem lpo_wr {σ : bc_M} {v t : Int} (e : v = t) : lpo_ t σ (bc_wr σ 218 ((14 : Nat) : Int) v) := ⟨by rw [← e]; simp [bc_wr], fr_wr (Nat.le_refl _)⟩
theorem lpo_tr {σ σ1 σ2 : bc_M} {t : Int} (F : fr_ (fun k => 218 ≤ k) σ σ1) (h : lpo_ t σ1 σ2) : lpo_ t σ σ2 := ⟨h.1, fr_trans F h.2⟩
theorem lpo_fr {σ σ1 σ2 : bc_M} {t : Int} {P : Nat → Prop} (h : lpo_ t σ σ1) (F : fr_ P σ1 σ2) (hp : ∀ k, P k → 218 < k) : lpo_ t σ σ2 := ⟨by rw [F.1 218 (fun q => absurd (hp _ q) (by omega))]; exact h.1, fr_trans h.2 (fr_mono F (fun k hk => Nat.le_of_lt (hp k hk)))⟩
section REF
variable {g : bc_C} {d : Nat} {σ : bc_M} {q b : rw_t} {h : List rw_t} {Rr : Option bc_A → bc_M → Prop} {X : Nat → bc_M → Prop}
theorem m_asks {m j : Int} (hN : nw_ σ 219 q) (z3 : q 3 = 0) (hm : bc_in m) (f : ∀ σ', lpo_ 1 σ σ' → Rr (some (bc_I 0)) σ') : bc_Sem g (d + 4) mX11_asks [bc_R 218, bc_I m, bc_I j] σ Rr X := by
  refine e_X11_asks rfl (fun K hK => ?_)
  refine hK.1 [] 60 _ _ _ _ _ ?_
  refine t_X11_isMember hN (by omega) hm ?_
  rw [if_neg (by omega)]
  refine t_X11_goes (by decide) ?_
  refine bc_ob_i (by decide) ?_
  refine bc_br_i (fun _ => ?_) (fun q => absurd rfl q)
  exact f _ (lpo_wr (by decide))
theorem m_firstJoint {m : Int} (hN : nw_ σ 219 q) (z3 : q 3 = 0) (hm : bc_in m) (f : ∀ σ', lpo_ 1 σ σ' → Rr (some (bc_I 0)) σ') : bc_Sem g (d + 5) mX11_firstJoint [bc_R 218, bc_I m] σ Rr X := by
  refine e_X11_firstJoint rfl (fun K hK => ?_)
  refine hK.1 [] 60 _ _ _ _ _ ?_
  exact m_asks hN z3 hm f
theorem m_secondJoint {m : Int} (hN : nw_ σ 219 q) (z3 : q 3 = 0) (hm : bc_in m) (f : ∀ σ', lpo_ 1 σ σ' → Rr (some (bc_I 0)) σ') : bc_Sem g (d + 5) mX11_secondJoint [bc_R 218, bc_I m] σ Rr X := by
  refine e_X11_secondJoint rfl (fun K hK => ?_)
  refine hK.1 [] 60 _ _ _ _ _ ?_
  exact m_asks hN z3 hm f
theorem m_crack {m : Int} (hN : nw_ σ 219 q) (z3 : q 3 = 0) (hm : bc_in m) (f : ∀ σ', lpo_ 1 σ σ' → Rr (some (bc_I 0)) σ') : bc_Sem g (d + 5) mX11_crack [bc_R 218, bc_I m] σ Rr X := by
  refine e_X11_crack rfl (fun K hK => ?_)
  refine hK.1 [] 60 _ _ _ _ _ ?_
  exact m_asks hN z3 hm f
theorem m_wear {m : Int} (hN : nw_ σ 219 q) (z3 : q 3 = 0) (hm : bc_in m) (f : ∀ σ', lpo_ 1 σ σ' → Rr (some (bc_I 0)) σ') : bc_Sem g (d + 5) mX11_wear [bc_R 218, bc_I m] σ Rr X := by
  refine e_X11_wear rfl (fun K hK => ?_)
  refine hK.1 [] 60 _ _ _ _ _ ?_
  exact m_asks hN z3 hm f
theorem m_isAbandoned {m : Int} (hN : nw_ σ 219 q) (z3 : q 3 = 0) (hm : bc_in m) (f : ∀ σ', lpo_ 1 σ σ' → Rr (some (bc_I 0)) σ') : bc_Sem g (d + 5) mX11_isAbandoned [bc_R 218, bc_I m] σ Rr X := by
  refine e_X11_isAbandoned rfl (fun K hK => ?_)
  refine hK.1 [] 60 _ _ _ _ _ ?_
  refine m_asks hN z3 hm (fun σ' l => ?_)
  refine bc_ob_i (by decide) ?_
  refine bc_br_i (fun c => absurd c (by decide)) (fun _ => ?_)
  refine bc_ob_i (by decide) ?_
  exact f σ' l
theorem m_bearing {m : Int} (hN : nw_ σ 219 q) (z3 : q 3 = 0) (hm : bc_in m) (f : ∀ σ', lpo_ 1 σ σ' → Rr (some (bc_I 0)) σ') : bc_Sem g (d + 4) mX11_bearing [bc_R 218, bc_I m] σ Rr X := by
  refine e_X11_bearing rfl (fun K hK => ?_)
  refine hK.1 [] 60 _ _ _ _ _ ?_
  refine t_X11_isMember hN (by omega) hm ?_
  rw [if_neg (by omega)]
  refine t_X11_goes (by decide) ?_
  refine bc_ob_i (by decide) ?_
  refine bc_br_i (fun _ => ?_) (fun q => absurd rfl q)
  exact f _ (lpo_wr (by decide))
theorem m_repairCost {m : Int} (hN : nw_ σ 219 q) (z3 : q 3 = 0) (hm : bc_in m) (f : ∀ σ', lpo_ 1 σ σ' → Rr (some (bc_I 0)) σ') : bc_Sem g (d + 4) mX11_repairCost [bc_R 218, bc_I m] σ Rr X := by
  refine e_X11_repairCost rfl (fun K hK => ?_)
  refine hK.1 [] 60 _ _ _ _ _ ?_
  refine t_X11_isMember hN (by omega) hm ?_
  rw [if_neg (by omega)]
  refine t_X11_goes (by decide) ?_
  refine bc_ob_i (by decide) ?_
  refine bc_br_i (fun _ => ?_) (fun q => absurd rfl q)
  exact f _ (lpo_wr (by decide))
theorem m_strains {m u : Int} (hN : nw_ σ 219 q) (z3 : q 3 = 0) (hm : bc_in m) (f : ∀ σ' x, lpo_ 1 σ σ' → Rr (some (bc_F x)) σ') : bc_Sem g (d + 4) mX11_strains [bc_R 218, bc_I m, bc_I u] σ Rr X := by
  refine e_X11_strains rfl (fun K hK => ?_)
  refine hK.1 [] 60 _ _ _ _ _ ?_
  refine t_X11_isMember hN (by omega) hm ?_
  rw [if_neg (by omega)]
  refine bc_ob_i (by decide) ?_
  refine bc_br_i (fun _ => ?_) (fun q => absurd rfl q)
  refine t_X11_holds (by decide) (by decide) (by decide) (by decide) ?_
  refine bc_ob_i (by decide) ?_
  refine bc_br_i (fun _ => ?_) (fun q => absurd (by decide) q)
  exact f _ _ (lpo_wr (by decide))
theorem m_strain {m u : Int} (hN : nw_ σ 219 q) (z3 : q 3 = 0) (hm : bc_in m) (f : ∀ σ' x, lpo_ 1 σ σ' → Rr (some (bc_F x)) σ') : bc_Sem g (d + 5) mX11_strain [bc_R 218, bc_I m, bc_I u] σ Rr X := by
  refine e_X11_strain rfl (fun K hK => ?_)
  refine hK.1 [] 60 _ _ _ _ _ ?_
  exact m_strains hN z3 hm f
theorem m_strainBits {m u : Int} (hN : nw_ σ 219 q) (z3 : q 3 = 0) (hm : bc_in m) (f : ∀ σ', lpo_ 1 σ σ' → Rr (some (bc_I 0)) σ') : bc_Sem g (d + 5) mX11_strainBits [bc_R 218, bc_I m, bc_I u] σ Rr X := by
  refine e_X11_strainBits rfl (fun K hK => ?_)
  refine hK.1 [] 60 _ _ _ _ _ ?_
  refine m_strains hN z3 hm (fun σ' x l => ?_)
  have t := l.1
  refine bc_ob_i (by omega) ?_
  refine bc_br_i (fun c => absurd c (by omega)) (fun _ => ?_)
  exact f _ l
theorem m_links (hN : nw_ σ 219 q) (z3 : q 3 = 0) (f : ∀ σ', lpo_ 0 σ σ' → Rr (some (bc_J 0)) σ') : bc_Sem g (d + 1) mX11_links [bc_R 218] σ Rr X := by
  have e3 := hN 3 (by decide) (by decide)
  refine e_X11_links rfl (fun K hK => ?_)
  refine hK.1 [] 60 _ _ _ _ _ ?_
  refine bc_ob_i (by decide) ?_
  have y3 : (bc_wr σ 218 ((14 : Nat) : Int) 0).1 219 3 = 0 := by
    rw [bc_wr_ne (by decide), e3]
    exact z3
  refine bc_ob_i (by omega) ?_
  refine bc_br_i (fun c => absurd c (by omega)) (fun _ => ?_)
  exact f _ (lpo_wr rfl)
theorem m_steelByAccounts (hN : nw_ σ 219 q) (f : ∀ σ', lpo_ 0 σ σ' → Rr (some (bc_I (30 + q 8 - q 9 - q 10))) σ') : bc_Sem g (d + 1) mX11_steelByAccounts [bc_R 218] σ Rr X := by
  have hN1 : nw_ (bc_wr σ 218 ((14 : Nat) : Int) 0) 219 q := nw_fr hN (fr_wr (P := fun k => k = 218) rfl) (by decide)
  have e8 := hN1 8 (by decide) (by decide)
  have e9 := hN1 9 (by decide) (by decide)
  have e10 := hN1 10 (by decide) (by decide)
  refine e_X11_steelByAccounts rfl (fun K hK => ?_)
  refine hK.1 [] 60 _ _ _ _ _ ?_
  refine bc_ob_i (by decide) ?_
  refine bc_ob_i (by decide) ?_
  refine bc_ob_i (by decide) ?_
  exact rt_ (f _ (lpo_wr rfl)) (by rw [e8, e9, e10])
theorem m_nicheWeight (hN : nw_ σ 219 q) (f : ∀ σ', lpo_ 0 σ σ' → Rr (some (bc_I (tw_ q))) σ') : bc_Sem g (d + 2) mX11_nicheWeight [bc_R 218] σ Rr X := by
  have hN1 : nw_ (bc_wr σ 218 ((14 : Nat) : Int) 0) 219 q := nw_fr hN (fr_wr (P := fun k => k = 218) rfl) (by decide)
  refine e_X11_nicheWeight rfl (fun K hK => ?_)
  refine hK.1 [] 60 _ _ _ _ _ ?_
  refine t_X11_weighs hN1 ?_
  exact f _ (lpo_wr rfl)
theorem m_isConsistent (f : ∀ σ', lpo_ 0 σ σ' → Rr (some (bc_I 1)) σ') : bc_Sem g (d + 1) mX11_isConsistent [bc_R 218] σ Rr X := by
  refine e_X11_isConsistent rfl (fun K hK => ?_)
  refine hK.1 [] 60 _ _ _ _ _ ?_
  refine bc_ob_i (by decide) ?_
  exact f _ (lpo_wr rfl)
theorem m_meanBearing (hN : nw_ σ 219 q) (z3 : q 3 = 0) (f : ∀ σ' x, lpo_ 1 σ σ' → Rr (some (bc_D x)) σ') : bc_Sem g (d + 3) mX11_meanBearing [bc_R 218] σ Rr X := by
  have e3 := hN 3 (by decide) (by decide)
  refine e_X11_meanBearing rfl (fun K hK => ?_)
  refine hK.1 [] 60 _ _ _ _ _ ?_
  refine bc_ob_i (by decide) ?_
  refine bc_ob_i (by omega) ?_
  refine bc_br_i (fun c => absurd c (by omega)) (fun _ => ?_)
  refine bc_ob_i (by decide) ?_
  refine bc_ob_i (by omega) ?_
  refine bc_br_i (fun c => absurd c (by omega)) (fun _ => ?_)
  refine t_X11_goes (by decide) ?_
  refine bc_ob_i (by decide) ?_
  refine bc_br_i (fun _ => ?_) (fun q => absurd rfl q)
  exact f _ _ (lpo_wr (by decide))
theorem m_crackedShare (hN : nw_ σ 219 q) (z3 : q 3 = 0) (f : ∀ σ' x, lpo_ 1 σ σ' → Rr (some (bc_F x)) σ') : bc_Sem g (d + 3) mX11_crackedShare [bc_R 218] σ Rr X := by
  have e3 := hN 3 (by decide) (by decide)
  refine e_X11_crackedShare rfl (fun K hK => ?_)
  refine hK.1 [] 60 _ _ _ _ _ ?_
  refine bc_ob_i (by decide) ?_
  refine bc_ob_i (by omega) ?_
  refine bc_br_i (fun c => absurd c (by omega)) (fun _ => ?_)
  refine bc_ob_i (by decide) ?_
  refine bc_ob_i (by omega) ?_
  refine bc_br_i (fun c => absurd c (by omega)) (fun _ => ?_)
  refine t_X11_goes (by decide) ?_
  refine bc_ob_i (by decide) ?_
  refine bc_br_i (fun _ => ?_) (fun q => absurd rfl q)
  exact f _ _ (lpo_wr (by decide))
theorem m_renderMember {m : Int} (hN : nw_ σ 219 q) (z3 : q 3 = 0) (hm : bc_in m) (f : ∀ σ', lpo_ 1 σ σ' → Rr (some (bc_I 0)) σ') : bc_Sem g (d + 4) mX11_renderMember [bc_R 218, bc_I m] σ Rr X := by
  refine e_X11_renderMember rfl (fun K hK => ?_)
  refine hK.1 [] 60 _ _ _ _ _ ?_
  refine t_X11_isMember hN (by omega) hm ?_
  rw [if_neg (by omega)]
  refine t_X11_goes (by decide) ?_
  refine bc_ob_i (by decide) ?_
  refine bc_br_i (fun _ => ?_) (fun q => absurd rfl q)
  exact f _ (lpo_wr (by decide))
theorem m_asksCritical {m : Int} (hN : nw_ σ 219 q) (z3 : q 3 = 0) (hm : bc_in m) (f : ∀ σ', lpo_ 1 σ σ' → Rr (some (bc_I 0)) σ') : bc_Sem g (d + 4) mX11_asksCritical [bc_R 218, bc_I m] σ Rr X := by
  refine e_X11_asksCritical rfl (fun K hK => ?_)
  refine hK.1 [] 60 _ _ _ _ _ ?_
  refine t_X11_isMember hN (by omega) hm ?_
  rw [if_neg (by omega)]
  refine t_X11_goes (by decide) ?_
  refine bc_ob_i (by decide) ?_
  refine bc_br_i (fun _ => ?_) (fun q => absurd rfl q)
  refine bc_ob_i (by decide) ?_
  exact f _ (lpo_wr (by decide))
theorem m_isCritical {m : Int} (hN : nw_ σ 219 q) (z3 : q 3 = 0) (hm : bc_in m) (f : ∀ σ', lpo_ 1 σ σ' → Rr (some (bc_I 0)) σ') : bc_Sem g (d + 5) mX11_isCritical [bc_R 218, bc_I m] σ Rr X := by
  refine e_X11_isCritical rfl (fun K hK => ?_)
  refine hK.1 [] 60 _ _ _ _ _ ?_
  refine m_asksCritical hN z3 hm (fun σ' l => ?_)
  refine bc_ob_i (by decide) ?_
  exact f _ l
theorem m_isCriticalByRemoval {m : Int} (hN : nw_ σ 219 q) (z3 : q 3 = 0) (hm : bc_in m) (f : ∀ σ', lpo_ 1 σ σ' → Rr (some (bc_I 0)) σ') : bc_Sem g (d + 5) mX11_isCriticalByRemoval [bc_R 218, bc_I m] σ Rr X := by
  refine e_X11_isCriticalByRemoval rfl (fun K hK => ?_)
  refine hK.1 [] 60 _ _ _ _ _ ?_
  refine m_asksCritical hN z3 hm (fun σ' l => ?_)
  refine bc_ob_i (by decide) ?_
  exact f _ l
theorem m_memberByBearing {m : Int} (hN : nw_ σ 219 q) (z3 : q 3 = 0) (f : ∀ σ', lpo_ 1 σ σ' → Rr (some (bc_I 0)) σ') : bc_Sem g (d + 3) mX11_memberByBearing [bc_R 218, bc_I m] σ Rr X := by
  have e3 := hN 3 (by decide) (by decide)
  refine e_X11_memberByBearing rfl (fun K hK => ?_)
  refine hK.1 [] 60 _ _ _ _ _ ?_
  refine bc_ob_i (by decide) ?_
  refine bc_ob_i (by omega) ?_
  refine bc_br_i (fun c => absurd c (by omega)) (fun _ => ?_)
  refine bc_ob_i (by decide) ?_
  refine bc_br_i (fun _ => ?_) (fun q => absurd rfl q)
  refine t_X11_goes (by decide) ?_
  refine bc_ob_i (by decide) ?_
  refine bc_br_i (fun _ => ?_) (fun q => absurd rfl q)
  exact f _ (lpo_wr (by decide))
theorem m_vowAt {m : Int} (hN : nw_ σ 219 q) (z4 : q 4 = 0) (f : ∀ σ', lpo_ 1 σ σ' → Rr (some (bc_I 0)) σ') : bc_Sem g (d + 3) mX11_vowAt [bc_R 218, bc_I m] σ Rr X := by
  have e4 := hN 4 (by decide) (by decide)
  refine e_X11_vowAt rfl (fun K hK => ?_)
  refine hK.1 [] 60 _ _ _ _ _ ?_
  refine bc_ob_i (by decide) ?_
  refine bc_ob_i (by omega) ?_
  refine bc_br_i (fun c => absurd c (by omega)) (fun _ => ?_)
  refine bc_ob_i (by decide) ?_
  refine bc_br_i (fun _ => ?_) (fun q => absurd rfl q)
  refine t_X11_goes (by decide) ?_
  refine bc_ob_i (by decide) ?_
  refine bc_br_i (fun _ => ?_) (fun q => absurd rfl q)
  exact f _ (lpo_wr (by decide))
theorem m_asksVow {m j : Int} (hN : nw_ σ 219 q) (z4 : q 4 = 0) (f : ∀ σ', lpo_ 1 σ σ' → Rr (some (bc_I 0)) σ') : bc_Sem g (d + 3) mX11_asksVow [bc_R 218, bc_I m, bc_I j] σ Rr X := by
  have e4 := hN 4 (by decide) (by decide)
  refine e_X11_asksVow rfl (fun K hK => ?_)
  refine hK.1 [] 60 _ _ _ _ _ ?_
  refine bc_ob_i (by decide) ?_
  refine bc_ob_i (by omega) ?_
  refine bc_br_i (fun c => absurd c (by omega)) (fun _ => ?_)
  refine bc_ob_i (by decide) ?_
  refine bc_br_i (fun _ => ?_) (fun q => absurd rfl q)
  refine t_X11_goes (by decide) ?_
  refine bc_ob_i (by decide) ?_
  refine bc_br_i (fun _ => ?_) (fun q => absurd rfl q)
  exact f _ (lpo_wr (by decide))
theorem m_dueDay {m : Int} (hN : nw_ σ 219 q) (z4 : q 4 = 0) (f : ∀ σ', lpo_ 1 σ σ' → Rr (some (bc_I 0)) σ') : bc_Sem g (d + 4) mX11_dueDay [bc_R 218, bc_I m] σ Rr X := by
  refine e_X11_dueDay rfl (fun K hK => ?_)
  refine hK.1 [] 60 _ _ _ _ _ ?_
  exact m_asksVow hN z4 f
theorem m_amount {m : Int} (hN : nw_ σ 219 q) (z4 : q 4 = 0) (f : ∀ σ', lpo_ 1 σ σ' → Rr (some (bc_I 0)) σ') : bc_Sem g (d + 4) mX11_amount [bc_R 218, bc_I m] σ Rr X := by
  refine e_X11_amount rfl (fun K hK => ?_)
  refine hK.1 [] 60 _ _ _ _ _ ?_
  exact m_asksVow hN z4 f
theorem m_keepsAll (hN : nw_ σ 219 q) (z4 : q 4 = 0) (f : Rr (some (bc_I 1)) σ) : bc_Sem g (d + 1) mX11_keepsAll [bc_R 218] σ Rr X := by
  have e4 := hN 4 (by decide) (by decide)
  refine e_X11_keepsAll rfl (fun K hK => ?_)
  refine hK.1 [] 60 _ _ _ _ _ ?_
  refine bc_ob_i (by decide) ?_
  refine bc_ob_i (by omega) ?_
  refine bc_br_i (fun c => absurd c (by omega)) (fun _ => ?_)
  refine bc_ob_i (by decide) ?_
  exact f
theorem m_canKeepAll (hN : nw_ σ 219 q) (z4 : q 4 = 0) (f : ∀ σ', lpo_ 0 σ σ' → Rr (some (bc_I 1)) σ') : bc_Sem g (d + 2) mX11_canKeepAll [bc_R 218] σ Rr X := by
  have hN1 : nw_ (bc_wr σ 218 ((14 : Nat) : Int) 0) 219 q := nw_fr hN (fr_wr (P := fun k => k = 218) rfl) (by decide)
  refine e_X11_canKeepAll rfl (fun K hK => ?_)
  refine hK.1 [] 60 _ _ _ _ _ ?_
  refine m_keepsAll hN1 z4 ?_
  refine bc_ob_i (by decide) ?_
  exact f _ (lpo_wr rfl)
theorem m_canKeepAllBySums (hN : nw_ σ 219 q) (z4 : q 4 = 0) (f : ∀ σ', lpo_ 0 σ σ' → Rr (some (bc_I 1)) σ') : bc_Sem g (d + 2) mX11_canKeepAllBySums [bc_R 218] σ Rr X := by
  have hN1 : nw_ (bc_wr σ 218 ((14 : Nat) : Int) 0) 219 q := nw_fr hN (fr_wr (P := fun k => k = 218) rfl) (by decide)
  refine e_X11_canKeepAllBySums rfl (fun K hK => ?_)
  refine hK.1 [] 60 _ _ _ _ _ ?_
  refine m_keepsAll hN1 z4 ?_
  refine bc_ob_i (by decide) ?_
  exact f _ (lpo_wr rfl)
theorem m_spareOn {a : Int} (hN : nw_ σ 219 q) (z4 : q 4 = 0) (f : Rr (some (bc_I (q 1 + q 2 * (a - q 0)))) σ) : bc_Sem g (d + 1) mX11_spareOn [bc_R 218, bc_I a] σ Rr X := by
  have e0 := hN 0 (by decide) (by decide)
  have e1 := hN 1 (by decide) (by decide)
  have e2 := hN 2 (by decide) (by decide)
  have e4 := hN 4 (by decide) (by decide)
  refine e_X11_spareOn rfl (fun K hK => ?_)
  refine hK.1 [] 60 _ _ _ _ _ ?_
  refine bc_ob_i (by decide) ?_
  refine bc_ob_i (by decide) ?_
  refine bc_ob_i (by decide) ?_
  refine bc_ob_i (by decide) ?_
  refine bc_ob_i (by omega) ?_
  refine bc_br_i (fun c => absurd c (by omega)) (fun _ => ?_)
  exact rt_ f (by rw [e0, e1, e2])
theorem m_greatestVow {a : Int} (hN : nw_ σ 219 q) (z4 : q 4 = 0) (h0 : 0 ≤ q 0 ∧ q 0 ≤ 1000000) (ha : bc_in a) (f1 : ¬ (q 0 < a ∧ a ≤ q 0 + 50) → ∀ σ', lpo_ 1 σ σ' → Rr (some (bc_I 0)) σ') (f0 : (q 0 < a ∧ a ≤ q 0 + 50) → ∀ σ', lpo_ 0 σ σ' → Rr (some (bc_I (q 1 + q 2 * (a - q 0)))) σ') : bc_Sem g (d + 3) mX11_greatestVow [bc_R 218, bc_I a] σ Rr X := by
  have e4 := hN 4 (by decide) (by decide)
  refine e_X11_greatestVow rfl (fun K hK => ?_)
  refine hK.1 [] 60 _ _ _ _ _ ?_
  refine t_X11_isDue hN h0 ha ?_
  by_cases c : q 0 < a ∧ a ≤ q 0 + 50
  · rw [if_pos c]
    refine bc_ob_i (by decide) ?_
    refine bc_br_i (fun q => absurd q (by decide)) (fun _ => ?_)
    refine m_spareOn hN z4 ?_
    refine bc_ob_i (by decide) ?_
    refine bc_ob_i (by omega) ?_
    refine bc_br_i (fun c => absurd c (by omega)) (fun _ => ?_)
    refine m_keepsAll hN z4 ?_
    refine t_X11_holds (by decide) (by decide) (by decide) (by decide) ?_
    refine bc_ob_i (by decide) ?_
    refine bc_br_i (fun q => absurd q (by decide)) (fun _ => ?_)
    exact f0 c _ (lpo_wr (by decide))
  · rw [if_neg c]
    refine bc_ob_i (by decide) ?_
    refine bc_br_i (fun _ => ?_) (fun q => absurd rfl q)
    refine bc_ob_i (by decide) ?_
    refine bc_ob_i (by omega) ?_
    refine bc_br_i (fun c => absurd c (by omega)) (fun _ => ?_)
    refine m_keepsAll hN z4 ?_
    refine t_X11_holds (by decide) (by decide) (by decide) (by decide) ?_
    refine bc_ob_i (by decide) ?_
    refine bc_br_i (fun _ => ?_) (fun q => absurd (by decide) q)
    exact f1 c _ (lpo_wr (by decide))
end REF
