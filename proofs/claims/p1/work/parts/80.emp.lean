/-! the reference over a row without members and vows: ways, loads, changes, the typed text -/
section REF
variable {g : bc_C} {d : Nat} {σ : bc_M} {q b : rw_t} {h : List rw_t} {Rr : Option bc_A → bc_M → Prop} {X : Nat → bc_M → Prop}
theorem t_X11_fills {x : Int} (f : ∀ σ', (∀ j : Int, 0 ≤ j → j < 8 → σ'.1 223 j = x) → fr_ (fun k => k = 223) σ σ' → Rr none σ') : bc_Sem g (d + 1) mX11_fills [bc_R 218, bc_I x] σ Rr X := by
  refine e_X11_fills rfl (fun K hK => ?_)
  have L : ∀ i : Int, ∀ σ', 0 ≤ i → i ≤ 8 → (∀ j : Int, 0 ≤ j → j < i → σ'.1 223 j = x) → fr_ (fun k => k = 223) σ σ' → K 2 [(0, bc_R 218), (1, bc_I x), (2, bc_I i)] [] σ' 0 := by
    refine up_ind 8 (fun i hi σ' i0 i1 hs F => ?_) (fun i hi ih σ' i0 i1 hs F => ?_)
    · refine hK.1 [2] 60 _ _ _ _ _ ?_
      refine bc_ob_i (by omega) ?_
      refine bc_br_i (fun c => absurd c (by omega)) (fun _ => ?_)
      exact f σ' (fun j j0 j1 => hs j j0 (by omega)) F
    · refine hK.1 [2] 60 _ _ _ _ _ ?_
      refine bc_ob_i (by omega) ?_
      refine bc_br_i (fun _ => ?_) (fun c => absurd hi c)
      refine bc_ob_i (by omega) ?_
      refine ih _ (by omega) (by omega) (fun j j0 j1 => ?_) (fr_trans F (fr_wr rfl))
      simp only [bc_wr, if_true]
      by_cases e : j = i
      · rw [if_pos e]
      · rw [if_neg e]
        exact hs j j0 (by omega)
  refine hK.1 [2] 40 _ _ _ _ _ ?_
  exact L 0 σ (by decide) (by decide) (fun j j0 j1 => by omega) (fr_refl _)
theorem m_widest {u v : Int} (hN : nw_ σ 219 q) (z3 : q 3 = 0) (a0 : 0 ≤ u ∧ u < 8) (b0 : 0 ≤ v ∧ v < 8) (hne : u ≠ v) (f : ∀ σ', fr_ (fun k => k = 223) σ σ' → Rr (some (bc_I 0)) σ') : bc_Sem g (d + 2) mX11_widest [bc_R 218, bc_I u, bc_I v] σ Rr X := by
  have e3 := hN 3 (by decide) (by decide)
  refine e_X11_widest rfl (fun K hK => ?_)
  refine hK.1 [15] 60 _ _ _ _ _ ?_
  refine t_X11_fills (fun σ1 h1 f1 => ?_)
  refine bc_ob_i a0 ?_
  have hv : (bc_wr σ1 223 u 99999).1 223 v = 0 := by
    simp only [bc_wr, if_true]
    rw [if_neg (fun e => hne e.symm)]
    exact h1 v b0.1 b0.2
  have F : fr_ (fun k => k = 223) σ (bc_wr σ1 223 u 99999) := fr_trans f1 (fr_wr rfl)
  have y3 : (bc_wr σ1 223 u 99999).1 219 3 = 0 := by rw [F.1 219 (by decide), e3]; exact z3
  suffices H : ∀ s : bc_M, s.1 223 v = 0 → fr_ (fun k => k = 223) σ s → s.1 219 3 = 0 → K 15 [(0, bc_R 218), (1, bc_I u), (2, bc_I v), (3, bc_I 0)] [] s 0 from H _ hv F y3
  clear hv F y3
  intro s hv F y3
  have L : ∀ i : Int, ∀ z : bc_LV, 0 ≤ i → i ≤ 8 → K 15 ([(0, bc_R 218), (1, bc_I u), (2, bc_I v), (3, bc_I i)] ++ z) [] s 0 := by
    refine up_ind 8 (fun i hi z i0 i1 => ?_) (fun i hi ih z i0 i1 => ?_)
    · refine hK.2 _ _ [(0, bc_R 218), (1, bc_I u), (2, bc_I v), (3, bc_I i)] _ _ _ (ls_ _ _) ?_
      refine hK.1 [15] 60 _ _ _ _ _ ?_
      refine bc_ob_i (by omega) ?_
      refine bc_br_i (fun c => absurd c (by omega)) (fun _ => ?_)
      refine bc_ob_i b0 ?_
      exact rt_ (f s F) hv
    · refine hK.2 _ _ [(0, bc_R 218), (1, bc_I u), (2, bc_I v), (3, bc_I i)] _ _ _ (ls_ _ _) ?_
      refine hK.1 [15] 60 _ _ _ _ _ ?_
      refine bc_ob_i (by omega) ?_
      refine bc_br_i (fun _ => ?_) (fun c => absurd hi c)
      refine bc_ob_i (by decide) ?_
      refine bc_ob_i (by omega) ?_
      refine bc_br_i (fun c => absurd c (by omega)) (fun _ => ?_)
      exact ih [(4, bc_I 0)] (by omega) (by omega)
  exact L 0 [] (by decide) (by decide)
def aw0_ (a b : Int) : Int := if pf_ a b = 0 then 3 else pf_ a b
theorem aw0_1 {a b : Int} (h : ¬ ((0 ≤ a ∧ a < 8) ∧ 0 ≤ b ∧ b < 8)) : aw0_ a b = 1 := by unfold aw0_ pf_; rw [if_pos h]; rfl
theorem aw0_2 {a b : Int} (h : (0 ≤ a ∧ a < 8) ∧ 0 ≤ b ∧ b < 8) (e : a = b) : aw0_ a b = 2 := by
  have p : pf_ a b = 2 := by unfold pf_; rw [if_neg (fun q => q h), if_pos e]
  unfold aw0_; rw [p]; rfl
theorem aw0_3 {a b : Int} (h : (0 ≤ a ∧ a < 8) ∧ 0 ≤ b ∧ b < 8) (e : a ≠ b) : aw0_ a b = 3 := by
  have p : pf_ a b = 0 := by unfold pf_; rw [if_neg (fun q => q h), if_neg e]
  unfold aw0_; rw [p]; rfl
theorem m_asksWay {u v : Int} (hN : nw_ σ 219 q) (z3 : q 3 = 0) (ha : bc_in u) (hb : bc_in v) (f : ∀ σ', lpo_ (aw0_ u v) σ σ' → Rr (some (bc_I 0)) σ') : bc_Sem g (d + 3) mX11_asksWay [bc_R 218, bc_I u, bc_I v] σ Rr X := by
  refine e_X11_asksWay rfl (fun K hK => ?_)
  refine hK.1 [] 80 _ _ _ _ _ ?_
  refine t_X11_areJoints ha hb ?_
  by_cases c : (0 ≤ u ∧ u < 8) ∧ 0 ≤ v ∧ v < 8
  · rw [if_pos c]
    refine bc_ob_i (by decide) ?_
    refine bc_br_i (fun q => absurd q (by decide)) (fun _ => ?_)
    refine bc_ob_i ⟨ha, hb⟩ ?_
    refine bc_br_i (fun e => ?_) (fun e => ?_)
    · rw [aw0_2 c e] at f
      refine bc_ob_i (by decide) ?_
      refine bc_br_i (fun _ => ?_) (fun q => absurd rfl q)
      refine bc_ob_i (by decide) ?_
      refine bc_br_i (fun q => absurd q (by decide)) (fun _ => ?_)
      refine t_X11_holds (by decide) (by decide) (by decide) (by decide) ?_
      refine bc_ob_i (by decide) ?_
      refine bc_br_i (fun _ => ?_) (fun q => absurd (by decide) q)
      exact f _ (lpo_wr (by decide))
    · rw [aw0_3 c e] at f
      refine bc_ob_i (by decide) ?_
      refine bc_br_i (fun q => absurd q (by decide)) (fun _ => ?_)
      refine m_widest hN z3 c.1 c.2 e (fun σ1 f1 => ?_)
      refine bc_ob_i (by decide) ?_
      refine bc_br_i (fun q => absurd q (by decide)) (fun _ => ?_)
      refine t_X11_holds (by decide) (by decide) (by decide) (by decide) ?_
      refine bc_ob_i (by decide) ?_
      refine bc_br_i (fun _ => ?_) (fun q => absurd (by decide) q)
      exact f _ (lpo_tr (fr_mono f1 (fun k hk => by omega)) (lpo_wr (by decide)))
  · rw [if_neg c]
    rw [aw0_1 c] at f
    refine bc_ob_i (by decide) ?_
    refine bc_br_i (fun _ => ?_) (fun q => absurd rfl q)
    refine bc_ob_i (by decide) ?_
    refine bc_br_i (fun _ => ?_) (fun q => absurd rfl q)
    refine bc_ob_i (by decide) ?_
    refine bc_br_i (fun q => absurd q (by decide)) (fun _ => ?_)
    refine t_X11_holds (by decide) (by decide) (by decide) (by decide) ?_
    refine bc_ob_i (by decide) ?_
    refine bc_br_i (fun _ => ?_) (fun q => absurd (by decide) q)
    exact f _ (lpo_wr (by decide))
theorem aw0_in (a b : Int) : 1 ≤ aw0_ a b ∧ aw0_ a b ≤ 3 := by
  have := pf_le a b
  unfold aw0_
  split <;> omega
theorem m_widestLoad {u v : Int} (hN : nw_ σ 219 q) (z3 : q 3 = 0) (ha : bc_in u) (hb : bc_in v) (f : ∀ σ', lpo_ (aw0_ u v) σ σ' → Rr (some (bc_I 0)) σ') : bc_Sem g (d + 4) mX11_widestLoad [bc_R 218, bc_I u, bc_I v] σ Rr X := by
  refine e_X11_widestLoad rfl (fun K hK => ?_)
  refine hK.1 [] 60 _ _ _ _ _ ?_
  exact m_asksWay hN z3 ha hb f
theorem m_widestLoadByTrial {u v : Int} (hN : nw_ σ 219 q) (z3 : q 3 = 0) (ha : bc_in u) (hb : bc_in v) (f : ∀ σ', lpo_ (aw0_ u v) σ σ' → Rr (some (bc_I 0)) σ') : bc_Sem g (d + 4) mX11_widestLoadByTrial [bc_R 218, bc_I u, bc_I v] σ Rr X := by
  refine e_X11_widestLoadByTrial rfl (fun K hK => ?_)
  refine hK.1 [] 60 _ _ _ _ _ ?_
  exact m_asksWay hN z3 ha hb f
theorem m_wayLength {u v : Int} (hN : nw_ σ 219 q) (z3 : q 3 = 0) (ha : bc_in u) (hb : bc_in v) (f : ∀ σ', lpo_ (aw0_ u v) σ σ' → Rr (some (bc_I 0)) σ') : bc_Sem g (d + 4) mX11_wayLength [bc_R 218, bc_I u, bc_I v] σ Rr X := by
  have w := aw0_in u v
  refine e_X11_wayLength rfl (fun K hK => ?_)
  refine hK.1 [] 60 _ _ _ _ _ ?_
  refine m_asksWay hN z3 ha hb (fun σ1 l => ?_)
  have t := l.1
  refine bc_ob_i (by omega) ?_
  refine bc_br_i (fun c => absurd c (by omega)) (fun _ => ?_)
  exact f σ1 l
theorem m_wayJoint {u v i : Int} (hN : nw_ σ 219 q) (z3 : q 3 = 0) (ha : bc_in u) (hb : bc_in v) (f : ∀ σ', lpo_ (aw0_ u v) σ σ' → Rr (some (bc_I 0)) σ') : bc_Sem g (d + 4) mX11_wayJoint [bc_R 218, bc_I u, bc_I v, bc_I i] σ Rr X := by
  have w := aw0_in u v
  refine e_X11_wayJoint rfl (fun K hK => ?_)
  refine hK.1 [] 60 _ _ _ _ _ ?_
  refine m_asksWay hN z3 ha hb (fun σ1 l => ?_)
  have t := l.1
  refine bc_ob_i (by omega) ?_
  refine bc_br_i (fun c => absurd c (by omega)) (fun _ => ?_)
  exact f σ1 l
theorem m_renderWay {u v : Int} (hN : nw_ σ 219 q) (z3 : q 3 = 0) (ha : bc_in u) (hb : bc_in v) (f : ∀ σ', lpo_ (aw0_ u v) σ σ' → Rr (some (bc_I 0)) σ') : bc_Sem g (d + 4) mX11_renderWay [bc_R 218, bc_I u, bc_I v] σ Rr X := by
  have w := aw0_in u v
  refine e_X11_renderWay rfl (fun K hK => ?_)
  refine hK.1 [] 60 _ _ _ _ _ ?_
  refine m_asksWay hN z3 ha hb (fun σ1 l => ?_)
  have t := l.1
  refine bc_ob_i (by omega) ?_
  refine bc_br_i (fun c => absurd c (by omega)) (fun _ => ?_)
  exact f σ1 l
theorem m_costFor {u v n : Int} (hN : nw_ σ 219 q) (z3 : q 3 = 0) (a0 : 0 ≤ u ∧ u < 8) (b0 : 0 ≤ v ∧ v < 8) (hne : u ≠ v) (f : ∀ σ', fr_ (fun k => k = 223) σ σ' → Rr (some (bc_I 99999)) σ') : bc_Sem g (d + 2) mX11_costFor [bc_R 218, bc_I u, bc_I v, bc_I n] σ Rr X := by
  have e3 := hN 3 (by decide) (by decide)
  refine e_X11_costFor rfl (fun K hK => ?_)
  refine hK.1 [16] 60 _ _ _ _ _ ?_
  refine t_X11_fills (fun σ1 h1 f1 => ?_)
  refine bc_ob_i a0 ?_
  have hv : (bc_wr σ1 223 u 0).1 223 v = 99999 := by
    simp only [bc_wr, if_true]
    rw [if_neg (fun e => hne e.symm)]
    exact h1 v b0.1 b0.2
  have F : fr_ (fun k => k = 223) σ (bc_wr σ1 223 u 0) := fr_trans f1 (fr_wr rfl)
  have y3 : (bc_wr σ1 223 u 0).1 219 3 = 0 := by rw [F.1 219 (by decide), e3]; exact z3
  suffices H : ∀ s : bc_M, s.1 223 v = 99999 → fr_ (fun k => k = 223) σ s → s.1 219 3 = 0 → K 16 [(0, bc_R 218), (1, bc_I u), (2, bc_I v), (3, bc_I n), (4, bc_I 0)] [] s 0 from H _ hv F y3
  clear hv F y3
  intro s hv F y3
  have L : ∀ i : Int, ∀ z : bc_LV, 0 ≤ i → i ≤ 8 → K 16 ([(0, bc_R 218), (1, bc_I u), (2, bc_I v), (3, bc_I n), (4, bc_I i)] ++ z) [] s 0 := by
    refine up_ind 8 (fun i hi z i0 i1 => ?_) (fun i hi ih z i0 i1 => ?_)
    · refine hK.2 _ _ [(0, bc_R 218), (1, bc_I u), (2, bc_I v), (3, bc_I n), (4, bc_I i)] _ _ _ (ls_ _ _) ?_
      refine hK.1 [16] 60 _ _ _ _ _ ?_
      refine bc_ob_i (by omega) ?_
      refine bc_br_i (fun c => absurd c (by omega)) (fun _ => ?_)
      refine bc_ob_i b0 ?_
      exact rt_ (f s F) hv
    · refine hK.2 _ _ [(0, bc_R 218), (1, bc_I u), (2, bc_I v), (3, bc_I n), (4, bc_I i)] _ _ _ (ls_ _ _) ?_
      refine hK.1 [16] 60 _ _ _ _ _ ?_
      refine bc_ob_i (by omega) ?_
      refine bc_br_i (fun _ => ?_) (fun c => absurd hi c)
      refine bc_ob_i (by decide) ?_
      refine bc_ob_i (by omega) ?_
      refine bc_br_i (fun c => absurd c (by omega)) (fun _ => ?_)
      exact ih [(5, bc_I 0)] (by omega) (by omega)
  exact L 0 [] (by decide) (by decide)
theorem m_affords {u v : Int} (hN : nw_ σ 219 q) (z3 : q 3 = 0) (z1 : 0 ≤ q 1 ∧ q 1 < 99999) (a0 : 0 ≤ u ∧ u < 8) (b0 : 0 ≤ v ∧ v < 8) (hne : u ≠ v) (f : ∀ σ', fr_ (fun k => k = 223) σ σ' → Rr (some (bc_I 0)) σ') : bc_Sem g (d + 3) mX11_affords [bc_R 218, bc_I u, bc_I v] σ Rr X := by
  refine e_X11_affords rfl (fun K hK => ?_)
  have L : ∀ n : Nat, ∀ (l : Int) (σ' : bc_M), l = (n : Int) → n ≤ 99 → fr_ (fun k => k = 223) σ σ' → K 3 [(0, bc_R 218), (1, bc_I u), (2, bc_I v), (3, bc_I l)] [] σ' 0 := by
    intro n
    induction n with
    | zero =>
      intro l σ' hl _ F
      refine hK.1 [3] 60 _ _ _ _ _ ?_
      refine bc_ob_i (by omega) ?_
      refine bc_br_i (fun c => absurd c (by omega)) (fun _ => ?_)
      exact rt_ (f σ' F) (by omega)
    | succ n ih =>
      intro l σ' hl hn F
      refine hK.1 [3] 60 _ _ _ _ _ ?_
      refine bc_ob_i (by omega) ?_
      refine bc_br_i (fun _ => ?_) (fun c => absurd (by omega) c)
      refine m_costFor (nw_fr hN F (by decide)) z3 a0 b0 hne (fun σ2 f2 => ?_)
      have F2 : fr_ (fun k => k = 223) σ σ2 := fr_trans F f2
      have e1 : σ2.1 219 1 = q 1 := nw_fr hN F2 (by decide) 1 (by decide) (by decide)
      refine bc_ob_i (by decide) ?_
      refine bc_ob_i (by omega) ?_
      refine bc_br_i (fun _ => ?_) (fun c => absurd (by omega) c)
      exact ih _ σ2 (by omega) (by omega) F2
  refine hK.1 [3] 40 _ _ _ _ _ ?_
  exact L 99 99 σ rfl (Nat.le_refl _) (fr_refl _)
theorem m_asksAffordable {u v : Int} (hN : nw_ σ 219 q) (z3 : q 3 = 0) (z1 : 0 ≤ q 1 ∧ q 1 < 99999) (ha : bc_in u) (hb : bc_in v) (f : ∀ σ', lpo_ (aw0_ u v) σ σ' → Rr (some (bc_I 0)) σ') : bc_Sem g (d + 4) mX11_asksAffordable [bc_R 218, bc_I u, bc_I v] σ Rr X := by
  refine e_X11_asksAffordable rfl (fun K hK => ?_)
  refine hK.1 [] 80 _ _ _ _ _ ?_
  refine t_X11_areJoints ha hb ?_
  by_cases c : (0 ≤ u ∧ u < 8) ∧ 0 ≤ v ∧ v < 8
  · rw [if_pos c]
    refine bc_ob_i (by decide) ?_
    refine bc_br_i (fun q => absurd q (by decide)) (fun _ => ?_)
    refine bc_ob_i ⟨ha, hb⟩ ?_
    refine bc_br_i (fun e => ?_) (fun e => ?_)
    · rw [aw0_2 c e] at f
      refine bc_ob_i (by decide) ?_
      refine bc_br_i (fun _ => ?_) (fun q => absurd rfl q)
      refine bc_ob_i (by decide) ?_
      refine bc_br_i (fun q => absurd q (by decide)) (fun _ => ?_)
      refine t_X11_holds (by decide) (by decide) (by decide) (by decide) ?_
      refine bc_ob_i (by decide) ?_
      refine bc_br_i (fun _ => ?_) (fun q => absurd (by decide) q)
      exact f _ (lpo_wr (by decide))
    · rw [aw0_3 c e] at f
      refine bc_ob_i (by decide) ?_
      refine bc_br_i (fun q => absurd q (by decide)) (fun _ => ?_)
      refine m_affords hN z3 z1 c.1 c.2 e (fun σ1 f1 => ?_)
      refine bc_ob_i (by decide) ?_
      refine bc_br_i (fun q => absurd q (by decide)) (fun _ => ?_)
      refine t_X11_holds (by decide) (by decide) (by decide) (by decide) ?_
      refine bc_ob_i (by decide) ?_
      refine bc_br_i (fun _ => ?_) (fun q => absurd (by decide) q)
      exact f _ (lpo_tr (fr_mono f1 (fun k hk => by omega)) (lpo_wr (by decide)))
  · rw [if_neg c]
    rw [aw0_1 c] at f
    refine bc_ob_i (by decide) ?_
    refine bc_br_i (fun _ => ?_) (fun q => absurd rfl q)
    refine bc_ob_i (by decide) ?_
    refine bc_br_i (fun _ => ?_) (fun q => absurd rfl q)
    refine bc_ob_i (by decide) ?_
    refine bc_br_i (fun q => absurd q (by decide)) (fun _ => ?_)
    refine t_X11_holds (by decide) (by decide) (by decide) (by decide) ?_
    refine bc_ob_i (by decide) ?_
    refine bc_br_i (fun _ => ?_) (fun q => absurd (by decide) q)
    exact f _ (lpo_wr (by decide))
theorem m_affordableLoad {u v : Int} (hN : nw_ σ 219 q) (z3 : q 3 = 0) (z1 : 0 ≤ q 1 ∧ q 1 < 99999) (ha : bc_in u) (hb : bc_in v) (f : ∀ σ', lpo_ (aw0_ u v) σ σ' → Rr (some (bc_I 0)) σ') : bc_Sem g (d + 5) mX11_affordableLoad [bc_R 218, bc_I u, bc_I v] σ Rr X := by
  refine e_X11_affordableLoad rfl (fun K hK => ?_)
  refine hK.1 [] 60 _ _ _ _ _ ?_
  exact m_asksAffordable hN z3 z1 ha hb f
theorem m_affordableLoadByTable {u v : Int} (hN : nw_ σ 219 q) (z3 : q 3 = 0) (z1 : 0 ≤ q 1 ∧ q 1 < 99999) (ha : bc_in u) (hb : bc_in v) (f : ∀ σ', lpo_ (aw0_ u v) σ σ' → Rr (some (bc_I 0)) σ') : bc_Sem g (d + 5) mX11_affordableLoadByTable [bc_R 218, bc_I u, bc_I v] σ Rr X := by
  refine e_X11_affordableLoadByTable rfl (fun K hK => ?_)
  refine hK.1 [] 60 _ _ _ _ _ ?_
  exact m_asksAffordable hN z3 z1 ha hb f
end REF
/-! changes -/
def bo_ (t : Int) (σ σ' : bc_M) : Prop := σ'.1 218 ((14 : Nat) : Int) = t ∧ fr_ (fun k => k = 218 ∨ k = 219 ∨ k = 223) σ σ' ∧ σ'.1 218 ((5 : Nat) : Int) = σ.1 218 ((5 : Nat) : Int)
theorem bo_wr {σ : bc_M} {v t : Int} (e : v = t) : bo_ t σ (bc_wr σ 218 ((14 : Nat) : Int) v) := ⟨by rw [← e]; simp [bc_wr], fr_wr (.inl rfl), by simp [bc_wr]⟩
theorem bo_w9 {σ s : bc_M} {t i v : Int} (h : bo_ t σ s) : bo_ t σ (bc_wr s 219 i v) := ⟨by rw [← h.1]; exact congrFun (bc_wr_ne (by decide)) _, fr_trans h.2.1 (fr_wr (.inr (.inl rfl))), by rw [← h.2.2]; exact congrFun (bc_wr_ne (by decide)) _⟩
section REF
variable {g : bc_C} {d : Nat} {σ : bc_M} {q b : rw_t} {h : List rw_t} {Rr : Option bc_A → bc_M → Prop} {X : Nat → bc_M → Prop}
theorem m_ends {x t : Int} (hH : mh_ σ h) (ht : σ.1 218 ((14 : Nat) : Int) = t) (t0 : 0 ≤ t ∧ t ≤ 4) (f : ∀ σ', lpo_ t σ σ' → Rr (some (bc_I (if t = 0 then x else 0))) σ') : bc_Sem g (d + 3) mX11_ends [bc_R 218, bc_I x] σ Rr X := by
  refine t_X11_ends (q := σ.1 219) (b := σ.1 220) ⟨fun _ _ _ => rfl, hH⟩ (fun _ _ _ => rfl) ht t0 (fun c σ' _ t' F _ => ?_) (fun c σ' _ t' F _ => ?_)
  · exact rt_ (f σ' ⟨t', fr_mono F (fun k hk => by rcases hk with rfl | rfl | rfl | rfl <;> decide)⟩) (by rw [if_neg c])
  · exact rt_ (f σ' ⟨by rw [c]; exact t', fr_mono F (fun k hk => by rcases hk with rfl | rfl | rfl | rfl <;> decide)⟩) (by rw [if_pos c])
/-- begins, the change, ends -/
theorem m_turn {σ1 σ2 : bc_M} {x t : Int} (f1 : fr_ (fun k => k = 220) σ σ1) (hH : mh_ σ h) (hb : bo_ t σ1 σ2) (t0 : 0 ≤ t ∧ t ≤ 4) (f : ∀ σ', lpo_ t σ σ' → Rr (some (bc_I (if t = 0 then x else 0))) σ') : bc_Sem g (d + 3) mX11_ends [bc_R 218, bc_I x] σ2 Rr X := by
  have F : fr_ (fun k => k = 218 ∨ k = 219 ∨ k = 220 ∨ k = 223) σ σ2 := fr_trans (fr_mono f1 (fun k hk => by omega)) (fr_mono hb.2.1 (fun k hk => by omega))
  refine m_ends (mh_fr hH F (by decide) (by rw [hb.2.2, f1.1 218 (by decide)])) hb.1 t0 (fun σ' l => ?_)
  exact f σ' (lpo_tr (fr_mono F (fun k hk => by omega)) l)
theorem m_begins (f : ∀ σ', fr_ (fun k => k = 220) σ σ' → Rr none σ') : bc_Sem g (d + 2) mX11_begins [bc_R 218] σ Rr X :=
  t_X11_begins (r := σ.1 219) (fun _ _ _ => rfl) (fun σ' _ F => f σ' F)
theorem m_place {m j : Int} (z : σ.1 219 3 = 1) (hm : m = 0) (f : Rr (some (bc_I (16 + j))) σ) : bc_Sem g (d + 3) mX11_place [bc_R 218, bc_I m, bc_I j] σ Rr X :=
  t_X11_place (r := σ.1 219) (fun _ _ _ => rfl) (by omega) (by omega) (by rw [show pl_ (σ.1 219) m j = 16 + j from by unfold pl_; rw [if_pos (by omega)]; omega]; exact f)
def adt_ (a b s : Int) : Int := if ¬ ((0 ≤ a ∧ a < 8) ∧ 0 ≤ b ∧ b < 8) then 1 else if a = b ∨ s < 1 ∨ 99 < s then 2 else 0
theorem adt_in (a b s : Int) : 0 ≤ adt_ a b s ∧ adt_ a b s ≤ 4 := by
  unfold adt_
  split
  · omega
  · split <;> omega
theorem m_adds {a b s : Int} (hN : nw_ σ 219 q) (hW : wf_M q) (z3 : q 3 = 0) (ha : bc_in a) (hb : bc_in b) (hs : bc_in s) (f : ∀ σ', bo_ (adt_ a b s) σ σ' → Rr (some (bc_I 0)) σ') : bc_Sem g (d + 7) mX11_adds [bc_R 218, bc_I a, bc_I b, bc_I s] σ Rr X := by
  have e3 := hN 3 (by decide) (by decide)
  refine e_X11_adds rfl (fun K hK => ?_)
  -- both answers at hand
  have T : ∀ x y : Int, (x = if a ≠ b ∧ 1 ≤ s ∧ s ≤ 99 then 1 else 0) → (y = if (0 ≤ a ∧ a < 8) ∧ 0 ≤ b ∧ b < 8 then 1 else 0) → K 56 [(0, bc_R 218), (1, bc_I a), (2, bc_I b), (3, bc_I s), (4, bc_I x)] [bc_I 1, bc_I x, bc_I y, bc_R 218] σ 0 := by
    intro x y hx hy
    have lx : 0 ≤ x ∧ x ≤ 1 := by rw [hx]; split <;> omega
    have ly : 0 ≤ y ∧ y ≤ 1 := by rw [hy]; split <;> omega
    have ht : ho_ y x 1 1 = adt_ a b s := by
      rw [hx, hy]
      unfold ho_ adt_
      (repeat' split) <;> first | rfl | omega
    refine hK.1 [] 120 _ _ _ _ _ ?_
    refine t_X11_holds ly lx (by decide) (by decide) ?_
    rw [ht]
    have B0 : bo_ (adt_ a b s) σ (bc_wr σ 218 ((14 : Nat) : Int) (adt_ a b s)) := bo_wr rfl
    have y3 : (bc_wr σ 218 ((14 : Nat) : Int) (adt_ a b s)).1 219 3 = 0 := by rw [bc_wr_ne (by decide), e3]; exact z3
    generalize bc_wr σ 218 ((14 : Nat) : Int) (adt_ a b s) = s0 at B0 y3 ⊢
    by_cases c : adt_ a b s = 0
    · rw [if_pos c]
      refine bc_ob_i (by decide) ?_
      refine bc_br_i (fun q => absurd q (by decide)) (fun _ => ?_)
      refine bc_ob_i (by decide) ?_
      refine bc_ob_i (by decide) ?_
      refine bc_ob_i (by decide) ?_
      refine m_place (by simp [bc_wr, y3]) y3 ?_
      refine bc_ob_i ⟨ha, hb, Nat.le_of_ble_eq_true rfl⟩ ?_
      refine bc_ob_i (by decide) ?_
      refine m_place (by simp [bc_wr, y3]) y3 ?_
      refine bc_ob_i ⟨ha, hb, Nat.le_of_ble_eq_true rfl⟩ ?_
      refine bc_ob_i (by decide) ?_
      refine m_place (by simp [bc_wr, y3]) y3 ?_
      refine bc_ob_i (by decide) ?_
      refine m_place (by simp [bc_wr, y3]) y3 ?_
      refine bc_ob_i (by decide) ?_
      refine m_place (by simp [bc_wr, y3]) y3 ?_
      refine bc_ob_i (by decide) ?_
      refine m_place (by simp [bc_wr, y3]) y3 ?_
      refine bc_ob_i (by decide) ?_
      exact rt_ (f _ (bo_w9 (bo_w9 (bo_w9 (bo_w9 (bo_w9 (bo_w9 (bo_w9 B0)))))))) y3
    · rw [if_neg c]
      refine bc_ob_i (by decide) ?_
      refine bc_br_i (fun _ => ?_) (fun q => absurd rfl q)
      exact f _ B0
  have T1 : ∀ x : Int, (x = if a ≠ b ∧ 1 ≤ s ∧ s ≤ 99 then 1 else 0) → K 20 [(0, bc_R 218), (1, bc_I a), (2, bc_I b), (3, bc_I s)] [bc_I x] σ 0 := by
    intro x hx
    refine hK.1 [56] 80 _ _ _ _ _ ?_
    refine t_X11_areJoints ha hb ?_
    refine bc_ob_i (by decide) ?_
    refine bc_ob_i (by omega) ?_
    refine bc_br_i (fun _ => ?_) (fun c => absurd (by omega) c)
    refine t_X11_between hN hW ha hb (fun v hv => ?_)
    have v1 : v = -1 := by
      rcases hv with hv | hv
      · exact hv.1
      · omega
    refine bc_ob_i (by omega) ?_
    refine bc_br_i (fun _ => ?_) (fun c => absurd v1 c)
    exact T x _ hx rfl
  refine hK.1 [20] 60 _ _ _ _ _ ?_
  refine bc_ob_i ⟨ha, hb⟩ ?_
  refine bc_br_i (fun c => ?_) (fun c => ?_)
  · exact T1 0 (if_neg (by omega)).symm
  · refine t_X11_isIn hs (by decide) (by decide) ?_
    refine bc_ob_i (by split <;> omega) ?_
    refine bc_br_i (fun c2 => ?_) (fun c2 => ?_)
    · exact T1 0 (if_neg (by split at c2 <;> omega)).symm
    · exact T1 1 (if_pos (by split at c2 <;> omega)).symm
end REF
