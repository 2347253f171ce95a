/-! the reference over a row without members and vows: days, saves, texts -/
section REF
variable {g : bc_C} {d : Nat} {σ : bc_M} {q b : rw_t} {h : List rw_t} {Rr : Option bc_A → bc_M → Prop} {X : Nat → bc_M → Prop}
theorem m_passes (z4 : σ.1 219 4 = 0) (f : ∀ σ', fr_ (fun k => k = 219) σ σ' → σ'.1 219 4 = 0 → Rr (some (bc_I 0)) σ') : bc_Sem g (d + 2) mX11_passes [bc_R 218] σ Rr X := by
  refine e_X11_passes rfl (fun K hK => ?_)
  refine hK.1 [55] 80 _ _ _ _ _ ?_
  refine bc_ob_i (by decide) ?_
  refine bc_ob_i (by decide) ?_
  refine bc_ob_i (by decide) ?_
  refine bc_ob_i (by decide) ?_
  refine bc_ob_i (by decide) ?_
  refine bc_ob_i (by decide) ?_
  refine bc_ob_i (by decide) ?_
  refine bc_ob_i (by decide) ?_
  refine bc_ob_i (by decide) ?_
  suffices H : ∀ (s : bc_M) (x : Int), fr_ (fun k => k = 219) σ s → x = 0 → K 55 [(0, bc_R 218), (1, bc_I 0), (2, bc_I 0), (3, bc_I x), (4, bc_I 0)] [] s 0 from H _ _ (fr_trans (fr_wr rfl) (fr_trans (fr_wr rfl) (fr_wr rfl))) (by simp [bc_wr, z4])
  intro s x F hx
  refine hK.1 [] 80 _ _ _ _ _ ?_
  refine bc_ob_i (by omega) ?_
  refine bc_br_i (fun c => absurd c (by omega)) (fun _ => ?_)
  refine bc_ob_i (by decide) ?_
  refine bc_ob_i (by decide) ?_
  refine bc_ob_i (by decide) ?_
  exact f _ (fr_trans F (fr_trans (fr_wr rfl) (fr_wr rfl))) (by simp [bc_wr])
theorem m_waits {n : Int} (z4 : σ.1 219 4 = 0) (hn : bc_in n) (f : ∀ σ', bo_ (if 1 ≤ n ∧ n ≤ 30 then 0 else 1) σ σ' → Rr (some (bc_I 0)) σ') : bc_Sem g (d + 3) mX11_waits [bc_R 218, bc_I n] σ Rr X := by
  refine e_X11_waits rfl (fun K hK => ?_)
  have E : ∀ (x i : Int) (s : bc_M), (x = if 1 ≤ n ∧ n ≤ 30 then 1 else 0) → fr_ (fun k => k = 219) σ s → K 36 [(0, bc_R 218), (1, bc_I n), (2, bc_I 0), (3, bc_I x), (4, bc_I i)] [] s 0 := by
    intro x i s hx F
    have lx : 0 ≤ x ∧ x ≤ 1 := by rw [hx]; split <;> omega
    have ht : 1 - x = if 1 ≤ n ∧ n ≤ 30 then 0 else 1 := by rw [hx]; split <;> rfl
    have B0 : bo_ (if 1 ≤ n ∧ n ≤ 30 then 0 else 1) σ (bc_wr s 218 ((14 : Nat) : Int) (1 - x)) := ⟨by rw [← ht]; simp [bc_wr], fr_trans (fr_mono F (fun k hk => by omega)) (fr_wr (.inl rfl)), by
      have : (bc_wr s 218 ((14 : Nat) : Int) (1 - x)).1 218 ((5 : Nat) : Int) = s.1 218 ((5 : Nat) : Int) := by simp [bc_wr]
      rw [this, F.1 218 (by decide)]⟩
    refine hK.1 [] 60 _ _ _ _ _ ?_
    refine t_X11_goes lx ?_
    refine bc_ob_i (by omega) ?_
    refine bc_br_i (fun _ => ?_) (fun _ => ?_)
    · exact f _ B0
    · exact f _ B0
  have L : ∀ x : Int, (x = if 1 ≤ n ∧ n ≤ 30 then 1 else 0) → ∀ i : Int, ∀ s, 0 ≤ i → i ≤ 30 → s.1 219 4 = 0 → fr_ (fun k => k = 219) σ s → K 13 [(0, bc_R 218), (1, bc_I n), (2, bc_I 0), (3, bc_I x), (4, bc_I i)] [] s 0 := by
    intro x hx
    have lx : 0 ≤ x ∧ x ≤ 1 := by rw [hx]; split <;> omega
    have nx : x = 1 → n ≤ 30 := fun e => by
      refine Classical.byContradiction (fun np => ?_)
      rw [if_neg (by omega)] at hx
      omega
    obtain ⟨n0, n1⟩ := hn
    refine up_ind 30 (fun i hi s i0 i1 y4 F => ?_) (fun i hi ih s i0 i1 y4 F => ?_)
    · refine hK.1 [13, 36] 60 _ _ _ _ _ ?_
      refine bc_ob_i (by omega) ?_
      refine bc_br_i (fun c => ?_) (fun _ => ?_)
      · refine bc_ob_i (by omega) ?_
        refine bc_br_i (fun _ => ?_) (fun c2 => absurd (nx (by omega)) (by omega))
        exact E x i s hx F
      · exact E x i s hx F
    · refine hK.1 [13, 36] 60 _ _ _ _ _ ?_
      refine bc_ob_i (by omega) ?_
      refine bc_br_i (fun _ => ?_) (fun _ => ?_)
      · refine bc_ob_i (by omega) ?_
        refine bc_br_i (fun _ => ?_) (fun _ => ?_)
        · exact E x i s hx F
        · refine m_passes y4 (fun s2 f2 z2 => ?_)
          exact ih s2 (by omega) (by omega) z2 (fr_trans F f2)
      · exact E x i s hx F
  refine hK.1 [13] 60 _ _ _ _ _ ?_
  refine t_X11_isIn hn (by decide) (by decide) ?_
  exact L _ rfl 0 σ (by decide) (by decide) z4 (fr_refl _)
theorem m_passDays {n : Int} (hN : nw_ σ 219 q) (hH : mh_ σ h) (z4 : q 4 = 0) (hn : bc_in n) (f : ∀ σ', lpo_ (if 1 ≤ n ∧ n ≤ 30 then 0 else 1) σ σ' → Rr (some (bc_I 0)) σ') : bc_Sem g (d + 4) mX11_passDays [bc_R 218, bc_I n] σ Rr X := by
  refine e_X11_passDays rfl (fun K hK => ?_)
  refine hK.1 [] 60 _ _ _ _ _ ?_
  refine m_begins (fun σ1 f1 => ?_)
  refine m_waits (by rw [f1.1 219 (by decide), hN 4 (by decide) (by decide)]; exact z4) hn (fun σ2 B2 => ?_)
  refine m_turn f1 hH B2 (by split <;> omega) (fun σ3 l => ?_)
  exact rt_ (f σ3 l) (by split <;> rfl)
theorem m_save (hN : nw_ σ 219 q) (f : ∀ σ', lpo_ 0 σ σ' → Rr (some (bc_I (q 3))) σ') : bc_Sem g (d + 2) mX11_save [bc_R 218] σ Rr X := by
  refine e_X11_save rfl (fun K hK => ?_)
  refine hK.1 [] 60 _ _ _ _ _ ?_
  refine t_X11_copies (.inr (.inr (.inr (.inl ⟨rfl, rfl⟩)))) (by decide) (by decide) (fun σ2 hc => ?_)
  have F : fr_ (fun k => k = 218 ∨ k = 221) σ σ2 := fr_trans (fr_wr (.inl rfl)) (fr_mono hc.1 (fun k hk => .inr hk))
  have t2 : σ2.1 218 ((14 : Nat) : Int) = 0 := by
    rw [hc.1.1 218 (by decide)]
    simp [bc_wr]
  refine bc_ob_i (by decide) ?_
  refine bc_ob_i (by decide) ?_
  have F3 : fr_ (fun k => k = 218 ∨ k = 221) σ (bc_wr σ2 218 ((4 : Nat) : Int) 1) := fr_trans F (fr_wr (.inl rfl))
  have e3 := nw_fr hN F3 (by decide) 3 (by decide) (by decide)
  exact rt_ (f _ ⟨by rw [← t2]; simp [bc_wr], fr_mono F3 (fun k hk => by omega)⟩) e3
theorem m_restore (z : σ.1 218 ((4 : Nat) : Int) = 0) (f : ∀ σ', lpo_ 1 σ σ' → Rr (some (bc_I 0)) σ') : bc_Sem g (d + 3) mX11_restore [bc_R 218] σ Rr X := by
  refine e_X11_restore rfl (fun K hK => ?_)
  refine hK.1 [] 60 _ _ _ _ _ ?_
  refine t_X11_goes (by omega) ?_
  refine bc_ob_i (by omega) ?_
  refine bc_br_i (fun _ => ?_) (fun c => absurd z c)
  exact f _ (lpo_wr (by omega))
theorem m_errorPosition (z : σ.1 218 ((6 : Nat) : Int) = -1) (f : ∀ σ', lpo_ 1 σ σ' → Rr (some (bc_I 0)) σ') : bc_Sem g (d + 3) mX11_errorPosition [bc_R 218] σ Rr X := by
  refine e_X11_errorPosition rfl (fun K hK => ?_)
  refine hK.1 [] 60 _ _ _ _ _ ?_
  refine bc_ob_i (by omega) ?_
  refine bc_br_i (fun _ => ?_) (fun c => absurd z c)
  refine t_X11_goes (by decide) ?_
  refine bc_ob_i (by decide) ?_
  refine bc_br_i (fun _ => ?_) (fun q => absurd rfl q)
  exact f _ (lpo_wr (by decide))
theorem m_failedCommand (z : σ.1 218 ((7 : Nat) : Int) = -1) (f : ∀ σ', lpo_ 1 σ σ' → Rr (some (bc_I 0)) σ') : bc_Sem g (d + 3) mX11_failedCommand [bc_R 218] σ Rr X := by
  refine e_X11_failedCommand rfl (fun K hK => ?_)
  refine hK.1 [] 60 _ _ _ _ _ ?_
  refine bc_ob_i (by omega) ?_
  refine bc_br_i (fun _ => ?_) (fun c => absurd z c)
  refine t_X11_goes (by decide) ?_
  refine bc_ob_i (by decide) ?_
  refine bc_br_i (fun _ => ?_) (fun q => absurd rfl q)
  exact f _ (lpo_wr (by decide))
theorem m_outputAt {i : Int} (z : σ.1 218 ((13 : Nat) : Int) = 0) (hi : bc_in i) (f : ∀ σ', lpo_ 1 σ σ' → Rr (some (bc_I 0)) σ') : bc_Sem g (d + 3) mX11_outputAt [bc_R 218, bc_I i] σ Rr X := by
  refine e_X11_outputAt rfl (fun K hK => ?_)
  refine hK.1 [] 60 _ _ _ _ _ ?_
  refine t_X11_isIn hi (by decide) (by omega) ?_
  rw [if_neg (by omega)]
  refine t_X11_goes (by decide) ?_
  refine bc_ob_i (by decide) ?_
  refine bc_br_i (fun _ => ?_) (fun q => absurd rfl q)
  refine bc_ob_i (by decide) ?_
  exact f _ (lpo_wr (by decide))
theorem m_type {c : Int} (z : σ.1 218 ((11 : Nat) : Int) = 0) (hc : 0 ≤ c ∧ c ≤ 65535) (f1 : ¬ (32 ≤ c ∧ c ≤ 126) → ∀ σ', lpo_ 1 σ σ' → Rr (some (bc_I 0)) σ') (f0 : 32 ≤ c ∧ c ≤ 126 → ∀ σ', lpo_ 0 σ σ' → Rr (some (bc_I 1)) σ') : bc_Sem g (d + 2) mX11_type [bc_R 218, bc_I c] σ Rr X := by
  refine e_X11_type rfl (fun K hK => ?_)
  refine hK.1 [] 80 _ _ _ _ _ ?_
  refine t_X11_isIn (by constructor <;> omega) (by decide) (by decide) ?_
  refine bc_ob_i (by omega) ?_
  refine bc_br_i (fun _ => ?_) (fun q => absurd (by omega) q)
  by_cases k : 32 ≤ c ∧ c ≤ 126
  · rw [if_pos k]
    refine t_X11_holds (by decide) (by decide) (by decide) (by decide) ?_
    have e : ho_ 1 1 1 1 = 0 := by decide
    rw [e]
    have l0 : lpo_ 0 σ (bc_wr σ 218 ((14 : Nat) : Int) 0) := lpo_wr rfl
    have y : (bc_wr σ 218 ((14 : Nat) : Int) 0).1 218 ((11 : Nat) : Int) = 0 := by rw [← z]; simp [bc_wr]
    refine bc_ob_i (by decide) ?_
    refine bc_br_i (fun q => absurd q (by decide)) (fun _ => ?_)
    refine bc_ob_i (by omega) ?_
    have y2 : (bc_wr (bc_wr σ 218 ((14 : Nat) : Int) 0) 225 ((bc_wr σ 218 ((14 : Nat) : Int) 0).1 218 ((11 : Nat) : Int)) c).1 218 ((11 : Nat) : Int) = 0 := by rw [← y]; exact congrFun (bc_wr_ne (by decide)) _
    have l1 : lpo_ 0 σ (bc_wr (bc_wr σ 218 ((14 : Nat) : Int) 0) 225 ((bc_wr σ 218 ((14 : Nat) : Int) 0).1 218 ((11 : Nat) : Int)) c) := lpo_fr (P := fun k => k = 225) l0 (fr_wr rfl) (fun k hk => by omega)
    exact rt_ (f0 k _ ⟨by rw [← l1.1]; simp [bc_wr], fr_trans l1.2 (fr_wr (Nat.le_refl _))⟩) (by have z' : σ.1 218 11 = 0 := z; simp [bc_wr, z'])
  · rw [if_neg k]
    refine t_X11_holds (by decide) (by decide) (by decide) (by decide) ?_
    refine bc_ob_i (by decide) ?_
    refine bc_br_i (fun _ => ?_) (fun q => absurd (by decide) q)
    exact f1 k _ (lpo_wr (by decide))
def so_ (w : Int) : Int := if w = 0 then 0 else if w = 1 then 7 else if w = 2 then 12 else if w = 3 then 16 else if w = 4 then 22 else if w = 5 then 29 else if w = 6 then 37 else if w = 7 then 44 else if w = 8 then 50 else if w = 9 then 54 else 57
theorem t_X11_startOf {w : Int} (hw : bc_in w) (f : Rr (some (bc_I (so_ w))) σ) : bc_Sem g (d + 1) mX11_startOf [bc_I w] σ Rr X := by
  refine e_X11_startOf rfl (fun K hK => ?_)
  refine hK.1 [] 60 _ _ _ _ _ ?_
  refine bc_ob_i hw ?_
  unfold so_ at f
  refine bc_br_i (fun c : w = 0 => ?_) (fun c0 : ¬ w = 0 => ?_)
  · exact rt_ f (by rw [if_pos c])
  refine bc_br_i (fun c : w = 1 => ?_) (fun c1 : ¬ w = 1 => ?_)
  · exact rt_ f (by rw [if_neg c0, if_pos c])
  refine bc_br_i (fun c : w = 2 => ?_) (fun c2 : ¬ w = 2 => ?_)
  · exact rt_ f (by rw [if_neg c0, if_neg c1, if_pos c])
  refine bc_br_i (fun c : w = 3 => ?_) (fun c3 : ¬ w = 3 => ?_)
  · exact rt_ f (by rw [if_neg c0, if_neg c1, if_neg c2, if_pos c])
  refine bc_br_i (fun c : w = 4 => ?_) (fun c4 : ¬ w = 4 => ?_)
  · exact rt_ f (by rw [if_neg c0, if_neg c1, if_neg c2, if_neg c3, if_pos c])
  refine bc_br_i (fun c : w = 5 => ?_) (fun c5 : ¬ w = 5 => ?_)
  · exact rt_ f (by rw [if_neg c0, if_neg c1, if_neg c2, if_neg c3, if_neg c4, if_pos c])
  refine bc_br_i (fun c : w = 6 => ?_) (fun c6 : ¬ w = 6 => ?_)
  · exact rt_ f (by rw [if_neg c0, if_neg c1, if_neg c2, if_neg c3, if_neg c4, if_neg c5, if_pos c])
  refine bc_br_i (fun c : w = 7 => ?_) (fun c7 : ¬ w = 7 => ?_)
  · exact rt_ f (by rw [if_neg c0, if_neg c1, if_neg c2, if_neg c3, if_neg c4, if_neg c5, if_neg c6, if_pos c])
  refine bc_br_i (fun c : w = 8 => ?_) (fun c8 : ¬ w = 8 => ?_)
  · exact rt_ f (by rw [if_neg c0, if_neg c1, if_neg c2, if_neg c3, if_neg c4, if_neg c5, if_neg c6, if_neg c7, if_pos c])
  refine bc_br_i (fun c : w = 9 => ?_) (fun c9 : ¬ w = 9 => ?_)
  · exact rt_ f (by rw [if_neg c0, if_neg c1, if_neg c2, if_neg c3, if_neg c4, if_neg c5, if_neg c6, if_neg c7, if_neg c8, if_pos c])
  exact rt_ f (by rw [if_neg c0, if_neg c1, if_neg c2, if_neg c3, if_neg c4, if_neg c5, if_neg c6, if_neg c7, if_neg c8, if_neg c9])
theorem so_pos {w : Int} (h0 : 0 ≤ w) (h1 : w < 10) : 1 ≤ so_ (w + 1) - so_ w ∧ so_ (w + 1) - so_ w ≤ 8 := by
  have : w = 0 ∨ w = 1 ∨ w = 2 ∨ w = 3 ∨ w = 4 ∨ w = 5 ∨ w = 6 ∨ w = 7 ∨ w = 8 ∨ w = 9 := by omega
  rcases this with rfl | rfl | rfl | rfl | rfl | rfl | rfl | rfl | rfl | rfl <;> decide
/-- no letter is left: the first word fails at once -/
theorem m_kindHere (z15 : σ.1 218 ((15 : Nat) : Int) = 0) (z16 : σ.1 218 ((16 : Nat) : Int) = 0) (f : ∀ σ', fr_ (fun k => k = 218) σ σ' → σ'.1 218 ((17 : Nat) : Int) = 0 → σ'.1 218 ((18 : Nat) : Int) = σ.1 218 ((18 : Nat) : Int) → Rr (some (bc_I (-1))) σ') : bc_Sem g (d + 2) mX11_kindHere [bc_R 218] σ Rr X := by
  refine e_X11_kindHere rfl (fun K hK => ?_)
  have L : ∀ w : Int, ∀ (fa : Int) (z : bc_LV), 0 ≤ w → w ≤ 10 → fa = 0 → K 9 ([(0, bc_R 218), (1, bc_I fa), (2, bc_I (-1)), (3, bc_I w)] ++ z) [] σ 0 := by
    refine up_ind 10 (fun w hw fa z w0 w1 hfa => ?_) (fun w hw ih fa z w0 w1 hfa => ?_)
    · refine hK.2 _ _ [(0, bc_R 218), (1, bc_I fa), (2, bc_I (-1)), (3, bc_I w)] _ _ _ (ls_ _ _) ?_
      refine hK.1 [9] 80 _ _ _ _ _ ?_
      refine bc_ob_i (by omega) ?_
      refine bc_br_i (fun c => absurd c (by omega)) (fun _ => ?_)
      refine bc_ob_i (by decide) ?_
      refine bc_br_i (fun _ => ?_) (fun q => absurd rfl q)
      refine bc_ob_i (by decide) ?_
      refine bc_br_i (fun _ => ?_) (fun q => absurd rfl q)
      exact f _ (fr_trans (fr_wr rfl) (fr_wr rfl)) (by simp [bc_wr, hfa]) (by simp [bc_wr])
    · refine hK.2 _ _ [(0, bc_R 218), (1, bc_I fa), (2, bc_I (-1)), (3, bc_I w)] _ _ _ (ls_ _ _) ?_
      have sp := so_pos w0 hw
      refine hK.1 [9] 80 _ _ _ _ _ ?_
      refine bc_ob_i (by omega) ?_
      refine bc_br_i (fun _ => ?_) (fun c => absurd hw c)
      refine bc_ob_i (by decide) ?_
      refine bc_br_i (fun _ => ?_) (fun q => absurd rfl q)
      refine t_X11_startOf (by constructor <;> omega) ?_
      refine t_X11_startOf (by constructor <;> omega) ?_
      refine bc_ob_i ⟨by decide, by constructor <;> omega⟩ ?_
      refine bc_br_i (fun _ => ?_) (fun c => absurd (by omega) c)
      refine bc_ob_i (by omega) ?_
      refine bc_br_i (fun c => absurd c (by omega)) (fun _ => ?_)
      refine bc_ob_i ⟨by constructor <;> omega, by constructor <;> omega, Nat.le_of_ble_eq_true rfl⟩ ?_
      refine bc_ob_i ⟨by decide, by constructor <;> omega⟩ ?_
      refine bc_br_i (fun c => absurd c (by omega)) (fun _ => ?_)
      exact ih _ [(4, bc_I (so_ (w + 1) - so_ w)), (5, bc_I 0)] (by omega) (by omega) (by omega)
  refine hK.1 [9] 40 _ _ _ _ _ ?_
  exact L 0 _ [] (by decide) (by decide) z16
theorem m_readsCommand (z15 : σ.1 218 ((15 : Nat) : Int) = 0) (z16 : σ.1 218 ((16 : Nat) : Int) = 0) (z18 : σ.1 218 ((18 : Nat) : Int) = 0) (f : ∀ σ', fr_ (fun k => 218 ≤ k) σ σ' → σ'.1 218 ((17 : Nat) : Int) = 0 → Rr none σ') : bc_Sem g (d + 3) mX11_readsCommand [bc_R 218] σ Rr X := by
  refine e_X11_readsCommand rfl (fun K hK => ?_)
  refine hK.1 [] 80 _ _ _ _ _ ?_
  refine m_kindHere z15 z16 (fun σ1 F1 y17 y18 => ?_)
  refine bc_ob_i (by omega) ?_
  refine bc_ob_i (by omega) ?_
  have w17 : (bc_wr (bc_wr (bc_wr σ1 227 (4 * σ.1 218 ((18 : Nat) : Int)) (-1)) 227 (4 * σ.1 218 ((18 : Nat) : Int) + 1) 1) 218 ((18 : Nat) : Int) ((bc_wr (bc_wr σ1 227 (4 * σ.1 218 ((18 : Nat) : Int)) (-1)) 227 (4 * σ.1 218 ((18 : Nat) : Int) + 1) 1).1 218 ((18 : Nat) : Int) + 1)).1 218 ((17 : Nat) : Int) = 0 := by
    rw [← y17]
    simp [bc_wr]
  refine bc_ob_i ⟨by constructor <;> omega, by decide⟩ ?_
  refine bc_br_i (fun c => absurd c (by omega)) (fun _ => ?_)
  refine f _ (fr_trans (fr_mono F1 (fun k hk => by omega)) (fr_trans (fr_wr (by decide)) (fr_trans (fr_wr (by decide)) (fr_wr (by decide))))) w17
theorem m_readsAll (z11 : σ.1 218 ((11 : Nat) : Int) = 0) (f : ∀ σ', fr_ (fun k => 218 ≤ k) σ σ' → σ'.1 218 ((17 : Nat) : Int) = 0 → Rr none σ') : bc_Sem g (d + 4) mX11_readsAll [bc_R 218] σ Rr X := by
  refine e_X11_readsAll rfl (fun K hK => ?_)
  refine hK.1 [] 80 _ _ _ _ _ ?_
  refine m_readsCommand (by have z' : σ.1 218 11 = 0 := z11; simp [bc_wr, z']) (by simp [bc_wr]) (by simp [bc_wr]) (fun σ1 F1 y17 => ?_)
  refine bc_ob_i ⟨by constructor <;> omega, by decide⟩ ?_
  refine bc_br_i (fun c => absurd c (by omega)) (fun _ => ?_)
  refine f _ (fr_trans (fr_trans (fr_wr (by decide)) (fr_trans (fr_wr (by decide)) (fr_trans (fr_wr (by decide)) (fr_trans (fr_wr (by decide)) (fr_wr (by decide)))))) F1) y17
theorem m_runScript (z11 : σ.1 218 ((11 : Nat) : Int) = 0) (f : ∀ σ', lpo_ 1 σ σ' → Rr (some (bc_I 0)) σ') : bc_Sem g (d + 5) mX11_runScript [bc_R 218] σ Rr X := by
  refine e_X11_runScript rfl (fun K hK => ?_)
  refine hK.1 [] 80 _ _ _ _ _ ?_
  refine m_readsAll z11 (fun σ1 F1 y17 => ?_)
  refine bc_ob_i ⟨by constructor <;> omega, by decide⟩ ?_
  refine bc_br_i (fun c => absurd c (by omega)) (fun _ => ?_)
  exact f _ ⟨by simp [bc_wr], fr_trans F1 (fr_trans (fr_wr (by decide)) (fr_wr (by decide)))⟩
end REF
