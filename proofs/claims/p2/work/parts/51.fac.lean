/-! faults -/
def mq_ (r : rw_t) (a b s f : Int) : Prop := (pf_ a b ≠ 0 ∧ f = pf_ a b) ∨ (pf_ a b = 0 ∧ (s < 1 ∨ 99 < s) ∧ f = 2) ∨ (pf_ a b = 0 ∧ (1 ≤ s ∧ s ≤ 99) ∧ (16 ≤ r 3 ∨ ∃ k : Int, 0 ≤ k ∧ k < r 3 ∧ jn_ r k a b) ∧ f = 3) ∨ (pf_ a b = 0 ∧ (1 ≤ s ∧ s ≤ 99) ∧ r 3 < 16 ∧ (∀ k : Int, 0 ≤ k → k < r 3 → ¬ jn_ r k a b) ∧ f = 0)
theorem mq_le {r : rw_t} {a b s f : Int} (h : mq_ r a b s f) : 0 ≤ f ∧ f ≤ 6 := by
  have := pf_le a b
  rcases h with ⟨-, h⟩ | ⟨-, -, h⟩ | ⟨-, -, -, h⟩ | ⟨-, -, -, -, h⟩ <;> omega
def wq_ (r : rw_t) (a b n : Int) : Int := if pf_ a b ≠ 0 then pf_ a b else if n < 1 ∨ 99 < n then 2 else if wb_ (sa_ r) a b = 0 then 4 else if wb_ (sa_ r) a b < n + tw_ r then 5 else 0
theorem wq_le (r : rw_t) (a b n : Int) : 0 ≤ wq_ r a b n ∧ wq_ r a b n ≤ 6 := by
  have := pf_le a b
  unfold wq_
  repeat' split
  all_goals omega
def yq_ (r : rw_t) (a b : Int) : Int := if pf_ a b ≠ 0 then pf_ a b else if wb_ (sa_ r) a b = 0 then 4 else 0
theorem yq_le (r : rw_t) (a b : Int) : 0 ≤ yq_ r a b ∧ yq_ r a b ≤ 6 := by
  have := pf_le a b
  unfold yq_
  repeat' split
  all_goals omega
/-- the object after a search for a way -/
def yv_ (v : cs_t) (a b : Int) : cs_t := if pf_ a b ≠ 0 then v else u_J v (fz_ (sa_ (c_r v)) a b (c_J v)).1 (fz_ (sa_ (c_r v)) a b (c_J v)).2
def vq_ (r : rw_t) (a u : Int) : Int := if ¬ (r 0 < a ∧ a ≤ r 0 + 50) ∨ u < 1 ∨ 99 < u then 2 else if 8 ≤ r 4 then 3 else 0
def fq1_ (n : Int) : Int := if n < 0 ∨ 20 < n then 2 else 0
def dq_ (n : Int) : Int := if n < 1 ∨ 30 < n then 2 else 0
def nq1_ (c : Int) : Int := if c = 99 ∨ c = 108 then 0 else 2
def pq_ (r : rw_t) (p c w : Int) : Int := if p < 0 ∨ 4 ≤ p then 1 else if ¬ (c = 99 ∨ c = 108) ∨ w < 1 ∨ 20 < w then 2 else if c ≠ r 11 then 5 else if 0 < r (12 + p) then 3 else 0
def eq_ (r : rw_t) (m : Int) : Int := if ¬ (0 ≤ m ∧ m < r 3) then 1 else if r (21 + 6 * m) ≠ 0 then 3 else if r 1 < co_ r m then 5 else 0
def lq_ (r : rw_t) (m b : Int) : Int := if ¬ (0 ≤ m ∧ m < r 3) then 1 else if r (21 + 6 * m) = b then 0 else 3
def tq_ (r : rw_t) (m : Int) : Int := if ¬ (0 ≤ m ∧ m < r 3) then 1 else if br_ r m = 0 then 6 else 0
section FAC
variable {g : bc_C} {d : Nat} {σ : bc_M} {B : Int} {v : cs_t} {Rr : Option bc_A → bc_M → Prop} {X : Nat → bc_M → Prop}
theorem t_X10_memberFault {a b s : Int} (hF : fa_ B σ v) (ha : bc_in a) (hb : bc_in b) (hs : bc_in s) (h : ∀ f, mq_ (c_r v) a b s f → Rr (some (bc_I f)) σ) : bc_Sem g (d + 3) mX10_memberFault [bc_R 0, bc_I a, bc_I b, bc_I s] σ Rr X := by
  obtain ⟨⟨h1, -⟩, w1, -⟩ := hF.1.1
  obtain ⟨c1, c2⟩ := st_M1 h1
  have w0 := w1.1
  obtain ⟨s0, s1⟩ := hs
  have hp := pf_le a b
  refine e_X10_memberFault rfl (fun K hK => ?_)
  refine hK.1 [] 60 _ _ _ _ _ ?_
  refine t_X10_pairFault ha hb ?_
  refine bc_ob_i (by omega) ?_
  refine bc_br_i (fun c => ?_) (fun c => ?_)
  · refine bc_ob_i (by omega) ?_
    refine bc_br_i (fun c2 => ?_) (fun c2 => ?_)
    · exact h 2 (.inr (.inl ⟨c, .inl c2, rfl⟩))
    · refine bc_ob_i (by omega) ?_
      refine bc_br_i (fun c3 => ?_) (fun c3 => ?_)
      · exact h 2 (.inr (.inl ⟨c, .inr c3, rfl⟩))
      · refine bc_ob_i (by omega) ?_
        refine bc_br_i (fun c4 => ?_) (fun c4 => ?_)
        · refine bc_ob_i (by decide) ?_
          refine bc_br_i (fun _ => ?_) (fun c => absurd rfl c)
          refine t_X2_between h1 w1 ha hb (fun x hx => ?_)
          refine bc_ob_i (by rcases hx with ⟨hx, -⟩ | ⟨hx, hx2, -⟩ <;> omega) ?_
          refine bc_br_i (fun c5 => ?_) (fun c5 => ?_)
          · refine h 0 (.inr (.inr (.inr ⟨c, ⟨by omega, by omega⟩, by omega, ?_, rfl⟩)))
            rcases hx with ⟨-, hx⟩ | ⟨hx, -⟩
            · exact hx
            · omega
          · refine h 3 (.inr (.inr (.inl ⟨c, ⟨by omega, by omega⟩, .inr ?_, rfl⟩)))
            rcases hx with ⟨hx, -⟩ | hx
            · exact absurd hx c5
            · exact ⟨x, hx⟩
        · refine bc_ob_i (by decide) ?_
          refine bc_br_i (fun c => absurd c (by decide)) (fun _ => ?_)
          exact h 3 (.inr (.inr (.inl ⟨c, ⟨by omega, by omega⟩, .inl (by omega), rfl⟩)))
  · exact h _ (.inl ⟨c, rfl⟩)
theorem t_X10_walkFault {a b n : Int} (hF : fa_ B σ v) (ha : bc_in a) (hb : bc_in b) (hn : bc_in n) (h : ∀ σ' : bc_M, fa_ B σ' v → fr_ ob_ σ σ' → Rr (some (bc_I (wq_ (c_r v) a b n))) σ') : bc_Sem g (d + 3) mX10_walkFault [bc_R 0, bc_I a, bc_I b, bc_I n] σ Rr X := by
  obtain ⟨⟨h1, h2, -⟩, w1, w2, -⟩ := hF.1.1
  obtain ⟨s0, s1⟩ := hn
  have hp := pf_le a b
  refine e_X10_walkFault rfl (fun K hK => ?_)
  unfold wq_ at h
  refine hK.1 [] 60 _ _ _ _ _ ?_
  refine t_X10_pairFault ha hb ?_
  refine bc_ob_i (by omega) ?_
  refine bc_br_i (fun c => ?_) (fun c => ?_)
  · obtain ⟨⟨a0, a1⟩, ⟨b0, b1⟩, -⟩ := pf_0 c
    refine bc_ob_i (by omega) ?_
    refine bc_br_i (fun c2 => ?_) (fun c2 => ?_)
    · exact rt_ (h σ hF (fr_refl _)) (by rw [if_neg (by omega), if_pos (by omega)])
    · refine bc_ob_i (by omega) ?_
      refine bc_br_i (fun c3 => ?_) (fun c3 => ?_)
      · exact rt_ (h σ hF (fr_refl _)) (by rw [if_neg (by omega), if_pos (by omega)])
      · refine t_X9_survey h1 w1 (fun σ1 p1 f1 => ?_)
        have hl := wb_le (sa_le w1) a0 a1 b0 b1
        refine t_X9_widestByGrowing p1 (sa_le w1) a0 a1 b0 b1 (fun σ2 f2 => ?_)
        have F2 : fa_ B σ2 v := fa_x (fa_x hF f1 (by omega)) f2 (by omega)
        have fr2 : fr_ ob_ σ σ2 := fr_trans (fr_mono f1 (by omega)) (fr_mono f2 (by omega))
        have tw : 0 ≤ tw_ (c_r v) ∧ tw_ (c_r v) ≤ 80 := by
          have := w2
          unfold wf_N at this
          unfold tw_
          omega
        refine bc_ob_i (by omega) ?_
        refine bc_br_i (fun c4 => ?_) (fun c4 => ?_)
        · exact rt_ (h σ2 F2 fr2) (by rw [if_neg (by omega), if_neg (by omega), if_pos c4])
        · refine t_X3_total F2.1.1.1.2.1 w2 ?_
          refine bc_ob_i (by omega) ?_
          refine bc_br_i (fun c5 => ?_) (fun c5 => ?_)
          · exact rt_ (h σ2 F2 fr2) (by rw [if_neg (by omega), if_neg (by omega), if_neg c4, if_pos c5])
          · exact rt_ (h σ2 F2 fr2) (by rw [if_neg (by omega), if_neg (by omega), if_neg c4, if_neg c5])
  · exact rt_ (h σ hF (fr_refl _)) (by rw [if_pos c])
theorem t_X10_wayFault {a b : Int} (hF : fa_ B σ v) (ha : bc_in a) (hb : bc_in b) (h : ∀ σ' : bc_M, fa_ B σ' (yv_ v a b) → fr_ ob_ σ σ' → Rr (some (bc_I (yq_ (c_r v) a b))) σ') : bc_Sem g (d + 4) mX10_wayFault [bc_R 0, bc_I a, bc_I b] σ Rr X := by
  obtain ⟨⟨h1, h2, -⟩, w1, w2, -⟩ := hF.1.1
  have hp := pf_le a b
  refine e_X10_wayFault rfl (fun K hK => ?_)
  unfold yq_ yv_ at h
  refine hK.1 [] 60 _ _ _ _ _ ?_
  refine t_X10_pairFault ha hb ?_
  refine bc_ob_i (by omega) ?_
  refine bc_br_i (fun c => ?_) (fun c => ?_)
  · obtain ⟨⟨a0, a1⟩, ⟨b0, b1⟩, -⟩ := pf_0 c
    rw [if_neg (by omega)] at h
    rw [if_neg (by omega)] at h
    refine t_X9_survey h1 w1 (fun σ1 p1 f1 => ?_)
    have F1 := fa_x hF f1 (by omega)
    have hl := wb_le (sa_le w1) a0 a1 b0 b1
    obtain ⟨-, ⟨hJ, lJ⟩, -⟩ := id F1
    refine t_X9_findBest p1 (sa_le w1) hJ lJ a0 a1 b0 b1 (fun σ2 f2 hJ2 hm2 => ?_)
    have lz : lm_ (fz_ (sa_ (c_r v)) a b (c_J v)).1 7 ∧ 0 ≤ (fz_ (sa_ (c_r v)) a b (c_J v)).2 ∧ (fz_ (sa_ (c_r v)) a b (c_J v)).2 ≤ 7 := by
      unfold fz_
      split
      · exact ⟨lJ, by show 0 ≤ (0 : Int) ∧ (0 : Int) ≤ 7; decide⟩
      · exact jw_le lJ a0 a1 7 (Nat.le_refl _)
    have F2 := fa_w F1 f2 (by omega) hJ2 lz.1 hm2 lz.2
    have fr2 : fr_ ob_ σ σ2 := fr_trans (fr_mono f1 (by omega)) (fr_mono f2 (by omega))
    refine bc_ob_i (by omega) ?_
    refine bc_br_i (fun c4 => ?_) (fun c4 => ?_)
    · exact rt_ (h σ2 F2 fr2) (by rw [if_pos c4])
    · exact rt_ (h σ2 F2 fr2) (by rw [if_neg c4])
  · rw [if_pos c] at h
    rw [if_pos c] at h
    exact h σ hF (fr_refl _)
theorem t_X10_vowFault {a u : Int} (hF : fa_ B σ v) (hB : B ≤ 1000000) (ha : bc_in a) (hu : bc_in u) (h : Rr (some (bc_I (vq_ (c_r v) a u))) σ) : bc_Sem g (d + 2) mX10_vowFault [bc_R 0, bc_I a, bc_I u] σ Rr X := by
  obtain ⟨⟨-, -, h3⟩, -, -, w3⟩ := hF.1.1
  obtain ⟨⟨f0, f1, f2, f3, f4, f5, f6, f7, f8, f9⟩, f⟩ := st_T1 h3
  have l4 := (wt_le w3).2.2.2.1
  obtain ⟨s0, s1⟩ := hu
  refine e_X10_vowFault rfl (fun K hK => ?_)
  unfold vq_ at h
  refine hK.1 [] 60 _ _ _ _ _ ?_
  refine t_X8_isDueDayAllowed h3 w3 hB ha ?_
  refine bc_ob_i (by split <;> omega) ?_
  refine bc_br_i (fun c => ?_) (fun c => ?_)
  · exact rt_ h (by rw [if_pos (by split at c <;> omega)])
  · have ca : (c_r v) 0 < a ∧ a ≤ (c_r v) 0 + 50 := by split at c <;> omega
    repeat' first | refine bc_br_i (fun _ => ?_) (fun _ => ?_) | refine bc_ob_i (by omega) ?_
    all_goals first | (exfalso; omega) | (refine rt_ h ?_; rw [if_pos (by omega)]; done) | (refine rt_ h ?_; rw [if_neg (by omega), if_pos (by omega)]; done) | (refine rt_ h ?_; rw [if_neg (by omega), if_neg (by omega)])
theorem t_X10_forgeFault {n : Int} (hn : bc_in n) (h : Rr (some (bc_I (fq1_ n))) σ) : bc_Sem g (d + 1) mX10_forgeFault [bc_I n] σ Rr X := by
  obtain ⟨a0, a1⟩ := hn
  refine e_X10_forgeFault rfl (fun K hK => ?_)
  unfold fq1_ at h
  refine hK.1 [] 60 _ _ _ _ _ ?_
  repeat' first | refine bc_br_i (fun _ => ?_) (fun _ => ?_) | refine bc_ob_i (by omega) ?_
  all_goals first | (exfalso; omega) | exact rt_ h (by split <;> omega)
theorem t_X10_daysFault {n : Int} (hn : bc_in n) (h : Rr (some (bc_I (dq_ n))) σ) : bc_Sem g (d + 1) mX10_daysFault [bc_I n] σ Rr X := by
  obtain ⟨a0, a1⟩ := hn
  refine e_X10_daysFault rfl (fun K hK => ?_)
  unfold dq_ at h
  refine hK.1 [] 60 _ _ _ _ _ ?_
  repeat' first | refine bc_br_i (fun _ => ?_) (fun _ => ?_) | refine bc_ob_i (by omega) ?_
  all_goals first | (exfalso; omega) | exact rt_ h (by split <;> omega)
theorem t_X10_nicheFault {c : Int} (hn : bc_in c) (h : Rr (some (bc_I (nq1_ c))) σ) : bc_Sem g (d + 2) mX10_nicheFault [bc_I c] σ Rr X := by
  refine e_X10_nicheFault rfl (fun K hK => ?_)
  unfold nq1_ at h
  refine hK.1 [] 60 _ _ _ _ _ ?_
  refine t_X10_isKind hn ?_
  refine bc_ob_i (by split <;> omega) ?_
  refine bc_br_i (fun c2 => ?_) (fun c2 => ?_)
  · exact rt_ h (by rw [if_neg (by split at c2 <;> omega)])
  · exact rt_ h (by rw [if_pos (by split at c2 <;> omega)])
theorem t_X10_placeFault {p c w : Int} (hF : fa_ B σ v) (hp : bc_in p) (hc : bc_in c) (hw : bc_in w) (h : Rr (some (bc_I (pq_ (c_r v) p c w))) σ) : bc_Sem g (d + 2) mX10_placeFault [bc_R 0, bc_I p, bc_I c, bc_I w] σ Rr X := by
  obtain ⟨⟨-, h2, -⟩, -, w2, -⟩ := hF.1.1
  have hk := h2.1
  have hk2 := h2.2
  simp only [Nat.reduceAdd] at hk hk2
  have w := w2
  unfold wf_N at w
  obtain ⟨p0, p1⟩ := hp
  obtain ⟨c0, c1⟩ := id hc
  obtain ⟨v0, v1⟩ := hw
  refine e_X10_placeFault rfl (fun K hK => ?_)
  unfold pq_ at h
  refine hK.1 [] 60 _ _ _ _ _ ?_
  refine bc_ob_i (by omega) ?_
  refine bc_br_i (fun c1 => ?_) (fun c1 => ?_)
  · exact rt_ h (by rw [if_pos (by omega)])
  · refine bc_ob_i (by omega) ?_
    refine bc_br_i (fun c2 => ?_) (fun c2 => ?_)
    · have hw := hk2 p (by omega) c2
      have hwl : 0 ≤ (c_r v) (12 + p) ∧ (c_r v) (12 + p) ≤ 20 := by
        have : p = 0 ∨ p = 1 ∨ p = 2 ∨ p = 3 := by omega
        rcases this with rfl | rfl | rfl | rfl
        · exact w.2.1
        · exact w.2.2.1
        · exact w.2.2.2.1
        · exact w.2.2.2.2
      refine t_X10_isKind hc ?_
      refine bc_ob_i (by split <;> omega) ?_
      refine bc_br_i (fun c3 => ?_) (fun c3 => ?_)
      · exact rt_ h (by rw [if_neg (by omega), if_pos (.inl (by split at c3 <;> omega))])
      · have ck : c = 99 ∨ c = 108 := by split at c3 <;> omega
        refine bc_ob_i (by omega) ?_
        refine bc_br_i (fun c4 => ?_) (fun c4 => ?_)
        · exact rt_ h (by rw [if_neg (by omega), if_pos (.inr (by omega))])
        · refine bc_ob_i (by omega) ?_
          refine bc_br_i (fun c5 => ?_) (fun c5 => ?_)
          · exact rt_ h (by rw [if_neg (by omega), if_pos (.inr (by omega))])
          · refine bc_ob_i (by omega) ?_
            refine bc_br_i (fun c6 => ?_) (fun c6 => ?_)
            · refine bc_ob_i (by omega) ?_
              refine bc_ob_i (by omega) ?_
              refine bc_br_i (fun c7 => ?_) (fun c7 => ?_)
              · exact rt_ h (by rw [if_neg (by omega), if_neg (by omega), if_neg (by omega), if_pos (by omega)])
              · exact rt_ h (by rw [if_neg (by omega), if_neg (by omega), if_neg (by omega), if_neg (by omega)])
            · exact rt_ h (by rw [if_neg (by omega), if_neg (by omega), if_pos (by omega)])
    · exact rt_ h (by rw [if_pos (by omega)])
theorem t_X10_mendFault {m : Int} (hF : fa_ B σ v) (hB : B ≤ 1000000) (hm : bc_in m) (h : Rr (some (bc_I (eq_ (c_r v) m))) σ) : bc_Sem g (d + 2) mX10_mendFault [bc_R 0, bc_I m] σ Rr X := by
  obtain ⟨⟨h1, -, h3⟩, w1, -, w3⟩ := hF.1.1
  obtain ⟨c1, c2⟩ := st_M1 h1
  obtain ⟨⟨f0, f1, f2, f3, f4, f5, f6, f7, f8, f9⟩, f⟩ := st_T1 h3
  have w0 := w1.1
  have l1 := (wt_le w3).2.1
  refine e_X10_mendFault rfl (fun K hK => ?_)
  unfold eq_ at h
  refine hK.1 [] 60 _ _ _ _ _ ?_
  refine t_X2_has h1 w1 hm ?_
  refine bc_ob_i (by split <;> omega) ?_
  refine bc_br_i (fun c => ?_) (fun c => ?_)
  · exact rt_ h (by rw [if_pos (by split at c <;> omega)])
  · have cm : 0 ≤ m ∧ m < (c_r v) 3 := by split at c <;> omega
    obtain ⟨e1, e2, e3, e4, e5, e6⟩ := c2 m (by omega) (by omega)
    obtain ⟨-, -, -, -, -, g6⟩ := w1.2 m (by omega) (by omega)
    have hco := co_le w1 (k := m) (by omega) (by omega)
    refine bc_ob_i (by omega) ?_
    refine bc_ob_i (by omega) ?_
    refine bc_br_i (fun c2 => ?_) (fun c2 => ?_)
    · refine t_X2_costOf h1 w1 (by omega) (by omega) ?_
      refine bc_ob_i (by omega) ?_
      refine bc_br_i (fun c3 => ?_) (fun c3 => ?_)
      · exact rt_ h (by rw [if_neg (by omega), if_neg (by omega), if_pos (by omega)])
      · exact rt_ h (by rw [if_neg (by omega), if_neg (by omega), if_neg (by omega)])
    · exact rt_ h (by rw [if_neg (by omega), if_pos (by omega)])
theorem t_X10_leaveFault {m b : Int} (hF : fa_ B σ v) (hm : bc_in m) (hb : 0 ≤ b ∧ b ≤ 1) (h : Rr (some (bc_I (lq_ (c_r v) m b))) σ) : bc_Sem g (d + 2) mX10_leaveFault [bc_R 0, bc_I m, bc_I b] σ Rr X := by
  obtain ⟨⟨h1, -, h3⟩, w1, -, w3⟩ := hF.1.1
  obtain ⟨c1, c2⟩ := st_M1 h1
  have w0 := w1.1
  refine e_X10_leaveFault rfl (fun K hK => ?_)
  unfold lq_ at h
  refine hK.1 [] 60 _ _ _ _ _ ?_
  refine t_X2_has h1 w1 hm ?_
  refine bc_ob_i (by split <;> omega) ?_
  refine bc_br_i (fun c => ?_) (fun c => ?_)
  · exact rt_ h (by rw [if_pos (by split at c <;> omega)])
  · have cm : 0 ≤ m ∧ m < (c_r v) 3 := by split at c <;> omega
    obtain ⟨e1, e2, e3, e4, e5, e6⟩ := c2 m (by omega) (by omega)
    obtain ⟨-, -, -, -, -, g6⟩ := w1.2 m (by omega) (by omega)
    refine bc_ob_i (by omega) ?_
    refine bc_ob_i (by omega) ?_
    refine bc_br_i (fun c2 => ?_) (fun c2 => ?_)
    · exact rt_ h (by rw [if_neg (by omega), if_pos (by omega)])
    · exact rt_ h (by rw [if_neg (by omega), if_neg (by omega)])
theorem t_X10_strainFault {m : Int} (hF : fa_ B σ v) (hm : bc_in m) (h : Rr (some (bc_I (tq_ (c_r v) m))) σ) : bc_Sem g (d + 2) mX10_strainFault [bc_R 0, bc_I m] σ Rr X := by
  obtain ⟨⟨h1, -, h3⟩, w1, -, w3⟩ := hF.1.1
  obtain ⟨c1, c2⟩ := st_M1 h1
  have w0 := w1.1
  refine e_X10_strainFault rfl (fun K hK => ?_)
  unfold tq_ at h
  refine hK.1 [] 60 _ _ _ _ _ ?_
  refine t_X2_has h1 w1 hm ?_
  refine bc_ob_i (by split <;> omega) ?_
  refine bc_br_i (fun c => ?_) (fun c => ?_)
  · exact rt_ h (by rw [if_pos (by split at c <;> omega)])
  · have cm : 0 ≤ m ∧ m < (c_r v) 3 := by split at c <;> omega
    have hbr := br_le w1 (k := m) (by omega) (by omega)
    refine t_X2_bearingOf h1 w1 (by omega) (by omega) ?_
    refine bc_ob_i (by omega) ?_
    refine bc_br_i (fun c2 => ?_) (fun c2 => ?_)
    · exact rt_ h (by rw [if_neg (by omega), if_pos (by omega)])
    · exact rt_ h (by rw [if_neg (by omega), if_neg (by omega)])
end FAC
