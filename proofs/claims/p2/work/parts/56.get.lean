/-! reading calls about ways and critical members -/
section FAC
variable {g : bc_C} {d : Nat} {σ : bc_M} {B : Int} {v : cs_t} {Rr : Option bc_A → bc_M → Prop} {X : Nat → bc_M → Prop}
theorem t_X10_found {x : Int} (hx : bc_in x) (h1 : x = 0 → X 3 σ) (h0 : x ≠ 0 → Rr (some (bc_I x)) σ) : bc_Sem g (d + 2) mX10_found [bc_I x] σ Rr X := by
  refine e_X10_found rfl (fun K hK => ?_)
  refine hK.1 [] 60 _ _ _ _ _ ?_
  refine bc_ob_i hx ?_
  refine bc_br_i (fun c => ?_) (fun c => ?_)
  · refine t_X10_refuse (f := 4) (by decide) (by decide) (fun e => by omega) (fun e he => ?_)
    have ee : e = 3 := by omega
    subst ee
    exact h1 c
  · refine t_X10_refuse (f := 0) (by decide) (by decide) (fun _ => ?_) (fun e he => by omega)
    exact h0 c
def cq_ (r : rw_t) (m : Int) : Int := if br_ r m = 0 then 0 else se_ (sa_ r) (r (16 + 6 * m)) (r (17 + 6 * m))
def cr1_ (r : rw_t) (m : Int) : Int := if 0 < br_ r m ∧ jc_ r 1 m (r (16 + 6 * m)) (r (17 + 6 * m)) = 0 then 1 else 0
theorem se_le (f : gr_t) (a b : Int) : 0 ≤ se_ f a b ∧ se_ f a b ≤ 1 := by unfold se_; split <;> omega
theorem jc_le (r : rw_t) (l u a b : Int) : 0 ≤ jc_ r l u a b ∧ jc_ r l u a b ≤ 1 := by unfold jc_; split <;> omega
theorem t_X10_criticalBySearch {m : Int} (hF : fa_ B σ v) (m0 : 0 ≤ m) (m1 : m < (c_r v) 3) (h : ∀ σ', fa_ B σ' v → fr_ ob_ σ σ' → Rr (some (bc_I (cq_ (c_r v) m))) σ') : bc_Sem g (d + 8 + 3) mX10_criticalBySearch [bc_R 0, bc_I m] σ Rr X := by
  have w0 := hF.1.1.2.1.1
  have hb := br_le hF.1.1.2.1 m0 (by omega)
  obtain ⟨e1, e2, e3, e4, e5, e6⟩ := (st_M1 hF.1.1.1.1).2 m m0 (by omega)
  obtain ⟨g1, g2, g3, g4, g5, g6⟩ := hF.1.1.2.1.2 m m0 (by omega)
  refine e_X10_criticalBySearch rfl (fun K hK => ?_)
  unfold cq_ at h
  refine hK.1 [] 60 _ _ _ _ _ ?_
  refine t_X2_bearingOf hF.1.1.1.1 hF.1.1.2.1 m0 (by omega) ?_
  refine bc_ob_i (by omega) ?_
  refine bc_br_i (fun c => ?_) (fun c => ?_)
  · refine bc_ob_i (by decide) ?_
    exact rt_ (h σ hF (fr_refl _)) (if_pos c).symm
  · rw [if_neg c] at h
    refine t_X9_survey hF.1.1.1.1 hF.1.1.2.1 (fun σ1 p1 f1 => ?_)
    have F1 := fa_x hF f1 (by omega)
    have y1 : σ1.1 3 = σ.1 3 := f1.1 3 (by omega)
    have y2 : σ1.1 4 = σ.1 4 := f1.1 4 (by omega)
    have z1 : σ1.1 3 m = (c_r v) (16 + 6 * m) := by rw [y1]; exact e1
    have z2 : σ1.1 4 m = (c_r v) (17 + 6 * m) := by rw [y2]; exact e2
    refine bc_ob_i (by omega) ?_
    refine bc_ob_i (by omega) ?_
    refine t_X0_separates (sa_le hF.1.1.2.1) p1 (by omega) (by omega) (by omega) (by omega) (fun σ2 f2 => ?_)
    refine bc_ob_i (se_le _ _ _) ?_
    exact rt_ (h σ2 (fa_x F1 f2 (by omega)) (fr_trans (fr_mono f1 (by omega)) (fr_mono f2 (by omega)))) (by rw [z1, z2])
theorem t_X10_criticalByRemoval {m : Int} (hF : fa_ B σ v) (m0 : 0 ≤ m) (m1 : m < (c_r v) 3) (h : Rr (some (bc_I (cr1_ (c_r v) m))) σ) : bc_Sem g (d + 3) mX10_criticalByRemoval [bc_R 0, bc_I m] σ Rr X := by
  have w0 := hF.1.1.2.1.1
  have hb := br_le hF.1.1.2.1 m0 (by omega)
  obtain ⟨e1, e2, e3, e4, e5, e6⟩ := (st_M1 hF.1.1.1.1).2 m m0 (by omega)
  refine e_X10_criticalByRemoval rfl (fun K hK => ?_)
  unfold cr1_ at h
  rw [← e1, ← e2] at h
  refine hK.1 [] 60 _ _ _ _ _ ?_
  refine t_X2_bearingOf hF.1.1.1.1 hF.1.1.2.1 m0 (by omega) ?_
  refine bc_ob_i (by omega) ?_
  refine bc_br_i (fun c => ?_) (fun c => ?_)
  · refine bc_ob_i (by omega) ?_
    refine bc_ob_i (by omega) ?_
    refine t_X2_connects hF.1.1.1.1 hF.1.1.2.1 (by decide) (by constructor <;> omega) ?_
    have hl := jc_le (c_r v) 1 m (σ.1 3 m) (σ.1 4 m)
    refine bc_ob_i (by omega) ?_
    refine bc_br_i (fun c2 => ?_) (fun c2 => ?_)
    · refine bc_ob_i (by decide) ?_
      exact rt_ h (if_pos ⟨c, c2⟩).symm
    · refine bc_ob_i (by decide) ?_
      exact rt_ h (if_neg (fun q => c2 q.2)).symm
  · refine bc_ob_i (by decide) ?_
    exact rt_ h (if_neg (fun q => c q.1)).symm
theorem cq_le (r : rw_t) (m : Int) : 0 ≤ cq_ r m ∧ cq_ r m ≤ 1 := by
  have := se_le (sa_ r) (r (16 + 6 * m)) (r (17 + 6 * m))
  unfold cq_
  split <;> omega
theorem cr1_le (r : rw_t) (m : Int) : 0 ≤ cr1_ r m ∧ cr1_ r m ≤ 1 := by
  unfold cr1_
  split <;> omega
theorem t_X10_isCritical {m : Int} (hF : fa_ B σ v) (hm : bc_in m) (h1 : ix_ (c_r v) m = 1 → X 0 σ) (h0 : 0 ≤ m → m < (c_r v) 3 → ∀ σ', fa_ B σ' v → fr_ ob_ σ σ' → Rr (some (bc_I (cq_ (c_r v) m))) σ') : bc_Sem g (d + 8 + 4) mX10_isCritical [bc_R 0, bc_I m] σ Rr X := by
  refine e_X10_isCritical rfl (fun K hK => ?_)
  refine hK.1 [] 60 _ _ _ _ _ ?_
  refine t_X10_indexFault hF hm ?_
  have hl := ix_le (c_r v) m
  refine t_X10_refuse hl.1 hl.2 (fun e0 => ?_) (fun e he => ?_)
  · have hp : 0 ≤ m ∧ m < (c_r v) 3 := by unfold ix_ at e0; split at e0 <;> omega
    refine t_X10_criticalBySearch hF hp.1 hp.2 (fun σ1 F1 f1 => ?_)
    refine bc_ob_i (cq_le _ _) ?_
    exact h0 hp.1 hp.2 σ1 F1 f1
  · have he1 : e = 0 ∧ ix_ (c_r v) m = 1 := by unfold ix_ at he ⊢; split at he <;> split <;> omega
    rw [he1.1]
    exact h1 he1.2
theorem t_X10_isCriticalByRemoval {m : Int} (hF : fa_ B σ v) (hm : bc_in m) (h1 : ix_ (c_r v) m = 1 → X 0 σ) (h0 : 0 ≤ m → m < (c_r v) 3 → Rr (some (bc_I (cr1_ (c_r v) m))) σ) : bc_Sem g (d + 4) mX10_isCriticalByRemoval [bc_R 0, bc_I m] σ Rr X := by
  refine e_X10_isCriticalByRemoval rfl (fun K hK => ?_)
  refine hK.1 [] 60 _ _ _ _ _ ?_
  refine t_X10_indexFault hF hm ?_
  have hl := ix_le (c_r v) m
  refine t_X10_refuse hl.1 hl.2 (fun e0 => ?_) (fun e he => ?_)
  · have hp : 0 ≤ m ∧ m < (c_r v) 3 := by unfold ix_ at e0; split at e0 <;> omega
    refine t_X10_criticalByRemoval hF hp.1 hp.2 ?_
    refine bc_ob_i (cr1_le _ _) ?_
    exact h0 hp.1 hp.2
  · have he1 : e = 0 ∧ ix_ (c_r v) m = 1 := by unfold ix_ at he ⊢; split at he <;> split <;> omega
    rw [he1.1]
    exact h1 he1.2
/-- a load of some member that connects -/
def wb1_ (r : rw_t) (a b l : Int) : Prop := (∃ k : Int, 0 ≤ k ∧ k < r 3 ∧ br_ r k = l) ∧ jc_ r l (-1) a b ≠ 0
def wt1_ (r : rw_t) (a b x : Int) : Prop := (x = 0 ∧ ∀ l : Int, 1 ≤ l → l ≤ 99 → ¬ wb1_ r a b l) ∨ ((1 ≤ x ∧ x ≤ 99) ∧ wb1_ r a b x ∧ ∀ l : Int, x < l → l ≤ 99 → ¬ wb1_ r a b l)
theorem wt1_le {r : rw_t} {a b x : Int} (h : wt1_ r a b x) : 0 ≤ x ∧ x ≤ 99 := by
  rcases h with ⟨h, -⟩ | ⟨h, -⟩ <;> omega
theorem t_X10_widestByTrial {a b : Int} (hF : fa_ B σ v) (h : ∀ x, wt1_ (c_r v) a b x → Rr (some (bc_I x)) σ) : bc_Sem g (d + 4) mX10_widestByTrial [bc_R 0, bc_I a, bc_I b] σ Rr X := by
  refine e_X10_widestByTrial rfl (fun K hK => ?_)
  have L : ∀ n : Nat, n ≤ 99 → (∀ l : Int, (n : Int) < l → l ≤ 99 → ¬ wb1_ (c_r v) a b l) → K 3 [(0, bc_R 0), (1, bc_I a), (2, bc_I b), (3, bc_I n)] [] σ 0 := by
    intro n
    induction n with
    | zero =>
      intro hn hl
      refine hK.1 [3] 60 _ _ _ _ _ ?_
      refine bc_ob_i (by decide) ?_
      refine bc_br_i (fun c => ?_) (fun c => absurd (by decide) c)
      exact h 0 (.inl ⟨rfl, fun l l0 l1 => hl l (by omega) l1⟩)
    | succ n ih =>
      intro hn hl
      have en : ((n + 1 : Nat) : Int) + -1 = (n : Int) := by omega
      have skip : ¬ wb1_ (c_r v) a b ((n + 1 : Nat) : Int) → K 3 [(0, bc_R 0), (1, bc_I a), (2, bc_I b), (3, bc_I (((n + 1 : Nat) : Int) + -1))] [] σ 0 := by
        intro q
        rw [en]
        refine ih (by omega) (fun l l0 l1 => ?_)
        by_cases e : l = ((n + 1 : Nat) : Int)
        · rw [e]; exact q
        · exact hl l (by omega) l1
      refine hK.1 [3] 60 _ _ _ _ _ ?_
      refine bc_ob_i (by omega) ?_
      refine bc_br_i (fun c => by omega) (fun _ => ?_)
      refine t_X2_someBears hF.1.1.1.1 hF.1.1.2.1 (by constructor <;> omega) (fun x hx => ?_)
      rcases hx with ⟨rfl, hx⟩ | ⟨rfl, hx⟩
      · refine bc_ob_i (by decide) ?_
        refine bc_br_i (fun c => absurd c (by decide)) (fun _ => ?_)
        refine t_X2_connects hF.1.1.1.1 hF.1.1.2.1 (by constructor <;> omega) (by decide) ?_
        have hl2 := jc_le (c_r v) ((n + 1 : Nat) : Int) (-1) a b
        refine bc_ob_i (by omega) ?_
        refine bc_br_i (fun c2 => ?_) (fun c2 => ?_)
        · exact skip (fun q => q.2 c2)
        · exact h _ (.inr ⟨by omega, ⟨hx, c2⟩, hl⟩)
      · refine bc_ob_i (by decide) ?_
        refine bc_br_i (fun _ => ?_) (fun c => absurd rfl c)
        refine skip (fun q => ?_)
        obtain ⟨⟨k, k0, k1, k2⟩, -⟩ := q
        exact hx k k0 k1 k2
  refine hK.1 [3] 40 _ _ _ _ _ ?_
  exact L 99 (Nat.le_refl _) (fun l l0 l1 => by omega)
theorem t_X10_widestLoad {a b : Int} (hF : fa_ B σ v) (ha : bc_in a) (hb : bc_in b) (h1 : ∀ e : Nat, pf_ a b = e + 1 → X e σ) (h2 : pf_ a b = 0 → wb_ (sa_ (c_r v)) a b = 0 → ∀ σ', fa_ B σ' v → fr_ ob_ σ σ' → X 3 σ') (h0 : pf_ a b = 0 → wb_ (sa_ (c_r v)) a b ≠ 0 → ∀ σ', fa_ B σ' v → fr_ ob_ σ σ' → Rr (some (bc_I (wb_ (sa_ (c_r v)) a b))) σ') : bc_Sem g (d + 4) mX10_widestLoad [bc_R 0, bc_I a, bc_I b] σ Rr X := by
  refine e_X10_widestLoad rfl (fun K hK => ?_)
  refine hK.1 [] 60 _ _ _ _ _ ?_
  refine t_X10_pairFault ha hb ?_
  have hl := pf_le a b
  refine t_X10_refuse hl.1 (by omega) (fun e0 => ?_) h1
  obtain ⟨q1, q2, -⟩ := pf_0 e0
  refine t_X9_survey hF.1.1.1.1 hF.1.1.2.1 (fun σ1 p1 f1 => ?_)
  have hw := wb_le (sa_le hF.1.1.2.1) q1.1 q1.2 q2.1 q2.2
  refine t_X9_widestByGrowing p1 (sa_le hF.1.1.2.1) q1.1 q1.2 q2.1 q2.2 (fun σ2 f2 => ?_)
  have F2 := fa_x (fa_x hF f1 (by omega)) f2 (by omega)
  have fr2 : fr_ ob_ σ σ2 := fr_trans (fr_mono f1 (by omega)) (fr_mono f2 (by omega))
  refine t_X10_found (by constructor <;> omega) (fun c => h2 e0 c σ2 F2 fr2) (fun c => h0 e0 c σ2 F2 fr2)
theorem t_X10_widestLoadByTrial {a b : Int} (hF : fa_ B σ v) (ha : bc_in a) (hb : bc_in b) (h1 : ∀ e : Nat, pf_ a b = e + 1 → X e σ) (h2 : pf_ a b = 0 → wt1_ (c_r v) a b 0 → X 3 σ) (h0 : pf_ a b = 0 → ∀ x, wt1_ (c_r v) a b x → x ≠ 0 → Rr (some (bc_I x)) σ) : bc_Sem g (d + 5) mX10_widestLoadByTrial [bc_R 0, bc_I a, bc_I b] σ Rr X := by
  refine e_X10_widestLoadByTrial rfl (fun K hK => ?_)
  refine hK.1 [] 60 _ _ _ _ _ ?_
  refine t_X10_pairFault ha hb ?_
  have hl := pf_le a b
  refine t_X10_refuse hl.1 (by omega) (fun e0 => ?_) h1
  refine t_X10_widestByTrial hF (fun x hx => ?_)
  have := wt1_le hx
  refine t_X10_found (by constructor <;> omega) (fun c => h2 e0 (by rw [← c]; exact hx)) (fun c => h0 e0 x hx c)
theorem la_le (r : rw_t) (s a b : Int) : ∀ n : Nat, 0 ≤ la_ r s a b n ∧ la_ r s a b n ≤ n := by
  intro n
  induction n with
  | zero => exact ⟨Int.le_refl _, Int.le_refl _⟩
  | succ n ih =>
    unfold la_
    split <;> omega
theorem t_X10_affordableLoad {a b : Int} (hF : fa_ B σ v) (hB : B ≤ 1000000) (ha : bc_in a) (hb : bc_in b) (h1 : ∀ e : Nat, pf_ a b = e + 1 → X e σ) (h2 : pf_ a b = 0 → la_ (c_r v) ((c_r v) 1) a b 99 = 0 → ∀ σ', fa_ B σ' v → fr_ ob_ σ σ' → X 3 σ') (h0 : pf_ a b = 0 → la_ (c_r v) ((c_r v) 1) a b 99 ≠ 0 → ∀ σ', fa_ B σ' v → fr_ ob_ σ σ' → Rr (some (bc_I (la_ (c_r v) ((c_r v) 1) a b 99))) σ') : bc_Sem g (d + 5) mX10_affordableLoad [bc_R 0, bc_I a, bc_I b] σ Rr X := by
  have ls := (wt_le hF.1.1.2.2.2).2.1
  have e1 : σ.1 11 ((1 : Nat) : Int) = (c_r v) 1 := hF.1.1.1.2.2.1.2.1
  rw [← e1] at h2 h0
  refine e_X10_affordableLoad rfl (fun K hK => ?_)
  refine hK.1 [] 60 _ _ _ _ _ ?_
  refine t_X10_pairFault ha hb ?_
  have hl := pf_le a b
  refine t_X10_refuse hl.1 (by omega) (fun e0 => ?_) h1
  obtain ⟨q1, q2, -⟩ := pf_0 e0
  have hla := la_le (c_r v) (σ.1 11 ((1 : Nat) : Int)) a b 99
  refine t_X4_loadByWays hF.1.1.1.1 hF.1.1.2.1 (by rw [e1]; constructor <;> omega) q1.1 q1.2 q2.1 q2.2 (fun σ1 f1 => ?_)
  have F1 := fa_x hF f1 (by omega)
  refine t_X10_found (by constructor <;> omega) (fun c => h2 e0 c σ1 F1 (fr_mono f1 (by omega))) (fun c => h0 e0 c σ1 F1 (fr_mono f1 (by omega)))
theorem t_X10_affordableLoadByTable {a b : Int} (hF : fa_ B σ v) (hB : B ≤ 1000000) (ha : bc_in a) (hb : bc_in b) (h1 : ∀ e : Nat, pf_ a b = e + 1 → X e σ) (h2 : pf_ a b = 0 → tb_ (c_r v) ((c_r v) 1) a b = 0 → ∀ σ', fa_ B σ' v → fr_ ob_ σ σ' → X 3 σ') (h0 : pf_ a b = 0 → tb_ (c_r v) ((c_r v) 1) a b ≠ 0 → ∀ σ', fa_ B σ' v → fr_ ob_ σ σ' → Rr (some (bc_I (tb_ (c_r v) ((c_r v) 1) a b))) σ') : bc_Sem g (d + 5) mX10_affordableLoadByTable [bc_R 0, bc_I a, bc_I b] σ Rr X := by
  have ls := (wt_le hF.1.1.2.2.2).2.1
  have e1 : σ.1 11 ((1 : Nat) : Int) = (c_r v) 1 := hF.1.1.1.2.2.1.2.1
  rw [← e1] at h2 h0
  refine e_X10_affordableLoadByTable rfl (fun K hK => ?_)
  refine hK.1 [] 60 _ _ _ _ _ ?_
  refine t_X10_pairFault ha hb ?_
  have hl := pf_le a b
  refine t_X10_refuse hl.1 (by omega) (fun e0 => ?_) h1
  obtain ⟨q1, q2, -⟩ := pf_0 e0
  refine t_X4_fillTable hF.1.1.1.1 hF.1.1.2.1 (by rw [e1]; constructor <;> omega) (fun σ1 p1 l1 f1 => ?_)
  have F1 := fa_x hF f1 (by omega)
  have y := p1 a b q1.1 q1.2 q2.1 q2.2
  have ly := l1 a b q1.1 q1.2 q2.1 q2.2
  have yy : bc_in (σ1.1 186 (((8 : Nat) : Int) * a + b)) := by constructor <;> omega
  rw [← y] at h2 h0
  refine bc_ob_i (by omega) ?_
  refine bc_ob_i (by omega) ?_
  refine t_X10_found yy (fun c => h2 e0 c σ1 F1 (fr_mono f1 (by omega))) (fun c => h0 e0 c σ1 F1 (fr_mono f1 (by omega)))
end FAC
