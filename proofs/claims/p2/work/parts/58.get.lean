/-! a member told; the agreements -/
/-- on every pair of joints the two widest ways and the two affordable loads agree -/
def aw_ (r : rw_t) : Prop := ∀ a b : Int, 0 ≤ a → a < 8 → 0 ≤ b → b < 8 → a ≠ b → wt1_ r a b (wb_ (sa_ r) a b) ∧ la_ r (r 1) a b 99 = tb_ r (r 1) a b
def ac_ (r : rw_t) : Prop := ∀ m : Int, 0 ≤ m → m < r 3 → cq_ r m = cr1_ r m
theorem wt1_u {r : rw_t} {a b x y : Int} (hx : wt1_ r a b x) (hy : wt1_ r a b y) : x = y := by
  rcases hx with ⟨x0, x1⟩ | ⟨x0, x1, x2⟩ <;> rcases hy with ⟨y0, y1⟩ | ⟨y0, y1, y2⟩
  · omega
  · exact absurd y1 (x1 y (by omega) (by omega))
  · exact absurd x1 (y1 x (by omega) (by omega))
  · have h1 : ¬ x < y := fun q => x2 y q (by omega) y1
    have h2 : ¬ y < x := fun q => y2 x q (by omega) x1
    omega
section FAC
variable {g : bc_C} {d : Nat} {σ : bc_M} {B : Int} {v : cs_t} {Rr : Option bc_A → bc_M → Prop} {X : Nat → bc_M → Prop}
theorem t_X10_renderMember {m : Int} (hF : fa_ B σ v) (hm : bc_in m) (h1 : ix_ (c_r v) m = 1 → X 0 σ) (h0 : 0 ≤ m → m < (c_r v) 3 → ∀ σ', fa_ B σ' (u_o v (om_ (c_r v) m)) → fr_ ob_ σ σ' → Rr (some (bc_I ((om_ (c_r v) m).length))) σ') : bc_Sem g (d + 3) mX10_renderMember [bc_R 0, bc_I m] σ Rr X := by
  have w0 := hF.1.1.2.1.1
  refine e_X10_renderMember rfl (fun K hK => ?_)
  refine hK.1 [] 100 _ _ _ _ _ ?_
  refine t_X10_indexFault hF hm ?_
  have hl := ix_le (c_r v) m
  refine t_X10_refuse hl.1 hl.2 (fun e0 => ?_) (fun e he => ?_)
  · have hp : 0 ≤ m ∧ m < (c_r v) 3 := by unfold ix_ at e0; split at e0 <;> omega
    have key : ∀ σ', fr_ ot_ σ σ' → (σ'.1 3 m = (c_r v) (16 + 6 * m) ∧ σ'.1 4 m = (c_r v) (17 + 6 * m) ∧ σ'.1 5 m = (c_r v) (18 + 6 * m) ∧ σ'.1 6 m = (c_r v) (19 + 6 * m) ∧ σ'.1 7 m = (c_r v) (20 + 6 * m) ∧ σ'.1 8 m = (c_r v) (21 + 6 * m)) := fun σ' f => by
      have q := (st_M1 hF.1.1.1.1).2 m hp.1 (by omega)
      rw [f.1 3 (by decide), f.1 4 (by decide), f.1 5 (by decide), f.1 6 (by decide), f.1 7 (by decide), f.1 8 (by decide)]
      exact q
    obtain ⟨g1, g2, g3, g4, g5, g6⟩ := hF.1.1.2.1.2 m hp.1 (by omega)
    have fin : ∀ σ', fr_ ot_ σ σ' → tx_ σ' 216 (om_ (c_r v) m) → Rr (some (bc_I (σ'.1 216 ((1 : Nat) : Int)))) σ' := fun σ' f t => rt_ (h0 hp.1 hp.2 σ' (fa_o hF f (by omega) t) (fr_mono f (by omega))) t.1
    unfold om_ at fin
    refine t_X7_clear (.inr rfl) hF.2.2.2.2.2.2.1 (fun s1 t1 f1 => ?_)
    have F1 : fr_ ot_ σ s1 := fr_mono f1 (by omega)
    refine t_X7_appendNumber (.inr rfl) t1 (by omega) (fun s2 t2 f2 => ?_)
    have F2 : fr_ ot_ σ s2 := fr_trans F1 (fr_mono f2 (by omega))
    refine t_X7_append (.inr rfl) t2 (by decide) (fun s3 t3 f3 => ?_)
    have F3 : fr_ ot_ σ s3 := fr_trans F2 (fr_mono f3 (by omega))
    obtain ⟨y1, -⟩ := key s3 F3
    rw [← y1] at fin
    refine bc_ob_i (by omega) ?_
    refine t_X7_appendNumber (.inr rfl) t3 (by omega) (fun s4 t4 f4 => ?_)
    have F4 : fr_ ot_ σ s4 := fr_trans F3 (fr_mono f4 (by omega))
    refine t_X7_append (.inr rfl) t4 (by decide) (fun s5 t5 f5 => ?_)
    have F5 : fr_ ot_ σ s5 := fr_trans F4 (fr_mono f5 (by omega))
    obtain ⟨-, y2, -⟩ := key s5 F5
    rw [← y2] at fin
    refine bc_ob_i (by omega) ?_
    refine t_X7_appendNumber (.inr rfl) t5 (by omega) (fun s6 t6 f6 => ?_)
    have F6 : fr_ ot_ σ s6 := fr_trans F5 (fr_mono f6 (by omega))
    refine t_X7_append (.inr rfl) t6 (by decide) (fun s7 t7 f7 => ?_)
    have F7 : fr_ ot_ σ s7 := fr_trans F6 (fr_mono f7 (by omega))
    obtain ⟨-, -, y3, -⟩ := key s7 F7
    rw [← y3] at fin
    refine bc_ob_i (by omega) ?_
    refine t_X7_appendNumber (.inr rfl) t7 (by omega) (fun s8 t8 f8 => ?_)
    have F8 : fr_ ot_ σ s8 := fr_trans F7 (fr_mono f8 (by omega))
    refine t_X7_append (.inr rfl) t8 (by decide) (fun s9 t9 f9 => ?_)
    have F9 : fr_ ot_ σ s9 := fr_trans F8 (fr_mono f9 (by omega))
    obtain ⟨-, -, -, y4, -⟩ := key s9 F9
    rw [← y4] at fin
    refine bc_ob_i (by omega) ?_
    refine t_X7_appendNumber (.inr rfl) t9 (by omega) (fun sa ta fa => ?_)
    have FA : fr_ ot_ σ sa := fr_trans F9 (fr_mono fa (by omega))
    refine t_X7_append (.inr rfl) ta (by decide) (fun sb tb fb => ?_)
    have FB : fr_ ot_ σ sb := fr_trans FA (fr_mono fb (by omega))
    obtain ⟨-, -, -, -, y5, -⟩ := key sb FB
    rw [← y5] at fin
    refine bc_ob_i (by omega) ?_
    refine t_X7_appendNumber (.inr rfl) tb (by omega) (fun sc tc fc => ?_)
    have FC : fr_ ot_ σ sc := fr_trans FB (fr_mono fc (by omega))
    obtain ⟨-, -, -, -, -, y6⟩ := key sc FC
    refine bc_ob_i (by omega) ?_
    refine bc_ob_i (by omega) ?_
    refine bc_br_i (fun c => ?_) (fun c => ?_)
    · rw [if_pos (by omega)] at fin
      exact fin sc FC tc
    · rw [if_neg (by omega)] at fin
      refine t_X7_append (.inr rfl) tc (by decide) (fun sd td fd => ?_)
      exact fin sd (fr_trans FC (fr_mono fd (by omega))) td
  · have he1 : e = 0 ∧ ix_ (c_r v) m = 1 := by unfold ix_ at he ⊢; split at he <;> split <;> omega
    rw [he1.1]
    exact h1 he1.2
theorem t_X10_criticalMembersAgree (hF : fa_ B σ v) (h1 : ac_ (c_r v) → ∀ σ', fa_ B σ' v → fr_ ob_ σ σ' → Rr (some (bc_I 1)) σ') (h0 : ¬ ac_ (c_r v) → ∀ σ', fa_ B σ' v → fr_ ob_ σ σ' → Rr (some (bc_I 0)) σ') : bc_Sem g (d + 8 + 4) mX10_criticalMembersAgree [bc_R 0] σ Rr X := by
  have w0 := hF.1.1.2.1.1
  refine e_X10_criticalMembersAgree rfl (fun K hK => ?_)
  have L : ∀ i : Int, ∀ σ', 0 ≤ i → i ≤ (c_r v) 3 → (∀ m : Int, 0 ≤ m → m < i → cq_ (c_r v) m = cr1_ (c_r v) m) → fa_ B σ' v → fr_ ob_ σ σ' → K 2 [(0, bc_R 0), (1, bc_I i)] [] σ' 0 := by
    refine up_ind ((c_r v) 3) (fun i hi σ' i0 i1 ha F1 f1 => ?_) (fun i hi ih σ' i0 i1 ha F1 f1 => ?_)
    · have e3 : σ'.1 2 ((0 : Nat) : Int) = (c_r v) 3 := F1.1.1.1.1.1
      refine hK.1 [2] 60 _ _ _ _ _ ?_
      refine bc_ob_i (by omega) ?_
      refine bc_br_i (fun c => by omega) (fun _ => ?_)
      refine bc_ob_i (by decide) ?_
      exact h1 (fun m m0 m1 => ha m m0 (by omega)) σ' F1 f1
    · have e3 : σ'.1 2 ((0 : Nat) : Int) = (c_r v) 3 := F1.1.1.1.1.1
      have l1 := cq_le (c_r v) i
      have l2 := cr1_le (c_r v) i
      refine hK.1 [2] 60 _ _ _ _ _ ?_
      refine bc_ob_i (by omega) ?_
      refine bc_br_i (fun _ => ?_) (fun c => by omega)
      refine t_X10_criticalBySearch F1 i0 hi (fun σ2 F2 f2 => ?_)
      refine t_X10_criticalByRemoval F2 i0 hi ?_
      refine bc_ob_i (by omega) ?_
      refine bc_br_i (fun c => ?_) (fun c => ?_)
      · refine ih σ2 (by omega) (by omega) (fun m m0 m1 => ?_) F2 (fr_trans f1 f2)
        by_cases e : m = i
        · rw [e]; exact c
        · exact ha m m0 (by omega)
      · refine bc_ob_i (by decide) ?_
        exact h0 (fun q => c (q i i0 hi)) σ2 F2 (fr_trans f1 f2)
  refine hK.1 [2] 40 _ _ _ _ _ ?_
  exact L 0 σ (by omega) w0.1 (fun m m0 m1 => by omega) hF (fr_refl _)
theorem t_X10_waysAgree (hF : fa_ B σ v) (hB : B ≤ 1000000) (h1 : aw_ (c_r v) → ∀ σ', fa_ B σ' v → fr_ ob_ σ σ' → Rr (some (bc_I 1)) σ') (h0 : ¬ aw_ (c_r v) → ∀ σ', fa_ B σ' v → fr_ ob_ σ σ' → Rr (some (bc_I 0)) σ') : bc_Sem g (d + 5) mX10_waysAgree [bc_R 0] σ Rr X := by
  have ls := (wt_le hF.1.1.2.2.2).2.1
  have e1 : σ.1 11 ((1 : Nat) : Int) = (c_r v) 1 := hF.1.1.1.2.2.1.2.1
  unfold aw_ at h1 h0
  rw [← e1] at h1 h0 ls
  obtain ⟨s, hs⟩ : ∃ s, s = σ.1 11 ((1 : Nat) : Int) := ⟨_, rfl⟩
  rw [← hs] at h1 h0 ls
  have hin : bc_in s := by constructor <;> omega
  refine e_X10_waysAgree rfl (fun K hK => ?_)
  have L : ∀ i : Int, ∀ σ' (z : bc_LV), 0 ≤ i → i ≤ 8 → (∀ a b : Int, 0 ≤ a → a < i → 0 ≤ b → b < 8 → a ≠ b → wt1_ (c_r v) a b (wb_ (sa_ (c_r v)) a b) ∧ la_ (c_r v) s a b 99 = tb_ (c_r v) s a b) → sv_ σ' 158 (sa_ (c_r v)) → sv_ σ' 186 (tb_ (c_r v) s) → gl_ (tb_ (c_r v) s) 99 → fa_ B σ' v → fr_ ob_ σ σ' → K 38 ([(0, bc_R 0), (1, bc_R 2), (2, bc_I s), (3, bc_I i)] ++ z) [] σ' 0 := by
    refine up_ind 8 (fun i hi σ' z i0 i1 ha p1 p2 l2 F1 f1 => ?_) (fun i hi ih σ' z i0 i1 ha p1 p2 l2 F1 f1 => ?_)
    · refine hK.2 _ _ [(0, bc_R 0), (1, bc_R 2), (2, bc_I s), (3, bc_I i)] _ _ _ (ls_ _ _) ?_
      refine hK.1 [38] 60 _ _ _ _ _ ?_
      refine bc_ob_i (by omega) ?_
      refine bc_br_i (fun c => by omega) (fun _ => ?_)
      refine bc_ob_i (by decide) ?_
      exact h1 (fun a b a0 a1 b0 b1 ab => ha a b a0 (by omega) b0 b1 ab) σ' F1 f1
    · refine hK.2 _ _ [(0, bc_R 0), (1, bc_R 2), (2, bc_I s), (3, bc_I i)] _ _ _ (ls_ _ _) ?_
      have L0 : ∀ j : Int, ∀ σ', 0 ≤ j → j ≤ 8 → (∀ b : Int, 0 ≤ b → b < j → i ≠ b → wt1_ (c_r v) i b (wb_ (sa_ (c_r v)) i b) ∧ la_ (c_r v) s i b 99 = tb_ (c_r v) s i b) → sv_ σ' 158 (sa_ (c_r v)) → sv_ σ' 186 (tb_ (c_r v) s) → fa_ B σ' v → fr_ ob_ σ σ' → K 47 [(0, bc_R 0), (1, bc_R 2), (2, bc_I s), (3, bc_I i), (4, bc_I j)] [] σ' 0 := by
        refine up_ind 8 (fun j hj σ' j0 j1 hb p1 p2 F1 f1 => ?_) (fun j hj jh σ' j0 j1 hb p1 p2 F1 f1 => ?_)
        · refine hK.1 [38, 47] 60 _ _ _ _ _ ?_
          refine bc_ob_i (by omega) ?_
          refine bc_br_i (fun c => by omega) (fun _ => ?_)
          refine ih σ' [(4, bc_I j)] (by omega) (by omega) (fun a b a0 a1 b0 b1 ab => ?_) p1 p2 l2 F1 f1
          by_cases e : a = i
          · rw [e] at ab ⊢; exact hb b b0 (by omega) ab
          · exact ha a b a0 (by omega) b0 b1 ab
        · have nxt : ∀ σ', (i ≠ j → wt1_ (c_r v) i j (wb_ (sa_ (c_r v)) i j) ∧ la_ (c_r v) s i j 99 = tb_ (c_r v) s i j) → sv_ σ' 158 (sa_ (c_r v)) → sv_ σ' 186 (tb_ (c_r v) s) → fa_ B σ' v → fr_ ob_ σ σ' → K 47 [(0, bc_R 0), (1, bc_R 2), (2, bc_I s), (3, bc_I i), (4, bc_I (j + 1))] [] σ' 0 := fun σ' q p1 p2 F1 f1 => by
            refine jh σ' (by omega) (by omega) (fun b b0 b1 ib => ?_) p1 p2 F1 f1
            by_cases e : b = j
            · rw [e] at ib ⊢; exact q ib
            · exact hb b b0 (by omega) ib
          have hw := wb_le (sa_le hF.1.1.2.1) i0 hi j0 hj
          refine hK.1 [38, 47] 60 _ _ _ _ _ ?_
          refine bc_ob_i (by omega) ?_
          refine bc_br_i (fun _ => ?_) (fun c => by omega)
          refine bc_ob_i (by omega) ?_
          refine bc_br_i (fun c => nxt σ' (fun q => absurd c q) p1 p2 F1 f1) (fun ij => ?_)
          refine t_X9_widestByGrowing p1 (sa_le hF.1.1.2.1) i0 hi j0 hj (fun σ2 f2 => ?_)
          have F2 := fa_x F1 f2 (by omega)
          refine t_X10_widestByTrial F2 (fun x hx => ?_)
          have lx := wt1_le hx
          refine bc_ob_i (by omega) ?_
          refine bc_br_i (fun c => ?_) (fun c => ?_)
          · refine t_X4_loadByWays F2.1.1.1.1 F2.1.1.2.1 hin i0 hi j0 hj (fun σ3 f3 => ?_)
            have F3 := fa_x F2 f3 (by omega)
            have fr3 : fr_ ob_ σ σ3 := fr_trans f1 (fr_trans (fr_mono f2 (by omega)) (fr_mono f3 (by omega)))
            have p13 : sv_ σ3 158 (sa_ (c_r v)) := sv_fr (sv_fr p1 f2 (by decide)) f3 (by decide)
            have p23 : sv_ σ3 186 (tb_ (c_r v) s) := sv_fr (sv_fr p2 f2 (by decide)) f3 (by decide)
            have y := p23 i j i0 hi j0 hj
            have ly := l2 i j i0 hi j0 hj
            have yy : bc_in (σ3.1 186 (((8 : Nat) : Int) * i + j)) := by constructor <;> omega
            have lla := la_le (c_r v) s i j 99
            refine bc_ob_i (by omega) ?_
            refine bc_ob_i (by omega) ?_
            refine bc_ob_i ⟨by constructor <;> omega, yy⟩ ?_
            refine bc_br_i (fun c2 => ?_) (fun c2 => ?_)
            · have c2' : la_ (c_r v) s i j 99 = σ3.1 186 (((8 : Nat) : Int) * i + j) := c2
              exact nxt σ3 (fun _ => ⟨by rw [c]; exact hx, by rw [c2', y]⟩) p13 p23 F3 fr3
            · have c2' : ¬ la_ (c_r v) s i j 99 = σ3.1 186 (((8 : Nat) : Int) * i + j) := c2
              refine bc_ob_i (by decide) ?_
              exact h0 (fun q => c2' (by rw [y]; exact (q i j i0 hi j0 hj ij).2)) σ3 F3 fr3
          · refine bc_ob_i (by decide) ?_
            refine h0 (fun q => c ?_) σ2 F2 (fr_trans f1 (fr_mono f2 (by omega)))
            exact wt1_u (q i j i0 hi j0 hj ij).1 hx
      refine hK.1 [38, 47] 60 _ _ _ _ _ ?_
      refine bc_ob_i (by omega) ?_
      refine bc_br_i (fun _ => ?_) (fun c => by omega)
      exact L0 0 σ' (by omega) (by omega) (fun b b0 b1 => by omega) p1 p2 F1 f1
  subst hs
  refine hK.1 [38] 40 _ _ _ _ _ ?_
  refine t_X9_survey hF.1.1.1.1 hF.1.1.2.1 (fun σ1 p1 f1 => ?_)
  have F1 := fa_x hF f1 (by omega)
  refine t_X4_fillTable F1.1.1.1.1 F1.1.1.2.1 hin (fun σ2 p2 l2 f2 => ?_)
  exact L 0 σ2 [] (by omega) (by omega) (fun a b a0 a1 b0 b1 ab => by omega) (sv_fr p1 f2 (by decide)) p2 l2 (fa_x F1 f2 (by omega)) (fr_trans (fr_mono f1 (by omega)) (fr_mono f2 (by omega)))
/-- what isConsistent asks -/
def ak1_ (r : rw_t) : Prop := aw_ r ∧ ac_ r ∧ ((∀ a : Int, 1 ≤ a → a ≤ 50 → 0 ≤ sp_ r (r 0 + a)) ↔ ∀ k : Int, 0 ≤ k → k < r 4 → 0 ≤ sp_ r (r (113 + 3 * k)))
theorem t_X10_isConsistent (hF : fa_ B σ v) (hB : B ≤ 1000000) (h1 : ak1_ (c_r v) → ∀ σ', fa_ B σ' v → fr_ ob_ σ σ' → Rr (some (bc_I 1)) σ') (h0 : ¬ ak1_ (c_r v) → ∀ σ', fa_ B σ' v → fr_ ob_ σ σ' → Rr (some (bc_I 0)) σ') : bc_Sem g (d + 8 + 5) mX10_isConsistent [bc_R 0] σ Rr X := by
  refine e_X10_isConsistent rfl (fun K hK => ?_)
  refine hK.1 [] 60 _ _ _ _ _ ?_
  have stop : ∀ σ', ¬ ak1_ (c_r v) → fa_ B σ' v → fr_ ob_ σ σ' → bc_ob (0 ≤ (0 : Int) ∧ (0 : Int) ≤ 1) (Rr (some (bc_I 0)) σ') := fun σ' q F f => bc_ob_i (by decide) (h0 q σ' F f)
  refine t_X10_waysAgree hF hB (fun q1 σ1 F1 f1 => ?_) (fun q1 σ1 F1 f1 => ?_)
  · refine bc_ob_i (by decide) ?_
    refine bc_br_i (fun c => absurd c (by decide)) (fun _ => ?_)
    refine t_X10_criticalMembersAgree F1 (fun q2 σ2 F2 f2 => ?_) (fun q2 σ2 F2 f2 => ?_)
    · refine bc_ob_i (by decide) ?_
      refine bc_br_i (fun c => absurd c (by decide)) (fun _ => ?_)
      have f12 := fr_trans f1 f2
      refine t_X8_keepsAllDayByDay F2.1.1.1.2.2 F2.1.1.2.2.2 hB (fun x hx => ?_)
      refine t_X8_keepsAllBySums F2.1.1.1.2.2 F2.1.1.2.2.2 hB (fun y hy => ?_)
      refine bc_ob_i (by rcases hx with ⟨hx, -⟩ | ⟨hx, -⟩ <;> rcases hy with ⟨hy, -⟩ | ⟨hy, -⟩ <;> (constructor <;> constructor <;> omega)) ?_
      refine bc_br_i (fun c => ?_) (fun c => ?_)
      · have ag : ak1_ (c_r v) := by
          refine ⟨q1, q2, ?_⟩
          rcases hx with ⟨hx, kx⟩ | ⟨hx, a, a0, a1, kx⟩ <;> rcases hy with ⟨hy, ky⟩ | ⟨hy, b, b0, b1, ky⟩
          · exact ⟨fun _ => ky, fun _ => kx⟩
          · omega
          · omega
          · exact ⟨fun q => absurd (q a a0 a1) (by omega), fun q => absurd (q b b0 b1) (by omega)⟩
        have es : σ2.1 11 ((1 : Nat) : Int) = (c_r v) 1 := F2.1.1.1.2.2.1.2.1
        have ls := (wt_le F2.1.1.2.2.2).2.1
        refine t_X8_accountedSteel F2.1.1.1.2.2 F2.1.1.2.2.2 ?_
        refine bc_ob_i (by constructor <;> constructor <;> omega) ?_
        refine bc_br_i (fun c => ?_) (fun c => absurd es c)
        refine bc_ob_i (by decide) ?_
        exact h1 ag σ2 F2 f12
      · refine stop σ2 (fun q => c ?_) F2 f12
        rcases hx with ⟨hx, kx⟩ | ⟨hx, a, a0, a1, kx⟩ <;> rcases hy with ⟨hy, ky⟩ | ⟨hy, b, b0, b1, ky⟩
        · omega
        · exact absurd (q.2.2.mp kx b b0 b1) (by omega)
        · exact absurd (q.2.2.mpr ky a a0 a1) (by omega)
        · omega
    · refine bc_ob_i (by decide) ?_
      refine bc_br_i (fun _ => ?_) (fun c => absurd rfl c)
      exact stop σ2 (fun q => q2 q.2.1) F2 (fr_trans f1 f2)
  · refine bc_ob_i (by decide) ?_
    refine bc_br_i (fun _ => ?_) (fun c => absurd rfl c)
    exact stop σ1 (fun q => q1 q.1) F1 f1
end FAC
