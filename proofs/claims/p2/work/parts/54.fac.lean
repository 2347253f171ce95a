/-! a procession; undo, save, restore -/
def wl_ (f : Int) (J : Int → Int) (r : rw_t) : Nat → rw_t → Prop
  | 0, r' => r' = r
  | n + 1, r' => ∃ (q : rw_t) (x : Int), wl_ f J r n q ∧ bt_ q (J n) (J ((n : Int) + 1)) x ∧ r' = if x = -1 then q else rd_ q x f
theorem fa_rh {P : Nat → Prop} {B : Int} {σ σ' : bc_M} {v : cs_t} {n : Int} {h' : List rw_t} {r : rw_t} (h : fa_ B σ v) (hf : fr_ P σ σ') (hp : ∀ k, P k → xs_ k ∨ (2 ≤ k ∧ k ≤ 14) ∨ k = 43) (hr : st_A B σ' 1 r) (hh : st_H B σ' n h') : fa_ B σ' (u_h (u_r v r) h' n) := by
  have no : ∀ k, ¬ (xs_ k ∨ (2 ≤ k ∧ k ≤ 14) ∨ k = 43) → ¬ P k := fun k hk q => hk (hp k q)
  obtain ⟨⟨h1, h2, h3, h4⟩, ⟨h5, h5b⟩, ⟨h6, h6b⟩, h7, ⟨h8, h8b⟩, ⟨h9, h9b⟩, h10, ⟨h11, h11b⟩, ⟨h12, h12b⟩, h13, h13b⟩ := h
  refine ⟨⟨hr, st_A_fr h2 hf (fun k a b => no k (by omega)), st_A_fr h3 hf (fun k a b => no k (by omega)), hh⟩, ⟨ar_fr h5 hf (no _ (by decide)), h5b⟩, ⟨?_, h6b⟩, tx_fr h7 hf ⟨no _ (by decide), no _ (by decide)⟩, ⟨ak_fr h8 hf (no _ (by decide)), h8b⟩, ⟨s3_fr h9 hf (no _ (by decide)), h9b⟩, tx_fr h10 hf ⟨no _ (by decide), no _ (by decide)⟩, ⟨?_, h11b⟩, ⟨?_, h12b⟩, ?_, h13b⟩
  · rw [hf.1 157 (no _ (by decide))]; exact h6
  · rw [hf.1 0 (no _ (by decide))]; exact h11
  · rw [hf.1 0 (no _ (by decide))]; exact h12
  · rw [hf.1 0 (no _ (by decide))]; exact h13
/-- snapshot, the state before a script, the marks -/
theorem fa_c {P : Nat → Prop} {B : Int} {σ σ' : bc_M} {v : cs_t} {s b : rw_t} {hs le lf : Int} (h : fa_ B σ v) (hf : fr_ P σ σ') (hp : ∀ k, P k → xs_ k ∨ (16 ≤ k ∧ k ≤ 28) ∨ (30 ≤ k ∧ k ≤ 42) ∨ k = 0) (hs1 : st_A B σ' 15 s) (hb1 : st_A B σ' 29 b) (e1 : σ'.1 0 ((9 : Nat) : Int) = hs ∧ 0 ≤ hs ∧ hs ≤ 1) (e2 : σ'.1 0 ((10 : Nat) : Int) = le ∧ -1 ≤ le ∧ le ≤ 60) (e3 : σ'.1 0 ((11 : Nat) : Int) = lf ∧ -1 ≤ lf ∧ lf ≤ 15) : fa_ B σ' (u_lf (u_le (u_hs (u_bs (u_sn v s) b) hs) le) lf) := by
  have no : ∀ k, ¬ (xs_ k ∨ (16 ≤ k ∧ k ≤ 28) ∨ (30 ≤ k ∧ k ≤ 42) ∨ k = 0) → ¬ P k := fun k hk q => hk (hp k q)
  obtain ⟨⟨h1, h2, h3, h4⟩, ⟨h5, h5b⟩, ⟨h6, h6b⟩, h7, ⟨h8, h8b⟩, ⟨h9, h9b⟩, h10, ⟨h11, h11b⟩, ⟨h12, h12b⟩, h13, h13b⟩ := h
  refine ⟨⟨st_A_fr h1 hf (fun k a b => no k (by omega)), hs1, hb1, st_H_fr h4 hf (fun k a b => no k (by omega))⟩, ⟨ar_fr h5 hf (no _ (by decide)), h5b⟩, ⟨?_, h6b⟩, tx_fr h7 hf ⟨no _ (by decide), no _ (by decide)⟩, ⟨ak_fr h8 hf (no _ (by decide)), h8b⟩, ⟨s3_fr h9 hf (no _ (by decide)), h9b⟩, tx_fr h10 hf ⟨no _ (by decide), no _ (by decide)⟩, e1, e2, e3⟩
  rw [hf.1 157 (no _ (by decide))]; exact h6
section FAC
variable {g : bc_C} {d : Nat} {σ : bc_M} {B : Int} {v : cs_t} {Rr : Option bc_A → bc_M → Prop} {X : Nat → bc_M → Prop}
/-- the object after a walk -/
abbrev wv1_ (v : cs_t) (a b : Int) (r' : rw_t) : cs_t := u_r (u_J v (fz_ (sa_ (c_r v)) a b (c_J v)).1 (fz_ (sa_ (c_r v)) a b (c_J v)).2) r'
abbrev wz_ (v : cs_t) (a b n : Int) (r' : rw_t) : Prop := wl_ (n + tw_ (c_r v)) (fz_ (sa_ (c_r v)) a b (c_J v)).1 (c_r v) (fz_ (sa_ (c_r v)) a b (c_J v)).2.toNat r'
theorem t_X10_walk {a b n : Int} (hF : fa_ B σ v) (a0 : 0 ≤ a) (a1 : a < 8) (b0 : 0 ≤ b) (b1 : b < 8) (hn : 1 ≤ n ∧ n ≤ 99) (h : ∀ (σ' : bc_M) (r' : rw_t), wz_ v a b n r' → fa_ B σ' (wv1_ v a b r') → fr_ ob_ σ σ' → Rr (some (bc_I (fz_ (sa_ (c_r v)) a b (c_J v)).2)) σ') : bc_Sem g (d + 4) mX10_walk [bc_R 0, bc_I a, bc_I b, bc_I n] σ Rr X := by
  have w1 := hF.1.1.2.1
  have w2 := hF.1.1.2.2.1
  have tw : 0 ≤ tw_ (c_r v) ∧ tw_ (c_r v) ≤ 80 := by
    have := w2
    unfold wf_N at this
    unfold tw_
    omega
  have lz : lm_ (fz_ (sa_ (c_r v)) a b (c_J v)).1 7 ∧ 0 ≤ (fz_ (sa_ (c_r v)) a b (c_J v)).2 ∧ (fz_ (sa_ (c_r v)) a b (c_J v)).2 ≤ 7 := by
    unfold fz_
    split
    · exact ⟨hF.2.1.2, by show 0 ≤ (0 : Int) ∧ (0 : Int) ≤ 7; decide⟩
    · exact jw_le hF.2.1.2 a0 a1 7 (Nat.le_refl _)
  refine e_X10_walk rfl (fun K hK => ?_)
  have L : ∀ i : Int, ∀ (z : bc_LV) (σ' : bc_M) (q : rw_t), 0 ≤ i → i ≤ (fz_ (sa_ (c_r v)) a b (c_J v)).2 → wl_ (n + tw_ (c_r v)) (fz_ (sa_ (c_r v)) a b (c_J v)).1 (c_r v) i.toNat q → fa_ B σ' (wv1_ v a b q) → fr_ ob_ σ σ' → K 45 ([(0, bc_R 0), (1, bc_I a), (2, bc_I b), (3, bc_I n), (4, bc_R 2), (5, bc_I (n + tw_ (c_r v))), (6, bc_I i)] ++ z) [] σ' 0 := by
    refine up_ind (fz_ (sa_ (c_r v)) a b (c_J v)).2 (fun i hi z σ' q h0 h1 h2 h3 h4 => ?_) (fun i hi ih z σ' q h0 h1 h2 h3 h4 => ?_)
    · refine hK.2 _ _ [(0, bc_R 0), (1, bc_I a), (2, bc_I b), (3, bc_I n), (4, bc_R 2), (5, bc_I (n + tw_ (c_r v))), (6, bc_I i)] _ _ _ (ls_ _ _) ?_
      have hm : σ'.1 157 ((5 : Nat) : Int) = (fz_ (sa_ (c_r v)) a b (c_J v)).2 := h3.2.2.1.1
      have e : i = (fz_ (sa_ (c_r v)) a b (c_J v)).2 := by omega
      rw [e] at h2
      refine hK.1 [45] 60 _ _ _ _ _ ?_
      refine bc_ob_i ⟨by constructor <;> omega, by rw [hm]; constructor <;> omega⟩ ?_
      refine bc_br_i (fun c => by rw [hm] at c; omega) (fun _ => ?_)
      exact rt_ (h σ' q h2 h3 h4) hm
    · refine hK.2 _ _ [(0, bc_R 0), (1, bc_I a), (2, bc_I b), (3, bc_I n), (4, bc_R 2), (5, bc_I (n + tw_ (c_r v))), (6, bc_I i)] _ _ _ (ls_ _ _) ?_
      have hm : σ'.1 157 ((5 : Nat) : Int) = (fz_ (sa_ (c_r v)) a b (c_J v)).2 := h3.2.2.1.1
      have hJ := h3.2.1.1
      have q1 : σ'.1 170 i = (fz_ (sa_ (c_r v)) a b (c_J v)).1 i := hJ i (by omega) (by omega)
      have q2 : σ'.1 170 (i + 1) = (fz_ (sa_ (c_r v)) a b (c_J v)).1 (i + 1) := hJ (i + 1) (by omega) (by omega)
      have l1 := lz.1 i (by omega) (by omega)
      have l2 := lz.1 (i + 1) (by omega) (by omega)
      have r1 : bc_in (σ'.1 170 i) := by rw [q1]; constructor <;> omega
      have r2 : bc_in (σ'.1 170 (i + 1)) := by rw [q2]; constructor <;> omega
      have ei : (i + 1).toNat = i.toNat + 1 := by omega
      have en : ((i.toNat : Nat) : Int) = i := by omega
      have step : ∀ x r', bt_ q ((fz_ (sa_ (c_r v)) a b (c_J v)).1 i) ((fz_ (sa_ (c_r v)) a b (c_J v)).1 (i + 1)) x → r' = (if x = -1 then q else rd_ q x (n + tw_ (c_r v))) → wl_ (n + tw_ (c_r v)) (fz_ (sa_ (c_r v)) a b (c_J v)).1 (c_r v) (i + 1).toNat r' := fun x r' hx hr => by
        rw [ei]
        exact ⟨q, x, h2, by rw [en]; exact hx, hr⟩
      refine hK.1 [45] 60 _ _ _ _ _ ?_
      refine bc_ob_i ⟨by constructor <;> omega, by rw [hm]; constructor <;> omega⟩ ?_
      refine bc_br_i (fun _ => ?_) (fun c => absurd hi (by rw [hm] at c; exact c))
      refine bc_ob_i (by constructor <;> constructor <;> omega) ?_
      refine bc_br_i (fun _ => ?_) (fun c => by omega)
      refine bc_ob_i (by omega) ?_
      refine bc_ob_i (by omega) ?_
      refine t_X2_between h3.1.1.1.1 h3.1.1.2.1 r1 r2 (fun x hx => ?_)
      rw [q1, q2] at hx
      change bt_ q _ _ x at hx
      have w0 : 0 ≤ q 3 ∧ q 3 ≤ 16 := h3.1.1.2.1.1
      refine bc_ob_i (by rcases hx with ⟨hx, -⟩ | ⟨hx, hx2, -⟩ <;> (constructor <;> constructor <;> omega)) ?_
      refine bc_br_i (fun c => ?_) (fun c => ?_)
      · exact ih [(7, bc_I x)] σ' q (by omega) (by omega) (step x q hx (if_pos c).symm) h3 h4
      · have hx2 : 0 ≤ x ∧ x < q 3 := by
          rcases hx with ⟨hx, -⟩ | ⟨hx, hx2, -⟩
          · exact absurd hx c
          · exact ⟨hx, hx2⟩
        obtain ⟨x1, x2, x3⟩ := rd_wf (m := x) (f := n + tw_ (c_r v)) h3.1.1.2.1 hx2.1 (by omega) (by omega)
        refine t_X2_wearDown h3.1.1.1.1 h3.1.1.2.1 hx2.1 (by omega) (by omega) (fun σ2 s2 f2 => ?_)
        have F2 := fa_r h3 (Int.le_refl _) f2 (by omega) (st_A_M h3.1.1 f2 (by omega) x2 x3 s2 x1)
        exact ih [(7, bc_I x)] σ2 _ (by omega) (by omega) (step x _ hx (if_neg c).symm) F2 (fr_trans h4 (fr_mono f2 (by omega)))
  refine hK.1 [45] 60 _ _ _ _ _ ?_
  refine t_X3_total hF.1.1.1.2.1 w2 ?_
  refine t_X9_survey hF.1.1.1.1 w1 (fun σ1 p1 f1 => ?_)
  have F1 := fa_x hF f1 (by omega)
  obtain ⟨-, ⟨hJ, lJ⟩, -⟩ := id F1
  refine t_X9_findBest p1 (sa_le w1) hJ lJ a0 a1 b0 b1 (fun σ2 f2 hJ2 hm2 => ?_)
  have F2 := fa_w F1 f2 (by omega) hJ2 lz.1 hm2 lz.2
  exact L 0 [] σ2 (c_r v) (Int.le_refl _) lz.2.1 rfl F2 (fr_trans (fr_mono f1 (by omega)) (fr_mono f2 (by omega)))
theorem t_X10_procession {a b n : Int} (hF : fa_ B σ v) (ha : bc_in a) (hb : bc_in b) (hn : bc_in n) (h1 : ∀ e : Nat, wq_ (c_r v) a b n = e + 1 → ∀ σ', fa_ B σ' v → fr_ ob_ σ σ' → X e σ') (h0 : wq_ (c_r v) a b n = 0 → ∀ σ' r', wz_ v a b n r' → fa_ B σ' (wv1_ (rm_ v) a b r') → fr_ ob_ σ σ' → Rr (some (bc_I (fz_ (sa_ (c_r v)) a b (c_J v)).2)) σ') : bc_Sem g (d + 5) mX10_procession [bc_R 0, bc_I a, bc_I b, bc_I n] σ Rr X := by
  refine e_X10_procession rfl (fun K hK => ?_)
  refine hK.1 [] 60 _ _ _ _ _ ?_
  refine t_X10_walkFault hF ha hb hn (fun σ1 F1 f1 => ?_)
  have hl := wq_le (c_r v) a b n
  refine t_X10_refuse hl.1 hl.2 (fun e0 => ?_) (fun e he => h1 e he σ1 F1 f1)
  have hp := pf_le a b
  have hq : pf_ a b = 0 ∧ 1 ≤ n ∧ n ≤ 99 := by
    unfold wq_ at e0
    split at e0
    · omega
    · split at e0 <;> omega
  obtain ⟨q1, q2, -⟩ := pf_0 hq.1
  refine t_rem F1 (fun σ2 F2 f2 => ?_)
  refine t_X10_walk F2 q1.1 q1.2 q2.1 q2.2 hq.2 (fun σ3 r' hz F3 f3 => ?_)
  exact h0 e0 σ3 r' hz F3 (fr_trans f1 (fr_trans f2 f3))
theorem t_X10_undo (hF : fa_ B σ v) (h1 : c_h v = [] → X 2 σ) (h0 : ∀ q t, c_h v = q :: t → ∀ σ', fa_ B σ' (u_h (u_r v q) t ((c_n v + 7) % 8)) → fr_ ob_ σ σ' → Rr (some (bc_I t.length)) σ') : bc_Sem g (d + 4) mX10_undo [bc_R 0] σ Rr X := by
  have hH := hF.1.2.2.2
  have hc := hH.2.2.1
  have hl := hH.2.2.2.1
  refine e_X10_undo rfl (fun K hK => ?_)
  refine hK.1 [] 60 _ _ _ _ _ ?_
  refine bc_ob_i (by rw [hc]; constructor <;> omega) ?_
  refine bc_br_i (fun c => ?_) (fun c => ?_)
  · rw [hc] at c
    refine t_X10_refuse (f := 3) (by decide) (by decide) (fun e => by omega) (fun e he => ?_)
    have ee : e = 2 := by omega
    subst ee
    exact h1 (List.length_eq_zero_iff.mp (by omega))
  · rw [hc] at c
    refine t_X10_refuse (f := 0) (by decide) (by decide) (fun _ => ?_) (fun e he => by omega)
    refine t_X1_takeBack hH (fun e => absurd (by rw [e]; rfl) c) (fun q t e σ1 H1 A1 f1 => ?_)
    refine rt_ (h0 q t e σ1 (fa_rh hF f1 (by omega) A1 H1) (fr_mono f1 (by omega))) H1.2.2.1
theorem t_X10_save (hF : fa_ B σ v) (h0 : ∀ σ', fa_ B σ' (u_hs (u_sn v (c_r v)) 1) → fr_ ob_ σ σ' → Rr (some (bc_I ((c_r v) 3))) σ') : bc_Sem g (d + 4) mX10_save [bc_R 0] σ Rr X := by
  obtain ⟨⟨k1, k2, k3, k4⟩, -, -, -, -, -, -, ⟨e1, e1b⟩, ⟨e2, e2b⟩, e3, e3b⟩ := id hF
  refine e_X10_save rfl (fun K hK => ?_)
  refine hK.1 [] 60 _ _ _ _ _ ?_
  refine t_X6_copyFrom (a := 15) (b := 1) (by unfold cp_; decide) k1 (fun σ1 A1 f1 => ?_)
  refine bc_ob_i (by decide) ?_
  have F2 : fr_ (fun k => (16 ≤ k ∧ k ≤ 28) ∨ k = 0) σ (bc_wr σ1 0 ((9 : Nat) : Int) 1) := fr_trans (fr_mono f1 (by omega)) (fr_wr (by omega))
  have z0 : σ1.1 0 = σ.1 0 := f1.1 0 (by omega)
  have F3 : fa_ B (bc_wr σ1 0 ((9 : Nat) : Int) 1) (u_hs (u_sn v (c_r v)) 1) := by
    refine fa_c (s := c_r v) (b := c_bs v) (hs := 1) (le := c_le v) (lf := c_lf v) hF F2 (by omega) (st_A_fr A1 (fr_wr (P := fun k => k = 0) rfl) (by omega)) (st_A_fr k3 F2 (by omega)) ⟨by simp [bc_wr], by decide, by decide⟩ ⟨?_, e2b⟩ ⟨?_, e3b⟩
    · have : σ.1 0 10 = c_le v := e2
      simp [bc_wr]
      rw [z0]
      exact this
    · have : σ.1 0 11 = c_lf v := e3
      simp [bc_wr]
      rw [z0]
      exact this
  refine rt_ (h0 _ F3 (fr_mono F2 (by omega))) ?_
  exact F3.1.1.1.1.1
theorem t_X10_restore (hF : fa_ B σ v) (h1 : c_hs v = 0 → X 2 σ) (h0 : c_hs v = 1 → ∀ σ', fa_ B σ' (u_h (u_r v (c_sn v)) [] (c_n v)) → fr_ ob_ σ σ' → Rr (some (bc_I ((c_sn v) 3))) σ') : bc_Sem g (d + 4) mX10_restore [bc_R 0] σ Rr X := by
  obtain ⟨⟨k1, k2, k3, k4⟩, -, -, -, -, -, -, ⟨e1, e1b⟩, ⟨e2, e2b⟩, e3, e3b⟩ := id hF
  refine e_X10_restore rfl (fun K hK => ?_)
  refine hK.1 [] 60 _ _ _ _ _ ?_
  refine bc_ob_i (by rw [e1]; constructor <;> omega) ?_
  refine bc_br_i (fun c => ?_) (fun c => ?_)
  · rw [e1] at c
    refine t_X10_refuse (f := 3) (by decide) (by decide) (fun e => by omega) (fun e he => ?_)
    have ee : e = 2 := by omega
    subst ee
    exact h1 c
  · rw [e1] at c
    refine t_X10_refuse (f := 0) (by decide) (by decide) (fun _ => ?_) (fun e he => by omega)
    refine t_X6_copyFrom (a := 1) (b := 15) (by unfold cp_; decide) k2 (fun σ1 A1 f1 => ?_)
    refine t_X1_forget (st_H_fr k4 f1 (by omega)) (fun σ2 H2 f2 => ?_)
    have F2 : fr_ (fun k => (2 ≤ k ∧ k ≤ 14) ∨ k = 43) σ σ2 := fr_trans (fr_mono f1 (by omega)) (fr_mono f2 (by omega))
    have F3 := fa_rh hF F2 (by omega) (st_A_fr A1 f2 (by omega)) H2
    exact rt_ (h0 (by omega) σ2 F3 (fr_mono F2 (by omega))) F3.1.1.1.1.1
end FAC
