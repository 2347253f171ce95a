section
/-! the object as a whole: state, snapshot, the state before a script, history, the way, the script, the output, the marks -/
noncomputable abbrev cs_t := rw_t × rw_t × rw_t × (List rw_t × Int) × ((Int → Int) × Int) × (List Int) × ((Int → Int) × gr_t) × (List Int) × Int × Int × Int
noncomputable abbrev c_r (v : cs_t) : rw_t := v.1
noncomputable abbrev c_sn (v : cs_t) : rw_t := v.2.1
noncomputable abbrev c_bs (v : cs_t) : rw_t := v.2.2.1
noncomputable abbrev c_h (v : cs_t) : List rw_t := v.2.2.2.1.1
noncomputable abbrev c_n (v : cs_t) : Int := v.2.2.2.1.2
noncomputable abbrev c_J (v : cs_t) : Int → Int := v.2.2.2.2.1.1
noncomputable abbrev c_len (v : cs_t) : Int := v.2.2.2.2.1.2
noncomputable abbrev c_l (v : cs_t) : List Int := v.2.2.2.2.2.1
noncomputable abbrev c_k (v : cs_t) : Int → Int := v.2.2.2.2.2.2.1.1
noncomputable abbrev c_A (v : cs_t) : gr_t := v.2.2.2.2.2.2.1.2
noncomputable abbrev c_o (v : cs_t) : List Int := v.2.2.2.2.2.2.2.1
noncomputable abbrev c_hs (v : cs_t) : Int := v.2.2.2.2.2.2.2.2.1
noncomputable abbrev c_le (v : cs_t) : Int := v.2.2.2.2.2.2.2.2.2.1
noncomputable abbrev c_lf (v : cs_t) : Int := v.2.2.2.2.2.2.2.2.2.2
noncomputable abbrev u_r (v : cs_t) (x : rw_t) : cs_t := (x, v.2)
noncomputable abbrev u_sn (v : cs_t) (x : rw_t) : cs_t := (v.1, x, v.2.2)
noncomputable abbrev u_bs (v : cs_t) (x : rw_t) : cs_t := (v.1, v.2.1, x, v.2.2.2)
noncomputable abbrev u_h (v : cs_t) (x : List rw_t) (n : Int) : cs_t := (v.1, v.2.1, v.2.2.1, (x, n), v.2.2.2.2)
noncomputable abbrev u_J (v : cs_t) (x : Int → Int) (m : Int) : cs_t := (v.1, v.2.1, v.2.2.1, v.2.2.2.1, (x, m), v.2.2.2.2.2)
noncomputable abbrev u_l (v : cs_t) (x : List Int) : cs_t := (v.1, v.2.1, v.2.2.1, v.2.2.2.1, v.2.2.2.2.1, x, v.2.2.2.2.2.2)
noncomputable abbrev u_k (v : cs_t) (x : Int → Int) (a : gr_t) : cs_t := (v.1, v.2.1, v.2.2.1, v.2.2.2.1, v.2.2.2.2.1, v.2.2.2.2.2.1, (x, a), v.2.2.2.2.2.2.2)
noncomputable abbrev u_o (v : cs_t) (x : List Int) : cs_t := (v.1, v.2.1, v.2.2.1, v.2.2.2.1, v.2.2.2.2.1, v.2.2.2.2.2.1, v.2.2.2.2.2.2.1, x, v.2.2.2.2.2.2.2.2)
noncomputable abbrev u_hs (v : cs_t) (x : Int) : cs_t := (v.1, v.2.1, v.2.2.1, v.2.2.2.1, v.2.2.2.2.1, v.2.2.2.2.2.1, v.2.2.2.2.2.2.1, v.2.2.2.2.2.2.2.1, x, v.2.2.2.2.2.2.2.2.2)
noncomputable abbrev u_le (v : cs_t) (x : Int) : cs_t := (v.1, v.2.1, v.2.2.1, v.2.2.2.1, v.2.2.2.2.1, v.2.2.2.2.2.1, v.2.2.2.2.2.2.1, v.2.2.2.2.2.2.2.1, v.2.2.2.2.2.2.2.2.1, x, v.2.2.2.2.2.2.2.2.2.2)
noncomputable abbrev u_lf (v : cs_t) (x : Int) : cs_t := (v.1, v.2.1, v.2.2.1, v.2.2.2.1, v.2.2.2.2.1, v.2.2.2.2.2.1, v.2.2.2.2.2.2.1, v.2.2.2.2.2.2.2.1, v.2.2.2.2.2.2.2.2.1, v.2.2.2.2.2.2.2.2.2.1, x)
noncomputable def fa_ (B : Int) (σ : bc_M) (v : cs_t) : Prop :=
  (st_A B σ 1 (c_r v) ∧ st_A B σ 15 (c_sn v) ∧ st_A B σ 29 (c_bs v) ∧ st_H B σ (c_n v) (c_h v)) ∧
  (ar_ σ 170 (c_J v) ∧ lm_ (c_J v) 7) ∧ (σ.1 157 ((5 : Nat) : Int) = (c_len v) ∧ 0 ≤ (c_len v) ∧ (c_len v) ≤ 7) ∧
  tx_ σ 196 (c_l v) ∧ (ak_ σ (c_k v) ∧ kk_ (c_k v)) ∧ (s3_ σ (c_A v) ∧ g3_ (c_A v)) ∧ tx_ σ 216 (c_o v) ∧
  (σ.1 0 ((9 : Nat) : Int) = (c_hs v) ∧ 0 ≤ (c_hs v) ∧ (c_hs v) ≤ 1) ∧ (σ.1 0 ((10 : Nat) : Int) = (c_le v) ∧ -1 ≤ (c_le v) ∧ (c_le v) ≤ 60) ∧ σ.1 0 ((11 : Nat) : Int) = (c_lf v) ∧ -1 ≤ (c_lf v) ∧ (c_lf v) ≤ 15
/-- the cells whose numbers no call reads before it writes them -/
noncomputable abbrev xs_ (k : Nat) : Prop := (158 ≤ k ∧ k ≤ 169) ∨ (171 ≤ k ∧ k ≤ 195) ∨ 218 ≤ k
theorem fa_x {P : Nat → Prop} {B : Int} {σ σ' : bc_M} {v : cs_t} (h : fa_ B σ v) (hf : fr_ P σ σ') (hp : ∀ k, P k → xs_ k) : fa_ B σ' v := by
  have no : ∀ k, ¬ xs_ k → ¬ P k := fun k hk q => hk (hp k q)
  obtain ⟨⟨h1, h2, h3, h4⟩, ⟨h5, h5b⟩, ⟨h6, h6b⟩, h7, ⟨h8, h8b⟩, ⟨h9, h9b⟩, h10, ⟨h11, h11b⟩, ⟨h12, h12b⟩, h13, h13b⟩ := h
  refine ⟨⟨st_A_fr h1 hf (fun k a b => no k (by omega)), st_A_fr h2 hf (fun k a b => no k (by omega)), st_A_fr h3 hf (fun k a b => no k (by omega)), st_H_fr h4 hf (fun k a b => no k (by omega))⟩, ⟨ar_fr h5 hf (no _ (by decide)), h5b⟩, ⟨?_, h6b⟩, tx_fr h7 hf ⟨no _ (by decide), no _ (by decide)⟩, ⟨ak_fr h8 hf (no _ (by decide)), h8b⟩, ⟨s3_fr h9 hf (no _ (by decide)), h9b⟩, tx_fr h10 hf ⟨no _ (by decide), no _ (by decide)⟩, ⟨?_, h11b⟩, ⟨?_, h12b⟩, ?_, h13b⟩
  · rw [hf.1 157 (no _ (by decide))]; exact h6
  · rw [hf.1 0 (no _ (by decide))]; exact h11
  · rw [hf.1 0 (no _ (by decide))]; exact h12
  · rw [hf.1 0 (no _ (by decide))]; exact h13
theorem fa_w {P : Nat → Prop} {B : Int} {σ σ' : bc_M} {v : cs_t} {J : Int → Int} {m : Int} (h : fa_ B σ v) (hf : fr_ P σ σ') (hp : ∀ k, P k → xs_ k ∨ k = 157 ∨ k = 170) (hJ : ar_ σ' 170 J) (lJ : lm_ J 7) (hm : σ'.1 157 ((5 : Nat) : Int) = m) (m0 : 0 ≤ m ∧ m ≤ 7) : fa_ B σ' (u_J v J m) := by
  have no : ∀ k, ¬ (xs_ k ∨ k = 157 ∨ k = 170) → ¬ P k := fun k hk q => hk (hp k q)
  obtain ⟨⟨h1, h2, h3, h4⟩, ⟨h5, h5b⟩, ⟨h6, h6b⟩, h7, ⟨h8, h8b⟩, ⟨h9, h9b⟩, h10, ⟨h11, h11b⟩, ⟨h12, h12b⟩, h13, h13b⟩ := h
  refine ⟨⟨st_A_fr h1 hf (fun k a b => no k (by omega)), st_A_fr h2 hf (fun k a b => no k (by omega)), st_A_fr h3 hf (fun k a b => no k (by omega)), st_H_fr h4 hf (fun k a b => no k (by omega))⟩, ⟨hJ, lJ⟩, ⟨hm, m0⟩, tx_fr h7 hf ⟨no _ (by decide), no _ (by decide)⟩, ⟨ak_fr h8 hf (no _ (by decide)), h8b⟩, ⟨s3_fr h9 hf (no _ (by decide)), h9b⟩, tx_fr h10 hf ⟨no _ (by decide), no _ (by decide)⟩, ⟨?_, h11b⟩, ⟨?_, h12b⟩, ?_, h13b⟩
  · rw [hf.1 0 (no _ (by decide))]; exact h11
  · rw [hf.1 0 (no _ (by decide))]; exact h12
  · rw [hf.1 0 (no _ (by decide))]; exact h13
theorem wf_T_mono {B B' : Int} {r : rw_t} (h : wf_T B r) (hb : B ≤ B') : wf_T B' r := by
  obtain ⟨a0, a1, a2, a3, a4, a5, a6, a7, a8, a9, a10, a11, a12, a13⟩ := h
  refine ⟨by omega, a1, a2, a3, by omega, a5, a6, a7, by omega, a9, a10, a11, fun k k0 k1 => ?_, a13⟩
  have := a12 k k0 k1
  omega
theorem st_A_mono {B B' : Int} {σ : bc_M} {b : Nat} {r : rw_t} (h : st_A B σ b r) (hb : B ≤ B') : st_A B' σ b r := ⟨h.1, h.2.1, h.2.2.1, wf_T_mono h.2.2.2 hb⟩
theorem st_H_mono {B B' : Int} {σ : bc_M} {n : Int} {h : List rw_t} (H : st_H B σ n h) (hb : B ≤ B') : st_H B' σ n h := ⟨H.1, H.2.1, H.2.2.1, H.2.2.2.1, fun t ht => st_A_mono (H.2.2.2.2 t ht) hb⟩
theorem fa_mono {B B' : Int} {σ : bc_M} {v : cs_t} (h : fa_ B σ v) (hb : B ≤ B') : fa_ B' σ v := ⟨⟨st_A_mono h.1.1 hb, st_A_mono h.1.2.1 hb, st_A_mono h.1.2.2.1 hb, st_H_mono h.1.2.2.2 hb⟩, h.2⟩
theorem fa_r {P : Nat → Prop} {B B' : Int} {σ σ' : bc_M} {v : cs_t} {r : rw_t} (h : fa_ B σ v) (hb : B ≤ B') (hf : fr_ P σ σ') (hp : ∀ k, P k → xs_ k ∨ (2 ≤ k ∧ k ≤ 14)) (hr : st_A B' σ' 1 r) : fa_ B' σ' (u_r v r) := by
  have no : ∀ k, ¬ (xs_ k ∨ (2 ≤ k ∧ k ≤ 14)) → ¬ P k := fun k hk q => hk (hp k q)
  obtain ⟨⟨h1, h2, h3, h4⟩, ⟨h5, h5b⟩, ⟨h6, h6b⟩, h7, ⟨h8, h8b⟩, ⟨h9, h9b⟩, h10, ⟨h11, h11b⟩, ⟨h12, h12b⟩, h13, h13b⟩ := fa_mono h hb
  refine ⟨⟨hr, st_A_fr h2 hf (fun k a b => no k (by omega)), st_A_fr h3 hf (fun k a b => no k (by omega)), st_H_fr h4 hf (fun k a b => no k (by omega))⟩, ⟨ar_fr h5 hf (no _ (by decide)), h5b⟩, ⟨?_, h6b⟩, tx_fr h7 hf ⟨no _ (by decide), no _ (by decide)⟩, ⟨ak_fr h8 hf (no _ (by decide)), h8b⟩, ⟨s3_fr h9 hf (no _ (by decide)), h9b⟩, tx_fr h10 hf ⟨no _ (by decide), no _ (by decide)⟩, ⟨?_, h11b⟩, ⟨?_, h12b⟩, ?_, h13b⟩
  · rw [hf.1 157 (no _ (by decide))]; exact h6
  · rw [hf.1 0 (no _ (by decide))]; exact h11
  · rw [hf.1 0 (no _ (by decide))]; exact h12
  · rw [hf.1 0 (no _ (by decide))]; exact h13
theorem fa_h {P : Nat → Prop} {B : Int} {σ σ' : bc_M} {v : cs_t} {n : Int} {h' : List rw_t} (h : fa_ B σ v) (hf : fr_ P σ σ') (hp : ∀ k, P k → xs_ k ∨ (43 ≤ k ∧ k ≤ 156)) (hr : st_H B σ' n h') : fa_ B σ' (u_h v h' n) := by
  have no : ∀ k, ¬ (xs_ k ∨ (43 ≤ k ∧ k ≤ 156)) → ¬ P k := fun k hk q => hk (hp k q)
  obtain ⟨⟨h1, h2, h3, h4⟩, ⟨h5, h5b⟩, ⟨h6, h6b⟩, h7, ⟨h8, h8b⟩, ⟨h9, h9b⟩, h10, ⟨h11, h11b⟩, ⟨h12, h12b⟩, h13, h13b⟩ := h
  refine ⟨⟨st_A_fr h1 hf (fun k a b => no k (by omega)), st_A_fr h2 hf (fun k a b => no k (by omega)), st_A_fr h3 hf (fun k a b => no k (by omega)), hr⟩, ⟨ar_fr h5 hf (no _ (by decide)), h5b⟩, ⟨?_, h6b⟩, tx_fr h7 hf ⟨no _ (by decide), no _ (by decide)⟩, ⟨ak_fr h8 hf (no _ (by decide)), h8b⟩, ⟨s3_fr h9 hf (no _ (by decide)), h9b⟩, tx_fr h10 hf ⟨no _ (by decide), no _ (by decide)⟩, ⟨?_, h11b⟩, ⟨?_, h12b⟩, ?_, h13b⟩
  · rw [hf.1 157 (no _ (by decide))]; exact h6
  · rw [hf.1 0 (no _ (by decide))]; exact h11
  · rw [hf.1 0 (no _ (by decide))]; exact h12
  · rw [hf.1 0 (no _ (by decide))]; exact h13
theorem fa_o {P : Nat → Prop} {B : Int} {σ σ' : bc_M} {v : cs_t} {o : List Int} (h : fa_ B σ v) (hf : fr_ P σ σ') (hp : ∀ k, P k → xs_ k ∨ (216 ≤ k ∧ k ≤ 217)) (hr : tx_ σ' 216 o) : fa_ B σ' (u_o v o) := by
  have no : ∀ k, ¬ (xs_ k ∨ (216 ≤ k ∧ k ≤ 217)) → ¬ P k := fun k hk q => hk (hp k q)
  obtain ⟨⟨h1, h2, h3, h4⟩, ⟨h5, h5b⟩, ⟨h6, h6b⟩, h7, ⟨h8, h8b⟩, ⟨h9, h9b⟩, h10, ⟨h11, h11b⟩, ⟨h12, h12b⟩, h13, h13b⟩ := h
  refine ⟨⟨st_A_fr h1 hf (fun k a b => no k (by omega)), st_A_fr h2 hf (fun k a b => no k (by omega)), st_A_fr h3 hf (fun k a b => no k (by omega)), st_H_fr h4 hf (fun k a b => no k (by omega))⟩, ⟨ar_fr h5 hf (no _ (by decide)), h5b⟩, ⟨?_, h6b⟩, tx_fr h7 hf ⟨no _ (by decide), no _ (by decide)⟩, ⟨ak_fr h8 hf (no _ (by decide)), h8b⟩, ⟨s3_fr h9 hf (no _ (by decide)), h9b⟩, hr, ⟨?_, h11b⟩, ⟨?_, h12b⟩, ?_, h13b⟩
  · rw [hf.1 157 (no _ (by decide))]; exact h6
  · rw [hf.1 0 (no _ (by decide))]; exact h11
  · rw [hf.1 0 (no _ (by decide))]; exact h12
  · rw [hf.1 0 (no _ (by decide))]; exact h13
/-- only the object's own cells, the script's apart -/
noncomputable abbrev ob_ (k : Nat) : Prop := k ≤ 217 ∧ (k < 195 ∨ 199 < k)
noncomputable abbrev ov_ (k : Nat) : Prop := k ≤ 217
section FAC
variable {g : bc_C} {d : Nat} {σ : bc_M} {B : Int} {v : cs_t} {Rr : Option bc_A → bc_M → Prop} {X : Nat → bc_M → Prop}
theorem t_X10_refuse {f : Int} (f0 : 0 ≤ f) (f1 : f ≤ 6) (h0 : f = 0 → Rr none σ) (h1 : ∀ e : Nat, f = e + 1 → X e σ) : bc_Sem g (d + 1) mX10_refuse [bc_I f] σ Rr X := by
  refine e_X10_refuse rfl (fun K hK => ?_)
  refine hK.1 [] 60 _ _ _ _ _ ?_
  refine bc_ob_i (by omega) ?_
  repeat' refine bc_br_i (fun c => ?_) (fun c => ?_)
  · exact h1 0 (by omega)
  · exact h1 1 (by omega)
  · exact h1 2 (by omega)
  · exact h1 3 (by omega)
  · exact h1 4 (by omega)
  · exact h1 5 (by omega)
  · exact h0 (by omega)
theorem t_X10_isJoint {a : Int} (ha : bc_in a) (h : Rr (some (bc_I (if 0 ≤ a ∧ a < 8 then 1 else 0))) σ) : bc_Sem g (d + 1) mX10_isJoint [bc_I a] σ Rr X := by
  obtain ⟨a0, a1⟩ := ha
  refine e_X10_isJoint rfl (fun K hK => ?_)
  refine hK.1 [] 60 _ _ _ _ _ ?_
  repeat' first | refine bc_br_i (fun _ => ?_) (fun _ => ?_) | refine bc_ob_i (by omega) ?_
  all_goals first | (exfalso; omega) | exact rt_ h (by split <;> omega)
theorem t_X10_isKind {a : Int} (ha : bc_in a) (h : Rr (some (bc_I (if a = 99 ∨ a = 108 then 1 else 0))) σ) : bc_Sem g (d + 1) mX10_isKind [bc_I a] σ Rr X := by
  obtain ⟨a0, a1⟩ := ha
  refine e_X10_isKind rfl (fun K hK => ?_)
  refine hK.1 [] 60 _ _ _ _ _ ?_
  repeat' first | refine bc_br_i (fun _ => ?_) (fun _ => ?_) | refine bc_ob_i (by omega) ?_
  all_goals first | (exfalso; omega) | exact rt_ h (by split <;> omega)
noncomputable def pf_ (a b : Int) : Int := if ¬ ((0 ≤ a ∧ a < 8) ∧ 0 ≤ b ∧ b < 8) then 1 else if a = b then 2 else 0
theorem pf_le (a b : Int) : 0 ≤ pf_ a b ∧ pf_ a b ≤ 2 := by unfold pf_; split <;> first | omega | (split <;> omega)
theorem pf_0 {a b : Int} (h : pf_ a b = 0) : (0 ≤ a ∧ a < 8) ∧ (0 ≤ b ∧ b < 8) ∧ a ≠ b := by
  unfold pf_ at h
  split at h
  · omega
  · split at h <;> omega
theorem t_X10_pairFault {a b : Int} (ha : bc_in a) (hb : bc_in b) (h : Rr (some (bc_I (pf_ a b))) σ) : bc_Sem g (d + 2) mX10_pairFault [bc_I a, bc_I b] σ Rr X := by
  obtain ⟨a0, a1⟩ := id ha
  obtain ⟨b0, b1⟩ := id hb
  refine e_X10_pairFault rfl (fun K hK => ?_)
  unfold pf_ at h
  refine hK.1 [] 60 _ _ _ _ _ ?_
  refine t_X10_isJoint ha ?_
  refine bc_ob_i (by split <;> omega) ?_
  refine bc_br_i (fun c => ?_) (fun c => ?_)
  · exact rt_ h (if_pos (by split at c <;> omega)).symm
  · have ca : 0 ≤ a ∧ a < 8 := by split at c <;> omega
    refine t_X10_isJoint hb ?_
    refine bc_ob_i (by split <;> omega) ?_
    refine bc_br_i (fun c => ?_) (fun c => ?_)
    · exact rt_ h (if_pos (by split at c <;> omega)).symm
    · have cb : 0 ≤ b ∧ b < 8 := by split at c <;> omega
      refine bc_ob_i (by omega) ?_
      refine bc_br_i (fun c => ?_) (fun c => ?_)
      · exact rt_ h (by rw [if_neg (by omega), if_pos c])
      · exact rt_ h (by rw [if_neg (by omega), if_neg c])
noncomputable def ix_ (r : rw_t) (m : Int) : Int := if 0 ≤ m ∧ m < r 3 then 0 else 1
theorem ix_le (r : rw_t) (m : Int) : 0 ≤ ix_ r m ∧ ix_ r m ≤ 6 := by unfold ix_; split <;> omega
theorem t_X10_indexFault {m : Int} (hF : fa_ B σ v) (hm : bc_in m) (h : Rr (some (bc_I (ix_ (c_r v) m))) σ) : bc_Sem g (d + 2) mX10_indexFault [bc_R 0, bc_I m] σ Rr X := by
  obtain ⟨⟨h1, -⟩, w1, -⟩ := hF.1.1
  refine e_X10_indexFault rfl (fun K hK => ?_)
  unfold ix_ at h
  refine hK.1 [] 60 _ _ _ _ _ ?_
  refine t_X2_has h1 w1 hm ?_
  refine bc_ob_i (by split <;> omega) ?_
  refine bc_br_i (fun c => ?_) (fun c => ?_)
  · exact rt_ h (if_neg (by split at c <;> omega)).symm
  · exact rt_ h (if_pos (by split at c <;> omega)).symm
end FAC
end
section
/-! faults -/
noncomputable def mq_ (r : rw_t) (a b s f : Int) : Prop := (pf_ a b ≠ 0 ∧ f = pf_ a b) ∨ (pf_ a b = 0 ∧ (s < 1 ∨ 99 < s) ∧ f = 2) ∨ (pf_ a b = 0 ∧ (1 ≤ s ∧ s ≤ 99) ∧ (16 ≤ r 3 ∨ ∃ k : Int, 0 ≤ k ∧ k < r 3 ∧ jn_ r k a b) ∧ f = 3) ∨ (pf_ a b = 0 ∧ (1 ≤ s ∧ s ≤ 99) ∧ r 3 < 16 ∧ (∀ k : Int, 0 ≤ k → k < r 3 → ¬ jn_ r k a b) ∧ f = 0)
theorem mq_le {r : rw_t} {a b s f : Int} (h : mq_ r a b s f) : 0 ≤ f ∧ f ≤ 6 := by
  have := pf_le a b
  rcases h with ⟨-, h⟩ | ⟨-, -, h⟩ | ⟨-, -, -, h⟩ | ⟨-, -, -, -, h⟩ <;> omega
noncomputable def wq_ (r : rw_t) (a b n : Int) : Int := if pf_ a b ≠ 0 then pf_ a b else if n < 1 ∨ 99 < n then 2 else if wb_ (sa_ r) a b = 0 then 4 else if wb_ (sa_ r) a b < n + tw_ r then 5 else 0
theorem wq_le (r : rw_t) (a b n : Int) : 0 ≤ wq_ r a b n ∧ wq_ r a b n ≤ 6 := by
  have := pf_le a b
  unfold wq_
  repeat' split
  all_goals omega
noncomputable def yq_ (r : rw_t) (a b : Int) : Int := if pf_ a b ≠ 0 then pf_ a b else if wb_ (sa_ r) a b = 0 then 4 else 0
theorem yq_le (r : rw_t) (a b : Int) : 0 ≤ yq_ r a b ∧ yq_ r a b ≤ 6 := by
  have := pf_le a b
  unfold yq_
  repeat' split
  all_goals omega
/-- the object after a search for a way -/
noncomputable def yv_ (v : cs_t) (a b : Int) : cs_t := if pf_ a b ≠ 0 then v else u_J v (fz_ (sa_ (c_r v)) a b (c_J v)).1 (fz_ (sa_ (c_r v)) a b (c_J v)).2
noncomputable def vq_ (r : rw_t) (a u : Int) : Int := if ¬ (r 0 < a ∧ a ≤ r 0 + 50) ∨ u < 1 ∨ 99 < u then 2 else if 8 ≤ r 4 then 3 else 0
noncomputable def fq1_ (n : Int) : Int := if n < 0 ∨ 20 < n then 2 else 0
noncomputable def dq_ (n : Int) : Int := if n < 1 ∨ 30 < n then 2 else 0
noncomputable def nq1_ (c : Int) : Int := if c = 99 ∨ c = 108 then 0 else 2
noncomputable def pq_ (r : rw_t) (p c w : Int) : Int := if p < 0 ∨ 4 ≤ p then 1 else if ¬ (c = 99 ∨ c = 108) ∨ w < 1 ∨ 20 < w then 2 else if c ≠ r 11 then 5 else if 0 < r (12 + p) then 3 else 0
noncomputable def eq_ (r : rw_t) (m : Int) : Int := if ¬ (0 ≤ m ∧ m < r 3) then 1 else if r (21 + 6 * m) ≠ 0 then 3 else if r 1 < co_ r m then 5 else 0
noncomputable def lq_ (r : rw_t) (m b : Int) : Int := if ¬ (0 ≤ m ∧ m < r 3) then 1 else if r (21 + 6 * m) = b then 0 else 3
noncomputable def tq_ (r : rw_t) (m : Int) : Int := if ¬ (0 ≤ m ∧ m < r 3) then 1 else if br_ r m = 0 then 6 else 0
section FAC
variable {g : bc_C} {d : Nat} {σ : bc_M} {B : Int} {v : cs_t} {Rr : Option bc_A → bc_M → Prop} {X : Nat → bc_M → Prop}
theorem t_X10_memberFault {a b s : Int} (hF : fa_ B σ v) (ha : bc_in a) (hb : bc_in b) (hs : bc_in s) (h : ∀ f, mq_ (c_r v) a b s f → Rr (some (bc_I f)) σ) : bc_Sem g (d + 3) mX10_memberFault [bc_R 0, bc_I a, bc_I b, bc_I s] σ Rr X := by
  obtain ⟨⟨h1, -⟩, w1, -⟩ := hF.1.1
  obtain ⟨c1, c2⟩ := st_M1 h1
  have w0 := w1.1
  obtain ⟨s0, s1⟩ := hs
  have hp := pf_le a b
  refine e_X10_memberFault rfl (fun K hK => ?_)
  refine hK.1 [] 60 _ _ _ _ _ ?_
  refine t_X10_pairFault ha hb ?_
  refine bc_ob_i (by omega) ?_
  refine bc_br_i (fun c => ?_) (fun c => ?_)
  · refine bc_ob_i (by omega) ?_
    refine bc_br_i (fun c2 => ?_) (fun c2 => ?_)
    · exact h 2 (.inr (.inl ⟨c, .inl c2, rfl⟩))
    · refine bc_ob_i (by omega) ?_
      refine bc_br_i (fun c3 => ?_) (fun c3 => ?_)
      · exact h 2 (.inr (.inl ⟨c, .inr c3, rfl⟩))
      · refine bc_ob_i (by omega) ?_
        refine bc_br_i (fun c4 => ?_) (fun c4 => ?_)
        · refine bc_ob_i (by decide) ?_
          refine bc_br_i (fun _ => ?_) (fun c => absurd rfl c)
          refine t_X2_between h1 w1 ha hb (fun x hx => ?_)
          refine bc_ob_i (by rcases hx with ⟨hx, -⟩ | ⟨hx, hx2, -⟩ <;> omega) ?_
          refine bc_br_i (fun c5 => ?_) (fun c5 => ?_)
          · refine h 0 (.inr (.inr (.inr ⟨c, ⟨by omega, by omega⟩, by omega, ?_, rfl⟩)))
            rcases hx with ⟨-, hx⟩ | ⟨hx, -⟩
            · exact hx
            · omega
          · refine h 3 (.inr (.inr (.inl ⟨c, ⟨by omega, by omega⟩, .inr ?_, rfl⟩)))
            rcases hx with ⟨hx, -⟩ | hx
            · exact absurd hx c5
            · exact ⟨x, hx⟩
        · refine bc_ob_i (by decide) ?_
          refine bc_br_i (fun c => absurd c (by decide)) (fun _ => ?_)
          exact h 3 (.inr (.inr (.inl ⟨c, ⟨by omega, by omega⟩, .inl (by omega), rfl⟩)))
  · exact h _ (.inl ⟨c, rfl⟩)
theorem t_X10_walkFault {a b n : Int} (hF : fa_ B σ v) (ha : bc_in a) (hb : bc_in b) (hn : bc_in n) (h : ∀ σ' : bc_M, fa_ B σ' v → fr_ ob_ σ σ' → Rr (some (bc_I (wq_ (c_r v) a b n))) σ') : bc_Sem g (d + 3) mX10_walkFault [bc_R 0, bc_I a, bc_I b, bc_I n] σ Rr X := by
  obtain ⟨⟨h1, h2, -⟩, w1, w2, -⟩ := hF.1.1
  obtain ⟨s0, s1⟩ := hn
  have hp := pf_le a b
  refine e_X10_walkFault rfl (fun K hK => ?_)
  unfold wq_ at h
  refine hK.1 [] 60 _ _ _ _ _ ?_
  refine t_X10_pairFault ha hb ?_
  refine bc_ob_i (by omega) ?_
  refine bc_br_i (fun c => ?_) (fun c => ?_)
  · obtain ⟨⟨a0, a1⟩, ⟨b0, b1⟩, -⟩ := pf_0 c
    refine bc_ob_i (by omega) ?_
    refine bc_br_i (fun c2 => ?_) (fun c2 => ?_)
    · exact rt_ (h σ hF (fr_refl _)) (by rw [if_neg (by omega), if_pos (by omega)])
    · refine bc_ob_i (by omega) ?_
      refine bc_br_i (fun c3 => ?_) (fun c3 => ?_)
      · exact rt_ (h σ hF (fr_refl _)) (by rw [if_neg (by omega), if_pos (by omega)])
      · refine t_X9_survey h1 w1 (fun σ1 p1 f1 => ?_)
        have hl := wb_le (sa_le w1) a0 a1 b0 b1
        refine t_X9_widestByGrowing p1 (sa_le w1) a0 a1 b0 b1 (fun σ2 f2 => ?_)
        have F2 : fa_ B σ2 v := fa_x (fa_x hF f1 (by omega)) f2 (by omega)
        have fr2 : fr_ ob_ σ σ2 := fr_trans (fr_mono f1 (by omega)) (fr_mono f2 (by omega))
        have tw : 0 ≤ tw_ (c_r v) ∧ tw_ (c_r v) ≤ 80 := by
          have := w2
          unfold wf_N at this
          unfold tw_
          omega
        refine bc_ob_i (by omega) ?_
        refine bc_br_i (fun c4 => ?_) (fun c4 => ?_)
        · exact rt_ (h σ2 F2 fr2) (by rw [if_neg (by omega), if_neg (by omega), if_pos c4])
        · refine t_X3_total F2.1.1.1.2.1 w2 ?_
          refine bc_ob_i (by omega) ?_
          refine bc_br_i (fun c5 => ?_) (fun c5 => ?_)
          · exact rt_ (h σ2 F2 fr2) (by rw [if_neg (by omega), if_neg (by omega), if_neg c4, if_pos c5])
          · exact rt_ (h σ2 F2 fr2) (by rw [if_neg (by omega), if_neg (by omega), if_neg c4, if_neg c5])
  · exact rt_ (h σ hF (fr_refl _)) (by rw [if_pos c])
theorem t_X10_wayFault {a b : Int} (hF : fa_ B σ v) (ha : bc_in a) (hb : bc_in b) (h : ∀ σ' : bc_M, fa_ B σ' (yv_ v a b) → fr_ ob_ σ σ' → Rr (some (bc_I (yq_ (c_r v) a b))) σ') : bc_Sem g (d + 4) mX10_wayFault [bc_R 0, bc_I a, bc_I b] σ Rr X := by
  obtain ⟨⟨h1, h2, -⟩, w1, w2, -⟩ := hF.1.1
  have hp := pf_le a b
  refine e_X10_wayFault rfl (fun K hK => ?_)
  unfold yq_ yv_ at h
  refine hK.1 [] 60 _ _ _ _ _ ?_
  refine t_X10_pairFault ha hb ?_
  refine bc_ob_i (by omega) ?_
  refine bc_br_i (fun c => ?_) (fun c => ?_)
  · obtain ⟨⟨a0, a1⟩, ⟨b0, b1⟩, -⟩ := pf_0 c
    rw [if_neg (by omega)] at h
    rw [if_neg (by omega)] at h
    refine t_X9_survey h1 w1 (fun σ1 p1 f1 => ?_)
    have F1 := fa_x hF f1 (by omega)
    have hl := wb_le (sa_le w1) a0 a1 b0 b1
    obtain ⟨-, ⟨hJ, lJ⟩, -⟩ := id F1
    refine t_X9_findBest p1 (sa_le w1) hJ lJ a0 a1 b0 b1 (fun σ2 f2 hJ2 hm2 => ?_)
    have lz : lm_ (fz_ (sa_ (c_r v)) a b (c_J v)).1 7 ∧ 0 ≤ (fz_ (sa_ (c_r v)) a b (c_J v)).2 ∧ (fz_ (sa_ (c_r v)) a b (c_J v)).2 ≤ 7 := by
      unfold fz_
      split
      · exact ⟨lJ, by show 0 ≤ (0 : Int) ∧ (0 : Int) ≤ 7; decide⟩
      · exact jw_le lJ a0 a1 7 (Nat.le_refl _)
    have F2 := fa_w F1 f2 (by omega) hJ2 lz.1 hm2 lz.2
    have fr2 : fr_ ob_ σ σ2 := fr_trans (fr_mono f1 (by omega)) (fr_mono f2 (by omega))
    refine bc_ob_i (by omega) ?_
    refine bc_br_i (fun c4 => ?_) (fun c4 => ?_)
    · exact rt_ (h σ2 F2 fr2) (by rw [if_pos c4])
    · exact rt_ (h σ2 F2 fr2) (by rw [if_neg c4])
  · rw [if_pos c] at h
    rw [if_pos c] at h
    exact h σ hF (fr_refl _)
theorem t_X10_vowFault {a u : Int} (hF : fa_ B σ v) (hB : B ≤ 1000000) (ha : bc_in a) (hu : bc_in u) (h : Rr (some (bc_I (vq_ (c_r v) a u))) σ) : bc_Sem g (d + 2) mX10_vowFault [bc_R 0, bc_I a, bc_I u] σ Rr X := by
  obtain ⟨⟨-, -, h3⟩, -, -, w3⟩ := hF.1.1
  obtain ⟨⟨f0, f1, f2, f3, f4, f5, f6, f7, f8, f9⟩, f⟩ := st_T1 h3
  have l4 := (wt_le w3).2.2.2.1
  obtain ⟨s0, s1⟩ := hu
  refine e_X10_vowFault rfl (fun K hK => ?_)
  unfold vq_ at h
  refine hK.1 [] 60 _ _ _ _ _ ?_
  refine t_X8_isDueDayAllowed h3 w3 hB ha ?_
  refine bc_ob_i (by split <;> omega) ?_
  refine bc_br_i (fun c => ?_) (fun c => ?_)
  · exact rt_ h (by rw [if_pos (by split at c <;> omega)])
  · have ca : (c_r v) 0 < a ∧ a ≤ (c_r v) 0 + 50 := by split at c <;> omega
    repeat' first | refine bc_br_i (fun _ => ?_) (fun _ => ?_) | refine bc_ob_i (by omega) ?_
    all_goals first | (exfalso; omega) | (refine rt_ h ?_; rw [if_pos (by omega)]; done) | (refine rt_ h ?_; rw [if_neg (by omega), if_pos (by omega)]; done) | (refine rt_ h ?_; rw [if_neg (by omega), if_neg (by omega)])
theorem t_X10_forgeFault {n : Int} (hn : bc_in n) (h : Rr (some (bc_I (fq1_ n))) σ) : bc_Sem g (d + 1) mX10_forgeFault [bc_I n] σ Rr X := by
  obtain ⟨a0, a1⟩ := hn
  refine e_X10_forgeFault rfl (fun K hK => ?_)
  unfold fq1_ at h
  refine hK.1 [] 60 _ _ _ _ _ ?_
  repeat' first | refine bc_br_i (fun _ => ?_) (fun _ => ?_) | refine bc_ob_i (by omega) ?_
  all_goals first | (exfalso; omega) | exact rt_ h (by split <;> omega)
theorem t_X10_daysFault {n : Int} (hn : bc_in n) (h : Rr (some (bc_I (dq_ n))) σ) : bc_Sem g (d + 1) mX10_daysFault [bc_I n] σ Rr X := by
  obtain ⟨a0, a1⟩ := hn
  refine e_X10_daysFault rfl (fun K hK => ?_)
  unfold dq_ at h
  refine hK.1 [] 60 _ _ _ _ _ ?_
  repeat' first | refine bc_br_i (fun _ => ?_) (fun _ => ?_) | refine bc_ob_i (by omega) ?_
  all_goals first | (exfalso; omega) | exact rt_ h (by split <;> omega)
theorem t_X10_nicheFault {c : Int} (hn : bc_in c) (h : Rr (some (bc_I (nq1_ c))) σ) : bc_Sem g (d + 2) mX10_nicheFault [bc_I c] σ Rr X := by
  refine e_X10_nicheFault rfl (fun K hK => ?_)
  unfold nq1_ at h
  refine hK.1 [] 60 _ _ _ _ _ ?_
  refine t_X10_isKind hn ?_
  refine bc_ob_i (by split <;> omega) ?_
  refine bc_br_i (fun c2 => ?_) (fun c2 => ?_)
  · exact rt_ h (by rw [if_neg (by split at c2 <;> omega)])
  · exact rt_ h (by rw [if_pos (by split at c2 <;> omega)])
theorem t_X10_placeFault {p c w : Int} (hF : fa_ B σ v) (hp : bc_in p) (hc : bc_in c) (hw : bc_in w) (h : Rr (some (bc_I (pq_ (c_r v) p c w))) σ) : bc_Sem g (d + 2) mX10_placeFault [bc_R 0, bc_I p, bc_I c, bc_I w] σ Rr X := by
  obtain ⟨⟨-, h2, -⟩, -, w2, -⟩ := hF.1.1
  have hk := h2.1
  have hk2 := h2.2
  simp only [Nat.reduceAdd] at hk hk2
  have w := w2
  unfold wf_N at w
  obtain ⟨p0, p1⟩ := hp
  obtain ⟨c0, c1⟩ := id hc
  obtain ⟨v0, v1⟩ := hw
  refine e_X10_placeFault rfl (fun K hK => ?_)
  unfold pq_ at h
  refine hK.1 [] 60 _ _ _ _ _ ?_
  refine bc_ob_i (by omega) ?_
  refine bc_br_i (fun c1 => ?_) (fun c1 => ?_)
  · exact rt_ h (by rw [if_pos (by omega)])
  · refine bc_ob_i (by omega) ?_
    refine bc_br_i (fun c2 => ?_) (fun c2 => ?_)
    · have hw := hk2 p (by omega) c2
      have hwl : 0 ≤ (c_r v) (12 + p) ∧ (c_r v) (12 + p) ≤ 20 := by
        have : p = 0 ∨ p = 1 ∨ p = 2 ∨ p = 3 := by omega
        rcases this with rfl | rfl | rfl | rfl
        · exact w.2.1
        · exact w.2.2.1
        · exact w.2.2.2.1
        · exact w.2.2.2.2
      refine t_X10_isKind hc ?_
      refine bc_ob_i (by split <;> omega) ?_
      refine bc_br_i (fun c3 => ?_) (fun c3 => ?_)
      · exact rt_ h (by rw [if_neg (by omega), if_pos (.inl (by split at c3 <;> omega))])
      · have ck : c = 99 ∨ c = 108 := by split at c3 <;> omega
        refine bc_ob_i (by omega) ?_
        refine bc_br_i (fun c4 => ?_) (fun c4 => ?_)
        · exact rt_ h (by rw [if_neg (by omega), if_pos (.inr (by omega))])
        · refine bc_ob_i (by omega) ?_
          refine bc_br_i (fun c5 => ?_) (fun c5 => ?_)
          · exact rt_ h (by rw [if_neg (by omega), if_pos (.inr (by omega))])
          · refine bc_ob_i (by omega) ?_
            refine bc_br_i (fun c6 => ?_) (fun c6 => ?_)
            · refine bc_ob_i (by omega) ?_
              refine bc_ob_i (by omega) ?_
              refine bc_br_i (fun c7 => ?_) (fun c7 => ?_)
              · exact rt_ h (by rw [if_neg (by omega), if_neg (by omega), if_neg (by omega), if_pos (by omega)])
              · exact rt_ h (by rw [if_neg (by omega), if_neg (by omega), if_neg (by omega), if_neg (by omega)])
            · exact rt_ h (by rw [if_neg (by omega), if_neg (by omega), if_pos (by omega)])
    · exact rt_ h (by rw [if_pos (by omega)])
theorem t_X10_mendFault {m : Int} (hF : fa_ B σ v) (hB : B ≤ 1000000) (hm : bc_in m) (h : Rr (some (bc_I (eq_ (c_r v) m))) σ) : bc_Sem g (d + 2) mX10_mendFault [bc_R 0, bc_I m] σ Rr X := by
  obtain ⟨⟨h1, -, h3⟩, w1, -, w3⟩ := hF.1.1
  obtain ⟨c1, c2⟩ := st_M1 h1
  obtain ⟨⟨f0, f1, f2, f3, f4, f5, f6, f7, f8, f9⟩, f⟩ := st_T1 h3
  have w0 := w1.1
  have l1 := (wt_le w3).2.1
  refine e_X10_mendFault rfl (fun K hK => ?_)
  unfold eq_ at h
  refine hK.1 [] 60 _ _ _ _ _ ?_
  refine t_X2_has h1 w1 hm ?_
  refine bc_ob_i (by split <;> omega) ?_
  refine bc_br_i (fun c => ?_) (fun c => ?_)
  · exact rt_ h (by rw [if_pos (by split at c <;> omega)])
  · have cm : 0 ≤ m ∧ m < (c_r v) 3 := by split at c <;> omega
    obtain ⟨e1, e2, e3, e4, e5, e6⟩ := c2 m (by omega) (by omega)
    obtain ⟨-, -, -, -, -, g6⟩ := w1.2 m (by omega) (by omega)
    have hco := co_le w1 (k := m) (by omega) (by omega)
    refine bc_ob_i (by omega) ?_
    refine bc_ob_i (by omega) ?_
    refine bc_br_i (fun c2 => ?_) (fun c2 => ?_)
    · refine t_X2_costOf h1 w1 (by omega) (by omega) ?_
      refine bc_ob_i (by omega) ?_
      refine bc_br_i (fun c3 => ?_) (fun c3 => ?_)
      · exact rt_ h (by rw [if_neg (by omega), if_neg (by omega), if_pos (by omega)])
      · exact rt_ h (by rw [if_neg (by omega), if_neg (by omega), if_neg (by omega)])
    · exact rt_ h (by rw [if_neg (by omega), if_pos (by omega)])
theorem t_X10_leaveFault {m b : Int} (hF : fa_ B σ v) (hm : bc_in m) (hb : 0 ≤ b ∧ b ≤ 1) (h : Rr (some (bc_I (lq_ (c_r v) m b))) σ) : bc_Sem g (d + 2) mX10_leaveFault [bc_R 0, bc_I m, bc_I b] σ Rr X := by
  obtain ⟨⟨h1, -, h3⟩, w1, -, w3⟩ := hF.1.1
  obtain ⟨c1, c2⟩ := st_M1 h1
  have w0 := w1.1
  refine e_X10_leaveFault rfl (fun K hK => ?_)
  unfold lq_ at h
  refine hK.1 [] 60 _ _ _ _ _ ?_
  refine t_X2_has h1 w1 hm ?_
  refine bc_ob_i (by split <;> omega) ?_
  refine bc_br_i (fun c => ?_) (fun c => ?_)
  · exact rt_ h (by rw [if_pos (by split at c <;> omega)])
  · have cm : 0 ≤ m ∧ m < (c_r v) 3 := by split at c <;> omega
    obtain ⟨e1, e2, e3, e4, e5, e6⟩ := c2 m (by omega) (by omega)
    obtain ⟨-, -, -, -, -, g6⟩ := w1.2 m (by omega) (by omega)
    refine bc_ob_i (by omega) ?_
    refine bc_ob_i (by omega) ?_
    refine bc_br_i (fun c2 => ?_) (fun c2 => ?_)
    · exact rt_ h (by rw [if_neg (by omega), if_pos (by omega)])
    · exact rt_ h (by rw [if_neg (by omega), if_neg (by omega)])
theorem t_X10_strainFault {m : Int} (hF : fa_ B σ v) (hm : bc_in m) (h : Rr (some (bc_I (tq_ (c_r v) m))) σ) : bc_Sem g (d + 2) mX10_strainFault [bc_R 0, bc_I m] σ Rr X := by
  obtain ⟨⟨h1, -, h3⟩, w1, -, w3⟩ := hF.1.1
  obtain ⟨c1, c2⟩ := st_M1 h1
  have w0 := w1.1
  refine e_X10_strainFault rfl (fun K hK => ?_)
  unfold tq_ at h
  refine hK.1 [] 60 _ _ _ _ _ ?_
  refine t_X2_has h1 w1 hm ?_
  refine bc_ob_i (by split <;> omega) ?_
  refine bc_br_i (fun c => ?_) (fun c => ?_)
  · exact rt_ h (by rw [if_pos (by split at c <;> omega)])
  · have cm : 0 ≤ m ∧ m < (c_r v) 3 := by split at c <;> omega
    have hbr := br_le w1 (k := m) (by omega) (by omega)
    refine t_X2_bearingOf h1 w1 (by omega) (by omega) ?_
    refine bc_ob_i (by omega) ?_
    refine bc_br_i (fun c2 => ?_) (fun c2 => ?_)
    · exact rt_ h (by rw [if_neg (by omega), if_pos (by omega)])
    · exact rt_ h (by rw [if_neg (by omega), if_neg (by omega)])
end FAC
end
section
/-! what an update of one part of the row leaves of the others -/
noncomputable def eM_ (r r' : rw_t) : Prop := ∀ j : Int, j = 3 ∨ (16 ≤ j ∧ j < 112) → r' j = r j
noncomputable def eN_ (r r' : rw_t) : Prop := ∀ j : Int, 11 ≤ j ∧ j ≤ 15 → r' j = r j
noncomputable def eT_ (r r' : rw_t) : Prop := ∀ j : Int, (0 ≤ j ∧ j ≤ 2) ∨ (4 ≤ j ∧ j ≤ 10) ∨ (112 ≤ j ∧ j < 136) → r' j = r j
theorem st_M_e {σ : bc_M} {b : Nat} {r r' : rw_t} (e : eM_ r r') (h : st_M σ b r) : st_M σ b r' := by
  refine ⟨by rw [e 3 (by omega)]; exact h.1, fun k k0 k1 => ?_⟩
  rw [e (16 + 6 * k) (by omega), e (17 + 6 * k) (by omega), e (18 + 6 * k) (by omega), e (19 + 6 * k) (by omega), e (20 + 6 * k) (by omega), e (21 + 6 * k) (by omega)]
  exact h.2 k k0 k1
theorem wf_M_e {r r' : rw_t} (e : eM_ r r') (h : wf_M r) : wf_M r' := by
  refine ⟨by rw [e 3 (by omega)]; exact h.1, fun k k0 k1 => ?_⟩
  rw [e (16 + 6 * k) (by omega), e (17 + 6 * k) (by omega), e (18 + 6 * k) (by omega), e (19 + 6 * k) (by omega), e (20 + 6 * k) (by omega), e (21 + 6 * k) (by omega)]
  exact h.2 k k0 k1
theorem st_N_e {σ : bc_M} {b : Nat} {r r' : rw_t} (e : eN_ r r') (h : st_N σ b r) : st_N σ b r' := ⟨by rw [e 11 (by omega)]; exact h.1, fun k k0 k1 => by rw [e (12 + k) (by omega)]; exact h.2 k k0 k1⟩
theorem wf_N_e {r r' : rw_t} (e : eN_ r r') (h : wf_N r) : wf_N r' := by
  unfold wf_N at *
  rw [e 11 (by omega), e 12 (by omega), e 13 (by omega), e 14 (by omega), e 15 (by omega)]
  exact h
theorem st_T_e {σ : bc_M} {b : Nat} {r r' : rw_t} (e : eT_ r r') (h : st_T σ b r) : st_T σ b r' := by
  refine ⟨?_, fun k k0 k1 => ?_⟩
  · rw [e 0 (by omega), e 1 (by omega), e 2 (by omega), e 8 (by omega), e 9 (by omega), e 10 (by omega), e 6 (by omega), e 7 (by omega), e 5 (by omega), e 4 (by omega)]
    exact h.1
  · rw [e (112 + 3 * k) (by omega), e (113 + 3 * k) (by omega), e (114 + 3 * k) (by omega)]
    exact h.2 k k0 k1
theorem wf_T_e {B : Int} {r r' : rw_t} (e : eT_ r r') (h : wf_T B r) : wf_T B r' := by
  obtain ⟨a0, a1, a2, a3, a4, a5, a6, a7, a8, a9, a10, a11, a12, a13, a14⟩ := h
  unfold wf_T
  rw [e 0 (by omega), e 1 (by omega), e 2 (by omega), e 8 (by omega), e 9 (by omega), e 10 (by omega), e 6 (by omega), e 7 (by omega), e 5 (by omega), e 4 (by omega)]
  refine ⟨a0, a1, a2, a3, a4, a5, a6, a7, a8, a9, a10, a11, fun k k0 k1 => ?_, fun k k0 k1 => ?_, fun k l k0 k1 k2 => ?_⟩
  · rw [e (112 + 3 * k) (by omega), e (113 + 3 * k) (by omega), e (114 + 3 * k) (by omega)]
    exact a12 k k0 k1
  · rw [e (112 + 3 * k) (by omega), e (113 + 3 * k) (by omega)]
    exact a13 k k0 k1
  · rw [e (112 + 3 * k) (by omega), e (112 + 3 * l) (by omega)]
    exact a14 k l k0 k1 k2
theorem st_A_M {P : Nat → Prop} {B : Int} {σ σ' : bc_M} {r r' : rw_t} (h : st_A B σ 1 r) (hf : fr_ P σ σ') (hp : ∀ k, 9 ≤ k → k ≤ 14 → ¬ P k) (eN : eN_ r r') (eT : eT_ r r') (hS : st_M σ' 1 r') (hW : wf_M r') : st_A B σ' 1 r' :=
  ⟨⟨hS, st_N_e eN (st_N_fr h.1.2.1 hf (fun k a b => hp k (by omega) (by omega))), st_T_e eT (st_T_fr h.1.2.2 hf (fun k a b => hp k (by omega) (by omega)))⟩, hW, wf_N_e eN h.2.2.1, wf_T_e eT h.2.2.2⟩
theorem st_A_N {P : Nat → Prop} {B : Int} {σ σ' : bc_M} {r r' : rw_t} (h : st_A B σ 1 r) (hf : fr_ P σ σ') (hp : ∀ k, (2 ≤ k ∧ k ≤ 8) ∨ (11 ≤ k ∧ k ≤ 14) → ¬ P k) (eM : eM_ r r') (eT : eT_ r r') (hS : st_N σ' 1 r') (hW : wf_N r') : st_A B σ' 1 r' :=
  ⟨⟨st_M_e eM (st_M_fr h.1.1 hf (fun k a b => hp k (by omega))), hS, st_T_e eT (st_T_fr h.1.2.2 hf (fun k a b => hp k (by omega)))⟩, wf_M_e eM h.2.1, hW, wf_T_e eT h.2.2.2⟩
theorem st_A_T {P : Nat → Prop} {B B' : Int} {σ σ' : bc_M} {r r' : rw_t} (h : st_A B σ 1 r) (hf : fr_ P σ σ') (hp : ∀ k, 2 ≤ k → k ≤ 10 → ¬ P k) (eM : eM_ r r') (eN : eN_ r r') (hS : st_T σ' 1 r') (hW : wf_T B' r') : st_A B' σ' 1 r' :=
  ⟨⟨st_M_e eM (st_M_fr h.1.1 hf (fun k a b => hp k (by omega) (by omega))), st_N_e eN (st_N_fr h.1.2.1 hf (fun k a b => hp k (by omega) (by omega))), hS⟩, wf_M_e eM h.2.1, wf_N_e eN h.2.2.1, hW⟩
theorem ra_wf {r : rw_t} {a b s : Int} (h : wf_M r) (hc : r 3 < 16) (ha : 0 ≤ a ∧ a < 8) (hb : 0 ≤ b ∧ b < 8) (hs : 1 ≤ s ∧ s ≤ 99) : wf_M (ra_ r a b s) ∧ eN_ r (ra_ r a b s) ∧ eT_ r (ra_ r a b s) := by
  have h1 := h.1
  refine ⟨⟨by unfold ra_; simp; omega, fun k k0 k1 => ?_⟩, fun j hj => ?_, fun j hj => ?_⟩
  · have := h.2 k k0 k1
    by_cases e : k = r 3
    · rw [e]
      have x0 : ra_ r a b s (16 + 6 * r 3) = min a b := by unfold ra_; rw [if_neg (by omega), if_pos rfl]
      have x1 : ra_ r a b s (17 + 6 * r 3) = max a b := by unfold ra_; rw [if_neg (by omega), if_neg (by omega), if_pos rfl]
      have x2 : ra_ r a b s (18 + 6 * r 3) = s := by unfold ra_; rw [if_neg (by omega), if_neg (by omega), if_neg (by omega), if_pos rfl]
      have x3 : ra_ r a b s (19 + 6 * r 3) = 0 := by unfold ra_; rw [if_neg (by omega), if_neg (by omega), if_neg (by omega), if_neg (by omega), if_pos rfl]
      have x4 : ra_ r a b s (20 + 6 * r 3) = 0 := by unfold ra_; rw [if_neg (by omega), if_neg (by omega), if_neg (by omega), if_neg (by omega), if_neg (by omega), if_pos rfl]
      have x5 : ra_ r a b s (21 + 6 * r 3) = 0 := by unfold ra_; rw [if_neg (by omega), if_neg (by omega), if_neg (by omega), if_neg (by omega), if_neg (by omega), if_neg (by omega), if_pos rfl]
      rw [x0, x1, x2, x3, x4, x5]
      omega
    · have y : ∀ q : Int, 16 ≤ q → q ≤ 21 → ra_ r a b s (q + 6 * k) = r (q + 6 * k) := fun q q0 q1 => by
        unfold ra_
        rw [if_neg (by omega), if_neg (by omega), if_neg (by omega), if_neg (by omega), if_neg (by omega), if_neg (by omega), if_neg (by omega)]
      rw [y 16 (by omega) (by omega), y 17 (by omega) (by omega), y 18 (by omega) (by omega), y 19 (by omega) (by omega), y 20 (by omega) (by omega), y 21 (by omega) (by omega)]
      exact this
  · unfold ra_
    rw [if_neg (by omega), if_neg (by omega), if_neg (by omega), if_neg (by omega), if_neg (by omega), if_neg (by omega), if_neg (by omega)]
  · unfold ra_
    rw [if_neg (by omega), if_neg (by omega), if_neg (by omega), if_neg (by omega), if_neg (by omega), if_neg (by omega), if_neg (by omega)]
theorem rd_wf {r : rw_t} {m f : Int} (h : wf_M r) (m0 : 0 ≤ m) (m1 : m < 16) (hf : 0 ≤ f) : wf_M (rd_ r m f) ∧ eN_ r (rd_ r m f) ∧ eT_ r (rd_ r m f) := by
  have h1 := h.1
  refine ⟨⟨by unfold rd_; rw [if_neg (by omega), if_neg (by omega)]; exact h1, fun k k0 k1 => ?_⟩, fun j hj => ?_, fun j hj => ?_⟩
  · have q := h.2 k k0 k1
    have y : ∀ z : Int, 16 ≤ z → z ≤ 21 → z ≠ 19 → z ≠ 20 → rd_ r m f (z + 6 * k) = r (z + 6 * k) := fun z z0 z1 z2 z3 => by
      unfold rd_
      rw [if_neg (by omega), if_neg (by omega)]
    rw [y 16 (by omega) (by omega) (by omega) (by omega), y 17 (by omega) (by omega) (by omega) (by omega), y 18 (by omega) (by omega) (by omega) (by omega), y 21 (by omega) (by omega) (by omega) (by omega)]
    refine ⟨q.1, q.2.1, q.2.2.1, ?_, ?_, q.2.2.2.2.2⟩
    · have := h.2 m m0 m1
      unfold rd_
      split
      · omega
      · rw [if_neg (by omega)]
        exact q.2.2.2.1
    · have := h.2 m m0 m1
      unfold rd_
      rw [if_neg (by omega)]
      split
      · omega
      · exact q.2.2.2.2.1
  · unfold rd_
    rw [if_neg (by omega), if_neg (by omega)]
  · unfold rd_
    rw [if_neg (by omega), if_neg (by omega)]
theorem rn_wf {r : rw_t} {m : Int} (h : wf_M r) (m0 : 0 ≤ m) (m1 : m < 16) : wf_M (rn_ r m) ∧ eN_ r (rn_ r m) ∧ eT_ r (rn_ r m) := by
  have h1 := h.1
  refine ⟨⟨by unfold rn_; rw [if_neg (by omega), if_neg (by omega)]; exact h1, fun k k0 k1 => ?_⟩, fun j hj => ?_, fun j hj => ?_⟩
  · have q := h.2 k k0 k1
    unfold rn_
    refine ⟨?_, ?_, ?_, ?_, ?_, ?_⟩ <;> (repeat' split) <;> omega
  · unfold rn_
    rw [if_neg (by omega), if_neg (by omega)]
  · unfold rn_
    rw [if_neg (by omega), if_neg (by omega)]
theorem rl_wf {r : rw_t} {m b : Int} (h : wf_M r) (m0 : 0 ≤ m) (m1 : m < 16) (hb : 0 ≤ b ∧ b ≤ 1) : wf_M (rl_ r m b) ∧ eN_ r (rl_ r m b) ∧ eT_ r (rl_ r m b) := by
  have h1 := h.1
  refine ⟨⟨by unfold rl_; rw [if_neg (by omega)]; exact h1, fun k k0 k1 => ?_⟩, fun j hj => ?_, fun j hj => ?_⟩
  · have q := h.2 k k0 k1
    unfold rl_
    refine ⟨?_, ?_, ?_, ?_, ?_, ?_⟩ <;> (repeat' split) <;> omega
  · unfold rl_
    rw [if_neg (by omega)]
  · unfold rl_
    rw [if_neg (by omega)]
theorem re_wf {r : rw_t} {c : Int} (hc : c = 99 ∨ c = 108) : wf_N (re_ r c) ∧ eM_ r (re_ r c) ∧ eT_ r (re_ r c) := by
  refine ⟨?_, fun j hj => ?_, fun j hj => ?_⟩
  · unfold wf_N re_
    simp
    exact hc
  · unfold re_
    rw [if_neg (by omega), if_neg (by omega)]
  · unfold re_
    rw [if_neg (by omega), if_neg (by omega)]
theorem rp_wf {r : rw_t} {p w : Int} (h : wf_N r) (p0 : 0 ≤ p) (p1 : p < 4) (hw : 0 ≤ w ∧ w ≤ 20) : wf_N (rp_ r p w) ∧ eM_ r (rp_ r p w) ∧ eT_ r (rp_ r p w) := by
  refine ⟨?_, fun j hj => ?_, fun j hj => ?_⟩
  · unfold wf_N rp_ up_ at *
    refine ⟨?_, ?_, ?_, ?_, ?_⟩ <;> repeat' split
    all_goals omega
  · unfold rp_
    exact up_ne (by omega)
  · unfold rp_
    exact up_ne (by omega)
theorem f2_wf {B : Int} {r : rw_t} {n : Int} (h : wf_T B r) (hn : 0 ≤ n ∧ n ≤ 20) : wf_T B (up_ r 2 n) ∧ eM_ r (up_ r 2 n) ∧ eN_ r (up_ r 2 n) := by
  obtain ⟨a0, a1, a2, a3, a4, a5, a6, a7, a8, a9, a10, a11, a12, a13, a14⟩ := h
  have y : ∀ j : Int, j ≠ 2 → up_ r 2 n j = r j := fun j hj => up_ne hj
  refine ⟨?_, fun j hj => y j (by omega), fun j hj => y j (by omega)⟩
  unfold wf_T
  rw [y 0 (by omega), y 1 (by omega), y 4 (by omega), y 5 (by omega), y 6 (by omega), y 7 (by omega), y 8 (by omega), y 9 (by omega), y 10 (by omega), up_at]
  refine ⟨a0, a1, hn, a3, a4, a5, a6, a7, a8, a9, a10, a11, fun k k0 k1 => ?_, fun k k0 k1 => ?_, fun k l k0 k1 k2 => ?_⟩
  · rw [y _ (by omega), y _ (by omega), y _ (by omega)]; exact a12 k k0 k1
  · rw [y _ (by omega), y _ (by omega)]; exact a13 k k0 k1
  · rw [y _ (by omega), y _ (by omega)]; exact a14 k l k0 k1 k2
theorem rs_wf {B : Int} {r : rw_t} {c : Int} (h : wf_T B r) (hc : 0 ≤ c ∧ c ≤ r 1) : wf_T B (rs_ r c) ∧ eM_ r (rs_ r c) ∧ eN_ r (rs_ r c) := by
  obtain ⟨a0, a1, a2, a3, a4, a5, a6, a7, a8, a9, a10, a11, a12, a13, a14⟩ := h
  have y : ∀ j : Int, j ≠ 1 → j ≠ 10 → rs_ r c j = r j := fun j h1 h2 => (up_ne h2).trans (up_ne h1)
  have y1 : rs_ r c 1 = r 1 - c := (up_ne (by omega)).trans up_at
  have y2 : rs_ r c 10 = r 10 + c := up_at
  refine ⟨?_, fun j hj => y j (by omega) (by omega), fun j hj => y j (by omega) (by omega)⟩
  unfold wf_T
  rw [y 0 (by omega) (by omega), y1, y 2 (by omega) (by omega), y 4 (by omega) (by omega), y 5 (by omega) (by omega), y 6 (by omega) (by omega), y 7 (by omega) (by omega), y 8 (by omega) (by omega), y 9 (by omega) (by omega), y2]
  refine ⟨a0, by omega, a2, a3, a4, a5, a6, a7, a8, a9, by omega, by omega, fun k k0 k1 => ?_, fun k k0 k1 => ?_, fun k l k0 k1 k2 => ?_⟩
  · rw [y _ (by omega) (by omega), y _ (by omega) (by omega), y _ (by omega) (by omega)]; exact a12 k k0 k1
  · rw [y _ (by omega) (by omega), y _ (by omega) (by omega)]; exact a13 k k0 k1
  · rw [y _ (by omega) (by omega), y _ (by omega) (by omega)]; exact a14 k l k0 k1 k2
theorem rv_wf {B : Int} {r : rw_t} {a u : Int} (h : wf_T B r) (ha : r 0 < a ∧ a ≤ r 0 + 50) (hu : 1 ≤ u ∧ u ≤ 99) (h8 : r 4 < 8) : wf_T (B + 1) (rv_ r a u) ∧ eM_ r (rv_ r a u) ∧ eN_ r (rv_ r a u) := by
  obtain ⟨a0, a1, a2, a3, a4, a5, a6, a7, a8, a9, a10, a11, a12, a13, a14⟩ := h
  have y : ∀ j : Int, j ≠ 4 → j ≠ 5 → j ≠ 112 + 3 * r 4 → j ≠ 113 + 3 * r 4 → j ≠ 114 + 3 * r 4 → rv_ r a u j = r j := fun j h1 h2 h3 h4 h5 => (up_ne h2).trans ((up_ne h1).trans ((up_ne h5).trans ((up_ne h4).trans (up_ne h3))))
  have y5 : rv_ r a u 5 = r 5 + 1 := up_at
  have y4 : rv_ r a u 4 = r 4 + 1 := (up_ne (by omega)).trans up_at
  have yu : rv_ r a u (114 + 3 * r 4) = u := (up_ne (by omega)).trans ((up_ne (by omega)).trans up_at)
  have ya : rv_ r a u (113 + 3 * r 4) = a := (up_ne (by omega)).trans ((up_ne (by omega)).trans ((up_ne (by omega)).trans up_at))
  have yi : rv_ r a u (112 + 3 * r 4) = r 5 := (up_ne (by omega)).trans ((up_ne (by omega)).trans ((up_ne (by omega)).trans ((up_ne (by omega)).trans up_at)))
  refine ⟨?_, fun j hj => y j (by omega) (by omega) (by omega) (by omega) (by omega), fun j hj => y j (by omega) (by omega) (by omega) (by omega) (by omega)⟩
  unfold wf_T
  rw [y 0 (by omega) (by omega) (by omega) (by omega) (by omega), y 1 (by omega) (by omega) (by omega) (by omega) (by omega), y 2 (by omega) (by omega) (by omega) (by omega) (by omega), y4, y5, y 6 (by omega) (by omega) (by omega) (by omega) (by omega), y 7 (by omega) (by omega) (by omega) (by omega) (by omega), y 8 (by omega) (by omega) (by omega) (by omega) (by omega), y 9 (by omega) (by omega) (by omega) (by omega) (by omega), y 10 (by omega) (by omega) (by omega) (by omega) (by omega)]
  refine ⟨by omega, a1, a2, by omega, by omega, a5, a6, by omega, by omega, a9, a10, a11, fun k k0 k1 => ?_, fun k k0 k1 => ?_, fun k l k0 k1 k2 => ?_⟩
  · by_cases e : k = r 4
    · rw [e, yi, ya, yu]; omega
    · rw [y _ (by omega) (by omega) (by omega) (by omega) (by omega), y _ (by omega) (by omega) (by omega) (by omega) (by omega), y _ (by omega) (by omega) (by omega) (by omega) (by omega)]
      have := a12 k k0 k1
      omega
  · by_cases e : k = r 4
    · rw [e, yi, ya]; omega
    · rw [y _ (by omega) (by omega) (by omega) (by omega) (by omega), y _ (by omega) (by omega) (by omega) (by omega) (by omega)]
      have := a13 k k0 (by omega)
      omega
  · rw [y (112 + 3 * k) (by omega) (by omega) (by omega) (by omega) (by omega)]
    by_cases e : l = r 4
    · rw [e, yi]
      exact (a13 k k0 (by omega)).2
    · rw [y (112 + 3 * l) (by omega) (by omega) (by omega) (by omega) (by omega)]
      exact a14 k l k0 k1 (by omega)
theorem vd_3 {B : Int} {r : rw_t} (hd : wd_ B r) : vd_ r 3 = r 3 := by
  have d3 := hd.2.2.2.1
  obtain ⟨a1, ⟨b0, b2, b3, b4, b5, b8, b10⟩, -⟩ := wv_n hd (r 4).toNat (by omega)
  have u : vd_ r 3 = (vf_ r (r 4).toNat).1 3 := by unfold vd_ up_; rw [if_neg (by decide)]
  rw [u, b3]
theorem pd_3 {B : Int} {r : rw_t} (h : wf_T B r) : pd_ r 3 = r 3 := by
  unfold pd_
  rw [vd_3 (pi_wd h)]
  unfold pi_ up_
  rw [if_neg (by omega), if_neg (by omega), if_neg (by omega)]
theorem ps_e {B : Int} {r : rw_t} (h : wf_T B r) (n : Nat) : eM_ r (ps_ r n) ∧ eN_ r (ps_ r n) := by
  have key : ∀ j : Int, (j = 3 ∨ (11 ≤ j ∧ j < 112)) → ps_ r n j = r j := by
    intro j hj
    rcases hj with rfl | hj
    · induction n with
      | zero => rfl
      | succ n ih =>
        show pd_ (ps_ r n) 3 = r 3
        rw [pd_3 (ps_wf h n).1]
        exact ih
    · exact (ps_wf h n).2 j hj.1 hj.2
  exact ⟨fun j hj => key j (by omega), fun j hj => key j (by omega)⟩
end
section
/-! the calls that change the state; their refusals -/
/-- the object remembers its state -/
noncomputable abbrev rm_ (v : cs_t) : cs_t := u_h v (hr_ (c_h v) (c_r v)) ((c_n v + 1) % 8)
section FAC
variable {g : bc_C} {d : Nat} {σ : bc_M} {B : Int} {v : cs_t} {Rr : Option bc_A → bc_M → Prop} {X : Nat → bc_M → Prop}
theorem t_rem (hF : fa_ B σ v) (h : ∀ σ' : bc_M, fa_ B σ' (rm_ v) → fr_ ob_ σ σ' → Rr none σ') : bc_Sem g (d + 3) mX1_remember [bc_R 43, bc_R 1] σ Rr X := by
  refine t_X1_remember (.inl rfl) hF.1.2.2.2 hF.1.1 (fun σ' h1 f1 => ?_)
  exact h σ' (fa_h hF f1 (by omega) h1) (fr_mono f1 (by omega))
theorem t_X10_addMember {a b s : Int} (hF : fa_ B σ v) (ha : bc_in a) (hb : bc_in b) (hs : bc_in s) (h1 : ∀ e : Nat, mq_ (c_r v) a b s (e + 1) → X e σ) (h0 : mq_ (c_r v) a b s 0 → ∀ σ', fa_ B σ' (u_r (rm_ v) (ra_ (c_r v) a b s)) → fr_ ob_ σ σ' → Rr (some (bc_I ((c_r v) 3))) σ') : bc_Sem g (d + 5) mX10_addMember [bc_R 0, bc_I a, bc_I b, bc_I s] σ Rr X := by
  refine e_X10_addMember rfl (fun K hK => ?_)
  refine hK.1 [] 60 _ _ _ _ _ ?_
  refine t_X10_memberFault hF ha hb hs (fun f hf => ?_)
  have hl := mq_le hf
  refine t_X10_refuse hl.1 hl.2 (fun e0 => ?_) (fun e he => h1 e (by rw [← he]; exact hf))
  rw [e0] at hf
  refine t_rem hF (fun σ1 F1 f1 => ?_)
  have hp : pf_ a b = 0 ∧ (1 ≤ s ∧ s ≤ 99) ∧ (c_r v) 3 < 16 := by
    have := pf_le a b
    rcases hf with ⟨q, e⟩ | ⟨q, -, e⟩ | ⟨q, -, -, e⟩ | ⟨q, q1, q2, -, -⟩
    · omega
    · omega
    · omega
    · exact ⟨q, q1, q2⟩
  obtain ⟨a0, b0, -⟩ := pf_0 hp.1
  obtain ⟨w1, w2, w3⟩ := ra_wf F1.1.1.2.1 hp.2.2 a0 b0 hp.2.1
  refine t_X2_append F1.1.1.1.1 F1.1.1.2.1 hp.2.2 ha hb (fun σ2 s2 f2 => ?_)
  exact h0 hf σ2 (fa_r F1 (Int.le_refl _) f2 (by omega) (st_A_M F1.1.1 f2 (by omega) w2 w3 s2 w1)) (fr_trans f1 (fr_mono f2 (by omega)))
theorem t_X10_makeVow {a u : Int} (hF : fa_ B σ v) (hB : B ≤ 999999) (ha : bc_in a) (hu : bc_in u) (h1 : ∀ e : Nat, vq_ (c_r v) a u = e + 1 → X e σ) (h0 : vq_ (c_r v) a u = 0 → ∀ σ', fa_ (B + 1) σ' (u_r (rm_ v) (rv_ (c_r v) a u)) → fr_ ob_ σ σ' → Rr (some (bc_I ((c_r v) 5))) σ') : bc_Sem g (d + 5) mX10_makeVow [bc_R 0, bc_I a, bc_I u] σ Rr X := by
  refine e_X10_makeVow rfl (fun K hK => ?_)
  refine hK.1 [] 60 _ _ _ _ _ ?_
  refine t_X10_vowFault hF (by omega) ha hu ?_
  have hl : 0 ≤ vq_ (c_r v) a u ∧ vq_ (c_r v) a u ≤ 6 := by unfold vq_; repeat' split
                                                            all_goals omega
  refine t_X10_refuse hl.1 hl.2 (fun e0 => ?_) h1
  refine t_rem hF (fun σ1 F1 f1 => ?_)
  have hp : ((c_r v) 0 < a ∧ a ≤ (c_r v) 0 + 50) ∧ (1 ≤ u ∧ u ≤ 99) ∧ (c_r v) 4 < 8 := by
    unfold vq_ at e0
    split at e0
    · omega
    · split at e0 <;> omega
  obtain ⟨w1, w2, w3⟩ := rv_wf F1.1.1.2.2.2 hp.1 hp.2.1 hp.2.2
  refine t_X8_promise F1.1.1.1.2.2 F1.1.1.2.2.2 hp.2.2 (fun σ2 s2 f2 => ?_)
  exact h0 e0 σ2 (fa_r F1 (by omega) f2 (by omega) (st_A_T F1.1.1 f2 (by omega) w2 w3 s2 w1)) (fr_trans f1 (fr_mono f2 (by omega)))
theorem t_X10_setForge {n : Int} (hF : fa_ B σ v) (hn : bc_in n) (h1 : ∀ e : Nat, fq1_ n = e + 1 → X e σ) (h0 : fq1_ n = 0 → ∀ σ', fa_ B σ' (u_r (rm_ v) (up_ (c_r v) 2 n)) → fr_ ob_ σ σ' → Rr (some (bc_I ((c_r v) 2))) σ') : bc_Sem g (d + 5) mX10_setForge [bc_R 0, bc_I n] σ Rr X := by
  refine e_X10_setForge rfl (fun K hK => ?_)
  refine hK.1 [] 60 _ _ _ _ _ ?_
  refine t_X10_forgeFault hn ?_
  have hl : 0 ≤ fq1_ n ∧ fq1_ n ≤ 6 := by unfold fq1_; split <;> omega
  refine t_X10_refuse hl.1 hl.2 (fun e0 => ?_) h1
  refine t_rem hF (fun σ1 F1 f1 => ?_)
  have hp : 0 ≤ n ∧ n ≤ 20 := by unfold fq1_ at e0; split at e0 <;> omega
  obtain ⟨w1, w2, w3⟩ := f2_wf F1.1.1.2.2.2 hp
  refine t_X8_heatForge F1.1.1.1.2.2 (fun σ2 s2 f2 => ?_)
  exact h0 e0 σ2 (fa_r F1 (by omega) f2 (by omega) (st_A_T F1.1.1 f2 (by omega) w2 w3 s2 w1)) (fr_trans f1 (fr_mono f2 (by omega)))
theorem t_X10_mend {m : Int} (hF : fa_ B σ v) (m0 : 0 ≤ m ∧ m < (c_r v) 3) (hc : co_ (c_r v) m ≤ (c_r v) 1) (h : ∀ σ', fa_ B σ' (u_r v (rn_ (rs_ (c_r v) (co_ (c_r v) m)) m)) → fr_ ob_ σ σ' → Rr (some (bc_I (co_ (c_r v) m))) σ') : bc_Sem g (d + 2) mX10_mend [bc_R 0, bc_I m] σ Rr X := by
  have w0 := hF.1.1.2.1.1
  refine e_X10_mend rfl (fun K hK => ?_)
  refine hK.1 [] 60 _ _ _ _ _ ?_
  refine t_X2_costOf hF.1.1.1.1 hF.1.1.2.1 m0.1 (by omega) ?_
  have hco := co_le hF.1.1.2.1 (k := m) m0.1 (by omega)
  obtain ⟨w1, w2, w3⟩ := rs_wf (c := co_ (c_r v) m) hF.1.1.2.2.2 ⟨hco.1, hc⟩
  refine t_X8_payRepair hF.1.1.1.2.2 (fun σ1 s1 f1 => ?_)
  have A1 := st_A_T hF.1.1 f1 (by omega) w2 w3 s1 w1
  obtain ⟨x1, x2, x3⟩ := rn_wf (m := m) A1.2.1 m0.1 (by omega)
  refine t_X2_renew A1.1.1 A1.2.1 m0.1 (by omega) (fun σ2 s2 f2 => ?_)
  have f12 : fr_ (fun k => 2 ≤ k ∧ k ≤ 14) σ σ2 := fr_trans (fr_mono f1 (by omega)) (fr_mono f2 (by omega))
  exact h σ2 (fa_r hF (by omega) f12 (by omega) (st_A_M A1 f2 (by omega) x2 x3 s2 x1)) (fr_mono f12 (by omega))
theorem t_X10_repair {m : Int} (hF : fa_ B σ v) (hB : B ≤ 1000000) (hm : bc_in m) (h1 : ∀ e : Nat, eq_ (c_r v) m = e + 1 → X e σ) (h0 : eq_ (c_r v) m = 0 → ∀ σ', fa_ B σ' (u_r (rm_ v) (rn_ (rs_ (c_r v) (co_ (c_r v) m)) m)) → fr_ ob_ σ σ' → Rr (some (bc_I (co_ (c_r v) m))) σ') : bc_Sem g (d + 5) mX10_repair [bc_R 0, bc_I m] σ Rr X := by
  refine e_X10_repair rfl (fun K hK => ?_)
  refine hK.1 [] 60 _ _ _ _ _ ?_
  refine t_X10_mendFault hF hB hm ?_
  have hl : 0 ≤ eq_ (c_r v) m ∧ eq_ (c_r v) m ≤ 6 := by unfold eq_; repeat' split
                                                        all_goals omega
  refine t_X10_refuse hl.1 hl.2 (fun e0 => ?_) h1
  refine t_rem hF (fun σ1 F1 f1 => ?_)
  have hp : (0 ≤ m ∧ m < (c_r v) 3) ∧ co_ (c_r v) m ≤ (c_r v) 1 := by
    unfold eq_ at e0
    split at e0
    · omega
    · split at e0
      · omega
      · split at e0 <;> omega
  refine t_X10_mend F1 hp.1 hp.2 (fun σ2 F2 f2 => ?_)
  exact h0 e0 σ2 F2 (fr_trans f1 f2)
/-- how many are abandoned -/
noncomputable def ab_ (r : rw_t) : Int := sm_ (fun k => r (21 + 6 * k)) (r 3).toNat
theorem rl_3 {r : rw_t} {m b : Int} (m0 : 0 ≤ m) : rl_ r m b 3 = r 3 := by unfold rl_; rw [if_neg (by omega)]
theorem t_X10_abandon {m : Int} (hF : fa_ B σ v) (hm : bc_in m) (h1 : ∀ e : Nat, lq_ (c_r v) m 0 = e + 1 → X e σ) (h0 : lq_ (c_r v) m 0 = 0 → ∀ σ', fa_ B σ' (u_r (rm_ v) (rl_ (c_r v) m 1)) → fr_ ob_ σ σ' → Rr (some (bc_I (ab_ (rl_ (c_r v) m 1)))) σ') : bc_Sem g (d + 5) mX10_abandon [bc_R 0, bc_I m] σ Rr X := by
  refine e_X10_abandon rfl (fun K hK => ?_)
  refine hK.1 [] 60 _ _ _ _ _ ?_
  refine t_X10_leaveFault hF hm (by decide) ?_
  have hl : 0 ≤ lq_ (c_r v) m 0 ∧ lq_ (c_r v) m 0 ≤ 6 := by unfold lq_; repeat' split
                                                            all_goals omega
  refine t_X10_refuse hl.1 hl.2 (fun e0 => ?_) h1
  refine t_rem hF (fun σ1 F1 f1 => ?_)
  have w0 := hF.1.1.2.1.1
  have hp : 0 ≤ m ∧ m < (c_r v) 3 := by unfold lq_ at e0; split at e0 <;> omega
  obtain ⟨w1, w2, w3⟩ := rl_wf (m := m) (b := 1) F1.1.1.2.1 hp.1 (by omega) (by decide)
  have h0' := h0 e0
  unfold ab_ at h0'
  rw [rl_3 hp.1] at h0'
  refine t_X2_leave F1.1.1.1.1 F1.1.1.2.1 hp.1 (by omega) (by decide) (fun σ2 s2 f2 => ?_)
  exact h0' σ2 (fa_r F1 (by omega) f2 (by omega) (st_A_M F1.1.1 f2 (by omega) w2 w3 s2 w1)) (fr_trans f1 (fr_mono f2 (by omega)))
theorem t_X10_resume {m : Int} (hF : fa_ B σ v) (hm : bc_in m) (h1 : ∀ e : Nat, lq_ (c_r v) m 1 = e + 1 → X e σ) (h0 : lq_ (c_r v) m 1 = 0 → ∀ σ', fa_ B σ' (u_r (rm_ v) (rl_ (c_r v) m 0)) → fr_ ob_ σ σ' → Rr (some (bc_I (ab_ (rl_ (c_r v) m 0)))) σ') : bc_Sem g (d + 5) mX10_resume [bc_R 0, bc_I m] σ Rr X := by
  refine e_X10_resume rfl (fun K hK => ?_)
  refine hK.1 [] 60 _ _ _ _ _ ?_
  refine t_X10_leaveFault hF hm (by decide) ?_
  have hl : 0 ≤ lq_ (c_r v) m 1 ∧ lq_ (c_r v) m 1 ≤ 6 := by unfold lq_; repeat' split
                                                            all_goals omega
  refine t_X10_refuse hl.1 hl.2 (fun e0 => ?_) h1
  refine t_rem hF (fun σ1 F1 f1 => ?_)
  have w0 := hF.1.1.2.1.1
  have hp : 0 ≤ m ∧ m < (c_r v) 3 := by unfold lq_ at e0; split at e0 <;> omega
  obtain ⟨w1, w2, w3⟩ := rl_wf (m := m) (b := 0) F1.1.1.2.1 hp.1 (by omega) (by decide)
  have h0' := h0 e0
  unfold ab_ at h0'
  rw [rl_3 hp.1] at h0'
  refine t_X2_leave F1.1.1.1.1 F1.1.1.2.1 hp.1 (by omega) (by decide) (fun σ2 s2 f2 => ?_)
  exact h0' σ2 (fa_r F1 (by omega) f2 (by omega) (st_A_M F1.1.1 f2 (by omega) w2 w3 s2 w1)) (fr_trans f1 (fr_mono f2 (by omega)))
theorem t_X10_setNiche {c : Int} (hF : fa_ B σ v) (hc : 0 ≤ c ∧ c ≤ 65535) (h1 : ∀ e : Nat, nq1_ c = e + 1 → X e σ) (h0 : nq1_ c = 0 → ∀ σ', fa_ B σ' (u_r (rm_ v) (re_ (c_r v) c)) → fr_ ob_ σ σ' → Rr (some (bc_I (tw_ (c_r v)))) σ') : bc_Sem g (d + 5) mX10_setNiche [bc_R 0, bc_I c] σ Rr X := by
  refine e_X10_setNiche rfl (fun K hK => ?_)
  refine hK.1 [] 60 _ _ _ _ _ ?_
  refine t_X10_nicheFault (by constructor <;> omega) ?_
  have hl : 0 ≤ nq1_ c ∧ nq1_ c ≤ 6 := by unfold nq1_; split <;> omega
  refine t_X10_refuse hl.1 hl.2 (fun e0 => ?_) h1
  refine t_rem hF (fun σ1 F1 f1 => ?_)
  have hp : c = 99 ∨ c = 108 := by unfold nq1_ at e0; split at e0 <;> omega
  obtain ⟨w1, w2, w3⟩ := re_wf (r := c_r v) hp
  refine t_X3_dedicate F1.1.1.1.2.1 F1.1.1.2.2.1 hc (fun σ2 s2 f2 => ?_)
  exact h0 e0 σ2 (fa_r F1 (by omega) f2 (by omega) (st_A_N F1.1.1 f2 (by omega) w2 w3 s2 w1)) (fr_trans f1 (fr_mono f2 (by omega)))
theorem t_X10_put {p c w : Int} (hF : fa_ B σ v) (hp : bc_in p) (hc : 0 ≤ c ∧ c ≤ 65535) (hw : bc_in w) (h1 : ∀ e : Nat, pq_ (c_r v) p c w = e + 1 → X e σ) (h0 : pq_ (c_r v) p c w = 0 → ∀ σ', fa_ B σ' (u_r (rm_ v) (rp_ (c_r v) p w)) → fr_ ob_ σ σ' → Rr (some (bc_I (tw_ (rp_ (c_r v) p w)))) σ') : bc_Sem g (d + 5) mX10_put [bc_R 0, bc_I p, bc_I c, bc_I w] σ Rr X := by
  refine e_X10_put rfl (fun K hK => ?_)
  refine hK.1 [] 60 _ _ _ _ _ ?_
  refine t_X10_placeFault hF hp (by constructor <;> omega) hw ?_
  have hl : 0 ≤ pq_ (c_r v) p c w ∧ pq_ (c_r v) p c w ≤ 6 := by unfold pq_; repeat' split
                                                                all_goals omega
  refine t_X10_refuse hl.1 hl.2 (fun e0 => ?_) h1
  refine t_rem hF (fun σ1 F1 f1 => ?_)
  have hq : (0 ≤ p ∧ p < 4) ∧ 0 ≤ w ∧ w ≤ 20 := by
    unfold pq_ at e0
    split at e0
    · omega
    · split at e0 <;> omega
  obtain ⟨w1, w2, w3⟩ := rp_wf (p := p) (w := w) F1.1.1.2.2.1 hq.1.1 hq.1.2 hq.2
  refine t_X3_place F1.1.1.1.2.1 F1.1.1.2.2.1 hq.1.1 hq.1.2 hq.2 (fun σ2 s2 f2 => ?_)
  exact h0 e0 σ2 (fa_r F1 (by omega) f2 (by omega) (st_A_N F1.1.1 f2 (by omega) w2 w3 s2 w1)) (fr_trans f1 (fr_mono f2 (by omega)))
theorem t_X10_passDays {n : Int} (hF : fa_ B σ v) (hB : B ≤ 999900) (hn : bc_in n) (h1 : ∀ e : Nat, dq_ n = e + 1 → X e σ) (h0 : dq_ n = 0 → ∀ σ', fa_ (B + 30) σ' (u_r (rm_ v) (ps_ (c_r v) n.toNat)) → fr_ ob_ σ σ' → Rr (some (bc_I (ps_ (c_r v) n.toNat 6 - (c_r v) 6))) σ') : bc_Sem g (d + 5) mX10_passDays [bc_R 0, bc_I n] σ Rr X := by
  refine e_X10_passDays rfl (fun K hK => ?_)
  refine hK.1 [] 60 _ _ _ _ _ ?_
  refine t_X10_daysFault hn ?_
  have hl : 0 ≤ dq_ n ∧ dq_ n ≤ 6 := by unfold dq_; split <;> omega
  refine t_X10_refuse hl.1 hl.2 (fun e0 => ?_) h1
  refine t_rem hF (fun σ1 F1 f1 => ?_)
  have hp : 1 ≤ n ∧ n ≤ 30 := by unfold dq_ at e0; split at e0 <;> omega
  have w1 := wf_T_mono (ps_wf F1.1.1.2.2.2 n.toNat).1 (show B + (n.toNat : Int) ≤ B + 30 by omega)
  obtain ⟨w2, w3⟩ := ps_e F1.1.1.2.2.2 n.toNat
  refine t_X8_pass F1.1.1.1.2.2 F1.1.1.2.2.2 (by omega) (by omega) (by omega) (fun σ2 s2 f2 => ?_)
  exact h0 e0 σ2 (fa_r F1 (by omega) f2 (by omega) (st_A_T F1.1.1 f2 (by omega) w2 w3 s2 w1)) (fr_trans f1 (fr_mono f2 (by omega)))
end FAC
end
section
/-! a procession; undo, save, restore -/
noncomputable def wl_ (f : Int) (J : Int → Int) (r : rw_t) : Nat → rw_t → Prop
  | 0, r' => r' = r
  | n + 1, r' => ∃ (q : rw_t) (x : Int), wl_ f J r n q ∧ bt_ q (J n) (J ((n : Int) + 1)) x ∧ r' = if x = -1 then q else rd_ q x f
theorem fa_rh {P : Nat → Prop} {B : Int} {σ σ' : bc_M} {v : cs_t} {n : Int} {h' : List rw_t} {r : rw_t} (h : fa_ B σ v) (hf : fr_ P σ σ') (hp : ∀ k, P k → xs_ k ∨ (2 ≤ k ∧ k ≤ 14) ∨ k = 43) (hr : st_A B σ' 1 r) (hh : st_H B σ' n h') : fa_ B σ' (u_h (u_r v r) h' n) := by
  have no : ∀ k, ¬ (xs_ k ∨ (2 ≤ k ∧ k ≤ 14) ∨ k = 43) → ¬ P k := fun k hk q => hk (hp k q)
  obtain ⟨⟨h1, h2, h3, h4⟩, ⟨h5, h5b⟩, ⟨h6, h6b⟩, h7, ⟨h8, h8b⟩, ⟨h9, h9b⟩, h10, ⟨h11, h11b⟩, ⟨h12, h12b⟩, h13, h13b⟩ := h
  refine ⟨⟨hr, st_A_fr h2 hf (fun k a b => no k (by omega)), st_A_fr h3 hf (fun k a b => no k (by omega)), hh⟩, ⟨ar_fr h5 hf (no _ (by decide)), h5b⟩, ⟨?_, h6b⟩, tx_fr h7 hf ⟨no _ (by decide), no _ (by decide)⟩, ⟨ak_fr h8 hf (no _ (by decide)), h8b⟩, ⟨s3_fr h9 hf (no _ (by decide)), h9b⟩, tx_fr h10 hf ⟨no _ (by decide), no _ (by decide)⟩, ⟨?_, h11b⟩, ⟨?_, h12b⟩, ?_, h13b⟩
  · rw [hf.1 157 (no _ (by decide))]; exact h6
  · rw [hf.1 0 (no _ (by decide))]; exact h11
  · rw [hf.1 0 (no _ (by decide))]; exact h12
  · rw [hf.1 0 (no _ (by decide))]; exact h13
/-- snapshot, the state before a script, the marks -/
theorem fa_c {P : Nat → Prop} {B : Int} {σ σ' : bc_M} {v : cs_t} {s b : rw_t} {hs le lf : Int} (h : fa_ B σ v) (hf : fr_ P σ σ') (hp : ∀ k, P k → xs_ k ∨ (16 ≤ k ∧ k ≤ 28) ∨ (30 ≤ k ∧ k ≤ 42) ∨ k = 0) (hs1 : st_A B σ' 15 s) (hb1 : st_A B σ' 29 b) (e1 : σ'.1 0 ((9 : Nat) : Int) = hs ∧ 0 ≤ hs ∧ hs ≤ 1) (e2 : σ'.1 0 ((10 : Nat) : Int) = le ∧ -1 ≤ le ∧ le ≤ 60) (e3 : σ'.1 0 ((11 : Nat) : Int) = lf ∧ -1 ≤ lf ∧ lf ≤ 15) : fa_ B σ' (u_lf (u_le (u_hs (u_bs (u_sn v s) b) hs) le) lf) := by
  have no : ∀ k, ¬ (xs_ k ∨ (16 ≤ k ∧ k ≤ 28) ∨ (30 ≤ k ∧ k ≤ 42) ∨ k = 0) → ¬ P k := fun k hk q => hk (hp k q)
  obtain ⟨⟨h1, h2, h3, h4⟩, ⟨h5, h5b⟩, ⟨h6, h6b⟩, h7, ⟨h8, h8b⟩, ⟨h9, h9b⟩, h10, ⟨h11, h11b⟩, ⟨h12, h12b⟩, h13, h13b⟩ := h
  refine ⟨⟨st_A_fr h1 hf (fun k a b => no k (by omega)), hs1, hb1, st_H_fr h4 hf (fun k a b => no k (by omega))⟩, ⟨ar_fr h5 hf (no _ (by decide)), h5b⟩, ⟨?_, h6b⟩, tx_fr h7 hf ⟨no _ (by decide), no _ (by decide)⟩, ⟨ak_fr h8 hf (no _ (by decide)), h8b⟩, ⟨s3_fr h9 hf (no _ (by decide)), h9b⟩, tx_fr h10 hf ⟨no _ (by decide), no _ (by decide)⟩, e1, e2, e3⟩
  rw [hf.1 157 (no _ (by decide))]; exact h6
section FAC
variable {g : bc_C} {d : Nat} {σ : bc_M} {B : Int} {v : cs_t} {Rr : Option bc_A → bc_M → Prop} {X : Nat → bc_M → Prop}
/-- the object after a walk -/
noncomputable abbrev wv1_ (v : cs_t) (a b : Int) (r' : rw_t) : cs_t := u_r (u_J v (fz_ (sa_ (c_r v)) a b (c_J v)).1 (fz_ (sa_ (c_r v)) a b (c_J v)).2) r'
noncomputable abbrev wz_ (v : cs_t) (a b n : Int) (r' : rw_t) : Prop := wl_ (n + tw_ (c_r v)) (fz_ (sa_ (c_r v)) a b (c_J v)).1 (c_r v) (fz_ (sa_ (c_r v)) a b (c_J v)).2.toNat r'
theorem t_X10_walk {a b n : Int} (hF : fa_ B σ v) (a0 : 0 ≤ a) (a1 : a < 8) (b0 : 0 ≤ b) (b1 : b < 8) (hn : 1 ≤ n ∧ n ≤ 99) (h : ∀ (σ' : bc_M) (r' : rw_t), wz_ v a b n r' → fa_ B σ' (wv1_ v a b r') → fr_ ob_ σ σ' → Rr (some (bc_I (fz_ (sa_ (c_r v)) a b (c_J v)).2)) σ') : bc_Sem g (d + 4) mX10_walk [bc_R 0, bc_I a, bc_I b, bc_I n] σ Rr X := by
  have w1 := hF.1.1.2.1
  have w2 := hF.1.1.2.2.1
  have tw : 0 ≤ tw_ (c_r v) ∧ tw_ (c_r v) ≤ 80 := by
    have := w2
    unfold wf_N at this
    unfold tw_
    omega
  have lz : lm_ (fz_ (sa_ (c_r v)) a b (c_J v)).1 7 ∧ 0 ≤ (fz_ (sa_ (c_r v)) a b (c_J v)).2 ∧ (fz_ (sa_ (c_r v)) a b (c_J v)).2 ≤ 7 := by
    unfold fz_
    split
    · exact ⟨hF.2.1.2, by show 0 ≤ (0 : Int) ∧ (0 : Int) ≤ 7; decide⟩
    · exact jw_le hF.2.1.2 a0 a1 7 (Nat.le_refl _)
  refine e_X10_walk rfl (fun K hK => ?_)
  have L : ∀ i : Int, ∀ (z : bc_LV) (σ' : bc_M) (q : rw_t), 0 ≤ i → i ≤ (fz_ (sa_ (c_r v)) a b (c_J v)).2 → wl_ (n + tw_ (c_r v)) (fz_ (sa_ (c_r v)) a b (c_J v)).1 (c_r v) i.toNat q → fa_ B σ' (wv1_ v a b q) → fr_ ob_ σ σ' → K 45 ([(0, bc_R 0), (1, bc_I a), (2, bc_I b), (3, bc_I n), (4, bc_R 2), (5, bc_I (n + tw_ (c_r v))), (6, bc_I i)] ++ z) [] σ' 0 := by
    refine up_ind (fz_ (sa_ (c_r v)) a b (c_J v)).2 (fun i hi z σ' q h0 h1 h2 h3 h4 => ?_) (fun i hi ih z σ' q h0 h1 h2 h3 h4 => ?_)
    · refine hK.2 _ _ [(0, bc_R 0), (1, bc_I a), (2, bc_I b), (3, bc_I n), (4, bc_R 2), (5, bc_I (n + tw_ (c_r v))), (6, bc_I i)] _ _ _ (ls_ _ _) ?_
      have hm : σ'.1 157 ((5 : Nat) : Int) = (fz_ (sa_ (c_r v)) a b (c_J v)).2 := h3.2.2.1.1
      have e : i = (fz_ (sa_ (c_r v)) a b (c_J v)).2 := by omega
      rw [e] at h2
      refine hK.1 [45] 60 _ _ _ _ _ ?_
      refine bc_ob_i ⟨by constructor <;> omega, by rw [hm]; constructor <;> omega⟩ ?_
      refine bc_br_i (fun c => by rw [hm] at c; omega) (fun _ => ?_)
      exact rt_ (h σ' q h2 h3 h4) hm
    · refine hK.2 _ _ [(0, bc_R 0), (1, bc_I a), (2, bc_I b), (3, bc_I n), (4, bc_R 2), (5, bc_I (n + tw_ (c_r v))), (6, bc_I i)] _ _ _ (ls_ _ _) ?_
      have hm : σ'.1 157 ((5 : Nat) : Int) = (fz_ (sa_ (c_r v)) a b (c_J v)).2 := h3.2.2.1.1
      have hJ := h3.2.1.1
      have q1 : σ'.1 170 i = (fz_ (sa_ (c_r v)) a b (c_J v)).1 i := hJ i (by omega) (by omega)
      have q2 : σ'.1 170 (i + 1) = (fz_ (sa_ (c_r v)) a b (c_J v)).1 (i + 1) := hJ (i + 1) (by omega) (by omega)
      have l1 := lz.1 i (by omega) (by omega)
      have l2 := lz.1 (i + 1) (by omega) (by omega)
      have r1 : bc_in (σ'.1 170 i) := by rw [q1]; constructor <;> omega
      have r2 : bc_in (σ'.1 170 (i + 1)) := by rw [q2]; constructor <;> omega
      have ei : (i + 1).toNat = i.toNat + 1 := by omega
      have en : ((i.toNat : Nat) : Int) = i := by omega
      have step : ∀ x r', bt_ q ((fz_ (sa_ (c_r v)) a b (c_J v)).1 i) ((fz_ (sa_ (c_r v)) a b (c_J v)).1 (i + 1)) x → r' = (if x = -1 then q else rd_ q x (n + tw_ (c_r v))) → wl_ (n + tw_ (c_r v)) (fz_ (sa_ (c_r v)) a b (c_J v)).1 (c_r v) (i + 1).toNat r' := fun x r' hx hr => by
        rw [ei]
        exact ⟨q, x, h2, by rw [en]; exact hx, hr⟩
      refine hK.1 [45] 60 _ _ _ _ _ ?_
      refine bc_ob_i ⟨by constructor <;> omega, by rw [hm]; constructor <;> omega⟩ ?_
      refine bc_br_i (fun _ => ?_) (fun c => absurd hi (by rw [hm] at c; exact c))
      refine bc_ob_i (by constructor <;> constructor <;> omega) ?_
      refine bc_br_i (fun _ => ?_) (fun c => by omega)
      refine bc_ob_i (by omega) ?_
      refine bc_ob_i (by omega) ?_
      refine t_X2_between h3.1.1.1.1 h3.1.1.2.1 r1 r2 (fun x hx => ?_)
      rw [q1, q2] at hx
      change bt_ q _ _ x at hx
      have w0 : 0 ≤ q 3 ∧ q 3 ≤ 16 := h3.1.1.2.1.1
      refine bc_ob_i (by rcases hx with ⟨hx, -⟩ | ⟨hx, hx2, -⟩ <;> (constructor <;> constructor <;> omega)) ?_
      refine bc_br_i (fun c => ?_) (fun c => ?_)
      · exact ih [(7, bc_I x)] σ' q (by omega) (by omega) (step x q hx (if_pos c).symm) h3 h4
      · have hx2 : 0 ≤ x ∧ x < q 3 := by
          rcases hx with ⟨hx, -⟩ | ⟨hx, hx2, -⟩
          · exact absurd hx c
          · exact ⟨hx, hx2⟩
        obtain ⟨x1, x2, x3⟩ := rd_wf (m := x) (f := n + tw_ (c_r v)) h3.1.1.2.1 hx2.1 (by omega) (by omega)
        refine t_X2_wearDown h3.1.1.1.1 h3.1.1.2.1 hx2.1 (by omega) (by omega) (fun σ2 s2 f2 => ?_)
        have F2 := fa_r h3 (Int.le_refl _) f2 (by omega) (st_A_M h3.1.1 f2 (by omega) x2 x3 s2 x1)
        exact ih [(7, bc_I x)] σ2 _ (by omega) (by omega) (step x _ hx (if_neg c).symm) F2 (fr_trans h4 (fr_mono f2 (by omega)))
  refine hK.1 [45] 60 _ _ _ _ _ ?_
  refine t_X3_total hF.1.1.1.2.1 w2 ?_
  refine t_X9_survey hF.1.1.1.1 w1 (fun σ1 p1 f1 => ?_)
  have F1 := fa_x hF f1 (by omega)
  obtain ⟨-, ⟨hJ, lJ⟩, -⟩ := id F1
  refine t_X9_findBest p1 (sa_le w1) hJ lJ a0 a1 b0 b1 (fun σ2 f2 hJ2 hm2 => ?_)
  have F2 := fa_w F1 f2 (by omega) hJ2 lz.1 hm2 lz.2
  exact L 0 [] σ2 (c_r v) (Int.le_refl _) lz.2.1 rfl F2 (fr_trans (fr_mono f1 (by omega)) (fr_mono f2 (by omega)))
theorem t_X10_procession {a b n : Int} (hF : fa_ B σ v) (ha : bc_in a) (hb : bc_in b) (hn : bc_in n) (h1 : ∀ e : Nat, wq_ (c_r v) a b n = e + 1 → ∀ σ', fa_ B σ' v → fr_ ob_ σ σ' → X e σ') (h0 : wq_ (c_r v) a b n = 0 → ∀ σ' r', wz_ v a b n r' → fa_ B σ' (wv1_ (rm_ v) a b r') → fr_ ob_ σ σ' → Rr (some (bc_I (fz_ (sa_ (c_r v)) a b (c_J v)).2)) σ') : bc_Sem g (d + 5) mX10_procession [bc_R 0, bc_I a, bc_I b, bc_I n] σ Rr X := by
  refine e_X10_procession rfl (fun K hK => ?_)
  refine hK.1 [] 60 _ _ _ _ _ ?_
  refine t_X10_walkFault hF ha hb hn (fun σ1 F1 f1 => ?_)
  have hl := wq_le (c_r v) a b n
  refine t_X10_refuse hl.1 hl.2 (fun e0 => ?_) (fun e he => h1 e he σ1 F1 f1)
  have hp := pf_le a b
  have hq : pf_ a b = 0 ∧ 1 ≤ n ∧ n ≤ 99 := by
    unfold wq_ at e0
    split at e0
    · omega
    · split at e0 <;> omega
  obtain ⟨q1, q2, -⟩ := pf_0 hq.1
  refine t_rem F1 (fun σ2 F2 f2 => ?_)
  refine t_X10_walk F2 q1.1 q1.2 q2.1 q2.2 hq.2 (fun σ3 r' hz F3 f3 => ?_)
  exact h0 e0 σ3 r' hz F3 (fr_trans f1 (fr_trans f2 f3))
theorem t_X10_undo (hF : fa_ B σ v) (h1 : c_h v = [] → X 2 σ) (h0 : ∀ q t, c_h v = q :: t → ∀ σ', fa_ B σ' (u_h (u_r v q) t ((c_n v + 7) % 8)) → fr_ ob_ σ σ' → Rr (some (bc_I t.length)) σ') : bc_Sem g (d + 4) mX10_undo [bc_R 0] σ Rr X := by
  have hH := hF.1.2.2.2
  have hc := hH.2.2.1
  have hl := hH.2.2.2.1
  refine e_X10_undo rfl (fun K hK => ?_)
  refine hK.1 [] 60 _ _ _ _ _ ?_
  refine bc_ob_i (by rw [hc]; constructor <;> omega) ?_
  refine bc_br_i (fun c => ?_) (fun c => ?_)
  · rw [hc] at c
    refine t_X10_refuse (f := 3) (by decide) (by decide) (fun e => by omega) (fun e he => ?_)
    have ee : e = 2 := by omega
    subst ee
    exact h1 (List.length_eq_zero_iff.mp (by omega))
  · rw [hc] at c
    refine t_X10_refuse (f := 0) (by decide) (by decide) (fun _ => ?_) (fun e he => by omega)
    refine t_X1_takeBack hH (fun e => absurd (by rw [e]; rfl) c) (fun q t e σ1 H1 A1 f1 => ?_)
    refine rt_ (h0 q t e σ1 (fa_rh hF f1 (by omega) A1 H1) (fr_mono f1 (by omega))) H1.2.2.1
theorem t_X10_save (hF : fa_ B σ v) (h0 : ∀ σ', fa_ B σ' (u_hs (u_sn v (c_r v)) 1) → fr_ ob_ σ σ' → Rr (some (bc_I ((c_r v) 3))) σ') : bc_Sem g (d + 4) mX10_save [bc_R 0] σ Rr X := by
  obtain ⟨⟨k1, k2, k3, k4⟩, -, -, -, -, -, -, ⟨e1, e1b⟩, ⟨e2, e2b⟩, e3, e3b⟩ := id hF
  refine e_X10_save rfl (fun K hK => ?_)
  refine hK.1 [] 60 _ _ _ _ _ ?_
  refine t_X6_copyFrom (a := 15) (b := 1) (by unfold cp_; decide) k1 (fun σ1 A1 f1 => ?_)
  refine bc_ob_i (by decide) ?_
  have F2 : fr_ (fun k => (16 ≤ k ∧ k ≤ 28) ∨ k = 0) σ (bc_wr σ1 0 ((9 : Nat) : Int) 1) := fr_trans (fr_mono f1 (by omega)) (fr_wr (by omega))
  have z0 : σ1.1 0 = σ.1 0 := f1.1 0 (by omega)
  have F3 : fa_ B (bc_wr σ1 0 ((9 : Nat) : Int) 1) (u_hs (u_sn v (c_r v)) 1) := by
    refine fa_c (s := c_r v) (b := c_bs v) (hs := 1) (le := c_le v) (lf := c_lf v) hF F2 (by omega) (st_A_fr A1 (fr_wr (P := fun k => k = 0) rfl) (by omega)) (st_A_fr k3 F2 (by omega)) ⟨by simp [bc_wr], by decide, by decide⟩ ⟨?_, e2b⟩ ⟨?_, e3b⟩
    · have : σ.1 0 10 = c_le v := e2
      simp [bc_wr]
      rw [z0]
      exact this
    · have : σ.1 0 11 = c_lf v := e3
      simp [bc_wr]
      rw [z0]
      exact this
  refine rt_ (h0 _ F3 (fr_mono F2 (by omega))) ?_
  exact F3.1.1.1.1.1
theorem t_X10_restore (hF : fa_ B σ v) (h1 : c_hs v = 0 → X 2 σ) (h0 : c_hs v = 1 → ∀ σ', fa_ B σ' (u_h (u_r v (c_sn v)) [] (c_n v)) → fr_ ob_ σ σ' → Rr (some (bc_I ((c_sn v) 3))) σ') : bc_Sem g (d + 4) mX10_restore [bc_R 0] σ Rr X := by
  obtain ⟨⟨k1, k2, k3, k4⟩, -, -, -, -, -, -, ⟨e1, e1b⟩, ⟨e2, e2b⟩, e3, e3b⟩ := id hF
  refine e_X10_restore rfl (fun K hK => ?_)
  refine hK.1 [] 60 _ _ _ _ _ ?_
  refine bc_ob_i (by rw [e1]; constructor <;> omega) ?_
  refine bc_br_i (fun c => ?_) (fun c => ?_)
  · rw [e1] at c
    refine t_X10_refuse (f := 3) (by decide) (by decide) (fun e => by omega) (fun e he => ?_)
    have ee : e = 2 := by omega
    subst ee
    exact h1 c
  · rw [e1] at c
    refine t_X10_refuse (f := 0) (by decide) (by decide) (fun _ => ?_) (fun e he => by omega)
    refine t_X6_copyFrom (a := 1) (b := 15) (by unfold cp_; decide) k2 (fun σ1 A1 f1 => ?_)
    refine t_X1_forget (st_H_fr k4 f1 (by omega)) (fun σ2 H2 f2 => ?_)
    have F2 : fr_ (fun k => (2 ≤ k ∧ k ≤ 14) ∨ k = 43) σ σ2 := fr_trans (fr_mono f1 (by omega)) (fr_mono f2 (by omega))
    have F3 := fa_rh hF F2 (by omega) (st_A_fr A1 f2 (by omega)) H2
    exact rt_ (h0 (by omega) σ2 F3 (fr_mono F2 (by omega))) F3.1.1.1.1.1
end FAC
end
section
/-! reading calls -/
section FAC
variable {g : bc_C} {d : Nat} {σ : bc_M} {B : Int} {v : cs_t} {Rr : Option bc_A → bc_M → Prop} {X : Nat → bc_M → Prop}
theorem t_X10_memberCount (hF : fa_ B σ v) (h : Rr (some (bc_I ((c_r v) 3))) σ) : bc_Sem g (d + 1) mX10_memberCount [bc_R 0] σ Rr X := by
  refine e_X10_memberCount rfl (fun K hK => ?_)
  refine hK.1 [] 60 _ _ _ _ _ ?_
  exact rt_ h hF.1.1.1.1.1
theorem t_X10_day (hF : fa_ B σ v) (h : Rr (some (bc_I ((c_r v) 0))) σ) : bc_Sem g (d + 1) mX10_day [bc_R 0] σ Rr X := by
  refine e_X10_day rfl (fun K hK => ?_)
  refine hK.1 [] 60 _ _ _ _ _ ?_
  exact rt_ h hF.1.1.1.2.2.1.1
theorem t_X10_steel (hF : fa_ B σ v) (h : Rr (some (bc_I ((c_r v) 1))) σ) : bc_Sem g (d + 1) mX10_steel [bc_R 0] σ Rr X := by
  refine e_X10_steel rfl (fun K hK => ?_)
  refine hK.1 [] 60 _ _ _ _ _ ?_
  exact rt_ h hF.1.1.1.2.2.1.2.1
theorem t_X10_keptTotal (hF : fa_ B σ v) (h : Rr (some (bc_I ((c_r v) 6))) σ) : bc_Sem g (d + 1) mX10_keptTotal [bc_R 0] σ Rr X := by
  refine e_X10_keptTotal rfl (fun K hK => ?_)
  refine hK.1 [] 60 _ _ _ _ _ ?_
  exact rt_ h hF.1.1.1.2.2.1.2.2.2.2.2.2.1
theorem t_X10_brokenTotal (hF : fa_ B σ v) (h : Rr (some (bc_I ((c_r v) 7))) σ) : bc_Sem g (d + 1) mX10_brokenTotal [bc_R 0] σ Rr X := by
  refine e_X10_brokenTotal rfl (fun K hK => ?_)
  refine hK.1 [] 60 _ _ _ _ _ ?_
  exact rt_ h hF.1.1.1.2.2.1.2.2.2.2.2.2.2.1
theorem t_X10_vowCount (hF : fa_ B σ v) (h : Rr (some (bc_I ((c_r v) 4))) σ) : bc_Sem g (d + 1) mX10_vowCount [bc_R 0] σ Rr X := by
  refine e_X10_vowCount rfl (fun K hK => ?_)
  refine hK.1 [] 60 _ _ _ _ _ ?_
  exact rt_ h hF.1.1.1.2.2.1.2.2.2.2.2.2.2.2.2
theorem t_X10_nicheKind (hF : fa_ B σ v) (h : Rr (some (bc_I ((c_r v) 11))) σ) : bc_Sem g (d + 1) mX10_nicheKind [bc_R 0] σ Rr X := by
  refine e_X10_nicheKind rfl (fun K hK => ?_)
  refine hK.1 [] 60 _ _ _ _ _ ?_
  have w := hF.1.1.2.2.1.1
  have e : σ.1 9 ((0 : Nat) : Int) = (c_r v) 11 := hF.1.1.1.2.1.1
  refine bc_ob_i (by rw [e]; omega) ?_
  exact rt_ h e
theorem t_X10_nicheWeight (hF : fa_ B σ v) (h : Rr (some (bc_I (tw_ (c_r v)))) σ) : bc_Sem g (d + 2) mX10_nicheWeight [bc_R 0] σ Rr X := by
  refine e_X10_nicheWeight rfl (fun K hK => ?_)
  refine hK.1 [] 60 _ _ _ _ _ ?_
  refine t_X3_total hF.1.1.1.2.1 hF.1.1.2.2.1 ?_
  exact h
theorem t_X10_steelByAccounts (hF : fa_ B σ v) (h : Rr (some (bc_I ((c_r v) 1))) σ) : bc_Sem g (d + 2) mX10_steelByAccounts [bc_R 0] σ Rr X := by
  refine e_X10_steelByAccounts rfl (fun K hK => ?_)
  refine hK.1 [] 60 _ _ _ _ _ ?_
  refine t_X8_accountedSteel hF.1.1.1.2.2 hF.1.1.2.2.2 ?_
  exact h
theorem t_X10_links (hF : fa_ B σ v) (h : ∀ σ', fa_ B σ' v → fr_ ob_ σ σ' → Rr (some (bc_J (lf_ (sa_ (c_r v)) 8))) σ') : bc_Sem g (d + 3) mX10_links [bc_R 0] σ Rr X := by
  refine e_X10_links rfl (fun K hK => ?_)
  refine hK.1 [] 60 _ _ _ _ _ ?_
  refine t_X9_survey hF.1.1.1.1 hF.1.1.2.1 (fun σ1 p1 f1 => ?_)
  refine t_X9_linkBits p1 (sa_le hF.1.1.2.1) ?_
  exact h σ1 (fa_x hF f1 (by omega)) (fr_mono f1 (by omega))
theorem t_X10_firstJoint {m : Int} (hF : fa_ B σ v) (hm : bc_in m) (h1 : ix_ (c_r v) m = 1 → X 0 σ) (h0 : 0 ≤ m → m < (c_r v) 3 → Rr (some (bc_I ((c_r v) (16 + 6 * m)))) σ) : bc_Sem g (d + 3) mX10_firstJoint [bc_R 0, bc_I m] σ Rr X := by
  have w0 := hF.1.1.2.1.1
  refine e_X10_firstJoint rfl (fun K hK => ?_)
  refine hK.1 [] 60 _ _ _ _ _ ?_
  refine t_X10_indexFault hF hm ?_
  have hl := ix_le (c_r v) m
  refine t_X10_refuse hl.1 hl.2 (fun e0 => ?_) (fun e he => ?_)
  · have hp : 0 ≤ m ∧ m < (c_r v) 3 := by unfold ix_ at e0; split at e0 <;> omega
    obtain ⟨e1, e2, e3, e4, e5, e6⟩ := (st_M1 hF.1.1.1.1).2 m hp.1 (by omega)
    obtain ⟨g1, g2, g3, g4, g5, g6⟩ := hF.1.1.2.1.2 m hp.1 (by omega)
    refine bc_ob_i (by omega) ?_
    exact rt_ (h0 hp.1 hp.2) e1
  · have he1 : e = 0 ∧ ix_ (c_r v) m = 1 := by unfold ix_ at he ⊢; split at he <;> split <;> omega
    rw [he1.1]
    exact h1 he1.2
theorem t_X10_secondJoint {m : Int} (hF : fa_ B σ v) (hm : bc_in m) (h1 : ix_ (c_r v) m = 1 → X 0 σ) (h0 : 0 ≤ m → m < (c_r v) 3 → Rr (some (bc_I ((c_r v) (17 + 6 * m)))) σ) : bc_Sem g (d + 3) mX10_secondJoint [bc_R 0, bc_I m] σ Rr X := by
  have w0 := hF.1.1.2.1.1
  refine e_X10_secondJoint rfl (fun K hK => ?_)
  refine hK.1 [] 60 _ _ _ _ _ ?_
  refine t_X10_indexFault hF hm ?_
  have hl := ix_le (c_r v) m
  refine t_X10_refuse hl.1 hl.2 (fun e0 => ?_) (fun e he => ?_)
  · have hp : 0 ≤ m ∧ m < (c_r v) 3 := by unfold ix_ at e0; split at e0 <;> omega
    obtain ⟨e1, e2, e3, e4, e5, e6⟩ := (st_M1 hF.1.1.1.1).2 m hp.1 (by omega)
    obtain ⟨g1, g2, g3, g4, g5, g6⟩ := hF.1.1.2.1.2 m hp.1 (by omega)
    refine bc_ob_i (by omega) ?_
    exact rt_ (h0 hp.1 hp.2) e2
  · have he1 : e = 0 ∧ ix_ (c_r v) m = 1 := by unfold ix_ at he ⊢; split at he <;> split <;> omega
    rw [he1.1]
    exact h1 he1.2
theorem t_X10_crack {m : Int} (hF : fa_ B σ v) (hm : bc_in m) (h1 : ix_ (c_r v) m = 1 → X 0 σ) (h0 : 0 ≤ m → m < (c_r v) 3 → Rr (some (bc_I ((c_r v) (19 + 6 * m)))) σ) : bc_Sem g (d + 3) mX10_crack [bc_R 0, bc_I m] σ Rr X := by
  have w0 := hF.1.1.2.1.1
  refine e_X10_crack rfl (fun K hK => ?_)
  refine hK.1 [] 60 _ _ _ _ _ ?_
  refine t_X10_indexFault hF hm ?_
  have hl := ix_le (c_r v) m
  refine t_X10_refuse hl.1 hl.2 (fun e0 => ?_) (fun e he => ?_)
  · have hp : 0 ≤ m ∧ m < (c_r v) 3 := by unfold ix_ at e0; split at e0 <;> omega
    obtain ⟨e1, e2, e3, e4, e5, e6⟩ := (st_M1 hF.1.1.1.1).2 m hp.1 (by omega)
    obtain ⟨g1, g2, g3, g4, g5, g6⟩ := hF.1.1.2.1.2 m hp.1 (by omega)
    refine bc_ob_i (by omega) ?_
    exact rt_ (h0 hp.1 hp.2) e4
  · have he1 : e = 0 ∧ ix_ (c_r v) m = 1 := by unfold ix_ at he ⊢; split at he <;> split <;> omega
    rw [he1.1]
    exact h1 he1.2
theorem t_X10_wear {m : Int} (hF : fa_ B σ v) (hm : bc_in m) (h1 : ix_ (c_r v) m = 1 → X 0 σ) (h0 : 0 ≤ m → m < (c_r v) 3 → Rr (some (bc_I ((c_r v) (20 + 6 * m)))) σ) : bc_Sem g (d + 3) mX10_wear [bc_R 0, bc_I m] σ Rr X := by
  have w0 := hF.1.1.2.1.1
  refine e_X10_wear rfl (fun K hK => ?_)
  refine hK.1 [] 60 _ _ _ _ _ ?_
  refine t_X10_indexFault hF hm ?_
  have hl := ix_le (c_r v) m
  refine t_X10_refuse hl.1 hl.2 (fun e0 => ?_) (fun e he => ?_)
  · have hp : 0 ≤ m ∧ m < (c_r v) 3 := by unfold ix_ at e0; split at e0 <;> omega
    obtain ⟨e1, e2, e3, e4, e5, e6⟩ := (st_M1 hF.1.1.1.1).2 m hp.1 (by omega)
    obtain ⟨g1, g2, g3, g4, g5, g6⟩ := hF.1.1.2.1.2 m hp.1 (by omega)
    refine bc_ob_i (by omega) ?_
    exact rt_ (h0 hp.1 hp.2) e5
  · have he1 : e = 0 ∧ ix_ (c_r v) m = 1 := by unfold ix_ at he ⊢; split at he <;> split <;> omega
    rw [he1.1]
    exact h1 he1.2
theorem t_X10_isAbandoned {m : Int} (hF : fa_ B σ v) (hm : bc_in m) (h1 : ix_ (c_r v) m = 1 → X 0 σ) (h0 : 0 ≤ m → m < (c_r v) 3 → Rr (some (bc_I ((c_r v) (21 + 6 * m)))) σ) : bc_Sem g (d + 3) mX10_isAbandoned [bc_R 0, bc_I m] σ Rr X := by
  have w0 := hF.1.1.2.1.1
  refine e_X10_isAbandoned rfl (fun K hK => ?_)
  refine hK.1 [] 60 _ _ _ _ _ ?_
  refine t_X10_indexFault hF hm ?_
  have hl := ix_le (c_r v) m
  refine t_X10_refuse hl.1 hl.2 (fun e0 => ?_) (fun e he => ?_)
  · have hp : 0 ≤ m ∧ m < (c_r v) 3 := by unfold ix_ at e0; split at e0 <;> omega
    obtain ⟨e1, e2, e3, e4, e5, e6⟩ := (st_M1 hF.1.1.1.1).2 m hp.1 (by omega)
    obtain ⟨g1, g2, g3, g4, g5, g6⟩ := hF.1.1.2.1.2 m hp.1 (by omega)
    refine bc_ob_i (by omega) ?_
    refine bc_ob_i (by rw [e6]; exact g6) ?_
    exact rt_ (h0 hp.1 hp.2) e6
  · have he1 : e = 0 ∧ ix_ (c_r v) m = 1 := by unfold ix_ at he ⊢; split at he <;> split <;> omega
    rw [he1.1]
    exact h1 he1.2
theorem t_X10_bearing {m : Int} (hF : fa_ B σ v) (hm : bc_in m) (h1 : ix_ (c_r v) m = 1 → X 0 σ) (h0 : 0 ≤ m → m < (c_r v) 3 → Rr (some (bc_I (br_ (c_r v) m))) σ) : bc_Sem g (d + 3) mX10_bearing [bc_R 0, bc_I m] σ Rr X := by
  have w0 := hF.1.1.2.1.1
  refine e_X10_bearing rfl (fun K hK => ?_)
  refine hK.1 [] 60 _ _ _ _ _ ?_
  refine t_X10_indexFault hF hm ?_
  have hl := ix_le (c_r v) m
  refine t_X10_refuse hl.1 hl.2 (fun e0 => ?_) (fun e he => ?_)
  · have hp : 0 ≤ m ∧ m < (c_r v) 3 := by unfold ix_ at e0; split at e0 <;> omega
    refine t_X2_bearingOf hF.1.1.1.1 hF.1.1.2.1 hp.1 (by omega) ?_
    exact h0 hp.1 hp.2
  · have he1 : e = 0 ∧ ix_ (c_r v) m = 1 := by unfold ix_ at he ⊢; split at he <;> split <;> omega
    rw [he1.1]
    exact h1 he1.2
theorem t_X10_repairCost {m : Int} (hF : fa_ B σ v) (hm : bc_in m) (h1 : ix_ (c_r v) m = 1 → X 0 σ) (h0 : 0 ≤ m → m < (c_r v) 3 → Rr (some (bc_I (co_ (c_r v) m))) σ) : bc_Sem g (d + 3) mX10_repairCost [bc_R 0, bc_I m] σ Rr X := by
  have w0 := hF.1.1.2.1.1
  refine e_X10_repairCost rfl (fun K hK => ?_)
  refine hK.1 [] 60 _ _ _ _ _ ?_
  refine t_X10_indexFault hF hm ?_
  have hl := ix_le (c_r v) m
  refine t_X10_refuse hl.1 hl.2 (fun e0 => ?_) (fun e he => ?_)
  · have hp : 0 ≤ m ∧ m < (c_r v) 3 := by unfold ix_ at e0; split at e0 <;> omega
    refine t_X2_costOf hF.1.1.1.1 hF.1.1.2.1 hp.1 (by omega) ?_
    exact h0 hp.1 hp.2
  · have he1 : e = 0 ∧ ix_ (c_r v) m = 1 := by unfold ix_ at he ⊢; split at he <;> split <;> omega
    rw [he1.1]
    exact h1 he1.2
theorem t_X10_vowAt {a : Int} (hF : fa_ B σ v) (hB : B ≤ 1000000) (ha : bc_in a) (h1 : ((∀ k : Int, 0 ≤ k → k < (c_r v) 4 → vk_r (c_r v) k ≠ a) → X 3 σ)) (h0 : (∀ s : Int, 0 ≤ s → s < (c_r v) 4 → vk_r (c_r v) s = a → Rr (some (bc_I ((c_r v) (112 + 3 * s)))) σ)) : bc_Sem g (d + 4) mX10_vowAt [bc_R 0, bc_I a] σ Rr X := by
  have l4 := (wt_le hF.1.1.2.2.2).2.2.2.1
  refine e_X10_vowAt rfl (fun K hK => ?_)
  refine hK.1 [] 60 _ _ _ _ _ ?_
  refine t_X8_slotAtRank hF.1.1.1.2.2 hF.1.1.2.2.2 hB ha (fun s hs => ?_)
  rcases hs with ⟨s0, s1, s2⟩ | ⟨rfl, s2⟩
  · refine bc_ob_i (by omega) ?_
    refine bc_br_i (fun c => by omega) (fun _ => ?_)
    refine t_X10_refuse (f := 0) (by decide) (by decide) (fun _ => ?_) (fun e he => by omega)
    obtain ⟨q1, q2, q3⟩ := (st_T1 hF.1.1.1.2.2).2 s s0 (by omega)
    refine bc_ob_i (by omega) ?_
    exact rt_ (h0 s s0 s1 s2) q1
  · refine bc_ob_i (by decide) ?_
    refine bc_br_i (fun _ => ?_) (fun c => absurd rfl c)
    refine t_X10_refuse (f := 4) (by decide) (by decide) (fun e => by omega) (fun e he => ?_)
    have ee : e = 3 := by omega
    subst ee
    exact h1 s2
theorem t_X10_amount {a : Int} (hF : fa_ B σ v) (hB : B ≤ 1000000) (ha : bc_in a) (h1 : ((∀ k : Int, 0 ≤ k → k < (c_r v) 4 → (c_r v) (112 + 3 * k) ≠ a) → X 3 σ)) (h0 : (∀ s : Int, 0 ≤ s → s < (c_r v) 4 → (c_r v) (112 + 3 * s) = a → Rr (some (bc_I ((c_r v) (114 + 3 * s)))) σ)) : bc_Sem g (d + 4) mX10_amount [bc_R 0, bc_I a] σ Rr X := by
  have l4 := (wt_le hF.1.1.2.2.2).2.2.2.1
  refine e_X10_amount rfl (fun K hK => ?_)
  refine hK.1 [] 60 _ _ _ _ _ ?_
  refine t_X8_slotOf hF.1.1.1.2.2 hF.1.1.2.2.2 hB ha (fun s hs => ?_)
  rcases hs with ⟨s0, s1, s2⟩ | ⟨rfl, s2⟩
  · refine bc_ob_i (by omega) ?_
    refine bc_br_i (fun c => by omega) (fun _ => ?_)
    refine t_X10_refuse (f := 0) (by decide) (by decide) (fun _ => ?_) (fun e he => by omega)
    obtain ⟨q1, q2, q3⟩ := (st_T1 hF.1.1.1.2.2).2 s s0 (by omega)
    refine bc_ob_i (by omega) ?_
    exact rt_ (h0 s s0 s1 s2) q3
  · refine bc_ob_i (by decide) ?_
    refine bc_br_i (fun _ => ?_) (fun c => absurd rfl c)
    refine t_X10_refuse (f := 4) (by decide) (by decide) (fun e => by omega) (fun e he => ?_)
    have ee : e = 3 := by omega
    subst ee
    exact h1 s2
theorem t_X10_dueDay {a : Int} (hF : fa_ B σ v) (hB : B ≤ 1000000) (ha : bc_in a) (h1 : ((∀ k : Int, 0 ≤ k → k < (c_r v) 4 → (c_r v) (112 + 3 * k) ≠ a) → X 3 σ)) (h0 : (∀ s : Int, 0 ≤ s → s < (c_r v) 4 → (c_r v) (112 + 3 * s) = a → Rr (some (bc_I ((c_r v) (113 + 3 * s)))) σ)) : bc_Sem g (d + 4) mX10_dueDay [bc_R 0, bc_I a] σ Rr X := by
  have l4 := (wt_le hF.1.1.2.2.2).2.2.2.1
  refine e_X10_dueDay rfl (fun K hK => ?_)
  refine hK.1 [] 60 _ _ _ _ _ ?_
  refine t_X8_slotOf hF.1.1.1.2.2 hF.1.1.2.2.2 hB ha (fun s hs => ?_)
  rcases hs with ⟨s0, s1, s2⟩ | ⟨rfl, s2⟩
  · refine bc_ob_i (by omega) ?_
    refine bc_br_i (fun c => by omega) (fun _ => ?_)
    refine t_X10_refuse (f := 0) (by decide) (by decide) (fun _ => ?_) (fun e he => by omega)
    obtain ⟨q1, q2, q3⟩ := (st_T1 hF.1.1.1.2.2).2 s s0 (by omega)
    refine bc_ob_i (by omega) ?_
    exact rt_ (h0 s s0 s1 s2) q2
  · refine bc_ob_i (by decide) ?_
    refine bc_br_i (fun _ => ?_) (fun c => absurd rfl c)
    refine t_X10_refuse (f := 4) (by decide) (by decide) (fun e => by omega) (fun e he => ?_)
    have ee : e = 3 := by omega
    subst ee
    exact h1 s2
theorem t_X10_memberByBearing {a : Int} (hF : fa_ B σ v) (ha : bc_in a) (h1 : (∀ k : Int, 0 ≤ k → k < (c_r v) 3 → rk_ (c_r v) k ≠ a) → X 3 σ) (h0 : ∀ s : Int, 0 ≤ s → s < (c_r v) 3 → rk_ (c_r v) s = a → Rr (some (bc_I s)) σ) : bc_Sem g (d + 5) mX10_memberByBearing [bc_R 0, bc_I a] σ Rr X := by
  have l4 := hF.1.1.2.1.1
  refine e_X10_memberByBearing rfl (fun K hK => ?_)
  refine hK.1 [] 60 _ _ _ _ _ ?_
  refine t_X2_atRank hF.1.1.1.1 hF.1.1.2.1 ha (fun s hs => ?_)
  rcases hs with ⟨s0, s1, s2⟩ | ⟨rfl, s2⟩
  · refine bc_ob_i (by omega) ?_
    refine bc_br_i (fun c => by omega) (fun _ => ?_)
    refine t_X10_refuse (f := 0) (by decide) (by decide) (fun _ => ?_) (fun e he => by omega)
    exact h0 s s0 s1 s2
  · refine bc_ob_i (by decide) ?_
    refine bc_br_i (fun _ => ?_) (fun c => absurd rfl c)
    refine t_X10_refuse (f := 4) (by decide) (by decide) (fun e => by omega) (fun e he => ?_)
    have ee : e = 3 := by omega
    subst ee
    exact h1 s2
theorem t_X10_canKeepAll (hF : fa_ B σ v) (hB : B ≤ 1000000) (h : ∀ x : Int, (x = 1 ∧ ∀ a : Int, 1 ≤ a → a ≤ 50 → 0 ≤ sp_ (c_r v) ((c_r v) 0 + a)) ∨ (x = 0 ∧ ∃ a : Int, 1 ≤ a ∧ a ≤ 50 ∧ sp_ (c_r v) ((c_r v) 0 + a) < 0) → Rr (some (bc_I x)) σ) : bc_Sem g (d + 2) mX10_canKeepAll [bc_R 0] σ Rr X := by
  refine e_X10_canKeepAll rfl (fun K hK => ?_)
  refine hK.1 [] 60 _ _ _ _ _ ?_
  refine t_X8_keepsAllDayByDay hF.1.1.1.2.2 hF.1.1.2.2.2 hB (fun x hx => ?_)
  refine bc_ob_i (by rcases hx with ⟨hx, -⟩ | ⟨hx, -⟩ <;> omega) ?_
  exact h x hx
theorem t_X10_canKeepAllBySums (hF : fa_ B σ v) (hB : B ≤ 1000000) (h : ∀ x : Int, (x = 1 ∧ ∀ k : Int, 0 ≤ k → k < (c_r v) 4 → 0 ≤ sp_ (c_r v) ((c_r v) (113 + 3 * k))) ∨ (x = 0 ∧ ∃ k : Int, 0 ≤ k ∧ k < (c_r v) 4 ∧ sp_ (c_r v) ((c_r v) (113 + 3 * k)) < 0) → Rr (some (bc_I x)) σ) : bc_Sem g (d + 3) mX10_canKeepAllBySums [bc_R 0] σ Rr X := by
  refine e_X10_canKeepAllBySums rfl (fun K hK => ?_)
  refine hK.1 [] 60 _ _ _ _ _ ?_
  refine t_X8_keepsAllBySums hF.1.1.1.2.2 hF.1.1.2.2.2 hB (fun x hx => ?_)
  refine bc_ob_i (by rcases hx with ⟨hx, -⟩ | ⟨hx, -⟩ <;> omega) ?_
  exact h x hx
theorem t_X10_greatestVow {a : Int} (hF : fa_ B σ v) (hB : B ≤ 1000000) (ha : bc_in a) (h1 : ¬ ((c_r v) 0 < a ∧ a ≤ (c_r v) 0 + 50) → X 1 σ) (h2 : ((c_r v) 0 < a ∧ a ≤ (c_r v) 0 + 50) → (∃ b : Int, 1 ≤ b ∧ b ≤ 50 ∧ sp_ (c_r v) ((c_r v) 0 + b) < 0) → X 3 σ) (h0 : ((c_r v) 0 < a ∧ a ≤ (c_r v) 0 + 50) → (∀ b : Int, 1 ≤ b → b ≤ 50 → 0 ≤ sp_ (c_r v) ((c_r v) 0 + b)) → ∀ x : Int, x ≤ sp_ (c_r v) a → (∀ k : Int, 0 ≤ k → k < (c_r v) 4 → a < (c_r v) (113 + 3 * k) → x ≤ sp_ (c_r v) ((c_r v) (113 + 3 * k))) → (x = sp_ (c_r v) a ∨ ∃ k : Int, 0 ≤ k ∧ k < (c_r v) 4 ∧ a < (c_r v) (113 + 3 * k) ∧ x = sp_ (c_r v) ((c_r v) (113 + 3 * k))) → Rr (some (bc_I x)) σ) : bc_Sem g (d + 3) mX10_greatestVow [bc_R 0, bc_I a] σ Rr X := by
  have l0 := (wt_le hF.1.1.2.2.2).1
  refine e_X10_greatestVow rfl (fun K hK => ?_)
  refine hK.1 [] 60 _ _ _ _ _ ?_
  refine t_X8_isDueDayAllowed hF.1.1.1.2.2 hF.1.1.2.2.2 hB ha ?_
  by_cases c : (c_r v) 0 < a ∧ a ≤ (c_r v) 0 + 50
  · rw [if_pos c]
    refine bc_ob_i (by decide) ?_
    refine bc_br_i (fun c => absurd c (by decide)) (fun _ => ?_)
    refine t_X10_refuse (f := 0) (by decide) (by decide) (fun _ => ?_) (fun e he => by omega)
    refine t_X8_keepsAllDayByDay hF.1.1.1.2.2 hF.1.1.2.2.2 hB (fun x hx => ?_)
    rcases hx with ⟨rfl, hx⟩ | ⟨rfl, hx⟩
    · refine bc_ob_i (by decide) ?_
      refine bc_br_i (fun c => absurd c (by decide)) (fun _ => ?_)
      refine t_X10_refuse (f := 0) (by decide) (by decide) (fun _ => ?_) (fun e he => by omega)
      refine t_X8_greatestFurther hF.1.1.1.2.2 hF.1.1.2.2.2 hB (by omega) (by omega) (fun x q1 q2 q3 => ?_)
      exact h0 c hx x q1 q2 q3
    · refine bc_ob_i (by decide) ?_
      refine bc_br_i (fun _ => ?_) (fun c => absurd rfl c)
      refine t_X10_refuse (f := 4) (by decide) (by decide) (fun e => by omega) (fun e he => ?_)
      have ee : e = 3 := by omega
      subst ee
      exact h2 c hx
  · rw [if_neg c]
    refine bc_ob_i (by decide) ?_
    refine bc_br_i (fun _ => ?_) (fun c => absurd rfl c)
    refine t_X10_refuse (f := 2) (by decide) (by decide) (fun e => by omega) (fun e he => ?_)
    have ee : e = 1 := by omega
    subst ee
    exact h1 c
end FAC
end
section
/-! reading calls about ways and critical members -/
section FAC
variable {g : bc_C} {d : Nat} {σ : bc_M} {B : Int} {v : cs_t} {Rr : Option bc_A → bc_M → Prop} {X : Nat → bc_M → Prop}
theorem t_X10_found {x : Int} (hx : bc_in x) (h1 : x = 0 → X 3 σ) (h0 : x ≠ 0 → Rr (some (bc_I x)) σ) : bc_Sem g (d + 2) mX10_found [bc_I x] σ Rr X := by
  refine e_X10_found rfl (fun K hK => ?_)
  refine hK.1 [] 60 _ _ _ _ _ ?_
  refine bc_ob_i hx ?_
  refine bc_br_i (fun c => ?_) (fun c => ?_)
  · refine t_X10_refuse (f := 4) (by decide) (by decide) (fun e => by omega) (fun e he => ?_)
    have ee : e = 3 := by omega
    subst ee
    exact h1 c
  · refine t_X10_refuse (f := 0) (by decide) (by decide) (fun _ => ?_) (fun e he => by omega)
    exact h0 c
noncomputable def cq_ (r : rw_t) (m : Int) : Int := if br_ r m = 0 then 0 else se_ (sa_ r) (r (16 + 6 * m)) (r (17 + 6 * m))
noncomputable def cr1_ (r : rw_t) (m : Int) : Int := if 0 < br_ r m ∧ jc_ r 1 m (r (16 + 6 * m)) (r (17 + 6 * m)) = 0 then 1 else 0
theorem se_le (f : gr_t) (a b : Int) : 0 ≤ se_ f a b ∧ se_ f a b ≤ 1 := by unfold se_; split <;> omega
theorem jc_le (r : rw_t) (l u a b : Int) : 0 ≤ jc_ r l u a b ∧ jc_ r l u a b ≤ 1 := by unfold jc_; split <;> omega
theorem t_X10_criticalBySearch {m : Int} (hF : fa_ B σ v) (m0 : 0 ≤ m) (m1 : m < (c_r v) 3) (h : ∀ σ', fa_ B σ' v → fr_ ob_ σ σ' → Rr (some (bc_I (cq_ (c_r v) m))) σ') : bc_Sem g (d + 8 + 3) mX10_criticalBySearch [bc_R 0, bc_I m] σ Rr X := by
  have w0 := hF.1.1.2.1.1
  have hb := br_le hF.1.1.2.1 m0 (by omega)
  obtain ⟨e1, e2, e3, e4, e5, e6⟩ := (st_M1 hF.1.1.1.1).2 m m0 (by omega)
  obtain ⟨g1, g2, g3, g4, g5, g6⟩ := hF.1.1.2.1.2 m m0 (by omega)
  refine e_X10_criticalBySearch rfl (fun K hK => ?_)
  unfold cq_ at h
  refine hK.1 [] 60 _ _ _ _ _ ?_
  refine t_X2_bearingOf hF.1.1.1.1 hF.1.1.2.1 m0 (by omega) ?_
  refine bc_ob_i (by omega) ?_
  refine bc_br_i (fun c => ?_) (fun c => ?_)
  · refine bc_ob_i (by decide) ?_
    exact rt_ (h σ hF (fr_refl _)) (if_pos c).symm
  · rw [if_neg c] at h
    refine t_X9_survey hF.1.1.1.1 hF.1.1.2.1 (fun σ1 p1 f1 => ?_)
    have F1 := fa_x hF f1 (by omega)
    have y1 : σ1.1 3 = σ.1 3 := f1.1 3 (by omega)
    have y2 : σ1.1 4 = σ.1 4 := f1.1 4 (by omega)
    have z1 : σ1.1 3 m = (c_r v) (16 + 6 * m) := by rw [y1]; exact e1
    have z2 : σ1.1 4 m = (c_r v) (17 + 6 * m) := by rw [y2]; exact e2
    refine bc_ob_i (by omega) ?_
    refine bc_ob_i (by omega) ?_
    refine t_X0_separates (sa_le hF.1.1.2.1) p1 (by omega) (by omega) (by omega) (by omega) (fun σ2 f2 => ?_)
    refine bc_ob_i (se_le _ _ _) ?_
    exact rt_ (h σ2 (fa_x F1 f2 (by omega)) (fr_trans (fr_mono f1 (by omega)) (fr_mono f2 (by omega)))) (by rw [z1, z2])
theorem t_X10_criticalByRemoval {m : Int} (hF : fa_ B σ v) (m0 : 0 ≤ m) (m1 : m < (c_r v) 3) (h : Rr (some (bc_I (cr1_ (c_r v) m))) σ) : bc_Sem g (d + 3) mX10_criticalByRemoval [bc_R 0, bc_I m] σ Rr X := by
  have w0 := hF.1.1.2.1.1
  have hb := br_le hF.1.1.2.1 m0 (by omega)
  obtain ⟨e1, e2, e3, e4, e5, e6⟩ := (st_M1 hF.1.1.1.1).2 m m0 (by omega)
  refine e_X10_criticalByRemoval rfl (fun K hK => ?_)
  unfold cr1_ at h
  rw [← e1, ← e2] at h
  refine hK.1 [] 60 _ _ _ _ _ ?_
  refine t_X2_bearingOf hF.1.1.1.1 hF.1.1.2.1 m0 (by omega) ?_
  refine bc_ob_i (by omega) ?_
  refine bc_br_i (fun c => ?_) (fun c => ?_)
  · refine bc_ob_i (by omega) ?_
    refine bc_ob_i (by omega) ?_
    refine t_X2_connects hF.1.1.1.1 hF.1.1.2.1 (by decide) (by constructor <;> omega) ?_
    have hl := jc_le (c_r v) 1 m (σ.1 3 m) (σ.1 4 m)
    refine bc_ob_i (by omega) ?_
    refine bc_br_i (fun c2 => ?_) (fun c2 => ?_)
    · refine bc_ob_i (by decide) ?_
      exact rt_ h (if_pos ⟨c, c2⟩).symm
    · refine bc_ob_i (by decide) ?_
      exact rt_ h (if_neg (fun q => c2 q.2)).symm
  · refine bc_ob_i (by decide) ?_
    exact rt_ h (if_neg (fun q => c q.1)).symm
theorem cq_le (r : rw_t) (m : Int) : 0 ≤ cq_ r m ∧ cq_ r m ≤ 1 := by
  have := se_le (sa_ r) (r (16 + 6 * m)) (r (17 + 6 * m))
  unfold cq_
  split <;> omega
theorem cr1_le (r : rw_t) (m : Int) : 0 ≤ cr1_ r m ∧ cr1_ r m ≤ 1 := by
  unfold cr1_
  split <;> omega
theorem t_X10_isCritical {m : Int} (hF : fa_ B σ v) (hm : bc_in m) (h1 : ix_ (c_r v) m = 1 → X 0 σ) (h0 : 0 ≤ m → m < (c_r v) 3 → ∀ σ', fa_ B σ' v → fr_ ob_ σ σ' → Rr (some (bc_I (cq_ (c_r v) m))) σ') : bc_Sem g (d + 8 + 4) mX10_isCritical [bc_R 0, bc_I m] σ Rr X := by
  refine e_X10_isCritical rfl (fun K hK => ?_)
  refine hK.1 [] 60 _ _ _ _ _ ?_
  refine t_X10_indexFault hF hm ?_
  have hl := ix_le (c_r v) m
  refine t_X10_refuse hl.1 hl.2 (fun e0 => ?_) (fun e he => ?_)
  · have hp : 0 ≤ m ∧ m < (c_r v) 3 := by unfold ix_ at e0; split at e0 <;> omega
    refine t_X10_criticalBySearch hF hp.1 hp.2 (fun σ1 F1 f1 => ?_)
    refine bc_ob_i (cq_le _ _) ?_
    exact h0 hp.1 hp.2 σ1 F1 f1
  · have he1 : e = 0 ∧ ix_ (c_r v) m = 1 := by unfold ix_ at he ⊢; split at he <;> split <;> omega
    rw [he1.1]
    exact h1 he1.2
theorem t_X10_isCriticalByRemoval {m : Int} (hF : fa_ B σ v) (hm : bc_in m) (h1 : ix_ (c_r v) m = 1 → X 0 σ) (h0 : 0 ≤ m → m < (c_r v) 3 → Rr (some (bc_I (cr1_ (c_r v) m))) σ) : bc_Sem g (d + 4) mX10_isCriticalByRemoval [bc_R 0, bc_I m] σ Rr X := by
  refine e_X10_isCriticalByRemoval rfl (fun K hK => ?_)
  refine hK.1 [] 60 _ _ _ _ _ ?_
  refine t_X10_indexFault hF hm ?_
  have hl := ix_le (c_r v) m
  refine t_X10_refuse hl.1 hl.2 (fun e0 => ?_) (fun e he => ?_)
  · have hp : 0 ≤ m ∧ m < (c_r v) 3 := by unfold ix_ at e0; split at e0 <;> omega
    refine t_X10_criticalByRemoval hF hp.1 hp.2 ?_
    refine bc_ob_i (cr1_le _ _) ?_
    exact h0 hp.1 hp.2
  · have he1 : e = 0 ∧ ix_ (c_r v) m = 1 := by unfold ix_ at he ⊢; split at he <;> split <;> omega
    rw [he1.1]
    exact h1 he1.2
/-- a load of some member that connects -/
noncomputable def wb1_ (r : rw_t) (a b l : Int) : Prop := (∃ k : Int, 0 ≤ k ∧ k < r 3 ∧ br_ r k = l) ∧ jc_ r l (-1) a b ≠ 0
noncomputable def wt1_ (r : rw_t) (a b x : Int) : Prop := (x = 0 ∧ ∀ l : Int, 1 ≤ l → l ≤ 99 → ¬ wb1_ r a b l) ∨ ((1 ≤ x ∧ x ≤ 99) ∧ wb1_ r a b x ∧ ∀ l : Int, x < l → l ≤ 99 → ¬ wb1_ r a b l)
theorem wt1_le {r : rw_t} {a b x : Int} (h : wt1_ r a b x) : 0 ≤ x ∧ x ≤ 99 := by
  rcases h with ⟨h, -⟩ | ⟨h, -⟩ <;> omega
theorem t_X10_widestByTrial {a b : Int} (hF : fa_ B σ v) (h : ∀ x, wt1_ (c_r v) a b x → Rr (some (bc_I x)) σ) : bc_Sem g (d + 4) mX10_widestByTrial [bc_R 0, bc_I a, bc_I b] σ Rr X := by
  refine e_X10_widestByTrial rfl (fun K hK => ?_)
  have L : ∀ n : Nat, n ≤ 99 → (∀ l : Int, (n : Int) < l → l ≤ 99 → ¬ wb1_ (c_r v) a b l) → K 3 [(0, bc_R 0), (1, bc_I a), (2, bc_I b), (3, bc_I n)] [] σ 0 := by
    intro n
    induction n with
    | zero =>
      intro hn hl
      refine hK.1 [3] 60 _ _ _ _ _ ?_
      refine bc_ob_i (by decide) ?_
      refine bc_br_i (fun c => ?_) (fun c => absurd (by decide) c)
      exact h 0 (.inl ⟨rfl, fun l l0 l1 => hl l (by omega) l1⟩)
    | succ n ih =>
      intro hn hl
      have en : ((n + 1 : Nat) : Int) + -1 = (n : Int) := by omega
      have skip : ¬ wb1_ (c_r v) a b ((n + 1 : Nat) : Int) → K 3 [(0, bc_R 0), (1, bc_I a), (2, bc_I b), (3, bc_I (((n + 1 : Nat) : Int) + -1))] [] σ 0 := by
        intro q
        rw [en]
        refine ih (by omega) (fun l l0 l1 => ?_)
        by_cases e : l = ((n + 1 : Nat) : Int)
        · rw [e]; exact q
        · exact hl l (by omega) l1
      refine hK.1 [3] 60 _ _ _ _ _ ?_
      refine bc_ob_i (by omega) ?_
      refine bc_br_i (fun c => by omega) (fun _ => ?_)
      refine t_X2_someBears hF.1.1.1.1 hF.1.1.2.1 (by constructor <;> omega) (fun x hx => ?_)
      rcases hx with ⟨rfl, hx⟩ | ⟨rfl, hx⟩
      · refine bc_ob_i (by decide) ?_
        refine bc_br_i (fun c => absurd c (by decide)) (fun _ => ?_)
        refine t_X2_connects hF.1.1.1.1 hF.1.1.2.1 (by constructor <;> omega) (by decide) ?_
        have hl2 := jc_le (c_r v) ((n + 1 : Nat) : Int) (-1) a b
        refine bc_ob_i (by omega) ?_
        refine bc_br_i (fun c2 => ?_) (fun c2 => ?_)
        · exact skip (fun q => q.2 c2)
        · exact h _ (.inr ⟨by omega, ⟨hx, c2⟩, hl⟩)
      · refine bc_ob_i (by decide) ?_
        refine bc_br_i (fun _ => ?_) (fun c => absurd rfl c)
        refine skip (fun q => ?_)
        obtain ⟨⟨k, k0, k1, k2⟩, -⟩ := q
        exact hx k k0 k1 k2
  refine hK.1 [3] 40 _ _ _ _ _ ?_
  exact L 99 (Nat.le_refl _) (fun l l0 l1 => by omega)
theorem t_X10_widestLoad {a b : Int} (hF : fa_ B σ v) (ha : bc_in a) (hb : bc_in b) (h1 : ∀ e : Nat, pf_ a b = e + 1 → X e σ) (h2 : pf_ a b = 0 → wb_ (sa_ (c_r v)) a b = 0 → ∀ σ', fa_ B σ' v → fr_ ob_ σ σ' → X 3 σ') (h0 : pf_ a b = 0 → wb_ (sa_ (c_r v)) a b ≠ 0 → ∀ σ', fa_ B σ' v → fr_ ob_ σ σ' → Rr (some (bc_I (wb_ (sa_ (c_r v)) a b))) σ') : bc_Sem g (d + 4) mX10_widestLoad [bc_R 0, bc_I a, bc_I b] σ Rr X := by
  refine e_X10_widestLoad rfl (fun K hK => ?_)
  refine hK.1 [] 60 _ _ _ _ _ ?_
  refine t_X10_pairFault ha hb ?_
  have hl := pf_le a b
  refine t_X10_refuse hl.1 (by omega) (fun e0 => ?_) h1
  obtain ⟨q1, q2, -⟩ := pf_0 e0
  refine t_X9_survey hF.1.1.1.1 hF.1.1.2.1 (fun σ1 p1 f1 => ?_)
  have hw := wb_le (sa_le hF.1.1.2.1) q1.1 q1.2 q2.1 q2.2
  refine t_X9_widestByGrowing p1 (sa_le hF.1.1.2.1) q1.1 q1.2 q2.1 q2.2 (fun σ2 f2 => ?_)
  have F2 := fa_x (fa_x hF f1 (by omega)) f2 (by omega)
  have fr2 : fr_ ob_ σ σ2 := fr_trans (fr_mono f1 (by omega)) (fr_mono f2 (by omega))
  refine t_X10_found (by constructor <;> omega) (fun c => h2 e0 c σ2 F2 fr2) (fun c => h0 e0 c σ2 F2 fr2)
theorem t_X10_widestLoadByTrial {a b : Int} (hF : fa_ B σ v) (ha : bc_in a) (hb : bc_in b) (h1 : ∀ e : Nat, pf_ a b = e + 1 → X e σ) (h2 : pf_ a b = 0 → wt1_ (c_r v) a b 0 → X 3 σ) (h0 : pf_ a b = 0 → ∀ x, wt1_ (c_r v) a b x → x ≠ 0 → Rr (some (bc_I x)) σ) : bc_Sem g (d + 5) mX10_widestLoadByTrial [bc_R 0, bc_I a, bc_I b] σ Rr X := by
  refine e_X10_widestLoadByTrial rfl (fun K hK => ?_)
  refine hK.1 [] 60 _ _ _ _ _ ?_
  refine t_X10_pairFault ha hb ?_
  have hl := pf_le a b
  refine t_X10_refuse hl.1 (by omega) (fun e0 => ?_) h1
  refine t_X10_widestByTrial hF (fun x hx => ?_)
  have := wt1_le hx
  refine t_X10_found (by constructor <;> omega) (fun c => h2 e0 (by rw [← c]; exact hx)) (fun c => h0 e0 x hx c)
theorem la_le (r : rw_t) (s a b : Int) : ∀ n : Nat, 0 ≤ la_ r s a b n ∧ la_ r s a b n ≤ n := by
  intro n
  induction n with
  | zero => exact ⟨Int.le_refl _, Int.le_refl _⟩
  | succ n ih =>
    unfold la_
    split <;> omega
theorem t_X10_affordableLoad {a b : Int} (hF : fa_ B σ v) (hB : B ≤ 1000000) (ha : bc_in a) (hb : bc_in b) (h1 : ∀ e : Nat, pf_ a b = e + 1 → X e σ) (h2 : pf_ a b = 0 → la_ (c_r v) ((c_r v) 1) a b 99 = 0 → ∀ σ', fa_ B σ' v → fr_ ob_ σ σ' → X 3 σ') (h0 : pf_ a b = 0 → la_ (c_r v) ((c_r v) 1) a b 99 ≠ 0 → ∀ σ', fa_ B σ' v → fr_ ob_ σ σ' → Rr (some (bc_I (la_ (c_r v) ((c_r v) 1) a b 99))) σ') : bc_Sem g (d + 5) mX10_affordableLoad [bc_R 0, bc_I a, bc_I b] σ Rr X := by
  have ls := (wt_le hF.1.1.2.2.2).2.1
  have e1 : σ.1 11 ((1 : Nat) : Int) = (c_r v) 1 := hF.1.1.1.2.2.1.2.1
  rw [← e1] at h2 h0
  refine e_X10_affordableLoad rfl (fun K hK => ?_)
  refine hK.1 [] 60 _ _ _ _ _ ?_
  refine t_X10_pairFault ha hb ?_
  have hl := pf_le a b
  refine t_X10_refuse hl.1 (by omega) (fun e0 => ?_) h1
  obtain ⟨q1, q2, -⟩ := pf_0 e0
  have hla := la_le (c_r v) (σ.1 11 ((1 : Nat) : Int)) a b 99
  refine t_X4_loadByWays hF.1.1.1.1 hF.1.1.2.1 (by rw [e1]; constructor <;> omega) q1.1 q1.2 q2.1 q2.2 (fun σ1 f1 => ?_)
  have F1 := fa_x hF f1 (by omega)
  refine t_X10_found (by constructor <;> omega) (fun c => h2 e0 c σ1 F1 (fr_mono f1 (by omega))) (fun c => h0 e0 c σ1 F1 (fr_mono f1 (by omega)))
theorem t_X10_affordableLoadByTable {a b : Int} (hF : fa_ B σ v) (hB : B ≤ 1000000) (ha : bc_in a) (hb : bc_in b) (h1 : ∀ e : Nat, pf_ a b = e + 1 → X e σ) (h2 : pf_ a b = 0 → tb_ (c_r v) ((c_r v) 1) a b = 0 → ∀ σ', fa_ B σ' v → fr_ ob_ σ σ' → X 3 σ') (h0 : pf_ a b = 0 → tb_ (c_r v) ((c_r v) 1) a b ≠ 0 → ∀ σ', fa_ B σ' v → fr_ ob_ σ σ' → Rr (some (bc_I (tb_ (c_r v) ((c_r v) 1) a b))) σ') : bc_Sem g (d + 5) mX10_affordableLoadByTable [bc_R 0, bc_I a, bc_I b] σ Rr X := by
  have ls := (wt_le hF.1.1.2.2.2).2.1
  have e1 : σ.1 11 ((1 : Nat) : Int) = (c_r v) 1 := hF.1.1.1.2.2.1.2.1
  rw [← e1] at h2 h0
  refine e_X10_affordableLoadByTable rfl (fun K hK => ?_)
  refine hK.1 [] 60 _ _ _ _ _ ?_
  refine t_X10_pairFault ha hb ?_
  have hl := pf_le a b
  refine t_X10_refuse hl.1 (by omega) (fun e0 => ?_) h1
  obtain ⟨q1, q2, -⟩ := pf_0 e0
  refine t_X4_fillTable hF.1.1.1.1 hF.1.1.2.1 (by rw [e1]; constructor <;> omega) (fun σ1 p1 l1 f1 => ?_)
  have F1 := fa_x hF f1 (by omega)
  have y := p1 a b q1.1 q1.2 q2.1 q2.2
  have ly := l1 a b q1.1 q1.2 q2.1 q2.2
  have yy : bc_in (σ1.1 186 (((8 : Nat) : Int) * a + b)) := by constructor <;> omega
  rw [← y] at h2 h0
  refine bc_ob_i (by omega) ?_
  refine bc_ob_i (by omega) ?_
  refine t_X10_found yy (fun c => h2 e0 c σ1 F1 (fr_mono f1 (by omega))) (fun c => h0 e0 c σ1 F1 (fr_mono f1 (by omega)))
end FAC
end
section
/-! ways as they are told; texts; typing -/
theorem fa_l {P : Nat → Prop} {B : Int} {σ σ' : bc_M} {v : cs_t} {l : List Int} (h : fa_ B σ v) (hf : fr_ P σ σ') (hp : ∀ k, P k → xs_ k ∨ (196 ≤ k ∧ k ≤ 197)) (hr : tx_ σ' 196 l) : fa_ B σ' (u_l v l) := by
  have no : ∀ k, ¬ (xs_ k ∨ (196 ≤ k ∧ k ≤ 197)) → ¬ P k := fun k hk q => hk (hp k q)
  obtain ⟨⟨h1, h2, h3, h4⟩, ⟨h5, h5b⟩, ⟨h6, h6b⟩, h7, ⟨h8, h8b⟩, ⟨h9, h9b⟩, h10, ⟨h11, h11b⟩, ⟨h12, h12b⟩, h13, h13b⟩ := h
  refine ⟨⟨st_A_fr h1 hf (fun k a b => no k (by omega)), st_A_fr h2 hf (fun k a b => no k (by omega)), st_A_fr h3 hf (fun k a b => no k (by omega)), st_H_fr h4 hf (fun k a b => no k (by omega))⟩, ⟨ar_fr h5 hf (no _ (by decide)), h5b⟩, ⟨?_, h6b⟩, hr, ⟨ak_fr h8 hf (no _ (by decide)), h8b⟩, ⟨s3_fr h9 hf (no _ (by decide)), h9b⟩, tx_fr h10 hf ⟨no _ (by decide), no _ (by decide)⟩, ⟨?_, h11b⟩, ⟨?_, h12b⟩, ?_, h13b⟩
  · rw [hf.1 157 (no _ (by decide))]; exact h6
  · rw [hf.1 0 (no _ (by decide))]; exact h11
  · rw [hf.1 0 (no _ (by decide))]; exact h12
  · rw [hf.1 0 (no _ (by decide))]; exact h13
noncomputable def om_ (r : rw_t) (m : Int) : List Int :=
  if r (21 + 6 * m) = 0 then tn_ (ta_ (tn_ (ta_ (tn_ (ta_ (tn_ (ta_ (tn_ (ta_ (tn_ [] m) 58) (r (16 + 6 * m))) 45) (r (17 + 6 * m))) 115) (r (18 + 6 * m))) 99) (r (19 + 6 * m))) 119) (r (20 + 6 * m))
  else ta_ (tn_ (ta_ (tn_ (ta_ (tn_ (ta_ (tn_ (ta_ (tn_ (ta_ (tn_ [] m) 58) (r (16 + 6 * m))) 45) (r (17 + 6 * m))) 115) (r (18 + 6 * m))) 99) (r (19 + 6 * m))) 119) (r (20 + 6 * m))) 120
noncomputable def ow_ (J : Int → Int) : Nat → List Int
  | 0 => []
  | n + 1 => tn_ (if 0 < n then ta_ (ow_ J n) 62 else ow_ J n) (J n)
noncomputable abbrev ot_ (k : Nat) : Prop := k = 216 ∨ k = 217
section FAC
variable {g : bc_C} {d : Nat} {σ : bc_M} {B : Int} {v : cs_t} {Rr : Option bc_A → bc_M → Prop} {X : Nat → bc_M → Prop}
theorem yv_le {a b : Int} (h : pf_ a b = 0) : yv_ v a b = u_J v (fz_ (sa_ (c_r v)) a b (c_J v)).1 (fz_ (sa_ (c_r v)) a b (c_J v)).2 := by
  unfold yv_
  rw [if_neg (by omega)]
theorem t_X10_wayLength {a b : Int} (hF : fa_ B σ v) (ha : bc_in a) (hb : bc_in b) (h1 : ∀ e : Nat, yq_ (c_r v) a b = e + 1 → ∀ σ', fa_ B σ' (yv_ v a b) → fr_ ob_ σ σ' → X e σ') (h0 : yq_ (c_r v) a b = 0 → ∀ σ', fa_ B σ' (yv_ v a b) → fr_ ob_ σ σ' → Rr (some (bc_I (c_len (yv_ v a b)))) σ') : bc_Sem g (d + 5) mX10_wayLength [bc_R 0, bc_I a, bc_I b] σ Rr X := by
  refine e_X10_wayLength rfl (fun K hK => ?_)
  refine hK.1 [] 60 _ _ _ _ _ ?_
  refine t_X10_wayFault hF ha hb (fun σ1 F1 f1 => ?_)
  have hl := yq_le (c_r v) a b
  refine t_X10_refuse hl.1 hl.2 (fun e0 => ?_) (fun e he => h1 e he σ1 F1 f1)
  exact rt_ (h0 e0 σ1 F1 f1) F1.2.2.1.1
theorem t_X10_wayJoint {a b i : Int} (hF : fa_ B σ v) (ha : bc_in a) (hb : bc_in b) (hi : bc_in i) (h1 : ∀ e : Nat, yq_ (c_r v) a b = e + 1 → ∀ σ', fa_ B σ' (yv_ v a b) → fr_ ob_ σ σ' → X e σ') (h2 : yq_ (c_r v) a b = 0 → (i < 0 ∨ c_len (yv_ v a b) < i) → ∀ σ', fa_ B σ' (yv_ v a b) → fr_ ob_ σ σ' → X 3 σ') (h0 : yq_ (c_r v) a b = 0 → 0 ≤ i → i ≤ c_len (yv_ v a b) → ∀ σ', fa_ B σ' (yv_ v a b) → fr_ ob_ σ σ' → Rr (some (bc_I (c_J (yv_ v a b) i))) σ') : bc_Sem g (d + 5) mX10_wayJoint [bc_R 0, bc_I a, bc_I b, bc_I i] σ Rr X := by
  obtain ⟨i0, i1⟩ := hi
  refine e_X10_wayJoint rfl (fun K hK => ?_)
  refine hK.1 [] 60 _ _ _ _ _ ?_
  refine t_X10_wayFault hF ha hb (fun σ1 F1 f1 => ?_)
  have hl := yq_le (c_r v) a b
  have e5 := F1.2.2.1.1
  have l5 := F1.2.2.1.2
  refine t_X10_refuse hl.1 hl.2 (fun e0 => ?_) (fun e he => h1 e he σ1 F1 f1)
  have bad : (i < 0 ∨ c_len (yv_ v a b) < i) → ∀ e : Nat, (4 : Int) = e + 1 → X e σ1 := fun q e he => by
    have ee : e = 3 := by omega
    subst ee
    exact h2 e0 q σ1 F1 f1
  refine bc_ob_i (by omega) ?_
  refine bc_br_i (fun c => ?_) (fun c => ?_)
  · refine t_X10_refuse (f := 4) (by decide) (by decide) (fun e => by omega) (bad (.inl c))
  · refine bc_ob_i (by omega) ?_
    refine bc_br_i (fun c2 => ?_) (fun c2 => ?_)
    · refine t_X10_refuse (f := 4) (by decide) (by decide) (fun e => by omega) (bad (.inr (by omega)))
    · refine t_X10_refuse (f := 0) (by decide) (by decide) (fun _ => ?_) (fun e he => by omega)
      refine bc_ob_i (by omega) ?_
      exact rt_ (h0 e0 (by omega) (by omega) σ1 F1 f1) (F1.2.1.1 i (by omega) (by omega))
theorem t_X10_renderWay {a b : Int} (hF : fa_ B σ v) (ha : bc_in a) (hb : bc_in b) (h1 : ∀ e : Nat, yq_ (c_r v) a b = e + 1 → ∀ σ', fa_ B σ' (yv_ v a b) → fr_ ob_ σ σ' → X e σ') (h0 : yq_ (c_r v) a b = 0 → ∀ σ', fa_ B σ' (u_o (yv_ v a b) (ow_ (c_J (yv_ v a b)) ((c_len (yv_ v a b)).toNat + 1))) → fr_ ob_ σ σ' → Rr (some (bc_I ((ow_ (c_J (yv_ v a b)) ((c_len (yv_ v a b)).toNat + 1)).length))) σ') : bc_Sem g (d + 5) mX10_renderWay [bc_R 0, bc_I a, bc_I b] σ Rr X := by
  refine e_X10_renderWay rfl (fun K hK => ?_)
  refine hK.1 [18] 60 _ _ _ _ _ ?_
  refine t_X10_wayFault hF ha hb (fun σ1 F1 f1 => ?_)
  have hl := yq_le (c_r v) a b
  generalize hV : yv_ v a b = V at *
  have e5 := F1.2.2.1.1
  have l5 := F1.2.2.1.2
  refine t_X10_refuse hl.1 hl.2 (fun e0 => ?_) (fun e he => h1 e he σ1 F1 f1)
  have L : ∀ i : Int, ∀ σ', 0 ≤ i → i ≤ c_len V + 1 → tx_ σ' 216 (ow_ (c_J V) i.toNat) → fr_ ot_ σ1 σ' → K 18 [(0, bc_R 0), (1, bc_I a), (2, bc_I b), (3, bc_I i)] [] σ' 1 := by
    refine up_ind (c_len V + 1) (fun i hi σ' i0 i1 t1 f2 => ?_) (fun i hi ih σ' i0 i1 t1 f2 => ?_)
    · have F2 := fa_o F1 f2 (by omega) t1
      have z5 : σ'.1 157 ((5 : Nat) : Int) = c_len V := F2.2.2.1.1
      have ei : i.toNat = (c_len V).toNat + 1 := by omega
      rw [ei] at F2 t1
      refine hK.1 [18] 60 _ _ _ _ _ ?_
      refine bc_ob_i (by omega) ?_
      refine bc_br_i (fun c => ?_) (fun c => by omega)
      exact rt_ (h0 e0 σ' F2 (fr_trans f1 (fr_mono f2 (by omega)))) t1.1
    · have F2 := fa_o F1 f2 (by omega) t1
      have z5 : σ'.1 157 ((5 : Nat) : Int) = c_len V := F2.2.2.1.1
      have hJ : ∀ σ'', fr_ ot_ σ' σ'' → σ''.1 170 i = c_J V i := fun σ'' f => (by rw [f.1 170 (by decide)]; exact F2.2.1.1 i (by omega) (by omega))
      have lJ := F1.2.1.2 i (by omega) (by omega)
      have eo : ow_ (c_J V) (i + 1).toNat = tn_ (if 0 < i then ta_ (ow_ (c_J V) i.toNat) 62 else ow_ (c_J V) i.toNat) (c_J V i) := by
        have e1 : (i + 1).toNat = i.toNat + 1 := by omega
        have e2 : ((i.toNat : Nat) : Int) = i := by omega
        rw [e1]
        unfold ow_
        rw [e2]
        by_cases c : 0 < i
        · rw [if_pos c, if_pos (show 0 < i.toNat by omega)]
          cases hn : i.toNat with
          | zero => omega
          | succ n => rfl
        · rw [if_neg c, if_neg (show ¬ 0 < i.toNat by omega)]
          cases hn : i.toNat with
          | zero => rfl
          | succ n => omega
      refine hK.1 [18] 60 _ _ _ _ _ ?_
      refine bc_ob_i (by omega) ?_
      refine bc_br_i (fun c => by omega) (fun _ => ?_)
      refine bc_ob_i (by omega) ?_
      refine bc_br_i (fun _ => ?_) (fun c => by omega)
      refine bc_ob_i (by omega) ?_
      refine bc_br_i (fun c => ?_) (fun c => ?_)
      · rw [if_pos c] at eo
        refine t_X7_append (.inr rfl) t1 (by decide) (fun σ2 t2 f3 => ?_)
        have g3 : fr_ ot_ σ' σ2 := fr_mono f3 (by omega)
        have hj := hJ σ2 g3
        refine bc_ob_i (by omega) ?_
        refine t_X7_appendNumber (.inr rfl) t2 (by omega) (fun σ3 t3 f4 => ?_)
        refine ih σ3 (by omega) (by omega) ?_ (fr_trans f2 (fr_trans g3 (fr_mono f4 (by omega))))
        rw [eo, ← hj]
        exact t3
      · rw [if_neg c] at eo
        have hj := hJ σ' (fr_refl _)
        refine bc_ob_i (by omega) ?_
        refine t_X7_appendNumber (.inr rfl) t1 (by omega) (fun σ3 t3 f4 => ?_)
        refine ih σ3 (by omega) (by omega) ?_ (fr_trans f2 (fr_mono f4 (by omega)))
        rw [eo, ← hj]
        exact t3
  refine t_X7_clear (.inr rfl) F1.2.2.2.2.2.2.1 (fun σ2 t2 f2 => ?_)
  exact L 0 σ2 (by omega) (by omega) t2 (fr_mono f2 (by omega))
theorem t_X10_outputAt {i : Int} (hF : fa_ B σ v) (hi : bc_in i) (h1 : ¬ (0 ≤ i ∧ i < (c_o v).length) → X 0 σ) (h0 : 0 ≤ i → i < (c_o v).length → Rr (some (bc_I (tg_ (c_o v) i))) σ) : bc_Sem g (d + 3) mX10_outputAt [bc_R 0, bc_I i] σ Rr X := by
  have t := hF.2.2.2.2.2.2.1
  have hg := tg_le t.2.2.2 i
  refine e_X10_outputAt rfl (fun K hK => ?_)
  refine hK.1 [] 60 _ _ _ _ _ ?_
  refine t_X7_has (.inr rfl) t hi ?_
  by_cases c : 0 ≤ i ∧ i < (c_o v).length
  · rw [if_pos c]
    refine bc_ob_i (by decide) ?_
    refine bc_br_i (fun c => absurd c (by decide)) (fun _ => ?_)
    refine t_X10_refuse (f := 0) (by decide) (by decide) (fun _ => ?_) (fun e he => by omega)
    refine t_X7_at (.inr rfl) t hi ?_
    refine bc_ob_i hg ?_
    exact h0 c.1 c.2
  · rw [if_neg c]
    refine bc_ob_i (by decide) ?_
    refine bc_br_i (fun _ => ?_) (fun c => absurd rfl c)
    refine t_X10_refuse (f := 1) (by decide) (by decide) (fun e => by omega) (fun e he => ?_)
    have ee : e = 0 := by omega
    subst ee
    exact h1 c
theorem t_X10_type {c : Int} (hF : fa_ B σ v) (hc : 0 ≤ c ∧ c ≤ 65535) (h1 : (c < 32 ∨ 126 < c) → X 1 σ) (h2 : 32 ≤ c → c ≤ 126 → 60 ≤ (c_l v).length → X 2 σ) (h0 : 32 ≤ c → c ≤ 126 → (c_l v).length < 60 → ∀ σ', fa_ B σ' (u_l v ((c_l v) ++ [c])) → fr_ ov_ σ σ' → Rr (some (bc_I ((c_l v).length + 1))) σ') : bc_Sem g (d + 2) mX10_type [bc_R 0, bc_I c] σ Rr X := by
  have t := hF.2.2.2.1
  have tl := t.1
  have tm := t.2.1
  refine e_X10_type rfl (fun K hK => ?_)
  have bad : (c < 32 ∨ 126 < c) → ∀ e : Nat, (2 : Int) = e + 1 → X e σ := fun q e he => by
    have ee : e = 1 := by omega
    subst ee
    exact h1 q
  refine hK.1 [] 60 _ _ _ _ _ ?_
  refine bc_ob_i (by omega) ?_
  refine bc_br_i (fun c1 => ?_) (fun c1 => ?_)
  · exact t_X10_refuse (f := 2) (by decide) (by decide) (fun e => by omega) (bad (.inl c1))
  · refine bc_ob_i (by omega) ?_
    refine bc_br_i (fun c2 => ?_) (fun c2 => ?_)
    · exact t_X10_refuse (f := 2) (by decide) (by decide) (fun e => by omega) (bad (.inr c2))
    · refine t_X10_refuse (f := 0) (by decide) (by decide) (fun _ => ?_) (fun e he => by omega)
      refine bc_ob_i (by omega) ?_
      refine bc_br_i (fun c3 => ?_) (fun c3 => ?_)
      · refine t_X10_refuse (f := 0) (by decide) (by decide) (fun _ => ?_) (fun e he => by omega)
        have ea : ta_ (c_l v) c = c_l v ++ [c] := if_pos (by omega)
        refine t_X7_append (.inl rfl) t hc (fun σ2 t2 f2 => ?_)
        rw [ea] at t2
        refine rt_ (h0 (by omega) (by omega) (by omega) σ2 (fa_l hF f2 (by omega) t2) (fr_mono f2 (by omega))) ?_
        have := t2.1
        rw [List.length_append] at this
        simpa using this
      · refine t_X10_refuse (f := 3) (by decide) (by decide) (fun e => by omega) (fun e he => ?_)
        have ee : e = 2 := by omega
        subst ee
        exact h2 (by omega) (by omega) (by omega)
theorem t_X10_errorPosition (hF : fa_ B σ v) (h1 : c_le v = -1 → X 3 σ) (h0 : c_le v ≠ -1 → Rr (some (bc_I (c_le v))) σ) : bc_Sem g (d + 2) mX10_errorPosition [bc_R 0] σ Rr X := by
  have e1 := hF.2.2.2.2.2.2.2.2.1
  refine e_X10_errorPosition rfl (fun K hK => ?_)
  refine hK.1 [] 60 _ _ _ _ _ ?_
  refine bc_ob_i (by omega) ?_
  refine bc_br_i (fun c => ?_) (fun c => ?_)
  · refine t_X10_refuse (f := 4) (by decide) (by decide) (fun e => by omega) (fun e he => ?_)
    have ee : e = 3 := by omega
    subst ee
    exact h1 (by omega)
  · refine t_X10_refuse (f := 0) (by decide) (by decide) (fun _ => ?_) (fun e he => by omega)
    exact rt_ (h0 (by omega)) e1.1
theorem t_X10_failedCommand (hF : fa_ B σ v) (h1 : c_lf v = -1 → X 3 σ) (h0 : c_lf v ≠ -1 → Rr (some (bc_I (c_lf v))) σ) : bc_Sem g (d + 2) mX10_failedCommand [bc_R 0] σ Rr X := by
  have e1 := hF.2.2.2.2.2.2.2.2.2
  refine e_X10_failedCommand rfl (fun K hK => ?_)
  refine hK.1 [] 60 _ _ _ _ _ ?_
  refine bc_ob_i (by omega) ?_
  refine bc_br_i (fun c => ?_) (fun c => ?_)
  · refine t_X10_refuse (f := 4) (by decide) (by decide) (fun e => by omega) (fun e he => ?_)
    have ee : e = 3 := by omega
    subst ee
    exact h1 (by omega)
  · refine t_X10_refuse (f := 0) (by decide) (by decide) (fun _ => ?_) (fun e he => by omega)
    exact rt_ (h0 (by omega)) e1.1
end FAC
end
section
/-! a member told; the agreements -/
/-- on every pair of joints the two widest ways and the two affordable loads agree -/
noncomputable def aw_ (r : rw_t) : Prop := ∀ a b : Int, 0 ≤ a → a < 8 → 0 ≤ b → b < 8 → a ≠ b → wt1_ r a b (wb_ (sa_ r) a b) ∧ la_ r (r 1) a b 99 = tb_ r (r 1) a b
noncomputable def ac_ (r : rw_t) : Prop := ∀ m : Int, 0 ≤ m → m < r 3 → cq_ r m = cr1_ r m
theorem wt1_u {r : rw_t} {a b x y : Int} (hx : wt1_ r a b x) (hy : wt1_ r a b y) : x = y := by
  rcases hx with ⟨x0, x1⟩ | ⟨x0, x1, x2⟩ <;> rcases hy with ⟨y0, y1⟩ | ⟨y0, y1, y2⟩
  · omega
  · exact absurd y1 (x1 y (by omega) (by omega))
  · exact absurd x1 (y1 x (by omega) (by omega))
  · have h1 : ¬ x < y := fun q => x2 y q (by omega) y1
    have h2 : ¬ y < x := fun q => y2 x q (by omega) x1
    omega
section FAC
variable {g : bc_C} {d : Nat} {σ : bc_M} {B : Int} {v : cs_t} {Rr : Option bc_A → bc_M → Prop} {X : Nat → bc_M → Prop}
theorem t_X10_renderMember {m : Int} (hF : fa_ B σ v) (hm : bc_in m) (h1 : ix_ (c_r v) m = 1 → X 0 σ) (h0 : 0 ≤ m → m < (c_r v) 3 → ∀ σ', fa_ B σ' (u_o v (om_ (c_r v) m)) → fr_ ob_ σ σ' → Rr (some (bc_I ((om_ (c_r v) m).length))) σ') : bc_Sem g (d + 3) mX10_renderMember [bc_R 0, bc_I m] σ Rr X := by
  have w0 := hF.1.1.2.1.1
  refine e_X10_renderMember rfl (fun K hK => ?_)
  refine hK.1 [] 100 _ _ _ _ _ ?_
  refine t_X10_indexFault hF hm ?_
  have hl := ix_le (c_r v) m
  refine t_X10_refuse hl.1 hl.2 (fun e0 => ?_) (fun e he => ?_)
  · have hp : 0 ≤ m ∧ m < (c_r v) 3 := by unfold ix_ at e0; split at e0 <;> omega
    have key : ∀ σ', fr_ ot_ σ σ' → (σ'.1 3 m = (c_r v) (16 + 6 * m) ∧ σ'.1 4 m = (c_r v) (17 + 6 * m) ∧ σ'.1 5 m = (c_r v) (18 + 6 * m) ∧ σ'.1 6 m = (c_r v) (19 + 6 * m) ∧ σ'.1 7 m = (c_r v) (20 + 6 * m) ∧ σ'.1 8 m = (c_r v) (21 + 6 * m)) := fun σ' f => by
      have q := (st_M1 hF.1.1.1.1).2 m hp.1 (by omega)
      rw [f.1 3 (by decide), f.1 4 (by decide), f.1 5 (by decide), f.1 6 (by decide), f.1 7 (by decide), f.1 8 (by decide)]
      exact q
    obtain ⟨g1, g2, g3, g4, g5, g6⟩ := hF.1.1.2.1.2 m hp.1 (by omega)
    have fin : ∀ σ', fr_ ot_ σ σ' → tx_ σ' 216 (om_ (c_r v) m) → Rr (some (bc_I (σ'.1 216 ((1 : Nat) : Int)))) σ' := fun σ' f t => rt_ (h0 hp.1 hp.2 σ' (fa_o hF f (by omega) t) (fr_mono f (by omega))) t.1
    unfold om_ at fin
    refine t_X7_clear (.inr rfl) hF.2.2.2.2.2.2.1 (fun s1 t1 f1 => ?_)
    have F1 : fr_ ot_ σ s1 := fr_mono f1 (by omega)
    refine t_X7_appendNumber (.inr rfl) t1 (by omega) (fun s2 t2 f2 => ?_)
    have F2 : fr_ ot_ σ s2 := fr_trans F1 (fr_mono f2 (by omega))
    refine t_X7_append (.inr rfl) t2 (by decide) (fun s3 t3 f3 => ?_)
    have F3 : fr_ ot_ σ s3 := fr_trans F2 (fr_mono f3 (by omega))
    obtain ⟨y1, -⟩ := key s3 F3
    rw [← y1] at fin
    refine bc_ob_i (by omega) ?_
    refine t_X7_appendNumber (.inr rfl) t3 (by omega) (fun s4 t4 f4 => ?_)
    have F4 : fr_ ot_ σ s4 := fr_trans F3 (fr_mono f4 (by omega))
    refine t_X7_append (.inr rfl) t4 (by decide) (fun s5 t5 f5 => ?_)
    have F5 : fr_ ot_ σ s5 := fr_trans F4 (fr_mono f5 (by omega))
    obtain ⟨-, y2, -⟩ := key s5 F5
    rw [← y2] at fin
    refine bc_ob_i (by omega) ?_
    refine t_X7_appendNumber (.inr rfl) t5 (by omega) (fun s6 t6 f6 => ?_)
    have F6 : fr_ ot_ σ s6 := fr_trans F5 (fr_mono f6 (by omega))
    refine t_X7_append (.inr rfl) t6 (by decide) (fun s7 t7 f7 => ?_)
    have F7 : fr_ ot_ σ s7 := fr_trans F6 (fr_mono f7 (by omega))
    obtain ⟨-, -, y3, -⟩ := key s7 F7
    rw [← y3] at fin
    refine bc_ob_i (by omega) ?_
    refine t_X7_appendNumber (.inr rfl) t7 (by omega) (fun s8 t8 f8 => ?_)
    have F8 : fr_ ot_ σ s8 := fr_trans F7 (fr_mono f8 (by omega))
    refine t_X7_append (.inr rfl) t8 (by decide) (fun s9 t9 f9 => ?_)
    have F9 : fr_ ot_ σ s9 := fr_trans F8 (fr_mono f9 (by omega))
    obtain ⟨-, -, -, y4, -⟩ := key s9 F9
    rw [← y4] at fin
    refine bc_ob_i (by omega) ?_
    refine t_X7_appendNumber (.inr rfl) t9 (by omega) (fun sa ta fa => ?_)
    have FA : fr_ ot_ σ sa := fr_trans F9 (fr_mono fa (by omega))
    refine t_X7_append (.inr rfl) ta (by decide) (fun sb tb fb => ?_)
    have FB : fr_ ot_ σ sb := fr_trans FA (fr_mono fb (by omega))
    obtain ⟨-, -, -, -, y5, -⟩ := key sb FB
    rw [← y5] at fin
    refine bc_ob_i (by omega) ?_
    refine t_X7_appendNumber (.inr rfl) tb (by omega) (fun sc tc fc => ?_)
    have FC : fr_ ot_ σ sc := fr_trans FB (fr_mono fc (by omega))
    obtain ⟨-, -, -, -, -, y6⟩ := key sc FC
    refine bc_ob_i (by omega) ?_
    refine bc_ob_i (by omega) ?_
    refine bc_br_i (fun c => ?_) (fun c => ?_)
    · rw [if_pos (by omega)] at fin
      exact fin sc FC tc
    · rw [if_neg (by omega)] at fin
      refine t_X7_append (.inr rfl) tc (by decide) (fun sd td fd => ?_)
      exact fin sd (fr_trans FC (fr_mono fd (by omega))) td
  · have he1 : e = 0 ∧ ix_ (c_r v) m = 1 := by unfold ix_ at he ⊢; split at he <;> split <;> omega
    rw [he1.1]
    exact h1 he1.2
theorem t_X10_criticalMembersAgree (hF : fa_ B σ v) (h1 : ac_ (c_r v) → ∀ σ', fa_ B σ' v → fr_ ob_ σ σ' → Rr (some (bc_I 1)) σ') (h0 : ¬ ac_ (c_r v) → ∀ σ', fa_ B σ' v → fr_ ob_ σ σ' → Rr (some (bc_I 0)) σ') : bc_Sem g (d + 8 + 4) mX10_criticalMembersAgree [bc_R 0] σ Rr X := by
  have w0 := hF.1.1.2.1.1
  refine e_X10_criticalMembersAgree rfl (fun K hK => ?_)
  have L : ∀ i : Int, ∀ σ', 0 ≤ i → i ≤ (c_r v) 3 → (∀ m : Int, 0 ≤ m → m < i → cq_ (c_r v) m = cr1_ (c_r v) m) → fa_ B σ' v → fr_ ob_ σ σ' → K 2 [(0, bc_R 0), (1, bc_I i)] [] σ' 0 := by
    refine up_ind ((c_r v) 3) (fun i hi σ' i0 i1 ha F1 f1 => ?_) (fun i hi ih σ' i0 i1 ha F1 f1 => ?_)
    · have e3 : σ'.1 2 ((0 : Nat) : Int) = (c_r v) 3 := F1.1.1.1.1.1
      refine hK.1 [2] 60 _ _ _ _ _ ?_
      refine bc_ob_i (by omega) ?_
      refine bc_br_i (fun c => by omega) (fun _ => ?_)
      refine bc_ob_i (by decide) ?_
      exact h1 (fun m m0 m1 => ha m m0 (by omega)) σ' F1 f1
    · have e3 : σ'.1 2 ((0 : Nat) : Int) = (c_r v) 3 := F1.1.1.1.1.1
      have l1 := cq_le (c_r v) i
      have l2 := cr1_le (c_r v) i
      refine hK.1 [2] 60 _ _ _ _ _ ?_
      refine bc_ob_i (by omega) ?_
      refine bc_br_i (fun _ => ?_) (fun c => by omega)
      refine t_X10_criticalBySearch F1 i0 hi (fun σ2 F2 f2 => ?_)
      refine t_X10_criticalByRemoval F2 i0 hi ?_
      refine bc_ob_i (by omega) ?_
      refine bc_br_i (fun c => ?_) (fun c => ?_)
      · refine ih σ2 (by omega) (by omega) (fun m m0 m1 => ?_) F2 (fr_trans f1 f2)
        by_cases e : m = i
        · rw [e]; exact c
        · exact ha m m0 (by omega)
      · refine bc_ob_i (by decide) ?_
        exact h0 (fun q => c (q i i0 hi)) σ2 F2 (fr_trans f1 f2)
  refine hK.1 [2] 40 _ _ _ _ _ ?_
  exact L 0 σ (by omega) w0.1 (fun m m0 m1 => by omega) hF (fr_refl _)
theorem t_X10_waysAgree (hF : fa_ B σ v) (hB : B ≤ 1000000) (h1 : aw_ (c_r v) → ∀ σ', fa_ B σ' v → fr_ ob_ σ σ' → Rr (some (bc_I 1)) σ') (h0 : ¬ aw_ (c_r v) → ∀ σ', fa_ B σ' v → fr_ ob_ σ σ' → Rr (some (bc_I 0)) σ') : bc_Sem g (d + 5) mX10_waysAgree [bc_R 0] σ Rr X := by
  have ls := (wt_le hF.1.1.2.2.2).2.1
  have e1 : σ.1 11 ((1 : Nat) : Int) = (c_r v) 1 := hF.1.1.1.2.2.1.2.1
  unfold aw_ at h1 h0
  rw [← e1] at h1 h0 ls
  obtain ⟨s, hs⟩ : ∃ s, s = σ.1 11 ((1 : Nat) : Int) := ⟨_, rfl⟩
  rw [← hs] at h1 h0 ls
  have hin : bc_in s := by constructor <;> omega
  refine e_X10_waysAgree rfl (fun K hK => ?_)
  have L : ∀ i : Int, ∀ σ' (z : bc_LV), 0 ≤ i → i ≤ 8 → (∀ a b : Int, 0 ≤ a → a < i → 0 ≤ b → b < 8 → a ≠ b → wt1_ (c_r v) a b (wb_ (sa_ (c_r v)) a b) ∧ la_ (c_r v) s a b 99 = tb_ (c_r v) s a b) → sv_ σ' 158 (sa_ (c_r v)) → sv_ σ' 186 (tb_ (c_r v) s) → gl_ (tb_ (c_r v) s) 99 → fa_ B σ' v → fr_ ob_ σ σ' → K 38 ([(0, bc_R 0), (1, bc_R 2), (2, bc_I s), (3, bc_I i)] ++ z) [] σ' 0 := by
    refine up_ind 8 (fun i hi σ' z i0 i1 ha p1 p2 l2 F1 f1 => ?_) (fun i hi ih σ' z i0 i1 ha p1 p2 l2 F1 f1 => ?_)
    · refine hK.2 _ _ [(0, bc_R 0), (1, bc_R 2), (2, bc_I s), (3, bc_I i)] _ _ _ (ls_ _ _) ?_
      refine hK.1 [38] 60 _ _ _ _ _ ?_
      refine bc_ob_i (by omega) ?_
      refine bc_br_i (fun c => by omega) (fun _ => ?_)
      refine bc_ob_i (by decide) ?_
      exact h1 (fun a b a0 a1 b0 b1 ab => ha a b a0 (by omega) b0 b1 ab) σ' F1 f1
    · refine hK.2 _ _ [(0, bc_R 0), (1, bc_R 2), (2, bc_I s), (3, bc_I i)] _ _ _ (ls_ _ _) ?_
      have L0 : ∀ j : Int, ∀ σ', 0 ≤ j → j ≤ 8 → (∀ b : Int, 0 ≤ b → b < j → i ≠ b → wt1_ (c_r v) i b (wb_ (sa_ (c_r v)) i b) ∧ la_ (c_r v) s i b 99 = tb_ (c_r v) s i b) → sv_ σ' 158 (sa_ (c_r v)) → sv_ σ' 186 (tb_ (c_r v) s) → fa_ B σ' v → fr_ ob_ σ σ' → K 47 [(0, bc_R 0), (1, bc_R 2), (2, bc_I s), (3, bc_I i), (4, bc_I j)] [] σ' 0 := by
        refine up_ind 8 (fun j hj σ' j0 j1 hb p1 p2 F1 f1 => ?_) (fun j hj jh σ' j0 j1 hb p1 p2 F1 f1 => ?_)
        · refine hK.1 [38, 47] 60 _ _ _ _ _ ?_
          refine bc_ob_i (by omega) ?_
          refine bc_br_i (fun c => by omega) (fun _ => ?_)
          refine ih σ' [(4, bc_I j)] (by omega) (by omega) (fun a b a0 a1 b0 b1 ab => ?_) p1 p2 l2 F1 f1
          by_cases e : a = i
          · rw [e] at ab ⊢; exact hb b b0 (by omega) ab
          · exact ha a b a0 (by omega) b0 b1 ab
        · have nxt : ∀ σ', (i ≠ j → wt1_ (c_r v) i j (wb_ (sa_ (c_r v)) i j) ∧ la_ (c_r v) s i j 99 = tb_ (c_r v) s i j) → sv_ σ' 158 (sa_ (c_r v)) → sv_ σ' 186 (tb_ (c_r v) s) → fa_ B σ' v → fr_ ob_ σ σ' → K 47 [(0, bc_R 0), (1, bc_R 2), (2, bc_I s), (3, bc_I i), (4, bc_I (j + 1))] [] σ' 0 := fun σ' q p1 p2 F1 f1 => by
            refine jh σ' (by omega) (by omega) (fun b b0 b1 ib => ?_) p1 p2 F1 f1
            by_cases e : b = j
            · rw [e] at ib ⊢; exact q ib
            · exact hb b b0 (by omega) ib
          have hw := wb_le (sa_le hF.1.1.2.1) i0 hi j0 hj
          refine hK.1 [38, 47] 60 _ _ _ _ _ ?_
          refine bc_ob_i (by omega) ?_
          refine bc_br_i (fun _ => ?_) (fun c => by omega)
          refine bc_ob_i (by omega) ?_
          refine bc_br_i (fun c => nxt σ' (fun q => absurd c q) p1 p2 F1 f1) (fun ij => ?_)
          refine t_X9_widestByGrowing p1 (sa_le hF.1.1.2.1) i0 hi j0 hj (fun σ2 f2 => ?_)
          have F2 := fa_x F1 f2 (by omega)
          refine t_X10_widestByTrial F2 (fun x hx => ?_)
          have lx := wt1_le hx
          refine bc_ob_i (by omega) ?_
          refine bc_br_i (fun c => ?_) (fun c => ?_)
          · refine t_X4_loadByWays F2.1.1.1.1 F2.1.1.2.1 hin i0 hi j0 hj (fun σ3 f3 => ?_)
            have F3 := fa_x F2 f3 (by omega)
            have fr3 : fr_ ob_ σ σ3 := fr_trans f1 (fr_trans (fr_mono f2 (by omega)) (fr_mono f3 (by omega)))
            have p13 : sv_ σ3 158 (sa_ (c_r v)) := sv_fr (sv_fr p1 f2 (by decide)) f3 (by decide)
            have p23 : sv_ σ3 186 (tb_ (c_r v) s) := sv_fr (sv_fr p2 f2 (by decide)) f3 (by decide)
            have y := p23 i j i0 hi j0 hj
            have ly := l2 i j i0 hi j0 hj
            have yy : bc_in (σ3.1 186 (((8 : Nat) : Int) * i + j)) := by constructor <;> omega
            have lla := la_le (c_r v) s i j 99
            refine bc_ob_i (by omega) ?_
            refine bc_ob_i (by omega) ?_
            refine bc_ob_i ⟨by constructor <;> omega, yy⟩ ?_
            refine bc_br_i (fun c2 => ?_) (fun c2 => ?_)
            · have c2' : la_ (c_r v) s i j 99 = σ3.1 186 (((8 : Nat) : Int) * i + j) := c2
              exact nxt σ3 (fun _ => ⟨by rw [c]; exact hx, by rw [c2', y]⟩) p13 p23 F3 fr3
            · have c2' : ¬ la_ (c_r v) s i j 99 = σ3.1 186 (((8 : Nat) : Int) * i + j) := c2
              refine bc_ob_i (by decide) ?_
              exact h0 (fun q => c2' (by rw [y]; exact (q i j i0 hi j0 hj ij).2)) σ3 F3 fr3
          · refine bc_ob_i (by decide) ?_
            refine h0 (fun q => c ?_) σ2 F2 (fr_trans f1 (fr_mono f2 (by omega)))
            exact wt1_u (q i j i0 hi j0 hj ij).1 hx
      refine hK.1 [38, 47] 60 _ _ _ _ _ ?_
      refine bc_ob_i (by omega) ?_
      refine bc_br_i (fun _ => ?_) (fun c => by omega)
      exact L0 0 σ' (by omega) (by omega) (fun b b0 b1 => by omega) p1 p2 F1 f1
  subst hs
  refine hK.1 [38] 40 _ _ _ _ _ ?_
  refine t_X9_survey hF.1.1.1.1 hF.1.1.2.1 (fun σ1 p1 f1 => ?_)
  have F1 := fa_x hF f1 (by omega)
  refine t_X4_fillTable F1.1.1.1.1 F1.1.1.2.1 hin (fun σ2 p2 l2 f2 => ?_)
  exact L 0 σ2 [] (by omega) (by omega) (fun a b a0 a1 b0 b1 ab => by omega) (sv_fr p1 f2 (by decide)) p2 l2 (fa_x F1 f2 (by omega)) (fr_trans (fr_mono f1 (by omega)) (fr_mono f2 (by omega)))
/-- what isConsistent asks -/
noncomputable def ak1_ (r : rw_t) : Prop := aw_ r ∧ ac_ r ∧ ((∀ a : Int, 1 ≤ a → a ≤ 50 → 0 ≤ sp_ r (r 0 + a)) ↔ ∀ k : Int, 0 ≤ k → k < r 4 → 0 ≤ sp_ r (r (113 + 3 * k)))
theorem t_X10_isConsistent (hF : fa_ B σ v) (hB : B ≤ 1000000) (h1 : ak1_ (c_r v) → ∀ σ', fa_ B σ' v → fr_ ob_ σ σ' → Rr (some (bc_I 1)) σ') (h0 : ¬ ak1_ (c_r v) → ∀ σ', fa_ B σ' v → fr_ ob_ σ σ' → Rr (some (bc_I 0)) σ') : bc_Sem g (d + 8 + 5) mX10_isConsistent [bc_R 0] σ Rr X := by
  refine e_X10_isConsistent rfl (fun K hK => ?_)
  refine hK.1 [] 60 _ _ _ _ _ ?_
  have stop : ∀ σ', ¬ ak1_ (c_r v) → fa_ B σ' v → fr_ ob_ σ σ' → bc_ob (0 ≤ (0 : Int) ∧ (0 : Int) ≤ 1) (Rr (some (bc_I 0)) σ') := fun σ' q F f => bc_ob_i (by decide) (h0 q σ' F f)
  refine t_X10_waysAgree hF hB (fun q1 σ1 F1 f1 => ?_) (fun q1 σ1 F1 f1 => ?_)
  · refine bc_ob_i (by decide) ?_
    refine bc_br_i (fun c => absurd c (by decide)) (fun _ => ?_)
    refine t_X10_criticalMembersAgree F1 (fun q2 σ2 F2 f2 => ?_) (fun q2 σ2 F2 f2 => ?_)
    · refine bc_ob_i (by decide) ?_
      refine bc_br_i (fun c => absurd c (by decide)) (fun _ => ?_)
      have f12 := fr_trans f1 f2
      refine t_X8_keepsAllDayByDay F2.1.1.1.2.2 F2.1.1.2.2.2 hB (fun x hx => ?_)
      refine t_X8_keepsAllBySums F2.1.1.1.2.2 F2.1.1.2.2.2 hB (fun y hy => ?_)
      refine bc_ob_i (by rcases hx with ⟨hx, -⟩ | ⟨hx, -⟩ <;> rcases hy with ⟨hy, -⟩ | ⟨hy, -⟩ <;> (constructor <;> constructor <;> omega)) ?_
      refine bc_br_i (fun c => ?_) (fun c => ?_)
      · have ag : ak1_ (c_r v) := by
          refine ⟨q1, q2, ?_⟩
          rcases hx with ⟨hx, kx⟩ | ⟨hx, a, a0, a1, kx⟩ <;> rcases hy with ⟨hy, ky⟩ | ⟨hy, b, b0, b1, ky⟩
          · exact ⟨fun _ => ky, fun _ => kx⟩
          · omega
          · omega
          · exact ⟨fun q => absurd (q a a0 a1) (by omega), fun q => absurd (q b b0 b1) (by omega)⟩
        have es : σ2.1 11 ((1 : Nat) : Int) = (c_r v) 1 := F2.1.1.1.2.2.1.2.1
        have ls := (wt_le F2.1.1.2.2.2).2.1
        refine t_X8_accountedSteel F2.1.1.1.2.2 F2.1.1.2.2.2 ?_
        refine bc_ob_i (by constructor <;> constructor <;> omega) ?_
        refine bc_br_i (fun c => ?_) (fun c => absurd es c)
        refine bc_ob_i (by decide) ?_
        exact h1 ag σ2 F2 f12
      · refine stop σ2 (fun q => c ?_) F2 f12
        rcases hx with ⟨hx, kx⟩ | ⟨hx, a, a0, a1, kx⟩ <;> rcases hy with ⟨hy, ky⟩ | ⟨hy, b, b0, b1, ky⟩
        · omega
        · exact absurd (q.2.2.mp kx b b0 b1) (by omega)
        · exact absurd (q.2.2.mpr ky a a0 a1) (by omega)
        · omega
    · refine bc_ob_i (by decide) ?_
      refine bc_br_i (fun _ => ?_) (fun c => absurd rfl c)
      exact stop σ2 (fun q => q2 q.2.1) F2 (fr_trans f1 f2)
  · refine bc_ob_i (by decide) ?_
    refine bc_br_i (fun _ => ?_) (fun c => absurd rfl c)
    exact stop σ1 (fun q => q1 q.1) F1 f1
end FAC
end
section
/-! a script carried out -/
/-- the fault f of a command of kind k -/
noncomputable def cf_ (r : rw_t) (k x y z f : Int) : Prop :=
  (k = 0 ∧ mq_ r x y z f) ∨ (k = 1 ∧ f = wq_ r x y z) ∨ (k = 2 ∧ f = vq_ r x y) ∨ (k = 3 ∧ f = fq1_ x) ∨ (k = 4 ∧ f = eq_ r x) ∨
  (k = 5 ∧ f = lq_ r x 0) ∨ (k = 6 ∧ f = lq_ r x 1) ∨ (k = 7 ∧ f = nq1_ x) ∨ (k = 8 ∧ f = pq_ r x y z) ∨ (k = 9 ∧ f = dq_ x)
/-- what a command of kind k makes of the object -/
noncomputable def ck_ (v : cs_t) (k x y z : Int) (w : cs_t) : Prop :=
  (k = 0 ∧ w = u_r v (ra_ (c_r v) x y z)) ∨ (k = 1 ∧ ∃ r', wz_ v x y z r' ∧ w = wv1_ v x y r') ∨ (k = 2 ∧ w = u_r v (rv_ (c_r v) x y)) ∨ (k = 3 ∧ w = u_r v (up_ (c_r v) 2 x)) ∨
  (k = 4 ∧ w = u_r v (rn_ (rs_ (c_r v) (co_ (c_r v) x)) x)) ∨ (k = 5 ∧ w = u_r v (rl_ (c_r v) x 1)) ∨ (k = 6 ∧ w = u_r v (rl_ (c_r v) x 0)) ∨ (k = 7 ∧ w = u_r v (re_ (c_r v) x)) ∨
  (k = 8 ∧ w = u_r v (rp_ (c_r v) x z)) ∨ (k = 9 ∧ w = u_r v (ps_ (c_r v) x.toNat))
section RUN
variable {g : bc_C} {d : Nat} {σ : bc_M} {B : Int} {v : cs_t} {Rr : Option bc_A → bc_M → Prop} {X : Nat → bc_M → Prop} {z : pz_t}
theorem t_X10_commandFault {i : Int} (hF : fa_ B σ v) (hB : B ≤ 1000000) (hS : sz_ σ z) (i0 : 0 ≤ i) (i1 : i < z.2.2.1) (h : ∀ σ' f, cf_ (c_r v) (z.2.2.2.1 i) (z.2.2.2.2 i 0) (z.2.2.2.2 i 1) (z.2.2.2.2 i 2) f → (0 ≤ f ∧ f ≤ 6) → fa_ B σ' v → fr_ ob_ σ σ' → Rr (some (bc_I f)) σ') : bc_Sem g (d + 4) mX10_commandFault [bc_R 0, bc_I i] σ Rr X := by
  obtain ⟨⟨hc, hc0, hc1⟩, ⟨hk, kk⟩, hA, gA⟩ := id hS
  have lk := kk i i0 (by omega)
  have l0 := gA i 0 i0 (by omega) (by decide) (by decide)
  have l1 := gA i 1 i0 (by omega) (by decide) (by decide)
  have l2 := gA i 2 i0 (by omega) (by decide) (by decide)
  have hi : bc_in i := by constructor <;> omega
  have go : ∀ j : Int, 0 ≤ j → j < 3 → ∀ {D : Nat} {R1 : Option bc_A → bc_M → Prop} {X1 : Nat → bc_M → Prop}, R1 (some (bc_I (z.2.2.2.2 i j))) σ → bc_Sem g (D + 1) mX5_argument [bc_R 195, bc_I i, bc_I j] σ R1 X1 := fun j j0 j1 D R1 X1 q => by
    refine t_X5_argument hS hi (by constructor <;> omega) ?_
    exact rt_ q (if_pos ⟨⟨i0, i1⟩, j0, j1⟩)
  have gk : ∀ {D : Nat} {R1 : Option bc_A → bc_M → Prop} {X1 : Nat → bc_M → Prop}, R1 (some (bc_I (z.2.2.2.1 i))) σ → bc_Sem g (D + 1) mX5_kindAt [bc_R 195, bc_I i] σ R1 X1 := fun {D R1 X1} q => by
    refine t_X5_kindAt hS hi ?_
    exact rt_ q (if_pos ⟨i0, i1⟩)
  unfold cf_ at h
  generalize hx : z.2.2.2.2 i 0 = x at *
  generalize hy : z.2.2.2.2 i 1 = y at *
  generalize hz : z.2.2.2.2 i 2 = w at *
  generalize hkk : z.2.2.2.1 i = k at *
  have ix : bc_in x := by constructor <;> omega
  have iy : bc_in y := by constructor <;> omega
  have iw : bc_in w := by constructor <;> omega
  have gx : ∀ {D : Nat} {R1 : Option bc_A → bc_M → Prop} {X1 : Nat → bc_M → Prop}, R1 (some (bc_I x)) σ → bc_Sem g (D + 1) mX5_argument [bc_R 195, bc_I i, bc_I 0] σ R1 X1 := fun {D R1 X1} q => go 0 (by decide) (by decide) (by rw [hx]; exact q)
  have gy : ∀ {D : Nat} {R1 : Option bc_A → bc_M → Prop} {X1 : Nat → bc_M → Prop}, R1 (some (bc_I y)) σ → bc_Sem g (D + 1) mX5_argument [bc_R 195, bc_I i, bc_I 1] σ R1 X1 := fun {D R1 X1} q => go 1 (by decide) (by decide) (by rw [hy]; exact q)
  have gw : ∀ {D : Nat} {R1 : Option bc_A → bc_M → Prop} {X1 : Nat → bc_M → Prop}, R1 (some (bc_I w)) σ → bc_Sem g (D + 1) mX5_argument [bc_R 195, bc_I i, bc_I 2] σ R1 X1 := fun {D R1 X1} q => go 2 (by decide) (by decide) (by rw [hz]; exact q)
  have f0 := fr_refl (P := ob_) σ
  have tail : ∀ f, (0 ≤ f ∧ f ≤ 6) → ((k = 2 ∧ f = vq_ (c_r v) x y) ∨ (k = 3 ∧ f = fq1_ x) ∨ (k = 4 ∧ f = eq_ (c_r v) x) ∨ (k = 5 ∧ f = lq_ (c_r v) x 0) ∨ (k = 6 ∧ f = lq_ (c_r v) x 1) ∨ (k = 7 ∧ f = nq1_ x) ∨ (k = 8 ∧ f = pq_ (c_r v) x y w) ∨ (k = 9 ∧ f = dq_ x)) → Rr (some (bc_I f)) σ := fun f hf q => h σ f (.inr (.inr q)) hf hF f0
  refine e_X10_commandFault rfl (fun K hK => ?_)
  refine hK.1 [] 60 _ _ _ _ _ ?_
  refine gx ?_
  refine gy ?_
  refine gw ?_
  refine gk ?_
  refine bc_ob_i (by omega) ?_
  refine bc_br_i (fun c => ?_) (fun c0 => ?_)
  · refine t_X10_memberFault hF ix iy iw (fun f hf => ?_)
    exact h σ f (.inl ⟨c, hf⟩) (mq_le hf) hF f0
  refine bc_br_i (fun c => ?_) (fun c1 => ?_)
  · refine t_X10_walkFault hF ix iy iw (fun σ1 F1 f1 => ?_)
    exact h σ1 _ (.inr (.inl ⟨c, rfl⟩)) (wq_le _ _ _ _) F1 f1
  refine bc_br_i (fun c => ?_) (fun c2 => ?_)
  · refine t_X10_vowFault hF hB ix iy ?_
    exact tail _ (by unfold vq_; repeat' split
                     all_goals omega) (.inl ⟨c, rfl⟩)
  refine bc_br_i (fun c => ?_) (fun c3 => ?_)
  · refine t_X10_forgeFault ix ?_
    exact tail _ (by unfold fq1_; split <;> omega) (.inr (.inl ⟨c, rfl⟩))
  refine bc_br_i (fun c => ?_) (fun c4 => ?_)
  · refine t_X10_mendFault hF hB ix ?_
    exact tail _ (by unfold eq_; repeat' split
                     all_goals omega) (.inr (.inr (.inl ⟨c, rfl⟩)))
  refine bc_br_i (fun c => ?_) (fun c5 => ?_)
  · refine t_X10_leaveFault hF ix (by decide) ?_
    exact tail _ (by unfold lq_; repeat' split
                     all_goals omega) (.inr (.inr (.inr (.inl ⟨c, rfl⟩))))
  refine bc_br_i (fun c => ?_) (fun c6 => ?_)
  · refine t_X10_leaveFault hF ix (by decide) ?_
    exact tail _ (by unfold lq_; repeat' split
                     all_goals omega) (.inr (.inr (.inr (.inr (.inl ⟨c, rfl⟩)))))
  refine bc_br_i (fun c => ?_) (fun c7 => ?_)
  · have e : x % 65536 = x := by omega
    refine t_X10_nicheFault (by rw [e]; exact ix) ?_
    have q := tail (nq1_ x) (by unfold nq1_; split <;> omega) (.inr (.inr (.inr (.inr (.inr (.inl ⟨c, rfl⟩))))))
    exact rt_ q (by rw [e])
  refine bc_br_i (fun c => ?_) (fun c8 => ?_)
  · have e : y % 65536 = y := by omega
    refine t_X10_placeFault hF ix (by rw [e]; exact iy) iw ?_
    have q := tail (pq_ (c_r v) x y w) (by unfold pq_; repeat' split
                                           all_goals omega) (.inr (.inr (.inr (.inr (.inr (.inr (.inl ⟨c, rfl⟩)))))))
    exact rt_ q (by rw [e])
  refine bc_br_i (fun c => ?_) (fun c9 => ?_)
  · refine t_X10_daysFault ix ?_
    exact tail _ (by unfold dq_; split <;> omega) (.inr (.inr (.inr (.inr (.inr (.inr (.inr ⟨c, rfl⟩)))))))
  · omega
end RUN
end
section
theorem mq_0 {r : rw_t} {a b s : Int} (h : mq_ r a b s 0) : pf_ a b = 0 ∧ (1 ≤ s ∧ s ≤ 99) ∧ r 3 < 16 := by
  have := pf_le a b
  rcases h with ⟨q, e⟩ | ⟨q, -, e⟩ | ⟨q, -, -, e⟩ | ⟨q, q1, q2, -, -⟩
  · omega
  · omega
  · omega
  · exact ⟨q, q1, q2⟩
theorem wq_0 {r : rw_t} {a b n : Int} (e0 : 0 = wq_ r a b n) : pf_ a b = 0 ∧ 1 ≤ n ∧ n ≤ 99 := by
  have := pf_le a b
  unfold wq_ at e0
  split at e0
  · omega
  · split at e0 <;> omega
theorem vq_0 {r : rw_t} {a u : Int} (e0 : 0 = vq_ r a u) : (r 0 < a ∧ a ≤ r 0 + 50) ∧ (1 ≤ u ∧ u ≤ 99) ∧ r 4 < 8 := by
  unfold vq_ at e0
  split at e0
  · omega
  · split at e0 <;> omega
theorem eq_0 {r : rw_t} {m : Int} (e0 : 0 = eq_ r m) : (0 ≤ m ∧ m < r 3) ∧ co_ r m ≤ r 1 := by
  unfold eq_ at e0
  split at e0
  · omega
  · split at e0
    · omega
    · split at e0 <;> omega
theorem lq_0 {r : rw_t} {m b : Int} (e0 : 0 = lq_ r m b) : 0 ≤ m ∧ m < r 3 := by unfold lq_ at e0; split at e0 <;> omega
theorem pq_0 {r : rw_t} {p c w : Int} (e0 : 0 = pq_ r p c w) : (0 ≤ p ∧ p < 4) ∧ 0 ≤ w ∧ w ≤ 20 := by
  unfold pq_ at e0
  split at e0
  · omega
  · split at e0 <;> omega
section RUN
variable {g : bc_C} {d : Nat} {σ : bc_M} {B : Int} {v : cs_t} {Rr : Option bc_A → bc_M → Prop} {X : Nat → bc_M → Prop} {z : pz_t}
theorem t_X10_carryOut {i : Int} (hF : fa_ B σ v) (hB : B ≤ 999900) (hS : sz_ σ z) (i0 : 0 ≤ i) (i1 : i < z.2.2.1) (hf : cf_ (c_r v) (z.2.2.2.1 i) (z.2.2.2.2 i 0) (z.2.2.2.2 i 1) (z.2.2.2.2 i 2) 0) (h : ∀ σ' w, ck_ v (z.2.2.2.1 i) (z.2.2.2.2 i 0) (z.2.2.2.2 i 1) (z.2.2.2.2 i 2) w → fa_ (B + 30) σ' w → fr_ ob_ σ σ' → Rr none σ') : bc_Sem g (d + 5) mX10_carryOut [bc_R 0, bc_I i] σ Rr X := by
  obtain ⟨⟨hc, hc0, hc1⟩, ⟨hk, kk⟩, hA, gA⟩ := id hS
  have lk := kk i i0 (by omega)
  have l0 := gA i 0 i0 (by omega) (by decide) (by decide)
  have l1 := gA i 1 i0 (by omega) (by decide) (by decide)
  have l2 := gA i 2 i0 (by omega) (by decide) (by decide)
  have hi : bc_in i := by constructor <;> omega
  have go : ∀ j : Int, 0 ≤ j → j < 3 → ∀ {D : Nat} {R1 : Option bc_A → bc_M → Prop} {X1 : Nat → bc_M → Prop}, R1 (some (bc_I (z.2.2.2.2 i j))) σ → bc_Sem g (D + 1) mX5_argument [bc_R 195, bc_I i, bc_I j] σ R1 X1 := fun j j0 j1 D R1 X1 q => by
    refine t_X5_argument hS hi (by constructor <;> omega) ?_
    exact rt_ q (if_pos ⟨⟨i0, i1⟩, j0, j1⟩)
  have gk : ∀ {D : Nat} {R1 : Option bc_A → bc_M → Prop} {X1 : Nat → bc_M → Prop}, R1 (some (bc_I (z.2.2.2.1 i))) σ → bc_Sem g (D + 1) mX5_kindAt [bc_R 195, bc_I i] σ R1 X1 := fun {D R1 X1} q => by
    refine t_X5_kindAt hS hi ?_
    exact rt_ q (if_pos ⟨i0, i1⟩)
  unfold cf_ at hf
  unfold ck_ at h
  generalize hx : z.2.2.2.2 i 0 = x at *
  generalize hy : z.2.2.2.2 i 1 = y at *
  generalize hz : z.2.2.2.2 i 2 = w at *
  generalize hkk : z.2.2.2.1 i = k at *
  have ix : bc_in x := by constructor <;> omega
  have iy : bc_in y := by constructor <;> omega
  have gx : ∀ {D : Nat} {R1 : Option bc_A → bc_M → Prop} {X1 : Nat → bc_M → Prop}, R1 (some (bc_I x)) σ → bc_Sem g (D + 1) mX5_argument [bc_R 195, bc_I i, bc_I 0] σ R1 X1 := fun {D R1 X1} q => go 0 (by decide) (by decide) (by rw [hx]; exact q)
  have gy : ∀ {D : Nat} {R1 : Option bc_A → bc_M → Prop} {X1 : Nat → bc_M → Prop}, R1 (some (bc_I y)) σ → bc_Sem g (D + 1) mX5_argument [bc_R 195, bc_I i, bc_I 1] σ R1 X1 := fun {D R1 X1} q => go 1 (by decide) (by decide) (by rw [hy]; exact q)
  have gw : ∀ {D : Nat} {R1 : Option bc_A → bc_M → Prop} {X1 : Nat → bc_M → Prop}, R1 (some (bc_I w)) σ → bc_Sem g (D + 1) mX5_argument [bc_R 195, bc_I i, bc_I 2] σ R1 X1 := fun {D R1 X1} q => go 2 (by decide) (by decide) (by rw [hz]; exact q)
  refine e_X10_carryOut rfl (fun K hK => ?_)
  refine hK.1 [] 60 _ _ _ _ _ ?_
  refine gx ?_
  refine gy ?_
  refine gw ?_
  refine gk ?_
  refine bc_ob_i (by omega) ?_
  refine bc_br_i (fun c => ?_) (fun c0 => ?_)
  · have q : mq_ (c_r v) x y w 0 := by
      rcases hf with ⟨-, hf⟩ | ⟨hf, -⟩ | ⟨hf, -⟩ | ⟨hf, -⟩ | ⟨hf, -⟩ | ⟨hf, -⟩ | ⟨hf, -⟩ | ⟨hf, -⟩ | ⟨hf, -⟩ | ⟨hf, -⟩ <;> first | exact hf | omega
    obtain ⟨p0, p1, p2⟩ := mq_0 q
    obtain ⟨a0, b0, -⟩ := pf_0 p0
    obtain ⟨w1, w2, w3⟩ := ra_wf hF.1.1.2.1 p2 a0 b0 p1
    refine t_X2_append hF.1.1.1.1 hF.1.1.2.1 p2 ix iy (fun σ2 s2 f2 => ?_)
    exact h σ2 _ (.inl ⟨c, rfl⟩) (fa_mono (fa_r hF (Int.le_refl _) f2 (by omega) (st_A_M hF.1.1 f2 (by omega) w2 w3 s2 w1)) (by omega)) (fr_mono f2 (by omega))
  refine bc_br_i (fun c => ?_) (fun c1 => ?_)
  · have q : 0 = wq_ (c_r v) x y w := by
      rcases hf with ⟨hf, -⟩ | ⟨-, hf⟩ | ⟨hf, -⟩ | ⟨hf, -⟩ | ⟨hf, -⟩ | ⟨hf, -⟩ | ⟨hf, -⟩ | ⟨hf, -⟩ | ⟨hf, -⟩ | ⟨hf, -⟩ <;> first | exact hf | omega
    obtain ⟨p0, p1⟩ := wq_0 q
    obtain ⟨a0, b0, -⟩ := pf_0 p0
    refine t_X10_walk hF a0.1 a0.2 b0.1 b0.2 p1 (fun σ2 r' hz F2 f2 => ?_)
    exact h σ2 _ (.inr (.inl ⟨c, r', hz, rfl⟩)) (fa_mono F2 (by omega)) f2
  have q : (k = 2 ∧ 0 = vq_ (c_r v) x y) ∨ (k = 3 ∧ 0 = fq1_ x) ∨ (k = 4 ∧ 0 = eq_ (c_r v) x) ∨ (k = 5 ∧ 0 = lq_ (c_r v) x 0) ∨ (k = 6 ∧ 0 = lq_ (c_r v) x 1) ∨ (k = 7 ∧ 0 = nq1_ x) ∨ (k = 8 ∧ 0 = pq_ (c_r v) x y w) ∨ (k = 9 ∧ 0 = dq_ x) := by
    rcases hf with hf | hf | hf
    · exact absurd hf.1 c0
    · exact absurd hf.1 c1
    · exact hf
  have tail := fun (σ' : bc_M) (u : cs_t) (q : (k = 2 ∧ u = u_r v (rv_ (c_r v) x y)) ∨ (k = 3 ∧ u = u_r v (up_ (c_r v) 2 x)) ∨ (k = 4 ∧ u = u_r v (rn_ (rs_ (c_r v) (co_ (c_r v) x)) x)) ∨ (k = 5 ∧ u = u_r v (rl_ (c_r v) x 1)) ∨ (k = 6 ∧ u = u_r v (rl_ (c_r v) x 0)) ∨ (k = 7 ∧ u = u_r v (re_ (c_r v) x)) ∨ (k = 8 ∧ u = u_r v (rp_ (c_r v) x w)) ∨ (k = 9 ∧ u = u_r v (ps_ (c_r v) x.toNat))) => h σ' u (.inr (.inr q))
  have w3 := hF.1.1.2.1.1
  refine bc_br_i (fun c => ?_) (fun c2 => ?_)
  · obtain ⟨p0, p1, p2⟩ := vq_0 (r := c_r v) (a := x) (u := y) (by omega)
    obtain ⟨w1, w2, w3⟩ := rv_wf hF.1.1.2.2.2 p0 p1 p2
    refine t_X8_promise hF.1.1.1.2.2 hF.1.1.2.2.2 p2 (fun σ2 s2 f2 => ?_)
    exact tail σ2 _ (.inl ⟨c, rfl⟩) (fa_mono (fa_r hF (by omega) f2 (by omega) (st_A_T hF.1.1 f2 (by omega) w2 w3 s2 w1)) (by omega)) (fr_mono f2 (by omega))
  refine bc_br_i (fun c => ?_) (fun c3 => ?_)
  · have p0 : 0 ≤ x ∧ x ≤ 20 := by
      have e0 : 0 = fq1_ x := by omega
      unfold fq1_ at e0; split at e0 <;> omega
    obtain ⟨w1, w2, w3⟩ := f2_wf hF.1.1.2.2.2 p0
    refine t_X8_heatForge hF.1.1.1.2.2 (fun σ2 s2 f2 => ?_)
    exact tail σ2 _ (.inr (.inl ⟨c, rfl⟩)) (fa_mono (fa_r hF (Int.le_refl _) f2 (by omega) (st_A_T hF.1.1 f2 (by omega) w2 w3 s2 w1)) (by omega)) (fr_mono f2 (by omega))
  refine bc_br_i (fun c => ?_) (fun c4 => ?_)
  · obtain ⟨p0, p1⟩ := eq_0 (r := c_r v) (m := x) (by omega)
    refine t_X10_mend hF p0 p1 (fun σ2 F2 f2 => ?_)
    exact tail σ2 _ (.inr (.inr (.inl ⟨c, rfl⟩))) (fa_mono F2 (by omega)) f2
  refine bc_br_i (fun c => ?_) (fun c5 => ?_)
  · have p0 := lq_0 (r := c_r v) (m := x) (b := 0) (by omega)
    obtain ⟨w1, w2, w3⟩ := rl_wf (m := x) (b := 1) hF.1.1.2.1 p0.1 (by omega) (by decide)
    refine t_X2_leave hF.1.1.1.1 hF.1.1.2.1 p0.1 (by omega) (by decide) (fun σ2 s2 f2 => ?_)
    exact tail σ2 _ (.inr (.inr (.inr (.inl ⟨c, rfl⟩)))) (fa_mono (fa_r hF (Int.le_refl _) f2 (by omega) (st_A_M hF.1.1 f2 (by omega) w2 w3 s2 w1)) (by omega)) (fr_mono f2 (by omega))
  refine bc_br_i (fun c => ?_) (fun c6 => ?_)
  · have p0 := lq_0 (r := c_r v) (m := x) (b := 1) (by omega)
    obtain ⟨w1, w2, w3⟩ := rl_wf (m := x) (b := 0) hF.1.1.2.1 p0.1 (by omega) (by decide)
    refine t_X2_leave hF.1.1.1.1 hF.1.1.2.1 p0.1 (by omega) (by decide) (fun σ2 s2 f2 => ?_)
    exact tail σ2 _ (.inr (.inr (.inr (.inr (.inl ⟨c, rfl⟩))))) (fa_mono (fa_r hF (Int.le_refl _) f2 (by omega) (st_A_M hF.1.1 f2 (by omega) w2 w3 s2 w1)) (by omega)) (fr_mono f2 (by omega))
  refine bc_br_i (fun c => ?_) (fun c7 => ?_)
  · have p0 : x = 99 ∨ x = 108 := by
      have e0 : 0 = nq1_ x := by omega
      unfold nq1_ at e0; split at e0 <;> omega
    have e : x % 65536 = x := by omega
    obtain ⟨w1, w2, w3⟩ := re_wf (r := c_r v) p0
    refine t_X3_dedicate hF.1.1.1.2.1 hF.1.1.2.2.1 (by omega) (fun σ2 s2 f2 => ?_)
    rw [e] at s2
    exact tail σ2 _ (.inr (.inr (.inr (.inr (.inr (.inl ⟨c, rfl⟩)))))) (fa_mono (fa_r hF (Int.le_refl _) f2 (by omega) (st_A_N hF.1.1 f2 (by omega) w2 w3 s2 w1)) (by omega)) (fr_mono f2 (by omega))
  refine bc_br_i (fun c => ?_) (fun c8 => ?_)
  · obtain ⟨p0, p1⟩ := pq_0 (r := c_r v) (p := x) (c := y) (w := w) (by omega)
    obtain ⟨w1, w2, w3⟩ := rp_wf (p := x) (w := w) hF.1.1.2.2.1 p0.1 p0.2 p1
    refine t_X3_place hF.1.1.1.2.1 hF.1.1.2.2.1 p0.1 p0.2 p1 (fun σ2 s2 f2 => ?_)
    exact tail σ2 _ (.inr (.inr (.inr (.inr (.inr (.inr (.inl ⟨c, rfl⟩))))))) (fa_mono (fa_r hF (Int.le_refl _) f2 (by omega) (st_A_N hF.1.1 f2 (by omega) w2 w3 s2 w1)) (by omega)) (fr_mono f2 (by omega))
  refine bc_br_i (fun c => ?_) (fun c9 => ?_)
  · have p0 : 1 ≤ x ∧ x ≤ 30 := by
      have e0 : 0 = dq_ x := by omega
      unfold dq_ at e0; split at e0 <;> omega
    have w1 := wf_T_mono (ps_wf hF.1.1.2.2.2 x.toNat).1 (show B + (x.toNat : Int) ≤ B + 30 by omega)
    obtain ⟨w2, w3⟩ := ps_e hF.1.1.2.2.2 x.toNat
    refine t_X8_pass hF.1.1.1.2.2 hF.1.1.2.2.2 (by omega) (by omega) (by omega) (fun σ2 s2 f2 => ?_)
    exact tail σ2 _ (.inr (.inr (.inr (.inr (.inr (.inr (.inr ⟨c, rfl⟩))))))) (fa_r hF (by omega) f2 (by omega) (st_A_T hF.1.1 f2 (by omega) w2 w3 s2 w1)) (fr_mono f2 (by omega))
  · omega
end RUN
end
section
theorem fa_k {P : Nat → Prop} {B : Int} {σ σ' : bc_M} {v : cs_t} {k : Int → Int} {A : gr_t} (h : fa_ B σ v) (hf : fr_ P σ σ') (hp : ∀ k, P k → xs_ k ∨ (198 ≤ k ∧ k ≤ 199)) (hk : ak_ σ' k ∧ kk_ k) (hA : s3_ σ' A ∧ g3_ A) : fa_ B σ' (u_k v k A) := by
  have no : ∀ k, ¬ (xs_ k ∨ (198 ≤ k ∧ k ≤ 199)) → ¬ P k := fun k hk q => hk (hp k q)
  obtain ⟨⟨h1, h2, h3, h4⟩, ⟨h5, h5b⟩, ⟨h6, h6b⟩, h7, ⟨h8, h8b⟩, ⟨h9, h9b⟩, h10, ⟨h11, h11b⟩, ⟨h12, h12b⟩, h13, h13b⟩ := h
  refine ⟨⟨st_A_fr h1 hf (fun k a b => no k (by omega)), st_A_fr h2 hf (fun k a b => no k (by omega)), st_A_fr h3 hf (fun k a b => no k (by omega)), st_H_fr h4 hf (fun k a b => no k (by omega))⟩, ⟨ar_fr h5 hf (no _ (by decide)), h5b⟩, ⟨?_, h6b⟩, tx_fr h7 hf ⟨no _ (by decide), no _ (by decide)⟩, hk, hA, tx_fr h10 hf ⟨no _ (by decide), no _ (by decide)⟩, ⟨?_, h11b⟩, ⟨?_, h12b⟩, ?_, h13b⟩
  · rw [hf.1 157 (no _ (by decide))]; exact h6
  · rw [hf.1 0 (no _ (by decide))]; exact h11
  · rw [hf.1 0 (no _ (by decide))]; exact h12
  · rw [hf.1 0 (no _ (by decide))]; exact h13
/-- the object after n commands without a fault -/
noncomputable def rr_ (z : pz_t) (v : cs_t) : Nat → cs_t → Prop
  | 0, w => w = u_bs v (c_r v)
  | n + 1, w => ∃ q, rr_ z v n q ∧ cf_ (c_r q) (z.2.2.2.1 n) (z.2.2.2.2 n 0) (z.2.2.2.2 n 1) (z.2.2.2.2 n 2) 0 ∧ ck_ q (z.2.2.2.1 n) (z.2.2.2.2 n 0) (z.2.2.2.2 n 1) (z.2.2.2.2 n 2) w
section RUN
variable {g : bc_C} {d : Nat} {σ : bc_M} {B : Int} {v : cs_t} {Rr : Option bc_A → bc_M → Prop} {X : Nat → bc_M → Prop} {z : pz_t}
theorem t_X10_runCommands (hF : fa_ B σ v) (hB : B ≤ 999000) (hS : sz_ σ z)
    (h1 : ∀ (i : Nat) (q : cs_t) (f : Int) (σ' : bc_M), (i : Int) < z.2.2.1 → rr_ z v i q → cf_ (c_r q) (z.2.2.2.1 i) (z.2.2.2.2 i 0) (z.2.2.2.2 i 1) (z.2.2.2.2 i 2) f → f ≠ 0 → fa_ (B + 480) σ' (u_r q (c_bs q)) → fr_ ob_ σ σ' → Rr (some (bc_I i)) σ')
    (h0 : ∀ (q : cs_t) (σ' : bc_M), rr_ z v z.2.2.1.toNat q → fa_ (B + 480) σ' (u_h q (hr_ (c_h q) (c_bs q)) ((c_n q + 1) % 8)) → fr_ ob_ σ σ' → Rr (some (bc_I (-1))) σ') : bc_Sem g (d + 6) mX10_runCommands [bc_R 0] σ Rr X := by
  have hc := hS.1
  refine e_X10_runCommands rfl (fun K hK => ?_)
  have L : ∀ i : Int, ∀ (q : cs_t) (σ' : bc_M), 0 ≤ i → i ≤ z.2.2.1 → rr_ z v i.toNat q → fa_ (B + 30 * i) σ' q → sz_ σ' z → fr_ ob_ σ σ' → K 13 [(0, bc_R 0), (1, bc_I i)] [] σ' 0 := by
    refine up_ind z.2.2.1 (fun i hi q σ' i0 i1 hr F1 S1 f1 => ?_) (fun i hi ih q σ' i0 i1 hr F1 S1 f1 => ?_)
    · have e : i = z.2.2.1 := by omega
      have hc1 := S1.1
      rw [e] at hr F1
      have F1' := fa_mono F1 (show B + 30 * z.2.2.1 ≤ B + 480 by omega)
      refine hK.1 [13] 60 _ _ _ _ _ ?_
      refine bc_ob_i (by omega) ?_
      refine bc_br_i (fun c => by omega) (fun _ => ?_)
      refine t_X1_remember (.inr rfl) F1'.1.2.2.2 F1'.1.2.2.1 (fun σ2 H2 f2 => ?_)
      exact h0 q σ2 hr (fa_h F1' f2 (by omega) H2) (fr_trans f1 (fr_mono f2 (by omega)))
    · have hc1 := S1.1
      have en : ((i.toNat : Nat) : Int) = i := by omega
      have ei : (i + 1).toNat = i.toNat + 1 := by omega
      refine hK.1 [13] 60 _ _ _ _ _ ?_
      refine bc_ob_i (by omega) ?_
      refine bc_br_i (fun _ => ?_) (fun c => by omega)
      refine t_X10_commandFault F1 (by omega) S1 i0 hi (fun σ2 f hf lf F2 f2 => ?_)
      refine bc_ob_i (by constructor <;> omega) ?_
      refine bc_br_i (fun c => ?_) (fun c => ?_)
      · rw [c] at hf
        have S2 := sz_fr S1 f2 (by decide)
        refine t_X10_carryOut F2 (by omega) S2 i0 hi hf (fun σ3 w hw F3 f3 => ?_)
        refine ih w σ3 (by omega) (by omega) ?_ ?_ (sz_fr S2 f3 (by decide)) (fr_trans f1 (fr_trans f2 f3))
        · rw [ei]
          refine ⟨q, hr, ?_, ?_⟩
          · rw [en]; exact hf
          · rw [en]; exact hw
        · rw [show B + 30 * (i + 1) = B + 30 * i + 30 by omega]
          exact F3
      · have F2' := fa_mono F2 (show B + 30 * i ≤ B + 480 by omega)
        refine t_X6_copyFrom (a := 1) (b := 29) (by unfold cp_; decide) F2'.1.2.2.1 (fun σ3 A3 f3 => ?_)
        have q3 := h1 i.toNat q f σ3 (by omega) hr (by rw [en]; exact hf) c (fa_r F2' (Int.le_refl _) f3 (by omega) A3) (fr_trans f1 (fr_trans f2 (fr_mono f3 (by omega))))
        rw [en] at q3
        exact q3
  obtain ⟨⟨k1, k2, k3, k4⟩, -, -, -, -, -, -, ⟨e1, e1b⟩, ⟨e2, e2b⟩, e3, e3b⟩ := id hF
  refine hK.1 [13] 60 _ _ _ _ _ ?_
  refine t_X6_copyFrom (a := 29) (b := 1) (by unfold cp_; decide) k1 (fun σ1 A1 f1 => ?_)
  have z0 : σ1.1 0 = σ.1 0 := f1.1 0 (by omega)
  have F1 : fa_ B σ1 (u_bs v (c_r v)) := fa_c (s := c_sn v) (b := c_r v) (hs := c_hs v) (le := c_le v) (lf := c_lf v) hF f1 (by omega) (st_A_fr k2 f1 (by omega)) A1 ⟨by rw [z0]; exact e1, e1b⟩ ⟨by rw [z0]; exact e2, e2b⟩ ⟨by rw [z0]; exact e3, e3b⟩
  refine L 0 (u_bs v (c_r v)) σ1 (Int.le_refl _) hc.2.1 rfl ?_ (sz_fr hS f1 (by decide)) (fr_mono f1 (by omega))
  rw [show B + 30 * 0 = B by omega]
  exact F1
/-- what the parser makes of the typed text -/
noncomputable abbrev zp_ (v : cs_t) : pz_t := qp_ (c_l v) 16 0 0 (c_k v) (c_A v)
noncomputable abbrev vp_ (v : cs_t) : cs_t := u_l (u_k v (zp_ v).2.2.2.1 (zp_ v).2.2.2.2) []
theorem t_X10_runScript (hF : fa_ B σ v) (hB : B ≤ 999000)
    (h1 : (zp_ v).1 = 0 → ∀ σ', fa_ B σ' (u_le (vp_ v) (zp_ v).2.1) → fr_ ov_ σ σ' → X 1 σ')
    (h2 : (zp_ v).1 = 1 → ∀ (i : Nat) (q : cs_t) (f : Int) (σ' : bc_M), (i : Int) < (zp_ v).2.2.1 → rr_ (zp_ v) (vp_ v) i q → cf_ (c_r q) ((zp_ v).2.2.2.1 i) ((zp_ v).2.2.2.2 i 0) ((zp_ v).2.2.2.2 i 1) ((zp_ v).2.2.2.2 i 2) f → f ≠ 0 → fa_ (B + 480) σ' (u_lf (u_r q (c_bs q)) i) → fr_ ov_ σ σ' → X 2 σ')
    (h0 : (zp_ v).1 = 1 → ∀ (q : cs_t) (σ' : bc_M), rr_ (zp_ v) (vp_ v) (zp_ v).2.2.1.toNat q → fa_ (B + 480) σ' (u_h q (hr_ (c_h q) (c_bs q)) ((c_n q + 1) % 8)) → fr_ ov_ σ σ' → Rr (some (bc_I (zp_ v).2.2.1)) σ') : bc_Sem g (d + 7) mX10_runScript [bc_R 0] σ Rr X := by
  obtain ⟨-, -, -, hT, ⟨hk, kk⟩, ⟨hA, gA⟩, -⟩ := id hF
  refine e_X10_runScript rfl (fun K hK => ?_)
  refine hK.1 [] 60 _ _ _ _ _ ?_
  refine t_X5_parse hT hk kk hA gA (fun σ1 S1 f1 l1 => ?_)
  obtain ⟨sc1, sz1⟩ := id S1
  have F1 : fa_ B σ1 (u_k v (zp_ v).2.2.2.1 (zp_ v).2.2.2.2) := fa_k hF f1 (by omega) sz1.2.1 sz1.2.2
  have p1 : σ1.1 195 ((4 : Nat) : Int) = (zp_ v).2.1 := sc1.2.1
  have p2 : 0 ≤ (zp_ v).2.1 ∧ (zp_ v).2.1 ≤ (c_l v).length := sc1.2.2
  have l1 : 0 ≤ (zp_ v).1 ∧ (zp_ v).1 ≤ 1 := l1
  have p3 := sc1.1.2.1
  refine t_X7_clear (.inl rfl) sc1.1 (fun σ2 t2 f2 => ?_)
  have F2 : fa_ B σ2 (vp_ v) := fa_l F1 f2 (by omega) t2
  have S2 : sz_ σ2 (zp_ v) := sz_fr sz1 f2 (by decide)
  have f12 : fr_ ov_ σ σ2 := fr_trans (fr_mono f1 (by omega)) (fr_mono f2 (by omega))
  have p4 : σ2.1 195 ((4 : Nat) : Int) = (zp_ v).2.1 := by rw [f2.1 195 (by decide)]; exact p1
  refine bc_ob_i (by omega) ?_
  refine bc_br_i (fun c => ?_) (fun c => ?_)
  · obtain ⟨⟨k1, k2, k3, k4⟩, -, -, -, -, -, -, ⟨e1, e1b⟩, ⟨e2, e2b⟩, e3, e3b⟩ := id F2
    have f3 : fr_ (fun k => k = 0) σ2 (bc_wr σ2 0 ((10 : Nat) : Int) (σ2.1 195 ((4 : Nat) : Int))) := fr_wr rfl
    refine h1 c _ (fa_c (s := c_sn (vp_ v)) (b := c_bs (vp_ v)) (hs := c_hs (vp_ v)) (le := (zp_ v).2.1) (lf := c_lf (vp_ v)) F2 f3 (by omega) (st_A_fr k2 f3 (by omega)) (st_A_fr k3 f3 (by omega)) ⟨?_, e1b⟩ ⟨?_, by omega, by omega⟩ ⟨?_, e3b⟩) (fr_trans f12 (fr_mono f3 (by omega)))
    · have : σ2.1 0 9 = c_hs (vp_ v) := e1
      simp [bc_wr]
      exact this
    · have : σ2.1 195 4 = (zp_ v).2.1 := p4
      simp [bc_wr]
      exact this
    · have : σ2.1 0 11 = c_lf (vp_ v) := e3
      simp [bc_wr]
      exact this
  · have c' : ¬ (zp_ v).1 = 0 := c
    have c1 : (zp_ v).1 = 1 := by omega
    refine t_X10_runCommands F2 hB S2 (fun i q f σ3 hi hr hf hne F3 f3 => ?_) (fun q σ3 hr F3 f3 => ?_)
    · have lc := S2.1.2.2
      refine bc_ob_i (by constructor <;> constructor <;> omega) ?_
      refine bc_br_i (fun c => by omega) (fun _ => ?_)
      obtain ⟨⟨k1, k2, k3, k4⟩, -, -, -, -, -, -, ⟨e1, e1b⟩, ⟨e2, e2b⟩, e3, e3b⟩ := id F3
      have f4 : fr_ (fun k => k = 0) σ3 (bc_wr σ3 0 ((11 : Nat) : Int) i) := fr_wr rfl
      refine h2 c1 i q f _ hi hr hf hne (fa_c (s := c_sn q) (b := c_bs q) (hs := c_hs q) (le := c_le q) (lf := i) F3 f4 (by omega) (st_A_fr k2 f4 (by omega)) (st_A_fr k3 f4 (by omega)) ⟨?_, e1b⟩ ⟨?_, e2b⟩ ⟨?_, by omega, by omega⟩) (fr_trans f12 (fr_trans (fr_mono f3 (by omega)) (fr_mono f4 (by omega))))
      · have : σ3.1 0 9 = c_hs q := e1
        simp [bc_wr]
        exact this
      · have : σ3.1 0 10 = c_le q := e2
        simp [bc_wr]
        exact this
      · simp [bc_wr]
    · have S3 := sz_fr S2 f3 (by decide)
      refine bc_ob_i (by decide) ?_
      refine bc_br_i (fun _ => ?_) (fun c => absurd rfl c)
      exact rt_ (h0 c1 q σ3 hr F3 (fr_trans f12 (fr_mono f3 (by omega)))) S3.1.1
end RUN
end
