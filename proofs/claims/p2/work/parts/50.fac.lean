/-! the object as a whole: state, snapshot, the state before a script, history, the way, the script, the output, the marks -/
abbrev cs_t := rw_t × rw_t × rw_t × (List rw_t × Int) × ((Int → Int) × Int) × (List Int) × ((Int → Int) × gr_t) × (List Int) × Int × Int × Int
abbrev c_r (v : cs_t) : rw_t := v.1
abbrev c_sn (v : cs_t) : rw_t := v.2.1
abbrev c_bs (v : cs_t) : rw_t := v.2.2.1
abbrev c_h (v : cs_t) : List rw_t := v.2.2.2.1.1
abbrev c_n (v : cs_t) : Int := v.2.2.2.1.2
abbrev c_J (v : cs_t) : Int → Int := v.2.2.2.2.1.1
abbrev c_len (v : cs_t) : Int := v.2.2.2.2.1.2
abbrev c_l (v : cs_t) : List Int := v.2.2.2.2.2.1
abbrev c_k (v : cs_t) : Int → Int := v.2.2.2.2.2.2.1.1
abbrev c_A (v : cs_t) : gr_t := v.2.2.2.2.2.2.1.2
abbrev c_o (v : cs_t) : List Int := v.2.2.2.2.2.2.2.1
abbrev c_hs (v : cs_t) : Int := v.2.2.2.2.2.2.2.2.1
abbrev c_le (v : cs_t) : Int := v.2.2.2.2.2.2.2.2.2.1
abbrev c_lf (v : cs_t) : Int := v.2.2.2.2.2.2.2.2.2.2
abbrev u_r (v : cs_t) (x : rw_t) : cs_t := (x, v.2)
abbrev u_sn (v : cs_t) (x : rw_t) : cs_t := (v.1, x, v.2.2)
abbrev u_bs (v : cs_t) (x : rw_t) : cs_t := (v.1, v.2.1, x, v.2.2.2)
abbrev u_h (v : cs_t) (x : List rw_t) (n : Int) : cs_t := (v.1, v.2.1, v.2.2.1, (x, n), v.2.2.2.2)
abbrev u_J (v : cs_t) (x : Int → Int) (m : Int) : cs_t := (v.1, v.2.1, v.2.2.1, v.2.2.2.1, (x, m), v.2.2.2.2.2)
abbrev u_l (v : cs_t) (x : List Int) : cs_t := (v.1, v.2.1, v.2.2.1, v.2.2.2.1, v.2.2.2.2.1, x, v.2.2.2.2.2.2)
abbrev u_k (v : cs_t) (x : Int → Int) (a : gr_t) : cs_t := (v.1, v.2.1, v.2.2.1, v.2.2.2.1, v.2.2.2.2.1, v.2.2.2.2.2.1, (x, a), v.2.2.2.2.2.2.2)
abbrev u_o (v : cs_t) (x : List Int) : cs_t := (v.1, v.2.1, v.2.2.1, v.2.2.2.1, v.2.2.2.2.1, v.2.2.2.2.2.1, v.2.2.2.2.2.2.1, x, v.2.2.2.2.2.2.2.2)
abbrev u_hs (v : cs_t) (x : Int) : cs_t := (v.1, v.2.1, v.2.2.1, v.2.2.2.1, v.2.2.2.2.1, v.2.2.2.2.2.1, v.2.2.2.2.2.2.1, v.2.2.2.2.2.2.2.1, x, v.2.2.2.2.2.2.2.2.2)
abbrev u_le (v : cs_t) (x : Int) : cs_t := (v.1, v.2.1, v.2.2.1, v.2.2.2.1, v.2.2.2.2.1, v.2.2.2.2.2.1, v.2.2.2.2.2.2.1, v.2.2.2.2.2.2.2.1, v.2.2.2.2.2.2.2.2.1, x, v.2.2.2.2.2.2.2.2.2.2)
abbrev u_lf (v : cs_t) (x : Int) : cs_t := (v.1, v.2.1, v.2.2.1, v.2.2.2.1, v.2.2.2.2.1, v.2.2.2.2.2.1, v.2.2.2.2.2.2.1, v.2.2.2.2.2.2.2.1, v.2.2.2.2.2.2.2.2.1, v.2.2.2.2.2.2.2.2.2.1, x)
def fa_ (B : Int) (σ : bc_M) (v : cs_t) : Prop :=
  (st_A B σ 1 (c_r v) ∧ st_A B σ 15 (c_sn v) ∧ st_A B σ 29 (c_bs v) ∧ st_H B σ (c_n v) (c_h v)) ∧
  (ar_ σ 170 (c_J v) ∧ lm_ (c_J v) 7) ∧ (σ.1 157 ((5 : Nat) : Int) = (c_len v) ∧ 0 ≤ (c_len v) ∧ (c_len v) ≤ 7) ∧
  tx_ σ 196 (c_l v) ∧ (ak_ σ (c_k v) ∧ kk_ (c_k v)) ∧ (s3_ σ (c_A v) ∧ g3_ (c_A v)) ∧ tx_ σ 216 (c_o v) ∧
  (σ.1 0 ((9 : Nat) : Int) = (c_hs v) ∧ 0 ≤ (c_hs v) ∧ (c_hs v) ≤ 1) ∧ (σ.1 0 ((10 : Nat) : Int) = (c_le v) ∧ -1 ≤ (c_le v) ∧ (c_le v) ≤ 60) ∧ σ.1 0 ((11 : Nat) : Int) = (c_lf v) ∧ -1 ≤ (c_lf v) ∧ (c_lf v) ≤ 15
/-- the cells whose numbers no call reads before it writes them -/
abbrev xs_ (k : Nat) : Prop := (158 ≤ k ∧ k ≤ 169) ∨ (171 ≤ k ∧ k ≤ 195) ∨ 218 ≤ k
theorem fa_x {P : Nat → Prop} {B : Int} {σ σ' : bc_M} {v : cs_t} (h : fa_ B σ v) (hf : fr_ P σ σ') (hp : ∀ k, P k → xs_ k) : fa_ B σ' v := by
  have no : ∀ k, ¬ xs_ k → ¬ P k := fun k hk q => hk (hp k q)
  obtain ⟨⟨h1, h2, h3, h4⟩, ⟨h5, h5b⟩, ⟨h6, h6b⟩, h7, ⟨h8, h8b⟩, ⟨h9, h9b⟩, h10, ⟨h11, h11b⟩, ⟨h12, h12b⟩, h13, h13b⟩ := h
  refine ⟨⟨st_A_fr h1 hf (fun k a b => no k (by omega)), st_A_fr h2 hf (fun k a b => no k (by omega)), st_A_fr h3 hf (fun k a b => no k (by omega)), st_H_fr h4 hf (fun k a b => no k (by omega))⟩, ⟨ar_fr h5 hf (no _ (by decide)), h5b⟩, ⟨?_, h6b⟩, tx_fr h7 hf ⟨no _ (by decide), no _ (by decide)⟩, ⟨ak_fr h8 hf (no _ (by decide)), h8b⟩, ⟨s3_fr h9 hf (no _ (by decide)), h9b⟩, tx_fr h10 hf ⟨no _ (by decide), no _ (by decide)⟩, ⟨?_, h11b⟩, ⟨?_, h12b⟩, ?_, h13b⟩
  · rw [hf.1 157 (no _ (by decide))]; exact h6
  · rw [hf.1 0 (no _ (by decide))]; exact h11
  · rw [hf.1 0 (no _ (by decide))]; exact h12
  · rw [hf.1 0 (no _ (by decide))]; exact h13
theorem fa_w {P : Nat → Prop} {B : Int} {σ σ' : bc_M} {v : cs_t} {J : Int → Int} {m : Int} (h : fa_ B σ v) (hf : fr_ P σ σ') (hp : ∀ k, P k → xs_ k ∨ k = 157 ∨ k = 170) (hJ : ar_ σ' 170 J) (lJ : lm_ J 7) (hm : σ'.1 157 ((5 : Nat) : Int) = m) (m0 : 0 ≤ m ∧ m ≤ 7) : fa_ B σ' (u_J v J m) := by
  have no : ∀ k, ¬ (xs_ k ∨ k = 157 ∨ k = 170) → ¬ P k := fun k hk q => hk (hp k q)
  obtain ⟨⟨h1, h2, h3, h4⟩, ⟨h5, h5b⟩, ⟨h6, h6b⟩, h7, ⟨h8, h8b⟩, ⟨h9, h9b⟩, h10, ⟨h11, h11b⟩, ⟨h12, h12b⟩, h13, h13b⟩ := h
  refine ⟨⟨st_A_fr h1 hf (fun k a b => no k (by omega)), st_A_fr h2 hf (fun k a b => no k (by omega)), st_A_fr h3 hf (fun k a b => no k (by omega)), st_H_fr h4 hf (fun k a b => no k (by omega))⟩, ⟨hJ, lJ⟩, ⟨hm, m0⟩, tx_fr h7 hf ⟨no _ (by decide), no _ (by decide)⟩, ⟨ak_fr h8 hf (no _ (by decide)), h8b⟩, ⟨s3_fr h9 hf (no _ (by decide)), h9b⟩, tx_fr h10 hf ⟨no _ (by decide), no _ (by decide)⟩, ⟨?_, h11b⟩, ⟨?_, h12b⟩, ?_, h13b⟩
  · rw [hf.1 0 (no _ (by decide))]; exact h11
  · rw [hf.1 0 (no _ (by decide))]; exact h12
  · rw [hf.1 0 (no _ (by decide))]; exact h13
theorem wf_T_mono {B B' : Int} {r : rw_t} (h : wf_T B r) (hb : B ≤ B') : wf_T B' r := by
  obtain ⟨a0, a1, a2, a3, a4, a5, a6, a7, a8, a9, a10, a11, a12, a13⟩ := h
  refine ⟨by omega, a1, a2, a3, by omega, a5, a6, a7, by omega, a9, a10, a11, fun k k0 k1 => ?_, a13⟩
  have := a12 k k0 k1
  omega
theorem st_A_mono {B B' : Int} {σ : bc_M} {b : Nat} {r : rw_t} (h : st_A B σ b r) (hb : B ≤ B') : st_A B' σ b r := ⟨h.1, h.2.1, h.2.2.1, wf_T_mono h.2.2.2 hb⟩
theorem st_H_mono {B B' : Int} {σ : bc_M} {n : Int} {h : List rw_t} (H : st_H B σ n h) (hb : B ≤ B') : st_H B' σ n h := ⟨H.1, H.2.1, H.2.2.1, H.2.2.2.1, fun t ht => st_A_mono (H.2.2.2.2 t ht) hb⟩
theorem fa_mono {B B' : Int} {σ : bc_M} {v : cs_t} (h : fa_ B σ v) (hb : B ≤ B') : fa_ B' σ v := ⟨⟨st_A_mono h.1.1 hb, st_A_mono h.1.2.1 hb, st_A_mono h.1.2.2.1 hb, st_H_mono h.1.2.2.2 hb⟩, h.2⟩
theorem fa_r {P : Nat → Prop} {B B' : Int} {σ σ' : bc_M} {v : cs_t} {r : rw_t} (h : fa_ B σ v) (hb : B ≤ B') (hf : fr_ P σ σ') (hp : ∀ k, P k → xs_ k ∨ (2 ≤ k ∧ k ≤ 14)) (hr : st_A B' σ' 1 r) : fa_ B' σ' (u_r v r) := by
  have no : ∀ k, ¬ (xs_ k ∨ (2 ≤ k ∧ k ≤ 14)) → ¬ P k := fun k hk q => hk (hp k q)
  obtain ⟨⟨h1, h2, h3, h4⟩, ⟨h5, h5b⟩, ⟨h6, h6b⟩, h7, ⟨h8, h8b⟩, ⟨h9, h9b⟩, h10, ⟨h11, h11b⟩, ⟨h12, h12b⟩, h13, h13b⟩ := fa_mono h hb
  refine ⟨⟨hr, st_A_fr h2 hf (fun k a b => no k (by omega)), st_A_fr h3 hf (fun k a b => no k (by omega)), st_H_fr h4 hf (fun k a b => no k (by omega))⟩, ⟨ar_fr h5 hf (no _ (by decide)), h5b⟩, ⟨?_, h6b⟩, tx_fr h7 hf ⟨no _ (by decide), no _ (by decide)⟩, ⟨ak_fr h8 hf (no _ (by decide)), h8b⟩, ⟨s3_fr h9 hf (no _ (by decide)), h9b⟩, tx_fr h10 hf ⟨no _ (by decide), no _ (by decide)⟩, ⟨?_, h11b⟩, ⟨?_, h12b⟩, ?_, h13b⟩
  · rw [hf.1 157 (no _ (by decide))]; exact h6
  · rw [hf.1 0 (no _ (by decide))]; exact h11
  · rw [hf.1 0 (no _ (by decide))]; exact h12
  · rw [hf.1 0 (no _ (by decide))]; exact h13
theorem fa_h {P : Nat → Prop} {B : Int} {σ σ' : bc_M} {v : cs_t} {n : Int} {h' : List rw_t} (h : fa_ B σ v) (hf : fr_ P σ σ') (hp : ∀ k, P k → xs_ k ∨ (43 ≤ k ∧ k ≤ 156)) (hr : st_H B σ' n h') : fa_ B σ' (u_h v h' n) := by
  have no : ∀ k, ¬ (xs_ k ∨ (43 ≤ k ∧ k ≤ 156)) → ¬ P k := fun k hk q => hk (hp k q)
  obtain ⟨⟨h1, h2, h3, h4⟩, ⟨h5, h5b⟩, ⟨h6, h6b⟩, h7, ⟨h8, h8b⟩, ⟨h9, h9b⟩, h10, ⟨h11, h11b⟩, ⟨h12, h12b⟩, h13, h13b⟩ := h
  refine ⟨⟨st_A_fr h1 hf (fun k a b => no k (by omega)), st_A_fr h2 hf (fun k a b => no k (by omega)), st_A_fr h3 hf (fun k a b => no k (by omega)), hr⟩, ⟨ar_fr h5 hf (no _ (by decide)), h5b⟩, ⟨?_, h6b⟩, tx_fr h7 hf ⟨no _ (by decide), no _ (by decide)⟩, ⟨ak_fr h8 hf (no _ (by decide)), h8b⟩, ⟨s3_fr h9 hf (no _ (by decide)), h9b⟩, tx_fr h10 hf ⟨no _ (by decide), no _ (by decide)⟩, ⟨?_, h11b⟩, ⟨?_, h12b⟩, ?_, h13b⟩
  · rw [hf.1 157 (no _ (by decide))]; exact h6
  · rw [hf.1 0 (no _ (by decide))]; exact h11
  · rw [hf.1 0 (no _ (by decide))]; exact h12
  · rw [hf.1 0 (no _ (by decide))]; exact h13
theorem fa_o {P : Nat → Prop} {B : Int} {σ σ' : bc_M} {v : cs_t} {o : List Int} (h : fa_ B σ v) (hf : fr_ P σ σ') (hp : ∀ k, P k → xs_ k ∨ (216 ≤ k ∧ k ≤ 217)) (hr : tx_ σ' 216 o) : fa_ B σ' (u_o v o) := by
  have no : ∀ k, ¬ (xs_ k ∨ (216 ≤ k ∧ k ≤ 217)) → ¬ P k := fun k hk q => hk (hp k q)
  obtain ⟨⟨h1, h2, h3, h4⟩, ⟨h5, h5b⟩, ⟨h6, h6b⟩, h7, ⟨h8, h8b⟩, ⟨h9, h9b⟩, h10, ⟨h11, h11b⟩, ⟨h12, h12b⟩, h13, h13b⟩ := h
  refine ⟨⟨st_A_fr h1 hf (fun k a b => no k (by omega)), st_A_fr h2 hf (fun k a b => no k (by omega)), st_A_fr h3 hf (fun k a b => no k (by omega)), st_H_fr h4 hf (fun k a b => no k (by omega))⟩, ⟨ar_fr h5 hf (no _ (by decide)), h5b⟩, ⟨?_, h6b⟩, tx_fr h7 hf ⟨no _ (by decide), no _ (by decide)⟩, ⟨ak_fr h8 hf (no _ (by decide)), h8b⟩, ⟨s3_fr h9 hf (no _ (by decide)), h9b⟩, hr, ⟨?_, h11b⟩, ⟨?_, h12b⟩, ?_, h13b⟩
  · rw [hf.1 157 (no _ (by decide))]; exact h6
  · rw [hf.1 0 (no _ (by decide))]; exact h11
  · rw [hf.1 0 (no _ (by decide))]; exact h12
  · rw [hf.1 0 (no _ (by decide))]; exact h13
/-- only the object's own cells, the script's apart -/
abbrev ob_ (k : Nat) : Prop := k ≤ 217 ∧ (k < 195 ∨ 199 < k)
abbrev ov_ (k : Nat) : Prop := k ≤ 217
section FAC
variable {g : bc_C} {d : Nat} {σ : bc_M} {B : Int} {v : cs_t} {Rr : Option bc_A → bc_M → Prop} {X : Nat → bc_M → Prop}
theorem t_X10_refuse {f : Int} (f0 : 0 ≤ f) (f1 : f ≤ 6) (h0 : f = 0 → Rr none σ) (h1 : ∀ e : Nat, f = e + 1 → X e σ) : bc_Sem g (d + 1) mX10_refuse [bc_I f] σ Rr X := by
  refine e_X10_refuse rfl (fun K hK => ?_)
  refine hK.1 [] 60 _ _ _ _ _ ?_
  refine bc_ob_i (by omega) ?_
  repeat' refine bc_br_i (fun c => ?_) (fun c => ?_)
  · exact h1 0 (by omega)
  · exact h1 1 (by omega)
  · exact h1 2 (by omega)
  · exact h1 3 (by omega)
  · exact h1 4 (by omega)
  · exact h1 5 (by omega)
  · exact h0 (by omega)
theorem t_X10_isJoint {a : Int} (ha : bc_in a) (h : Rr (some (bc_I (if 0 ≤ a ∧ a < 8 then 1 else 0))) σ) : bc_Sem g (d + 1) mX10_isJoint [bc_I a] σ Rr X := by
  obtain ⟨a0, a1⟩ := ha
  refine e_X10_isJoint rfl (fun K hK => ?_)
  refine hK.1 [] 60 _ _ _ _ _ ?_
  repeat' first | refine bc_br_i (fun _ => ?_) (fun _ => ?_) | refine bc_ob_i (by omega) ?_
  all_goals first | (exfalso; omega) | exact rt_ h (by split <;> omega)
theorem t_X10_isKind {a : Int} (ha : bc_in a) (h : Rr (some (bc_I (if a = 99 ∨ a = 108 then 1 else 0))) σ) : bc_Sem g (d + 1) mX10_isKind [bc_I a] σ Rr X := by
  obtain ⟨a0, a1⟩ := ha
  refine e_X10_isKind rfl (fun K hK => ?_)
  refine hK.1 [] 60 _ _ _ _ _ ?_
  repeat' first | refine bc_br_i (fun _ => ?_) (fun _ => ?_) | refine bc_ob_i (by omega) ?_
  all_goals first | (exfalso; omega) | exact rt_ h (by split <;> omega)
def pf_ (a b : Int) : Int := if ¬ ((0 ≤ a ∧ a < 8) ∧ 0 ≤ b ∧ b < 8) then 1 else if a = b then 2 else 0
theorem pf_le (a b : Int) : 0 ≤ pf_ a b ∧ pf_ a b ≤ 2 := by unfold pf_; split <;> first | omega | (split <;> omega)
theorem pf_0 {a b : Int} (h : pf_ a b = 0) : (0 ≤ a ∧ a < 8) ∧ (0 ≤ b ∧ b < 8) ∧ a ≠ b := by
  unfold pf_ at h
  split at h
  · omega
  · split at h <;> omega
theorem t_X10_pairFault {a b : Int} (ha : bc_in a) (hb : bc_in b) (h : Rr (some (bc_I (pf_ a b))) σ) : bc_Sem g (d + 2) mX10_pairFault [bc_I a, bc_I b] σ Rr X := by
  obtain ⟨a0, a1⟩ := id ha
  obtain ⟨b0, b1⟩ := id hb
  refine e_X10_pairFault rfl (fun K hK => ?_)
  unfold pf_ at h
  refine hK.1 [] 60 _ _ _ _ _ ?_
  refine t_X10_isJoint ha ?_
  refine bc_ob_i (by split <;> omega) ?_
  refine bc_br_i (fun c => ?_) (fun c => ?_)
  · exact rt_ h (if_pos (by split at c <;> omega)).symm
  · have ca : 0 ≤ a ∧ a < 8 := by split at c <;> omega
    refine t_X10_isJoint hb ?_
    refine bc_ob_i (by split <;> omega) ?_
    refine bc_br_i (fun c => ?_) (fun c => ?_)
    · exact rt_ h (if_pos (by split at c <;> omega)).symm
    · have cb : 0 ≤ b ∧ b < 8 := by split at c <;> omega
      refine bc_ob_i (by omega) ?_
      refine bc_br_i (fun c => ?_) (fun c => ?_)
      · exact rt_ h (by rw [if_neg (by omega), if_pos c])
      · exact rt_ h (by rw [if_neg (by omega), if_neg c])
def ix_ (r : rw_t) (m : Int) : Int := if 0 ≤ m ∧ m < r 3 then 0 else 1
theorem ix_le (r : rw_t) (m : Int) : 0 ≤ ix_ r m ∧ ix_ r m ≤ 6 := by unfold ix_; split <;> omega
theorem t_X10_indexFault {m : Int} (hF : fa_ B σ v) (hm : bc_in m) (h : Rr (some (bc_I (ix_ (c_r v) m))) σ) : bc_Sem g (d + 2) mX10_indexFault [bc_R 0, bc_I m] σ Rr X := by
  obtain ⟨⟨h1, -⟩, w1, -⟩ := hF.1.1
  refine e_X10_indexFault rfl (fun K hK => ?_)
  unfold ix_ at h
  refine hK.1 [] 60 _ _ _ _ _ ?_
  refine t_X2_has h1 w1 hm ?_
  refine bc_ob_i (by split <;> omega) ?_
  refine bc_br_i (fun c => ?_) (fun c => ?_)
  · exact rt_ h (if_neg (by split at c <;> omega)).symm
  · exact rt_ h (if_pos (by split at c <;> omega)).symm
end FAC
