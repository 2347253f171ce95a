/-! ways as they are told; texts; typing -/
theorem fa_l {P : Nat → Prop} {B : Int} {σ σ' : bc_M} {v : cs_t} {l : List Int} (h : fa_ B σ v) (hf : fr_ P σ σ') (hp : ∀ k, P k → xs_ k ∨ (196 ≤ k ∧ k ≤ 197)) (hr : tx_ σ' 196 l) : fa_ B σ' (u_l v l) := by
  have no : ∀ k, ¬ (xs_ k ∨ (196 ≤ k ∧ k ≤ 197)) → ¬ P k := fun k hk q => hk (hp k q)
  obtain ⟨⟨h1, h2, h3, h4⟩, ⟨h5, h5b⟩, ⟨h6, h6b⟩, h7, ⟨h8, h8b⟩, ⟨h9, h9b⟩, h10, ⟨h11, h11b⟩, ⟨h12, h12b⟩, h13, h13b⟩ := h
  refine ⟨⟨st_A_fr h1 hf (fun k a b => no k (by omega)), st_A_fr h2 hf (fun k a b => no k (by omega)), st_A_fr h3 hf (fun k a b => no k (by omega)), st_H_fr h4 hf (fun k a b => no k (by omega))⟩, ⟨ar_fr h5 hf (no _ (by decide)), h5b⟩, ⟨?_, h6b⟩, hr, ⟨ak_fr h8 hf (no _ (by decide)), h8b⟩, ⟨s3_fr h9 hf (no _ (by decide)), h9b⟩, tx_fr h10 hf ⟨no _ (by decide), no _ (by decide)⟩, ⟨?_, h11b⟩, ⟨?_, h12b⟩, ?_, h13b⟩
  · rw [hf.1 157 (no _ (by decide))]; exact h6
  · rw [hf.1 0 (no _ (by decide))]; exact h11
  · rw [hf.1 0 (no _ (by decide))]; exact h12
  · rw [hf.1 0 (no _ (by decide))]; exact h13
def om_ (r : rw_t) (m : Int) : List Int :=
  if r (21 + 6 * m) = 0 then tn_ (ta_ (tn_ (ta_ (tn_ (ta_ (tn_ (ta_ (tn_ (ta_ (tn_ [] m) 58) (r (16 + 6 * m))) 45) (r (17 + 6 * m))) 115) (r (18 + 6 * m))) 99) (r (19 + 6 * m))) 119) (r (20 + 6 * m))
  else ta_ (tn_ (ta_ (tn_ (ta_ (tn_ (ta_ (tn_ (ta_ (tn_ (ta_ (tn_ [] m) 58) (r (16 + 6 * m))) 45) (r (17 + 6 * m))) 115) (r (18 + 6 * m))) 99) (r (19 + 6 * m))) 119) (r (20 + 6 * m))) 120
def ow_ (J : Int → Int) : Nat → List Int
  | 0 => []
  | n + 1 => tn_ (if 0 < n then ta_ (ow_ J n) 62 else ow_ J n) (J n)
abbrev ot_ (k : Nat) : Prop := k = 216 ∨ k = 217
section FAC
variable {g : bc_C} {d : Nat} {σ : bc_M} {B : Int} {v : cs_t} {Rr : Option bc_A → bc_M → Prop} {X : Nat → bc_M → Prop}
theorem yv_le {a b : Int} (h : pf_ a b = 0) : yv_ v a b = u_J v (fz_ (sa_ (c_r v)) a b (c_J v)).1 (fz_ (sa_ (c_r v)) a b (c_J v)).2 := by
  unfold yv_
  rw [if_neg (by omega)]
theorem t_X10_wayLength {a b : Int} (hF : fa_ B σ v) (ha : bc_in a) (hb : bc_in b) (h1 : ∀ e : Nat, yq_ (c_r v) a b = e + 1 → ∀ σ', fa_ B σ' (yv_ v a b) → fr_ ob_ σ σ' → X e σ') (h0 : yq_ (c_r v) a b = 0 → ∀ σ', fa_ B σ' (yv_ v a b) → fr_ ob_ σ σ' → Rr (some (bc_I (c_len (yv_ v a b)))) σ') : bc_Sem g (d + 5) mX10_wayLength [bc_R 0, bc_I a, bc_I b] σ Rr X := by
  refine e_X10_wayLength rfl (fun K hK => ?_)
  refine hK.1 [] 60 _ _ _ _ _ ?_
  refine t_X10_wayFault hF ha hb (fun σ1 F1 f1 => ?_)
  have hl := yq_le (c_r v) a b
  refine t_X10_refuse hl.1 hl.2 (fun e0 => ?_) (fun e he => h1 e he σ1 F1 f1)
  exact rt_ (h0 e0 σ1 F1 f1) F1.2.2.1.1
theorem t_X10_wayJoint {a b i : Int} (hF : fa_ B σ v) (ha : bc_in a) (hb : bc_in b) (hi : bc_in i) (h1 : ∀ e : Nat, yq_ (c_r v) a b = e + 1 → ∀ σ', fa_ B σ' (yv_ v a b) → fr_ ob_ σ σ' → X e σ') (h2 : yq_ (c_r v) a b = 0 → (i < 0 ∨ c_len (yv_ v a b) < i) → ∀ σ', fa_ B σ' (yv_ v a b) → fr_ ob_ σ σ' → X 3 σ') (h0 : yq_ (c_r v) a b = 0 → 0 ≤ i → i ≤ c_len (yv_ v a b) → ∀ σ', fa_ B σ' (yv_ v a b) → fr_ ob_ σ σ' → Rr (some (bc_I (c_J (yv_ v a b) i))) σ') : bc_Sem g (d + 5) mX10_wayJoint [bc_R 0, bc_I a, bc_I b, bc_I i] σ Rr X := by
  obtain ⟨i0, i1⟩ := hi
  refine e_X10_wayJoint rfl (fun K hK => ?_)
  refine hK.1 [] 60 _ _ _ _ _ ?_
  refine t_X10_wayFault hF ha hb (fun σ1 F1 f1 => ?_)
  have hl := yq_le (c_r v) a b
  have e5 := F1.2.2.1.1
  have l5 := F1.2.2.1.2
  refine t_X10_refuse hl.1 hl.2 (fun e0 => ?_) (fun e he => h1 e he σ1 F1 f1)
  have bad : (i < 0 ∨ c_len (yv_ v a b) < i) → ∀ e : Nat, (4 : Int) = e + 1 → X e σ1 := fun q e he => by
    have ee : e = 3 := by omega
    subst ee
    exact h2 e0 q σ1 F1 f1
  refine bc_ob_i (by omega) ?_
  refine bc_br_i (fun c => ?_) (fun c => ?_)
  · refine t_X10_refuse (f := 4) (by decide) (by decide) (fun e => by omega) (bad (.inl c))
  · refine bc_ob_i (by omega) ?_
    refine bc_br_i (fun c2 => ?_) (fun c2 => ?_)
    · refine t_X10_refuse (f := 4) (by decide) (by decide) (fun e => by omega) (bad (.inr (by omega)))
    · refine t_X10_refuse (f := 0) (by decide) (by decide) (fun _ => ?_) (fun e he => by omega)
      refine bc_ob_i (by omega) ?_
      exact rt_ (h0 e0 (by omega) (by omega) σ1 F1 f1) (F1.2.1.1 i (by omega) (by omega))
theorem t_X10_renderWay {a b : Int} (hF : fa_ B σ v) (ha : bc_in a) (hb : bc_in b) (h1 : ∀ e : Nat, yq_ (c_r v) a b = e + 1 → ∀ σ', fa_ B σ' (yv_ v a b) → fr_ ob_ σ σ' → X e σ') (h0 : yq_ (c_r v) a b = 0 → ∀ σ', fa_ B σ' (u_o (yv_ v a b) (ow_ (c_J (yv_ v a b)) ((c_len (yv_ v a b)).toNat + 1))) → fr_ ob_ σ σ' → Rr (some (bc_I ((ow_ (c_J (yv_ v a b)) ((c_len (yv_ v a b)).toNat + 1)).length))) σ') : bc_Sem g (d + 5) mX10_renderWay [bc_R 0, bc_I a, bc_I b] σ Rr X := by
  refine e_X10_renderWay rfl (fun K hK => ?_)
  refine hK.1 [18] 60 _ _ _ _ _ ?_
  refine t_X10_wayFault hF ha hb (fun σ1 F1 f1 => ?_)
  have hl := yq_le (c_r v) a b
  generalize hV : yv_ v a b = V at *
  have e5 := F1.2.2.1.1
  have l5 := F1.2.2.1.2
  refine t_X10_refuse hl.1 hl.2 (fun e0 => ?_) (fun e he => h1 e he σ1 F1 f1)
  have L : ∀ i : Int, ∀ σ', 0 ≤ i → i ≤ c_len V + 1 → tx_ σ' 216 (ow_ (c_J V) i.toNat) → fr_ ot_ σ1 σ' → K 18 [(0, bc_R 0), (1, bc_I a), (2, bc_I b), (3, bc_I i)] [] σ' 1 := by
    refine up_ind (c_len V + 1) (fun i hi σ' i0 i1 t1 f2 => ?_) (fun i hi ih σ' i0 i1 t1 f2 => ?_)
    · have F2 := fa_o F1 f2 (by omega) t1
      have z5 : σ'.1 157 ((5 : Nat) : Int) = c_len V := F2.2.2.1.1
      have ei : i.toNat = (c_len V).toNat + 1 := by omega
      rw [ei] at F2 t1
      refine hK.1 [18] 60 _ _ _ _ _ ?_
      refine bc_ob_i (by omega) ?_
      refine bc_br_i (fun c => ?_) (fun c => by omega)
      exact rt_ (h0 e0 σ' F2 (fr_trans f1 (fr_mono f2 (by omega)))) t1.1
    · have F2 := fa_o F1 f2 (by omega) t1
      have z5 : σ'.1 157 ((5 : Nat) : Int) = c_len V := F2.2.2.1.1
      have hJ : ∀ σ'', fr_ ot_ σ' σ'' → σ''.1 170 i = c_J V i := fun σ'' f => (by rw [f.1 170 (by decide)]; exact F2.2.1.1 i (by omega) (by omega))
      have lJ := F1.2.1.2 i (by omega) (by omega)
      have eo : ow_ (c_J V) (i + 1).toNat = tn_ (if 0 < i then ta_ (ow_ (c_J V) i.toNat) 62 else ow_ (c_J V) i.toNat) (c_J V i) := by
        have e1 : (i + 1).toNat = i.toNat + 1 := by omega
        have e2 : ((i.toNat : Nat) : Int) = i := by omega
        rw [e1]
        unfold ow_
        rw [e2]
        by_cases c : 0 < i
        · rw [if_pos c, if_pos (show 0 < i.toNat by omega)]
          cases hn : i.toNat with
          | zero => omega
          | succ n => rfl
        · rw [if_neg c, if_neg (show ¬ 0 < i.toNat by omega)]
          cases hn : i.toNat with
          | zero => rfl
          | succ n => omega
      refine hK.1 [18] 60 _ _ _ _ _ ?_
      refine bc_ob_i (by omega) ?_
      refine bc_br_i (fun c => by omega) (fun _ => ?_)
      refine bc_ob_i (by omega) ?_
      refine bc_br_i (fun _ => ?_) (fun c => by omega)
      refine bc_ob_i (by omega) ?_
      refine bc_br_i (fun c => ?_) (fun c => ?_)
      · rw [if_pos c] at eo
        refine t_X7_append (.inr rfl) t1 (by decide) (fun σ2 t2 f3 => ?_)
        have g3 : fr_ ot_ σ' σ2 := fr_mono f3 (by omega)
        have hj := hJ σ2 g3
        refine bc_ob_i (by omega) ?_
        refine t_X7_appendNumber (.inr rfl) t2 (by omega) (fun σ3 t3 f4 => ?_)
        refine ih σ3 (by omega) (by omega) ?_ (fr_trans f2 (fr_trans g3 (fr_mono f4 (by omega))))
        rw [eo, ← hj]
        exact t3
      · rw [if_neg c] at eo
        have hj := hJ σ' (fr_refl _)
        refine bc_ob_i (by omega) ?_
        refine t_X7_appendNumber (.inr rfl) t1 (by omega) (fun σ3 t3 f4 => ?_)
        refine ih σ3 (by omega) (by omega) ?_ (fr_trans f2 (fr_mono f4 (by omega)))
        rw [eo, ← hj]
        exact t3
  refine t_X7_clear (.inr rfl) F1.2.2.2.2.2.2.1 (fun σ2 t2 f2 => ?_)
  exact L 0 σ2 (by omega) (by omega) t2 (fr_mono f2 (by omega))
theorem t_X10_outputAt {i : Int} (hF : fa_ B σ v) (hi : bc_in i) (h1 : ¬ (0 ≤ i ∧ i < (c_o v).length) → X 0 σ) (h0 : 0 ≤ i → i < (c_o v).length → Rr (some (bc_I (tg_ (c_o v) i))) σ) : bc_Sem g (d + 3) mX10_outputAt [bc_R 0, bc_I i] σ Rr X := by
  have t := hF.2.2.2.2.2.2.1
  have hg := tg_le t.2.2.2 i
  refine e_X10_outputAt rfl (fun K hK => ?_)
  refine hK.1 [] 60 _ _ _ _ _ ?_
  refine t_X7_has (.inr rfl) t hi ?_
  by_cases c : 0 ≤ i ∧ i < (c_o v).length
  · rw [if_pos c]
    refine bc_ob_i (by decide) ?_
    refine bc_br_i (fun c => absurd c (by decide)) (fun _ => ?_)
    refine t_X10_refuse (f := 0) (by decide) (by decide) (fun _ => ?_) (fun e he => by omega)
    refine t_X7_at (.inr rfl) t hi ?_
    refine bc_ob_i hg ?_
    exact h0 c.1 c.2
  · rw [if_neg c]
    refine bc_ob_i (by decide) ?_
    refine bc_br_i (fun _ => ?_) (fun c => absurd rfl c)
    refine t_X10_refuse (f := 1) (by decide) (by decide) (fun e => by omega) (fun e he => ?_)
    have ee : e = 0 := by omega
    subst ee
    exact h1 c
theorem t_X10_type {c : Int} (hF : fa_ B σ v) (hc : 0 ≤ c ∧ c ≤ 65535) (h1 : (c < 32 ∨ 126 < c) → X 1 σ) (h2 : 32 ≤ c → c ≤ 126 → 60 ≤ (c_l v).length → X 2 σ) (h0 : 32 ≤ c → c ≤ 126 → (c_l v).length < 60 → ∀ σ', fa_ B σ' (u_l v ((c_l v) ++ [c])) → fr_ ov_ σ σ' → Rr (some (bc_I ((c_l v).length + 1))) σ') : bc_Sem g (d + 2) mX10_type [bc_R 0, bc_I c] σ Rr X := by
  have t := hF.2.2.2.1
  have tl := t.1
  have tm := t.2.1
  refine e_X10_type rfl (fun K hK => ?_)
  have bad : (c < 32 ∨ 126 < c) → ∀ e : Nat, (2 : Int) = e + 1 → X e σ := fun q e he => by
    have ee : e = 1 := by omega
    subst ee
    exact h1 q
  refine hK.1 [] 60 _ _ _ _ _ ?_
  refine bc_ob_i (by omega) ?_
  refine bc_br_i (fun c1 => ?_) (fun c1 => ?_)
  · exact t_X10_refuse (f := 2) (by decide) (by decide) (fun e => by omega) (bad (.inl c1))
  · refine bc_ob_i (by omega) ?_
    refine bc_br_i (fun c2 => ?_) (fun c2 => ?_)
    · exact t_X10_refuse (f := 2) (by decide) (by decide) (fun e => by omega) (bad (.inr c2))
    · refine t_X10_refuse (f := 0) (by decide) (by decide) (fun _ => ?_) (fun e he => by omega)
      refine bc_ob_i (by omega) ?_
      refine bc_br_i (fun c3 => ?_) (fun c3 => ?_)
      · refine t_X10_refuse (f := 0) (by decide) (by decide) (fun _ => ?_) (fun e he => by omega)
        have ea : ta_ (c_l v) c = c_l v ++ [c] := if_pos (by omega)
        refine t_X7_append (.inl rfl) t hc (fun σ2 t2 f2 => ?_)
        rw [ea] at t2
        refine rt_ (h0 (by omega) (by omega) (by omega) σ2 (fa_l hF f2 (by omega) t2) (fr_mono f2 (by omega))) ?_
        have := t2.1
        rw [List.length_append] at this
        simpa using this
      · refine t_X10_refuse (f := 3) (by decide) (by decide) (fun e => by omega) (fun e he => ?_)
        have ee : e = 2 := by omega
        subst ee
        exact h2 (by omega) (by omega) (by omega)
theorem t_X10_errorPosition (hF : fa_ B σ v) (h1 : c_le v = -1 → X 3 σ) (h0 : c_le v ≠ -1 → Rr (some (bc_I (c_le v))) σ) : bc_Sem g (d + 2) mX10_errorPosition [bc_R 0] σ Rr X := by
  have e1 := hF.2.2.2.2.2.2.2.2.1
  refine e_X10_errorPosition rfl (fun K hK => ?_)
  refine hK.1 [] 60 _ _ _ _ _ ?_
  refine bc_ob_i (by omega) ?_
  refine bc_br_i (fun c => ?_) (fun c => ?_)
  · refine t_X10_refuse (f := 4) (by decide) (by decide) (fun e => by omega) (fun e he => ?_)
    have ee : e = 3 := by omega
    subst ee
    exact h1 (by omega)
  · refine t_X10_refuse (f := 0) (by decide) (by decide) (fun _ => ?_) (fun e he => by omega)
    exact rt_ (h0 (by omega)) e1.1
theorem t_X10_failedCommand (hF : fa_ B σ v) (h1 : c_lf v = -1 → X 3 σ) (h0 : c_lf v ≠ -1 → Rr (some (bc_I (c_lf v))) σ) : bc_Sem g (d + 2) mX10_failedCommand [bc_R 0] σ Rr X := by
  have e1 := hF.2.2.2.2.2.2.2.2.2
  refine e_X10_failedCommand rfl (fun K hK => ?_)
  refine hK.1 [] 60 _ _ _ _ _ ?_
  refine bc_ob_i (by omega) ?_
  refine bc_br_i (fun c => ?_) (fun c => ?_)
  · refine t_X10_refuse (f := 4) (by decide) (by decide) (fun e => by omega) (fun e he => ?_)
    have ee : e = 3 := by omega
    subst ee
    exact h1 (by omega)
  · refine t_X10_refuse (f := 0) (by decide) (by decide) (fun _ => ?_) (fun e he => by omega)
    exact rt_ (h0 (by omega)) e1.1
end FAC
