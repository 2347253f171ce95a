/-! the calls that change the state; their refusals -/
/-- the object remembers its state -/
abbrev rm_ (v : cs_t) : cs_t := u_h v (hr_ (c_h v) (c_r v)) ((c_n v + 1) % 8)
section FAC
variable {g : bc_C} {d : Nat} {σ : bc_M} {B : Int} {v : cs_t} {Rr : Option bc_A → bc_M → Prop} {X : Nat → bc_M → Prop}
theorem t_rem (hF : fa_ B σ v) (h : ∀ σ' : bc_M, fa_ B σ' (rm_ v) → fr_ ob_ σ σ' → Rr none σ') : bc_Sem g (d + 3) mX1_remember [bc_R 43, bc_R 1] σ Rr X := by
  refine t_X1_remember (.inl rfl) hF.1.2.2.2 hF.1.1 (fun σ' h1 f1 => ?_)
  exact h σ' (fa_h hF f1 (by omega) h1) (fr_mono f1 (by omega))
theorem t_X10_addMember {a b s : Int} (hF : fa_ B σ v) (ha : bc_in a) (hb : bc_in b) (hs : bc_in s) (h1 : ∀ e : Nat, mq_ (c_r v) a b s (e + 1) → X e σ) (h0 : mq_ (c_r v) a b s 0 → ∀ σ', fa_ B σ' (u_r (rm_ v) (ra_ (c_r v) a b s)) → fr_ ob_ σ σ' → Rr (some (bc_I ((c_r v) 3))) σ') : bc_Sem g (d + 5) mX10_addMember [bc_R 0, bc_I a, bc_I b, bc_I s] σ Rr X := by
  refine e_X10_addMember rfl (fun K hK => ?_)
  refine hK.1 [] 60 _ _ _ _ _ ?_
  refine t_X10_memberFault hF ha hb hs (fun f hf => ?_)
  have hl := mq_le hf
  refine t_X10_refuse hl.1 hl.2 (fun e0 => ?_) (fun e he => h1 e (by rw [← he]; exact hf))
  rw [e0] at hf
  refine t_rem hF (fun σ1 F1 f1 => ?_)
  have hp : pf_ a b = 0 ∧ (1 ≤ s ∧ s ≤ 99) ∧ (c_r v) 3 < 16 := by
    have := pf_le a b
    rcases hf with ⟨q, e⟩ | ⟨q, -, e⟩ | ⟨q, -, -, e⟩ | ⟨q, q1, q2, -, -⟩
    · omega
    · omega
    · omega
    · exact ⟨q, q1, q2⟩
  obtain ⟨a0, b0, -⟩ := pf_0 hp.1
  obtain ⟨w1, w2, w3⟩ := ra_wf F1.1.1.2.1 hp.2.2 a0 b0 hp.2.1
  refine t_X2_append F1.1.1.1.1 F1.1.1.2.1 hp.2.2 ha hb (fun σ2 s2 f2 => ?_)
  exact h0 hf σ2 (fa_r F1 (Int.le_refl _) f2 (by omega) (st_A_M F1.1.1 f2 (by omega) w2 w3 s2 w1)) (fr_trans f1 (fr_mono f2 (by omega)))
theorem t_X10_makeVow {a u : Int} (hF : fa_ B σ v) (hB : B ≤ 999999) (ha : bc_in a) (hu : bc_in u) (h1 : ∀ e : Nat, vq_ (c_r v) a u = e + 1 → X e σ) (h0 : vq_ (c_r v) a u = 0 → ∀ σ', fa_ (B + 1) σ' (u_r (rm_ v) (rv_ (c_r v) a u)) → fr_ ob_ σ σ' → Rr (some (bc_I ((c_r v) 5))) σ') : bc_Sem g (d + 5) mX10_makeVow [bc_R 0, bc_I a, bc_I u] σ Rr X := by
  refine e_X10_makeVow rfl (fun K hK => ?_)
  refine hK.1 [] 60 _ _ _ _ _ ?_
  refine t_X10_vowFault hF (by omega) ha hu ?_
  have hl : 0 ≤ vq_ (c_r v) a u ∧ vq_ (c_r v) a u ≤ 6 := by unfold vq_; repeat' split
                                                            all_goals omega
  refine t_X10_refuse hl.1 hl.2 (fun e0 => ?_) h1
  refine t_rem hF (fun σ1 F1 f1 => ?_)
  have hp : ((c_r v) 0 < a ∧ a ≤ (c_r v) 0 + 50) ∧ (1 ≤ u ∧ u ≤ 99) ∧ (c_r v) 4 < 8 := by
    unfold vq_ at e0
    split at e0
    · omega
    · split at e0 <;> omega
  obtain ⟨w1, w2, w3⟩ := rv_wf F1.1.1.2.2.2 hp.1 hp.2.1 hp.2.2
  refine t_X8_promise F1.1.1.1.2.2 F1.1.1.2.2.2 hp.2.2 (fun σ2 s2 f2 => ?_)
  exact h0 e0 σ2 (fa_r F1 (by omega) f2 (by omega) (st_A_T F1.1.1 f2 (by omega) w2 w3 s2 w1)) (fr_trans f1 (fr_mono f2 (by omega)))
theorem t_X10_setForge {n : Int} (hF : fa_ B σ v) (hn : bc_in n) (h1 : ∀ e : Nat, fq1_ n = e + 1 → X e σ) (h0 : fq1_ n = 0 → ∀ σ', fa_ B σ' (u_r (rm_ v) (up_ (c_r v) 2 n)) → fr_ ob_ σ σ' → Rr (some (bc_I ((c_r v) 2))) σ') : bc_Sem g (d + 5) mX10_setForge [bc_R 0, bc_I n] σ Rr X := by
  refine e_X10_setForge rfl (fun K hK => ?_)
  refine hK.1 [] 60 _ _ _ _ _ ?_
  refine t_X10_forgeFault hn ?_
  have hl : 0 ≤ fq1_ n ∧ fq1_ n ≤ 6 := by unfold fq1_; split <;> omega
  refine t_X10_refuse hl.1 hl.2 (fun e0 => ?_) h1
  refine t_rem hF (fun σ1 F1 f1 => ?_)
  have hp : 0 ≤ n ∧ n ≤ 20 := by unfold fq1_ at e0; split at e0 <;> omega
  obtain ⟨w1, w2, w3⟩ := f2_wf F1.1.1.2.2.2 hp
  refine t_X8_heatForge F1.1.1.1.2.2 (fun σ2 s2 f2 => ?_)
  exact h0 e0 σ2 (fa_r F1 (by omega) f2 (by omega) (st_A_T F1.1.1 f2 (by omega) w2 w3 s2 w1)) (fr_trans f1 (fr_mono f2 (by omega)))
theorem t_X10_mend {m : Int} (hF : fa_ B σ v) (m0 : 0 ≤ m ∧ m < (c_r v) 3) (hc : co_ (c_r v) m ≤ (c_r v) 1) (h : ∀ σ', fa_ B σ' (u_r v (rn_ (rs_ (c_r v) (co_ (c_r v) m)) m)) → fr_ ob_ σ σ' → Rr (some (bc_I (co_ (c_r v) m))) σ') : bc_Sem g (d + 2) mX10_mend [bc_R 0, bc_I m] σ Rr X := by
  have w0 := hF.1.1.2.1.1
  refine e_X10_mend rfl (fun K hK => ?_)
  refine hK.1 [] 60 _ _ _ _ _ ?_
  refine t_X2_costOf hF.1.1.1.1 hF.1.1.2.1 m0.1 (by omega) ?_
  have hco := co_le hF.1.1.2.1 (k := m) m0.1 (by omega)
  obtain ⟨w1, w2, w3⟩ := rs_wf (c := co_ (c_r v) m) hF.1.1.2.2.2 ⟨hco.1, hc⟩
  refine t_X8_payRepair hF.1.1.1.2.2 (fun σ1 s1 f1 => ?_)
  have A1 := st_A_T hF.1.1 f1 (by omega) w2 w3 s1 w1
  obtain ⟨x1, x2, x3⟩ := rn_wf (m := m) A1.2.1 m0.1 (by omega)
  refine t_X2_renew A1.1.1 A1.2.1 m0.1 (by omega) (fun σ2 s2 f2 => ?_)
  have f12 : fr_ (fun k => 2 ≤ k ∧ k ≤ 14) σ σ2 := fr_trans (fr_mono f1 (by omega)) (fr_mono f2 (by omega))
  exact h σ2 (fa_r hF (by omega) f12 (by omega) (st_A_M A1 f2 (by omega) x2 x3 s2 x1)) (fr_mono f12 (by omega))
theorem t_X10_repair {m : Int} (hF : fa_ B σ v) (hB : B ≤ 1000000) (hm : bc_in m) (h1 : ∀ e : Nat, eq_ (c_r v) m = e + 1 → X e σ) (h0 : eq_ (c_r v) m = 0 → ∀ σ', fa_ B σ' (u_r (rm_ v) (rn_ (rs_ (c_r v) (co_ (c_r v) m)) m)) → fr_ ob_ σ σ' → Rr (some (bc_I (co_ (c_r v) m))) σ') : bc_Sem g (d + 5) mX10_repair [bc_R 0, bc_I m] σ Rr X := by
  refine e_X10_repair rfl (fun K hK => ?_)
  refine hK.1 [] 60 _ _ _ _ _ ?_
  refine t_X10_mendFault hF hB hm ?_
  have hl : 0 ≤ eq_ (c_r v) m ∧ eq_ (c_r v) m ≤ 6 := by unfold eq_; repeat' split
                                                        all_goals omega
  refine t_X10_refuse hl.1 hl.2 (fun e0 => ?_) h1
  refine t_rem hF (fun σ1 F1 f1 => ?_)
  have hp : (0 ≤ m ∧ m < (c_r v) 3) ∧ co_ (c_r v) m ≤ (c_r v) 1 := by
    unfold eq_ at e0
    split at e0
    · omega
    · split at e0
      · omega
      · split at e0 <;> omega
  refine t_X10_mend F1 hp.1 hp.2 (fun σ2 F2 f2 => ?_)
  exact h0 e0 σ2 F2 (fr_trans f1 f2)
/-- how many are abandoned -/
def ab_ (r : rw_t) : Int := sm_ (fun k => r (21 + 6 * k)) (r 3).toNat
theorem rl_3 {r : rw_t} {m b : Int} (m0 : 0 ≤ m) : rl_ r m b 3 = r 3 := by unfold rl_; rw [if_neg (by omega)]
theorem t_X10_abandon {m : Int} (hF : fa_ B σ v) (hm : bc_in m) (h1 : ∀ e : Nat, lq_ (c_r v) m 0 = e + 1 → X e σ) (h0 : lq_ (c_r v) m 0 = 0 → ∀ σ', fa_ B σ' (u_r (rm_ v) (rl_ (c_r v) m 1)) → fr_ ob_ σ σ' → Rr (some (bc_I (ab_ (rl_ (c_r v) m 1)))) σ') : bc_Sem g (d + 5) mX10_abandon [bc_R 0, bc_I m] σ Rr X := by
  refine e_X10_abandon rfl (fun K hK => ?_)
  refine hK.1 [] 60 _ _ _ _ _ ?_
  refine t_X10_leaveFault hF hm (by decide) ?_
  have hl : 0 ≤ lq_ (c_r v) m 0 ∧ lq_ (c_r v) m 0 ≤ 6 := by unfold lq_; repeat' split
                                                            all_goals omega
  refine t_X10_refuse hl.1 hl.2 (fun e0 => ?_) h1
  refine t_rem hF (fun σ1 F1 f1 => ?_)
  have w0 := hF.1.1.2.1.1
  have hp : 0 ≤ m ∧ m < (c_r v) 3 := by unfold lq_ at e0; split at e0 <;> omega
  obtain ⟨w1, w2, w3⟩ := rl_wf (m := m) (b := 1) F1.1.1.2.1 hp.1 (by omega) (by decide)
  have h0' := h0 e0
  unfold ab_ at h0'
  rw [rl_3 hp.1] at h0'
  refine t_X2_leave F1.1.1.1.1 F1.1.1.2.1 hp.1 (by omega) (by decide) (fun σ2 s2 f2 => ?_)
  exact h0' σ2 (fa_r F1 (by omega) f2 (by omega) (st_A_M F1.1.1 f2 (by omega) w2 w3 s2 w1)) (fr_trans f1 (fr_mono f2 (by omega)))
theorem t_X10_resume {m : Int} (hF : fa_ B σ v) (hm : bc_in m) (h1 : ∀ e : Nat, lq_ (c_r v) m 1 = e + 1 → X e σ) (h0 : lq_ (c_r v) m 1 = 0 → ∀ σ', fa_ B σ' (u_r (rm_ v) (rl_ (c_r v) m 0)) → fr_ ob_ σ σ' → Rr (some (bc_I (ab_ (rl_ (c_r v) m 0)))) σ') : bc_Sem g (d + 5) mX10_resume [bc_R 0, bc_I m] σ Rr X := by
  refine e_X10_resume rfl (fun K hK => ?_)
  refine hK.1 [] 60 _ _ _ _ _ ?_
  refine t_X10_leaveFault hF hm (by decide) ?_
  have hl : 0 ≤ lq_ (c_r v) m 1 ∧ lq_ (c_r v) m 1 ≤ 6 := by unfold lq_; repeat' split
                                                            all_goals omega
  refine t_X10_refuse hl.1 hl.2 (fun e0 => ?_) h1
  refine t_rem hF (fun σ1 F1 f1 => ?_)
  have w0 := hF.1.1.2.1.1
  have hp : 0 ≤ m ∧ m < (c_r v) 3 := by unfold lq_ at e0; split at e0 <;> omega
  obtain ⟨w1, w2, w3⟩ := rl_wf (m := m) (b := 0) F1.1.1.2.1 hp.1 (by omega) (by decide)
  have h0' := h0 e0
  unfold ab_ at h0'
  rw [rl_3 hp.1] at h0'
  refine t_X2_leave F1.1.1.1.1 F1.1.1.2.1 hp.1 (by omega) (by decide) (fun σ2 s2 f2 => ?_)
  exact h0' σ2 (fa_r F1 (by omega) f2 (by omega) (st_A_M F1.1.1 f2 (by omega) w2 w3 s2 w1)) (fr_trans f1 (fr_mono f2 (by omega)))
theorem t_X10_setNiche {c : Int} (hF : fa_ B σ v) (hc : 0 ≤ c ∧ c ≤ 65535) (h1 : ∀ e : Nat, nq1_ c = e + 1 → X e σ) (h0 : nq1_ c = 0 → ∀ σ', fa_ B σ' (u_r (rm_ v) (re_ (c_r v) c)) → fr_ ob_ σ σ' → Rr (some (bc_I (tw_ (c_r v)))) σ') : bc_Sem g (d + 5) mX10_setNiche [bc_R 0, bc_I c] σ Rr X := by
  refine e_X10_setNiche rfl (fun K hK => ?_)
  refine hK.1 [] 60 _ _ _ _ _ ?_
  refine t_X10_nicheFault (by constructor <;> omega) ?_
  have hl : 0 ≤ nq1_ c ∧ nq1_ c ≤ 6 := by unfold nq1_; split <;> omega
  refine t_X10_refuse hl.1 hl.2 (fun e0 => ?_) h1
  refine t_rem hF (fun σ1 F1 f1 => ?_)
  have hp : c = 99 ∨ c = 108 := by unfold nq1_ at e0; split at e0 <;> omega
  obtain ⟨w1, w2, w3⟩ := re_wf (r := c_r v) hp
  refine t_X3_dedicate F1.1.1.1.2.1 F1.1.1.2.2.1 hc (fun σ2 s2 f2 => ?_)
  exact h0 e0 σ2 (fa_r F1 (by omega) f2 (by omega) (st_A_N F1.1.1 f2 (by omega) w2 w3 s2 w1)) (fr_trans f1 (fr_mono f2 (by omega)))
theorem t_X10_put {p c w : Int} (hF : fa_ B σ v) (hp : bc_in p) (hc : 0 ≤ c ∧ c ≤ 65535) (hw : bc_in w) (h1 : ∀ e : Nat, pq_ (c_r v) p c w = e + 1 → X e σ) (h0 : pq_ (c_r v) p c w = 0 → ∀ σ', fa_ B σ' (u_r (rm_ v) (rp_ (c_r v) p w)) → fr_ ob_ σ σ' → Rr (some (bc_I (tw_ (rp_ (c_r v) p w)))) σ') : bc_Sem g (d + 5) mX10_put [bc_R 0, bc_I p, bc_I c, bc_I w] σ Rr X := by
  refine e_X10_put rfl (fun K hK => ?_)
  refine hK.1 [] 60 _ _ _ _ _ ?_
  refine t_X10_placeFault hF hp (by constructor <;> omega) hw ?_
  have hl : 0 ≤ pq_ (c_r v) p c w ∧ pq_ (c_r v) p c w ≤ 6 := by unfold pq_; repeat' split
                                                                all_goals omega
  refine t_X10_refuse hl.1 hl.2 (fun e0 => ?_) h1
  refine t_rem hF (fun σ1 F1 f1 => ?_)
  have hq : (0 ≤ p ∧ p < 4) ∧ 0 ≤ w ∧ w ≤ 20 := by
    unfold pq_ at e0
    split at e0
    · omega
    · split at e0 <;> omega
  obtain ⟨w1, w2, w3⟩ := rp_wf (p := p) (w := w) F1.1.1.2.2.1 hq.1.1 hq.1.2 hq.2
  refine t_X3_place F1.1.1.1.2.1 F1.1.1.2.2.1 hq.1.1 hq.1.2 hq.2 (fun σ2 s2 f2 => ?_)
  exact h0 e0 σ2 (fa_r F1 (by omega) f2 (by omega) (st_A_N F1.1.1 f2 (by omega) w2 w3 s2 w1)) (fr_trans f1 (fr_mono f2 (by omega)))
theorem t_X10_passDays {n : Int} (hF : fa_ B σ v) (hB : B ≤ 999900) (hn : bc_in n) (h1 : ∀ e : Nat, dq_ n = e + 1 → X e σ) (h0 : dq_ n = 0 → ∀ σ', fa_ (B + 30) σ' (u_r (rm_ v) (ps_ (c_r v) n.toNat)) → fr_ ob_ σ σ' → Rr (some (bc_I (ps_ (c_r v) n.toNat 6 - (c_r v) 6))) σ') : bc_Sem g (d + 5) mX10_passDays [bc_R 0, bc_I n] σ Rr X := by
  refine e_X10_passDays rfl (fun K hK => ?_)
  refine hK.1 [] 60 _ _ _ _ _ ?_
  refine t_X10_daysFault hn ?_
  have hl : 0 ≤ dq_ n ∧ dq_ n ≤ 6 := by unfold dq_; split <;> omega
  refine t_X10_refuse hl.1 hl.2 (fun e0 => ?_) h1
  refine t_rem hF (fun σ1 F1 f1 => ?_)
  have hp : 1 ≤ n ∧ n ≤ 30 := by unfold dq_ at e0; split at e0 <;> omega
  have w1 := wf_T_mono (ps_wf F1.1.1.2.2.2 n.toNat).1 (show B + (n.toNat : Int) ≤ B + 30 by omega)
  obtain ⟨w2, w3⟩ := ps_e F1.1.1.2.2.2 n.toNat
  refine t_X8_pass F1.1.1.1.2.2 F1.1.1.2.2.2 (by omega) (by omega) (by omega) (fun σ2 s2 f2 => ?_)
  exact h0 e0 σ2 (fa_r F1 (by omega) f2 (by omega) (st_A_T F1.1.1 f2 (by omega) w2 w3 s2 w1)) (fr_trans f1 (fr_mono f2 (by omega)))
end FAC
