/-! p60's law: what it does with the class alone -/
theorem bc_nb_i {x y : Nat} {p q : Bool} {A : Prop} (h : x ≤ y) (hp : p = true) (hq : q = true) (hA : A) : bif Nat.ble x y && p && q then A else False := by
  rw [Nat.ble_eq_true_of_le h, hp, hq]
  exact hA
theorem ra_1 {r : rw_t} {a b s : Int} (h : 0 ≤ r 3) : ra_ r a b s 1 = r 1 := by
  simp only [ra_]
  (repeat' split) <;> omega
theorem rv_1 {r : rw_t} {a u : Int} (h : 0 ≤ r 4) : rv_ r a u 1 = r 1 := by
  simp only [rv_, up_]
  (repeat' split) <;> omega
theorem rn_1 {r : rw_t} {c m : Int} (h : 0 ≤ m) : rn_ (rs_ r c) m 1 = r 1 - c := by
  have e : rn_ (rs_ r c) m 1 = rs_ r c 1 := by
    show (if (1 : Int) = 19 + 6 * m then 0 else if (1 : Int) = 20 + 6 * m then 0 else rs_ r c 1) = _
    rw [if_neg (by omega), if_neg (by omega)]
  rw [e]
  simp [rs_, up_]
theorem rl_1 {r : rw_t} {m b : Int} (h : 0 ≤ m) : rl_ r m b 1 = r 1 := by
  simp only [rl_]
  (repeat' split) <;> omega
theorem rp_1 {r : rw_t} {p w : Int} (h : 0 ≤ p) : rp_ r p w 1 = r 1 := by
  simp only [rp_, up_]
  (repeat' split) <;> omega
/-- a day gives 20 units of steel at most -/
theorem pd_1 {B : Int} {r : rw_t} (h : wf_T B r) : pd_ r 1 ≤ r 1 + 20 := by
  have hd := pi_wd h
  have w2 : r 2 ≤ 20 := h.2.2.1.2
  have w4 : 0 ≤ pi_ r 4 ∧ pi_ r 4 ≤ 8 := hd.2.2.2.1
  have hv := wv_n hd (pi_ r 4).toNat (by omega)
  have h1 : (vf_ (pi_ r) (pi_ r 4).toNat).1 1 ≤ pi_ r 1 := hv.2.2.1.2
  have e1 : pi_ r 1 = r 1 + r 2 := by simp [pi_, up_]
  have e2 : pd_ r 1 = (vf_ (pi_ r) (pi_ r 4).toNat).1 1 := by simp [pd_, vd_, up_]
  omega
theorem ps_1 {B : Int} {r : rw_t} (h : wf_T B r) : ∀ n : Nat, ps_ r n 1 ≤ r 1 + 20 * (n : Int)
  | 0 => by
    show r 1 ≤ _
    omega
  | n + 1 => by
    have h1 := pd_1 (ps_wf h n).1
    have h2 := ps_1 h n
    show pd_ (ps_ r n) 1 ≤ _
    omega
/-- a number that is returned, as an int -/
theorem bc_Sem_wr {g : bc_C} {d : Nat} {Y : bc_Y} {as : List bc_A} {σ : bc_M} {Rr : Option bc_A → bc_M → Prop} {X : Nat → bc_M → Prop} (h : bc_Sem g d Y as σ (fun r σ' => ∃ x : Int, r = some (bc_I x) ∧ Rr (some (bc_I ((Int32.ofInt x).toInt))) σ') X) : bc_Sem g d Y as σ Rr X := by
  obtain ⟨-, h⟩ := h
  refine ⟨trivial, fun p e ha hf hc s m args below hs hS hP hK => ?_⟩
  obtain ⟨n, o, h1, h2, h3, h4⟩ := h p e ha hf hc s m args below hs hS hP hK
  refine ⟨n, o, h1, h2, h3, ?_⟩
  rcases h4 with ⟨⟨⟨r, σ', ho, ⟨x, hr, hR⟩, hH⟩, hF⟩, hL⟩ | hx
  · refine .inl ⟨⟨⟨some (bc_I ((Int32.ofInt x).toInt)), σ', ?_, hR, hH⟩, hF⟩, hL⟩
    rw [ho, hr]
    show Outcome.returned (some (.int (Int32.ofInt x))) = .returned (some (.int (Int32.ofInt (Int32.ofInt x).toInt)))
    rw [Int32.ofInt_toInt]
  · exact .inr hx
section P60
variable {g : bc_C} {d : Nat} {σ : bc_M} {B : Int} {v : cs_t} {Rr : Option bc_A → bc_M → Prop} {X : Nat → bc_M → Prop}
theorem t_L_told {b : Int} (hb : b = 0 ∨ b = 1) (h : Rr (some (bc_I b)) σ) : bc_Sem g (d + 1) mL_told [bc_I b] σ Rr X := by
  refine e_L_told rfl (fun K hK => ?_)
  refine hK.1 [] 20 _ _ _ _ _ ?_
  refine bc_ob_i (by constructor <;> omega) ?_
  refine bc_br_i (fun c => ?_) (fun c => ?_)
  · exact rt_ h (by omega)
  · exact rt_ h (by omega)
/-- a change, or nothing -/
theorem t_L_plain {w a b c : Int} (hF : fa_ B σ v) (hB : B ≤ 999000) (hU : uj_ (c_r v)) (hw : 0 ≤ w ∧ w ≤ 9) (ha : bc_in a) (hb : bc_in b) (hc : bc_in c) (hX : ∀ (e : Nat) (σ' : bc_M), e < 5 → fa_ B σ' v → X e σ') (h0 : ∀ (x : Int) (σ' : bc_M) (v' : cs_t), fa_ (B + 30) σ' v' → uj_ (c_r v') → (c_r v') 1 ≤ (c_r v) 1 + (if w = 9 then 600 else 0) → Rr (some (bc_I x)) σ') : bc_Sem g (d + 20) mL_plain [bc_R 0, bc_I w, bc_I a, bc_I b, bc_I c] σ Rr X := by
  have hM := hF.1.1.2.1
  have hT := hF.1.1.2.2.2
  have w3 := hM.1
  have w4 : 0 ≤ (c_r v) 4 := hT.2.2.2.1.1
  have up : ∀ {r : rw_t}, eJ_ (c_r v) r → uj_ r := fun e => uj_eJ w3.2 e hU
  have p := pf_le a b
  refine e_L_plain rfl (fun K hK => ?_)
  refine hK.1 [] 60 _ _ _ _ _ ?_
  refine bc_ob_i (by constructor <;> omega) ?_
  refine bc_br_i (fun e0 => ?_) (fun e0 => ?_)
  · refine t_X10_addMember hF ha hb hc (fun e he => hX e σ ?_ hF) (fun he σ2 F2 f2 => ?_)
    · rcases he with ⟨_, h⟩ | ⟨_, _, h⟩ | ⟨_, _, _, h⟩ | ⟨_, _, _, _, h⟩ <;> omega
    · refine h0 _ σ2 _ (fa_mono F2 (by omega)) (uj_ra hM hU (mq_adr hU he)) ?_
      show ra_ (c_r v) a b c 1 ≤ _
      rw [ra_1 w3.1, if_neg (by omega)]
      omega
  refine bc_br_i (fun e1 => ?_) (fun e1 => ?_)
  · refine t_X10_procession hF ha hb hc (fun e he σ2 F2 f2 => hX e σ2 ?_ F2) (fun he σ2 r1 hz F2 f2 => ?_)
    · unfold wq_ at he
      (repeat' split at he) <;> omega
    · have twl : 0 ≤ tw_ (c_r v) := by
        have := hF.1.1.2.2.1
        unfold wf_N at this
        unfold tw_
        omega
      obtain ⟨p0, p1, p2⟩ := wq_0 he.symm
      have q := wl_wf hM (by omega) _ _ hz
      have q2 := (wl_eq w3.2 hU _ _ _ (fun _ _ => rfl) hz hz).2
      refine h0 _ σ2 _ (fa_mono F2 (by omega)) (up q2) ?_
      show r1 1 ≤ _
      rw [q.2.2 1 (.inl (by decide)), if_neg (by omega)]
      omega
  refine bc_br_i (fun e2 => ?_) (fun e2 => ?_)
  · refine t_X10_makeVow hF (by omega) ha hb (fun e he => hX e σ ?_ hF) (fun he σ2 F2 f2 => ?_)
    · unfold vq_ at he
      (repeat' split at he) <;> omega
    · refine h0 _ σ2 _ (fa_mono F2 (by omega)) (up (eJ_rv (eJ_refl _) w4)) ?_
      show rv_ (c_r v) a b 1 ≤ _
      rw [rv_1 w4, if_neg (by omega)]
      omega
  refine bc_br_i (fun e3 => ?_) (fun e3 => ?_)
  · refine t_X10_setForge hF ha (fun e he => hX e σ ?_ hF) (fun he σ2 F2 f2 => ?_)
    · unfold fq1_ at he
      (repeat' split at he) <;> omega
    · refine h0 _ σ2 _ (fa_mono F2 (by omega)) (up (eJ_up (eJ_refl _) (by decide))) ?_
      have e : up_ (c_r v) 2 a 1 = (c_r v) 1 := by simp [up_]
      show up_ (c_r v) 2 a 1 ≤ _
      rw [e, if_neg (by omega)]
      omega
  refine bc_br_i (fun e4 => ?_) (fun e4 => ?_)
  · refine t_X10_repair hF (by omega) ha (fun e he => hX e σ ?_ hF) (fun he σ2 F2 f2 => ?_)
    · unfold eq_ at he
      (repeat' split at he) <;> omega
    · obtain ⟨⟨m0, m1⟩, -⟩ := eq_0 he.symm
      have lc := co_le hM m0 (by omega : a < 16)
      refine h0 _ σ2 _ (fa_mono F2 (by omega)) (up (eJ_rn (eJ_rs (eJ_refl _)))) ?_
      show rn_ (rs_ (c_r v) (co_ (c_r v) a)) a 1 ≤ _
      rw [rn_1 m0, if_neg (by omega)]
      omega
  refine bc_br_i (fun e5 => ?_) (fun e5 => ?_)
  · refine t_X10_abandon hF ha (fun e he => hX e σ ?_ hF) (fun he σ2 F2 f2 => ?_)
    · unfold lq_ at he
      (repeat' split at he) <;> omega
    · have m0 : 0 ≤ a := by
        unfold lq_ at he
        (repeat' split at he) <;> omega
      refine h0 _ σ2 _ (fa_mono F2 (by omega)) (up (eJ_rl m0 (eJ_refl _))) ?_
      show rl_ (c_r v) a 1 1 ≤ _
      rw [rl_1 m0, if_neg (by omega)]
      omega
  refine bc_br_i (fun e6 => ?_) (fun e6 => ?_)
  · refine t_X10_resume hF ha (fun e he => hX e σ ?_ hF) (fun he σ2 F2 f2 => ?_)
    · unfold lq_ at he
      (repeat' split at he) <;> omega
    · have m0 : 0 ≤ a := by
        unfold lq_ at he
        (repeat' split at he) <;> omega
      refine h0 _ σ2 _ (fa_mono F2 (by omega)) (up (eJ_rl m0 (eJ_refl _))) ?_
      show rl_ (c_r v) a 0 1 ≤ _
      rw [rl_1 m0, if_neg (by omega)]
      omega
  refine bc_br_i (fun e7 => ?_) (fun e7 => ?_)
  · refine t_X10_setNiche hF (by omega) (fun e he => hX e σ ?_ hF) (fun he σ2 F2 f2 => ?_)
    · unfold nq1_ at he
      (repeat' split at he) <;> omega
    · refine h0 _ σ2 _ (fa_mono F2 (by omega)) (up (eJ_re (eJ_refl _))) ?_
      have e : re_ (c_r v) (a % 65536) 1 = (c_r v) 1 := by simp [re_]
      show re_ (c_r v) (a % 65536) 1 ≤ _
      rw [e, if_neg (by omega)]
      omega
  refine bc_br_i (fun e8 => ?_) (fun e8 => ?_)
  · refine t_X10_put hF ha (by omega) hc (fun e he => hX e σ ?_ hF) (fun he σ2 F2 f2 => ?_)
    · unfold pq_ at he
      (repeat' split at he) <;> omega
    · have m0 : 0 ≤ a ∧ a ≤ 3 := by
        unfold pq_ at he
        (repeat' split at he) <;> omega
      refine h0 _ σ2 _ (fa_mono F2 (by omega)) (up (eJ_rp (eJ_refl _) m0)) ?_
      show rp_ (c_r v) a c 1 ≤ _
      rw [rp_1 m0.1, if_neg (by omega)]
      omega
  refine bc_br_i (fun e9 => ?_) (fun e9 => ?_)
  · refine t_X10_passDays hF (by omega) ha (fun e he => hX e σ ?_ hF) (fun he σ2 F2 f2 => ?_)
    · unfold dq_ at he
      (repeat' split at he) <;> omega
    · have m0 : 1 ≤ a ∧ a ≤ 30 := by
        unfold dq_ at he
        (repeat' split at he) <;> omega
      have h1 := ps_1 hT a.toNat
      refine h0 _ σ2 _ F2 (up (eJ_ps hT _)) ?_
      show ps_ (c_r v) a.toNat 1 ≤ _
      rw [if_pos (by omega)]
      omega
  exact (by omega : False).elim
theorem t_L_deed {w a b c : Int} (hF : fa_ B σ v) (hB : B ≤ 999000) (hU : uj_ (c_r v)) (hw : 0 ≤ w ∧ w ≤ 9) (ha : bc_in a) (hb : bc_in b) (hc : bc_in c) (h0 : ∀ (x : Int) (σ' : bc_M) (v' : cs_t), fa_ (B + 30) σ' v' → uj_ (c_r v') → (c_r v') 1 ≤ (c_r v) 1 + (if w = 9 then 600 else 0) → Rr (some (bc_I x)) σ') : bc_Sem g (d + 21) mL_deed [bc_R 0, bc_I w, bc_I a, bc_I b, bc_I c] σ Rr (fun _ _ => False) := by
  refine e_L_deed rfl (fun K hK => ?_)
  refine hK.1 [] 60 _ _ _ _ _ ?_
  refine t_L_plain hF hB hU hw ha hb hc (fun e σ1 he F1 => ?_) (fun x σ1 v1 F1 U1 S1 => ?_)
  · have S0 : (c_r v) 1 ≤ (c_r v) 1 + (if w = 9 then 600 else 0) := by split <;> omega
    have F2 := fa_mono F1 (by omega : B ≤ B + 30)
    have e0 : e = 0 ∨ e = 1 ∨ e = 2 ∨ e = 3 ∨ e = 4 := by omega
    rcases e0 with rfl | rfl | rfl | rfl | rfl
    · exact h0 (-2002) σ1 v F2 hU S0
    · exact h0 (-2003) σ1 v F2 hU S0
    · exact h0 (-2005) σ1 v F2 hU S0
    · exact h0 (-2004) σ1 v F2 hU S0
    · exact h0 (-2001) σ1 v F2 hU S0
  · exact h0 x σ1 v1 F1 U1 S1
theorem cq_b (r : rw_t) (m : Int) : cq_ r m = 0 ∨ cq_ r m = 1 := by
  unfold cq_
  split
  · exact .inl rfl
  · unfold se_
    split
    · exact .inr rfl
    · exact .inl rfl
theorem t_L_ask0 {a b c : Int} (hF : fa_ B σ v) (ha : bc_in a) (hb : bc_in b) (hc : bc_in c) (h1 : ix_ (c_r v) a = 1 → Rr (some (bc_I (-2002))) σ) (h0 : 0 ≤ a → a < (c_r v) 3 → Rr (some (bc_I (br_ (c_r v) a))) σ) : bc_Sem g (d + 22) mL_ask [bc_R 0, bc_I 0, bc_I a, bc_I b, bc_I c] σ Rr (fun _ _ => False) := by
  refine e_L_ask rfl (fun K hK => ?_)
  refine hK.1 [] 60 _ _ _ _ _ ?_
  refine e_L_asked rfl (fun K2 hK2 => ?_)
  refine hK2.1 [] 60 _ _ _ _ _ ?_
  refine bc_ob_i ⟨by decide, by decide⟩ ?_
  refine bc_br_i (fun _ => ?_) (fun q => absurd (by decide) q)
  refine t_X10_bearing hF ha (fun hi => ?_) (fun m0 m1 => ?_)
  · exact h1 hi
  · exact h0 m0 m1
theorem t_L_ask1 {a b c : Int} (hF : fa_ B σ v) (ha : bc_in a) (hb : bc_in b) (hc : bc_in c) (h1 : pf_ a b = 1 → Rr (some (bc_I (-2002))) σ) (h2 : pf_ a b = 2 → Rr (some (bc_I (-2003))) σ) (h3 : pf_ a b = 0 → wb_ (sa_ (c_r v)) a b = 0 → ∀ σ', fa_ B σ' v → Rr (some (bc_I (-2004))) σ') (h0 : pf_ a b = 0 → wb_ (sa_ (c_r v)) a b ≠ 0 → ∀ σ', fa_ B σ' v → Rr (some (bc_I (wb_ (sa_ (c_r v)) a b))) σ') : bc_Sem g (d + 22) mL_ask [bc_R 0, bc_I 1, bc_I a, bc_I b, bc_I c] σ Rr (fun _ _ => False) := by
  refine e_L_ask rfl (fun K hK => ?_)
  refine hK.1 [] 60 _ _ _ _ _ ?_
  refine e_L_asked rfl (fun K2 hK2 => ?_)
  refine hK2.1 [] 60 _ _ _ _ _ ?_
  refine bc_ob_i ⟨by decide, by decide⟩ ?_
  refine bc_br_i (fun q => absurd q (by decide)) (fun _ => ?_)
  refine bc_br_i (fun _ => ?_) (fun q => absurd (by decide) q)
  refine t_X10_widestLoad hF ha hb (fun e he => ?_) (fun p0 hz σ2 F2 f2 => ?_) (fun p0 hz σ2 F2 f2 => ?_)
  · have e0 : e = 0 ∨ e = 1 := by
      have p := pf_le a b
      omega
    rcases e0 with rfl | rfl
    · exact h1 he
    · exact h2 he
  · exact h3 p0 hz σ2 F2
  · exact h0 p0 hz σ2 F2
theorem t_L_ask2 {a b c : Int} (hF : fa_ B σ v) (ha : bc_in a) (hb : bc_in b) (hc : bc_in c) (h1 : pf_ a b = 1 → Rr (some (bc_I (-2002))) σ) (h2 : pf_ a b = 2 → Rr (some (bc_I (-2003))) σ) (h3 : pf_ a b = 0 → wt1_ (c_r v) a b 0 → Rr (some (bc_I (-2004))) σ) (h0 : pf_ a b = 0 → ∀ x, wt1_ (c_r v) a b x → x ≠ 0 → Rr (some (bc_I x)) σ) : bc_Sem g (d + 22) mL_ask [bc_R 0, bc_I 2, bc_I a, bc_I b, bc_I c] σ Rr (fun _ _ => False) := by
  refine e_L_ask rfl (fun K hK => ?_)
  refine hK.1 [] 60 _ _ _ _ _ ?_
  refine e_L_asked rfl (fun K2 hK2 => ?_)
  refine hK2.1 [] 60 _ _ _ _ _ ?_
  refine bc_ob_i ⟨by decide, by decide⟩ ?_
  refine bc_br_i (fun q => absurd q (by decide)) (fun _ => ?_)
  refine bc_br_i (fun q => absurd q (by decide)) (fun _ => ?_)
  refine bc_br_i (fun _ => ?_) (fun q => absurd (by decide) q)
  refine t_X10_widestLoadByTrial hF ha hb (fun e he => ?_) (fun p0 hz => ?_) (fun p0 x hx hz => ?_)
  · have e0 : e = 0 ∨ e = 1 := by
      have p := pf_le a b
      omega
    rcases e0 with rfl | rfl
    · exact h1 he
    · exact h2 he
  · exact h3 p0 hz
  · exact h0 p0 x hx hz
theorem t_L_ask3 {a b c : Int} (hF : fa_ B σ v) (ha : bc_in a) (hb : bc_in b) (hc : bc_in c) (h1 : yq_ (c_r v) a b = 1 → ∀ σ', fa_ B σ' (yv_ v a b) → Rr (some (bc_I (-2002))) σ') (h2 : yq_ (c_r v) a b = 2 → ∀ σ', fa_ B σ' (yv_ v a b) → Rr (some (bc_I (-2003))) σ') (h4 : (yq_ (c_r v) a b = 4 ∨ (yq_ (c_r v) a b = 0 ∧ (c < 0 ∨ c_len (yv_ v a b) < c))) → ∀ σ', fa_ B σ' (yv_ v a b) → Rr (some (bc_I (-2004))) σ') (h0 : yq_ (c_r v) a b = 0 → 0 ≤ c → c ≤ c_len (yv_ v a b) → ∀ σ', fa_ B σ' (yv_ v a b) → Rr (some (bc_I (c_J (yv_ v a b) c))) σ') : bc_Sem g (d + 22) mL_ask [bc_R 0, bc_I 3, bc_I a, bc_I b, bc_I c] σ Rr (fun _ _ => False) := by
  refine e_L_ask rfl (fun K hK => ?_)
  refine hK.1 [] 60 _ _ _ _ _ ?_
  refine e_L_asked rfl (fun K2 hK2 => ?_)
  refine hK2.1 [] 60 _ _ _ _ _ ?_
  refine bc_ob_i ⟨by decide, by decide⟩ ?_
  refine bc_br_i (fun q => absurd q (by decide)) (fun _ => ?_)
  refine bc_br_i (fun q => absurd q (by decide)) (fun _ => ?_)
  refine bc_br_i (fun q => absurd q (by decide)) (fun _ => ?_)
  refine bc_br_i (fun _ => ?_) (fun q => absurd (by decide) q)
  refine t_X10_wayJoint hF ha hb hc (fun e he σ2 F2 f2 => ?_) (fun p0 hz σ2 F2 f2 => ?_) (fun p0 q0 q1 σ2 F2 f2 => ?_)
  · have e0 : e = 0 ∨ e = 1 ∨ e = 3 := by
      have p := pf_le a b
      have u := he
      unfold yq_ at u
      (repeat' split at u) <;> omega
    rcases e0 with rfl | rfl | rfl
    · exact h1 he σ2 F2
    · exact h2 he σ2 F2
    · exact h4 (.inl he) σ2 F2
  · exact h4 (.inr ⟨p0, hz⟩) σ2 F2
  · exact h0 p0 q0 q1 σ2 F2
theorem t_L_ask4 {a b c : Int} (hF : fa_ B σ v) (ha : bc_in a) (hb : bc_in b) (hc : bc_in c) (h1 : ix_ (c_r v) a = 1 → Rr (some (bc_I (-2002))) σ) (h0 : 0 ≤ a → a < (c_r v) 3 → ∀ σ', fa_ B σ' v → Rr (some (bc_I (cq_ (c_r v) a))) σ') : bc_Sem g (d + 22) mL_ask [bc_R 0, bc_I 4, bc_I a, bc_I b, bc_I c] σ Rr (fun _ _ => False) := by
  refine e_L_ask rfl (fun K hK => ?_)
  refine hK.1 [] 60 _ _ _ _ _ ?_
  refine e_L_asked rfl (fun K2 hK2 => ?_)
  refine hK2.1 [] 60 _ _ _ _ _ ?_
  refine bc_ob_i ⟨by decide, by decide⟩ ?_
  refine bc_br_i (fun q => absurd q (by decide)) (fun _ => ?_)
  refine bc_br_i (fun q => absurd q (by decide)) (fun _ => ?_)
  refine bc_br_i (fun q => absurd q (by decide)) (fun _ => ?_)
  refine bc_br_i (fun q => absurd q (by decide)) (fun _ => ?_)
  refine bc_br_i (fun _ => ?_) (fun q => absurd (by decide) q)
  refine t_X10_isCritical hF ha (fun hi => ?_) (fun m0 m1 σ2 F2 f2 => ?_)
  · exact h1 hi
  · refine t_L_told (cq_b _ _) ?_
    exact h0 m0 m1 σ2 F2
theorem t_L_ask5 {a b c : Int} (hF : fa_ B σ v) (ha : bc_in a) (hb : bc_in b) (hc : bc_in c) (hB : B ≤ 1000000) (h1 : pf_ a b = 1 → Rr (some (bc_I (-2002))) σ) (h2 : pf_ a b = 2 → Rr (some (bc_I (-2003))) σ) (h3 : pf_ a b = 0 → la_ (c_r v) ((c_r v) 1) a b 99 = 0 → ∀ σ', fa_ B σ' v → Rr (some (bc_I (-2004))) σ') (h0 : pf_ a b = 0 → la_ (c_r v) ((c_r v) 1) a b 99 ≠ 0 → ∀ σ', fa_ B σ' v → Rr (some (bc_I (la_ (c_r v) ((c_r v) 1) a b 99))) σ') : bc_Sem g (d + 22) mL_ask [bc_R 0, bc_I 5, bc_I a, bc_I b, bc_I c] σ Rr (fun _ _ => False) := by
  refine e_L_ask rfl (fun K hK => ?_)
  refine hK.1 [] 60 _ _ _ _ _ ?_
  refine e_L_asked rfl (fun K2 hK2 => ?_)
  refine hK2.1 [] 60 _ _ _ _ _ ?_
  refine bc_ob_i ⟨by decide, by decide⟩ ?_
  refine bc_br_i (fun q => absurd q (by decide)) (fun _ => ?_)
  refine bc_br_i (fun q => absurd q (by decide)) (fun _ => ?_)
  refine bc_br_i (fun q => absurd q (by decide)) (fun _ => ?_)
  refine bc_br_i (fun q => absurd q (by decide)) (fun _ => ?_)
  refine bc_br_i (fun q => absurd q (by decide)) (fun _ => ?_)
  refine bc_br_i (fun _ => ?_) (fun q => absurd (by decide) q)
  refine t_X10_affordableLoad hF hB ha hb (fun e he => ?_) (fun p0 hz σ2 F2 f2 => ?_) (fun p0 hz σ2 F2 f2 => ?_)
  · have e0 : e = 0 ∨ e = 1 := by
      have p := pf_le a b
      omega
    rcases e0 with rfl | rfl
    · exact h1 he
    · exact h2 he
  · exact h3 p0 hz σ2 F2
  · exact h0 p0 hz σ2 F2
theorem t_L_ask6 {a b c : Int} (hF : fa_ B σ v) (ha : bc_in a) (hb : bc_in b) (hc : bc_in c) (hB : B ≤ 1000000) (h1 : pf_ a b = 1 → Rr (some (bc_I (-2002))) σ) (h2 : pf_ a b = 2 → Rr (some (bc_I (-2003))) σ) (h3 : pf_ a b = 0 → tb_ (c_r v) ((c_r v) 1) a b = 0 → ∀ σ', fa_ B σ' v → Rr (some (bc_I (-2004))) σ') (h0 : pf_ a b = 0 → tb_ (c_r v) ((c_r v) 1) a b ≠ 0 → ∀ σ', fa_ B σ' v → Rr (some (bc_I (tb_ (c_r v) ((c_r v) 1) a b))) σ') : bc_Sem g (d + 22) mL_ask [bc_R 0, bc_I 6, bc_I a, bc_I b, bc_I c] σ Rr (fun _ _ => False) := by
  refine e_L_ask rfl (fun K hK => ?_)
  refine hK.1 [] 60 _ _ _ _ _ ?_
  refine e_L_asked rfl (fun K2 hK2 => ?_)
  refine hK2.1 [] 60 _ _ _ _ _ ?_
  refine bc_ob_i ⟨by decide, by decide⟩ ?_
  refine bc_br_i (fun q => absurd q (by decide)) (fun _ => ?_)
  refine bc_br_i (fun q => absurd q (by decide)) (fun _ => ?_)
  refine bc_br_i (fun q => absurd q (by decide)) (fun _ => ?_)
  refine bc_br_i (fun q => absurd q (by decide)) (fun _ => ?_)
  refine bc_br_i (fun q => absurd q (by decide)) (fun _ => ?_)
  refine bc_br_i (fun q => absurd q (by decide)) (fun _ => ?_)
  refine bc_br_i (fun _ => ?_) (fun q => absurd (by decide) q)
  refine t_X10_affordableLoadByTable hF hB ha hb (fun e he => ?_) (fun p0 hz σ2 F2 f2 => ?_) (fun p0 hz σ2 F2 f2 => ?_)
  · have e0 : e = 0 ∨ e = 1 := by
      have p := pf_le a b
      omega
    rcases e0 with rfl | rfl
    · exact h1 he
    · exact h2 he
  · exact h3 p0 hz σ2 F2
  · exact h0 p0 hz σ2 F2
theorem t_L_ask7 {a b c : Int} (hF : fa_ B σ v) (ha : bc_in a) (hb : bc_in b) (hc : bc_in c) (h1 : (∀ k : Int, 0 ≤ k → k < (c_r v) 3 → rk_ (c_r v) k ≠ a) → Rr (some (bc_I (-2004))) σ) (h0 : ∀ s : Int, 0 ≤ s → s < (c_r v) 3 → rk_ (c_r v) s = a → Rr (some (bc_I s)) σ) : bc_Sem g (d + 22) mL_ask [bc_R 0, bc_I 7, bc_I a, bc_I b, bc_I c] σ Rr (fun _ _ => False) := by
  refine e_L_ask rfl (fun K hK => ?_)
  refine hK.1 [] 60 _ _ _ _ _ ?_
  refine e_L_asked rfl (fun K2 hK2 => ?_)
  refine hK2.1 [] 60 _ _ _ _ _ ?_
  refine bc_ob_i ⟨by decide, by decide⟩ ?_
  refine bc_br_i (fun q => absurd q (by decide)) (fun _ => ?_)
  refine bc_br_i (fun q => absurd q (by decide)) (fun _ => ?_)
  refine bc_br_i (fun q => absurd q (by decide)) (fun _ => ?_)
  refine bc_br_i (fun q => absurd q (by decide)) (fun _ => ?_)
  refine bc_br_i (fun q => absurd q (by decide)) (fun _ => ?_)
  refine bc_br_i (fun q => absurd q (by decide)) (fun _ => ?_)
  refine bc_br_i (fun q => absurd q (by decide)) (fun _ => ?_)
  refine bc_br_i (fun _ => ?_) (fun q => absurd (by decide) q)
  refine t_X10_memberByBearing hF ha (fun hi => ?_) (fun s s0 s1 hs => ?_)
  · exact h1 hi
  · exact h0 s s0 s1 hs
theorem t_L_ask8 {a b c : Int} (hF : fa_ B σ v) (ha : bc_in a) (hb : bc_in b) (hc : bc_in c) (hB : B ≤ 1000000) (h1 : (∀ k : Int, 0 ≤ k → k < (c_r v) 4 → vk_r (c_r v) k ≠ a) → Rr (some (bc_I (-2004))) σ) (h0 : ∀ s : Int, 0 ≤ s → s < (c_r v) 4 → vk_r (c_r v) s = a → Rr (some (bc_I ((c_r v) (112 + 3 * s)))) σ) : bc_Sem g (d + 22) mL_ask [bc_R 0, bc_I 8, bc_I a, bc_I b, bc_I c] σ Rr (fun _ _ => False) := by
  refine e_L_ask rfl (fun K hK => ?_)
  refine hK.1 [] 60 _ _ _ _ _ ?_
  refine e_L_asked rfl (fun K2 hK2 => ?_)
  refine hK2.1 [] 60 _ _ _ _ _ ?_
  refine bc_ob_i ⟨by decide, by decide⟩ ?_
  refine bc_br_i (fun q => absurd q (by decide)) (fun _ => ?_)
  refine bc_br_i (fun q => absurd q (by decide)) (fun _ => ?_)
  refine bc_br_i (fun q => absurd q (by decide)) (fun _ => ?_)
  refine bc_br_i (fun q => absurd q (by decide)) (fun _ => ?_)
  refine bc_br_i (fun q => absurd q (by decide)) (fun _ => ?_)
  refine bc_br_i (fun q => absurd q (by decide)) (fun _ => ?_)
  refine bc_br_i (fun q => absurd q (by decide)) (fun _ => ?_)
  refine bc_br_i (fun q => absurd q (by decide)) (fun _ => ?_)
  refine bc_br_i (fun _ => ?_) (fun q => absurd (by decide) q)
  refine t_X10_vowAt hF hB ha (fun hi => ?_) (fun s s0 s1 hs => ?_)
  · exact h1 hi
  · exact h0 s s0 s1 hs
theorem t_L_ask9 {a b c : Int} (hF : fa_ B σ v) (ha : bc_in a) (hb : bc_in b) (hc : bc_in c) (hB : B ≤ 1000000) (h1 : (∀ k : Int, 0 ≤ k → k < (c_r v) 4 → (c_r v) (112 + 3 * k) ≠ a) → Rr (some (bc_I (-2004))) σ) (h0 : ∀ s : Int, 0 ≤ s → s < (c_r v) 4 → (c_r v) (112 + 3 * s) = a → Rr (some (bc_I ((c_r v) (114 + 3 * s)))) σ) : bc_Sem g (d + 22) mL_ask [bc_R 0, bc_I 9, bc_I a, bc_I b, bc_I c] σ Rr (fun _ _ => False) := by
  refine e_L_ask rfl (fun K hK => ?_)
  refine hK.1 [] 60 _ _ _ _ _ ?_
  refine e_L_asked rfl (fun K2 hK2 => ?_)
  refine hK2.1 [] 60 _ _ _ _ _ ?_
  refine bc_ob_i ⟨by decide, by decide⟩ ?_
  refine bc_br_i (fun q => absurd q (by decide)) (fun _ => ?_)
  refine bc_br_i (fun q => absurd q (by decide)) (fun _ => ?_)
  refine bc_br_i (fun q => absurd q (by decide)) (fun _ => ?_)
  refine bc_br_i (fun q => absurd q (by decide)) (fun _ => ?_)
  refine bc_br_i (fun q => absurd q (by decide)) (fun _ => ?_)
  refine bc_br_i (fun q => absurd q (by decide)) (fun _ => ?_)
  refine bc_br_i (fun q => absurd q (by decide)) (fun _ => ?_)
  refine bc_br_i (fun q => absurd q (by decide)) (fun _ => ?_)
  refine bc_br_i (fun q => absurd q (by decide)) (fun _ => ?_)
  refine bc_br_i (fun _ => ?_) (fun q => absurd (by decide) q)
  refine t_X10_amount hF hB ha (fun hi => ?_) (fun s s0 s1 hs => ?_)
  · exact h1 hi
  · exact h0 s s0 s1 hs
theorem t_L_ask10 {a b c : Int} (hF : fa_ B σ v) (ha : bc_in a) (hb : bc_in b) (hc : bc_in c) (hB : B ≤ 1000000) (h1 : ¬ ((c_r v) 0 < a ∧ a ≤ (c_r v) 0 + 50) → Rr (some (bc_I (-2003))) σ) (h2 : ((c_r v) 0 < a ∧ a ≤ (c_r v) 0 + 50) → (∃ b : Int, 1 ≤ b ∧ b ≤ 50 ∧ sp_ (c_r v) ((c_r v) 0 + b) < 0) → Rr (some (bc_I (-2004))) σ) (h0 : ((c_r v) 0 < a ∧ a ≤ (c_r v) 0 + 50) → (∀ b : Int, 1 ≤ b → b ≤ 50 → 0 ≤ sp_ (c_r v) ((c_r v) 0 + b)) → ∀ x : Int, x ≤ sp_ (c_r v) a → (∀ k : Int, 0 ≤ k → k < (c_r v) 4 → a < (c_r v) (113 + 3 * k) → x ≤ sp_ (c_r v) ((c_r v) (113 + 3 * k))) → (x = sp_ (c_r v) a ∨ ∃ k : Int, 0 ≤ k ∧ k < (c_r v) 4 ∧ a < (c_r v) (113 + 3 * k) ∧ x = sp_ (c_r v) ((c_r v) (113 + 3 * k))) → Rr (some (bc_I x)) σ) : bc_Sem g (d + 22) mL_ask [bc_R 0, bc_I 10, bc_I a, bc_I b, bc_I c] σ Rr (fun _ _ => False) := by
  refine e_L_ask rfl (fun K hK => ?_)
  refine hK.1 [] 60 _ _ _ _ _ ?_
  refine e_L_asked rfl (fun K2 hK2 => ?_)
  refine hK2.1 [] 60 _ _ _ _ _ ?_
  refine bc_ob_i ⟨by decide, by decide⟩ ?_
  refine bc_br_i (fun q => absurd q (by decide)) (fun _ => ?_)
  refine bc_br_i (fun q => absurd q (by decide)) (fun _ => ?_)
  refine bc_br_i (fun q => absurd q (by decide)) (fun _ => ?_)
  refine bc_br_i (fun q => absurd q (by decide)) (fun _ => ?_)
  refine bc_br_i (fun q => absurd q (by decide)) (fun _ => ?_)
  refine bc_br_i (fun q => absurd q (by decide)) (fun _ => ?_)
  refine bc_br_i (fun q => absurd q (by decide)) (fun _ => ?_)
  refine bc_br_i (fun q => absurd q (by decide)) (fun _ => ?_)
  refine bc_br_i (fun q => absurd q (by decide)) (fun _ => ?_)
  refine bc_br_i (fun q => absurd q (by decide)) (fun _ => ?_)
  refine bc_br_i (fun _ => ?_) (fun q => absurd (by decide) q)
  refine t_X10_greatestVow hF hB ha (fun hi => ?_) (fun hi hx => ?_) (fun hi hx x q1 q2 q3 => ?_)
  · exact h1 hi
  · exact h2 hi hx
  · exact h0 hi hx x q1 q2 q3
end P60
