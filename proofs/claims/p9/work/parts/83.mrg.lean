section
/-! class and reference side by side -/
/-- the reference's cells are as before -/
noncomputable def yo_ (σ σ' : bc_M) : Prop := ∀ k : Nat, 218 ≤ k → σ'.1 k = σ.1 k
theorem yo_rf (σ : bc_M) : yo_ σ σ := fun _ _ => rfl
theorem yo_fr {P : Nat → Prop} {σ σ' : bc_M} (h : fr_ P σ σ') (hp : ∀ k, P k → k ≤ 217) : yo_ σ σ' := fun k hk => h.1 k (fun q => by have := hp k q; omega)
theorem ob_le (k : Nat) (h : ob_ k) : k ≤ 217 := h.1
theorem ov_le (k : Nat) (h : ov_ k) : k ≤ 217 := h
/-- the reference holds row r, history h, saved row sn (if hs = 1), marks le, lf, the typed text l, the line o -/
noncomputable def rf2_ (σ : bc_M) (v : cs_t) : Prop := rg_ σ (c_r v) (c_h v) ∧ (c_hs v = 1 → nw_ σ 221 (c_sn v)) ∧ σ.1 218 ((4 : Nat) : Int) = c_hs v ∧ σ.1 218 ((6 : Nat) : Int) = c_le v ∧ σ.1 218 ((7 : Nat) : Int) = c_lf v ∧ tyt_ σ (c_l v) ∧ liq_ σ (c_o v) ∧ ∀ j : Int, -1 ≤ σ.1 227 j ∧ σ.1 227 j ≤ 999
/-- each pair of joints once, in every row that may come back -/
noncomputable def ujs_ (v : cs_t) : Prop := uj_ (c_r v) ∧ (∀ q ∈ c_h v, uj_ q) ∧ (c_hs v = 1 → uj_ (c_sn v))
/-- both hold the same -/
noncomputable def jnt_ (B : Int) (σ : bc_M) (v : cs_t) : Prop := fa_ B σ v ∧ ujs_ v ∧ rf2_ σ v
theorem rf2_yo {σ σ' : bc_M} {v : cs_t} (h : rf2_ σ v) (y : yo_ σ σ') : rf2_ σ' v := by
  have y8 := y 218 (by decide)
  have y5 := y 225 (by decide)
  have y6 := y 226 (by decide)
  obtain ⟨⟨g1, g2, g3, g4⟩, h2, h3, h4, h5, ⟨t1, t2, t3⟩, ⟨l1, l2, l3, l4⟩, h8⟩ := h
  refine ⟨⟨fun j a b => by rw [y 219 (by decide)]; exact g1 j a b, by rw [y8]; exact g2, g3, fun t ht j a b => by rw [y 222 (by decide)]; exact g4 t ht j a b⟩, fun e j a b => by rw [y 221 (by decide)]; exact h2 e j a b, by rw [y8]; exact h3, by rw [y8]; exact h4, by rw [y8]; exact h5, ⟨by rw [y8]; exact t1, t2, fun j hj => by rw [y5]; exact t3 j hj⟩, ⟨by rw [y8]; exact l1, l2, fun j hj => by rw [y6]; exact l3 j hj, l4⟩, fun j => by rw [y 227 (by decide)]; exact h8 j⟩
theorem fa_2 {B : Int} {σ : bc_M} {v : cs_t} {x : Int64} {y : UInt64} (h : fa_ B σ v) : fa_ B (σ.1, x, y) v := h
theorem jo_2 {B : Int} {σ : bc_M} {v : cs_t} {x : Int64} {y : UInt64} (h : jnt_ B σ v) : jnt_ B (σ.1, x, y) v := h
theorem fa_ref {P : Nat → Prop} {B : Int} {σ σ' : bc_M} {v : cs_t} (h : fa_ B σ v) (hf : fr_ P σ σ') (hp : ∀ k, P k → 218 ≤ k) : fa_ B σ' v := fa_x h hf (fun k q => .inr (.inr (hp k q)))
theorem jo_wu {B : Int} {σ : bc_M} {v : cs_t} (h : jnt_ B σ v) : wu_ B (c_r v) := ⟨h.1.1.1.2.1, h.1.1.1.2.2.1, h.1.1.1.2.2.2, h.2.1.1⟩
theorem jo_mono {B B' : Int} {σ : bc_M} {v : cs_t} (h : jnt_ B σ v) (hb : B ≤ B') : jnt_ B' σ v := ⟨fa_mono h.1 hb, h.2⟩
/-- the class has only looked -/
theorem jo_cls {B : Int} {σ σ' : bc_M} {v : cs_t} (h : jnt_ B σ v) (F : fa_ B σ' v) (y : yo_ σ σ') : jnt_ B σ' v := ⟨F, h.2.1, rf2_yo h.2.2 y⟩
theorem tyt_fr {P : Nat → Prop} {σ σ' : bc_M} {l : List Int} (h : tyt_ σ l) (hf : fr_ P σ σ') (hp : ¬ P 225) (e : σ'.1 218 ((11 : Nat) : Int) = σ.1 218 ((11 : Nat) : Int)) : tyt_ σ' l := ⟨by rw [e]; exact h.1, h.2.1, fun j hj => by rw [hf.1 225 hp]; exact h.2.2 j hj⟩
theorem liq_fr {P : Nat → Prop} {σ σ' : bc_M} {l : List Int} (h : liq_ σ l) (hf : fr_ P σ σ') (hp : ¬ P 226) (e : σ'.1 218 ((13 : Nat) : Int) = σ.1 218 ((13 : Nat) : Int)) : liq_ σ' l := ⟨by rw [e]; exact h.1, lnt_fr h.2 hf hp⟩
/-- what of the reference's cells stays, when S of its numbers may change -/
theorem rf2_gen {P : Nat → Prop} {S : Int → Prop} {σ σ' : bc_M} {v : cs_t} {r : rw_t} {h : List rw_t} (H : rf2_ σ v) (G : rg_ σ' r h) (hf : fr_ P σ σ') (hj : fj_ S σ σ') (p1 : ¬ P 221) (p2 : ¬ P 225) (p3 : ¬ P 226) (p4 : ¬ P 227) (s4 : ¬ S 4) (s6 : ¬ S 6) (s7 : ¬ S 7) (s11 : ¬ S 11) (s13 : ¬ S 13) {n : Int} : rf2_ σ' (u_h (u_r v r) h n) := by
  obtain ⟨-, h2, h3, h4, h5, h6, h7, h8⟩ := H
  exact ⟨G, fun e => nw_fr (h2 e) hf p1, by rw [hj ((4 : Nat) : Int) s4]; exact h3, by rw [hj ((6 : Nat) : Int) s6]; exact h4, by rw [hj ((7 : Nat) : Int) s7]; exact h5, tyt_fr h6 hf p2 (hj _ s11), liq_fr h7 hf p3 (hj _ s13), fun j => by rw [hf.1 227 p4]; exact h8 j⟩
/-- the reference has only looked -/
theorem jo_roc {B t : Int} {σ σ' : bc_M} {v : cs_t} (h : jnt_ B σ v) (R : roc_ t σ σ') : jnt_ B σ' v :=
  ⟨fa_ref h.1 R.2.1 (by omega), h.2.1, rf2_gen (n := c_n v) h.2.2 ⟨nw_fr h.2.2.1.1 R.2.1 (by decide), mh_fr h.2.2.1.2 R.2.1 (by decide) (R.2.2 _ (by decide))⟩ R.2.1 R.2.2 (by decide) (by decide) (by decide) (by decide) (by decide) (by decide) (by decide) (by decide) (by decide)⟩
theorem ujs_hr {h : List rw_t} {r : rw_t} (hh : ∀ q ∈ h, uj_ q) (hr : uj_ r) : ∀ q ∈ hr_ h r, uj_ q := fun q hq => by
  have := List.mem_of_mem_take hq
  rcases List.mem_cons.mp this with e | e
  · rw [e]; exact hr
  · exact hh q e
/-- both have changed the row -/
theorem jo_spo {B B1 t : Int} {σ σ1 σ2 : bc_M} {v v1 : cs_t} {r : rw_t} {h : List rw_t} {n : Int} (J : jnt_ B σ v) (F : fa_ B1 σ1 v1) (y : yo_ σ σ1) (e : v1 = u_h (u_r v r) h n) (hu : uj_ r) (hh : ∀ q ∈ h, uj_ q) (S : spo_ t r h σ1 σ2) : jnt_ B1 σ2 v1 := by
  subst e
  exact ⟨fa_ref F S.2.2.1 (by omega), ⟨hu, hh, J.2.1.2.2⟩, rf2_gen (rf2_yo J.2.2 y) S.1 S.2.2.1 S.2.2.2 (by decide) (by decide) (by decide) (by decide) (by decide) (by decide) (by decide) (by decide) (by decide)⟩
theorem spo_ex {t : Int} {q : rw_t} {h : List rw_t} {σ σ' : bc_M} (h1 : rg_ σ' q h) (h2 : σ'.1 218 ((14 : Nat) : Int) = t) (h3 : fr_ ex_ σ σ') (h4 : fj_ ej_ σ σ') : spo_ t q h σ σ' := ⟨h1, h2, ey_ex h3, h4⟩
end
section
/-! the law's wrappers -/
theorem tq_stt {q : rw_t} (hW : wf_M q) (m : Int) : tq_ q m = if stt_ q m = 1 then 1 else if stt_ q m = 2 then 6 else 0 := by
  have w3 := hW.1
  by_cases c : 0 ≤ m ∧ m < q 3
  · have lb := br_le hW c.1 (by omega : m < 16)
    by_cases e : br_ q m = 0
    · have s2 : stt_ q m = 2 := by
        unfold stt_
        rw [if_neg (fun k => k c), if_pos (by omega)]
      rw [s2]
      unfold tq_
      rw [if_neg (fun k => k c), if_pos e]
      rfl
    · have s2 : stt_ q m = 0 := by
        unfold stt_
        rw [if_neg (fun k => k c), if_neg (by omega)]
      rw [s2]
      unfold tq_
      rw [if_neg (fun k => k c), if_neg e]
      rfl
  · have s2 : stt_ q m = 1 := by
      unfold stt_
      rw [if_pos c]
    rw [s2]
    unfold tq_
    rw [if_pos c]
    rfl
theorem jnt_yv {B : Int} {σ σ' : bc_M} {v : cs_t} {a b : Int} (J : jnt_ B σ v) (F : fa_ B σ' (yv_ v a b)) (y : yo_ σ σ') : jnt_ B σ' (yv_ v a b) ∧ c_r (yv_ v a b) = c_r v := by
  have H := rf2_yo J.2.2 y
  unfold yv_ at F ⊢
  split
  · rename_i c
    rw [if_pos c] at F
    exact ⟨⟨F, J.2.1, H⟩, rfl⟩
  · rename_i c
    rw [if_neg c] at F
    exact ⟨⟨F, J.2.1, H⟩, rfl⟩
section WRP
variable {g : bc_C} {d : Nat} {σ : bc_M} {B : Int} {v : cs_t} {Rr : Option bc_A → bc_M → Prop}
theorem w_firstJoint {m : Int} (J : jnt_ B σ v) (hB : B ≤ 999000) (hm : bc_in m) (f : ∀ (σ1 : bc_M) (t x : Int) (v1 : cs_t), jnt_ B σ1 v1 → c_r v1 = c_r v → ((t = 1 ∧ ¬ (0 ≤ m ∧ m < (c_r v) 3)) ∨ (t = 0 ∧ (0 ≤ m ∧ m < (c_r v) 3) ∧ x = (c_r v) (16 + 6 * m))) → (t = 0 → σ1.2.1 = (Int32.ofInt x).toInt64) → Rr (some (bc_I t)) σ1) : bc_Sem g (d + 20) mL_firstJoint [bc_R 0, bc_I m, bc_R 228] σ Rr (fun _ _ => False) := by
  have w3 := J.1.1.1.2.1.1
  refine e_L_firstJoint rfl (fun K hK => ?_)
  refine hK.1 [] 60 _ _ _ _ _ ?_
  refine t_X10_firstJoint J.1 hm (fun hi => ?_) (fun m0 m1 => ?_)
  · have ne : ¬ (0 ≤ m ∧ m < (c_r v) 3) := by
      unfold ix_ at hi
      split at hi <;> omega
    exact f σ 1 0 v J rfl (.inl ⟨rfl, ne⟩) (fun h => absurd h (by decide))
  · refine bc_ob_i rfl ?_
    exact f _ 0 ((c_r v) (16 + 6 * m)) v (jo_2 J) rfl (.inr ⟨rfl, ⟨m0, m1⟩, rfl⟩) (fun _ => rfl)
theorem w_secondJoint {m : Int} (J : jnt_ B σ v) (hB : B ≤ 999000) (hm : bc_in m) (f : ∀ (σ1 : bc_M) (t x : Int) (v1 : cs_t), jnt_ B σ1 v1 → c_r v1 = c_r v → ((t = 1 ∧ ¬ (0 ≤ m ∧ m < (c_r v) 3)) ∨ (t = 0 ∧ (0 ≤ m ∧ m < (c_r v) 3) ∧ x = (c_r v) (17 + 6 * m))) → (t = 0 → σ1.2.1 = (Int32.ofInt x).toInt64) → Rr (some (bc_I t)) σ1) : bc_Sem g (d + 20) mL_secondJoint [bc_R 0, bc_I m, bc_R 228] σ Rr (fun _ _ => False) := by
  have w3 := J.1.1.1.2.1.1
  refine e_L_secondJoint rfl (fun K hK => ?_)
  refine hK.1 [] 60 _ _ _ _ _ ?_
  refine t_X10_secondJoint J.1 hm (fun hi => ?_) (fun m0 m1 => ?_)
  · have ne : ¬ (0 ≤ m ∧ m < (c_r v) 3) := by
      unfold ix_ at hi
      split at hi <;> omega
    exact f σ 1 0 v J rfl (.inl ⟨rfl, ne⟩) (fun h => absurd h (by decide))
  · refine bc_ob_i rfl ?_
    exact f _ 0 ((c_r v) (17 + 6 * m)) v (jo_2 J) rfl (.inr ⟨rfl, ⟨m0, m1⟩, rfl⟩) (fun _ => rfl)
theorem w_crack {m : Int} (J : jnt_ B σ v) (hB : B ≤ 999000) (hm : bc_in m) (f : ∀ (σ1 : bc_M) (t x : Int) (v1 : cs_t), jnt_ B σ1 v1 → c_r v1 = c_r v → ((t = 1 ∧ ¬ (0 ≤ m ∧ m < (c_r v) 3)) ∨ (t = 0 ∧ (0 ≤ m ∧ m < (c_r v) 3) ∧ x = (c_r v) (19 + 6 * m))) → (t = 0 → σ1.2.1 = (Int32.ofInt x).toInt64) → Rr (some (bc_I t)) σ1) : bc_Sem g (d + 20) mL_crack [bc_R 0, bc_I m, bc_R 228] σ Rr (fun _ _ => False) := by
  have w3 := J.1.1.1.2.1.1
  refine e_L_crack rfl (fun K hK => ?_)
  refine hK.1 [] 60 _ _ _ _ _ ?_
  refine t_X10_crack J.1 hm (fun hi => ?_) (fun m0 m1 => ?_)
  · have ne : ¬ (0 ≤ m ∧ m < (c_r v) 3) := by
      unfold ix_ at hi
      split at hi <;> omega
    exact f σ 1 0 v J rfl (.inl ⟨rfl, ne⟩) (fun h => absurd h (by decide))
  · refine bc_ob_i rfl ?_
    exact f _ 0 ((c_r v) (19 + 6 * m)) v (jo_2 J) rfl (.inr ⟨rfl, ⟨m0, m1⟩, rfl⟩) (fun _ => rfl)
theorem w_wear {m : Int} (J : jnt_ B σ v) (hB : B ≤ 999000) (hm : bc_in m) (f : ∀ (σ1 : bc_M) (t x : Int) (v1 : cs_t), jnt_ B σ1 v1 → c_r v1 = c_r v → ((t = 1 ∧ ¬ (0 ≤ m ∧ m < (c_r v) 3)) ∨ (t = 0 ∧ (0 ≤ m ∧ m < (c_r v) 3) ∧ x = (c_r v) (20 + 6 * m))) → (t = 0 → σ1.2.1 = (Int32.ofInt x).toInt64) → Rr (some (bc_I t)) σ1) : bc_Sem g (d + 20) mL_wear [bc_R 0, bc_I m, bc_R 228] σ Rr (fun _ _ => False) := by
  have w3 := J.1.1.1.2.1.1
  refine e_L_wear rfl (fun K hK => ?_)
  refine hK.1 [] 60 _ _ _ _ _ ?_
  refine t_X10_wear J.1 hm (fun hi => ?_) (fun m0 m1 => ?_)
  · have ne : ¬ (0 ≤ m ∧ m < (c_r v) 3) := by
      unfold ix_ at hi
      split at hi <;> omega
    exact f σ 1 0 v J rfl (.inl ⟨rfl, ne⟩) (fun h => absurd h (by decide))
  · refine bc_ob_i rfl ?_
    exact f _ 0 ((c_r v) (20 + 6 * m)) v (jo_2 J) rfl (.inr ⟨rfl, ⟨m0, m1⟩, rfl⟩) (fun _ => rfl)
theorem w_bearing {m : Int} (J : jnt_ B σ v) (hB : B ≤ 999000) (hm : bc_in m) (f : ∀ (σ1 : bc_M) (t x : Int) (v1 : cs_t), jnt_ B σ1 v1 → c_r v1 = c_r v → ((t = 1 ∧ ¬ (0 ≤ m ∧ m < (c_r v) 3)) ∨ (t = 0 ∧ (0 ≤ m ∧ m < (c_r v) 3) ∧ x = br_ (c_r v) m)) → (t = 0 → σ1.2.1 = (Int32.ofInt x).toInt64) → Rr (some (bc_I t)) σ1) : bc_Sem g (d + 20) mL_bearing [bc_R 0, bc_I m, bc_R 228] σ Rr (fun _ _ => False) := by
  have w3 := J.1.1.1.2.1.1
  refine e_L_bearing rfl (fun K hK => ?_)
  refine hK.1 [] 60 _ _ _ _ _ ?_
  refine t_X10_bearing J.1 hm (fun hi => ?_) (fun m0 m1 => ?_)
  · have ne : ¬ (0 ≤ m ∧ m < (c_r v) 3) := by
      unfold ix_ at hi
      split at hi <;> omega
    exact f σ 1 0 v J rfl (.inl ⟨rfl, ne⟩) (fun h => absurd h (by decide))
  · refine bc_ob_i rfl ?_
    exact f _ 0 (br_ (c_r v) m) v (jo_2 J) rfl (.inr ⟨rfl, ⟨m0, m1⟩, rfl⟩) (fun _ => rfl)
theorem w_repairCost {m : Int} (J : jnt_ B σ v) (hB : B ≤ 999000) (hm : bc_in m) (f : ∀ (σ1 : bc_M) (t x : Int) (v1 : cs_t), jnt_ B σ1 v1 → c_r v1 = c_r v → ((t = 1 ∧ ¬ (0 ≤ m ∧ m < (c_r v) 3)) ∨ (t = 0 ∧ (0 ≤ m ∧ m < (c_r v) 3) ∧ x = co_ (c_r v) m)) → (t = 0 → σ1.2.1 = (Int32.ofInt x).toInt64) → Rr (some (bc_I t)) σ1) : bc_Sem g (d + 20) mL_repairCost [bc_R 0, bc_I m, bc_R 228] σ Rr (fun _ _ => False) := by
  have w3 := J.1.1.1.2.1.1
  refine e_L_repairCost rfl (fun K hK => ?_)
  refine hK.1 [] 60 _ _ _ _ _ ?_
  refine t_X10_repairCost J.1 hm (fun hi => ?_) (fun m0 m1 => ?_)
  · have ne : ¬ (0 ≤ m ∧ m < (c_r v) 3) := by
      unfold ix_ at hi
      split at hi <;> omega
    exact f σ 1 0 v J rfl (.inl ⟨rfl, ne⟩) (fun h => absurd h (by decide))
  · refine bc_ob_i rfl ?_
    exact f _ 0 (co_ (c_r v) m) v (jo_2 J) rfl (.inr ⟨rfl, ⟨m0, m1⟩, rfl⟩) (fun _ => rfl)
theorem w_isAbandoned {m : Int} (J : jnt_ B σ v) (hB : B ≤ 999000) (hm : bc_in m) (f : ∀ (σ1 : bc_M) (t x : Int) (v1 : cs_t), jnt_ B σ1 v1 → c_r v1 = c_r v → ((t = 1 ∧ ¬ (0 ≤ m ∧ m < (c_r v) 3)) ∨ (t = 0 ∧ (0 ≤ m ∧ m < (c_r v) 3) ∧ x = (c_r v) (21 + 6 * m))) → (t = 0 → σ1.2.1 = (Int32.ofInt x).toInt64) → Rr (some (bc_I t)) σ1) : bc_Sem g (d + 20) mL_isAbandoned [bc_R 0, bc_I m, bc_R 228] σ Rr (fun _ _ => False) := by
  have w3 := J.1.1.1.2.1.1
  refine e_L_isAbandoned rfl (fun K hK => ?_)
  refine hK.1 [] 60 _ _ _ _ _ ?_
  refine t_X10_isAbandoned J.1 hm (fun hi => ?_) (fun m0 m1 => ?_)
  · have ne : ¬ (0 ≤ m ∧ m < (c_r v) 3) := by
      unfold ix_ at hi
      split at hi <;> omega
    exact f σ 1 0 v J rfl (.inl ⟨rfl, ne⟩) (fun h => absurd h (by decide))
  · obtain ⟨-, -, -, -, -, g5⟩ := J.1.1.1.2.1.2 m m0 (by omega)
    have l01 := g5
    refine bc_ob_i (by constructor <;> omega) ?_
    refine bc_br_i (fun c => ?_) (fun c => ?_)
    · refine bc_ob_i rfl ?_
      exact f _ 0 0 v (jo_2 J) rfl (.inr ⟨rfl, ⟨m0, m1⟩, c.symm⟩) (fun _ => rfl)
    · refine bc_ob_i rfl ?_
      have c1 : (c_r v) (21 + 6 * m) = 1 := by omega
      exact f _ 0 1 v (jo_2 J) rfl (.inr ⟨rfl, ⟨m0, m1⟩, c1.symm⟩) (fun _ => rfl)
theorem w_isCritical {m : Int} (J : jnt_ B σ v) (hB : B ≤ 999000) (hm : bc_in m) (f : ∀ (σ1 : bc_M) (t x : Int) (v1 : cs_t), jnt_ B σ1 v1 → c_r v1 = c_r v → ((t = 1 ∧ ¬ (0 ≤ m ∧ m < (c_r v) 3)) ∨ (t = 0 ∧ (0 ≤ m ∧ m < (c_r v) 3) ∧ x = cq_ (c_r v) m)) → (t = 0 → σ1.2.1 = (Int32.ofInt x).toInt64) → Rr (some (bc_I t)) σ1) : bc_Sem g (d + 20) mL_isCritical [bc_R 0, bc_I m, bc_R 228] σ Rr (fun _ _ => False) := by
  have w3 := J.1.1.1.2.1.1
  refine e_L_isCritical rfl (fun K hK => ?_)
  refine hK.1 [] 60 _ _ _ _ _ ?_
  refine t_X10_isCritical J.1 hm (fun hi => ?_) (fun m0 m1 σ2 F2 f2 => ?_)
  · have ne : ¬ (0 ≤ m ∧ m < (c_r v) 3) := by
      unfold ix_ at hi
      split at hi <;> omega
    exact f σ 1 0 v J rfl (.inl ⟨rfl, ne⟩) (fun h => absurd h (by decide))
  · have J2 := jo_cls J F2 (yo_fr f2 ob_le)
    have l01 := cq_le (c_r v) m
    refine bc_ob_i (by constructor <;> omega) ?_
    refine bc_br_i (fun c => ?_) (fun c => ?_)
    · refine bc_ob_i rfl ?_
      exact f _ 0 0 v (jo_2 J2) rfl (.inr ⟨rfl, ⟨m0, m1⟩, c.symm⟩) (fun _ => rfl)
    · refine bc_ob_i rfl ?_
      have c1 : cq_ (c_r v) m = 1 := by omega
      exact f _ 0 1 v (jo_2 J2) rfl (.inr ⟨rfl, ⟨m0, m1⟩, c1.symm⟩) (fun _ => rfl)
theorem w_isCriticalByRemoval {m : Int} (J : jnt_ B σ v) (hB : B ≤ 999000) (hm : bc_in m) (f : ∀ (σ1 : bc_M) (t x : Int) (v1 : cs_t), jnt_ B σ1 v1 → c_r v1 = c_r v → ((t = 1 ∧ ¬ (0 ≤ m ∧ m < (c_r v) 3)) ∨ (t = 0 ∧ (0 ≤ m ∧ m < (c_r v) 3) ∧ x = cr1_ (c_r v) m)) → (t = 0 → σ1.2.1 = (Int32.ofInt x).toInt64) → Rr (some (bc_I t)) σ1) : bc_Sem g (d + 20) mL_isCriticalByRemoval [bc_R 0, bc_I m, bc_R 228] σ Rr (fun _ _ => False) := by
  have w3 := J.1.1.1.2.1.1
  refine e_L_isCriticalByRemoval rfl (fun K hK => ?_)
  refine hK.1 [] 60 _ _ _ _ _ ?_
  refine t_X10_isCriticalByRemoval J.1 hm (fun hi => ?_) (fun m0 m1 => ?_)
  · have ne : ¬ (0 ≤ m ∧ m < (c_r v) 3) := by
      unfold ix_ at hi
      split at hi <;> omega
    exact f σ 1 0 v J rfl (.inl ⟨rfl, ne⟩) (fun h => absurd h (by decide))
  · have J2 := J
    have l01 := cr1_le (c_r v) m
    refine bc_ob_i (by constructor <;> omega) ?_
    refine bc_br_i (fun c => ?_) (fun c => ?_)
    · refine bc_ob_i rfl ?_
      exact f _ 0 0 v (jo_2 J2) rfl (.inr ⟨rfl, ⟨m0, m1⟩, c.symm⟩) (fun _ => rfl)
    · refine bc_ob_i rfl ?_
      have c1 : cr1_ (c_r v) m = 1 := by omega
      exact f _ 0 1 v (jo_2 J2) rfl (.inr ⟨rfl, ⟨m0, m1⟩, c1.symm⟩) (fun _ => rfl)
theorem w_strain {m u : Int} (J : jnt_ B σ v) (hB : B ≤ 999000) (hm : bc_in m) (hu : bc_in u) (f : ∀ (σ1 : bc_M) (t : Int) (v1 : cs_t), jnt_ B σ1 v1 → c_r v1 = c_r v → (t = stt_ (c_r v) m ∧ (t = 0 → σ1.2.2 = FP.f2d (stv_ (c_r v) m u))) → Rr (some (bc_I t)) σ1) : bc_Sem g (d + 20) mL_strain [bc_R 0, bc_I m, bc_I u, bc_R 229] σ Rr (fun _ _ => False) := by
  have w3 := J.1.1.1.2.1.1
  refine e_L_strain rfl (fun K hK => ?_)
  refine hK.1 [] 60 _ _ _ _ _ ?_
  have hq := tq_stt J.1.1.1.2.1 m
  have ls := stt_le (c_r v) m
  refine t_X10_strain J.1 hm (fun e he => ?_) (fun e0 => ?_)
  · rw [hq] at he
    have e0 : (e = 0 ∧ stt_ (c_r v) m = 1) ∨ (e = 5 ∧ stt_ (c_r v) m = 2) := by
      split at he
      · omega
      · split at he <;> omega
    rcases e0 with ⟨rfl, k⟩ | ⟨rfl, k⟩
    · exact f σ 1 v J rfl ⟨k.symm, (fun h => absurd h (by decide))⟩
    · exact f σ 2 v J rfl ⟨k.symm, (fun h => absurd h (by decide))⟩
  · have k : stt_ (c_r v) m = 0 := by
      rw [hq] at e0
      split at e0
      · omega
      · split at e0 <;> omega
    refine bc_ob_i (vn_f2d (stv_n J.1.1.1.2.1 u k)) ?_
    refine bc_ob_i rfl ?_
    exact f _ 0 v (jo_2 J) rfl ⟨k.symm, fun _ => rfl⟩
theorem w_strainBits {m u : Int} (J : jnt_ B σ v) (hB : B ≤ 999000) (hm : bc_in m) (hu : bc_in u) (f : ∀ (σ1 : bc_M) (t x : Int) (v1 : cs_t), jnt_ B σ1 v1 → c_r v1 = c_r v → (t = stt_ (c_r v) m) → (t = 0 → σ1.2.1 = (Int32.ofInt x).toInt64) → Rr (some (bc_I t)) σ1) : bc_Sem g (d + 20) mL_strainBits [bc_R 0, bc_I m, bc_I u, bc_R 228] σ Rr (fun _ _ => False) := by
  have w3 := J.1.1.1.2.1.1
  refine e_L_strainBits rfl (fun K hK => ?_)
  refine hK.1 [] 60 _ _ _ _ _ ?_
  have hq := tq_stt J.1.1.1.2.1 m
  have ls := stt_le (c_r v) m
  refine t_X10_strainBits J.1 hm (fun e he => ?_) (fun e0 y hy => ?_)
  · rw [hq] at he
    have e0 : (e = 0 ∧ stt_ (c_r v) m = 1) ∨ (e = 5 ∧ stt_ (c_r v) m = 2) := by
      split at he
      · omega
      · split at he <;> omega
    rcases e0 with ⟨rfl, k⟩ | ⟨rfl, k⟩
    · exact f σ 1 0 v J rfl k.symm (fun h => absurd h (by decide))
    · exact f σ 2 0 v J rfl k.symm (fun h => absurd h (by decide))
  · have k : stt_ (c_r v) m = 0 := by
      rw [hq] at e0
      split at e0
      · omega
      · split at e0 <;> omega
    refine bc_ob_i rfl ?_
    exact f _ 0 y v (jo_2 J) rfl k.symm (fun _ => rfl)
theorem w_meanBearing (J : jnt_ B σ v) (hB : B ≤ 999000) (f : ∀ (σ1 : bc_M) (t : Int) (v1 : cs_t), jnt_ B σ1 v1 → c_r v1 = c_r v → ((t = 1 ∧ (c_r v) 3 = 0) ∨ (t = 0 ∧ 0 < (c_r v) 3 ∧ σ1.2.2 = FP.ddiv (FP.i2d (Int32.ofInt (sm_ (br_ (c_r v)) ((c_r v) 3).toNat))) (FP.i2d (Int32.ofInt ((c_r v) 3))))) → Rr (some (bc_I t)) σ1) : bc_Sem g (d + 20) mL_meanBearing [bc_R 0, bc_R 229] σ Rr (fun _ _ => False) := by
  have w3 := J.1.1.1.2.1.1
  refine e_L_meanBearing rfl (fun K hK => ?_)
  refine hK.1 [] 60 _ _ _ _ _ ?_
  refine t_X10_meanBearing J.1 (fun z => ?_) (fun z => ?_)
  · exact f σ 1 v J rfl (.inl ⟨rfl, z⟩)
  · refine bc_ob_i rfl ?_
    exact f _ 0 v (jo_2 J) rfl (.inr ⟨rfl, z, rfl⟩)
theorem w_crackedShare (J : jnt_ B σ v) (hB : B ≤ 999000) (f : ∀ (σ1 : bc_M) (t : Int) (v1 : cs_t), jnt_ B σ1 v1 → c_r v1 = c_r v → ((t = 1 ∧ (c_r v) 3 = 0) ∨ (t = 0 ∧ 0 < (c_r v) 3 ∧ σ1.2.2 = FP.f2d (FP.fdiv (FP.i2f (Int32.ofInt (sm_ (fun k => if 0 < (c_r v) (19 + 6 * k) then 1 else 0) ((c_r v) 3).toNat))) (FP.i2f (Int32.ofInt ((c_r v) 3)))))) → Rr (some (bc_I t)) σ1) : bc_Sem g (d + 20) mL_crackedShare [bc_R 0, bc_R 229] σ Rr (fun _ _ => False) := by
  have w3 := J.1.1.1.2.1.1
  refine e_L_crackedShare rfl (fun K hK => ?_)
  refine hK.1 [] 60 _ _ _ _ _ ?_
  refine t_X10_crackedShare J.1 (fun z => ?_) (fun z => ?_)
  · exact f σ 1 v J rfl (.inl ⟨rfl, z⟩)
  · refine bc_ob_i (vn_f2d (vn_fdiv (vn_if_ _) (nz3_i (by omega) (by omega)))) ?_
    refine bc_ob_i rfl ?_
    exact f _ 0 v (jo_2 J) rfl (.inr ⟨rfl, z, rfl⟩)
theorem w_widestLoad {a b : Int} (J : jnt_ B σ v) (hB : B ≤ 999000) (ha : bc_in a) (hb : bc_in b) (f : ∀ (σ1 : bc_M) (t x : Int) (v1 : cs_t), jnt_ B σ1 v1 → c_r v1 = c_r v → ((t = pf_ a b ∧ t ≠ 0) ∨ (pf_ a b = 0 ∧ (wb_ (sa_ (c_r v)) a b = 0) ∧ t = 3) ∨ (pf_ a b = 0 ∧ (wb_ (sa_ (c_r v)) a b ≠ 0 ∧ x = wb_ (sa_ (c_r v)) a b) ∧ t = 0)) → (t = 0 → σ1.2.1 = (Int32.ofInt x).toInt64) → Rr (some (bc_I t)) σ1) : bc_Sem g (d + 20) mL_widestLoad [bc_R 0, bc_I a, bc_I b, bc_R 228] σ Rr (fun _ _ => False) := by
  have w3 := J.1.1.1.2.1.1
  refine e_L_widestLoad rfl (fun K hK => ?_)
  refine hK.1 [] 60 _ _ _ _ _ ?_
  refine t_X10_widestLoad J.1 ha hb (fun e he => ?_) (fun p0 z σ2 F2 f2 => ?_) (fun p0 z σ2 F2 f2 => ?_)
  · have p := pf_le a b
    have e0 : (e = 0 ∧ pf_ a b = 1) ∨ (e = 1 ∧ pf_ a b = 2) := by omega
    rcases e0 with ⟨rfl, k⟩ | ⟨rfl, k⟩
    · exact f σ 1 0 v J rfl (.inl ⟨k.symm, by omega⟩) (fun h => absurd h (by decide))
    · exact f σ 2 0 v J rfl (.inl ⟨k.symm, by omega⟩) (fun h => absurd h (by decide))
  · exact f σ2 3 0 v (jo_cls J F2 (yo_fr f2 ob_le)) rfl (.inr (.inl ⟨p0, z, rfl⟩)) (fun h => absurd h (by decide))
  · refine bc_ob_i rfl ?_
    exact f _ 0 _ v (jo_2 (jo_cls J F2 (yo_fr f2 ob_le))) rfl (.inr (.inr ⟨p0, ⟨z, rfl⟩, rfl⟩)) (fun _ => rfl)
theorem w_widestLoadByTrial {a b : Int} (J : jnt_ B σ v) (hB : B ≤ 999000) (ha : bc_in a) (hb : bc_in b) (f : ∀ (σ1 : bc_M) (t x : Int) (v1 : cs_t), jnt_ B σ1 v1 → c_r v1 = c_r v → ((t = pf_ a b ∧ t ≠ 0) ∨ (pf_ a b = 0 ∧ (wt1_ (c_r v) a b 0) ∧ t = 3) ∨ (pf_ a b = 0 ∧ (x ≠ 0 ∧ wt1_ (c_r v) a b x) ∧ t = 0)) → (t = 0 → σ1.2.1 = (Int32.ofInt x).toInt64) → Rr (some (bc_I t)) σ1) : bc_Sem g (d + 20) mL_widestLoadByTrial [bc_R 0, bc_I a, bc_I b, bc_R 228] σ Rr (fun _ _ => False) := by
  have w3 := J.1.1.1.2.1.1
  refine e_L_widestLoadByTrial rfl (fun K hK => ?_)
  refine hK.1 [] 60 _ _ _ _ _ ?_
  refine t_X10_widestLoadByTrial J.1 ha hb (fun e he => ?_) (fun p0 z => ?_) (fun p0 x z nz => ?_)
  · have p := pf_le a b
    have e0 : (e = 0 ∧ pf_ a b = 1) ∨ (e = 1 ∧ pf_ a b = 2) := by omega
    rcases e0 with ⟨rfl, k⟩ | ⟨rfl, k⟩
    · exact f σ 1 0 v J rfl (.inl ⟨k.symm, by omega⟩) (fun h => absurd h (by decide))
    · exact f σ 2 0 v J rfl (.inl ⟨k.symm, by omega⟩) (fun h => absurd h (by decide))
  · exact f σ 3 0 v J rfl (.inr (.inl ⟨p0, z, rfl⟩)) (fun h => absurd h (by decide))
  · refine bc_ob_i rfl ?_
    exact f _ 0 x v (jo_2 J) rfl (.inr (.inr ⟨p0, ⟨nz, z⟩, rfl⟩)) (fun _ => rfl)
theorem w_affordableLoad {a b : Int} (J : jnt_ B σ v) (hB : B ≤ 999000) (ha : bc_in a) (hb : bc_in b) (f : ∀ (σ1 : bc_M) (t x : Int) (v1 : cs_t), jnt_ B σ1 v1 → c_r v1 = c_r v → ((t = pf_ a b ∧ t ≠ 0) ∨ (pf_ a b = 0 ∧ (la_ (c_r v) ((c_r v) 1) a b 99 = 0) ∧ t = 3) ∨ (pf_ a b = 0 ∧ (la_ (c_r v) ((c_r v) 1) a b 99 ≠ 0 ∧ x = la_ (c_r v) ((c_r v) 1) a b 99) ∧ t = 0)) → (t = 0 → σ1.2.1 = (Int32.ofInt x).toInt64) → Rr (some (bc_I t)) σ1) : bc_Sem g (d + 20) mL_affordableLoad [bc_R 0, bc_I a, bc_I b, bc_R 228] σ Rr (fun _ _ => False) := by
  have w3 := J.1.1.1.2.1.1
  refine e_L_affordableLoad rfl (fun K hK => ?_)
  refine hK.1 [] 60 _ _ _ _ _ ?_
  refine t_X10_affordableLoad J.1 (by omega) ha hb (fun e he => ?_) (fun p0 z σ2 F2 f2 => ?_) (fun p0 z σ2 F2 f2 => ?_)
  · have p := pf_le a b
    have e0 : (e = 0 ∧ pf_ a b = 1) ∨ (e = 1 ∧ pf_ a b = 2) := by omega
    rcases e0 with ⟨rfl, k⟩ | ⟨rfl, k⟩
    · exact f σ 1 0 v J rfl (.inl ⟨k.symm, by omega⟩) (fun h => absurd h (by decide))
    · exact f σ 2 0 v J rfl (.inl ⟨k.symm, by omega⟩) (fun h => absurd h (by decide))
  · exact f σ2 3 0 v (jo_cls J F2 (yo_fr f2 ob_le)) rfl (.inr (.inl ⟨p0, z, rfl⟩)) (fun h => absurd h (by decide))
  · refine bc_ob_i rfl ?_
    exact f _ 0 _ v (jo_2 (jo_cls J F2 (yo_fr f2 ob_le))) rfl (.inr (.inr ⟨p0, ⟨z, rfl⟩, rfl⟩)) (fun _ => rfl)
theorem w_affordableLoadByTable {a b : Int} (J : jnt_ B σ v) (hB : B ≤ 999000) (ha : bc_in a) (hb : bc_in b) (f : ∀ (σ1 : bc_M) (t x : Int) (v1 : cs_t), jnt_ B σ1 v1 → c_r v1 = c_r v → ((t = pf_ a b ∧ t ≠ 0) ∨ (pf_ a b = 0 ∧ (tb_ (c_r v) ((c_r v) 1) a b = 0) ∧ t = 3) ∨ (pf_ a b = 0 ∧ (tb_ (c_r v) ((c_r v) 1) a b ≠ 0 ∧ x = tb_ (c_r v) ((c_r v) 1) a b) ∧ t = 0)) → (t = 0 → σ1.2.1 = (Int32.ofInt x).toInt64) → Rr (some (bc_I t)) σ1) : bc_Sem g (d + 20) mL_affordableLoadByTable [bc_R 0, bc_I a, bc_I b, bc_R 228] σ Rr (fun _ _ => False) := by
  have w3 := J.1.1.1.2.1.1
  refine e_L_affordableLoadByTable rfl (fun K hK => ?_)
  refine hK.1 [] 60 _ _ _ _ _ ?_
  refine t_X10_affordableLoadByTable J.1 (by omega) ha hb (fun e he => ?_) (fun p0 z σ2 F2 f2 => ?_) (fun p0 z σ2 F2 f2 => ?_)
  · have p := pf_le a b
    have e0 : (e = 0 ∧ pf_ a b = 1) ∨ (e = 1 ∧ pf_ a b = 2) := by omega
    rcases e0 with ⟨rfl, k⟩ | ⟨rfl, k⟩
    · exact f σ 1 0 v J rfl (.inl ⟨k.symm, by omega⟩) (fun h => absurd h (by decide))
    · exact f σ 2 0 v J rfl (.inl ⟨k.symm, by omega⟩) (fun h => absurd h (by decide))
  · exact f σ2 3 0 v (jo_cls J F2 (yo_fr f2 ob_le)) rfl (.inr (.inl ⟨p0, z, rfl⟩)) (fun h => absurd h (by decide))
  · refine bc_ob_i rfl ?_
    exact f _ 0 _ v (jo_2 (jo_cls J F2 (yo_fr f2 ob_le))) rfl (.inr (.inr ⟨p0, ⟨z, rfl⟩, rfl⟩)) (fun _ => rfl)
theorem w_wayLength {a b : Int} (J : jnt_ B σ v) (hB : B ≤ 999000) (ha : bc_in a) (hb : bc_in b) (f : ∀ (σ1 : bc_M) (t x : Int) (v1 : cs_t), jnt_ B σ1 v1 → c_r v1 = c_r v → ((yq_ (c_r v) a b ≠ 0 ∧ t = (if yq_ (c_r v) a b = 4 then 3 else yq_ (c_r v) a b)) ∨ (yq_ (c_r v) a b = 0 ∧ t = 0 ∧ x = c_len (yv_ v a b))) → (t = 0 → σ1.2.1 = (Int32.ofInt x).toInt64) → Rr (some (bc_I t)) σ1) : bc_Sem g (d + 20) mL_wayLength [bc_R 0, bc_I a, bc_I b, bc_R 228] σ Rr (fun _ _ => False) := by
  have w3 := J.1.1.1.2.1.1
  refine e_L_wayLength rfl (fun K hK => ?_)
  refine hK.1 [] 60 _ _ _ _ _ ?_
  have y : yq_ (c_r v) a b = 1 ∨ yq_ (c_r v) a b = 2 ∨ yq_ (c_r v) a b = 4 ∨ yq_ (c_r v) a b = 0 := by
    have p := pf_le a b
    unfold yq_
    split
    · omega
    · split <;> omega
  refine t_X10_wayLength J.1 ha hb (fun e he σ2 F2 f2 => ?_) (fun y0 σ2 F2 f2 => ?_)
  · obtain ⟨J2, r2⟩ := jnt_yv J F2 (yo_fr f2 ob_le)
    have e0 : (e = 0 ∧ yq_ (c_r v) a b = 1) ∨ (e = 1 ∧ yq_ (c_r v) a b = 2) ∨ (e = 3 ∧ yq_ (c_r v) a b = 4) := by omega
    rcases e0 with ⟨rfl, k⟩ | ⟨rfl, k⟩ | ⟨rfl, k⟩
    · exact f σ2 1 0 _ J2 r2 (.inl ⟨by omega, by rw [k]; rfl⟩) (fun h => absurd h (by decide))
    · exact f σ2 2 0 _ J2 r2 (.inl ⟨by omega, by rw [k]; rfl⟩) (fun h => absurd h (by decide))
    · exact f σ2 3 0 _ J2 r2 (.inl ⟨by omega, by rw [k]; rfl⟩) (fun h => absurd h (by decide))
  · obtain ⟨J2, r2⟩ := jnt_yv J F2 (yo_fr f2 ob_le)
    refine bc_ob_i rfl ?_
    exact f _ 0 _ _ (jo_2 J2) r2 (.inr ⟨y0, rfl, rfl⟩) (fun _ => rfl)
theorem w_wayJoint {a b i : Int} (J : jnt_ B σ v) (hB : B ≤ 999000) (ha : bc_in a) (hb : bc_in b) (hi : bc_in i) (f : ∀ (σ1 : bc_M) (t x : Int) (v1 : cs_t), jnt_ B σ1 v1 → c_r v1 = c_r v → ((yq_ (c_r v) a b ≠ 0 ∧ t = (if yq_ (c_r v) a b = 4 then 3 else yq_ (c_r v) a b)) ∨ (yq_ (c_r v) a b = 0 ∧ (i < 0 ∨ c_len (yv_ v a b) < i) ∧ t = 3) ∨ (yq_ (c_r v) a b = 0 ∧ (0 ≤ i ∧ i ≤ c_len (yv_ v a b)) ∧ t = 0 ∧ x = c_J (yv_ v a b) i)) → (t = 0 → σ1.2.1 = (Int32.ofInt x).toInt64) → Rr (some (bc_I t)) σ1) : bc_Sem g (d + 20) mL_wayJoint [bc_R 0, bc_I a, bc_I b, bc_I i, bc_R 228] σ Rr (fun _ _ => False) := by
  have w3 := J.1.1.1.2.1.1
  refine e_L_wayJoint rfl (fun K hK => ?_)
  refine hK.1 [] 60 _ _ _ _ _ ?_
  have y : yq_ (c_r v) a b = 1 ∨ yq_ (c_r v) a b = 2 ∨ yq_ (c_r v) a b = 4 ∨ yq_ (c_r v) a b = 0 := by
    have p := pf_le a b
    unfold yq_
    split
    · omega
    · split <;> omega
  refine t_X10_wayJoint J.1 ha hb hi (fun e he σ2 F2 f2 => ?_) (fun y0 z σ2 F2 f2 => ?_) (fun y0 i0 i1 σ2 F2 f2 => ?_)
  · obtain ⟨J2, r2⟩ := jnt_yv J F2 (yo_fr f2 ob_le)
    have e0 : (e = 0 ∧ yq_ (c_r v) a b = 1) ∨ (e = 1 ∧ yq_ (c_r v) a b = 2) ∨ (e = 3 ∧ yq_ (c_r v) a b = 4) := by omega
    rcases e0 with ⟨rfl, k⟩ | ⟨rfl, k⟩ | ⟨rfl, k⟩
    · exact f σ2 1 0 _ J2 r2 (.inl ⟨by omega, by rw [k]; rfl⟩) (fun h => absurd h (by decide))
    · exact f σ2 2 0 _ J2 r2 (.inl ⟨by omega, by rw [k]; rfl⟩) (fun h => absurd h (by decide))
    · exact f σ2 3 0 _ J2 r2 (.inl ⟨by omega, by rw [k]; rfl⟩) (fun h => absurd h (by decide))
  · obtain ⟨J2, r2⟩ := jnt_yv J F2 (yo_fr f2 ob_le)
    exact f σ2 3 0 _ J2 r2 (.inr (.inl ⟨y0, z, rfl⟩)) (fun h => absurd h (by decide))
  · obtain ⟨J2, r2⟩ := jnt_yv J F2 (yo_fr f2 ob_le)
    refine bc_ob_i rfl ?_
    exact f _ 0 _ _ (jo_2 J2) r2 (.inr (.inr ⟨y0, ⟨i0, i1⟩, rfl, rfl⟩)) (fun _ => rfl)
theorem w_memberByBearing {a : Int} (J : jnt_ B σ v) (hB : B ≤ 999000) (ha : bc_in a) (f : ∀ (σ1 : bc_M) (t x : Int) (v1 : cs_t), jnt_ B σ1 v1 → c_r v1 = c_r v → ((t = 1 ∧ ∀ k : Int, 0 ≤ k → k < (c_r v) 3 → rk_ (c_r v) k ≠ a) ∨ (t = 0 ∧ (0 ≤ x ∧ x < (c_r v) 3) ∧ rk_ (c_r v) x = a)) → (t = 0 → σ1.2.1 = (Int32.ofInt x).toInt64) → Rr (some (bc_I t)) σ1) : bc_Sem g (d + 20) mL_memberByBearing [bc_R 0, bc_I a, bc_R 228] σ Rr (fun _ _ => False) := by
  have w3 := J.1.1.1.2.1.1
  refine e_L_memberByBearing rfl (fun K hK => ?_)
  refine hK.1 [] 60 _ _ _ _ _ ?_
  refine t_X10_memberByBearing J.1 ha (fun z => ?_) (fun s s0 s1 z => ?_)
  · exact f σ 1 0 v J rfl (.inl ⟨rfl, z⟩) (fun h => absurd h (by decide))
  · refine bc_ob_i rfl ?_
    exact f _ 0 s v (jo_2 J) rfl (.inr ⟨rfl, ⟨s0, s1⟩, z⟩) (fun _ => rfl)
theorem w_vowAt {a : Int} (J : jnt_ B σ v) (hB : B ≤ 999000) (ha : bc_in a) (f : ∀ (σ1 : bc_M) (t x : Int) (v1 : cs_t), jnt_ B σ1 v1 → c_r v1 = c_r v → ((t = 1 ∧ ∀ k : Int, 0 ≤ k → k < (c_r v) 4 → vk_r (c_r v) k ≠ a) ∨ (t = 0 ∧ ∃ s : Int, (0 ≤ s ∧ s < (c_r v) 4) ∧ vk_r (c_r v) s = a ∧ x = (c_r v) (112 + 3 * s))) → (t = 0 → σ1.2.1 = (Int32.ofInt x).toInt64) → Rr (some (bc_I t)) σ1) : bc_Sem g (d + 20) mL_vowAt [bc_R 0, bc_I a, bc_R 228] σ Rr (fun _ _ => False) := by
  have w3 := J.1.1.1.2.1.1
  refine e_L_vowAt rfl (fun K hK => ?_)
  refine hK.1 [] 60 _ _ _ _ _ ?_
  refine t_X10_vowAt J.1 (by omega) ha (fun z => ?_) (fun s s0 s1 z => ?_)
  · exact f σ 1 0 v J rfl (.inl ⟨rfl, z⟩) (fun h => absurd h (by decide))
  · refine bc_ob_i rfl ?_
    exact f _ 0 _ v (jo_2 J) rfl (.inr ⟨rfl, s, ⟨s0, s1⟩, z, rfl⟩) (fun _ => rfl)
theorem w_dueDay {a : Int} (J : jnt_ B σ v) (hB : B ≤ 999000) (ha : bc_in a) (f : ∀ (σ1 : bc_M) (t x : Int) (v1 : cs_t), jnt_ B σ1 v1 → c_r v1 = c_r v → ((t = 1 ∧ ∀ k : Int, 0 ≤ k → k < (c_r v) 4 → (c_r v) (112 + 3 * k) ≠ a) ∨ (t = 0 ∧ ∃ s : Int, (0 ≤ s ∧ s < (c_r v) 4) ∧ (c_r v) (112 + 3 * s) = a ∧ x = (c_r v) (113 + 3 * s))) → (t = 0 → σ1.2.1 = (Int32.ofInt x).toInt64) → Rr (some (bc_I t)) σ1) : bc_Sem g (d + 20) mL_dueDay [bc_R 0, bc_I a, bc_R 228] σ Rr (fun _ _ => False) := by
  have w3 := J.1.1.1.2.1.1
  refine e_L_dueDay rfl (fun K hK => ?_)
  refine hK.1 [] 60 _ _ _ _ _ ?_
  refine t_X10_dueDay J.1 (by omega) ha (fun z => ?_) (fun s s0 s1 z => ?_)
  · exact f σ 1 0 v J rfl (.inl ⟨rfl, z⟩) (fun h => absurd h (by decide))
  · refine bc_ob_i rfl ?_
    exact f _ 0 _ v (jo_2 J) rfl (.inr ⟨rfl, s, ⟨s0, s1⟩, z, rfl⟩) (fun _ => rfl)
theorem w_amount {a : Int} (J : jnt_ B σ v) (hB : B ≤ 999000) (ha : bc_in a) (f : ∀ (σ1 : bc_M) (t x : Int) (v1 : cs_t), jnt_ B σ1 v1 → c_r v1 = c_r v → ((t = 1 ∧ ∀ k : Int, 0 ≤ k → k < (c_r v) 4 → (c_r v) (112 + 3 * k) ≠ a) ∨ (t = 0 ∧ ∃ s : Int, (0 ≤ s ∧ s < (c_r v) 4) ∧ (c_r v) (112 + 3 * s) = a ∧ x = (c_r v) (114 + 3 * s))) → (t = 0 → σ1.2.1 = (Int32.ofInt x).toInt64) → Rr (some (bc_I t)) σ1) : bc_Sem g (d + 20) mL_amount [bc_R 0, bc_I a, bc_R 228] σ Rr (fun _ _ => False) := by
  have w3 := J.1.1.1.2.1.1
  refine e_L_amount rfl (fun K hK => ?_)
  refine hK.1 [] 60 _ _ _ _ _ ?_
  refine t_X10_amount J.1 (by omega) ha (fun z => ?_) (fun s s0 s1 z => ?_)
  · exact f σ 1 0 v J rfl (.inl ⟨rfl, z⟩) (fun h => absurd h (by decide))
  · refine bc_ob_i rfl ?_
    exact f _ 0 _ v (jo_2 J) rfl (.inr ⟨rfl, s, ⟨s0, s1⟩, z, rfl⟩) (fun _ => rfl)
theorem w_greatestVow {a : Int} (J : jnt_ B σ v) (hB : B ≤ 999000) (ha : bc_in a) (f : ∀ (σ1 : bc_M) (t x : Int) (v1 : cs_t), jnt_ B σ1 v1 → c_r v1 = c_r v → ((t = 1 ∧ ¬ ((c_r v) 0 < a ∧ a ≤ (c_r v) 0 + 50)) ∨ (t = 2 ∧ ((c_r v) 0 < a ∧ a ≤ (c_r v) 0 + 50) ∧ ∃ b : Int, 1 ≤ b ∧ b ≤ 50 ∧ sp_ (c_r v) ((c_r v) 0 + b) < 0) ∨ (t = 0 ∧ ((c_r v) 0 < a ∧ a ≤ (c_r v) 0 + 50) ∧ (∀ b : Int, 1 ≤ b → b ≤ 50 → 0 ≤ sp_ (c_r v) ((c_r v) 0 + b)) ∧ x ≤ sp_ (c_r v) a ∧ (∀ k : Int, 0 ≤ k → k < (c_r v) 4 → a < (c_r v) (113 + 3 * k) → x ≤ sp_ (c_r v) ((c_r v) (113 + 3 * k))) ∧ (x = sp_ (c_r v) a ∨ ∃ k : Int, 0 ≤ k ∧ k < (c_r v) 4 ∧ a < (c_r v) (113 + 3 * k) ∧ x = sp_ (c_r v) ((c_r v) (113 + 3 * k))))) → (t = 0 → σ1.2.1 = (Int32.ofInt x).toInt64) → Rr (some (bc_I t)) σ1) : bc_Sem g (d + 20) mL_greatestVow [bc_R 0, bc_I a, bc_R 228] σ Rr (fun _ _ => False) := by
  have w3 := J.1.1.1.2.1.1
  refine e_L_greatestVow rfl (fun K hK => ?_)
  refine hK.1 [] 60 _ _ _ _ _ ?_
  refine t_X10_greatestVow J.1 (by omega) ha (fun c => ?_) (fun c z => ?_) (fun c z x x1 x2 x3 => ?_)
  · exact f σ 1 0 v J rfl (.inl ⟨rfl, c⟩) (fun h => absurd h (by decide))
  · exact f σ 2 0 v J rfl (.inr (.inl ⟨rfl, c, z⟩)) (fun h => absurd h (by decide))
  · refine bc_ob_i rfl ?_
    exact f _ 0 x v (jo_2 J) rfl (.inr (.inr ⟨rfl, c, z, x1, x2, x3⟩)) (fun _ => rfl)
theorem w_outputAt {i : Int} (J : jnt_ B σ v) (hB : B ≤ 999000) (hi : bc_in i) (f : ∀ (σ1 : bc_M) (t x : Int) (v1 : cs_t), jnt_ B σ1 v1 → c_r v1 = c_r v → ((t = 1 ∧ ¬ (0 ≤ i ∧ i < (c_o v).length) ∧ v1 = v) ∨ (t = 0 ∧ (0 ≤ i ∧ i < (c_o v).length) ∧ x = tg_ (c_o v) i ∧ v1 = v)) → (t = 0 → σ1.2.1 = (Int32.ofInt x).toInt64) → Rr (some (bc_I t)) σ1) : bc_Sem g (d + 20) mL_outputAt [bc_R 0, bc_I i, bc_R 228] σ Rr (fun _ _ => False) := by
  have w3 := J.1.1.1.2.1.1
  refine e_L_outputAt rfl (fun K hK => ?_)
  refine hK.1 [] 60 _ _ _ _ _ ?_
  refine t_X10_outputAt J.1 hi (fun z => ?_) (fun i0 i1 => ?_)
  · exact f σ 1 0 v J rfl (.inl ⟨rfl, z, rfl⟩) (fun h => absurd h (by decide))
  · refine bc_ob_i rfl ?_
    exact f _ 0 _ v (jo_2 J) rfl (.inr ⟨rfl, ⟨i0, i1⟩, rfl, rfl⟩) (fun _ => rfl)
theorem w_errorPosition (J : jnt_ B σ v) (hB : B ≤ 999000) (f : ∀ (σ1 : bc_M) (t x : Int) (v1 : cs_t), jnt_ B σ1 v1 → c_r v1 = c_r v → ((t = 1 ∧ c_le v = -1 ∧ v1 = v) ∨ (t = 0 ∧ c_le v ≠ -1 ∧ x = c_le v ∧ v1 = v)) → (t = 0 → σ1.2.1 = (Int32.ofInt x).toInt64) → Rr (some (bc_I t)) σ1) : bc_Sem g (d + 20) mL_errorPosition [bc_R 0, bc_R 228] σ Rr (fun _ _ => False) := by
  have w3 := J.1.1.1.2.1.1
  refine e_L_errorPosition rfl (fun K hK => ?_)
  refine hK.1 [] 60 _ _ _ _ _ ?_
  refine t_X10_errorPosition J.1 (fun z => ?_) (fun z => ?_)
  · exact f σ 1 0 v J rfl (.inl ⟨rfl, z, rfl⟩) (fun h => absurd h (by decide))
  · refine bc_ob_i rfl ?_
    exact f _ 0 _ v (jo_2 J) rfl (.inr ⟨rfl, z, rfl, rfl⟩) (fun _ => rfl)
theorem w_failedCommand (J : jnt_ B σ v) (hB : B ≤ 999000) (f : ∀ (σ1 : bc_M) (t x : Int) (v1 : cs_t), jnt_ B σ1 v1 → c_r v1 = c_r v → ((t = 1 ∧ c_lf v = -1 ∧ v1 = v) ∨ (t = 0 ∧ c_lf v ≠ -1 ∧ x = c_lf v ∧ v1 = v)) → (t = 0 → σ1.2.1 = (Int32.ofInt x).toInt64) → Rr (some (bc_I t)) σ1) : bc_Sem g (d + 20) mL_failedCommand [bc_R 0, bc_R 228] σ Rr (fun _ _ => False) := by
  have w3 := J.1.1.1.2.1.1
  refine e_L_failedCommand rfl (fun K hK => ?_)
  refine hK.1 [] 60 _ _ _ _ _ ?_
  refine t_X10_failedCommand J.1 (fun z => ?_) (fun z => ?_)
  · exact f σ 1 0 v J rfl (.inl ⟨rfl, z, rfl⟩) (fun h => absurd h (by decide))
  · refine bc_ob_i rfl ?_
    exact f _ 0 _ v (jo_2 J) rfl (.inr ⟨rfl, z, rfl, rfl⟩) (fun _ => rfl)
theorem w_addMember {a b s : Int} (J : jnt_ B σ v) (hB : B ≤ 999000) (ha : bc_in a) (hb : bc_in b) (hs : bc_in s) (f : ∀ (σ1 : bc_M) (t x : Int) (v1 : cs_t), fa_ (B + 480) σ1 v1 → yo_ σ σ1 → (0 ≤ t ∧ t ≤ 4) → ((t ≠ 0 ∧ v1 = v ∧ mq_ (c_r v) a b s t) ∨ (t = 0 ∧ v1 = u_r (rm_ v) (ra_ (c_r v) a b s) ∧ mq_ (c_r v) a b s 0 ∧ x = (c_r v) 3)) → (t = 0 → σ1.2.1 = (Int32.ofInt x).toInt64) → Rr (some (bc_I t)) σ1) : bc_Sem g (d + 20) mL_addMember [bc_R 0, bc_I a, bc_I b, bc_I s, bc_R 228] σ Rr (fun _ _ => False) := by
  have w3 := J.1.1.1.2.1.1
  refine e_L_addMember rfl (fun K hK => ?_)
  refine hK.1 [] 60 _ _ _ _ _ ?_
  refine t_X10_addMember J.1 ha hb hs (fun e he => ?_) (fun he σ2 F2 f2 => ?_)
  · have e0 : e = 0 ∨ e = 1 ∨ e = 2 := by
      have p := pf_le a b
      rcases he with ⟨_, h⟩ | ⟨_, _, h⟩ | ⟨_, _, _, h⟩ | ⟨_, _, _, _, h⟩ <;> omega
    rcases e0 with rfl | rfl | rfl
    · exact f σ 1 0 v (fa_mono J.1 (by omega)) (yo_rf σ) (by decide) (.inl ⟨by decide, rfl, he⟩) (fun h => absurd h (by decide))
    · exact f σ 2 0 v (fa_mono J.1 (by omega)) (yo_rf σ) (by decide) (.inl ⟨by decide, rfl, he⟩) (fun h => absurd h (by decide))
    · exact f σ 3 0 v (fa_mono J.1 (by omega)) (yo_rf σ) (by decide) (.inl ⟨by decide, rfl, he⟩) (fun h => absurd h (by decide))
  · refine bc_ob_i rfl ?_
    exact f _ 0 _ (u_r (rm_ v) (ra_ (c_r v) a b s)) (fa_2 (fa_mono F2 (by omega))) (yo_fr (σ' := σ2) f2 ob_le) (by decide) (.inr ⟨rfl, rfl, he, rfl⟩) (fun _ => rfl)
theorem w_makeVow {a u : Int} (J : jnt_ B σ v) (hB : B ≤ 999000) (ha : bc_in a) (hu : bc_in u) (f : ∀ (σ1 : bc_M) (t x : Int) (v1 : cs_t), fa_ (B + 480) σ1 v1 → yo_ σ σ1 → (0 ≤ t ∧ t ≤ 4) → ((t ≠ 0 ∧ v1 = v ∧ vq_ (c_r v) a u ≠ 0 ∧ t = (if vq_ (c_r v) a u = 2 then 1 else 2)) ∨ (t = 0 ∧ v1 = u_r (rm_ v) (rv_ (c_r v) a u) ∧ vq_ (c_r v) a u = 0 ∧ x = (c_r v) 5)) → (t = 0 → σ1.2.1 = (Int32.ofInt x).toInt64) → Rr (some (bc_I t)) σ1) : bc_Sem g (d + 20) mL_makeVow [bc_R 0, bc_I a, bc_I u, bc_R 228] σ Rr (fun _ _ => False) := by
  have w3 := J.1.1.1.2.1.1
  refine e_L_makeVow rfl (fun K hK => ?_)
  refine hK.1 [] 60 _ _ _ _ _ ?_
  refine t_X10_makeVow J.1 (by omega) ha hu (fun e he => ?_) (fun he σ2 F2 f2 => ?_)
  · have e0 : (e = 1 ∧ vq_ (c_r v) a u = 2) ∨ (e = 2 ∧ vq_ (c_r v) a u = 3) := by
      have u := he
      unfold vq_ at u ⊢
      (repeat' split at u) <;> (repeat' split) <;> omega
    rcases e0 with ⟨rfl, k⟩ | ⟨rfl, k⟩
    · exact f σ 1 0 v (fa_mono J.1 (by omega)) (yo_rf σ) (by decide) (.inl ⟨by decide, rfl, by omega, by rw [k]; rfl⟩) (fun h => absurd h (by decide))
    · exact f σ 2 0 v (fa_mono J.1 (by omega)) (yo_rf σ) (by decide) (.inl ⟨by decide, rfl, by omega, by rw [k]; rfl⟩) (fun h => absurd h (by decide))
  · refine bc_ob_i rfl ?_
    exact f _ 0 _ (u_r (rm_ v) (rv_ (c_r v) a u)) (fa_2 (fa_mono F2 (by omega))) (yo_fr (σ' := σ2) f2 ob_le) (by decide) (.inr ⟨rfl, rfl, he, rfl⟩) (fun _ => rfl)
theorem w_setForge {n : Int} (J : jnt_ B σ v) (hB : B ≤ 999000) (hn : bc_in n) (f : ∀ (σ1 : bc_M) (t x : Int) (v1 : cs_t), fa_ (B + 480) σ1 v1 → yo_ σ σ1 → (0 ≤ t ∧ t ≤ 4) → ((t ≠ 0 ∧ v1 = v ∧ fq1_ n ≠ 0 ∧ t = 1) ∨ (t = 0 ∧ v1 = u_r (rm_ v) (up_ (c_r v) 2 n) ∧ fq1_ n = 0 ∧ x = (c_r v) 2)) → (t = 0 → σ1.2.1 = (Int32.ofInt x).toInt64) → Rr (some (bc_I t)) σ1) : bc_Sem g (d + 20) mL_setForge [bc_R 0, bc_I n, bc_R 228] σ Rr (fun _ _ => False) := by
  have w3 := J.1.1.1.2.1.1
  refine e_L_setForge rfl (fun K hK => ?_)
  refine hK.1 [] 60 _ _ _ _ _ ?_
  refine t_X10_setForge J.1 hn (fun e he => ?_) (fun he σ2 F2 f2 => ?_)
  · have e0 : (e = 1 ∧ fq1_ n = 2) := by
      have u := he
      unfold fq1_ at u ⊢
      (repeat' split at u) <;> (repeat' split) <;> omega
    obtain ⟨rfl, k⟩ := e0
    exact f σ 1 0 v (fa_mono J.1 (by omega)) (yo_rf σ) (by decide) (.inl ⟨by decide, rfl, by omega, rfl⟩) (fun h => absurd h (by decide))
  · refine bc_ob_i rfl ?_
    exact f _ 0 _ (u_r (rm_ v) (up_ (c_r v) 2 n)) (fa_2 (fa_mono F2 (by omega))) (yo_fr (σ' := σ2) f2 ob_le) (by decide) (.inr ⟨rfl, rfl, he, rfl⟩) (fun _ => rfl)
theorem w_repair {m : Int} (J : jnt_ B σ v) (hB : B ≤ 999000) (hm : bc_in m) (f : ∀ (σ1 : bc_M) (t x : Int) (v1 : cs_t), fa_ (B + 480) σ1 v1 → yo_ σ σ1 → (0 ≤ t ∧ t ≤ 4) → ((t ≠ 0 ∧ v1 = v ∧ eq_ (c_r v) m ≠ 0 ∧ t = (if eq_ (c_r v) m = 1 then 1 else if eq_ (c_r v) m = 3 then 2 else 3)) ∨ (t = 0 ∧ v1 = u_r (rm_ v) (rn_ (rs_ (c_r v) (co_ (c_r v) m)) m) ∧ eq_ (c_r v) m = 0 ∧ x = co_ (c_r v) m)) → (t = 0 → σ1.2.1 = (Int32.ofInt x).toInt64) → Rr (some (bc_I t)) σ1) : bc_Sem g (d + 20) mL_repair [bc_R 0, bc_I m, bc_R 228] σ Rr (fun _ _ => False) := by
  have w3 := J.1.1.1.2.1.1
  refine e_L_repair rfl (fun K hK => ?_)
  refine hK.1 [] 60 _ _ _ _ _ ?_
  refine t_X10_repair J.1 (by omega) hm (fun e he => ?_) (fun he σ2 F2 f2 => ?_)
  · have e0 : (e = 0 ∧ eq_ (c_r v) m = 1) ∨ (e = 2 ∧ eq_ (c_r v) m = 3) ∨ (e = 4 ∧ eq_ (c_r v) m = 5) := by
      have u := he
      unfold eq_ at u ⊢
      (repeat' split at u) <;> (repeat' split) <;> omega
    rcases e0 with ⟨rfl, k⟩ | ⟨rfl, k⟩ | ⟨rfl, k⟩
    · exact f σ 1 0 v (fa_mono J.1 (by omega)) (yo_rf σ) (by decide) (.inl ⟨by decide, rfl, by omega, by rw [k]; rfl⟩) (fun h => absurd h (by decide))
    · exact f σ 2 0 v (fa_mono J.1 (by omega)) (yo_rf σ) (by decide) (.inl ⟨by decide, rfl, by omega, by rw [k]; rfl⟩) (fun h => absurd h (by decide))
    · exact f σ 3 0 v (fa_mono J.1 (by omega)) (yo_rf σ) (by decide) (.inl ⟨by decide, rfl, by omega, by rw [k]; rfl⟩) (fun h => absurd h (by decide))
  · refine bc_ob_i rfl ?_
    exact f _ 0 _ (u_r (rm_ v) (rn_ (rs_ (c_r v) (co_ (c_r v) m)) m)) (fa_2 (fa_mono F2 (by omega))) (yo_fr (σ' := σ2) f2 ob_le) (by decide) (.inr ⟨rfl, rfl, he, rfl⟩) (fun _ => rfl)
theorem w_abandon {m : Int} (J : jnt_ B σ v) (hB : B ≤ 999000) (hm : bc_in m) (f : ∀ (σ1 : bc_M) (t x : Int) (v1 : cs_t), fa_ (B + 480) σ1 v1 → yo_ σ σ1 → (0 ≤ t ∧ t ≤ 4) → ((t ≠ 0 ∧ v1 = v ∧ lq_ (c_r v) m 0 ≠ 0 ∧ t = (if lq_ (c_r v) m 0 = 1 then 1 else 2)) ∨ (t = 0 ∧ v1 = u_r (rm_ v) (rl_ (c_r v) m 1) ∧ lq_ (c_r v) m 0 = 0 ∧ x = ab_ (rl_ (c_r v) m 1))) → (t = 0 → σ1.2.1 = (Int32.ofInt x).toInt64) → Rr (some (bc_I t)) σ1) : bc_Sem g (d + 20) mL_abandon [bc_R 0, bc_I m, bc_R 228] σ Rr (fun _ _ => False) := by
  have w3 := J.1.1.1.2.1.1
  refine e_L_abandon rfl (fun K hK => ?_)
  refine hK.1 [] 60 _ _ _ _ _ ?_
  refine t_X10_abandon J.1 hm (fun e he => ?_) (fun he σ2 F2 f2 => ?_)
  · have e0 : (e = 0 ∧ lq_ (c_r v) m 0 = 1) ∨ (e = 2 ∧ lq_ (c_r v) m 0 = 3) := by
      have u := he
      unfold lq_ at u ⊢
      (repeat' split at u) <;> (repeat' split) <;> omega
    rcases e0 with ⟨rfl, k⟩ | ⟨rfl, k⟩
    · exact f σ 1 0 v (fa_mono J.1 (by omega)) (yo_rf σ) (by decide) (.inl ⟨by decide, rfl, by omega, by rw [k]; rfl⟩) (fun h => absurd h (by decide))
    · exact f σ 2 0 v (fa_mono J.1 (by omega)) (yo_rf σ) (by decide) (.inl ⟨by decide, rfl, by omega, by rw [k]; rfl⟩) (fun h => absurd h (by decide))
  · refine bc_ob_i rfl ?_
    exact f _ 0 _ (u_r (rm_ v) (rl_ (c_r v) m 1)) (fa_2 (fa_mono F2 (by omega))) (yo_fr (σ' := σ2) f2 ob_le) (by decide) (.inr ⟨rfl, rfl, he, rfl⟩) (fun _ => rfl)
theorem w_resume {m : Int} (J : jnt_ B σ v) (hB : B ≤ 999000) (hm : bc_in m) (f : ∀ (σ1 : bc_M) (t x : Int) (v1 : cs_t), fa_ (B + 480) σ1 v1 → yo_ σ σ1 → (0 ≤ t ∧ t ≤ 4) → ((t ≠ 0 ∧ v1 = v ∧ lq_ (c_r v) m 1 ≠ 0 ∧ t = (if lq_ (c_r v) m 1 = 1 then 1 else 2)) ∨ (t = 0 ∧ v1 = u_r (rm_ v) (rl_ (c_r v) m 0) ∧ lq_ (c_r v) m 1 = 0 ∧ x = ab_ (rl_ (c_r v) m 0))) → (t = 0 → σ1.2.1 = (Int32.ofInt x).toInt64) → Rr (some (bc_I t)) σ1) : bc_Sem g (d + 20) mL_resume [bc_R 0, bc_I m, bc_R 228] σ Rr (fun _ _ => False) := by
  have w3 := J.1.1.1.2.1.1
  refine e_L_resume rfl (fun K hK => ?_)
  refine hK.1 [] 60 _ _ _ _ _ ?_
  refine t_X10_resume J.1 hm (fun e he => ?_) (fun he σ2 F2 f2 => ?_)
  · have e0 : (e = 0 ∧ lq_ (c_r v) m 1 = 1) ∨ (e = 2 ∧ lq_ (c_r v) m 1 = 3) := by
      have u := he
      unfold lq_ at u ⊢
      (repeat' split at u) <;> (repeat' split) <;> omega
    rcases e0 with ⟨rfl, k⟩ | ⟨rfl, k⟩
    · exact f σ 1 0 v (fa_mono J.1 (by omega)) (yo_rf σ) (by decide) (.inl ⟨by decide, rfl, by omega, by rw [k]; rfl⟩) (fun h => absurd h (by decide))
    · exact f σ 2 0 v (fa_mono J.1 (by omega)) (yo_rf σ) (by decide) (.inl ⟨by decide, rfl, by omega, by rw [k]; rfl⟩) (fun h => absurd h (by decide))
  · refine bc_ob_i rfl ?_
    exact f _ 0 _ (u_r (rm_ v) (rl_ (c_r v) m 0)) (fa_2 (fa_mono F2 (by omega))) (yo_fr (σ' := σ2) f2 ob_le) (by decide) (.inr ⟨rfl, rfl, he, rfl⟩) (fun _ => rfl)
theorem w_setNiche {c : Int} (J : jnt_ B σ v) (hB : B ≤ 999000) (hc : 0 ≤ c ∧ c ≤ 65535) (f : ∀ (σ1 : bc_M) (t x : Int) (v1 : cs_t), fa_ (B + 480) σ1 v1 → yo_ σ σ1 → (0 ≤ t ∧ t ≤ 4) → ((t ≠ 0 ∧ v1 = v ∧ nq1_ c ≠ 0 ∧ t = 1) ∨ (t = 0 ∧ v1 = u_r (rm_ v) (re_ (c_r v) c) ∧ nq1_ c = 0 ∧ x = tw_ (c_r v))) → (t = 0 → σ1.2.1 = (Int32.ofInt x).toInt64) → Rr (some (bc_I t)) σ1) : bc_Sem g (d + 20) mL_setNiche [bc_R 0, bc_I c, bc_R 228] σ Rr (fun _ _ => False) := by
  have w3 := J.1.1.1.2.1.1
  refine e_L_setNiche rfl (fun K hK => ?_)
  refine hK.1 [] 60 _ _ _ _ _ ?_
  refine t_X10_setNiche J.1 hc (fun e he => ?_) (fun he σ2 F2 f2 => ?_)
  · have e0 : (e = 1 ∧ nq1_ c = 2) := by
      have u := he
      unfold nq1_ at u ⊢
      (repeat' split at u) <;> (repeat' split) <;> omega
    obtain ⟨rfl, k⟩ := e0
    exact f σ 1 0 v (fa_mono J.1 (by omega)) (yo_rf σ) (by decide) (.inl ⟨by decide, rfl, by omega, rfl⟩) (fun h => absurd h (by decide))
  · refine bc_ob_i rfl ?_
    exact f _ 0 _ (u_r (rm_ v) (re_ (c_r v) c)) (fa_2 (fa_mono F2 (by omega))) (yo_fr (σ' := σ2) f2 ob_le) (by decide) (.inr ⟨rfl, rfl, he, rfl⟩) (fun _ => rfl)
theorem w_put {p c w : Int} (J : jnt_ B σ v) (hB : B ≤ 999000) (hp : bc_in p) (hc : 0 ≤ c ∧ c ≤ 65535) (hw : bc_in w) (f : ∀ (σ1 : bc_M) (t x : Int) (v1 : cs_t), fa_ (B + 480) σ1 v1 → yo_ σ σ1 → (0 ≤ t ∧ t ≤ 4) → ((t ≠ 0 ∧ v1 = v ∧ pq_ (c_r v) p c w ≠ 0 ∧ t = (if pq_ (c_r v) p c w = 5 then 3 else if pq_ (c_r v) p c w = 3 then 4 else pq_ (c_r v) p c w)) ∨ (t = 0 ∧ v1 = u_r (rm_ v) (rp_ (c_r v) p w) ∧ pq_ (c_r v) p c w = 0 ∧ x = tw_ (rp_ (c_r v) p w))) → (t = 0 → σ1.2.1 = (Int32.ofInt x).toInt64) → Rr (some (bc_I t)) σ1) : bc_Sem g (d + 20) mL_put [bc_R 0, bc_I p, bc_I c, bc_I w, bc_R 228] σ Rr (fun _ _ => False) := by
  have w3 := J.1.1.1.2.1.1
  refine e_L_put rfl (fun K hK => ?_)
  refine hK.1 [] 60 _ _ _ _ _ ?_
  refine t_X10_put J.1 hp hc hw (fun e he => ?_) (fun he σ2 F2 f2 => ?_)
  · have e0 : (e = 0 ∧ pq_ (c_r v) p c w = 1) ∨ (e = 1 ∧ pq_ (c_r v) p c w = 2) ∨ (e = 4 ∧ pq_ (c_r v) p c w = 5) ∨ (e = 2 ∧ pq_ (c_r v) p c w = 3) := by
      have u := he
      unfold pq_ at u ⊢
      (repeat' split at u) <;> (repeat' split) <;> omega
    rcases e0 with ⟨rfl, k⟩ | ⟨rfl, k⟩ | ⟨rfl, k⟩ | ⟨rfl, k⟩
    · exact f σ 1 0 v (fa_mono J.1 (by omega)) (yo_rf σ) (by decide) (.inl ⟨by decide, rfl, by omega, by rw [k]; rfl⟩) (fun h => absurd h (by decide))
    · exact f σ 2 0 v (fa_mono J.1 (by omega)) (yo_rf σ) (by decide) (.inl ⟨by decide, rfl, by omega, by rw [k]; rfl⟩) (fun h => absurd h (by decide))
    · exact f σ 3 0 v (fa_mono J.1 (by omega)) (yo_rf σ) (by decide) (.inl ⟨by decide, rfl, by omega, by rw [k]; rfl⟩) (fun h => absurd h (by decide))
    · exact f σ 4 0 v (fa_mono J.1 (by omega)) (yo_rf σ) (by decide) (.inl ⟨by decide, rfl, by omega, by rw [k]; rfl⟩) (fun h => absurd h (by decide))
  · refine bc_ob_i rfl ?_
    exact f _ 0 _ (u_r (rm_ v) (rp_ (c_r v) p w)) (fa_2 (fa_mono F2 (by omega))) (yo_fr (σ' := σ2) f2 ob_le) (by decide) (.inr ⟨rfl, rfl, he, rfl⟩) (fun _ => rfl)
theorem w_passDays {n : Int} (J : jnt_ B σ v) (hB : B ≤ 999000) (hn : bc_in n) (f : ∀ (σ1 : bc_M) (t x : Int) (v1 : cs_t), fa_ (B + 480) σ1 v1 → yo_ σ σ1 → (0 ≤ t ∧ t ≤ 4) → ((t ≠ 0 ∧ v1 = v ∧ dq_ n ≠ 0 ∧ t = 1) ∨ (t = 0 ∧ v1 = u_r (rm_ v) (ps_ (c_r v) n.toNat) ∧ dq_ n = 0 ∧ x = ps_ (c_r v) n.toNat 6 - (c_r v) 6)) → (t = 0 → σ1.2.1 = (Int32.ofInt x).toInt64) → Rr (some (bc_I t)) σ1) : bc_Sem g (d + 20) mL_passDays [bc_R 0, bc_I n, bc_R 228] σ Rr (fun _ _ => False) := by
  have w3 := J.1.1.1.2.1.1
  refine e_L_passDays rfl (fun K hK => ?_)
  refine hK.1 [] 60 _ _ _ _ _ ?_
  refine t_X10_passDays J.1 (by omega) hn (fun e he => ?_) (fun he σ2 F2 f2 => ?_)
  · have e0 : (e = 1 ∧ dq_ n = 2) := by
      have u := he
      unfold dq_ at u ⊢
      (repeat' split at u) <;> (repeat' split) <;> omega
    obtain ⟨rfl, k⟩ := e0
    exact f σ 1 0 v (fa_mono J.1 (by omega)) (yo_rf σ) (by decide) (.inl ⟨by decide, rfl, by omega, rfl⟩) (fun h => absurd h (by decide))
  · refine bc_ob_i rfl ?_
    exact f _ 0 _ (u_r (rm_ v) (ps_ (c_r v) n.toNat)) (fa_2 (fa_mono F2 (by omega))) (yo_fr (σ' := σ2) f2 ob_le) (by decide) (.inr ⟨rfl, rfl, he, rfl⟩) (fun _ => rfl)
theorem w_procession {a b n : Int} (J : jnt_ B σ v) (hB : B ≤ 999000) (ha : bc_in a) (hb : bc_in b) (hn : bc_in n) (f : ∀ (σ1 : bc_M) (t x : Int) (v1 : cs_t), fa_ (B + 480) σ1 v1 → yo_ σ σ1 → (0 ≤ t ∧ t ≤ 4) → ((t ≠ 0 ∧ v1 = v ∧ t = wkt_ (c_r v) a b n) ∨ (t = 0 ∧ wkt_ (c_r v) a b n = 0 ∧ ∃ r1 : rw_t, wz_ v a b n r1 ∧ v1 = wv1_ (rm_ v) a b r1 ∧ x = (fz_ (sa_ (c_r v)) a b (c_J v)).2)) → (t = 0 → σ1.2.1 = (Int32.ofInt x).toInt64) → Rr (some (bc_I t)) σ1) : bc_Sem g (d + 20) mL_procession [bc_R 0, bc_I a, bc_I b, bc_I n, bc_R 228] σ Rr (fun _ _ => False) := by
  have w3 := J.1.1.1.2.1.1
  refine e_L_procession rfl (fun K hK => ?_)
  refine hK.1 [] 60 _ _ _ _ _ ?_
  have hw := wq_wkt J.1.1.1.2.1 J.2.1.1 a b n
  have lw := wkt_le (c_r v) a b n
  refine t_X10_procession J.1 ha hb hn (fun e he σ2 F2 f2 => ?_) (fun he σ2 r1 hz F2 f2 => ?_)
  · have e0 : (e = 0 ∧ wkt_ (c_r v) a b n = 1) ∨ (e = 1 ∧ wkt_ (c_r v) a b n = 2) ∨ (e = 3 ∧ wkt_ (c_r v) a b n = 3) ∨ (e = 4 ∧ wkt_ (c_r v) a b n = 4) := by
      rw [hw] at he
      split at he
      · omega
      · split at he <;> omega
    rcases e0 with ⟨rfl, k⟩ | ⟨rfl, k⟩ | ⟨rfl, k⟩ | ⟨rfl, k⟩
    · exact f σ2 1 0 v (fa_mono F2 (by omega)) (yo_fr f2 ob_le) (by decide) (.inl ⟨by decide, rfl, k.symm⟩) (fun h => absurd h (by decide))
    · exact f σ2 2 0 v (fa_mono F2 (by omega)) (yo_fr f2 ob_le) (by decide) (.inl ⟨by decide, rfl, k.symm⟩) (fun h => absurd h (by decide))
    · exact f σ2 3 0 v (fa_mono F2 (by omega)) (yo_fr f2 ob_le) (by decide) (.inl ⟨by decide, rfl, k.symm⟩) (fun h => absurd h (by decide))
    · exact f σ2 4 0 v (fa_mono F2 (by omega)) (yo_fr f2 ob_le) (by decide) (.inl ⟨by decide, rfl, k.symm⟩) (fun h => absurd h (by decide))
  · have k : wkt_ (c_r v) a b n = 0 := wq_0t J.1.1.1.2.1 J.2.1.1 he.symm
    refine bc_ob_i rfl ?_
    exact f _ 0 _ _ (fa_2 (fa_mono F2 (by omega))) (yo_fr (σ' := σ2) f2 ob_le) (by decide) (.inr ⟨rfl, k, r1, hz, rfl, rfl⟩) (fun _ => rfl)
theorem w_renderMember {m : Int} (J : jnt_ B σ v) (hB : B ≤ 999000) (hm : bc_in m) (f : ∀ (σ1 : bc_M) (t x : Int) (v1 : cs_t), fa_ (B + 480) σ1 v1 → yo_ σ σ1 → (0 ≤ t ∧ t ≤ 4) → ((t = 1 ∧ ¬ (0 ≤ m ∧ m < (c_r v) 3) ∧ v1 = v) ∨ (t = 0 ∧ (0 ≤ m ∧ m < (c_r v) 3) ∧ x = (om_ (c_r v) m).length ∧ v1 = u_o v (om_ (c_r v) m))) → (t = 0 → σ1.2.1 = (Int32.ofInt x).toInt64) → Rr (some (bc_I t)) σ1) : bc_Sem g (d + 20) mL_renderMember [bc_R 0, bc_I m, bc_R 228] σ Rr (fun _ _ => False) := by
  have w3 := J.1.1.1.2.1.1
  refine e_L_renderMember rfl (fun K hK => ?_)
  refine hK.1 [] 60 _ _ _ _ _ ?_
  refine t_X10_renderMember J.1 hm (fun hi => ?_) (fun m0 m1 σ2 F2 f2 => ?_)
  · have ne : ¬ (0 ≤ m ∧ m < (c_r v) 3) := by
      unfold ix_ at hi
      split at hi <;> omega
    exact f σ 1 0 v (fa_mono J.1 (by omega)) (yo_rf σ) (by decide) (.inl ⟨rfl, ne, rfl⟩) (fun h => absurd h (by decide))
  · refine bc_ob_i rfl ?_
    exact f _ 0 _ _ (fa_2 (fa_mono F2 (by omega))) (yo_fr (σ' := σ2) f2 ob_le) (by decide) (.inr ⟨rfl, ⟨m0, m1⟩, rfl, rfl⟩) (fun _ => rfl)
theorem w_renderWay {a b : Int} (J : jnt_ B σ v) (hB : B ≤ 999000) (ha : bc_in a) (hb : bc_in b) (f : ∀ (σ1 : bc_M) (t x : Int) (v1 : cs_t), fa_ (B + 480) σ1 v1 → yo_ σ σ1 → (0 ≤ t ∧ t ≤ 4) → ((yq_ (c_r v) a b ≠ 0 ∧ t = (if yq_ (c_r v) a b = 4 then 3 else yq_ (c_r v) a b) ∧ v1 = yv_ v a b) ∨ (yq_ (c_r v) a b = 0 ∧ t = 0 ∧ x = (ow_ (c_J (yv_ v a b)) ((c_len (yv_ v a b)).toNat + 1)).length ∧ v1 = u_o (yv_ v a b) (ow_ (c_J (yv_ v a b)) ((c_len (yv_ v a b)).toNat + 1)))) → (t = 0 → σ1.2.1 = (Int32.ofInt x).toInt64) → Rr (some (bc_I t)) σ1) : bc_Sem g (d + 20) mL_renderWay [bc_R 0, bc_I a, bc_I b, bc_R 228] σ Rr (fun _ _ => False) := by
  have w3 := J.1.1.1.2.1.1
  refine e_L_renderWay rfl (fun K hK => ?_)
  refine hK.1 [] 60 _ _ _ _ _ ?_
  have y : yq_ (c_r v) a b = 1 ∨ yq_ (c_r v) a b = 2 ∨ yq_ (c_r v) a b = 4 ∨ yq_ (c_r v) a b = 0 := by
    have p := pf_le a b
    unfold yq_
    split
    · omega
    · split <;> omega
  refine t_X10_renderWay J.1 ha hb (fun e he σ2 F2 f2 => ?_) (fun y0 σ2 F2 f2 => ?_)
  · have e0 : (e = 0 ∧ yq_ (c_r v) a b = 1) ∨ (e = 1 ∧ yq_ (c_r v) a b = 2) ∨ (e = 3 ∧ yq_ (c_r v) a b = 4) := by omega
    rcases e0 with ⟨rfl, k⟩ | ⟨rfl, k⟩ | ⟨rfl, k⟩
    · exact f σ2 1 0 _ (fa_mono F2 (by omega)) (yo_fr f2 ob_le) (by decide) (.inl ⟨by omega, by rw [k]; rfl, rfl⟩) (fun h => absurd h (by decide))
    · exact f σ2 2 0 _ (fa_mono F2 (by omega)) (yo_fr f2 ob_le) (by decide) (.inl ⟨by omega, by rw [k]; rfl, rfl⟩) (fun h => absurd h (by decide))
    · exact f σ2 3 0 _ (fa_mono F2 (by omega)) (yo_fr f2 ob_le) (by decide) (.inl ⟨by omega, by rw [k]; rfl, rfl⟩) (fun h => absurd h (by decide))
  · refine bc_ob_i rfl ?_
    exact f _ 0 _ _ (fa_2 (fa_mono F2 (by omega))) (yo_fr (σ' := σ2) f2 ob_le) (by decide) (.inr ⟨y0, rfl, rfl, rfl⟩) (fun _ => rfl)
theorem w_type {c : Int} (J : jnt_ B σ v) (hB : B ≤ 999000) (hc : 0 ≤ c ∧ c ≤ 65535) (f : ∀ (σ1 : bc_M) (t x : Int) (v1 : cs_t), fa_ (B + 480) σ1 v1 → yo_ σ σ1 → (0 ≤ t ∧ t ≤ 4) → ((t = 1 ∧ ¬ (32 ≤ c ∧ c ≤ 126) ∧ v1 = v) ∨ (t = 2 ∧ (32 ≤ c ∧ c ≤ 126) ∧ 60 ≤ (c_l v).length ∧ v1 = v) ∨ (t = 0 ∧ (32 ≤ c ∧ c ≤ 126) ∧ (c_l v).length < 60 ∧ x = (c_l v).length + 1 ∧ v1 = u_l v (c_l v ++ [c]))) → (t = 0 → σ1.2.1 = (Int32.ofInt x).toInt64) → Rr (some (bc_I t)) σ1) : bc_Sem g (d + 20) mL_type [bc_R 0, bc_I c, bc_R 228] σ Rr (fun _ _ => False) := by
  have w3 := J.1.1.1.2.1.1
  refine e_L_type rfl (fun K hK => ?_)
  refine hK.1 [] 60 _ _ _ _ _ ?_
  refine t_X10_type J.1 hc (fun z => ?_) (fun c0 c1 z => ?_) (fun c0 c1 z σ2 F2 f2 => ?_)
  · exact f σ 1 0 v (fa_mono J.1 (by omega)) (yo_rf σ) (by decide) (.inl ⟨rfl, by omega, rfl⟩) (fun h => absurd h (by decide))
  · exact f σ 2 0 v (fa_mono J.1 (by omega)) (yo_rf σ) (by decide) (.inr (.inl ⟨rfl, ⟨c0, c1⟩, z, rfl⟩)) (fun h => absurd h (by decide))
  · refine bc_ob_i rfl ?_
    exact f _ 0 _ _ (fa_2 (fa_mono F2 (by omega))) (yo_fr (σ' := σ2) f2 ov_le) (by decide) (.inr (.inr ⟨rfl, ⟨c0, c1⟩, z, rfl, rfl⟩)) (fun _ => rfl)
theorem w_runScript (J : jnt_ B σ v) (hB : B ≤ 999000) (f : ∀ (σ1 : bc_M) (t x : Int) (v1 : cs_t), fa_ (B + 480) σ1 v1 → yo_ σ σ1 → (0 ≤ t ∧ t ≤ 4) → ((t = 1 ∧ (zp_ v).1 = 0 ∧ v1 = u_le (vp_ v) (zp_ v).2.1) ∨ (t = 2 ∧ (zp_ v).1 = 1 ∧ ∃ (i : Nat) (w : cs_t) (e : Int), (i : Int) < (zp_ v).2.2.1 ∧ rr_ (zp_ v) (vp_ v) i w ∧ cf_ (c_r w) ((zp_ v).2.2.2.1 i) ((zp_ v).2.2.2.2 i 0) ((zp_ v).2.2.2.2 i 1) ((zp_ v).2.2.2.2 i 2) e ∧ e ≠ 0 ∧ v1 = u_lf (u_r w (c_bs w)) i) ∨ (t = 0 ∧ (zp_ v).1 = 1 ∧ x = (zp_ v).2.2.1 ∧ ∃ w : cs_t, rr_ (zp_ v) (vp_ v) (zp_ v).2.2.1.toNat w ∧ v1 = u_h w (hr_ (c_h w) (c_bs w)) ((c_n w + 1) % 8))) → (t = 0 → σ1.2.1 = (Int32.ofInt x).toInt64) → Rr (some (bc_I t)) σ1) : bc_Sem g (d + 20) mL_runScript [bc_R 0, bc_R 228] σ Rr (fun _ _ => False) := by
  have w3 := J.1.1.1.2.1.1
  refine e_L_runScript rfl (fun K hK => ?_)
  refine hK.1 [] 60 _ _ _ _ _ ?_
  refine t_X10_runScript J.1 hB (fun z σ2 F2 f2 => ?_) (fun z i w e σ2 hi hr hf hne F2 f2 => ?_) (fun z w σ2 hr F2 f2 => ?_)
  · exact f σ2 1 0 _ (fa_mono F2 (by omega)) (yo_fr f2 ov_le) (by decide) (.inl ⟨rfl, z, rfl⟩) (fun h => absurd h (by decide))
  · exact f σ2 2 0 _ F2 (yo_fr f2 ov_le) (by decide) (.inr (.inl ⟨rfl, z, i, w, e, hi, hr, hf, hne, rfl⟩)) (fun h => absurd h (by decide))
  · refine bc_ob_i rfl ?_
    exact f _ 0 _ _ (fa_2 F2) (yo_fr (σ' := σ2) f2 ov_le) (by decide) (.inr (.inr ⟨rfl, z, rfl, w, hr, rfl⟩)) (fun _ => rfl)
theorem w_undo (J : jnt_ B σ v) (hB : B ≤ 999000) (f : ∀ (σ1 : bc_M) (t x : Int) (v1 : cs_t), fa_ (B + 480) σ1 v1 → yo_ σ σ1 → (0 ≤ t ∧ t ≤ 4) → ((t = 1 ∧ c_h v = [] ∧ v1 = v) ∨ (t = 0 ∧ ∃ (p : rw_t) (s : List rw_t), c_h v = p :: s ∧ x = s.length ∧ v1 = u_h (u_r v p) s ((c_n v + 7) % 8))) → (t = 0 → σ1.2.1 = (Int32.ofInt x).toInt64) → Rr (some (bc_I t)) σ1) : bc_Sem g (d + 20) mL_undo [bc_R 0, bc_R 228] σ Rr (fun _ _ => False) := by
  have w3 := J.1.1.1.2.1.1
  refine e_L_undo rfl (fun K hK => ?_)
  refine hK.1 [] 60 _ _ _ _ _ ?_
  refine t_X10_undo J.1 (fun z => ?_) (fun p s z σ2 F2 f2 => ?_)
  · exact f σ 1 0 v (fa_mono J.1 (by omega)) (yo_rf σ) (by decide) (.inl ⟨rfl, z, rfl⟩) (fun h => absurd h (by decide))
  · refine bc_ob_i rfl ?_
    exact f _ 0 _ _ (fa_2 (fa_mono F2 (by omega))) (yo_fr (σ' := σ2) f2 ob_le) (by decide) (.inr ⟨rfl, p, s, z, rfl, rfl⟩) (fun _ => rfl)
theorem w_restore (J : jnt_ B σ v) (hB : B ≤ 999000) (f : ∀ (σ1 : bc_M) (t x : Int) (v1 : cs_t), fa_ (B + 480) σ1 v1 → yo_ σ σ1 → (0 ≤ t ∧ t ≤ 4) → ((t = 1 ∧ c_hs v = 0 ∧ v1 = v) ∨ (t = 0 ∧ c_hs v = 1 ∧ x = (c_sn v) 3 ∧ v1 = u_h (u_r v (c_sn v)) [] (c_n v))) → (t = 0 → σ1.2.1 = (Int32.ofInt x).toInt64) → Rr (some (bc_I t)) σ1) : bc_Sem g (d + 20) mL_restore [bc_R 0, bc_R 228] σ Rr (fun _ _ => False) := by
  have w3 := J.1.1.1.2.1.1
  refine e_L_restore rfl (fun K hK => ?_)
  refine hK.1 [] 60 _ _ _ _ _ ?_
  refine t_X10_restore J.1 (fun z => ?_) (fun z σ2 F2 f2 => ?_)
  · exact f σ 1 0 v (fa_mono J.1 (by omega)) (yo_rf σ) (by decide) (.inl ⟨rfl, z, rfl⟩) (fun h => absurd h (by decide))
  · refine bc_ob_i rfl ?_
    exact f _ 0 _ _ (fa_2 (fa_mono F2 (by omega))) (yo_fr (σ' := σ2) f2 ob_le) (by decide) (.inr ⟨rfl, z, rfl, rfl⟩) (fun _ => rfl)
end WRP
end
