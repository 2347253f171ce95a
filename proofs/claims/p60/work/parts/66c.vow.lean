section P60F
variable {g : bc_C} {d : Nat} {σ : bc_M} {B : Int} {v : cs_t} {Rr : Option bc_A → bc_M → Prop} {X : Nat → bc_M → Prop}
theorem t_L_areVowsRight {a : Int} (hF : fa_ B σ v) (hB : B ≤ 990000) (ha : 1 ≤ a ∧ a ≤ 50) (h : ∀ (σ' : bc_M) (v' : cs_t), fa_ (B + 100) σ' v' → c_r v' = c_r v → Rr (some (bc_I 1)) σ') : bc_Sem g (d + 24) mL_areVowsRight [bc_R 0, bc_I a] σ Rr (fun _ _ => False) := by
  have hT := hF.1.1.2.2.2
  have w4 : 0 ≤ (c_r v) 4 ∧ (c_r v) 4 ≤ 8 := hT.2.2.2.1
  have w0 : 0 ≤ (c_r v) 0 ∧ (c_r v) 0 ≤ B := hT.1
  have w6 : 0 ≤ (c_r v) 6 := hT.2.2.2.2.2.1
  have w7 : 0 ≤ (c_r v) 7 := hT.2.2.2.2.2.2.1
  have w5 : (c_r v) 5 ≤ B := hT.2.2.2.2.1
  have w678 : (c_r v) 6 + (c_r v) 7 + (c_r v) 4 = (c_r v) 5 := hT.2.2.2.2.2.2.2.1
  have x50 := vxn50_ hT
  obtain ⟨W, hW⟩ : ∃ W : Int, W = (Int32.ofInt (lkf_ (c_r v))).toInt := ⟨_, rfl⟩
  have bW : bc_in W := by rw [hW]; exact bd_in32 _
  have look : ∀ {σ1 : bc_M} {B1 : Int} {t : rw_t × rw_t × (List rw_t × Int) × ((Int → Int) × Int) × (List Int) × ((Int → Int) × gr_t) × (List Int) × Int × Int × Int}, fa_ B1 σ1 (c_r v, t) → B1 ≤ 999000 → ∀ {D : Nat} {R1 : Option bc_A → bc_M → Prop} {X1 : Nat → bc_M → Prop}, R1 (some (bc_I W)) σ1 → bc_Sem g (D + 22) mL_looks [bc_R 0] σ1 R1 X1 := fun F1 b1 => fun {D} {R1} {X1} q => t_L_looks F1 b1 (by rw [← hW]; exact q)
  refine e_L_areVowsRight rfl (fun K hK => ?_)
  have T3 : ∀ (cn mo : Int) (n : Nat) (σ1 : bc_M) (B1 : Int) (t : rw_t × rw_t × (List rw_t × Int) × ((Int → Int) × Int) × (List Int) × ((Int → Int) × gr_t) × (List Int) × Int × Int × Int) (z : bc_LV), fa_ B1 σ1 (c_r v, t) → B1 ≤ B + 100 → n ≤ 1000 → K 391 ([(0, bc_R 0), (1, bc_I a), (2, bc_I ((c_r v) 4)), (3, bc_I W), (4, bc_I cn), (5, bc_I mo), (6, bc_I 1)] ++ z) [] σ1 n := by
    intro cn mo n σ1 B1 t z F1 b1 hn
    refine hK.2 _ _ [(0, bc_R 0), (1, bc_I a), (2, bc_I ((c_r v) 4)), (3, bc_I W), (4, bc_I cn), (5, bc_I mo), (6, bc_I 1)] _ _ _ (ls_ _ _) ?_
    refine hK.1 [32, 141, 219, 300, 391] 60 _ _ _ _ _ ?_
    refine bc_ob_i (by decide) ?_
    refine bc_br_i (fun c => absurd c (by decide)) (fun _ => ?_)
    refine bc_nb_i (by show n + 200 ≤ 1500; omega) rfl rfl ?_
    refine look F1 (by omega) ?_
    refine bc_ob_i ⟨bW, bW⟩ ?_
    refine bc_br_i (fun _ => ?_) (fun c => absurd rfl c)
    refine bc_ob_i (by decide) ?_
    exact h σ1 _ (fa_mono F1 b1) rfl
  have T2 : ∀ (cn mo : Int), ((cn = 1 ∧ (∀ b : Int, 1 ≤ b → b ≤ 50 → 0 ≤ sp_ (c_r v) ((c_r v) 0 + b)) ∧ (mo ≤ sp_ (c_r v) ((c_r v) 0 + a)) ∧ (∀ k : Int, 0 ≤ k → k < (c_r v) 4 → (c_r v) 0 + a < (c_r v) (113 + 3 * k) → mo ≤ sp_ (c_r v) ((c_r v) (113 + 3 * k))) ∧ (mo = sp_ (c_r v) ((c_r v) 0 + a) ∨ ∃ k : Int, 0 ≤ k ∧ k < (c_r v) 4 ∧ (c_r v) 0 + a < (c_r v) (113 + 3 * k) ∧ mo = sp_ (c_r v) ((c_r v) (113 + 3 * k)))) ∨ (cn = 0 ∧ (∃ b : Int, 1 ≤ b ∧ b ≤ 50 ∧ sp_ (c_r v) ((c_r v) 0 + b) < 0) ∧ mo = -2004)) → (-3000 ≤ mo ∧ mo ≤ 100000000) →
      ∀ i : Int, ∀ (n : Nat) (σ1 : bc_M) (B1 : Int) (t : rw_t × rw_t × (List rw_t × Int) × ((Int → Int) × Int) × (List Int) × ((Int → Int) × gr_t) × (List Int) × Int × Int × Int) (k7 k8 k9 : Int) (z : bc_LV), fa_ B1 σ1 (c_r v, t) → c_sn (c_r v, t) = c_r v → c_hs (c_r v, t) = 1 → B1 ≤ B + 62 + i → 0 ≤ i → i ≤ 2 → (n : Int) ≤ 600 + 10 * i → K 300 ([(0, bc_R 0), (1, bc_I a), (2, bc_I ((c_r v) 4)), (3, bc_I W), (4, bc_I cn), (5, bc_I mo), (6, bc_I 1), (7, bc_I k7), (8, bc_I k8), (9, bc_I k9), (10, bc_I i)] ++ z) [] σ1 n := by
    intro cn mo hc hmo
    have bcn : cn = 0 ∨ cn = 1 := by rcases hc with ⟨e, -⟩ | ⟨e, -⟩ <;> omega
    refine up_ind 2 (fun i hi n σ1 B1 t k7 k8 k9 z F1 es eh b1 i0 i1 hn => ?_) (fun i hi ih n σ1 B1 t k7 k8 k9 z F1 es eh b1 i0 i1 hn => ?_)
    · refine hK.2 _ _ [(0, bc_R 0), (1, bc_I a), (2, bc_I ((c_r v) 4)), (3, bc_I W), (4, bc_I cn), (5, bc_I mo), (6, bc_I 1), (7, bc_I k7), (8, bc_I k8), (9, bc_I k9), (10, bc_I i)] _ _ _ (ls_ _ _) ?_
      refine hK.1 [32, 141, 219, 300, 391] 60 _ _ _ _ _ ?_
      refine bc_ob_i ⟨by constructor <;> omega, by decide⟩ ?_
      refine bc_br_i (fun c => (by omega : False).elim) (fun _ => ?_)
      exact T3 cn mo n σ1 B1 t [(7, bc_I k7), (8, bc_I k8), (9, bc_I k9), (10, bc_I i)] F1 (by omega) (by omega)
    · have out := T3 cn mo n σ1 B1 t [(7, bc_I k7), (8, bc_I k8), (9, bc_I k9), (10, bc_I i)] F1 (by omega) (by omega)
      have next := ih n σ1 B1 t k7 k8 k9 [(11, bc_I (mo + i))] F1 es eh (by omega) (by omega) (by omega) (by omega)
      have dayh : ∀ {D : Nat} {R1 : Option bc_A → bc_M → Prop} {X1 : Nat → bc_M → Prop}, R1 (some (bc_I ((c_r v) 0))) σ1 → bc_Sem g (D + 1) mX10_day [bc_R 0] σ1 R1 X1 := fun q => t_X10_day F1 q
      refine hK.2 _ _ [(0, bc_R 0), (1, bc_I a), (2, bc_I ((c_r v) 4)), (3, bc_I W), (4, bc_I cn), (5, bc_I mo), (6, bc_I 1), (7, bc_I k7), (8, bc_I k8), (9, bc_I k9), (10, bc_I i)] _ _ _ (ls_ _ _) ?_
      refine hK.1 [32, 141, 219, 300, 391] 90 _ _ _ _ _ ?_
      refine bc_ob_i ⟨by constructor <;> omega, by decide⟩ ?_
      refine bc_br_i (fun _ => ?_) (fun c => (by omega : False).elim)
      refine bc_ob_i (by constructor <;> omega) ?_
      refine bc_br_i (fun _ => out) (fun c1 => ?_)
      refine bc_ob_i ⟨by constructor <;> omega, by decide⟩ ?_
      refine bc_br_i (fun c8 => ?_) (fun _ => out)
      refine bc_ob_i (by constructor <;> omega) ?_
      refine bc_br_i (fun cm => ?_) (fun _ => next)
      refine bc_ob_i ⟨by constructor <;> omega, by decide⟩ ?_
      refine bc_br_i (fun cM => ?_) (fun _ => next)
      obtain ⟨e1, hall, q1, q2, q3⟩ := hc.resolve_right (fun q => c1 q.1)
      have gr := vq_gr hT (a := (c_r v) 0 + a) (x := mo) (by omega) hall q1 q2 q3
      have r0 : ∀ x : Int, rv_ (c_r v) ((c_r v) 0 + a) x 0 = (c_r v) 0 := fun x => rv_0 w4.1 _ _
      have v0 : vq_ (c_r v) ((c_r v) 0 + a) (mo + i) = 0 := by
        unfold vq_
        rw [if_neg (by omega), if_neg (by omega)]
      have mv : ∀ {D : Nat} {R1 : Option bc_A → bc_M → Prop} {X1 : Nat → bc_M → Prop}, (∀ σ2 : bc_M, fa_ (B1 + 1) σ2 (u_r (rm_ (c_r v, t)) (rv_ (c_r v) ((c_r v) 0 + a) (mo + i))) → R1 (some (bc_I ((c_r v) 5))) σ2) → bc_Sem g (D + 5) mX10_makeVow [bc_R 0, bc_I ((c_r v) 0 + a), bc_I (mo + i)] σ1 R1 X1 := fun q => t_X10_makeVow F1 (by omega) (by constructor <;> omega) (by constructor <;> omega) (fun e he => by
          have he : vq_ (c_r v) ((c_r v) 0 + a) (mo + i) = (e : Int) + 1 := he
          omega) (fun _ σ2 F2 _ => q σ2 F2)
      refine bc_nb_i (by show n + 0 ≤ 1500; omega) rfl rfl ?_
      refine dayh ?_
      refine bc_nb_i (by show n + 1 ≤ 1500; omega) rfl rfl ?_
      refine mv (fun σ2 F2 => ?_)
      have ck : ∀ {D : Nat} {R1 : Option bc_A → bc_M → Prop} {X1 : Nat → bc_M → Prop}, (∀ x : Int, (x = 1 ∧ ∀ b : Int, 1 ≤ b → b ≤ 50 → 0 ≤ sp_ (rv_ (c_r v) ((c_r v) 0 + a) (mo + i)) ((c_r v) 0 + b)) ∨ (x = 0 ∧ ∃ b : Int, 1 ≤ b ∧ b ≤ 50 ∧ sp_ (rv_ (c_r v) ((c_r v) 0 + a) (mo + i)) ((c_r v) 0 + b) < 0) → R1 (some (bc_I x)) σ2) → bc_Sem g (D + 2) mX10_canKeepAll [bc_R 0] σ2 R1 X1 := fun q => t_X10_canKeepAll F2 (by omega) (fun x hx => by
          have hx : (x = 1 ∧ ∀ b : Int, 1 ≤ b → b ≤ 50 → 0 ≤ sp_ (rv_ (c_r v) ((c_r v) 0 + a) (mo + i)) (rv_ (c_r v) ((c_r v) 0 + a) (mo + i) 0 + b)) ∨ (x = 0 ∧ ∃ b : Int, 1 ≤ b ∧ b ≤ 50 ∧ sp_ (rv_ (c_r v) ((c_r v) 0 + a) (mo + i)) (rv_ (c_r v) ((c_r v) 0 + a) (mo + i) 0 + b) < 0) := hx
          rw [r0] at hx
          exact q x hx)
      have rs : ∀ {D : Nat} {R1 : Option bc_A → bc_M → Prop} {X1 : Nat → bc_M → Prop}, (∀ (σ3 : bc_M) (y : Int), fa_ (B1 + 1) σ3 (u_h (u_r (u_r (rm_ (c_r v, t)) (rv_ (c_r v) ((c_r v) 0 + a) (mo + i))) (c_r v)) [] (c_n (u_r (rm_ (c_r v, t)) (rv_ (c_r v) ((c_r v) 0 + a) (mo + i))))) → R1 (some (bc_I y)) σ3) → bc_Sem g (D + 4) mX10_restore [bc_R 0] σ2 R1 X1 := fun q => t_X10_restore F2 (fun e => by
          have e : c_hs (c_r v, t) = 0 := e
          omega) (fun _ σ3 F3 _ => q σ3 _ (by
          have e3 : c_sn (u_r (rm_ (c_r v, t)) (rv_ (c_r v) ((c_r v) 0 + a) (mo + i))) = c_r v := es
          rw [e3] at F3
          exact F3))
      have fin : ∀ (σ3 : bc_M) (k x : Int) (n2 : Nat), n2 ≤ n + 3 → fa_ (B1 + 1) σ3 (u_h (u_r (u_r (rm_ (c_r v, t)) (rv_ (c_r v) ((c_r v) 0 + a) (mo + i))) (c_r v)) [] (c_n (u_r (rm_ (c_r v, t)) (rv_ (c_r v) ((c_r v) 0 + a) (mo + i))))) → K 300 [(0, bc_R 0), (1, bc_I a), (2, bc_I ((c_r v) 4)), (3, bc_I W), (4, bc_I cn), (5, bc_I mo), (6, bc_I 1), (7, bc_I k), (8, bc_I k8), (9, bc_I k9), (10, bc_I (i + 1)), (11, bc_I (mo + i)), (12, bc_I x)] [] σ3 n2 := fun σ3 k x n2 h2 F3 => ih n2 σ3 (B1 + 1) _ k k8 k9 [(11, bc_I (mo + i)), (12, bc_I x)] F3 es eh (by omega) (by omega) (by omega) (by omega)
      refine bc_ob_i (by decide) ?_
      refine bc_br_i (fun c => absurd c (by decide)) (fun _ => ?_)
      refine bc_nb_i (by show n + 1 ≤ 1500; omega) rfl rfl ?_
      refine ck (fun x hx => ?_)
      refine bc_ob_i (by constructor <;> omega) ?_
      refine bc_br_i (fun i00 => ?_) (fun i00 => ?_)
      · have ex : x = 1 := by
          rcases hx with ⟨e, -⟩ | ⟨-, b, b0, b1, b2⟩
          · exact e
          · rw [i00, Int.add_zero] at b2
            have := gr.2.1 b b0 b1
            omega
        refine bc_ob_i ⟨by constructor <;> omega, by decide⟩ ?_
        refine bc_br_i (fun _ => ?_) (fun c => absurd ex c)
        refine bc_nb_i (by show n + 2 ≤ 1500; omega) rfl rfl ?_
        refine rs (fun σ3 y F3 => ?_)
        exact fin σ3 y _ _ (by show n + 2 ≤ n + 3; omega) F3
      · have ex : x = 0 := by
          rcases hx with ⟨-, q⟩ | ⟨e, -⟩
          · obtain ⟨b, b0, b1, b2⟩ := gr.2.2
            have := q b b0 b1
            rw [show mo + i = mo + 1 by omega] at this
            omega
          · exact e
        refine bc_ob_i ⟨by constructor <;> omega, by decide⟩ ?_
        refine bc_br_i (fun _ => ?_) (fun c => absurd ex c)
        refine bc_nb_i (by show n + 2 ≤ 1500; omega) rfl rfl ?_
        refine rs (fun σ3 y F3 => ?_)
        exact fin σ3 y _ _ (by show n + 2 ≤ n + 3; omega) F3
  have T1 : ∀ (cn mo : Int), ((cn = 1 ∧ (∀ b : Int, 1 ≤ b → b ≤ 50 → 0 ≤ sp_ (c_r v) ((c_r v) 0 + b)) ∧ (mo ≤ sp_ (c_r v) ((c_r v) 0 + a)) ∧ (∀ k : Int, 0 ≤ k → k < (c_r v) 4 → (c_r v) 0 + a < (c_r v) (113 + 3 * k) → mo ≤ sp_ (c_r v) ((c_r v) (113 + 3 * k))) ∧ (mo = sp_ (c_r v) ((c_r v) 0 + a) ∨ ∃ k : Int, 0 ≤ k ∧ k < (c_r v) 4 ∧ (c_r v) 0 + a < (c_r v) (113 + 3 * k) ∧ mo = sp_ (c_r v) ((c_r v) (113 + 3 * k)))) ∨ (cn = 0 ∧ (∃ b : Int, 1 ≤ b ∧ b ≤ 50 ∧ sp_ (c_r v) ((c_r v) 0 + b) < 0) ∧ mo = -2004)) → (-3000 ≤ mo ∧ mo ≤ 100000000) →
      ∀ (n : Nat) (k7 : Int) (z : bc_LV), n ≤ 500 → K 219 ([(0, bc_R 0), (1, bc_I a), (2, bc_I ((c_r v) 4)), (3, bc_I W), (4, bc_I cn), (5, bc_I mo), (6, bc_I 1), (7, bc_I k7)] ++ z) [] σ n := by
    intro cn mo hc hmo n k7 z hn
    have bcn : cn = 0 ∨ cn = 1 := by rcases hc with ⟨e, -⟩ | ⟨e, -⟩ <;> omega
    obtain ⟨t25, ht⟩ : ∃ t : Nat, t = Int.toNat 25 := ⟨_, rfl⟩
    obtain ⟨t50, h50⟩ : ∃ t : Nat, t = 50 := ⟨_, rfl⟩
    have x50 := x50
    have l25 := wt_le (ps_wf hT t25).1
    have l50 := wt_le (ps_wf hT t50).1
    have ht2 : t25 = 25 := ht
    rw [← h50] at x50
    have e50 : ps_ (ps_ (c_r v) t25) t25 = ps_ (c_r v) t50 := by
      rw [ps_add, show t25 + t25 = t50 by omega]
    have sv : ∀ {D : Nat} {R1 : Option bc_A → bc_M → Prop} {X1 : Nat → bc_M → Prop}, (∀ σ1 : bc_M, fa_ B σ1 (u_hs (u_sn v (c_r v)) 1) → R1 (some (bc_I ((c_r v) 3))) σ1) → bc_Sem g (D + 4) mX10_save [bc_R 0] σ R1 X1 := fun q => t_X10_save hF (fun σ1 F1 _ => q σ1 F1)
    have bt1 : ∀ σ1 : bc_M, fa_ B σ1 (u_hs (u_sn v (c_r v)) 1) → ∀ {D : Nat} {R1 : Option bc_A → bc_M → Prop} {X1 : Nat → bc_M → Prop}, R1 (some (bc_I ((c_r v) 7))) σ1 → bc_Sem g (D + 1) mX10_brokenTotal [bc_R 0] σ1 R1 X1 := fun σ1 F1 => fun {D} {R1} {X1} q => t_X10_brokenTotal F1 q
    have pd1 : ∀ σ1 : bc_M, fa_ B σ1 (u_hs (u_sn v (c_r v)) 1) → ∀ {D : Nat} {R1 : Option bc_A → bc_M → Prop} {X1 : Nat → bc_M → Prop}, (∀ σ2 : bc_M, fa_ (B + 30) σ2 (u_r (rm_ (u_hs (u_sn v (c_r v)) 1)) (ps_ (c_r v) t25)) → R1 (some (bc_I (ps_ (c_r v) t25 6 - (c_r v) 6))) σ2) → bc_Sem g (D + 5) mX10_passDays [bc_R 0, bc_I 25] σ1 R1 X1 := fun σ1 F1 => fun {D} {R1} {X1} q => t_X10_passDays F1 (by omega) (by decide) (fun e he => by
        have he : (0 : Int) = (e : Int) + 1 := he
        omega) (fun _ σ2 F2 _ => by
        rw [← ht] at F2 ⊢
        exact q σ2 F2)
    have pd2 : ∀ σ1 : bc_M, fa_ (B + 30) σ1 (u_r (rm_ (u_hs (u_sn v (c_r v)) 1)) (ps_ (c_r v) t25)) → ∀ {D : Nat} {R1 : Option bc_A → bc_M → Prop} {X1 : Nat → bc_M → Prop}, (∀ σ2 : bc_M, fa_ (B + 60) σ2 (u_r (rm_ (u_r (rm_ (u_hs (u_sn v (c_r v)) 1)) (ps_ (c_r v) t25))) (ps_ (c_r v) t50)) → R1 (some (bc_I (ps_ (c_r v) t50 6 - ps_ (c_r v) t25 6))) σ2) → bc_Sem g (D + 5) mX10_passDays [bc_R 0, bc_I 25] σ1 R1 X1 := fun σ1 F1 => fun {D} {R1} {X1} q => t_X10_passDays F1 (by omega) (by decide) (fun e he => by
        have he : (0 : Int) = (e : Int) + 1 := he
        omega) (fun _ σ2 F2 _ => by
        rw [← ht] at F2 ⊢
        have F2 : fa_ (B + 30 + 30) σ2 (u_r (rm_ (u_r (rm_ (u_hs (u_sn v (c_r v)) 1)) (ps_ (c_r v) t25))) (ps_ (ps_ (c_r v) t25) t25)) := F2
        show R1 (some (bc_I (ps_ (ps_ (c_r v) t25) t25 6 - ps_ (c_r v) t25 6))) σ2
        rw [e50] at F2 ⊢
        exact q σ2 (fa_mono F2 (by omega)))
    have bt3 : ∀ σ1 : bc_M, fa_ (B + 60) σ1 (u_r (rm_ (u_r (rm_ (u_hs (u_sn v (c_r v)) 1)) (ps_ (c_r v) t25))) (ps_ (c_r v) t50)) → ∀ {D : Nat} {R1 : Option bc_A → bc_M → Prop} {X1 : Nat → bc_M → Prop}, R1 (some (bc_I (ps_ (c_r v) t50 7))) σ1 → bc_Sem g (D + 1) mX10_brokenTotal [bc_R 0] σ1 R1 X1 := fun σ1 F1 => fun {D} {R1} {X1} q => t_X10_brokenTotal F1 q
    have rs : ∀ σ1 : bc_M, fa_ (B + 60) σ1 (u_r (rm_ (u_r (rm_ (u_hs (u_sn v (c_r v)) 1)) (ps_ (c_r v) t25))) (ps_ (c_r v) t50)) → ∀ {D : Nat} {R1 : Option bc_A → bc_M → Prop} {X1 : Nat → bc_M → Prop}, (∀ (σ2 : bc_M) (y : Int), fa_ (B + 60) σ2 (u_h (u_r (u_r (rm_ (u_r (rm_ (u_hs (u_sn v (c_r v)) 1)) (ps_ (c_r v) t25))) (ps_ (c_r v) t50)) (c_r v)) [] (c_n (u_r (rm_ (u_r (rm_ (u_hs (u_sn v (c_r v)) 1)) (ps_ (c_r v) t25))) (ps_ (c_r v) t50)))) → R1 (some (bc_I y)) σ2) → bc_Sem g (D + 4) mX10_restore [bc_R 0] σ1 R1 X1 := fun σ1 F1 => fun {D} {R1} {X1} q => t_X10_restore F1 (fun e => by
        have e : (1 : Int) = 0 := e
        omega) (fun _ σ3 F3 _ => q σ3 _ F3)
    refine hK.2 _ _ [(0, bc_R 0), (1, bc_I a), (2, bc_I ((c_r v) 4)), (3, bc_I W), (4, bc_I cn), (5, bc_I mo), (6, bc_I 1), (7, bc_I k7)] _ _ _ (ls_ _ _) ?_
    refine hK.1 [32, 141, 219, 300, 391] 90 _ _ _ _ _ ?_
    refine bc_nb_i (by show n + 0 ≤ 1500; omega) rfl rfl ?_
    refine sv (fun σ1 F1 => ?_)
    refine bc_nb_i (by show n + 0 ≤ 1500; omega) rfl rfl ?_
    refine bt1 σ1 F1 ?_
    refine bc_nb_i (by show n + 1 ≤ 1500; omega) rfl rfl ?_
    refine pd1 σ1 F1 (fun σ2 F2 => ?_)
    refine bc_nb_i (by show n + 2 ≤ 1500; omega) rfl rfl ?_
    refine pd2 σ2 F2 (fun σ3 F3 => ?_)
    refine bc_ob_i (by decide) ?_
    refine bc_br_i (fun c => absurd c (by decide)) (fun _ => ?_)
    refine bc_nb_i (by show n + 2 ≤ 1500; omega) rfl rfl ?_
    refine bt3 σ3 F3 ?_
    refine bc_ob_i ⟨by constructor <;> omega, by constructor <;> omega⟩ ?_
    refine bc_br_i (fun _ => ?_) (fun c => (by omega : False).elim)
    refine bc_nb_i (by show n + 2 ≤ 1500; omega) rfl rfl ?_
    refine bt3 σ3 F3 ?_
    refine bc_ob_i ⟨by constructor <;> omega, by constructor <;> omega⟩ ?_
    have go : ∀ (n2 : Nat) (σ4 : bc_M) (y k9 : Int), n2 ≤ n + 4 → fa_ (B + 60) σ4 (u_h (u_r (u_r (rm_ (u_r (rm_ (u_hs (u_sn v (c_r v)) 1)) (ps_ (c_r v) t25))) (ps_ (c_r v) t50)) (c_r v)) [] (c_n (u_r (rm_ (u_r (rm_ (u_hs (u_sn v (c_r v)) 1)) (ps_ (c_r v) t25))) (ps_ (c_r v) t50)))) → K 300 [(0, bc_R 0), (1, bc_I a), (2, bc_I ((c_r v) 4)), (3, bc_I W), (4, bc_I cn), (5, bc_I mo), (6, bc_I 1), (7, bc_I y), (8, bc_I ((c_r v) 7)), (9, bc_I k9), (10, bc_I 0)] [] σ4 n2 := fun n2 σ4 y k9 h2 F4 => T2 cn mo hc hmo 0 n2 σ4 (B + 60) _ y _ k9 [] F4 rfl rfl (by omega) (by decide) (by decide) (by omega)
    refine bc_br_i (fun c7 => ?_) (fun c7 => ?_)
    · have ec : cn = 1 := by
        rcases hc with ⟨e, -⟩ | ⟨e, b, -⟩
        · exact e
        · rcases x50.2 with ⟨q, -⟩ | ⟨-, q⟩
          · obtain ⟨b, b0, b1, b2⟩ := b
            have := q b b0 b1
            omega
          · omega
      refine bc_ob_i ⟨by constructor <;> omega, by decide⟩ ?_
      refine bc_br_i (fun _ => ?_) (fun c => absurd ec c)
      refine bc_nb_i (by show n + 3 ≤ 1500; omega) rfl rfl ?_
      refine rs σ3 F3 (fun σ4 y F4 => ?_)
      exact go _ σ4 y _ (by show n + 3 ≤ n + 4; omega) F4
    · have ec : cn = 0 := by
        rcases hc with ⟨-, e, -⟩ | ⟨e, -⟩
        · rcases x50.2 with ⟨-, q⟩ | ⟨⟨b, b0, b1, b2⟩, -⟩
          · omega
          · have := e b b0 b1
            omega
        · exact e
      refine bc_ob_i ⟨by constructor <;> omega, by decide⟩ ?_
      refine bc_br_i (fun _ => ?_) (fun c => absurd ec c)
      refine bc_nb_i (by show n + 3 ≤ 1500; omega) rfl rfl ?_
      refine rs σ3 F3 (fun σ4 y F4 => ?_)
      exact go _ σ4 y _ (by show n + 3 ≤ n + 4; omega) F4
  have va : ∀ k s : Int, 0 ≤ s ∧ s < (c_r v) 4 → vk_r (c_r v) s = k → (0 ≤ k ∧ k ≤ 8) → ∀ {D : Nat} {R1 : Option bc_A → bc_M → Prop} {X1 : Nat → bc_M → Prop}, R1 (some (bc_I ((c_r v) (112 + 3 * s)))) σ → bc_Sem g (D + 4) mX10_vowAt [bc_R 0, bc_I k] σ R1 X1 := fun k s hs hk hb => fun {D} {R1} {X1} q => t_X10_vowAt hF (by omega) (by constructor <;> omega) (fun z => absurd hk (z s hs.1 hs.2)) (fun s' s0 s1 hs' => by
      obtain rfl := vk_inj hT ⟨s0, s1⟩ hs (hs'.trans hk.symm)
      exact q)
  have hid : ∀ s : Int, 0 ≤ s ∧ s < (c_r v) 4 → (0 ≤ (c_r v) (112 + 3 * s) ∧ (c_r v) (112 + 3 * s) ≤ B) ∧ (c_r v) 0 < (c_r v) (113 + 3 * s) ∧ (c_r v) (113 + 3 * s) ≤ (c_r v) 0 + 50 := fun s hs => ⟨(hT.2.2.2.2.2.2.2.2.2.2.2.2.1 s hs.1 (by omega)).1, (hT.2.2.2.2.2.2.2.2.2.2.2.2.2.1 s hs.1 hs.2).1⟩
  have hord := hT.2.2.2.2.2.2.2.2.2.2.2.2.2.2
  have uni : ∀ s t : Int, 0 ≤ s ∧ s < (c_r v) 4 → 0 ≤ t ∧ t < (c_r v) 4 → (c_r v) (112 + 3 * t) = (c_r v) (112 + 3 * s) → t = s := fun s t hs ht e => by
    rcases Int.lt_trichotomy t s with q | q | q
    · have := hord t s ht.1 q hs.2
      omega
    · exact q
    · have := hord s t hs.1 q ht.2
      omega
  have dd : ∀ s : Int, 0 ≤ s ∧ s < (c_r v) 4 → ∀ {D : Nat} {R1 : Option bc_A → bc_M → Prop} {X1 : Nat → bc_M → Prop}, R1 (some (bc_I ((c_r v) (113 + 3 * s)))) σ → bc_Sem g (D + 4) mX10_dueDay [bc_R 0, bc_I ((c_r v) (112 + 3 * s))] σ R1 X1 := fun s hs => fun {D} {R1} {X1} q => t_X10_dueDay hF (by omega) (by have := hid s hs; constructor <;> omega) (fun z => absurd rfl (z s hs.1 hs.2)) (fun t t0 t1 ht => by
      obtain rfl := uni s t hs ⟨t0, t1⟩ ht
      exact q)
  have T0 : ∀ (cn mo : Int), ((cn = 1 ∧ (∀ b : Int, 1 ≤ b → b ≤ 50 → 0 ≤ sp_ (c_r v) ((c_r v) 0 + b)) ∧ (mo ≤ sp_ (c_r v) ((c_r v) 0 + a)) ∧ (∀ k : Int, 0 ≤ k → k < (c_r v) 4 → (c_r v) 0 + a < (c_r v) (113 + 3 * k) → mo ≤ sp_ (c_r v) ((c_r v) (113 + 3 * k))) ∧ (mo = sp_ (c_r v) ((c_r v) 0 + a) ∨ ∃ k : Int, 0 ≤ k ∧ k < (c_r v) 4 ∧ (c_r v) 0 + a < (c_r v) (113 + 3 * k) ∧ mo = sp_ (c_r v) ((c_r v) (113 + 3 * k)))) ∨ (cn = 0 ∧ (∃ b : Int, 1 ≤ b ∧ b ≤ 50 ∧ sp_ (c_r v) ((c_r v) 0 + b) < 0) ∧ mo = -2004)) → (-3000 ≤ mo ∧ mo ≤ 100000000) →
      ∀ k : Int, ∀ (n : Nat) (z : bc_LV), 0 ≤ k → k ≤ 8 → (n : Int) ≤ 400 + 6 * k → K 141 ([(0, bc_R 0), (1, bc_I a), (2, bc_I ((c_r v) 4)), (3, bc_I W), (4, bc_I cn), (5, bc_I mo), (6, bc_I 1), (7, bc_I k)] ++ z) [] σ n := by
    intro cn mo hc hmo
    refine up_ind ((c_r v) 4 - 1) (fun k hk n z k0 k1 hn => ?_) (fun k hk ih n z k0 k1 hn => ?_)
    · refine hK.2 _ _ [(0, bc_R 0), (1, bc_I a), (2, bc_I ((c_r v) 4)), (3, bc_I W), (4, bc_I cn), (5, bc_I mo), (6, bc_I 1), (7, bc_I k)] _ _ _ (ls_ _ _) ?_
      refine hK.1 [32, 141, 219, 300, 391] 60 _ _ _ _ _ ?_
      refine bc_ob_i ⟨by constructor <;> omega, by constructor <;> omega⟩ ?_
      refine bc_br_i (fun c => (by omega : False).elim) (fun _ => ?_)
      exact T1 cn mo hc hmo n k [] (by omega)
    · obtain ⟨s, hs, es⟩ := vk_sur hT k0 (by omega)
      obtain ⟨t, ht, et⟩ := vk_sur hT (by omega : 0 ≤ k + 1) (by omega)
      have hs' := hid s hs
      have ht' := hid t ht
      have ord := vk_ord hT hs ht (by omega)
      have next : ∀ (x : Int) (n2 : Nat), n2 ≤ n + 6 → K 141 [(0, bc_R 0), (1, bc_I a), (2, bc_I ((c_r v) 4)), (3, bc_I W), (4, bc_I cn), (5, bc_I mo), (6, bc_I 1), (7, bc_I (k + 1)), (8, bc_I x)] [] σ n2 := fun x n2 h2 => ih n2 [(8, bc_I x)] (by omega) (by omega) (by omega)
      refine hK.2 _ _ [(0, bc_R 0), (1, bc_I a), (2, bc_I ((c_r v) 4)), (3, bc_I W), (4, bc_I cn), (5, bc_I mo), (6, bc_I 1), (7, bc_I k)] _ _ _ (ls_ _ _) ?_
      refine hK.1 [32, 141, 219, 300, 391] 90 _ _ _ _ _ ?_
      refine bc_ob_i ⟨by constructor <;> omega, by constructor <;> omega⟩ ?_
      refine bc_br_i (fun _ => ?_) (fun c => (by omega : False).elim)
      refine bc_nb_i (by show n + 1 ≤ 1500; omega) rfl rfl ?_
      refine va (k + 1) t ht et (by omega) ?_
      refine bc_nb_i (by show n + 2 ≤ 1500; omega) rfl rfl ?_
      refine dd t ht ?_
      refine bc_nb_i (by show n + 3 ≤ 1500; omega) rfl rfl ?_
      refine va k s hs es (by omega) ?_
      refine bc_nb_i (by show n + 4 ≤ 1500; omega) rfl rfl ?_
      refine dd s hs ?_
      refine bc_ob_i (by decide) ?_
      refine bc_br_i (fun c => absurd c (by decide)) (fun _ => ?_)
      refine bc_ob_i (by constructor <;> omega) ?_
      refine bc_br_i (fun _ => next _ _ (by show n + 4 ≤ n + 6; omega)) (fun c1 => ?_)
      refine bc_ob_i (by constructor <;> omega) ?_
      refine bc_br_i (fun c2 => ?_) (fun c2 => (by omega : False).elim)
      refine bc_nb_i (by show n + 5 ≤ 1500; omega) rfl rfl ?_
      refine va k s hs es (by omega) ?_
      refine bc_nb_i (by show n + 6 ≤ 1500; omega) rfl rfl ?_
      refine va (k + 1) t ht et (by omega) ?_
      refine bc_ob_i ⟨by constructor <;> omega, by constructor <;> omega⟩ ?_
      exact bc_br_i (fun _ => next _ _ (by show n + 6 ≤ n + 6; omega)) (fun c => (by omega : False).elim)
  have A : ∀ (cn mo : Int), ((cn = 1 ∧ (∀ b : Int, 1 ≤ b → b ≤ 50 → 0 ≤ sp_ (c_r v) ((c_r v) 0 + b)) ∧ (mo ≤ sp_ (c_r v) ((c_r v) 0 + a)) ∧ (∀ k : Int, 0 ≤ k → k < (c_r v) 4 → (c_r v) 0 + a < (c_r v) (113 + 3 * k) → mo ≤ sp_ (c_r v) ((c_r v) (113 + 3 * k))) ∧ (mo = sp_ (c_r v) ((c_r v) 0 + a) ∨ ∃ k : Int, 0 ≤ k ∧ k < (c_r v) 4 ∧ (c_r v) 0 + a < (c_r v) (113 + 3 * k) ∧ mo = sp_ (c_r v) ((c_r v) (113 + 3 * k)))) ∨ (cn = 0 ∧ (∃ b : Int, 1 ≤ b ∧ b ≤ 50 ∧ sp_ (c_r v) ((c_r v) 0 + b) < 0) ∧ mo = -2004)) → (-3000 ≤ mo ∧ mo ≤ 100000000) → ∀ n : Nat, n ≤ 250 → K 32 [(0, bc_R 0), (1, bc_I a), (2, bc_I ((c_r v) 4)), (3, bc_I W), (4, bc_I cn), (5, bc_I mo)] [] σ n := by
    intro cn mo hc hmo n hn
    have bcn : cn = 0 ∨ cn = 1 := by rcases hc with ⟨e, -⟩ | ⟨e, -⟩ <;> omega
    have fin : ∀ n2 : Nat, n2 ≤ n + 100 → K 141 [(0, bc_R 0), (1, bc_I a), (2, bc_I ((c_r v) 4)), (3, bc_I W), (4, bc_I cn), (5, bc_I mo), (6, bc_I 1), (7, bc_I 0)] [] σ n2 := fun n2 h2 => T0 cn mo hc hmo 0 n2 [] (by decide) (by decide) (by omega)
    refine hK.1 [32, 141, 219, 300, 391] 120 _ _ _ _ _ ?_
    refine bc_nb_i (by show n + 0 ≤ 1500; omega) rfl rfl ?_
    refine t_X10_canKeepAllBySums hF (by omega) (fun x hx => ?_)
    have ex : x = cn := by
      rcases hx with ⟨e, q⟩ | ⟨e, k, k0, k1, k2⟩
      · rcases hc with ⟨e2, -⟩ | ⟨-, ⟨b, b0, b1, b2⟩, -⟩
        · omega
        · have := (vq_by hT).mp q b b0 b1
          omega
      · rcases hc with ⟨-, e2, -⟩ | ⟨e2, -⟩
        · have := (vq_by hT).mpr e2 k k0 k1
          omega
        · omega
    refine bc_ob_i ⟨by constructor <;> omega, by constructor <;> omega⟩ ?_
    refine bc_br_i (fun _ => ?_) (fun c => absurd ex c)
    refine bc_nb_i (by show n + 0 ≤ 1500; omega) rfl rfl ?_
    refine t_X10_day hF ?_
    refine bc_nb_i (by show n + 20 ≤ 1500; omega) rfl rfl ?_
    refine t_L_ask10 hF (by constructor <;> omega) (by decide) (by decide) (by omega) (fun _ => ?_) (fun q => absurd q.1 (by omega)) (fun q => absurd q.1 (by omega))
    refine bc_ob_i (by decide) ?_
    refine bc_br_i (fun _ => ?_) (fun c => absurd rfl c)
    refine bc_nb_i (by show n + 20 ≤ 1500; omega) rfl rfl ?_
    refine t_X10_day hF ?_
    refine bc_nb_i (by show n + 40 ≤ 1500; omega) rfl rfl ?_
    refine t_L_ask10 hF (by constructor <;> omega) (by decide) (by decide) (by omega) (fun _ => ?_) (fun q => absurd q.2 (by omega)) (fun q => absurd q.2 (by omega))
    refine bc_ob_i (by decide) ?_
    refine bc_br_i (fun _ => ?_) (fun c => absurd rfl c)
    refine bc_nb_i (by show n + 60 ≤ 1500; omega) rfl rfl ?_
    refine t_L_ask8 hF (by constructor <;> omega) (by decide) (by decide) (by omega) (fun _ => ?_) (fun s s0 s1 hs => (by have := vk_top s0 s1; omega : False).elim)
    refine bc_ob_i (by decide) ?_
    refine bc_br_i (fun _ => ?_) (fun c => absurd rfl c)
    refine bc_nb_i (by show n + 80 ≤ 1500; omega) rfl rfl ?_
    refine t_L_ask9 hF (by decide) (by decide) (by decide) (by omega) (fun _ => ?_) (fun s s0 s1 hs => (by have := (hid s ⟨s0, s1⟩).1; omega : False).elim)
    refine bc_ob_i (by decide) ?_
    refine bc_br_i (fun _ => ?_) (fun c => absurd rfl c)
    refine bc_ob_i (by constructor <;> omega) ?_
    refine bc_br_i (fun c0 => ?_) (fun c0 => ?_)
    · have em : mo = -2004 := by
        rcases hc with ⟨e, -⟩ | ⟨-, -, e⟩
        · omega
        · exact e
      refine bc_ob_i ⟨by constructor <;> omega, by decide⟩ ?_
      refine bc_br_i (fun _ => ?_) (fun c => absurd em c)
      exact fin _ (by show n + 80 ≤ n + 100; omega)
    · have em : 0 ≤ mo := by
        rcases hc with ⟨-, hall, q1, q2, q3⟩ | ⟨e, -⟩
        · exact (vq_gr hT (a := (c_r v) 0 + a) (x := mo) (by omega) hall q1 q2 q3).1
        · exact absurd e c0
      refine bc_ob_i (by constructor <;> omega) ?_
      refine bc_br_i (fun c => (by omega : False).elim) (fun _ => ?_)
      exact fin _ (by show n + 80 ≤ n + 100; omega)
  refine hK.1 [32, 141, 219, 300, 391] 60 _ _ _ _ _ ?_
  refine t_X10_vowCount hF ?_
  refine look (t := v.2) hF (by omega) ?_
  refine t_X10_canKeepAll hF (by omega) (fun cn hcn => ?_)
  refine t_X10_day hF ?_
  refine t_L_ask10 hF (by constructor <;> omega) (by decide) (by decide) (by omega) (fun q => absurd ⟨by omega, by omega⟩ q) (fun _ hx => ?_) (fun _ hall mo q1 q2 q3 => ?_)
  · refine A cn (-2004) (.inr ⟨?_, hx, rfl⟩) (by decide) _ (by decide)
    rcases hcn with ⟨-, q⟩ | ⟨e, -⟩
    · obtain ⟨b, b0, b1, b2⟩ := hx
      have := q b b0 b1
      omega
    · exact e
  · have l1 := sp_le hT (by omega) (a := (c_r v) 0 + a) (by omega) (by omega)
    have l0 := (vq_gr hT (a := (c_r v) 0 + a) (x := mo) (by omega) hall q1 q2 q3).1
    refine A cn mo (.inl ⟨?_, hall, q1, q2, q3⟩) (by omega) _ (by decide)
    rcases hcn with ⟨e, -⟩ | ⟨-, b, b0, b1, b2⟩
    · exact e
    · have := hall b b0 b1
      omega
end P60F
