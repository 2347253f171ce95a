section BDMEM
variable {sc : Nat × (Nat → Int32)} {g : bc_C} {d : Nat} {σ : bc_M} {B : Int} {v : cs_t} {Rr : Option bc_A → List bd_O → bc_M → Prop}
set_option maxRecDepth 20000 in
theorem t_L_areMembersRight (hsc : sc.1 < 2000) (hF : fa_ B σ v) (hU : uj_ (c_r v)) (hB : B ≤ 990000) (h : ∀ (σ' : bc_M) (v' : cs_t), fa_ B σ' v' → c_r v' = c_r v → Rr (some (bc_I 1)) [] σ') : bd_Sem sc g [] (d + 23) mL_areMembersRight [bc_R 0] σ Rr := by
  have hM := hF.1.1.2.1
  have w3 := hM.1
  have hak := ak_w hM hF.1.1.2.2.2 hU
  refine bd_enter2 hsc v_170 rfl mt_L_areMembersRight rfl (fun K hK hG => ?_)
  have w_crack : ∀ {σ1 : bc_M} {t : rw_t × rw_t × (List rw_t × Int) × ((Int → Int) × Int) × (List Int) × ((Int → Int) × gr_t) × (List Int) × Int × Int × Int} {m : Int}, fa_ B σ1 (c_r v, t) → 0 ≤ m → m < (c_r v) 3 → ∀ {D : Nat} {g1 : bc_C} {R1 : Option bc_A → bc_M → Prop} {X1 : Nat → bc_M → Prop}, R1 (some (bc_I ((c_r v) (19 + 6 * m)))) σ1 → bc_Sem g1 (D + 3) (bc_twin mX10_crack) [bc_R 0, bc_I m] σ1 R1 X1 := fun {_ _ _} F m0 m1 {_ _ _ _} q => t0_X10_crack F ⟨m0, m1⟩ q
  have w_wear : ∀ {σ1 : bc_M} {t : rw_t × rw_t × (List rw_t × Int) × ((Int → Int) × Int) × (List Int) × ((Int → Int) × gr_t) × (List Int) × Int × Int × Int} {m : Int}, fa_ B σ1 (c_r v, t) → 0 ≤ m → m < (c_r v) 3 → ∀ {D : Nat} {g1 : bc_C} {R1 : Option bc_A → bc_M → Prop} {X1 : Nat → bc_M → Prop}, R1 (some (bc_I ((c_r v) (20 + 6 * m)))) σ1 → bc_Sem g1 (D + 3) (bc_twin mX10_wear) [bc_R 0, bc_I m] σ1 R1 X1 := fun {_ _ _} F m0 m1 {_ _ _ _} q => t0_X10_wear F ⟨m0, m1⟩ q
  have w_isAbandoned : ∀ {σ1 : bc_M} {t : rw_t × rw_t × (List rw_t × Int) × ((Int → Int) × Int) × (List Int) × ((Int → Int) × gr_t) × (List Int) × Int × Int × Int} {m : Int}, fa_ B σ1 (c_r v, t) → 0 ≤ m → m < (c_r v) 3 → ∀ {D : Nat} {g1 : bc_C} {R1 : Option bc_A → bc_M → Prop} {X1 : Nat → bc_M → Prop}, R1 (some (bc_I ((c_r v) (21 + 6 * m)))) σ1 → bc_Sem g1 (D + 3) (bc_twin mX10_isAbandoned) [bc_R 0, bc_I m] σ1 R1 X1 := fun {_ _ _} F m0 m1 {_ _ _ _} q => t0_X10_isAbandoned F ⟨m0, m1⟩ q
  have w_firstJoint : ∀ {σ1 : bc_M} {t : rw_t × rw_t × (List rw_t × Int) × ((Int → Int) × Int) × (List Int) × ((Int → Int) × gr_t) × (List Int) × Int × Int × Int} {m : Int}, fa_ B σ1 (c_r v, t) → 0 ≤ m → m < (c_r v) 3 → ∀ {D : Nat} {g1 : bc_C} {R1 : Option bc_A → bc_M → Prop} {X1 : Nat → bc_M → Prop}, R1 (some (bc_I ((c_r v) (16 + 6 * m)))) σ1 → bc_Sem g1 (D + 3) (bc_twin mX10_firstJoint) [bc_R 0, bc_I m] σ1 R1 X1 := fun {_ _ _} F m0 m1 {_ _ _ _} q => t0_X10_firstJoint F ⟨m0, m1⟩ q
  have w_secondJoint : ∀ {σ1 : bc_M} {t : rw_t × rw_t × (List rw_t × Int) × ((Int → Int) × Int) × (List Int) × ((Int → Int) × gr_t) × (List Int) × Int × Int × Int} {m : Int}, fa_ B σ1 (c_r v, t) → 0 ≤ m → m < (c_r v) 3 → ∀ {D : Nat} {g1 : bc_C} {R1 : Option bc_A → bc_M → Prop} {X1 : Nat → bc_M → Prop}, R1 (some (bc_I ((c_r v) (17 + 6 * m)))) σ1 → bc_Sem g1 (D + 3) (bc_twin mX10_secondJoint) [bc_R 0, bc_I m] σ1 R1 X1 := fun {_ _ _} F m0 m1 {_ _ _ _} q => t0_X10_secondJoint F ⟨m0, m1⟩ q
  have w_bearing : ∀ {σ1 : bc_M} {t : rw_t × rw_t × (List rw_t × Int) × ((Int → Int) × Int) × (List Int) × ((Int → Int) × gr_t) × (List Int) × Int × Int × Int} {m : Int}, fa_ B σ1 (c_r v, t) → 0 ≤ m → m < (c_r v) 3 → ∀ {D : Nat} {g1 : bc_C} {R1 : Option bc_A → bc_M → Prop} {X1 : Nat → bc_M → Prop}, R1 (some (bc_I (br_ (c_r v) m))) σ1 → bc_Sem g1 (D + 3) (bc_twin mX10_bearing) [bc_R 0, bc_I m] σ1 R1 X1 := fun {_ _ _} F m0 m1 {_ _ _ _} q => t0_X10_bearing F ⟨m0, m1⟩ q
  have w_repairCost : ∀ {σ1 : bc_M} {t : rw_t × rw_t × (List rw_t × Int) × ((Int → Int) × Int) × (List Int) × ((Int → Int) × gr_t) × (List Int) × Int × Int × Int} {m : Int}, fa_ B σ1 (c_r v, t) → 0 ≤ m → m < (c_r v) 3 → ∀ {D : Nat} {g1 : bc_C} {R1 : Option bc_A → bc_M → Prop} {X1 : Nat → bc_M → Prop}, R1 (some (bc_I (co_ (c_r v) m))) σ1 → bc_Sem g1 (D + 3) (bc_twin mX10_repairCost) [bc_R 0, bc_I m] σ1 R1 X1 := fun {_ _ _} F m0 m1 {_ _ _ _} q => t0_X10_repairCost F ⟨m0, m1⟩ q
  have nix : ∀ {m : Int} {q : Prop}, 0 ≤ m → m < (c_r v) 3 → ix_ (c_r v) m = 1 → q := fun m0 m1 hi => by
    exfalso
    unfold ix_ at hi
    rw [if_pos ⟨m0, m1⟩] at hi
    exact absurd hi (by decide)
  have w_crit : ∀ {σ1 : bc_M} {t : rw_t × rw_t × (List rw_t × Int) × ((Int → Int) × Int) × (List Int) × ((Int → Int) × gr_t) × (List Int) × Int × Int × Int} {m : Int}, fa_ B σ1 (c_r v, t) → 0 ≤ m → m < (c_r v) 3 → ∀ {D : Nat} {g1 : bc_C} {R1 : Option bc_A → bc_M → Prop} {X1 : Nat → bc_M → Prop}, (∀ σ2, fa_ B σ2 (c_r v, t) → R1 (some (bc_I (cq_ (c_r v) m))) σ2) → bc_Sem g1 (D + 8 + 4) mX10_isCritical [bc_R 0, bc_I m] σ1 R1 X1 := fun {_ _ _} F m0 m1 {_ _ _ _} q => t_X10_isCritical F (by constructor <;> omega) (nix m0 m1) (fun _ _ σ2 F2 _ => q σ2 F2)
  have w_remo : ∀ {σ1 : bc_M} {t : rw_t × rw_t × (List rw_t × Int) × ((Int → Int) × Int) × (List Int) × ((Int → Int) × gr_t) × (List Int) × Int × Int × Int} {m : Int}, fa_ B σ1 (c_r v, t) → 0 ≤ m → m < (c_r v) 3 → ∀ {D : Nat} {g1 : bc_C} {R1 : Option bc_A → bc_M → Prop} {X1 : Nat → bc_M → Prop}, R1 (some (bc_I (cq_ (c_r v) m))) σ1 → bc_Sem g1 (D + 4) mX10_isCriticalByRemoval [bc_R 0, bc_I m] σ1 R1 X1 := fun {_ _ m} F m0 m1 {_ _ _ _} q => by
    have ec := (cr1_acr hM hU ⟨m0, m1⟩).trans (cq_acr hM hU ⟨m0, m1⟩).symm
    rw [← ec] at q
    exact t_X10_isCriticalByRemoval F (by constructor <;> omega) (nix m0 m1) (fun _ _ => q)
  have w_rend : ∀ {σ1 : bc_M} {t : rw_t × rw_t × (List rw_t × Int) × ((Int → Int) × Int) × (List Int) × ((Int → Int) × gr_t) × (List Int) × Int × Int × Int} {m : Int}, fa_ B σ1 (c_r v, t) → 0 ≤ m → m < (c_r v) 3 → ∀ {D : Nat} {g1 : bc_C} {R1 : Option bc_A → bc_M → Prop} {X1 : Nat → bc_M → Prop}, (∀ σ2, fa_ B σ2 (u_o (c_r v, t) (om_ (c_r v) m)) → R1 (some (bc_I ((om_ (c_r v) m).length))) σ2) → bc_Sem g1 (D + 3) mX10_renderMember [bc_R 0, bc_I m] σ1 R1 X1 := fun {_ _ _} F m0 m1 {_ _ _ _} q => t_X10_renderMember F (by constructor <;> omega) (nix m0 m1) (fun _ _ σ2 F2 _ => q σ2 F2)
  have el := eq_links hM hU
  have E : ∀ (g' : bc_C) (σ1 : bc_M) (t : rw_t × rw_t × (List rw_t × Int) × ((Int → Int) × Int) × (List Int) × ((Int → Int) × gr_t) × (List Int) × Int × Int × Int) (x : Int) (n : Nat), fa_ B σ1 (c_r v, t) → n ≤ 15000 → K g' [] 610 [(0, bc_R 0), (1, bc_I ((c_r v) 3)), (2, bc_I (sm_ (br_ (c_r v)) ((c_r v) 3).toNat)), (3, bc_I (sm_ (fun k => if 0 < (c_r v) (19 + 6 * k) then 1 else 0) ((c_r v) 3).toNat)), (4, bc_J (lnk_ (c_r v) ((c_r v) 3).toNat)), (6, bc_I 1), (7, bc_I x)] [] σ1 n := by
    intro g' σ1 t x n F1 hn
    refine hK.1 [610, 655] 90 _ _ _ _ _ _ _ ?_
    refine bc_ob_i (by first | omega | decide | (constructor <;> omega) | (constructor <;> constructor <;> omega)) ?_
    refine bc_br_i (fun c => absurd c (by decide)) (fun _ => ?_)
    refine bc_nb_i (by show n + 0 ≤ 20000; omega) rfl rfl ?_
    refine fun Z => t_X10_links F1 (fun σ2 F2 _ => ?_)
    have e0 : (lg_cmp (lf_ (sa_ (c_r v)) 8) (lnk_ (c_r v) ((c_r v) 3).toNat)).toInt = 0 := by
      rw [el]
      show (lg_cmp (lnk_ (c_r v) ((c_r v) 3).toNat) (lnk_ (c_r v) ((c_r v) 3).toNat)).toInt = 0
      rw [lg0_]
      rfl
    refine bc_ob_i (by show bc_in (lg_cmp (lf_ (sa_ (c_r v)) 8) (lnk_ (c_r v) ((c_r v) 3).toNat)).toInt; rw [e0]; decide) ?_
    refine bc_br_i (fun _ => ?_) (fun c => absurd e0 c)
    have fin : ∀ (σ3 : bc_M) (n' : Nat), fa_ B σ3 (c_r v, t) → n' ≤ 15002 → K g' [] 655 [(0, bc_R 0), (1, bc_I ((c_r v) 3)), (2, bc_I (sm_ (br_ (c_r v)) ((c_r v) 3).toNat)), (3, bc_I (sm_ (fun k => if 0 < (c_r v) (19 + 6 * k) then 1 else 0) ((c_r v) 3).toNat)), (4, bc_J (lnk_ (c_r v) ((c_r v) 3).toNat)), (6, bc_I 1), (7, bc_I x)] [] σ3 n' := by
      intro σ3 n' F3 hn'
      refine hK.1 [655] 60 _ _ _ _ _ _ _ ?_
      refine bc_nb_i (by show n' + 0 ≤ 20000; omega) rfl rfl ?_
      refine fun Z => t_X10_isConsistent F3 (by omega) (fun _ σ4 F4 _ => ?_) (fun hno => (hno hak).elim)
      refine bc_ob_i (by first | omega | decide | (constructor <;> omega) | (constructor <;> constructor <;> omega)) ?_
      refine bc_br_i (fun c => absurd c (by decide)) (fun _ => ?_)
      refine bc_ob_i (by first | omega | decide | (constructor <;> omega) | (constructor <;> constructor <;> omega)) ?_
      exact bd_rt (h σ4 _ F4 rfl)
    refine bc_ob_i (by first | omega | decide | (constructor <;> omega) | (constructor <;> constructor <;> omega)) ?_
    refine bc_br_i (fun _ => ?_) (fun hne => ?_)
    · exact fin σ2 (n + 0) F2 (by omega)
    · have z3 : 0 < (c_r v) 3 := by omega
      have vd : vf_n64 (FP.ddiv (FP.i2d (Int32.ofInt (sm_ (br_ (c_r v)) ((c_r v) 3).toNat))) (FP.i2d (Int32.ofInt ((c_r v) 3)))) := vn_ddiv (vn_id_ _) (nz6_i (by omega) (by omega))
      have vf : vf_n32 (FP.fdiv (FP.i2f (Int32.ofInt (sm_ (fun k => if 0 < (c_r v) (19 + 6 * k) then 1 else 0) ((c_r v) 3).toNat))) (FP.i2f (Int32.ofInt ((c_r v) 3)))) := vn_fdiv (vn_if_ _) (nz3_i (by omega) (by omega))
      have d0 := dcr_ vd
      have f0 := fcr_ vf
      refine bc_nb_i (by show n + 1 ≤ 20000; omega) rfl rfl ?_
      refine fun Z => t_X10_meanBearing F2 (fun z => by have z : (c_r v) 3 = 0 := z; omega) (fun _ => ?_)
      refine bc_ob_i vd ?_
      refine bc_ob_i (by show bc_in (Op.cmpValue (FP.dcmp (FP.ddiv (FP.i2d (Int32.ofInt (sm_ (br_ (c_r v)) ((c_r v) 3).toNat))) (FP.i2d (Int32.ofInt ((c_r v) 3)))) (FP.ddiv (FP.i2d (Int32.ofInt (sm_ (br_ (c_r v)) ((c_r v) 3).toNat))) (FP.i2d (Int32.ofInt ((c_r v) 3))))) .l).toInt; rw [d0]; decide) ?_
      refine bc_br_i (fun _ => ?_) (fun c => absurd d0 c)
      refine bc_nb_i (by show n + 2 ≤ 20000; omega) rfl rfl ?_
      refine fun Z => t_X10_crackedShare F2 (fun z => by have z : (c_r v) 3 = 0 := z; omega) (fun _ => ?_)
      refine bc_ob_i vf ?_
      refine bc_ob_i (by show bc_in (Op.cmpValue (FP.fcmp (FP.fdiv (FP.i2f (Int32.ofInt (sm_ (fun k => if 0 < (c_r v) (19 + 6 * k) then 1 else 0) ((c_r v) 3).toNat))) (FP.i2f (Int32.ofInt ((c_r v) 3)))) (FP.fdiv (FP.i2f (Int32.ofInt (sm_ (fun k => if 0 < (c_r v) (19 + 6 * k) then 1 else 0) ((c_r v) 3).toNat))) (FP.i2f (Int32.ofInt ((c_r v) 3))))) .l).toInt; rw [f0]; decide) ?_
      refine bc_br_i (fun _ => ?_) (fun c => absurd f0 c)
      exact fin σ2 (n + 2) F2 (by omega)
  have R1 : ∀ (g' : bc_C) (σ1 : bc_M) (t : rw_t × rw_t × (List rw_t × Int) × ((Int → Int) × Int) × (List Int) × ((Int → Int) × gr_t) × (List Int) × Int × Int × Int), fa_ B σ1 (c_r v, t) → ∀ k : Int, ∀ (z : bc_LV) (n : Nat), 0 ≤ k → (n : Int) ≤ 14000 + 2 * k → k ≤ 16 → K g' [] 509 ([(0, bc_R 0), (1, bc_I ((c_r v) 3)), (2, bc_I (sm_ (br_ (c_r v)) ((c_r v) 3).toNat)), (3, bc_I (sm_ (fun k => if 0 < (c_r v) (19 + 6 * k) then 1 else 0) ((c_r v) 3).toNat)), (4, bc_J (lnk_ (c_r v) ((c_r v) 3).toNat)), (6, bc_I 1), (7, bc_I k)] ++ z) [] σ1 n := by
    intro g' σ1 t F1
    refine up_ind ((c_r v) 3 - 1) (fun k hk z n k0 hn k9 => ?_) (fun k hk ih z n k0 hn k9 => ?_)
    · refine hK.2 _ _ _ _ [(0, bc_R 0), (1, bc_I ((c_r v) 3)), (2, bc_I (sm_ (br_ (c_r v)) ((c_r v) 3).toNat)), (3, bc_I (sm_ (fun k => if 0 < (c_r v) (19 + 6 * k) then 1 else 0) ((c_r v) 3).toNat)), (4, bc_J (lnk_ (c_r v) ((c_r v) 3).toNat)), (6, bc_I 1), (7, bc_I k)] _ _ _ (ls_ _ _) ?_
      refine hK.1 [509, 610] 60 _ _ _ _ _ _ _ ?_
      refine bc_ob_i (by first | omega | decide | (constructor <;> omega) | (constructor <;> constructor <;> omega)) ?_
      refine bc_br_i (fun c => (by omega : False).elim) (fun _ => ?_)
      exact E g' σ1 t k n F1 (by omega)
    · refine hK.2 _ _ _ _ [(0, bc_R 0), (1, bc_I ((c_r v) 3)), (2, bc_I (sm_ (br_ (c_r v)) ((c_r v) 3).toNat)), (3, bc_I (sm_ (fun k => if 0 < (c_r v) (19 + 6 * k) then 1 else 0) ((c_r v) 3).toNat)), (4, bc_J (lnk_ (c_r v) ((c_r v) 3).toNat)), (6, bc_I 1), (7, bc_I k)] _ _ _ (ls_ _ _) ?_
      obtain ⟨s, ⟨s0, s1⟩, es⟩ := rk_sur (r := c_r v) k0 (by omega)
      obtain ⟨u, ⟨u0, u1⟩, eu⟩ := rk_sur (r := c_r v) (a := k + 1) (by omega) (by omega)
      have od := rk_ord ⟨s0, s1⟩ ⟨u0, u1⟩ es eu
      have ls := br_le hM s0 (by omega)
      have lu := br_le hM u0 (by omega)
      obtain ⟨-, -, -, gs, -, -⟩ := hM.2 s s0 (by omega)
      obtain ⟨-, -, -, gu, -, -⟩ := hM.2 u u0 (by omega)
      have mb : ∀ {a w : Int}, 0 ≤ w → w < (c_r v) 3 → rk_ (c_r v) w = a → ∀ {D : Nat} {g1 : bc_C} {R9 : Option bc_A → bc_M → Prop} {X9 : Nat → bc_M → Prop}, R9 (some (bc_I w)) σ1 → bc_Sem g1 (D + 5) mX10_memberByBearing [bc_R 0, bc_I a] σ1 R9 X9 := fun {a w} w0 w1 ew {_ _ _ _} q => by
        have ra := rk_top (r := c_r v) w0 w1
        refine t_X10_memberByBearing F1 (by constructor <;> omega) (fun no => absurd ew (no w w0 w1)) (fun y y0 y1 ey => ?_)
        have e9 : y = w := rk_inj ⟨y0, y1⟩ ⟨w0, w1⟩ (ey.trans ew.symm)
        rw [e9]
        exact q
      have P602 : ∀ n' : Nat, (n' : Int) ≤ 14000 + 2 * k + 2 → K g' [] 602 [(0, bc_R 0), (1, bc_I ((c_r v) 3)), (2, bc_I (sm_ (br_ (c_r v)) ((c_r v) 3).toNat)), (3, bc_I (sm_ (fun k => if 0 < (c_r v) (19 + 6 * k) then 1 else 0) ((c_r v) 3).toNat)), (4, bc_J (lnk_ (c_r v) ((c_r v) 3).toNat)), (6, bc_I 1), (7, bc_I k), (8, bc_I s), (9, bc_I u), (10, bc_I (br_ (c_r v) u - br_ (c_r v) s)), (11, bc_I ((c_r v) (19 + 6 * s) - (c_r v) (19 + 6 * u)))] [bc_I 1] σ1 n' := by
        intro n' hn'
        refine hK.1 [509, 602] 60 _ _ _ _ _ _ _ ?_
        exact ih [(8, bc_I s), (9, bc_I u), (10, bc_I (br_ (c_r v) u - br_ (c_r v) s)), (11, bc_I ((c_r v) (19 + 6 * s) - (c_r v) (19 + 6 * u)))] n' (by omega) (by omega) (by omega)
      refine hK.1 [509, 602, 610] 90 _ _ _ _ _ _ _ ?_
      refine bc_ob_i (by first | omega | decide | (constructor <;> omega) | (constructor <;> constructor <;> omega)) ?_
      refine bc_br_i (fun _ => ?_) (fun c => (by omega : False).elim)
      refine bc_nb_i (by show n + 1 ≤ 20000; omega) rfl rfl ?_
      refine fun Z => mb s0 s1 es ?_
      refine bc_nb_i (by show n + 2 ≤ 20000; omega) rfl rfl ?_
      refine fun Z => mb u0 u1 eu ?_
      refine bc_nb_i (by show n + 2 ≤ 20000; omega) rfl rfl ?_
      refine fun Z => w_bearing F1 u0 u1 ?_
      refine bc_nb_i (by show n + 2 ≤ 20000; omega) rfl rfl ?_
      refine fun Z => w_bearing F1 s0 s1 ?_
      refine bc_nb_i (by show n + 2 ≤ 20000; omega) rfl rfl ?_
      refine fun Z => w_crack F1 s0 s1 ?_
      refine bc_nb_i (by show n + 2 ≤ 20000; omega) rfl rfl ?_
      refine fun Z => w_crack F1 u0 u1 ?_
      have P := P602 (n + 2) (by omega)
      have od : 0 < br_ (c_r v) u - br_ (c_r v) s ∨ br_ (c_r v) u - br_ (c_r v) s = 0 ∧ (0 < (c_r v) (19 + 6 * s) - (c_r v) (19 + 6 * u) ∨ (c_r v) (19 + 6 * s) - (c_r v) (19 + 6 * u) = 0 ∧ s < u) := od
      have r1 : bc_in (br_ (c_r v) u - br_ (c_r v) s) := by constructor <;> omega
      have r2 : bc_in ((c_r v) (19 + 6 * s) - (c_r v) (19 + 6 * u)) := by constructor <;> omega
      refine bc_ob_i (by first | omega | decide | (constructor <;> omega) | (constructor <;> constructor <;> omega)) ?_
      refine bc_br_i (fun c => absurd c (by decide)) (fun _ => ?_)
      refine bc_ob_i r1 ?_
      refine bc_br_i (fun _ => P) (fun c1 => ?_)
      refine bc_ob_i r1 ?_
      refine bc_br_i (fun c2 => ?_) (fun c => (by omega : False).elim)
      refine bc_ob_i r2 ?_
      refine bc_br_i (fun _ => P) (fun c3 => ?_)
      refine bc_ob_i r2 ?_
      refine bc_br_i (fun c4 => ?_) (fun c => (by omega : False).elim)
      refine bc_ob_i (by first | omega | decide | (constructor <;> omega) | (constructor <;> constructor <;> omega)) ?_
      refine bc_br_i (fun _ => P) (fun c => (by omega : False).elim)
  have M1 : ∀ k : Int, ∀ (g' : bc_C) (σ1 : bc_M) (t : rw_t × rw_t × (List rw_t × Int) × ((Int → Int) × Int) × (List Int) × ((Int → Int) × gr_t) × (List Int) × Int × Int × Int) (z : bc_LV) (n : Nat), fa_ B σ1 (c_r v, t) → 0 ≤ k → k ≤ (c_r v) 3 → (n : Int) ≤ 200 + 600 * k → K g' [] 100 ([(0, bc_R 0), (1, bc_I ((c_r v) 3)), (2, bc_I (sm_ (br_ (c_r v)) k.toNat)), (3, bc_I (sm_ (fun k => if 0 < (c_r v) (19 + 6 * k) then 1 else 0) k.toNat)), (4, bc_J (lnk_ (c_r v) k.toNat)), (6, bc_I 1), (7, bc_I (k))] ++ z) [] σ1 n := by
    refine up_ind ((c_r v) 3) (fun k hk g' σ1 t z n F1 k0 k1 hn => ?_) (fun k hk ih g' σ1 t z n F1 k0 k1 hn => ?_)
    · refine hK.2 _ _ _ _ [(0, bc_R 0), (1, bc_I ((c_r v) 3)), (2, bc_I (sm_ (br_ (c_r v)) k.toNat)), (3, bc_I (sm_ (fun k => if 0 < (c_r v) (19 + 6 * k) then 1 else 0) k.toNat)), (4, bc_J (lnk_ (c_r v) k.toNat)), (6, bc_I 1), (7, bc_I (k))] _ _ _ (ls_ _ _) ?_
      have e : k = (c_r v) 3 := by omega
      subst e
      refine hK.1 [100, 509] 60 _ _ _ _ _ _ _ ?_
      refine bc_ob_i (by first | omega | decide | (constructor <;> omega) | (constructor <;> constructor <;> omega)) ?_
      refine bc_br_i (fun c => (by omega : False).elim) (fun _ => ?_)
      exact R1 g' σ1 t F1 0 [] n (by decide) (by omega) (by decide)
    · refine hK.2 _ _ _ _ [(0, bc_R 0), (1, bc_I ((c_r v) 3)), (2, bc_I (sm_ (br_ (c_r v)) k.toNat)), (3, bc_I (sm_ (fun k => if 0 < (c_r v) (19 + 6 * k) then 1 else 0) k.toNat)), (4, bc_J (lnk_ (c_r v) k.toNat)), (6, bc_I 1), (7, bc_I (k))] _ _ _ (ls_ _ _) ?_
      have hm : bc_in k := by constructor <;> omega
      obtain ⟨g0, g1, g2, g3, g4, g5⟩ := hM.2 k k0 (by omega)
      have bl := br_le hM k0 (by omega : k < 16)
      have ju := hU.1 k k0 hk
      have m1 := mul_le g2.1 g2.2 (b := 10 - (c_r v) (19 + 6 * k)) (B := 10) (by omega) (by omega)
      have m2 := mul_le (a := ((c_r v) (18 + 6 * k) + 9) / 10) (A := 10) (b := (c_r v) (19 + 6 * k)) (B := 9) (by omega) (by omega) g3.1 g3.2
      have no : ∀ {q : Prop}, ix_ (c_r v) k = 1 → q := fun hi => by
        exfalso
        unfold ix_ at hi
        rw [if_pos ⟨k0, hk⟩] at hi
        exact absurd hi (by decide)
      have P498 : ∀ (g2 : bc_C) (σ2 : bc_M) (t2 : rw_t × rw_t × (List rw_t × Int) × ((Int → Int) × Int) × (List Int) × ((Int → Int) × gr_t) × (List Int) × Int × Int × Int) (n' : Nat), fa_ B σ2 (c_r v, t2) → (n' : Int) ≤ 200 + 600 * k + 534 → K g2 [] 498 [(0, bc_R 0), (1, bc_I ((c_r v) 3)), (2, bc_I (sm_ (br_ (c_r v)) (k + 1).toNat)), (3, bc_I (sm_ (fun k => if 0 < (c_r v) (19 + 6 * k) then 1 else 0) (k + 1).toNat)), (4, bc_J (lnk_ (c_r v) (k + 1).toNat)), (6, bc_I 1), (7, bc_I (k)), (8, bc_I ((c_r v) (18 + 6 * k))), (9, bc_I ((c_r v) (19 + 6 * k))), (10, bc_I (br_ (c_r v) k)), (11, bc_I ((c_r v) (16 + 6 * k))), (12, bc_I ((c_r v) (17 + 6 * k)))] [bc_I 1] σ2 n' := by
        intro g2 σ2 t2 n' F2 hn'
        refine hK.1 [100, 498] 60 _ _ _ _ _ _ _ ?_
        exact ih g2 σ2 t2 [(8, bc_I ((c_r v) (18 + 6 * k))), (9, bc_I ((c_r v) (19 + 6 * k))), (10, bc_I (br_ (c_r v) k)), (11, bc_I ((c_r v) (16 + 6 * k))), (12, bc_I ((c_r v) (17 + 6 * k)))] n' F2 (by omega) (by omega) (by omega)
      have P475 : ∀ (g2 : bc_C) (σ2 : bc_M) (t2 : rw_t × rw_t × (List rw_t × Int) × ((Int → Int) × Int) × (List Int) × ((Int → Int) × gr_t) × (List Int) × Int × Int × Int) (x : Int) (n' : Nat), fa_ B σ2 (c_r v, t2) → x = cq_ (c_r v) k → (n' : Int) ≤ 200 + 600 * k + 532 → K g2 [] 475 [(0, bc_R 0), (1, bc_I ((c_r v) 3)), (2, bc_I (sm_ (br_ (c_r v)) (k + 1).toNat)), (3, bc_I (sm_ (fun k => if 0 < (c_r v) (19 + 6 * k) then 1 else 0) (k + 1).toNat)), (4, bc_J (lnk_ (c_r v) (k + 1).toNat)), (6, bc_I 1), (7, bc_I (k)), (8, bc_I ((c_r v) (18 + 6 * k))), (9, bc_I ((c_r v) (19 + 6 * k))), (10, bc_I (br_ (c_r v) k)), (11, bc_I ((c_r v) (16 + 6 * k))), (12, bc_I ((c_r v) (17 + 6 * k)))] [bc_I x, bc_I (cq_ (c_r v) k)] σ2 n' := by
        intro g2 σ2 t2 x n' F2 hx hn'
        have c01 : cq_ (c_r v) k = 0 ∨ cq_ (c_r v) k = 1 := by
          rw [cq_rc hM hU ⟨k0, hk⟩]
          split
          · exact .inr rfl
          · exact .inl rfl
        subst hx
        refine hK.1 [475, 498] 60 _ _ _ _ _ _ _ ?_
        refine bc_ob_i (by first | omega | decide | (constructor <;> omega) | (constructor <;> constructor <;> omega)) ?_
        refine bc_br_i (fun _ => ?_) (fun c => absurd rfl c)
        refine bc_nb_i (by show n' + 1 ≤ 20000; omega) rfl rfl ?_
        refine fun Z => w_remo F2 k0 hk ?_
        refine bc_nb_i (by show n' + 2 ≤ 20000; omega) rfl rfl ?_
        refine fun Z => w_crit F2 k0 hk (fun σ3 F3 => ?_)
        have P := P498 g2 σ3 t2 (n' + 2) F3 (by omega)
        refine bc_ob_i (by first | omega | decide | (constructor <;> omega) | (constructor <;> constructor <;> omega)) ?_
        refine bc_br_i (fun _ => ?_) (fun c => absurd rfl c)
        exact P
      have P438 : ∀ (g2 : bc_C) (σ2 : bc_M) (t2 : rw_t × rw_t × (List rw_t × Int) × ((Int → Int) × Int) × (List Int) × ((Int → Int) × gr_t) × (List Int) × Int × Int × Int) (n' : Nat), fa_ B σ2 (c_r v, t2) → (n' : Int) ≤ 200 + 600 * k + 131 → K g2 [] 438 [(0, bc_R 0), (1, bc_I ((c_r v) 3)), (2, bc_I (sm_ (br_ (c_r v)) (k + 1).toNat)), (3, bc_I (sm_ (fun k => if 0 < (c_r v) (19 + 6 * k) then 1 else 0) (k + 1).toNat)), (4, bc_J (lnk_ (c_r v) (k + 1).toNat)), (6, bc_I 1), (7, bc_I (k)), (8, bc_I ((c_r v) (18 + 6 * k))), (9, bc_I ((c_r v) (19 + 6 * k))), (10, bc_I (br_ (c_r v) k)), (11, bc_I ((c_r v) (16 + 6 * k))), (12, bc_I ((c_r v) (17 + 6 * k)))] [bc_I 1] σ2 n' := by
        intro g2 σ2 t2 n' F2 hn'
        have cq := cq_rc hM hU ⟨k0, hk⟩
        refine hK.1 [438, 475] 60 _ _ _ _ _ _ _ ?_
        refine bc_ob_i (by first | omega | decide | (constructor <;> omega) | (constructor <;> constructor <;> omega)) ?_
        refine bc_br_i (fun c => absurd c (by decide)) (fun _ => ?_)
        refine bc_nb_i (by show n' + 1 ≤ 20000; omega) rfl rfl ?_
        refine fun Z => w_crit F2 k0 hk (fun σ3 F3 => ?_)
        refine bc_ob_i (by first | omega | decide | (constructor <;> omega) | (constructor <;> constructor <;> omega)) ?_
        refine bc_br_i (fun c1 => ?_) (fun c1 => ?_)
        · refine bc_nb_i (by show n' + 1 + 400 ≤ 20000; omega) rfl rfl ?_
          refine fun Z => t_L_reaches F3 g0.1 (by omega) g1.1 (by omega) (by decide) hm ?_
          by_cases tb : (rc_ (c_r v) 1 k ((c_r v) (16 + 6 * k)) 8).testBit ((c_r v) (17 + 6 * k)).toNat = true
          · rw [if_pos tb]
            refine bc_ob_i (by first | omega | decide | (constructor <;> omega) | (constructor <;> constructor <;> omega)) ?_
            refine bc_br_i (fun c => absurd c (by decide)) (fun _ => ?_)
            exact P475 g2 σ3 t2 0 (n' + 1 + 400) F3 (by rw [cq, if_neg (fun z => z.2 tb)]) (by omega)
          · rw [if_neg tb]
            refine bc_ob_i (by first | omega | decide | (constructor <;> omega) | (constructor <;> constructor <;> omega)) ?_
            refine bc_br_i (fun _ => ?_) (fun c => absurd rfl c)
            exact P475 g2 σ3 t2 1 (n' + 1 + 400) F3 (by rw [cq, if_pos ⟨c1, tb⟩]) (by omega)
        · exact P475 g2 σ3 t2 0 (n' + 1) F3 (by rw [cq, if_neg (fun z => c1 z.1)]) (by omega)
      have P369 : ∀ (g2 : bc_C) (D : List bd_O) (σ2 : bc_M) (t2 : rw_t × rw_t × (List rw_t × Int) × ((Int → Int) × Int) × (List Int) × ((Int → Int) × gr_t) × (List Int) × Int × Int × Int) (n' : Nat), fa_ B σ2 (c_r v, t2) → (n' : Int) ≤ 200 + 600 * k + 129 → K g2 D 369 [(0, bc_R 0), (1, bc_I ((c_r v) 3)), (2, bc_I (sm_ (br_ (c_r v)) (k + 1).toNat)), (3, bc_I (sm_ (fun k => if 0 < (c_r v) (19 + 6 * k) then 1 else 0) (k + 1).toNat)), (4, bc_J (lnk_ (c_r v) (k + 1).toNat)), (6, bc_I 1), (7, bc_I (k)), (8, bc_I ((c_r v) (18 + 6 * k))), (9, bc_I ((c_r v) (19 + 6 * k))), (10, bc_I (br_ (c_r v) k)), (11, bc_I ((c_r v) (16 + 6 * k))), (12, bc_I ((c_r v) (17 + 6 * k)))] [bc_I 1] σ2 n' := by
        intro g2 D σ2 t2 n' F2 hn'
        refine hG.1 0 _ _ _ _ _ _ _ (Nat.zero_le _) ?_
        show K g2 [] 369 [(0, bc_R 0), (1, bc_I ((c_r v) 3)), (2, bc_I (sm_ (br_ (c_r v)) (k + 1).toNat)), (3, bc_I (sm_ (fun k => if 0 < (c_r v) (19 + 6 * k) then 1 else 0) (k + 1).toNat)), (4, bc_J (lnk_ (c_r v) (k + 1).toNat)), (6, bc_I 1), (7, bc_I (k)), (8, bc_I ((c_r v) (18 + 6 * k))), (9, bc_I ((c_r v) (19 + 6 * k))), (10, bc_I (br_ (c_r v) k)), (11, bc_I ((c_r v) (16 + 6 * k))), (12, bc_I ((c_r v) (17 + 6 * k)))] [bc_I 1] σ2 n'
        have m7 : bc_in (7 * k) := by constructor <;> omega
        refine hK.1 [369, 438] 90 _ _ _ _ _ _ _ ?_
        refine bc_ob_i (by first | omega | decide | (constructor <;> omega) | (constructor <;> constructor <;> omega)) ?_
        refine bc_br_i (fun c => absurd c (by decide)) (fun _ => ?_)
        refine bc_ob_i (by first | omega | decide | (constructor <;> omega) | (constructor <;> constructor <;> omega)) ?_
        refine bc_br_i (fun _ => P438 g2 σ2 t2 n' F2 (by omega)) (fun c1 => ?_)
        have tq : tq_ (c_r v) k = 0 := by
          unfold tq_
          rw [if_neg (fun z => z ⟨k0, hk⟩), if_neg c1]
        have st0 : stt_ (c_r v) k = 0 := by
          unfold stt_
          rw [if_neg (fun z => z ⟨k0, hk⟩), if_neg (fun z => z (by omega))]
        have sv := stv_n hM (m := k) (7 * k) st0
        have e0 : (Op.cmpValue (FP.fcmp (stv_ (c_r v) k (7 * k)) (stv_ (c_r v) k (7 * k))) .l).toInt = 0 := fcr_ sv
        refine bc_nb_i (by show n' + 1 ≤ 20000; omega) rfl rfl ?_
        refine fun Z => t_X10_strain F2 hm (fun e he => by have he : tq_ (c_r v) k = e + 1 := he; omega) (fun _ => ?_)
        refine bc_ob_i sv ?_
        refine bc_ob_i (by show bc_in (Op.cmpValue (FP.fcmp (stv_ (c_r v) k (7 * k)) (stv_ (c_r v) k (7 * k))) .l).toInt; rw [e0]; decide) ?_
        refine bc_br_i (fun _ => ?_) (fun c => absurd e0 c)
        refine bc_nb_i (by show n' + 2 ≤ 20000; omega) rfl rfl ?_
        refine fun Z => t_X10_strainBitsV F2 hm m7 (fun e he => by have he : tq_ (c_r v) k = e + 1 := he; omega) (fun _ => ?_)
        refine bc_ob_i sv ?_
        refine bc_ob_i ⟨sv, by show 1 ≤ 4; decide⟩ ?_
        refine bc_ob_i ⟨bd_in32 _, bd_in32 _⟩ ?_
        refine bc_br_i (fun _ => ?_) (fun c => absurd rfl c)
        exact P438 g2 σ2 t2 (n' + 2) F2 (by omega)
      have ot := om_tm hM k0 (by omega : k < 16)
      have d0 := dg_len k0 (by omega : k ≤ 99)
      have d1 := (dg_len g0.1 (by omega)).2 (by omega)
      have d2 := (dg_len g1.1 (by omega)).2 (by omega)
      have d3 := dg_len g2.1 (by omega)
      have d4 := (dg_len g3.1 (by omega)).2 (by omega)
      have d5 := dg_len g4.1 (by omega)
      have P358 : ∀ (g2 : bc_C) (σ2 : bc_M) (n' : Nat) (t2 : rw_t × rw_t × (List rw_t × Int) × ((Int → Int) × Int) × (List Int) × ((Int → Int) × gr_t) × (List Int) × Int × Int × Int), fa_ B σ2 (u_o (c_r v, t2) (om_ (c_r v) k)) → (n' : Int) ≤ 200 + 600 * k + 39 → K g2 [bd_bld (tm_ (c_r v) k), bd_txt (tm_ (c_r v) k)] 358 [(0, bc_R 0), (1, bc_I ((c_r v) 3)), (2, bc_I (sm_ (br_ (c_r v)) (k + 1).toNat)), (3, bc_I (sm_ (fun k => if 0 < (c_r v) (19 + 6 * k) then 1 else 0) (k + 1).toNat)), (4, bc_J (lnk_ (c_r v) (k + 1).toNat)), (6, bc_I 1), (7, bc_I (k)), (8, bc_I ((c_r v) (18 + 6 * k))), (9, bc_I ((c_r v) (19 + 6 * k))), (10, bc_I (br_ (c_r v) k)), (11, bc_I ((c_r v) (16 + 6 * k))), (12, bc_I ((c_r v) (17 + 6 * k)))] [bc_R 501, bc_I ((om_ (c_r v) k).length), bc_R 0] σ2 n' := by
        intro g2 σ2 n' t2 F2 hn'
        have hw : (tm_ (c_r v) k).length ≤ 15 := by
          unfold tm_
          simp only [List.length_append, List.length_cons, List.length_nil]
          split <;> simp only [List.length_cons, List.length_nil] <;> omega
        refine hK.1 [358, 369] 60 _ _ _ _ _ _ _ ?_
        refine bd_nb_i (by show n' + 90 ≤ 20000; omega) rfl ?_
        refine t_L_isText1 hsc F2 (by rw [ot, List.length_map]) hw (by show (om_ (c_r v) k).length = _; rw [ot, List.length_map]) (fun j j0 j1 => by show tg_ (om_ (c_r v) k) j = _; rw [ot]; exact tg_map j0 j1) ?_
        refine bc_ob_i (by first | omega | decide | (constructor <;> omega) | (constructor <;> constructor <;> omega)) ?_
        refine bc_br_i (fun c => absurd c (by decide)) (fun _ => ?_)
        exact P369 g2 _ σ2 _ (n' + 90) F2 (by omega)
      have P352 : ∀ (g2 : bc_C) (σ2 : bc_M) (n' : Nat) (t2 : rw_t × rw_t × (List rw_t × Int) × ((Int → Int) × Int) × (List Int) × ((Int → Int) × gr_t) × (List Int) × Int × Int × Int) (c : Nat), (c = if (c_r v) (21 + 6 * k) = 0 then 1022 else 1021) → fa_ B σ2 (u_o (c_r v, t2) (om_ (c_r v) k)) → (n' : Int) ≤ 200 + 600 * k + 35 → K g2 [bd_bld ([] ++ bd_dg k ++ [58] ++ bd_dg ((c_r v) (16 + 6 * k)) ++ [45] ++ bd_dg ((c_r v) (17 + 6 * k)) ++ [115] ++ bd_dg ((c_r v) (18 + 6 * k)) ++ [99] ++ bd_dg ((c_r v) (19 + 6 * k)) ++ [119] ++ bd_dg ((c_r v) (20 + 6 * k)))] 352 [(0, bc_R 0), (1, bc_I ((c_r v) 3)), (2, bc_I (sm_ (br_ (c_r v)) (k + 1).toNat)), (3, bc_I (sm_ (fun k => if 0 < (c_r v) (19 + 6 * k) then 1 else 0) (k + 1).toNat)), (4, bc_J (lnk_ (c_r v) (k + 1).toNat)), (6, bc_I 1), (7, bc_I (k)), (8, bc_I ((c_r v) (18 + 6 * k))), (9, bc_I ((c_r v) (19 + 6 * k))), (10, bc_I (br_ (c_r v) k)), (11, bc_I ((c_r v) (16 + 6 * k))), (12, bc_I ((c_r v) (17 + 6 * k)))] [bc_R c, bc_R 500, bc_I ((om_ (c_r v) k).length), bc_R 0] σ2 n' := by
        intro g2 σ2 n' t2 c hc F2 hn'
        by_cases q9 : (c_r v) (21 + 6 * k) = 0
        · rw [if_pos q9] at hc
          subst hc
          have P := fun g3 => P358 g3 σ2 (n' + 4) t2 F2 (by omega)
          have et : tm_ (c_r v) k = [] ++ bd_dg k ++ [58] ++ bd_dg ((c_r v) (16 + 6 * k)) ++ [45] ++ bd_dg ((c_r v) (17 + 6 * k)) ++ [115] ++ bd_dg ((c_r v) (18 + 6 * k)) ++ [99] ++ bd_dg ((c_r v) (19 + 6 * k)) ++ [119] ++ bd_dg ((c_r v) (20 + 6 * k)) ++ [] := by
            unfold tm_
            rw [if_pos q9]
          rw [et] at P
          refine hK.1 [352, 358] 60 _ _ _ _ _ _ _ ?_
          refine bc_ob_i ?_ ?_
          · show ([] ++ bd_dg k ++ [58] ++ bd_dg ((c_r v) (16 + 6 * k)) ++ [45] ++ bd_dg ((c_r v) (17 + 6 * k)) ++ [115] ++ bd_dg ((c_r v) (18 + 6 * k)) ++ [99] ++ bd_dg ((c_r v) (19 + 6 * k)) ++ [119] ++ bd_dg ((c_r v) (20 + 6 * k))).length + (bc_tx 22).length ≤ 15
            simp only [List.length_append, List.length_cons, List.length_nil, bc_tx]
            omega
          refine bc_ob_i (by show n' + 4 ≤ 20000; omega) ?_
          intro a b
          exact P _
        · rw [if_neg q9] at hc
          subst hc
          have P := fun g3 => P358 g3 σ2 (n' + 4) t2 F2 (by omega)
          have et : tm_ (c_r v) k = [] ++ bd_dg k ++ [58] ++ bd_dg ((c_r v) (16 + 6 * k)) ++ [45] ++ bd_dg ((c_r v) (17 + 6 * k)) ++ [115] ++ bd_dg ((c_r v) (18 + 6 * k)) ++ [99] ++ bd_dg ((c_r v) (19 + 6 * k)) ++ [119] ++ bd_dg ((c_r v) (20 + 6 * k)) ++ [120] := by
            unfold tm_
            rw [if_neg q9]
          rw [et] at P
          refine hK.1 [352, 358] 60 _ _ _ _ _ _ _ ?_
          refine bc_ob_i ?_ ?_
          · show ([] ++ bd_dg k ++ [58] ++ bd_dg ((c_r v) (16 + 6 * k)) ++ [45] ++ bd_dg ((c_r v) (17 + 6 * k)) ++ [115] ++ bd_dg ((c_r v) (18 + 6 * k)) ++ [99] ++ bd_dg ((c_r v) (19 + 6 * k)) ++ [119] ++ bd_dg ((c_r v) (20 + 6 * k))).length + (bc_tx 21).length ≤ 15
            simp only [List.length_append, List.length_cons, List.length_nil, bc_tx]
            omega
          refine bc_ob_i (by show n' + 4 ≤ 20000; omega) ?_
          intro a b
          exact P _
      have P277 : ∀ (g2 : bc_C) (σ2 : bc_M) (n' : Nat) (t2 : rw_t × rw_t × (List rw_t × Int) × ((Int → Int) × Int) × (List Int) × ((Int → Int) × gr_t) × (List Int) × Int × Int × Int), fa_ B σ2 (u_o (c_r v, t2) (om_ (c_r v) k)) → (n' : Int) ≤ 200 + 600 * k + 35 → K g2 [bd_bld []] 277 [(0, bc_R 0), (1, bc_I ((c_r v) 3)), (2, bc_I (sm_ (br_ (c_r v)) (k + 1).toNat)), (3, bc_I (sm_ (fun k => if 0 < (c_r v) (19 + 6 * k) then 1 else 0) (k + 1).toNat)), (4, bc_J (lnk_ (c_r v) (k + 1).toNat)), (6, bc_I 1), (7, bc_I (k)), (8, bc_I ((c_r v) (18 + 6 * k))), (9, bc_I ((c_r v) (19 + 6 * k))), (10, bc_I (br_ (c_r v) k)), (11, bc_I ((c_r v) (16 + 6 * k))), (12, bc_I ((c_r v) (17 + 6 * k)))] [bc_R 500, bc_I ((om_ (c_r v) k).length), bc_R 0] σ2 n' := by
        intro g2 σ2 n' t2 F2 hn'
        refine hK.1 [277, 352] 90 _ _ _ _ _ _ _ ?_
        refine bc_ob_i ⟨⟨by show 0 ≤ k; omega, by show k ≤ 99; omega⟩, ?_⟩ ?_
        · show ([] : List Nat).length + (bd_dg (k)).length ≤ 15
          simp only [List.length_append, List.length_cons, List.length_nil]
          omega
        refine bc_ob_i ?_ ?_
        · show ([] ++ bd_dg (k) : List Nat).length + 1 ≤ 15
          simp only [List.length_append, List.length_cons, List.length_nil]
          omega
        refine bc_ob_i ⟨⟨by show 0 ≤ (c_r v) (16 + 6 * k); omega, by show (c_r v) (16 + 6 * k) ≤ 99; omega⟩, ?_⟩ ?_
        · show ([] ++ bd_dg (k) ++ [58] : List Nat).length + (bd_dg ((c_r v) (16 + 6 * k))).length ≤ 15
          simp only [List.length_append, List.length_cons, List.length_nil]
          omega
        refine bc_ob_i ?_ ?_
        · show ([] ++ bd_dg (k) ++ [58] ++ bd_dg ((c_r v) (16 + 6 * k)) : List Nat).length + 1 ≤ 15
          simp only [List.length_append, List.length_cons, List.length_nil]
          omega
        refine bc_ob_i ⟨⟨by show 0 ≤ (c_r v) (17 + 6 * k); omega, by show (c_r v) (17 + 6 * k) ≤ 99; omega⟩, ?_⟩ ?_
        · show ([] ++ bd_dg (k) ++ [58] ++ bd_dg ((c_r v) (16 + 6 * k)) ++ [45] : List Nat).length + (bd_dg ((c_r v) (17 + 6 * k))).length ≤ 15
          simp only [List.length_append, List.length_cons, List.length_nil]
          omega
        refine bc_ob_i ?_ ?_
        · show ([] ++ bd_dg (k) ++ [58] ++ bd_dg ((c_r v) (16 + 6 * k)) ++ [45] ++ bd_dg ((c_r v) (17 + 6 * k)) : List Nat).length + 1 ≤ 15
          simp only [List.length_append, List.length_cons, List.length_nil]
          omega
        refine bc_ob_i ⟨⟨by show 0 ≤ (c_r v) (18 + 6 * k); omega, by show (c_r v) (18 + 6 * k) ≤ 99; omega⟩, ?_⟩ ?_
        · show ([] ++ bd_dg (k) ++ [58] ++ bd_dg ((c_r v) (16 + 6 * k)) ++ [45] ++ bd_dg ((c_r v) (17 + 6 * k)) ++ [115] : List Nat).length + (bd_dg ((c_r v) (18 + 6 * k))).length ≤ 15
          simp only [List.length_append, List.length_cons, List.length_nil]
          omega
        refine bc_ob_i ?_ ?_
        · show ([] ++ bd_dg (k) ++ [58] ++ bd_dg ((c_r v) (16 + 6 * k)) ++ [45] ++ bd_dg ((c_r v) (17 + 6 * k)) ++ [115] ++ bd_dg ((c_r v) (18 + 6 * k)) : List Nat).length + 1 ≤ 15
          simp only [List.length_append, List.length_cons, List.length_nil]
          omega
        refine bc_ob_i ⟨⟨by show 0 ≤ (c_r v) (19 + 6 * k); omega, by show (c_r v) (19 + 6 * k) ≤ 99; omega⟩, ?_⟩ ?_
        · show ([] ++ bd_dg (k) ++ [58] ++ bd_dg ((c_r v) (16 + 6 * k)) ++ [45] ++ bd_dg ((c_r v) (17 + 6 * k)) ++ [115] ++ bd_dg ((c_r v) (18 + 6 * k)) ++ [99] : List Nat).length + (bd_dg ((c_r v) (19 + 6 * k))).length ≤ 15
          simp only [List.length_append, List.length_cons, List.length_nil]
          omega
        refine bc_ob_i ?_ ?_
        · show ([] ++ bd_dg (k) ++ [58] ++ bd_dg ((c_r v) (16 + 6 * k)) ++ [45] ++ bd_dg ((c_r v) (17 + 6 * k)) ++ [115] ++ bd_dg ((c_r v) (18 + 6 * k)) ++ [99] ++ bd_dg ((c_r v) (19 + 6 * k)) : List Nat).length + 1 ≤ 15
          simp only [List.length_append, List.length_cons, List.length_nil]
          omega
        refine bc_nb_i (by show n' + 0 ≤ 20000; omega) rfl rfl ?_
        refine fun Z => w_wear F2 k0 hk ?_
        refine bc_ob_i ⟨⟨by show 0 ≤ (c_r v) (20 + 6 * k); omega, by show (c_r v) (20 + 6 * k) ≤ 99; omega⟩, ?_⟩ ?_
        · show ([] ++ bd_dg (k) ++ [58] ++ bd_dg ((c_r v) (16 + 6 * k)) ++ [45] ++ bd_dg ((c_r v) (17 + 6 * k)) ++ [115] ++ bd_dg ((c_r v) (18 + 6 * k)) ++ [99] ++ bd_dg ((c_r v) (19 + 6 * k)) ++ [119] : List Nat).length + (bd_dg ((c_r v) (20 + 6 * k))).length ≤ 15
          simp only [List.length_append, List.length_cons, List.length_nil]
          omega
        refine bc_nb_i (by show n' + 0 ≤ 20000; omega) rfl rfl ?_
        refine fun Z => w_isAbandoned F2 k0 hk ?_
        refine bc_ob_i (by show bc_in ((c_r v) (21 + 6 * k)); constructor <;> omega) ?_
        refine bc_br_i (fun c1 => ?_) (fun c1 => ?_)
        · exact P352 g2 σ2 n' t2 1022 (by rw [if_pos (show (c_r v) (21 + 6 * k) = 0 from c1)]) F2 hn'
        · exact P352 g2 σ2 n' t2 1021 (by rw [if_neg (show ¬ (c_r v) (21 + 6 * k) = 0 from c1)]) F2 hn'
      have P217 : ∀ (y : Int64) (n' : Nat) (σ2 : bc_M) (t2 : rw_t × rw_t × (List rw_t × Int) × ((Int → Int) × Int) × (List Int) × ((Int → Int) × gr_t) × (List Int) × Int × Int × Int), lnk_ (c_r v) k.toNat ||| y = lnk_ (c_r v) (k + 1).toNat → fa_ B σ2 (c_r v, t2) → (n' : Int) ≤ 200 + 600 * k + 30 → K g' [] 217 [(0, bc_R 0), (1, bc_I ((c_r v) 3)), (2, bc_I (sm_ (br_ (c_r v)) (k + 1).toNat)), (3, bc_I (sm_ (fun k => if 0 < (c_r v) (19 + 6 * k) then 1 else 0) (k + 1).toNat)), (4, bc_J (lnk_ (c_r v) k.toNat)), (6, bc_I 1), (7, bc_I (k)), (8, bc_I ((c_r v) (18 + 6 * k))), (9, bc_I ((c_r v) (19 + 6 * k))), (10, bc_I (br_ (c_r v) k)), (11, bc_I ((c_r v) (16 + 6 * k))), (12, bc_I ((c_r v) (17 + 6 * k)))] [bc_J y, bc_J (lnk_ (c_r v) k.toNat)] σ2 n' := by
        intro y n' σ2 t2 hy F2 hn'
        have P := P277
        rw [← hy] at P
        have ec : co_ (c_r v) k = ((c_r v) (18 + 6 * k) + 9) / 10 * (c_r v) (19 + 6 * k) := rfl
        refine hK.1 [217, 277] 90 _ _ _ _ _ _ _ ?_
        refine bc_ob_i (by first | omega | decide | (constructor <;> omega) | (constructor <;> constructor <;> omega)) ?_
        refine bc_br_i (fun c => absurd c (by decide)) (fun _ => ?_)
        refine bc_ob_i (by first | omega | decide | (constructor <;> omega) | (constructor <;> constructor <;> omega)) ?_
        refine bc_br_i (fun _ => ?_) (fun c => (by omega : False).elim)
        refine bc_nb_i (by show n' + 0 ≤ 20000; omega) rfl rfl ?_
        refine fun Z => w_bearing F2 k0 hk ?_
        refine bc_ob_i (by first | omega | decide | (constructor <;> omega) | (constructor <;> constructor <;> omega)) ?_
        refine bc_br_i (fun _ => ?_) (fun c => absurd rfl c)
        refine bc_nb_i (by show n' + 0 ≤ 20000; omega) rfl rfl ?_
        refine fun Z => w_repairCost F2 k0 hk ?_
        rw [ec]
        refine bc_ob_i (by first | omega | decide | (constructor <;> omega) | (constructor <;> constructor <;> omega)) ?_
        refine bc_ob_i (by first | omega | decide | (constructor <;> omega) | (constructor <;> constructor <;> omega)) ?_
        refine bc_br_i (fun _ => ?_) (fun c => absurd rfl c)
        refine bc_nb_i (by show n' + 1 ≤ 20000; omega) rfl rfl ?_
        refine fun Z => w_rend F2 k0 hk (fun σ3 F3 => ?_)
        refine bc_ob_i (by show n' + 1 + 4 ≤ 20000; omega) ?_
        intro a b
        exact P _ σ3 (n' + 5) t2 F3 (by omega)
      have P180 : ∀ (x : Int) (n' : Nat) (σ2 : bc_M) (t2 : rw_t × rw_t × (List rw_t × Int) × ((Int → Int) × Int) × (List Int) × ((Int → Int) × gr_t) × (List Int) × Int × Int × Int), (x = if 0 < (c_r v) (19 + 6 * k) then 1 else 0) → fa_ B σ2 (c_r v, t2) → (n' : Int) ≤ 200 + 600 * k + 30 → K g' [] 180 [(0, bc_R 0), (1, bc_I ((c_r v) 3)), (2, bc_I (sm_ (br_ (c_r v)) (k + 1).toNat)), (3, bc_I (sm_ (fun k => if 0 < (c_r v) (19 + 6 * k) then 1 else 0) k.toNat)), (4, bc_J (lnk_ (c_r v) k.toNat)), (6, bc_I 1), (7, bc_I (k)), (8, bc_I ((c_r v) (18 + 6 * k))), (9, bc_I ((c_r v) (19 + 6 * k))), (10, bc_I (br_ (c_r v) k)), (11, bc_I ((c_r v) (16 + 6 * k))), (12, bc_I ((c_r v) (17 + 6 * k)))] [bc_I x, bc_I (sm_ (fun k => if 0 < (c_r v) (19 + 6 * k) then 1 else 0) k.toNat)] σ2 n' := by
        intro x n' σ2 t2 hx F2 hn'
        have hC : sm_ (fun k => if 0 < (c_r v) (19 + 6 * k) then 1 else 0) (k + 1).toNat = sm_ (fun k => if 0 < (c_r v) (19 + 6 * k) then 1 else 0) k.toNat + x := by
          rw [sm_s k0, hx]
        have P := P217
        rw [hC] at P
        refine hK.1 [180, 217] 90 _ _ _ _ _ _ _ ?_
        refine bc_nb_i (by show n' + 0 ≤ 20000; omega) rfl rfl ?_
        refine fun Z => t_L_told (by rw [hx]; split; exact .inr rfl; exact .inl rfl) ?_
        refine bc_ob_i (by first | omega | decide | (constructor <;> omega) | (constructor <;> constructor <;> omega)) ?_
        refine bc_br_i (fun c1 => ?_) (fun c1 => ?_)
        · exact P _ (n' + 0) σ2 t2 (by rw [lnk_s k0, if_pos c1]; rfl) F2 hn'
        · exact P 0 (n' + 0) σ2 t2 (by rw [lnk_s k0, if_neg c1, lor0_]) F2 hn'
      have P146 : ∀ (n' : Nat) (σ2 : bc_M) (t2 : rw_t × rw_t × (List rw_t × Int) × ((Int → Int) × Int) × (List Int) × ((Int → Int) × gr_t) × (List Int) × Int × Int × Int), fa_ B σ2 (c_r v, t2) → (n' : Int) ≤ 200 + 600 * k + 30 → K g' [] 146 [(0, bc_R 0), (1, bc_I ((c_r v) 3)), (2, bc_I (sm_ (br_ (c_r v)) k.toNat)), (3, bc_I (sm_ (fun k => if 0 < (c_r v) (19 + 6 * k) then 1 else 0) k.toNat)), (4, bc_J (lnk_ (c_r v) k.toNat)), (6, bc_I 1), (7, bc_I (k)), (8, bc_I ((c_r v) (18 + 6 * k))), (9, bc_I ((c_r v) (19 + 6 * k)))] [bc_I (br_ (c_r v) k)] σ2 n' := by
        intro n' σ2 t2 F2 hn'
        have hS : sm_ (br_ (c_r v)) (k + 1).toNat = sm_ (br_ (c_r v)) k.toNat + br_ (c_r v) k := sm_s k0
        have P := P180
        rw [hS] at P
        refine hK.1 [146, 180] 90 _ _ _ _ _ _ _ ?_
        refine bc_nb_i (by show n' + 0 ≤ 20000; omega) rfl rfl ?_
        refine fun Z => w_firstJoint F2 k0 hk ?_
        refine bc_nb_i (by show n' + 0 ≤ 20000; omega) rfl rfl ?_
        refine fun Z => w_secondJoint F2 k0 hk ?_
        refine bc_ob_i (by first | omega | decide | (constructor <;> omega) | (constructor <;> constructor <;> omega)) ?_
        refine bc_br_i (fun c1 => ?_) (fun c1 => ?_)
        · exact P 1 (n' + 0) σ2 t2 (by rw [if_pos c1]) F2 hn'
        · exact P 0 (n' + 0) σ2 t2 (by rw [if_neg c1]) F2 hn'
      refine hK.1 [100, 146] 90 _ _ _ _ _ _ _ ?_
      refine bc_ob_i (by first | omega | decide | (constructor <;> omega) | (constructor <;> constructor <;> omega)) ?_
      refine bc_br_i (fun _ => ?_) (fun c => (by omega : False).elim)
      refine bc_nb_i (by show n + 30 ≤ 20000; omega) rfl rfl ?_
      refine fun Z => t_L_strength F1 k0 hk (fun σ2 F2 => ?_)
      refine bc_nb_i (by show n + 30 ≤ 20000; omega) rfl rfl ?_
      refine fun Z => w_crack F2 k0 hk ?_
      refine bc_nb_i (by show n + 30 ≤ 20000; omega) rfl rfl ?_
      refine fun Z => w_isAbandoned F2 k0 hk ?_
      have P := P146 (n + 30) σ2 _ F2 (by omega)
      refine bc_ob_i (by show bc_in ((c_r v) (21 + 6 * k)); constructor <;> omega) ?_
      refine bc_br_i (fun c1 => ?_) (fun c1 => ?_)
      · have e : br_ (c_r v) k = (c_r v) (18 + 6 * k) * (10 - (c_r v) (19 + 6 * k)) / 10 := if_pos (show (c_r v) (21 + 6 * k) = 0 from c1)
        rw [e] at P
        refine bc_ob_i ⟨⟨by show 0 ≤ (c_r v) (18 + 6 * k) * (10 - (c_r v) (19 + 6 * k)); omega, by show (c_r v) (18 + 6 * k) * (10 - (c_r v) (19 + 6 * k)) ≤ _; omega⟩, by omega, by omega⟩ ?_
        exact P
      · have e : br_ (c_r v) k = 0 := if_neg (show ¬ (c_r v) (21 + 6 * k) = 0 from c1)
        rw [e] at P
        exact P
  have mx : bc_in ((c_r v) 3) := by constructor <;> omega
  have ix3 : ix_ (c_r v) ((c_r v) 3) = 1 := by
    unfold ix_
    rw [if_neg (fun z => by omega)]
  refine hK.1 [100] 90 _ _ _ _ _ _ _ ?_
  refine fun Z => t_X10_memberCount hF ?_
  refine bc_ob_i (by first | omega | decide | (constructor <;> omega) | (constructor <;> constructor <;> omega)) ?_
  refine bc_br_i (fun c => (by omega : False).elim) (fun _ => ?_)
  refine bc_nb_i (by show 20 ≤ 20000; omega) rfl rfl ?_
  refine fun Z => t_L_ask0 hF mx (by decide) (by decide) (fun _ => ?_) (fun a b => by have b : (c_r v) 3 < (c_r v) 3 := b; omega)
  refine bc_ob_i (by first | omega | decide | (constructor <;> omega) | (constructor <;> constructor <;> omega)) ?_
  refine bc_br_i (fun _ => ?_) (fun c => absurd rfl c)
  refine bc_nb_i (by show 40 ≤ 20000; omega) rfl rfl ?_
  refine fun Z => t_L_ask0 hF (by decide) (by decide) (by decide) (fun _ => ?_) (fun a b => by have a : (0:Int) ≤ -1 := a; omega)
  refine bc_ob_i (by first | omega | decide | (constructor <;> omega) | (constructor <;> constructor <;> omega)) ?_
  refine bc_br_i (fun _ => ?_) (fun c => absurd rfl c)
  refine bc_nb_i (by show 60 ≤ 20000; omega) rfl rfl ?_
  refine fun Z => t_L_ask4 hF mx (by decide) (by decide) (fun _ => ?_) (fun a b => by have b : (c_r v) 3 < (c_r v) 3 := b; omega)
  refine bc_ob_i (by first | omega | decide | (constructor <;> omega) | (constructor <;> constructor <;> omega)) ?_
  refine bc_br_i (fun _ => ?_) (fun c => absurd rfl c)
  refine bc_nb_i (by show 80 ≤ 20000; omega) rfl rfl ?_
  refine fun Z => t_L_ask7 hF mx (by decide) (by decide) (fun _ => ?_) (fun s s0 s1 es => by have z := rk_top (r := c_r v) s0 s1; have es : rk_ (c_r v) s = (c_r v) 3 := es; omega)
  refine bc_ob_i (by first | omega | decide | (constructor <;> omega) | (constructor <;> constructor <;> omega)) ?_
  refine bc_br_i (fun _ => ?_) (fun c => absurd rfl c)
  refine bc_nb_i (by show 100 ≤ 20000; omega) rfl rfl ?_
  refine fun Z => t_L_ask7 hF (by decide) (by decide) (by decide) (fun _ => ?_) (fun s s0 s1 es => by have z := rk_top (r := c_r v) s0 s1; have es : rk_ (c_r v) s = -1 := es; omega)
  refine bc_ob_i (by first | omega | decide | (constructor <;> omega) | (constructor <;> constructor <;> omega)) ?_
  refine bc_br_i (fun _ => ?_) (fun c => absurd rfl c)
  exact M1 0 g σ v.2 [] 100 hF (by decide) w3.1 (by decide)
end BDMEM
