section BDAFR
variable {sc : Nat × (Nat → Int32)} {g : bc_C} {d : Nat} {σ : bc_M} {B : Int} {v : cs_t} {Rr : Option bc_A → List bd_O → bc_M → Prop}
theorem t_L_isAffordableRight {a b : Int} (hsc : sc.1 < 2000) (hF : fa_ B σ v) (hU : uj_ (c_r v)) (hB : B ≤ 1000000) (a0 : 0 ≤ a) (a1 : a < 8) (b0 : 0 ≤ b) (b1 : b < 8) (s9 : (c_r v) 1 < 9999) (h : ∀ (σ' : bc_M) (v' : cs_t), fa_ B σ' v' → c_r v' = c_r v → Rr (some (bc_I 1)) [] σ') : bd_Sem sc g [] (d + 30) mL_isAffordableRight [bc_R 0, bc_I a, bc_I b] σ Rr := by
  have hM := hF.1.1.2.1
  have w3 := hM.1
  have ew : ((((c_r v) 3).toNat : Nat) : Int) = (c_r v) 3 := Int.toNat_of_nonneg w3.1
  refine m_L_isAffordableRight hsc rfl (fun K hK => ?_)
  have a5 : ∀ {σ1 : bc_M} {t : rw_t × rw_t × (List rw_t × Int) × ((Int → Int) × Int) × (List Int) × ((Int → Int) × gr_t) × (List Int) × Int × Int × Int}, fa_ B σ1 (c_r v, t) → a ≠ b → ∀ {D : Nat} {g1 : bc_C} {R1 : Option bc_A → bc_M → Prop}, (∀ σ2 : bc_M, fa_ B σ2 (c_r v, t) → R1 (some (bc_I (if la_ (c_r v) ((c_r v) 1) a b 99 = 0 then -2004 else la_ (c_r v) ((c_r v) 1) a b 99))) σ2) → bc_Sem g1 (D + 22) mL_ask [bc_R 0, bc_I 5, bc_I a, bc_I b, bc_I 0] σ1 R1 (fun _ _ => False) := fun {_ _} F1 hne {_ _ _} q => by
    have p0 : pf_ a b = 0 := by
      unfold pf_
      rw [if_neg (fun z => z ⟨⟨a0, a1⟩, b0, b1⟩), if_neg hne]
    refine t_L_ask5 F1 (by constructor <;> omega) (by constructor <;> omega) (by decide) hB (fun e => by omega) (fun e => by omega) (fun _ hz σ2 F2 => ?_) (fun _ hz σ2 F2 => ?_)
    · have hz : la_ (c_r v) ((c_r v) 1) a b 99 = 0 := hz
      have := q σ2 F2
      rw [if_pos hz] at this
      exact this
    · have hz : la_ (c_r v) ((c_r v) 1) a b 99 ≠ 0 := hz
      have := q σ2 F2
      rw [if_neg hz] at this
      exact this
  have a6 : ∀ {σ1 : bc_M} {t : rw_t × rw_t × (List rw_t × Int) × ((Int → Int) × Int) × (List Int) × ((Int → Int) × gr_t) × (List Int) × Int × Int × Int}, fa_ B σ1 (c_r v, t) → a ≠ b → ∀ {D : Nat} {g1 : bc_C} {R1 : Option bc_A → bc_M → Prop}, (∀ σ2 : bc_M, fa_ B σ2 (c_r v, t) → R1 (some (bc_I (if la_ (c_r v) ((c_r v) 1) a b 99 = 0 then -2004 else la_ (c_r v) ((c_r v) 1) a b 99))) σ2) → bc_Sem g1 (D + 22) mL_ask [bc_R 0, bc_I 6, bc_I a, bc_I b, bc_I 0] σ1 R1 (fun _ _ => False) := fun {_ _} F1 hne {_ _ _} q => by
    have p0 : pf_ a b = 0 := by
      unfold pf_
      rw [if_neg (fun z => z ⟨⟨a0, a1⟩, b0, b1⟩), if_neg hne]
    have et := la_tb hM (s := (c_r v) 1) a0 a1 b0 b1 hne
    refine t_L_ask6 F1 (by constructor <;> omega) (by constructor <;> omega) (by decide) hB (fun e => by omega) (fun e => by omega) (fun _ hz σ2 F2 => ?_) (fun _ hz σ2 F2 => ?_)
    · have hz : tb_ (c_r v) ((c_r v) 1) a b = 0 := hz
      have := q σ2 F2
      rw [if_pos (et.trans hz)] at this
      exact this
    · have hz : tb_ (c_r v) ((c_r v) 1) a b ≠ 0 := hz
      have := q σ2 F2
      rw [if_neg (fun z => hz (et.symm.trans z)), et] at this
      exact this
  have aff : ∀ {σ1 : bc_M} {t : rw_t × rw_t × (List rw_t × Int) × ((Int → Int) × Int) × (List Int) × ((Int → Int) × gr_t) × (List Int) × Int × Int × Int} {F : Int → Int} {l : Int}, fa_ B σ1 (c_r v, t) → 1 ≤ l → l ≤ 99 → (∀ k : Int, 0 ≤ k → k < (c_r v) 3 → F k = (c_r v) (18 + 6 * k)) → ∀ {g1 : bc_C} {R1 : Option bc_A → List bd_O → bc_M → Prop}, R1 (some (bc_I (if bf_ (c_r v) l a 8 b ≤ (c_r v) 1 then 1 else 0))) [bd_row ((c_r v) 3).toNat F] σ1 → bd_Sem sc g1 [bd_row ((c_r v) 3).toNat F] (d + 29) mL_isAffordable [bc_R 0, bc_I a, bc_I b, bc_I l, bc_R 500] σ1 R1 := fun {_ _ _ _} F1 l0 l1 hf {_ _} q => t_L_isAffordable hsc F1 hB a0 a1 b0 b1 l0 l1 ew hf q
  have str : ∀ {σ1 : bc_M} {t : rw_t × rw_t × (List rw_t × Int) × ((Int → Int) × Int) × (List Int) × ((Int → Int) × gr_t) × (List Int) × Int × Int × Int} {m : Int}, fa_ B σ1 (c_r v, t) → 0 ≤ m → m < (c_r v) 3 → ∀ {D : Nat} {g1 : bc_C} {R1 : Option bc_A → bc_M → Prop} {X1 : Nat → bc_M → Prop}, (∀ (σ2 : bc_M) (t2 : rw_t × rw_t × (List rw_t × Int) × ((Int → Int) × Int) × (List Int) × ((Int → Int) × gr_t) × (List Int) × Int × Int × Int), fa_ B σ2 (c_r v, t2) → R1 (some (bc_I ((c_r v) (18 + 6 * m)))) σ2) → bc_Sem g1 (D + 22) mL_strength [bc_R 0, bc_I m] σ1 R1 X1 := fun {_ _ _} F1 m0 m1 {_ _ _ _} q => t_L_strength F1 m0 m1 (fun σ2 F2 => q σ2 _ F2)
  have E : ∀ (g' : bc_C) (σ1 : bc_M) (t : rw_t × rw_t × (List rw_t × Int) × ((Int → Int) × Int) × (List Int) × ((Int → Int) × gr_t) × (List Int) × Int × Int × Int) (F : Int → Int) (l : Int) (n : Nat), fa_ B σ1 (c_r v, t) → l = afd_ (c_r v) ((c_r v) 1) a b 99 → n ≤ 2000 → K g' [bd_row ((c_r v) 3).toNat F] 60 [(0, bc_R 0), (1, bc_I a), (2, bc_I b), (3, bc_R 500), (4, bc_I l)] [] σ1 n := by
    intro g' σ1 t F l n F1 el hn
    have ll := afd_le (c_r v) ((c_r v) 1) a b 99
    rw [← el] at ll
    have go : ∀ x : Int, (-3000 ≤ x ∧ x ≤ 99) → (a ≠ b → x = if la_ (c_r v) ((c_r v) 1) a b 99 = 0 then -2004 else la_ (c_r v) ((c_r v) 1) a b 99) → K g' [bd_row ((c_r v) 3).toNat F] 75 [(0, bc_R 0), (1, bc_I a), (2, bc_I b), (3, bc_R 500), (4, bc_I l), (5, bc_I x)] [] σ1 n := by
      intro x lx hx
      refine hK.1 [10, 37, 60, 75] 60 _ _ _ _ _ _ _ ?_
      refine bc_ob_i ⟨by constructor <;> omega, by constructor <;> omega⟩ ?_
      refine bc_br_i (fun _ => ?_) (fun hne => ?_)
      · refine bc_ob_i (by decide) ?_
        exact h σ1 _ F1 rfl
      · have hx := hx hne
        refine bc_nb_i (by show n + 20 ≤ 3000; omega) rfl rfl ?_
        refine fun Z => a5 F1 hne (fun σ2 F2 => ?_)
        rw [← hx]
        refine bc_ob_i ⟨by constructor <;> omega, by constructor <;> omega⟩ ?_
        refine bc_br_i (fun _ => ?_) (fun c => absurd rfl c)
        refine bc_nb_i (by show n + 40 ≤ 3000; omega) rfl rfl ?_
        refine fun Z => a6 F2 hne (fun σ3 F3 => ?_)
        rw [← hx]
        refine bc_ob_i ⟨by constructor <;> omega, by constructor <;> omega⟩ ?_
        refine bc_br_i (fun _ => ?_) (fun c => absurd rfl c)
        refine bc_ob_i (by decide) ?_
        exact h σ3 _ F3 rfl
    have ela : a ≠ b → l = la_ (c_r v) ((c_r v) 1) a b 99 := fun hne => el.trans (afd_99 hM hU s9 a0 a1 b0 b1 hne)
    refine hK.1 [10, 37, 60, 75] 60 _ _ _ _ _ _ _ ?_
    refine bc_ob_i (by constructor <;> omega) ?_
    refine bc_br_i (fun c => ?_) (fun c => ?_)
    · exact go (-2004) (by decide) (fun hne => by rw [if_pos (by rw [← ela hne]; exact c)])
    · exact go l (by omega) (fun hne => by rw [if_neg (by rw [← ela hne]; exact c)]; exact ela hne)
  have T : ∀ (g' : bc_C) (σ1 : bc_M) (t : rw_t × rw_t × (List rw_t × Int) × ((Int → Int) × Int) × (List Int) × ((Int → Int) × gr_t) × (List Int) × Int × Int × Int) (F : Int → Int), fa_ B σ1 (c_r v, t) → (∀ k : Int, 0 ≤ k → k < (c_r v) 3 → F k = (c_r v) (18 + 6 * k)) → ∀ (l n : Nat), l ≤ 99 → n + 10 * l ≤ 1600 → afd_ (c_r v) ((c_r v) 1) a b 99 = afd_ (c_r v) ((c_r v) 1) a b l → K g' [bd_row ((c_r v) 3).toNat F] 37 [(0, bc_R 0), (1, bc_I a), (2, bc_I b), (3, bc_R 500), (4, bc_I (l : Int))] [] σ1 n := by
    intro g' σ1 t F F1 hf l
    induction l with
    | zero =>
      intro n hl hn he
      refine hK.1 [10, 37, 60] 60 _ _ _ _ _ _ _ ?_
      refine bc_ob_i (by decide) ?_
      refine bc_br_i (fun c => absurd c (by decide)) (fun _ => ?_)
      exact E g' σ1 t F 0 n F1 he.symm (by omega)
    | succ l ih =>
      intro n hl hn he
      have e1 : afd_ (c_r v) ((c_r v) 1) a b (l + 1) = if bf_ (c_r v) ((l + 1 : Nat) : Int) a 8 b ≤ (c_r v) 1 then ((l + 1 : Nat) : Int) else afd_ (c_r v) ((c_r v) 1) a b l := rfl
      have i2 := ih (n + 10) (by omega) (by omega)
      rw [show ((l : Nat) : Int) = ((l + 1 : Nat) : Int) + (-1) by omega] at i2
      have l0 : 1 ≤ ((l + 1 : Nat) : Int) := by omega
      have l9 : ((l + 1 : Nat) : Int) ≤ 99 := by omega
      have E2 := fun hh => E g' σ1 t F ((l + 1 : Nat) : Int) (n + 10) F1 hh (by omega)
      generalize ((l + 1 : Nat) : Int) = y at *
      refine hK.1 [10, 37, 60] 60 _ _ _ _ _ _ _ ?_
      refine bc_ob_i (by constructor <;> omega) ?_
      refine bc_br_i (fun _ => ?_) (fun c => (by omega : False).elim)
      refine bd_nb_i (by show n + 10 ≤ 3000; omega) rfl ?_
      refine aff F1 l0 l9 hf ?_
      by_cases q : bf_ (c_r v) y a 8 b ≤ (c_r v) 1
      · rw [if_pos q]
        rw [if_pos q] at e1
        refine bc_ob_i (by decide) ?_
        refine bc_br_i (fun c => absurd c (by decide)) (fun _ => ?_)
        exact E2 (he.trans e1).symm
      · rw [if_neg q]
        rw [if_neg q] at e1
        refine bc_ob_i (by decide) ?_
        refine bc_br_i (fun _ => ?_) (fun c => absurd rfl c)
        exact i2 (he.trans e1)
  have S : ∀ (g' : bc_C) (k : Int), ∀ (σ1 : bc_M) (t : rw_t × rw_t × (List rw_t × Int) × ((Int → Int) × Int) × (List Int) × ((Int → Int) × gr_t) × (List Int) × Int × Int × Int) (F : Int → Int) (n : Nat), 0 ≤ k → k ≤ (c_r v) 3 → fa_ B σ1 (c_r v, t) → (∀ j : Int, 0 ≤ j → j < k → F j = (c_r v) (18 + 6 * j)) → (n : Int) ≤ 3 + 30 * k → K g' [bd_row ((c_r v) 3).toNat F] 10 [(0, bc_R 0), (1, bc_I a), (2, bc_I b), (3, bc_R 500), (4, bc_I k)] [] σ1 n := by
    intro g'
    refine up_ind ((c_r v) 3) (fun k hk σ1 t F n k0 k1 F1 hf hn => ?_) (fun k hk ih σ1 t F n k0 k1 F1 hf hn => ?_)
    · refine hK.1 [10, 37, 60] 60 _ _ _ _ _ _ _ ?_
      refine bc_ob_i ⟨by constructor <;> omega, by constructor <;> omega⟩ ?_
      refine bc_br_i (fun c => (by omega : False).elim) (fun _ => ?_)
      exact T g' σ1 t F F1 (fun j j0 j1 => hf j j0 (by omega)) 99 n (by decide) (by omega) rfl
    · refine hK.1 [10, 37, 60] 60 _ _ _ _ _ _ _ ?_
      refine bc_ob_i ⟨by constructor <;> omega, by constructor <;> omega⟩ ?_
      refine bc_br_i (fun _ => ?_) (fun c => (by omega : False).elim)
      refine bc_nb_i (by show n + 30 ≤ 3000; omega) rfl rfl ?_
      refine fun Z => str F1 k0 hk (fun σ2 t2 F2 => ?_)
      refine bc_ob_i ⟨⟨by omega, by omega⟩, by omega⟩ ?_
      refine ih σ2 t2 _ (n + 30) (by omega) (by omega) F2 (fun j j0 j1 => ?_) (by omega)
      show (if j = k then (c_r v) (18 + 6 * k) else F j) = (c_r v) (18 + 6 * j)
      by_cases q : j = k
      · rw [if_pos q, q]
      · rw [if_neg q]
        exact hf j j0 (by omega)
  refine hK.1 [10, 37, 60] 60 _ _ _ _ _ _ _ ?_
  refine fun Z => t_X10_memberCount hF ?_
  refine bc_ob_i (by omega) ?_
  intro ad
  exact S (bd_up g 500 ad) 0 σ v.2 _ 3 (by decide) w3.1 hF (fun j j0 j1 => by omega) (by decide)
end BDAFR
