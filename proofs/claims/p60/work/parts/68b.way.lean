/-! the best way, once more: it does not matter what stood in the row before -/
theorem fzJ_ {q : rw_t} {u v : Int} (hW : wf_M q) (hu : uj_ q) (u0 : 0 ≤ u) (u1 : u < 8) (v0 : 0 ≤ v) (v1 : v < 8) (hne : u ≠ v) (J J' : Int → Int) (l1 : 1 ≤ wb_ (sa_ q) u v) : (fz_ (sa_ q) u v J').2 = (fz_ (sa_ q) u v J).2 ∧ ∀ i : Nat, (i : Int) ≤ (fz_ (sa_ q) u v J).2 → (fz_ (sa_ q) u v J').1 i = (fz_ (sa_ q) u v J).1 i := by
  obtain ⟨a1, a2, a3, -, a5, a6⟩ := fwp_ hW hu u0 u1 v0 v1 hne J l1
  obtain ⟨b1, b2, b3, -, b5, b6⟩ := fwp_ hW hu u0 u1 v0 v1 hne J' l1
  generalize fz_ (sa_ q) u v J = F at *
  generalize fz_ (sa_ q) u v J' = F' at *
  have e2 : F'.2 = F.2 := b2.trans a2.symm
  refine ⟨e2, fun i => ?_⟩
  induction i with
  | zero => intro _; exact b3.trans a3.symm
  | succ i ih =>
    intro hi
    have e := ih (by omega)
    obtain ⟨p1, p2⟩ := a6 i (by omega) (by omega)
    obtain ⟨r1, r2⟩ := b6 i (by omega) (by omega)
    have q1 := a5 (i + 1) (by omega) (by omega)
    have q2 := a5 i (by omega) (by omega)
    have q3 := b5 (i + 1) (by omega) (by omega)
    rw [e] at r1 r2
    rw [show ((i + 1 : Nat) : Int) = (i : Int) + 1 by omega]
    rcases Int.lt_trichotomy (F'.1 ((i : Int) + 1)) (F.1 ((i : Int) + 1)) with c | c | c
    · exact absurd ⟨r1, by rw [q3.2, q2.2]; omega⟩ (p2 _ q3.1.1 c)
    · exact c
    · exact absurd ⟨p1, by rw [q1.2, q2.2]; omega⟩ (r2 _ q1.1.1 c)
theorem ow_cong {J J' : Int → Int} : ∀ n : Nat, (∀ i : Nat, i < n → J i = J' i) → ow_ J n = ow_ J' n
  | 0, _ => rfl
  | n + 1, h => by
    show tn_ (if 0 < n then ta_ (ow_ J n) 62 else ow_ J n) (J n) = tn_ (if 0 < n then ta_ (ow_ J' n) 62 else ow_ J' n) (J' n)
    rw [ow_cong n (fun i hi => h i (by omega)), h n (by omega)]
theorem dn_1 {x : Int} (h0 : 0 ≤ x) (h1 : x < 10) : (dn_ x).length = 1 := by
  unfold dn_
  rw [if_neg (by omega)]
  rfl
/-- a way's text: one joint more -/
theorem ow_s {J : Int → Int} : ∀ n : Nat, n ≤ 7 → (∀ i : Nat, i ≤ n → 0 ≤ J i ∧ J i < 8) → (ow_ J (n + 1)).length = 2 * n + 1 ∧ (0 < n → ow_ J (n + 1) = ow_ J n ++ ([62] ++ dn_ (J n)))
  | 0, _, h => by
    have h0 := h 0 (by omega)
    refine ⟨?_, fun c => absurd c (by decide)⟩
    show (tn_ [] (J ((0 : Nat) : Int))).length = 1
    rw [tn_e (by decide), List.nil_append]
    exact dn_1 h0.1 (by omega)
  | n + 1, hn, h => by
    have ih := ow_s n (by omega) (fun i hi => h i (by omega))
    have h0 := h (n + 1) (by omega)
    have e : ow_ J (n + 1 + 1) = ow_ J (n + 1) ++ ([62] ++ dn_ (J ((n + 1 : Nat) : Int))) := by
      show tn_ (if 0 < n + 1 then ta_ (ow_ J (n + 1)) 62 else ow_ J (n + 1)) (J ((n + 1 : Nat) : Int)) = _
      rw [if_pos (by omega), ta_e (by rw [ih.1]; omega), tn_e (by rw [List.length_append, ih.1, List.length_singleton]; omega), List.append_assoc]
    refine ⟨?_, fun _ => e⟩
    rw [e, List.length_append, List.length_append, ih.1, dn_1 h0.1 (by omega), List.length_singleton]
    omega
section BDWAY
variable {sc : Nat × (Nat → Int32)} {g : bc_C} {d : Nat} {σ : bc_M} {B : Int} {v : cs_t} {Rr : Option bc_A → List bd_O → bc_M → Prop}
theorem t_L_areWaysRight {a b : Int} (hsc : sc.1 < 2000) (hF : fa_ B σ v) (hU : uj_ (c_r v)) (hB : B ≤ 990000) (a0 : 0 ≤ a) (a1 : a < 8) (b0 : 0 ≤ b) (b1 : b < 8) (h : ∀ (σ' : bc_M) (v' : cs_t), fa_ B σ' v' → c_r v' = c_r v → Rr (some (bc_I 1)) [] σ') : bd_Sem sc g [] (d + 32) mL_areWaysRight [bc_R 0, bc_I a, bc_I b] σ Rr := by
  have hM := hF.1.1.2.1
  have ha : bc_in a := by constructor <;> omega
  have hb : bc_in b := by constructor <;> omega
  have wl := wb_le (sa_le hM) a0 a1 b0 b1
  refine bd_enter2 hsc v_172 rfl mt_L_areWaysRight rfl (fun K hK hG => ?_)
  by_cases hne : a = b
  · have p2 : pf_ a b = 2 := by
      unfold pf_
      rw [if_neg (fun z => z ⟨⟨a0, a1⟩, b0, b1⟩), if_pos hne]
    have p1 : pf_ 8 b = 1 := by
      unfold pf_
      rw [if_pos (fun z => by omega)]
    have p3 : pf_ (-1) b = 1 := by
      unfold pf_
      rw [if_pos (fun z => by omega)]
    have y2 : yq_ (c_r v) a b = 2 := by
      unfold yq_
      rw [if_pos (by rw [p2]; decide), p2]
    have yv2 : ∀ t, yv_ (c_r v, t) a b = (c_r v, t) := fun t => if_pos (by rw [p2]; decide)
    refine hK.1 [101, 106, 148, 195, 234, 246, 251, 286, 295, 317, 335, 341, 349] 90 _ _ _ _ _ _ _ ?_
    refine bc_ob_i (by first | omega | decide | (constructor <;> omega) | (constructor <;> constructor <;> omega)) ?_
    refine bc_br_i (fun _ => ?_) (fun c => absurd hne c)
    refine bc_nb_i (by show 20 ≤ 2000; omega) rfl rfl ?_
    refine fun Z => t_L_ask1 hF ha hb (by decide) (fun e => by omega) (fun _ => ?_) (fun e => by omega) (fun e => by omega)
    refine bc_ob_i (by first | omega | decide | (constructor <;> omega) | (constructor <;> constructor <;> omega)) ?_
    refine bc_br_i (fun _ => ?_) (fun c => absurd rfl c)
    refine bc_nb_i (by show 40 ≤ 2000; omega) rfl rfl ?_
    refine fun Z => t_L_ask2 hF ha hb (by decide) (fun e => by omega) (fun _ => ?_) (fun e => by omega) (fun e => by omega)
    refine bc_ob_i (by first | omega | decide | (constructor <;> omega) | (constructor <;> constructor <;> omega)) ?_
    refine bc_br_i (fun _ => ?_) (fun c => absurd rfl c)
    refine bc_nb_i (by show 60 ≤ 2000; omega) rfl rfl ?_
    refine fun Z => t_L_ask3 hF ha hb (by decide) (fun e => by have e : yq_ (c_r v) a b = 1 := e; omega) (fun _ σ1 F1 => ?_) (fun e => by have e : yq_ (c_r v) a b = 4 ∨ (yq_ (c_r v) a b = 0 ∧ _) := e; omega) (fun e => by have e : yq_ (c_r v) a b = 0 := e; omega)
    have F1 : fa_ B σ1 v := by
      have := yv2 v.2
      rw [show (c_r v, v.2) = v from rfl] at this
      rw [this] at F1
      exact F1
    refine bc_ob_i (by first | omega | decide | (constructor <;> omega) | (constructor <;> constructor <;> omega)) ?_
    refine bc_br_i (fun _ => ?_) (fun c => absurd rfl c)
    refine bc_nb_i (by show 80 ≤ 2000; omega) rfl rfl ?_
    refine fun Z => t_L_ask5 F1 ha hb (by decide) (by omega) (fun e => by omega) (fun _ => ?_) (fun e => by omega) (fun e => by omega)
    refine bc_ob_i (by first | omega | decide | (constructor <;> omega) | (constructor <;> constructor <;> omega)) ?_
    refine bc_br_i (fun _ => ?_) (fun c => absurd rfl c)
    refine bc_nb_i (by show 100 ≤ 2000; omega) rfl rfl ?_
    refine fun Z => t_L_ask6 F1 (by decide) hb (by decide) (by omega) (fun _ => ?_) (fun e => by omega) (fun e => by omega) (fun e => by omega)
    refine bc_ob_i (by first | omega | decide | (constructor <;> omega) | (constructor <;> constructor <;> omega)) ?_
    refine bc_br_i (fun _ => ?_) (fun c => absurd rfl c)
    refine bc_nb_i (by show 120 ≤ 2000; omega) rfl rfl ?_
    refine fun Z => t_L_ask1 F1 (by decide) hb (by decide) (fun _ => ?_) (fun e => by omega) (fun e => by omega) (fun e => by omega)
    refine bc_ob_i (by first | omega | decide | (constructor <;> omega) | (constructor <;> constructor <;> omega)) ?_
    refine bc_br_i (fun _ => ?_) (fun c => absurd rfl c)
    refine bc_ob_i (by first | omega | decide | (constructor <;> omega) | (constructor <;> constructor <;> omega)) ?_
    exact h σ1 _ F1 rfl
  · have p0 : pf_ a b = 0 := by
      unfold pf_
      rw [if_neg (fun z => z ⟨⟨a0, a1⟩, b0, b1⟩), if_neg hne]
    have ey : yq_ (c_r v) a b = if wb_ (sa_ (c_r v)) a b = 0 then 4 else 0 := by
      unfold yq_
      rw [if_neg (fun z => z p0)]
    have yv0 : ∀ t, yv_ (c_r v, t) a b = u_J (c_r v, t) (fz_ (sa_ (c_r v)) a b (c_J (c_r v, t))).1 (fz_ (sa_ (c_r v)) a b (c_J (c_r v, t))).2 := fun t => if_neg (fun z => z p0)
    have a1_ : ∀ {σ1 : bc_M} {t : rw_t × rw_t × (List rw_t × Int) × ((Int → Int) × Int) × (List Int) × ((Int → Int) × gr_t) × (List Int) × Int × Int × Int}, fa_ B σ1 (c_r v, t) → ∀ {D : Nat} {g1 : bc_C} {R1 : Option bc_A → bc_M → Prop}, (∀ σ2 : bc_M, fa_ B σ2 (c_r v, t) → R1 (some (bc_I (if wb_ (sa_ (c_r v)) a b = 0 then -2004 else wb_ (sa_ (c_r v)) a b))) σ2) → bc_Sem g1 (D + 22) mL_ask [bc_R 0, bc_I 1, bc_I a, bc_I b, bc_I 0] σ1 R1 (fun _ _ => False) := fun {_ _} F1 {_ _ _} q => by
      refine t_L_ask1 F1 ha hb (by decide) (fun e => by omega) (fun e => by omega) (fun _ hz σ2 F2 => ?_) (fun _ hz σ2 F2 => ?_)
      · have hz : wb_ (sa_ (c_r v)) a b = 0 := hz
        have := q σ2 F2
        rw [if_pos hz] at this
        exact this
      · have hz : wb_ (sa_ (c_r v)) a b ≠ 0 := hz
        have := q σ2 F2
        rw [if_neg hz] at this
        exact this
    have a2_ : ∀ {σ1 : bc_M} {t : rw_t × rw_t × (List rw_t × Int) × ((Int → Int) × Int) × (List Int) × ((Int → Int) × gr_t) × (List Int) × Int × Int × Int}, fa_ B σ1 (c_r v, t) → ∀ {D : Nat} {g1 : bc_C} {R1 : Option bc_A → bc_M → Prop}, R1 (some (bc_I (if wb_ (sa_ (c_r v)) a b = 0 then -2004 else wb_ (sa_ (c_r v)) a b))) σ1 → bc_Sem g1 (D + 22) mL_ask [bc_R 0, bc_I 2, bc_I a, bc_I b, bc_I 0] σ1 R1 (fun _ _ => False) := fun {_ _} F1 {_ _ _} q => by
      have ex : ∀ x, wt1_ (c_r v) a b x → x = wb_ (sa_ (c_r v)) a b := fun x hx => by
        rw [wt1_xw hM hU ⟨a0, a1⟩ ⟨b0, b1⟩ hne hx]
        exact (wb_xw hM hU a0 a1 b0 b1 (fun z => hne z.symm) (xw_99 hM a 8 b (fun z => hne z.symm))).symm
      refine t_L_ask2 F1 ha hb (by decide) (fun e => by omega) (fun e => by omega) (fun _ hz => ?_) (fun _ x hx hz => ?_)
      · have hz := ex _ hz
        rw [if_pos hz.symm] at q
        exact q
      · have e := ex x hx
        rw [if_neg (by rw [← e]; exact hz), ← e] at q
        exact q
    have a3n : ∀ {σ1 : bc_M} {t : rw_t × rw_t × (List rw_t × Int) × ((Int → Int) × Int) × (List Int) × ((Int → Int) × gr_t) × (List Int) × Int × Int × Int} {c : Int}, fa_ B σ1 (c_r v, t) → bc_in c → (wb_ (sa_ (c_r v)) a b ≠ 0 → c < 0 ∨ (fz_ (sa_ (c_r v)) a b (c_J (c_r v, t))).2 < c) → ∀ {D : Nat} {g1 : bc_C} {R1 : Option bc_A → bc_M → Prop}, (∀ (σ2 : bc_M) (t2 : rw_t × rw_t × (List rw_t × Int) × ((Int → Int) × Int) × (List Int) × ((Int → Int) × gr_t) × (List Int) × Int × Int × Int), fa_ B σ2 (c_r v, t2) → R1 (some (bc_I (-2004))) σ2) → bc_Sem g1 (D + 22) mL_ask [bc_R 0, bc_I 3, bc_I a, bc_I b, bc_I c] σ1 R1 (fun _ _ => False) := fun {_ t c} F1 hc hcc {_ _ _} q => by
      have ey : yq_ (c_r (c_r v, t)) a b = if wb_ (sa_ (c_r v)) a b = 0 then 4 else 0 := ey
      refine t_L_ask3 F1 ha hb hc (fun e => by rw [ey] at e; split at e <;> omega) (fun e => by rw [ey] at e; split at e <;> omega) (fun _ σ2 F2 => ?_) (fun e c0 c1 => ?_)
      · rw [yv0] at F2
        exact q σ2 _ F2
      · rw [ey] at e
        by_cases z : wb_ (sa_ (c_r v)) a b = 0
        · rw [if_pos z] at e
          exact absurd e (by decide)
        · have hcc := hcc z
          rw [yv0] at c1
          have c1 : c ≤ (fz_ (sa_ (c_r v)) a b (c_J (c_r v, t))).2 := c1
          exact (by omega : False).elim
    have hx := i3_one a0 a1
    have TXT : ∀ (g1 : bc_C) (bs wy : Int → Int) (σ1 : bc_M) (t : rw_t × rw_t × (List rw_t × Int) × ((Int → Int) × Int) × (List Int) × ((Int → Int) × gr_t) × (List Int) × Int × Int × Int), tb1_ (sa_ (c_r v)) a b bs → tg1_ (wb_ (sa_ (c_r v)) a b) (fz_ (sa_ (c_r v)) a b (c_J v)).2 (fz_ (sa_ (c_r v)) a b (c_J v)).1 bs → 1 ≤ wb_ (sa_ (c_r v)) a b → fa_ B σ1 (c_r v, t) → K g1 [bd_row 11 bs, bd_row 9 wy] 227 [(0, bc_R 0), (1, bc_I a), (2, bc_I b), (3, bc_R 500), (4, bc_R 501), (5, bc_I (wb_ (sa_ (c_r v)) a b)), (6, bc_I 1)] [] σ1 66 := by
      intro g1 bs wy σ1 t tb tg w1 F1
      obtain ⟨e0, e1, e2⟩ := tbe_ hM hU a0 a1 b0 b1 hne (c_J v) w1 tb tg
      have tp := tpe_ hM hU a0 a1 b0 b1 hne (c_J v) w1 wl.2
      have fz2 : ∀ J : Int → Int, (fz_ (sa_ (c_r v)) a b J).2 = bs 1 := fun J => (fzJ_ hM hU a0 a1 b0 b1 hne (c_J v) J w1).1.trans e1.symm
      have fz1 : ∀ (J : Int → Int) (i : Int), 0 ≤ i → i ≤ bs 1 → (fz_ (sa_ (c_r v)) a b J).1 i = bs (2 + i) := fun J i i0 i1 => by
        have h1 := (fzJ_ hM hU a0 a1 b0 b1 hne (c_J v) J w1).2 i.toNat (by omega)
        rw [Int.toNat_of_nonneg i0] at h1
        rw [h1, e2 i i0 i1]
      have n17 : 1 ≤ bs 1 ∧ bs 1 ≤ 7 := by
        have := (fwp_ hM hU a0 a1 b0 b1 hne (c_J v) w1).1
        omega
      have br : ∀ i : Int, 0 ≤ i → i ≤ bs 1 → 0 ≤ bs (2 + i) ∧ bs (2 + i) < 8 := fun i i0 i1 => by
        rw [e2 i i0 i1]
        exact tp.2.2.2.1 i i0 (by omega)
      have b20 : bs 2 = a := by
        have h1 := e2 0 (by decide) (by omega)
        rw [show (2 : Int) + 0 = 2 from rfl] at h1
        rw [h1]
        exact (fwp_ hM hU a0 a1 b0 b1 hne (c_J v) w1).2.2.1
      have ow1 : ow_ (fun i => bs (2 + i)) 1 = dn_ a := by
        show tn_ [] (bs (2 + ((0 : Nat) : Int))) = _
        rw [tn_e (by decide), List.nil_append, show (2 : Int) + ((0 : Nat) : Int) = 2 from rfl, b20]
      have wj : ∀ {σ1 : bc_M} {t : rw_t × rw_t × (List rw_t × Int) × ((Int → Int) × Int) × (List Int) × ((Int → Int) × gr_t) × (List Int) × Int × Int × Int} {k : Int}, fa_ B σ1 (c_r v, t) → 0 ≤ k → k ≤ bs 1 → ∀ {D : Nat} {g1 : bc_C} {R1 : Option bc_A → bc_M → Prop}, (∀ (σ2 : bc_M) (t2 : rw_t × rw_t × (List rw_t × Int) × ((Int → Int) × Int) × (List Int) × ((Int → Int) × gr_t) × (List Int) × Int × Int × Int), fa_ B σ2 (c_r v, t2) → R1 (some (bc_I (bs (2 + k)))) σ2) → bc_Sem g1 (D + 5) mX10_wayJoint [bc_R 0, bc_I a, bc_I b, bc_I k] σ1 R1 (fun _ _ => False) := fun {_ t k} F1 k0 k1 {_ _ _} q => by
        have y0 : yq_ (c_r (c_r v, t)) a b = 0 := by
          show yq_ (c_r v) a b = 0
          rw [ey, if_neg (by omega)]
        have el := fz2 (c_J (c_r v, t))
        have ev := fz1 (c_J (c_r v, t)) k k0 k1
        refine t_X10_wayJoint F1 ha hb (by constructor <;> omega) (fun e he => by rw [y0] at he; omega) (fun _ hc => ?_) (fun _ _ _ σ2 F2 _ => ?_)
        · rw [yv0] at hc
          have hc : k < 0 ∨ (fz_ (sa_ (c_r v)) a b (c_J (c_r v, t))).2 < k := hc
          exact (by omega : False).elim
        · rw [yv0] at F2 ⊢
          show _
          have h9 := q σ2 _ F2
          rw [← ev] at h9
          exact h9
      have END : ∀ (g2 : bc_C) (w : List Nat) (σ2 : bc_M) (t2 : rw_t × rw_t × (List rw_t × Int) × ((Int → Int) × Int) × (List Int) × ((Int → Int) × gr_t) × (List Int) × Int × Int × Int) (n : Nat) (k : Int), w.map (fun n : Nat => (n : Int)) = ow_ (fun i => bs (2 + i)) ((bs 1).toNat + 1) → fa_ B σ2 (c_r v, t2) → n ≤ 1000 → K g2 [bd_row 11 bs, bd_row 9 wy, bd_txt w] 349 [(0, bc_R 0), (1, bc_I a), (2, bc_I b), (3, bc_R 500), (4, bc_R 501), (5, bc_I (wb_ (sa_ (c_r v)) a b)), (6, bc_I 1), (7, bc_R 502), (8, bc_I k)] [] σ2 n := by
        intro g2 w σ2 t2 n k hw F2 hn
        have y0 : yq_ (c_r v) a b = 0 := by rw [ey, if_neg (by omega)]
        have ol := (ow_s (J := fun i => bs (2 + i)) (bs 1).toNat (by omega) (fun i hi => br i (by omega) (by omega))).1
        have lw : w.length = 2 * (bs 1).toNat + 1 := by
          have := congrArg List.length hw
          rw [List.length_map] at this
          omega
        refine hK.1 [349] 90 _ _ _ _ _ _ _ ?_
        refine bc_ob_i (by first | omega | decide | (constructor <;> omega) | (constructor <;> constructor <;> omega)) ?_
        refine bc_br_i (fun c => absurd c (by decide)) (fun _ => ?_)
        refine bc_nb_i (by show n + 1 ≤ 2000; omega) rfl rfl ?_
        refine fun Z => t_X10_wayLength F2 ha hb (fun e he => by have he : yq_ (c_r v) a b = e + 1 := he; omega) (fun _ σ3 F3 _ => ?_)
        have l3 : c_len (yv_ (c_r v, t2) a b) = bs 1 := by
          rw [yv0]
          exact fz2 _
        rw [l3]
        rw [yv0] at F3
        refine bc_ob_i ⟨⟨by decide, by decide⟩, by decide⟩ ?_
        refine bc_ob_i (by first | omega | decide | (constructor <;> omega) | (constructor <;> constructor <;> omega)) ?_
        refine bc_br_i (fun _ => ?_) (fun c => absurd rfl c)
        refine bc_ob_i ⟨⟨by decide, by decide⟩, by decide⟩ ?_
        refine bc_nb_i (by show n + 1 + 20 ≤ 2000; omega) rfl rfl ?_
        refine fun Z => a3n F3 (by constructor <;> omega) (fun _ => .inr (by rw [fz2]; omega)) (fun σ4 t4 F4 => ?_)
        refine bc_ob_i (by first | omega | decide | (constructor <;> omega) | (constructor <;> constructor <;> omega)) ?_
        refine bc_br_i (fun _ => ?_) (fun c => absurd rfl c)
        refine bc_nb_i (by show n + 1 + 20 + 1 ≤ 2000; omega) rfl rfl ?_
        refine fun Z => t_X10_renderWay F4 ha hb (fun e he => by have he : yq_ (c_r v) a b = e + 1 := he; omega) (fun _ σ5 F5 _ => ?_)
        have lo : ow_ (c_J (yv_ (c_r v, t4) a b)) ((c_len (yv_ (c_r v, t4) a b)).toNat + 1) = ow_ (fun i => bs (2 + i)) ((bs 1).toNat + 1) := by
          rw [yv0]
          show ow_ (fz_ (sa_ (c_r v)) a b (c_J (c_r v, t4))).1 ((fz_ (sa_ (c_r v)) a b (c_J (c_r v, t4))).2.toNat + 1) = _
          rw [fz2]
          exact ow_cong _ (fun i hi => fz1 _ i (by omega) (by omega))
        rw [lo, ← hw] at F5
        rw [yv0] at F5
        rw [lo]
        refine bd_nb_i (by show n + 1 + 20 + 1 + 90 ≤ 2000; omega) rfl ?_
        refine t_L_isText2 hsc F5 (by rw [ol, lw]) (by omega) (by show (w.map (fun n : Nat => (n : Int))).length = _; rw [List.length_map]) (fun j j0 j1 => tg_map j0 j1) ?_
        refine bc_ob_i (by first | omega | decide | (constructor <;> omega) | (constructor <;> constructor <;> omega)) ?_
        refine bc_br_i (fun c => absurd c (by decide)) (fun _ => ?_)
        refine bc_ob_i (by first | omega | decide | (constructor <;> omega) | (constructor <;> constructor <;> omega)) ?_
        exact h σ5 _ F5 rfl
      have LOOP : ∀ k : Int, ∀ (g2 : bc_C) (w : List Nat) (σ2 : bc_M) (t2 : rw_t × rw_t × (List rw_t × Int) × ((Int → Int) × Int) × (List Int) × ((Int → Int) × gr_t) × (List Int) × Int × Int × Int) (n : Nat) , 0 ≤ k → k ≤ bs 1 + 1 → (w.map (fun n : Nat => (n : Int)) = if k = 0 then dn_ a else ow_ (fun i => bs (2 + i)) k.toNat) → (w.length : Int) ≤ 2 * k + 1 - (if k = 0 then 0 else 2) → fa_ B σ2 (c_r v, t2) → (n : Int) ≤ 80 + 20 * k → K g2 [bd_row 11 bs, bd_row 9 wy, bd_txt w] 251 [(0, bc_R 0), (1, bc_I a), (2, bc_I b), (3, bc_R 500), (4, bc_R 501), (5, bc_I (wb_ (sa_ (c_r v)) a b)), (6, bc_I 1), (7, bc_R 502), (8, bc_I k)] [] σ2 n := by
        refine up_ind (bs 1 + 1) (fun k hk g2 w σ2 t2 n k0 k1 hw hl F2 hn => ?_) (fun k hk ih g2 w σ2 t2 n k0 k1 hw hl F2 hn => ?_)
        · have e : k.toNat = (bs 1).toNat + 1 := by omega
          rw [if_neg (by omega), e] at hw
          refine hK.1 [251, 349] 60 _ _ _ _ _ _ _ ?_
          refine bc_ob_i ⟨by decide, by decide⟩ ?_
          refine bc_ob_i (by first | omega | decide | (constructor <;> omega) | (constructor <;> constructor <;> omega)) ?_
          refine bc_br_i (fun _ => ?_) (fun c => (by omega : False).elim)
          exact END g2 w σ2 t2 n k hw F2 (by omega)
        · have bk := br k k0 (by omega)
          have hl15 : w.length ≤ 13 := by
            split at hl <;> omega
          refine hK.1 [251, 295, 349] 90 _ _ _ _ _ _ _ ?_
          refine bc_ob_i ⟨by decide, by decide⟩ ?_
          refine bc_ob_i (by first | omega | decide | (constructor <;> omega) | (constructor <;> constructor <;> omega)) ?_
          refine bc_br_i (fun c => (by omega : False).elim) (fun _ => ?_)
          refine bc_ob_i (by first | omega | decide | (constructor <;> omega) | (constructor <;> constructor <;> omega)) ?_
          refine bc_br_i (fun c => absurd c (by decide)) (fun _ => ?_)
          refine bc_nb_i (by show n + 2 ≤ 2000; omega) rfl rfl ?_
          refine fun Z => wj F2 k0 (by omega) (fun σ3 t3 F3 => ?_)
          refine bc_ob_i ⟨⟨by omega, by omega⟩, by decide⟩ ?_
          refine bc_ob_i (by first | omega | decide | (constructor <;> omega) | (constructor <;> constructor <;> omega)) ?_
          refine bc_br_i (fun _ => ?_) (fun c => absurd rfl c)
          -- the text grows
          refine bc_ob_i (by show n + 2 + 4 ≤ 2000; omega) ?_
          intro p1 p2
          have P295 : ∀ g3 : bc_C, K g3 [bd_row 11 bs, bd_row 9 wy, bd_txt w, bd_bld []] 295 [(0, bc_R 0), (1, bc_I a), (2, bc_I b), (3, bc_R 500), (4, bc_R 501), (5, bc_I (wb_ (sa_ (c_r v)) a b)), (6, bc_I 1), (7, bc_R 502), (8, bc_I k)] [bc_R 503] σ3 (n + 6) := by
            intro g3
            refine hK.1 [295, 317, 341] 60 _ _ _ _ _ _ _ ?_
            refine bc_ob_i (by show 0 + w.length ≤ 15; omega) ?_
            refine bc_ob_i (by first | omega | decide | (constructor <;> omega) | (constructor <;> constructor <;> omega)) ?_
            refine bc_br_i (fun z => ?_) (fun z => ?_)
            · -- k = 0: nothing
              have z : k = 0 := z
              rw [if_pos z] at hw
              have P341 : ∀ g4 : bc_C, K g4 [bd_row 11 bs, bd_row 9 wy, bd_txt w, bd_bld (([] ++ w) ++ []), bd_txt (([] ++ w) ++ [])] 341 [(0, bc_R 0), (1, bc_I a), (2, bc_I b), (3, bc_R 500), (4, bc_R 501), (5, bc_I (wb_ (sa_ (c_r v)) a b)), (6, bc_I 1), (7, bc_R 502), (8, bc_I k)] [bc_R 504] σ3 (n + 10) := by
                intro g4
                refine hK.1 [341, 343] 60 _ _ _ _ _ _ _ ?_
                refine hG.2 2 4 (([] ++ w) ++ []) _ _ _ _ _ _ _ (Nat.zero_le _) (by decide) (by decide) rfl rfl ?_
                show K _ [bd_row 11 bs, bd_row 9 wy, bd_txt (([] ++ w) ++ [])] 343 [(0, bc_R 0), (1, bc_I a), (2, bc_I b), (3, bc_R 500), (4, bc_R 501), (5, bc_I (wb_ (sa_ (c_r v)) a b)), (6, bc_I 1), (7, bc_R 502), (8, bc_I k)] [] σ3 (n + 10)
                rw [List.append_nil, List.nil_append]
                refine hK.1 [251, 343] 60 _ _ _ _ _ _ _ ?_
                refine ih _ w σ3 t3 (n + 10) (by omega) (by omega) ?_ ?_ F3 (by omega)
                · rw [if_neg (by omega), show (k + 1).toNat = 1 by omega, ow1, hw]
                · rw [if_neg (by omega)]
                  rw [if_pos z] at hl
                  omega
              refine bc_ob_i (by show ([] ++ w).length + (bc_tx 22).length ≤ 15; rw [List.nil_append]; show w.length + 0 ≤ 15; omega) ?_
              refine bc_ob_i (by show n + 6 + 4 ≤ 2000; omega) ?_
              intro p3 p4
              show K _ [bd_row 11 bs, bd_row 9 wy, bd_txt w, bd_bld (([] ++ w) ++ []), bd_txt (([] ++ w) ++ [])] 341 [(0, bc_R 0), (1, bc_I a), (2, bc_I b), (3, bc_R 500), (4, bc_R 501), (5, bc_I (wb_ (sa_ (c_r v)) a b)), (6, bc_I 1), (7, bc_R 502), (8, bc_I k)] [bc_R 504] σ3 (n + 10)
              exact P341 _
            · have z : ¬ k = 0 := z
              rw [if_neg z] at hw
              have dgl : (bd_dg (bs (2 + k))).length = 1 := (dg_len bk.1 (by omega)).2 (by omega)
              have P317 : ∀ g4 : bc_C, K g4 [bd_row 11 bs, bd_row 9 wy, bd_txt w, bd_bld ([] ++ w), bd_bld []] 317 [(0, bc_R 0), (1, bc_I a), (2, bc_I b), (3, bc_R 500), (4, bc_R 501), (5, bc_I (wb_ (sa_ (c_r v)) a b)), (6, bc_I 1), (7, bc_R 502), (8, bc_I k)] [bc_R 504, bc_R 503] σ3 (n + 10) := by
                intro g4
                have P335 : ∀ g5 : bc_C, K g5 [bd_row 11 bs, bd_row 9 wy, bd_txt w, bd_bld ([] ++ w), bd_bld (([] ++ [62]) ++ bd_dg (bs (2 + k))), bd_txt (([] ++ [62]) ++ bd_dg (bs (2 + k)))] 335 [(0, bc_R 0), (1, bc_I a), (2, bc_I b), (3, bc_R 500), (4, bc_R 501), (5, bc_I (wb_ (sa_ (c_r v)) a b)), (6, bc_I 1), (7, bc_R 502), (8, bc_I k)] [bc_R 505, bc_R 503] σ3 (n + 14) := by
                  intro g5
                  have P341 : ∀ g6 : bc_C, K g6 [bd_row 11 bs, bd_row 9 wy, bd_txt w, bd_bld (([] ++ w) ++ (([] ++ [62]) ++ bd_dg (bs (2 + k)))), bd_bld (([] ++ [62]) ++ bd_dg (bs (2 + k))), bd_txt (([] ++ [62]) ++ bd_dg (bs (2 + k))), bd_txt (([] ++ w) ++ (([] ++ [62]) ++ bd_dg (bs (2 + k))))] 341 [(0, bc_R 0), (1, bc_I a), (2, bc_I b), (3, bc_R 500), (4, bc_R 501), (5, bc_I (wb_ (sa_ (c_r v)) a b)), (6, bc_I 1), (7, bc_R 502), (8, bc_I k)] [bc_R 506] σ3 (n + 18) := by
                    intro g6
                    refine hK.1 [341, 343] 60 _ _ _ _ _ _ _ ?_
                    refine hG.2 2 6 (([] ++ w) ++ (([] ++ [62]) ++ bd_dg (bs (2 + k)))) _ _ _ _ _ _ _ (Nat.zero_le _) (by decide) (by decide) rfl rfl ?_
                    show K _ [bd_row 11 bs, bd_row 9 wy, bd_txt (([] ++ w) ++ (([] ++ [62]) ++ bd_dg (bs (2 + k))))] 343 [(0, bc_R 0), (1, bc_I a), (2, bc_I b), (3, bc_R 500), (4, bc_R 501), (5, bc_I (wb_ (sa_ (c_r v)) a b)), (6, bc_I 1), (7, bc_R 502), (8, bc_I k)] [] σ3 (n + 18)
                    refine hK.1 [251, 343] 60 _ _ _ _ _ _ _ ?_
                    have os := (ow_s (J := fun i => bs (2 + i)) k.toNat (by omega) (fun i hi => br i (by omega) (by omega))).2 (by omega)
                    refine ih _ _ σ3 t3 (n + 18) (by omega) (by omega) ?_ ?_ F3 (by omega)
                    · rw [if_neg (by omega), show (k + 1).toNat = k.toNat + 1 by omega, os, List.nil_append, List.nil_append, List.map_append, List.map_append, hw, dg_dn bk.1 (by omega), show ((k.toNat : Nat) : Int) = k from Int.toNat_of_nonneg k0]
                      rfl
                    · rw [if_neg (by omega), List.nil_append, List.nil_append, List.length_append, List.length_append, dgl, List.length_singleton]
                      rw [if_neg z] at hl
                      omega
                  refine hK.1 [335, 341] 60 _ _ _ _ _ _ _ ?_
                  refine bc_ob_i (by show ([] ++ w).length + (([] ++ [62]) ++ bd_dg (bs (2 + k))).length ≤ 15; rw [List.nil_append, List.nil_append, List.length_append, dgl, List.length_singleton]; omega) ?_
                  refine bc_ob_i (by show n + 14 + 4 ≤ 2000; omega) ?_
                  intro p3 p4
                  show K _ [bd_row 11 bs, bd_row 9 wy, bd_txt w, bd_bld (([] ++ w) ++ (([] ++ [62]) ++ bd_dg (bs (2 + k)))), bd_bld (([] ++ [62]) ++ bd_dg (bs (2 + k))), bd_txt (([] ++ [62]) ++ bd_dg (bs (2 + k))), bd_txt (([] ++ w) ++ (([] ++ [62]) ++ bd_dg (bs (2 + k))))] 341 [(0, bc_R 0), (1, bc_I a), (2, bc_I b), (3, bc_R 500), (4, bc_R 501), (5, bc_I (wb_ (sa_ (c_r v)) a b)), (6, bc_I 1), (7, bc_R 502), (8, bc_I k)] [bc_R 506] σ3 (n + 18)
                  exact P341 _
                refine hK.1 [317, 335] 60 _ _ _ _ _ _ _ ?_
                refine bc_ob_i (by decide) ?_
                refine bc_ob_i ⟨⟨by omega, by omega⟩, by decide⟩ ?_
                refine bc_ob_i ⟨⟨by omega, by omega⟩, by show ([] ++ [62]).length + (bd_dg (bs (2 + k))).length ≤ 15; rw [dgl]; decide⟩ ?_
                refine bc_ob_i (by show n + 10 + 4 ≤ 2000; omega) ?_
                intro p3 p4
                show K _ [bd_row 11 bs, bd_row 9 wy, bd_txt w, bd_bld ([] ++ w), bd_bld (([] ++ [62]) ++ bd_dg (bs (2 + k))), bd_txt (([] ++ [62]) ++ bd_dg (bs (2 + k)))] 335 [(0, bc_R 0), (1, bc_I a), (2, bc_I b), (3, bc_R 500), (4, bc_R 501), (5, bc_I (wb_ (sa_ (c_r v)) a b)), (6, bc_I 1), (7, bc_R 502), (8, bc_I k)] [bc_R 505, bc_R 503] σ3 (n + 14)
                exact P335 _
              refine bc_ob_i (by show n + 6 + 4 ≤ 2000; omega) ?_
              intro p3 p4
              show K _ [bd_row 11 bs, bd_row 9 wy, bd_txt w, bd_bld ([] ++ w), bd_bld []] 317 [(0, bc_R 0), (1, bc_I a), (2, bc_I b), (3, bc_R 500), (4, bc_R 501), (5, bc_I (wb_ (sa_ (c_r v)) a b)), (6, bc_I 1), (7, bc_R 502), (8, bc_I k)] [bc_R 504, bc_R 503] σ3 (n + 10)
              exact P317 _
          show K _ [bd_row 11 bs, bd_row 9 wy, bd_txt w, bd_bld []] 295 [(0, bc_R 0), (1, bc_I a), (2, bc_I b), (3, bc_R 500), (4, bc_R 501), (5, bc_I (wb_ (sa_ (c_r v)) a b)), (6, bc_I 1), (7, bc_R 502), (8, bc_I k)] [bc_R 503] σ3 (n + 6)
          exact P295 _
      have dga : (bd_dg a).length = 1 := (dg_len a0 (by omega)).2 (by omega)
      have P246 : ∀ g2 : bc_C, K g2 [bd_row 11 bs, bd_row 9 wy, bd_bld (([] ++ []) ++ bd_dg a), bd_txt (([] ++ []) ++ bd_dg a)] 246 [(0, bc_R 0), (1, bc_I a), (2, bc_I b), (3, bc_R 500), (4, bc_R 501), (5, bc_I (wb_ (sa_ (c_r v)) a b)), (6, bc_I 1)] [bc_R 503] σ1 74 := by
        intro g2
        refine hG.2 2 3 (([] ++ []) ++ bd_dg a) _ _ _ _ _ _ _ (Nat.zero_le _) (by decide) (by decide) rfl rfl ?_
        show K _ [bd_row 11 bs, bd_row 9 wy, bd_txt (([] ++ []) ++ bd_dg a)] 246 [(0, bc_R 0), (1, bc_I a), (2, bc_I b), (3, bc_R 500), (4, bc_R 501), (5, bc_I (wb_ (sa_ (c_r v)) a b)), (6, bc_I 1)] [bc_R 502] σ1 74
        refine hK.1 [246, 251] 60 _ _ _ _ _ _ _ ?_
        refine LOOP 0 _ _ σ1 t 74 (by decide) (by omega) ?_ ?_ F1 (by decide)
        · rw [if_pos rfl, List.nil_append, List.nil_append]
          exact dg_dn a0 (by omega)
        · rw [List.nil_append, List.nil_append, dga]
          decide
      have P234 : ∀ g2 : bc_C, K g2 [bd_row 11 bs, bd_row 9 wy, bd_bld []] 234 [(0, bc_R 0), (1, bc_I a), (2, bc_I b), (3, bc_R 500), (4, bc_R 501), (5, bc_I (wb_ (sa_ (c_r v)) a b)), (6, bc_I 1)] [bc_R 502] σ1 70 := by
        intro g2
        refine hK.1 [234, 246] 60 _ _ _ _ _ _ _ ?_
        refine bc_ob_i (by decide) ?_
        refine bc_ob_i ⟨⟨by omega, by omega⟩, by show ([] ++ []).length + (bd_dg a).length ≤ 15; rw [dga]; decide⟩ ?_
        refine bc_ob_i (by decide) ?_
        intro p3 p4
        show K _ [bd_row 11 bs, bd_row 9 wy, bd_bld (([] ++ []) ++ bd_dg a), bd_txt (([] ++ []) ++ bd_dg a)] 246 [(0, bc_R 0), (1, bc_I a), (2, bc_I b), (3, bc_R 500), (4, bc_R 501), (5, bc_I (wb_ (sa_ (c_r v)) a b)), (6, bc_I 1)] [bc_R 503] σ1 74
        exact P246 _
      refine hK.1 [227, 234] 60 _ _ _ _ _ _ _ ?_
      refine bc_ob_i (by decide) ?_
      intro p1 p2
      show K _ [bd_row 11 bs, bd_row 9 wy, bd_bld []] 234 [(0, bc_R 0), (1, bc_I a), (2, bc_I b), (3, bc_R 500), (4, bc_R 501), (5, bc_I (wb_ (sa_ (c_r v)) a b)), (6, bc_I 1)] [bc_R 502] σ1 70
      exact P234 _
    have MAIN : ∀ (g1 : bc_C) (bs wy : Int → Int), tb1_ (sa_ (c_r v)) a b bs → (1 ≤ wb_ (sa_ (c_r v)) a b → tg1_ (wb_ (sa_ (c_r v)) a b) (fz_ (sa_ (c_r v)) a b (c_J v)).2 (fz_ (sa_ (c_r v)) a b (c_J v)).1 bs) → K g1 [bd_row 11 bs, bd_row 9 wy] 133 [(0, bc_R 0), (1, bc_I a), (2, bc_I b), (3, bc_R 500), (4, bc_R 501)] [] σ 6 := by
      intro g1 bs wy tb tg
      have b00 : bs 0 = wb_ (sa_ (c_r v)) a b := by
        rcases Int.lt_or_le (wb_ (sa_ (c_r v)) a b) 1 with c | c
        · rcases Int.lt_or_le (bs 0) 1 with e | e
          · rcases tb with ⟨e0, -⟩ | ⟨e0, -⟩ <;> omega
          · have := tbn_ a0 a1 b0 b1 hne tb e
            omega
        · exact (tbe_ hM hU a0 a1 b0 b1 hne (c_J v) c tb (tg c)).1
      have P148 : ∀ x : Int, x = (if wb_ (sa_ (c_r v)) a b = 0 then -2004 else wb_ (sa_ (c_r v)) a b) → K g1 [bd_row 11 bs, bd_row 9 wy] 148 [(0, bc_R 0), (1, bc_I a), (2, bc_I b), (3, bc_R 500), (4, bc_R 501)] [bc_I x] σ 6 := by
        intro x hx
        have lx : -2004 ≤ x ∧ x ≤ 99 := by rw [hx]; split <;> omega
        refine hK.1 [148, 227] 90 _ _ _ _ _ _ _ ?_
        refine bc_nb_i (by show 26 ≤ 2000; omega) rfl rfl ?_
        refine fun Z => a1_ hF (fun σ1 F1 => ?_)
        rw [← hx]
        refine bc_ob_i (by first | omega | decide | (constructor <;> omega) | (constructor <;> constructor <;> omega)) ?_
        refine bc_br_i (fun _ => ?_) (fun c => absurd rfl c)
        refine bc_nb_i (by show 46 ≤ 2000; omega) rfl rfl ?_
        refine fun Z => a2_ F1 ?_
        rw [← hx]
        refine bc_ob_i (by first | omega | decide | (constructor <;> omega) | (constructor <;> constructor <;> omega)) ?_
        refine bc_br_i (fun _ => ?_) (fun c => absurd rfl c)
        refine bc_nb_i (by show 66 ≤ 2000; omega) rfl rfl ?_
        refine fun Z => a3n F1 (by decide) (fun _ => .inl (by decide)) (fun σ2 t2 F2 => ?_)
        refine bc_ob_i (by first | omega | decide | (constructor <;> omega) | (constructor <;> constructor <;> omega)) ?_
        refine bc_br_i (fun _ => ?_) (fun c => absurd rfl c)
        -- 195
        refine bc_ob_i (by first | omega | decide | (constructor <;> omega) | (constructor <;> constructor <;> omega)) ?_
        refine bc_br_i (fun c => ?_) (fun c => ?_)
        · have c : x < 0 := by omega
          have z : wb_ (sa_ (c_r v)) a b = 0 := by
            by_cases z : wb_ (sa_ (c_r v)) a b = 0
            · exact z
            · rw [if_neg z] at hx
              omega
          refine bc_ob_i (by first | omega | decide | (constructor <;> omega) | (constructor <;> constructor <;> omega)) ?_
          refine bc_br_i (fun c => absurd c (by decide)) (fun _ => ?_)
          refine bc_nb_i (by show 86 ≤ 2000; omega) rfl rfl ?_
          refine fun Z => a3n F2 (by decide) (fun c => absurd z c) (fun σ3 t3 F3 => ?_)
          refine bc_ob_i (by first | omega | decide | (constructor <;> omega) | (constructor <;> constructor <;> omega)) ?_
          refine bc_br_i (fun _ => ?_) (fun c => absurd rfl c)
          refine bc_ob_i (by first | omega | decide | (constructor <;> omega) | (constructor <;> constructor <;> omega)) ?_
          exact h σ3 _ F3 rfl
        · have z : wb_ (sa_ (c_r v)) a b ≠ 0 := fun z => by
            rw [if_pos z] at hx
            omega
          rw [if_neg z] at hx
          subst hx
          exact TXT g1 bs wy σ2 t2 tb (tg (by omega)) (by omega) F2
      -- 133
      refine hK.1 [133, 148] 60 _ _ _ _ _ _ _ ?_
      refine bc_ob_i ⟨⟨by decide, by decide⟩, by decide⟩ ?_
      refine bc_ob_i (by constructor <;> omega) ?_
      refine bc_br_i (fun c => ?_) (fun c => ?_)
      · exact P148 (-2004) (by rw [if_pos (by omega)])
      · refine bc_ob_i ⟨⟨by decide, by decide⟩, by decide⟩ ?_
        exact P148 (bs 0) (by rw [if_neg (by omega), b00])
    refine hK.1 [101] 60 _ _ _ _ _ _ _ ?_
    refine bc_ob_i ⟨ha, hb⟩ ?_
    refine bc_br_i (fun c => absurd c hne) (fun _ => ?_)
    refine bc_ob_i (by decide) ?_
    intro ad
    show K (bd_up g 500 ad) [bd_row 11 (fun _ => 0)] 101 [(0, bc_R 0), (1, bc_I a), (2, bc_I b)] [bc_R 500] σ 3
    refine hK.1 [101, 106] 60 _ _ _ _ _ _ _ ?_
    refine bc_ob_i (by decide) ?_
    intro ad2
    show K (bd_up (bd_up g 500 ad) 501 ad2) [bd_row 11 (fun _ => 0), bd_row 9 (fun _ => 0)] 106 [(0, bc_R 0), (1, bc_I a), (2, bc_I b), (3, bc_R 500)] [bc_R 501] σ 6
    refine hK.1 [106, 133] 60 _ _ _ _ _ _ _ ?_
    refine bc_ob_i ⟨⟨by decide, by decide⟩, by decide⟩ ?_
    refine bc_ob_i ⟨⟨by decide, by decide⟩, by decide⟩ ?_
    refine bd_nb_i (by show 6 + 0 ≤ 2000; decide) rfl ?_
    refine t_L_tryWays (a := a) (b := b) (w := wb_ (sa_ (c_r v)) a b) (n := (fz_ (sa_ (c_r v)) a b (c_J v)).2) (P := (fz_ (sa_ (c_r v)) a b (c_J v)).1) (gp := 1 ≤ wb_ (sa_ (c_r v)) a b) hsc hF hU b0 b1 (fun w1 => tpe_ hM hU a0 a1 b0 b1 hne (c_J v) w1 wl.2) 7 0 999 _ (2 ^ a.toNat) _ _ _ _ (by decide) (tw1_0 a0 a1 rfl) hx.1 (.inl ⟨rfl, rfl⟩) (fun bs wy _ tb _ tg => ?_)
    refine MAIN _ bs wy tb (fun w1 => tg w1 ?_)
    have q := fwp_ hM hU a0 a1 b0 b1 hne (c_J v) w1
    refine ⟨fun i i0 i1 => ?_, by omega, by omega⟩
    have e : i = 0 := by omega
    subst e
    exact q.2.2.1.symm
end BDWAY
