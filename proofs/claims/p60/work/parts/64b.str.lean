/-! a member's text, and its strength, read out of it -/
def dn_ (n : Int) : List Int := if 10 ≤ n then [48 + n / 10 % 10, 48 + n % 10] else [48 + n % 10]
theorem dn_len (n : Int) : (dn_ n).length ≤ 2 := by
  unfold dn_
  split
  · exact Nat.le_refl 2
  · exact Nat.le_succ 1
theorem ta_e {l : List Int} {c : Int} (h : l.length < 60) : ta_ l c = l ++ [c] := by
  unfold ta_
  rw [if_pos h]
theorem tn_e {l : List Int} {n : Int} (h : l.length < 58) : tn_ l n = l ++ dn_ n := by
  unfold tn_ dn_
  by_cases c : 10 ≤ n
  · rw [if_pos c, if_pos c]
    have e1 : ta_ l (48 + n / 10 % 10) = l ++ [48 + n / 10 % 10] := ta_e (by omega)
    have e2 : ta_ (l ++ [48 + n / 10 % 10]) (48 + n % 10) = (l ++ [48 + n / 10 % 10]) ++ [48 + n % 10] := ta_e (by rw [List.length_append]; simp only [List.length_cons, List.length_nil]; omega)
    rw [e1, e2, List.append_assoc]
    rfl
  · rw [if_neg c, if_neg c]
    exact ta_e (by omega)
theorem tc_n {l l' : List Int} {n : Int} {k : Nat} (h : l = l' ∧ l'.length ≤ k) (hk : k < 58) : tn_ l n = l' ++ dn_ n ∧ (l' ++ dn_ n).length ≤ k + 2 := by
  obtain ⟨rfl, h2⟩ := h
  have := dn_len n
  exact ⟨tn_e (by omega), by rw [List.length_append]; omega⟩
theorem tc_a {l l' : List Int} {c : Int} {k : Nat} (h : l = l' ∧ l'.length ≤ k) (hk : k < 60) : ta_ l c = l' ++ [c] ∧ (l' ++ [c]).length ≤ k + 1 := by
  obtain ⟨rfl, h2⟩ := h
  exact ⟨ta_e (by omega), by rw [List.length_append]; simp only [List.length_cons, List.length_nil]; omega⟩
/-- the text, sign by sign -/
def om0_ (r : rw_t) (m : Int) : List Int := [] ++ dn_ m ++ [58] ++ dn_ (r (16 + 6 * m)) ++ [45] ++ dn_ (r (17 + 6 * m)) ++ [115] ++ dn_ (r (18 + 6 * m)) ++ [99] ++ dn_ (r (19 + 6 * m)) ++ [119] ++ dn_ (r (20 + 6 * m)) ++ (if r (21 + 6 * m) = 0 then [] else [120])
theorem om_e (r : rw_t) (m : Int) : om_ r m = om0_ r m ∧ (om_ r m).length ≤ 18 := by
  have h := tc_n (n := r (20 + 6 * m)) (tc_a (c := 119) (tc_n (n := r (19 + 6 * m)) (tc_a (c := 99) (tc_n (n := r (18 + 6 * m)) (tc_a (c := 115) (tc_n (n := r (17 + 6 * m)) (tc_a (c := 45) (tc_n (n := r (16 + 6 * m)) (tc_a (c := 58) (tc_n (l := []) (l' := []) (n := m) (k := 0) ⟨rfl, Nat.le_refl 0⟩ (by decide)) (by decide)) (by decide)) (by decide)) (by decide)) (by decide)) (by decide)) (by decide)) (by decide)) (by decide)) (by decide)
  by_cases e : r (21 + 6 * m) = 0
  · have e1 : om_ r m = om0_ r m := by
      unfold om_ om0_
      rw [if_pos e, if_pos e, List.append_nil]
      exact h.1
    refine ⟨e1, ?_⟩
    unfold om_
    rw [if_pos e, h.1]
    exact Nat.le_trans h.2 (by decide)
  · have h2 := tc_a (c := 120) h (by decide)
    have e1 : om_ r m = om0_ r m := by
      unfold om_ om0_
      rw [if_neg e, if_neg e]
      exact h2.1
    refine ⟨e1, ?_⟩
    unfold om_
    rw [if_neg e, h2.1]
    exact Nat.le_trans h2.2 (by decide)
/-- one sign is read: the strength so far, and whether it is being read -/
def sy_ (p : Int × Int) (c : Int) : Int × Int := (if p.2 ≠ 0 ∧ c ≠ 99 ∧ c ≠ 115 then 10 * p.1 + c - 48 else p.1, if c = 115 ∨ (p.2 ≠ 0 ∧ c ≠ 99) then 1 else 0)
def sgx_ (l : List Int) : Nat → Int × Int
  | 0 => (0, 0)
  | k + 1 => sy_ (sgx_ l k) (tg_ l (k : Int))
theorem sz_b (l : List Int) : ∀ k : Nat, (sgx_ l k).2 = 0 ∨ (sgx_ l k).2 = 1
  | 0 => .inl rfl
  | k + 1 => by
    show (if tg_ l (k : Int) = 115 ∨ ((sgx_ l k).2 ≠ 0 ∧ tg_ l (k : Int) ≠ 99) then (1 : Int) else 0) = 0 ∨ (if tg_ l (k : Int) = 115 ∨ ((sgx_ l k).2 ≠ 0 ∧ tg_ l (k : Int) ≠ 99) then (1 : Int) else 0) = 1
    split
    · exact .inr rfl
    · exact .inl rfl
theorem sz_f (l : List Int) : ∀ k : Nat, k ≤ l.length → sgx_ l k = (l.take k).foldl sy_ (0, 0)
  | 0, _ => by rw [List.take_zero]; rfl
  | k + 1, h => by
    have ih := sz_f l k (by omega)
    have hlt : k < l.length := by omega
    have e : l.take (k + 1) = l.take k ++ [l[k]] := by rw [List.take_succ_eq_append_getElem hlt]
    have e2 : tg_ l (k : Int) = l[k] := by
      unfold tg_
      rw [if_pos ⟨by omega, by omega⟩, Int.toNat_natCast, List.getD_eq_getElem?_getD, List.getElem?_eq_getElem hlt]
      rfl
    show sy_ (sgx_ l k) (tg_ l (k : Int)) = _
    rw [e, List.foldl_append, ih, e2]
    rfl
theorem sy_no {x c : Int} (h : c ≠ 115) : sy_ (x, 0) c = (x, 0) := by
  unfold sy_
  rw [if_neg (fun q => q.1 rfl), if_neg (fun q => q.elim h (fun z => z.1 rfl))]
theorem sy_d0 (x n : Int) : (dn_ n).foldl sy_ (x, 0) = (x, 0) := by
  unfold dn_
  split
  · show sy_ (sy_ (x, 0) (48 + n / 10 % 10)) (48 + n % 10) = _
    rw [sy_no (by omega), sy_no (by omega)]
  · show sy_ (x, 0) (48 + n % 10) = _
    rw [sy_no (by omega)]
theorem sy_dg {x c : Int} (h : c ≠ 99 ∧ c ≠ 115) : sy_ (x, 1) c = (10 * x + c - 48, 1) := by
  unfold sy_
  rw [if_pos ⟨(by decide : (1 : Int) ≠ 0), h⟩, if_pos (.inr ⟨(by decide : (1 : Int) ≠ 0), h.1⟩)]
theorem sy_d1 {n : Int} (h0 : 0 ≤ n) (h1 : n ≤ 99) : (dn_ n).foldl sy_ (0, 1) = (n, 1) := by
  unfold dn_
  split
  · show sy_ (sy_ (0, 1) (48 + n / 10 % 10)) (48 + n % 10) = _
    rw [sy_dg (by omega), sy_dg (by omega)]
    exact Prod.ext (by show 10 * (10 * 0 + (48 + n / 10 % 10) - 48) + (48 + n % 10) - 48 = n; omega) rfl
  · show sy_ (0, 1) (48 + n % 10) = _
    rw [sy_dg (by omega)]
    exact Prod.ext (by show 10 * 0 + (48 + n % 10) - 48 = n; omega) rfl
/-- the strength stands in the text -/
theorem sz_om {r : rw_t} {m : Int} (hs : 0 ≤ r (18 + 6 * m) ∧ r (18 + 6 * m) ≤ 99) : (sgx_ (om_ r m) (om_ r m).length).1 = r (18 + 6 * m) := by
  rw [sz_f _ _ (Nat.le_refl _), List.take_length, (om_e r m).1]
  have e58 : ∀ x : Int, sy_ (x, 0) 58 = (x, 0) := fun x => sy_no (by decide)
  have e45 : ∀ x : Int, sy_ (x, 0) 45 = (x, 0) := fun x => sy_no (by decide)
  have e19 : ∀ x : Int, sy_ (x, 0) 119 = (x, 0) := fun x => sy_no (by decide)
  have e20 : ∀ x : Int, sy_ (x, 0) 120 = (x, 0) := fun x => sy_no (by decide)
  have e15 : sy_ (0, 0) 115 = (0, 1) := by decide
  have e99 : ∀ x : Int, sy_ (x, 1) 99 = (x, 0) := fun x => by
    unfold sy_
    rw [if_neg (fun q => q.2.1 rfl), if_neg (fun q => q.elim (by decide) (fun z => z.2 rfl))]
  have d1 := sy_d1 hs.1 hs.2
  unfold om0_
  by_cases e : r (21 + 6 * m) = 0
  · rw [if_pos e]
    simp only [List.foldl_append, List.foldl_cons, List.foldl_nil, sy_d0, e58, e45, e15, d1, e99, e19]
  · rw [if_neg e]
    simp only [List.foldl_append, List.foldl_cons, List.foldl_nil, sy_d0, e58, e45, e15, d1, e99, e19, e20]
section P60B
variable {g : bc_C} {d : Nat} {σ : bc_M} {B : Int} {v : cs_t} {Rr : Option bc_A → bc_M → Prop} {X : Nat → bc_M → Prop}
theorem t_L_strength {m : Int} (hF : fa_ B σ v) (m0 : 0 ≤ m) (m1 : m < (c_r v) 3) (h : ∀ σ' : bc_M, fa_ B σ' (u_o v (om_ (c_r v) m)) → Rr (some (bc_I ((c_r v) (18 + 6 * m)))) σ') : bc_Sem g (d + 22) mL_strength [bc_R 0, bc_I m] σ Rr X := by
  have hM := hF.1.1.2.1
  have w3 := hM.1
  have hm : bc_in m := by constructor <;> omega
  have e18 := sz_om (hM.2 m m0 (by omega)).2.2.1
  have ln := (om_e (c_r v) m).2
  obtain ⟨l, hl⟩ : ∃ l, l = om_ (c_r v) m := ⟨_, rfl⟩
  rw [← hl] at e18 ln h
  refine e_L_strength rfl (fun K hK => ?_)
  have L : ∀ i : Int, ∀ (σ1 : bc_M) (n : Nat) (z : bc_LV), fa_ B σ1 (u_o v l) → 0 ≤ i → i ≤ (l.length : Int) → (n : Int) ≤ i + 1 → K 14 ([(0, bc_R 0), (1, bc_I m), (2, bc_I (l.length : Int)), (3, bc_I (sgx_ l i.toNat).1), (4, bc_I (sgx_ l i.toNat).2), (5, bc_I i)] ++ z) [] σ1 n := by
    refine up_ind (l.length : Int) (fun i hi σ1 n z F1 i0 i1 hn => ?_) (fun i hi ih σ1 n z F1 i0 i1 hn => ?_)
    · refine hK.2 _ _ [(0, bc_R 0), (1, bc_I m), (2, bc_I (l.length : Int)), (3, bc_I (sgx_ l i.toNat).1), (4, bc_I (sgx_ l i.toNat).2), (5, bc_I i)] _ _ _ (ls_ _ _) ?_
      refine hK.1 [14] 60 _ _ _ _ _ ?_
      refine bc_ob_i (by omega) ?_
      refine bc_br_i (fun c => (by omega : False).elim) (fun _ => ?_)
      have e : i.toNat = l.length := by omega
      exact rt_ (h σ1 F1) (by rw [e]; exact e18)
    · have lc := tg_le F1.2.2.2.2.2.2.1.2.2.2 i
      have lc : 0 ≤ tg_ l i ∧ tg_ l i ≤ 65535 := lc
      have ly := sz_b l i.toNat
      refine hK.2 _ _ [(0, bc_R 0), (1, bc_I m), (2, bc_I (l.length : Int)), (3, bc_I (sgx_ l i.toNat).1), (4, bc_I (sgx_ l i.toNat).2), (5, bc_I i)] _ _ _ (ls_ _ _) ?_
      have kx : ∀ (x y : Int) (n' : Nat), (n' : Int) ≤ i + 2 → x = (if (sgx_ l i.toNat).2 ≠ 0 ∧ tg_ l i ≠ 99 ∧ tg_ l i ≠ 115 then 10 * (sgx_ l i.toNat).1 + tg_ l i - 48 else (sgx_ l i.toNat).1) → y = (if tg_ l i = 115 ∨ ((sgx_ l i.toNat).2 ≠ 0 ∧ tg_ l i ≠ 99) then 1 else 0) → K 14 [(0, bc_R 0), (1, bc_I m), (2, bc_I (l.length : Int)), (3, bc_I x), (4, bc_I y), (5, bc_I (i + 1)), (6, bc_I (tg_ l i))] [] σ1 n' := by
        intro x y n' hn' hx hy
        have e : sgx_ l (i + 1).toNat = sy_ (sgx_ l i.toNat) (tg_ l i) := by
          rw [show (i + 1).toNat = i.toNat + 1 by omega]
          show sy_ _ (tg_ l (i.toNat : Int)) = _
          rw [Int.toNat_of_nonneg i0]
        have q := ih σ1 n' [(6, bc_I (tg_ l i))] F1 (by omega) (by omega) (by omega)
        rw [e] at q
        rw [hx, hy]
        exact q
      have go : ∀ {D : Nat} {R1 : Option bc_A → bc_M → Prop} {X1 : Nat → bc_M → Prop}, R1 (some (bc_I (tg_ l i))) σ1 → bc_Sem g (D + 3) mX10_outputAt [bc_R 0, bc_I i] σ1 R1 X1 := fun q => t_X10_outputAt F1 (by constructor <;> omega) (fun z => absurd ⟨i0, hi⟩ z) (fun _ _ => q)
      generalize tg_ l i = c at *
      generalize (sgx_ l i.toNat).1 = x at *
      generalize (sgx_ l i.toNat).2 = y at *
      refine hK.1 [14] 60 _ _ _ _ _ ?_
      refine bc_ob_i (by omega) ?_
      refine bc_br_i (fun _ => ?_) (fun c => (by omega : False).elim)
      refine bc_nb_i (by show n + 1 ≤ 30; omega) rfl rfl ?_
      refine go ?_
      repeat' first | refine bc_br_i (fun _ => ?_) (fun _ => ?_) | refine bc_ob_i (by omega) ?_
      all_goals first | exact (by omega : False).elim | exact kx _ _ _ (by show ((n + 1 : Nat) : Int) ≤ _; omega) (by split <;> omega) (by split <;> omega)
  refine hK.1 [14] 60 _ _ _ _ _ ?_
  refine t_X10_renderMember hF hm (fun hi => ?_) (fun _ _ σ1 F1 f1 => ?_)
  · exfalso
    unfold ix_ at hi
    rw [if_pos ⟨m0, m1⟩] at hi
    omega
  · rw [← hl] at F1 ⊢
    exact L 0 σ1 1 [] F1 (by decide) (by omega) (by decide)
end P60B
