/-! a text is what the output text is -/
section BDIST
variable {sc : Nat × (Nat → Int32)} {g : bc_C} {d : Nat} {σ : bc_M} {B : Int} {v : cs_t} {Rr : Option bc_A → List bd_O → bc_M → Prop}
theorem t_L_isText1 {x : Int} {u : List Nat} {w : List Nat} (hsc : sc.1 < 2000) (hF : fa_ B σ v) (hx : x = (w.length : Int)) (hw : w.length ≤ 15) (hlen : (c_o v).length = w.length) (hall : ∀ j : Int, 0 ≤ j → j < (w.length : Int) → tg_ (c_o v) j = ((w.getD j.toNat 0 : Nat) : Int)) (h : Rr (some (bc_I 1)) [bd_bld u, bd_txt w] σ) : bd_Sem sc g [bd_bld u, bd_txt w] (d + 5) mL_isText [bc_R 0, bc_I x, bc_R 501] σ Rr := by
  refine m_L_isText hsc rfl (fun K hK => ?_)
  have L : ∀ k : Int, ∀ n : Nat, 0 ≤ k → k ≤ (w.length : Int) → (n : Int) ≤ 2 * k → K g [bd_bld u, bd_txt w] 17 [(0, bc_R 0), (1, bc_I x), (2, bc_R 501), (3, bc_I 1), (4, bc_I k)] [] σ n := by
    refine up_ind (w.length : Int) (fun k hk n k0 k1 hn => ?_) (fun k hk ih n k0 k1 hn => ?_)
    · refine hK.1 [17] 60 _ _ _ _ _ _ _ ?_
      refine bc_ob_i (by first | omega | decide | (constructor <;> omega) | (constructor <;> constructor <;> omega)) ?_
      refine bc_br_i (fun c => (by omega : False).elim) (fun _ => ?_)
      refine bc_ob_i (by first | omega | decide | (constructor <;> omega) | (constructor <;> constructor <;> omega)) ?_
      exact bd_rt h
    · have hc := hall k k0 hk
      have tl := tg_le hF.2.2.2.2.2.2.1.2.2.2 k
      have tl : 0 ≤ tg_ (c_o v) k ∧ tg_ (c_o v) k ≤ 65535 := tl
      rw [hc] at tl
      refine hK.1 [17] 60 _ _ _ _ _ _ _ ?_
      refine bc_ob_i (by first | omega | decide | (constructor <;> omega) | (constructor <;> constructor <;> omega)) ?_
      refine bc_br_i (fun _ => ?_) (fun c => (by omega : False).elim)
      refine bc_ob_i (by first | omega | decide | (constructor <;> omega) | (constructor <;> constructor <;> omega)) ?_
      refine bc_br_i (fun c => absurd c (by decide)) (fun _ => ?_)
      refine bc_nb_i (by show n + 1 ≤ 90; omega) rfl rfl ?_
      refine fun Z => t_X10_outputAt hF (by constructor <;> omega) (fun hh => (hh ⟨by omega, by omega⟩).elim) (fun _ _ => ?_)
      rw [hc]
      refine bc_ob_i ⟨k0, hk⟩ ?_
      refine bc_ob_i (by first | omega | decide | (constructor <;> omega) | (constructor <;> constructor <;> omega)) ?_
      refine bc_br_i (fun _ => ?_) (fun c => absurd rfl c)
      exact ih (n + 1) (by omega) (by omega) (by omega)
  refine hK.1 [17] 60 _ _ _ _ _ _ _ ?_
  refine bc_ob_i (by first | omega | decide | (constructor <;> omega) | (constructor <;> constructor <;> omega)) ?_
  refine bc_br_i (fun _ => ?_) (fun c => absurd hx c)
  exact L 0 0 (by decide) (by omega) (by decide)
theorem t_L_isText2 {x : Int} {f1 f2 : Int → Int} {w : List Nat} (hsc : sc.1 < 2000) (hF : fa_ B σ v) (hx : x = (w.length : Int)) (hw : w.length ≤ 15) (hlen : (c_o v).length = w.length) (hall : ∀ j : Int, 0 ≤ j → j < (w.length : Int) → tg_ (c_o v) j = ((w.getD j.toNat 0 : Nat) : Int)) (h : Rr (some (bc_I 1)) [bd_row 11 f1, bd_row 9 f2, bd_txt w] σ) : bd_Sem sc g [bd_row 11 f1, bd_row 9 f2, bd_txt w] (d + 5) mL_isText [bc_R 0, bc_I x, bc_R 502] σ Rr := by
  refine m_L_isText hsc rfl (fun K hK => ?_)
  have L : ∀ k : Int, ∀ n : Nat, 0 ≤ k → k ≤ (w.length : Int) → (n : Int) ≤ 2 * k → K g [bd_row 11 f1, bd_row 9 f2, bd_txt w] 17 [(0, bc_R 0), (1, bc_I x), (2, bc_R 502), (3, bc_I 1), (4, bc_I k)] [] σ n := by
    refine up_ind (w.length : Int) (fun k hk n k0 k1 hn => ?_) (fun k hk ih n k0 k1 hn => ?_)
    · refine hK.1 [17] 60 _ _ _ _ _ _ _ ?_
      refine bc_ob_i (by first | omega | decide | (constructor <;> omega) | (constructor <;> constructor <;> omega)) ?_
      refine bc_br_i (fun c => (by omega : False).elim) (fun _ => ?_)
      refine bc_ob_i (by first | omega | decide | (constructor <;> omega) | (constructor <;> constructor <;> omega)) ?_
      exact bd_rt h
    · have hc := hall k k0 hk
      have tl := tg_le hF.2.2.2.2.2.2.1.2.2.2 k
      have tl : 0 ≤ tg_ (c_o v) k ∧ tg_ (c_o v) k ≤ 65535 := tl
      rw [hc] at tl
      refine hK.1 [17] 60 _ _ _ _ _ _ _ ?_
      refine bc_ob_i (by first | omega | decide | (constructor <;> omega) | (constructor <;> constructor <;> omega)) ?_
      refine bc_br_i (fun _ => ?_) (fun c => (by omega : False).elim)
      refine bc_ob_i (by first | omega | decide | (constructor <;> omega) | (constructor <;> constructor <;> omega)) ?_
      refine bc_br_i (fun c => absurd c (by decide)) (fun _ => ?_)
      refine bc_nb_i (by show n + 1 ≤ 90; omega) rfl rfl ?_
      refine fun Z => t_X10_outputAt hF (by constructor <;> omega) (fun hh => (hh ⟨by omega, by omega⟩).elim) (fun _ _ => ?_)
      rw [hc]
      refine bc_ob_i ⟨k0, hk⟩ ?_
      refine bc_ob_i (by first | omega | decide | (constructor <;> omega) | (constructor <;> constructor <;> omega)) ?_
      refine bc_br_i (fun _ => ?_) (fun c => absurd rfl c)
      exact ih (n + 1) (by omega) (by omega) (by omega)
  refine hK.1 [17] 60 _ _ _ _ _ _ _ ?_
  refine bc_ob_i (by first | omega | decide | (constructor <;> omega) | (constructor <;> constructor <;> omega)) ?_
  refine bc_br_i (fun _ => ?_) (fun c => absurd hx c)
  exact L 0 0 (by decide) (by omega) (by decide)
end BDIST
/-- a member's text, sign by sign -/
def tm_ (r : rw_t) (m : Int) : List Nat := [] ++ bd_dg m ++ [58] ++ bd_dg (r (16 + 6 * m)) ++ [45] ++ bd_dg (r (17 + 6 * m)) ++ [115] ++ bd_dg (r (18 + 6 * m)) ++ [99] ++ bd_dg (r (19 + 6 * m)) ++ [119] ++ bd_dg (r (20 + 6 * m)) ++ (if r (21 + 6 * m) = 0 then [] else [120])
theorem dg_dn {x : Int} (h0 : 0 ≤ x) (h1 : x ≤ 99) : (bd_dg x).map (fun n : Nat => (n : Int)) = dn_ x := by
  unfold bd_dg dn_
  by_cases c : x < 10
  · rw [if_pos c, if_neg (by omega)]
    show [((48 + x.toNat : Nat) : Int)] = _
    rw [show ((48 + x.toNat : Nat) : Int) = 48 + x % 10 by omega]
  · rw [if_neg c, if_pos (by omega)]
    show [((48 + x.toNat / 10 : Nat) : Int), ((48 + x.toNat % 10 : Nat) : Int)] = _
    rw [show ((48 + x.toNat / 10 : Nat) : Int) = 48 + x / 10 % 10 by omega, show ((48 + x.toNat % 10 : Nat) : Int) = 48 + x % 10 by omega]
theorem dg_len {x : Int} (h0 : 0 ≤ x) (h1 : x ≤ 99) : (bd_dg x).length ≤ 2 ∧ (x < 10 → (bd_dg x).length = 1) := by
  unfold bd_dg
  by_cases c : x < 10
  · rw [if_pos c]
    exact ⟨by show 1 ≤ 2; decide, fun _ => rfl⟩
  · rw [if_neg c]
    exact ⟨by show 2 ≤ 2; decide, fun h => absurd h c⟩
theorem om_tm {r : rw_t} (hM : wf_M r) {m : Int} (m0 : 0 ≤ m) (m1 : m < 16) : om_ r m = (tm_ r m).map (fun n : Nat => (n : Int)) := by
  obtain ⟨g0, g1, g2, g3, g4, g5⟩ := hM.2 m m0 m1
  rw [(om_e r m).1]
  unfold om0_ tm_
  simp only [List.map_append]
  rw [dg_dn m0 (by omega), dg_dn g0.1 (by omega), dg_dn g1.1 (by omega), dg_dn g2.1 (by omega), dg_dn g3.1 (by omega), dg_dn g4.1 (by omega)]
  by_cases c : r (21 + 6 * m) = 0
  · rw [if_pos c, if_pos c]
    rfl
  · rw [if_neg c, if_neg c]
    rfl
theorem tg_map {w : List Nat} {j : Int} (j0 : 0 ≤ j) (j1 : j < (w.length : Int)) : tg_ (w.map (fun n : Nat => (n : Int))) j = ((w.getD j.toNat 0 : Nat) : Int) := by
  unfold tg_
  rw [if_pos ⟨j0, by rw [List.length_map]; exact j1⟩, List.getD_eq_getElem?_getD, List.getD_eq_getElem?_getD, List.getElem?_map]
  have hj : j.toNat < w.length := by omega
  rw [List.getElem?_eq_getElem hj]
  rfl
theorem lor0_ (x : Int64) : x ||| 0 = x := by
  refine bl_ext (fun k hk => ?_)
  rw [bl_or]
  exact ⟨fun h => h.resolve_right (bl_0 hk), fun h => .inl h⟩
