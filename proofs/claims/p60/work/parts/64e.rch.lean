/-! what is reached, by masks of joints -/
theorem i3_nat {x : Nat} (hx : x < 256) : (Int32.ofInt (x : Int)).toBitVec.toNat = x := by
  rw [Int32.ofInt_eq_ofNat]
  show x % 2 ^ 32 = x
  exact Nat.mod_eq_of_lt (by omega)
theorem i3_or {x y : Nat} (hx : x < 256) (hy : y < 256) : (Int32.ofInt (x : Int) ||| Int32.ofInt (y : Int)).toInt = ((x ||| y : Nat) : Int) ∧ x ||| y < 256 := by
  have hl : x ||| y < 256 := Nat.or_lt_two_pow (n := 8) hx hy
  have hb : (Int32.ofInt (x : Int) ||| Int32.ofInt (y : Int)).toBitVec.toNat = x ||| y := by
    rw [Int32.toBitVec_or, BitVec.toNat_or, i3_nat hx, i3_nat hy]
  refine ⟨?_, hl⟩
  show (Int32.ofInt (x : Int) ||| Int32.ofInt (y : Int)).toBitVec.toInt = _
  rw [BitVec.toInt_eq_toNat_of_lt (by rw [hb]; omega), hb]
theorem i3_and {x y : Nat} (hx : x < 256) (hy : y < 256) : (Int32.ofInt (x : Int) &&& Int32.ofInt (y : Int)).toInt = ((x &&& y : Nat) : Int) ∧ x &&& y < 256 := by
  have hl : x &&& y < 256 := Nat.lt_of_le_of_lt Nat.and_le_left hx
  have hb : (Int32.ofInt (x : Int) &&& Int32.ofInt (y : Int)).toBitVec.toNat = x &&& y := by
    rw [Int32.toBitVec_and, BitVec.toNat_and, i3_nat hx, i3_nat hy]
  refine ⟨?_, hl⟩
  show (Int32.ofInt (x : Int) &&& Int32.ofInt (y : Int)).toBitVec.toInt = _
  rw [BitVec.toInt_eq_toNat_of_lt (by rw [hb]; omega), hb]
theorem i3_oneT : (List.range 8).all (fun j => decide ((Int32.ofInt 1 <<< (Int32.ofInt (j : Int) &&& 31)).toInt = ((2 ^ j : Nat) : Int) ∧ 2 ^ j < 256)) = true := by decide +kernel
/-- one joint's mask -/
theorem i3_one {j : Int} (j0 : 0 ≤ j) (j1 : j < 8) : (Int32.ofInt 1 <<< (Int32.ofInt j &&& 31)).toInt = ((2 ^ j.toNat : Nat) : Int) ∧ 2 ^ j.toNat < 256 := by
  have h := of_decide_eq_true (List.all_eq_true.mp i3_oneT j.toNat (List.mem_range.mpr (by omega)))
  rw [Int.toNat_of_nonneg j0] at h
  exact h
theorem i3_bitT : (List.range 256).all (fun x => (List.range 8).all (fun j => decide ((Int32.ofInt ((Int32.ofInt (x : Int) >>> (Int32.ofInt (j : Int) &&& 31)).toInt) &&& Int32.ofInt 1).toInt = if x.testBit j then 1 else 0))) = true := by decide +kernel
/-- is a joint in a mask -/
theorem i3_bit {x : Nat} (hx : x < 256) {j : Int} (j0 : 0 ≤ j) (j1 : j < 8) : (Int32.ofInt ((Int32.ofInt (x : Int) >>> (Int32.ofInt j &&& 31)).toInt) &&& Int32.ofInt 1).toInt = if x.testBit j.toNat then 1 else 0 := by
  have h := of_decide_eq_true (List.all_eq_true.mp (List.all_eq_true.mp i3_bitT x (List.mem_range.mpr hx)) j.toNat (List.mem_range.mpr (by omega)))
  rw [Int.toNat_of_nonneg j0] at h
  exact h
/-- both joints of a member -/
def bo_ (r : rw_t) (m : Int) : Nat := 2 ^ (r (16 + 6 * m)).toNat ||| 2 ^ (r (17 + 6 * m)).toNat
/-- one member is looked at; one round; n rounds -/
def rc1_ (r : rw_t) (l w m : Int) (x : Nat) : Nat := if m ≠ w ∧ l ≤ br_ r m ∧ x &&& bo_ r m ≠ 0 then x ||| bo_ r m else x
def rc2_ (r : rw_t) (l w : Int) (x : Nat) : Nat → Nat
  | 0 => x
  | n + 1 => rc1_ r l w (n : Int) (rc2_ r l w x n)
def rc_ (r : rw_t) (l w a : Int) : Nat → Nat
  | 0 => 2 ^ a.toNat
  | n + 1 => rc2_ r l w (rc_ r l w a n) (r 3).toNat
theorem bo_e {r : rw_t} (hM : wf_M r) {m : Int} (m0 : 0 ≤ m) (m1 : m < 16) : (Int32.ofInt ((Int32.ofInt 1 <<< (Int32.ofInt (r (16 + 6 * m)) &&& 31)).toInt) ||| Int32.ofInt ((Int32.ofInt 1 <<< (Int32.ofInt (r (17 + 6 * m)) &&& 31)).toInt)).toInt = ((bo_ r m : Nat) : Int) ∧ bo_ r m < 256 := by
  obtain ⟨g0, g1, -⟩ := hM.2 m m0 m1
  obtain ⟨a1, a2⟩ := i3_one g0.1 (by omega)
  obtain ⟨b1, b2⟩ := i3_one g1.1 (by omega)
  rw [a1, b1]
  exact i3_or a2 b2
theorem rc1_lt {r : rw_t} (hM : wf_M r) {l w m : Int} (m0 : 0 ≤ m) (m1 : m < 16) {x : Nat} (hx : x < 256) : rc1_ r l w m x < 256 := by
  unfold rc1_
  split
  · exact (i3_or hx (bo_e hM m0 m1).2).2
  · exact hx
theorem rc2_lt {r : rw_t} (hM : wf_M r) {l w : Int} {x : Nat} (hx : x < 256) : ∀ n : Nat, (n : Int) ≤ r 3 → rc2_ r l w x n < 256
  | 0, _ => hx
  | n + 1, h => rc1_lt hM (by omega) (by have := hM.1; omega) (rc2_lt hM hx n (by omega))
theorem rc_lt {r : rw_t} (hM : wf_M r) {l w a : Int} (a0 : 0 ≤ a) (a1 : a < 8) : ∀ n : Nat, rc_ r l w a n < 256
  | 0 => (i3_one a0 a1).2
  | n + 1 => rc2_lt hM (rc_lt hM a0 a1 n) _ (by have := hM.1; omega)
section P60D
variable {g : bc_C} {d : Nat} {σ : bc_M} {B : Int} {v : cs_t} {Rr : Option bc_A → bc_M → Prop} {X : Nat → bc_M → Prop}
theorem t_L_reaches {a b l w : Int} (hF : fa_ B σ v) (a0 : 0 ≤ a) (a1 : a < 8) (b0 : 0 ≤ b) (b1 : b < 8) (hl : bc_in l) (hw : bc_in w) (h : Rr (some (bc_I (if (rc_ (c_r v) l w a 8).testBit b.toNat then 1 else 0))) σ) : bc_Sem g (d + 22) mL_reaches [bc_R 0, bc_I a, bc_I b, bc_I l, bc_I w] σ Rr X := by
  have hM := hF.1.1.2.1
  have w3 := hM.1
  refine e_L_reaches rfl (fun K hK => ?_)
  have L : ∀ i : Int, ∀ (n : Nat) (z : bc_LV), 0 ≤ i → i ≤ 8 → (n : Int) ≤ 48 * i → K 8 ([(0, bc_R 0), (1, bc_I a), (2, bc_I b), (3, bc_I l), (4, bc_I w), (5, bc_I ((rc_ (c_r v) l w a i.toNat : Nat) : Int)), (6, bc_I i)] ++ z) [] σ n := by
    refine up_ind 8 (fun i hi n z i0 i1 hn => ?_) (fun i hi ih n z i0 i1 hn => ?_)
    · have e8 : i.toNat = 8 := by omega
      refine hK.2 _ _ [(0, bc_R 0), (1, bc_I a), (2, bc_I b), (3, bc_I l), (4, bc_I w), (5, bc_I ((rc_ (c_r v) l w a i.toNat : Nat) : Int)), (6, bc_I i)] _ _ _ (ls_ _ _) ?_
      rw [e8]
      have eb := i3_bit (rc_lt hM (l := l) (w := w) a0 a1 8) b0 b1
      refine hK.1 [8, 18] 60 _ _ _ _ _ ?_
      refine bc_ob_i (by omega) ?_
      refine bc_br_i (fun c => (by omega : False).elim) (fun _ => ?_)
      refine bc_ob_i ⟨bd_in32 _, by decide, by decide⟩ ?_
      refine bc_br_i (fun c => ?_) (fun c => ?_)
      · refine bc_ob_i (by decide) ?_
        exact rt_ h (by rw [← eb]; exact c.symm)
      · refine bc_ob_i (by decide) ?_
        exact rt_ h (by
          by_cases q : (rc_ (c_r v) l w a 8).testBit b.toNat = true
          · exact absurd (by rw [eb, if_pos q]) c
          · rw [if_neg q])
    · have M : ∀ m : Int, ∀ (n : Nat) (z : bc_LV), 0 ≤ m → m ≤ (c_r v) 3 → (n : Int) ≤ 48 * i + 3 * m → K 18 ([(0, bc_R 0), (1, bc_I a), (2, bc_I b), (3, bc_I l), (4, bc_I w), (5, bc_I ((rc2_ (c_r v) l w (rc_ (c_r v) l w a i.toNat) m.toNat : Nat) : Int)), (6, bc_I i), (7, bc_I m)] ++ z) [] σ n := by
        refine up_ind ((c_r v) 3) (fun m hm n z m0 m1 hn => ?_) (fun m hm jh n z m0 m1 hn => ?_)
        · have em : m.toNat = ((c_r v) 3).toNat := by omega
          refine hK.2 _ _ [(0, bc_R 0), (1, bc_I a), (2, bc_I b), (3, bc_I l), (4, bc_I w), (5, bc_I ((rc2_ (c_r v) l w (rc_ (c_r v) l w a i.toNat) m.toNat : Nat) : Int)), (6, bc_I i), (7, bc_I m)] _ _ _ (ls_ _ _) ?_
          refine hK.1 [8, 18] 60 _ _ _ _ _ ?_
          refine bc_nb_i (by show n + 0 ≤ 400; omega) rfl rfl ?_
          refine t_X10_memberCount hF ?_
          refine bc_ob_i (by omega) ?_
          refine bc_br_i (fun c => (by omega : False).elim) (fun _ => ?_)
          have q := ih (n + 0) [(7, bc_I m)] (by omega) (by omega) (by omega)
          rw [show (i + 1).toNat = i.toNat + 1 by omega] at q
          rw [em]
          exact q
        · have hx := rc2_lt hM (l := l) (w := w) (rc_lt hM (l := l) (w := w) a0 a1 i.toNat) m.toNat (by omega)
          obtain ⟨eb, lb⟩ := bo_e hM m0 (by omega)
          have hm' : bc_in m := by constructor <;> omega
          have hno : ∀ {q : Prop}, ix_ (c_r v) m = 1 → q := fun hi => by
            exfalso
            unfold ix_ at hi
            rw [if_pos ⟨m0, hm⟩] at hi
            omega
          have lbr := bre_ hM m0 (by omega)
          have kx : ∀ (y o : Int) (n' : Nat), (n' : Int) ≤ 48 * i + 3 * (m + 1) → y = ((rc1_ (c_r v) l w m (rc2_ (c_r v) l w (rc_ (c_r v) l w a i.toNat) m.toNat) : Nat) : Int) → K 18 [(0, bc_R 0), (1, bc_I a), (2, bc_I b), (3, bc_I l), (4, bc_I w), (5, bc_I y), (6, bc_I i), (7, bc_I (m + 1)), (8, bc_I o)] [] σ n' := by
            intro y o n' hn' hy
            have q := jh n' [(8, bc_I o)] (by omega) (by omega) hn'
            have e : rc2_ (c_r v) l w (rc_ (c_r v) l w a i.toNat) (m + 1).toNat = rc1_ (c_r v) l w m (rc2_ (c_r v) l w (rc_ (c_r v) l w a i.toNat) m.toNat) := by
              rw [show (m + 1).toNat = m.toNat + 1 by omega]
              show rc1_ (c_r v) l w (m.toNat : Int) _ = _
              rw [Int.toNat_of_nonneg m0]
            rw [e] at q
            rw [hy]
            exact q
          refine hK.2 _ _ [(0, bc_R 0), (1, bc_I a), (2, bc_I b), (3, bc_I l), (4, bc_I w), (5, bc_I ((rc2_ (c_r v) l w (rc_ (c_r v) l w a i.toNat) m.toNat : Nat) : Int)), (6, bc_I i), (7, bc_I m)] _ _ _ (ls_ _ _) ?_
          unfold rc1_ at kx
          generalize rc2_ (c_r v) l w (rc_ (c_r v) l w a i.toNat) m.toNat = x at *
          have eo := i3_or hx lb
          have ea := i3_and hx lb
          have ez : (Int32.ofInt (x : Int) ||| Int32.ofInt 0).toInt = ((x : Nat) : Int) := by
            have := (i3_or hx (by decide : 0 < 256)).1
            rw [Nat.or_zero] at this
            exact this
          refine hK.1 [8, 18] 60 _ _ _ _ _ ?_
          refine bc_nb_i (by show n + 0 ≤ 400; omega) rfl rfl ?_
          refine t_X10_memberCount hF ?_
          refine bc_ob_i (by omega) ?_
          refine bc_br_i (fun _ => ?_) (fun c => (by omega : False).elim)
          refine bc_nb_i (by show n + 0 + 1 ≤ 400; omega) rfl rfl ?_
          refine t_X10_firstJoint hF hm' hno (fun _ _ => ?_)
          refine bc_nb_i (by show n + 0 + 1 + 1 ≤ 400; omega) rfl rfl ?_
          refine t_X10_secondJoint hF hm' hno (fun _ _ => ?_)
          refine bc_ob_i ⟨hm', hw⟩ ?_
          refine bc_br_i (fun c => ?_) (fun c => ?_)
          · exact kx _ _ _ (by show ((n + 0 + 1 + 1 : Nat) : Int) ≤ _; omega) (by rw [ez, if_neg (fun q => q.1 c)])
          refine bc_nb_i (by show n + 0 + 1 + 1 + 1 ≤ 400; omega) rfl rfl ?_
          refine t_X10_bearing hF hm' hno (fun _ _ => ?_)
          refine bc_ob_i ⟨by omega, hl⟩ ?_
          refine bc_br_i (fun c2 => ?_) (fun c2 => ?_)
          · exact kx _ _ _ (by show ((n + 0 + 1 + 1 + 1 : Nat) : Int) ≤ _; omega) (by rw [ez, if_neg (fun q => by have := q.2.1; omega)])
          refine bc_ob_i (bd_in32 _) ?_
          refine bc_br_i (fun c3 => ?_) (fun c3 => ?_)
          · rw [eb, ea.1] at c3
            exact kx _ _ _ (by show ((n + 0 + 1 + 1 + 1 : Nat) : Int) ≤ _; omega) (by rw [ez, if_neg (fun q => q.2.2 (by omega))])
          · rw [eb, ea.1] at c3
            exact kx _ _ _ (by show ((n + 0 + 1 + 1 + 1 : Nat) : Int) ≤ _; omega) (by rw [eb, eo.1, if_pos ⟨c, by omega, by omega⟩])
      refine hK.2 _ _ [(0, bc_R 0), (1, bc_I a), (2, bc_I b), (3, bc_I l), (4, bc_I w), (5, bc_I ((rc_ (c_r v) l w a i.toNat : Nat) : Int)), (6, bc_I i)] _ _ _ (ls_ _ _) ?_
      refine hK.1 [8, 18] 60 _ _ _ _ _ ?_
      refine bc_ob_i (by omega) ?_
      refine bc_br_i (fun _ => ?_) (fun c => (by omega : False).elim)
      exact M 0 n [] (by decide) (by omega) (by omega)
  refine hK.1 [8, 18] 60 _ _ _ _ _ ?_
  have q := L 0 0 [] (by decide) (by decide) (by decide)
  rw [show rc_ (c_r v) l w a (0 : Int).toNat = 2 ^ a.toNat from rfl, ← (i3_one a0 a1).1] at q
  exact q
end P60D
