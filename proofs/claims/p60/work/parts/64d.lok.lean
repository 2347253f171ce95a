section P60C
variable {g : bc_C} {d : Nat} {σ : bc_M} {B : Int} {v : cs_t} {Rr : Option bc_A → bc_M → Prop} {X : Nat → bc_M → Prop}
/-- what changes can change -/
theorem t_L_looks (hF : fa_ B σ v) (hB : B ≤ 999000) (h : Rr (some (bc_I ((Int32.ofInt (lkf_ (c_r v))).toInt))) σ) : bc_Sem g (d + 22) mL_looks [bc_R 0] σ Rr X := by
  have hM := hF.1.1.2.1
  have hT := hF.1.1.2.2.2
  have w3 := hM.1
  have w4 : 0 ≤ (c_r v) 4 ∧ (c_r v) 4 ≤ 8 := hT.2.2.2.1
  have w0 : 0 ≤ (c_r v) 0 ∧ (c_r v) 0 ≤ B := hT.1
  have fin : ∀ y : Int, y = lkf_ (c_r v) → (fun (r : Option bc_A) (σ' : bc_M) => ∃ x : Int, r = some (bc_I x) ∧ Rr (some (bc_I ((Int32.ofInt x).toInt))) σ') (some (bc_I y)) σ := fun y e => ⟨y, rfl, by rw [e]; exact h⟩
  refine bc_Sem_wr ?_
  refine e_L_looks rfl (fun K hK => ?_)
  have L2 : ∀ k : Int, ∀ (n : Nat) (z : bc_LV), 0 ≤ k → k ≤ (c_r v) 4 → (n : Int) ≤ 100 + 3 * k → K 134 ([(0, bc_R 0), (1, bc_I (lkv_ (c_r v) k.toNat)), (2, bc_I k)] ++ z) [] σ n := by
    refine up_ind ((c_r v) 4) (fun k hk n z k0 k1 hn => ?_) (fun k hk ih n z k0 k1 hn => ?_)
    · have ek : k.toNat = ((c_r v) 4).toNat := by omega
      refine hK.2 _ _ [(0, bc_R 0), (1, bc_I (lkv_ (c_r v) k.toNat)), (2, bc_I k)] _ _ _ (ls_ _ _) ?_
      refine hK.1 [57, 134] 60 _ _ _ _ _ ?_
      refine bc_nb_i (by show n + 0 ≤ 200; omega) rfl rfl ?_
      refine t_X10_vowCount hF ?_
      refine bc_ob_i (by omega) ?_
      refine bc_br_i (fun c => (by omega : False).elim) (fun _ => ?_)
      refine bc_nb_i (by show n + 0 + 0 ≤ 200; omega) rfl rfl ?_
      refine t_X10_canKeepAll hF (by omega) (fun x hx => ?_)
      have lx : x = 0 ∨ x = 1 := by rcases hx with ⟨e, -⟩ | ⟨e, -⟩ <;> omega
      refine bc_ob_i (by omega) ?_
      refine bc_br_i (fun c => ?_) (fun c => ?_)
      · have ck : ckf_ (c_r v) 50 = false := by
          rcases hx with ⟨e, -⟩ | ⟨-, a, a0, a1, a2⟩
          · omega
          · cases hc : ckf_ (c_r v) 50 with
            | false => rfl
            | true =>
              have := (ckf_e (c_r v) 50).mp hc a a0 a1
              omega
        refine fin _ ?_
        unfold lkf_
        rw [ck, ek]
        rfl
      · have hc : ∀ a : Int, 1 ≤ a → a ≤ 50 → 0 ≤ sp_ (c_r v) ((c_r v) 0 + a) := by
          rcases hx with ⟨-, q⟩ | ⟨e, -⟩
          · exact q
          · omega
        have ck : ckf_ (c_r v) 50 = true := (ckf_e (c_r v) 50).mpr hc
        refine bc_nb_i (by show n + 0 + 0 + 0 ≤ 200; omega) rfl rfl ?_
        refine t_X10_day hF ?_
        refine bc_nb_i (by show n + 0 + 0 + 0 + 2 ≤ 200; omega) rfl rfl ?_
        refine t_X10_greatestVow hF (by omega) (by constructor <;> omega) (fun q => absurd ⟨by omega, by omega⟩ q) (fun _ ⟨b, b0, b1, b2⟩ => (by have := hc b b0 b1; omega : False).elim) (fun _ _ y q1 q2 q3 => ?_)
        have ey := gmn_e w4.1 q1 q2 q3
        refine bc_nb_i (by show n + 0 + 0 + 0 + 2 + 0 ≤ 200; omega) rfl rfl ?_
        refine t_X10_day hF ?_
        refine bc_nb_i (by show n + 0 + 0 + 0 + 2 + 0 + 2 ≤ 200; omega) rfl rfl ?_
        refine t_X10_greatestVow hF (by omega) (by constructor <;> omega) (fun q => absurd ⟨by omega, by omega⟩ q) (fun _ ⟨b, b0, b1, b2⟩ => (by have := hc b b0 b1; omega : False).elim) (fun _ _ u q1 q2 q3 => ?_)
        have eu := gmn_e w4.1 q1 q2 q3
        refine fin _ ?_
        unfold lkf_
        rw [ck, ey, eu, ek]
        rfl
    · obtain ⟨s, ⟨s0, s1⟩, hs⟩ := vk_sur hT k0 hk
      have es : vsl_ (c_r v) k ((c_r v) 4).toNat = s := by
        have := vsl_e hT s0 s1 ((c_r v) 4).toNat (by omega) (by omega)
        rw [hs] at this
        exact this
      have hid := hT.2.2.2.2.2.2.2.2.2.2.2.2.1 s s0 (by omega)
      have hord := hT.2.2.2.2.2.2.2.2.2.2.2.2.2.2
      have uni : ∀ t : Int, 0 ≤ t → t < (c_r v) 4 → (c_r v) (112 + 3 * t) = (c_r v) (112 + 3 * s) → t = s := fun t t0 t1 e => by
        rcases Int.lt_trichotomy t s with q | q | q
        · have := hord t s t0 q s1
          omega
        · exact q
        · have := hord s t s0 q t1
          omega
      have hv : bc_in ((c_r v) (112 + 3 * s)) := by constructor <;> omega
      refine hK.2 _ _ [(0, bc_R 0), (1, bc_I (lkv_ (c_r v) k.toNat)), (2, bc_I k)] _ _ _ (ls_ _ _) ?_
      refine hK.1 [57, 134] 60 _ _ _ _ _ ?_
      refine bc_nb_i (by show n + 0 ≤ 200; omega) rfl rfl ?_
      refine t_X10_vowCount hF ?_
      refine bc_ob_i (by omega) ?_
      refine bc_br_i (fun _ => ?_) (fun c => (by omega : False).elim)
      refine bc_nb_i (by show n + 0 + 1 ≤ 200; omega) rfl rfl ?_
      refine t_X10_vowAt hF (by omega) (by constructor <;> omega) (fun q => absurd hs (q s s0 s1)) (fun s' s0' s1' hs' => ?_)
      obtain rfl := vk_inj hT ⟨s0', s1'⟩ ⟨s0, s1⟩ (hs'.trans hs.symm)
      refine bc_nb_i (by show n + 0 + 1 + 1 ≤ 200; omega) rfl rfl ?_
      refine t_X10_dueDay hF (by omega) hv (fun q => absurd rfl (q _ s0 s1)) (fun t t0 t1 ht => ?_)
      obtain rfl := uni t t0 t1 ht
      refine bc_nb_i (by show n + 0 + 1 + 1 + 1 ≤ 200; omega) rfl rfl ?_
      refine t_X10_amount hF (by omega) hv (fun q => absurd rfl (q _ s0 s1)) (fun t' t0' t1' ht' => ?_)
      obtain rfl := uni t' t0' t1' ht'
      have e1 : lkv_ (c_r v) (k + 1).toNat = 31 * (31 * (31 * lkv_ (c_r v) k.toNat + (c_r v) (112 + 3 * t')) + (c_r v) (113 + 3 * t')) + (c_r v) (114 + 3 * t') := by
        rw [show (k + 1).toNat = k.toNat + 1 by omega]
        show 31 * (31 * (31 * lkv_ (c_r v) k.toNat + (c_r v) (112 + 3 * vsl_ (c_r v) (k.toNat : Int) ((c_r v) 4).toNat)) + (c_r v) (113 + 3 * vsl_ (c_r v) (k.toNat : Int) ((c_r v) 4).toNat)) + (c_r v) (114 + 3 * vsl_ (c_r v) (k.toNat : Int) ((c_r v) 4).toNat) = _
        rw [Int.toNat_of_nonneg k0, es]
      have q := ih (n + 0 + 1 + 1 + 1) [(3, bc_I ((c_r v) (112 + 3 * t')))] (by omega) (by omega) (by omega)
      rw [e1] at q
      exact q
  have L1 : ∀ k : Int, ∀ n : Nat, 0 ≤ k → k ≤ (c_r v) 3 → (n : Int) ≤ 6 * k → K 57 [(0, bc_R 0), (1, bc_I (lkm_ (c_r v) k.toNat)), (2, bc_I k)] [] σ n := by
    refine up_ind ((c_r v) 3) (fun k hk n k0 k1 hn => ?_) (fun k hk ih n k0 k1 hn => ?_)
    · have ek : k.toNat = ((c_r v) 3).toNat := by omega
      refine hK.1 [57, 134] 60 _ _ _ _ _ ?_
      refine bc_nb_i (by show n + 0 ≤ 200; omega) rfl rfl ?_
      refine t_X10_memberCount hF ?_
      refine bc_ob_i (by omega) ?_
      refine bc_br_i (fun c => (by omega : False).elim) (fun _ => ?_)
      rw [ek]
      exact L2 0 (n + 0) [] (by decide) (by omega) (by omega)
    · have hk' : bc_in k := by constructor <;> omega
      have hno : ∀ {q : Prop}, ix_ (c_r v) k = 1 → q := fun hi => by
        exfalso
        unfold ix_ at hi
        rw [if_pos ⟨k0, hk⟩] at hi
        omega
      have g21 := (hM.2 k k0 (by omega)).2.2.2.2.2
      refine hK.1 [57, 134] 60 _ _ _ _ _ ?_
      refine bc_nb_i (by show n + 0 ≤ 200; omega) rfl rfl ?_
      refine t_X10_memberCount hF ?_
      refine bc_ob_i (by omega) ?_
      refine bc_br_i (fun _ => ?_) (fun c => (by omega : False).elim)
      refine bc_nb_i (by show n + 0 + 1 ≤ 200; omega) rfl rfl ?_
      refine t_X10_firstJoint hF hk' hno (fun _ _ => ?_)
      refine bc_nb_i (by show n + 0 + 1 + 1 ≤ 200; omega) rfl rfl ?_
      refine t_X10_secondJoint hF hk' hno (fun _ _ => ?_)
      refine bc_nb_i (by show n + 0 + 1 + 1 + 1 ≤ 200; omega) rfl rfl ?_
      refine t_X10_bearing hF hk' hno (fun _ _ => ?_)
      refine bc_nb_i (by show n + 0 + 1 + 1 + 1 + 1 ≤ 200; omega) rfl rfl ?_
      refine t_X10_crack hF hk' hno (fun _ _ => ?_)
      refine bc_nb_i (by show n + 0 + 1 + 1 + 1 + 1 + 1 ≤ 200; omega) rfl rfl ?_
      refine t_X10_wear hF hk' hno (fun _ _ => ?_)
      refine bc_nb_i (by show n + 0 + 1 + 1 + 1 + 1 + 1 + 1 ≤ 200; omega) rfl rfl ?_
      refine t_X10_isAbandoned hF hk' hno (fun _ _ => ?_)
      refine bc_nb_i (by show n + 0 + 1 + 1 + 1 + 1 + 1 + 1 + 0 ≤ 200; omega) rfl rfl ?_
      refine t_L_told (by omega) ?_
      have e1 : lkm_ (c_r v) (k + 1).toNat = 31 * (31 * (31 * (31 * (31 * (31 * lkm_ (c_r v) k.toNat + (c_r v) (16 + 6 * k)) + (c_r v) (17 + 6 * k)) + br_ (c_r v) k) + (c_r v) (19 + 6 * k)) + (c_r v) (20 + 6 * k)) + (c_r v) (21 + 6 * k) := by
        rw [show (k + 1).toNat = k.toNat + 1 by omega]
        show 31 * (31 * (31 * (31 * (31 * (31 * lkm_ (c_r v) k.toNat + (c_r v) (16 + 6 * (k.toNat : Int))) + (c_r v) (17 + 6 * (k.toNat : Int))) + br_ (c_r v) (k.toNat : Int)) + (c_r v) (19 + 6 * (k.toNat : Int))) + (c_r v) (20 + 6 * (k.toNat : Int))) + (c_r v) (21 + 6 * (k.toNat : Int)) = _
        rw [Int.toNat_of_nonneg k0]
      have q := ih (n + 0 + 1 + 1 + 1 + 1 + 1 + 1 + 0) (by omega) (by omega) (by omega)
      rw [e1] at q
      exact q
  refine hK.1 [57, 134] 60 _ _ _ _ _ ?_
  refine t_X10_day hF ?_
  refine t_X10_steel hF ?_
  refine t_X10_keptTotal hF ?_
  refine t_X10_brokenTotal hF ?_
  refine t_X10_nicheKind hF ?_
  refine t_X10_nicheWeight hF ?_
  refine t_X10_steelByAccounts hF ?_
  exact L1 0 0 (by decide) (by omega) (by decide)
end P60C
