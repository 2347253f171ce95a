section BDAFF
variable {sc : Nat × (Nat → Int32)} {g : bc_C} {D : List bd_O} {d : Nat} {σ : bc_M} {B : Int} {v : cs_t} {Rr : Option bc_A → List bd_O → bc_M → Prop}
theorem t_L_isAffordable {a b l : Int} {w : Nat} {u : Int → Int} (hsc : sc.1 < 2000) (hF : fa_ B σ v) (hB : B ≤ 1000000) (a0 : 0 ≤ a) (a1 : a < 8) (b0 : 0 ≤ b) (b1 : b < 8) (l0 : 1 ≤ l) (l1 : l ≤ 99) (hw : (w : Int) = (c_r v) 3) (hu : ∀ k : Int, 0 ≤ k → k < (c_r v) 3 → u k = (c_r v) (18 + 6 * k))
    (h : Rr (some (bc_I (if bf_ (c_r v) l a 8 b ≤ (c_r v) 1 then 1 else 0))) [bd_row w u] σ) : bd_Sem sc g [bd_row w u] (d + 24) mL_isAffordable [bc_R 0, bc_I a, bc_I b, bc_I l, bc_R 500] σ Rr := by
  have hM := hF.1.1.2.1
  have w3 := hM.1
  have w1 := (wt_le hF.1.1.2.2.2).2.1
  refine m_L_isAffordable hsc rfl (fun K hK => ?_)
  have L : ∀ (g' : bc_C) (i : Int), ∀ (F : Int → Int) (z : bc_LV), 0 ≤ i → i ≤ 8 → (∀ j : Int, 0 ≤ j → j < 8 → F j = bf_ (c_r v) l a i.toNat j) → K g' [bd_row w u, bd_row 8 F] 64 ([(0, bc_R 0), (1, bc_I a), (2, bc_I b), (3, bc_I l), (4, bc_R 500), (5, bc_R 501), (6, bc_I i)] ++ z) [] σ 3 := by
    intro g'
    refine up_ind 8 (fun i hi F z i0 i1 hf => ?_) (fun i hi ih F z i0 i1 hf => ?_)
    · have e8 : i.toNat = 8 := by omega
      have eb := hf b b0 b1
      have lb := bf_lm hM l a 8 b b0 b1
      rw [e8] at eb
      refine hK.2 _ _ _ _ [(0, bc_R 0), (1, bc_I a), (2, bc_I b), (3, bc_I l), (4, bc_R 500), (5, bc_R 501), (6, bc_I i)] _ _ _ (ls_ _ _) ?_
      refine hK.1 [64, 74, 107, 129, 179] 60 _ _ _ _ _ _ _ ?_
      refine bc_ob_i ⟨by constructor <;> omega, by decide⟩ ?_
      refine bc_br_i (fun c => (by omega : False).elim) (fun _ => ?_)
      refine bc_ob_i ⟨⟨by omega, by omega⟩, show 8 < 2000 by decide⟩ ?_
      refine fun Z => t_X10_steel hF ?_
      refine bc_ob_i ⟨by constructor <;> omega, by constructor <;> omega⟩ ?_
      refine bc_br_i (fun c => ?_) (fun c => ?_)
      · refine bc_ob_i (by decide) ?_
        rw [if_neg (by omega)] at h
        exact h
      · refine bc_ob_i (by decide) ?_
        rw [if_pos (by omega)] at h
        exact h
    · have M : ∀ m : Int, ∀ (F : Int → Int) (z : bc_LV), 0 ≤ m → m ≤ (c_r v) 3 → (∀ j : Int, 0 ≤ j → j < 8 → F j = bfr_ (c_r v) l (bf_ (c_r v) l a i.toNat) m.toNat j) → K g' [bd_row w u, bd_row 8 F] 74 ([(0, bc_R 0), (1, bc_I a), (2, bc_I b), (3, bc_I l), (4, bc_R 500), (5, bc_R 501), (6, bc_I i), (7, bc_I m)] ++ z) [] σ 3 := by
        refine up_ind ((c_r v) 3) (fun m hm F z m0 m1 hf => ?_) (fun m hm jh F z m0 m1 hf => ?_)
        · have em : m.toNat = ((c_r v) 3).toNat := by omega
          refine hK.2 _ _ _ _ [(0, bc_R 0), (1, bc_I a), (2, bc_I b), (3, bc_I l), (4, bc_R 500), (5, bc_R 501), (6, bc_I i), (7, bc_I m)] _ _ _ (ls_ _ _) ?_
          refine hK.1 [64, 74, 107, 129, 179] 60 _ _ _ _ _ _ _ ?_
          refine bc_ob_i ⟨by constructor <;> omega, by constructor <;> omega⟩ ?_
          refine bc_br_i (fun c => (by omega : False).elim) (fun _ => ?_)
          refine ih F [(7, bc_I m)] (by omega) (by omega) (fun j j0 j1 => ?_)
          rw [hf j j0 j1, em, show (i + 1).toNat = i.toNat + 1 by omega]
          rfl
        · obtain ⟨gx, gy, g18, g19, g20, g21⟩ := hM.2 m m0 (by omega)
          have lbr := bre_ hM m0 (by omega)
          have lco := co_le hM m0 (by omega : m < 16)
          have lf : lm_ (bfr_ (c_r v) l (bf_ (c_r v) l a i.toNat) m.toNat) 9999 := bfr_lm hM (bf_lm hM l a i.toNat) m.toNat (by omega)
          have um := hu m m0 hm
          have kx : ∀ (can c : Int) (F2 : Int → Int), (∀ j : Int, 0 ≤ j → j < 8 → F2 j = bfm_ (c_r v) l m (bfr_ (c_r v) l (bf_ (c_r v) l a i.toNat) m.toNat) j) → K g' [bd_row w u, bd_row 8 F2] 74 [(0, bc_R 0), (1, bc_I a), (2, bc_I b), (3, bc_I l), (4, bc_R 500), (5, bc_R 501), (6, bc_I i), (7, bc_I (m + 1)), (8, bc_I can), (9, bc_I c), (10, bc_I ((c_r v) (16 + 6 * m))), (11, bc_I ((c_r v) (17 + 6 * m)))] [] σ 3 := by
            intro can c F2 h2
            refine jh F2 [(8, bc_I can), (9, bc_I c), (10, bc_I ((c_r v) (16 + 6 * m))), (11, bc_I ((c_r v) (17 + 6 * m)))] (by omega) (by omega) (fun j j0 j1 => ?_)
            rw [h2 j j0 j1, show (m + 1).toNat = m.toNat + 1 by omega]
            show _ = bfm_ (c_r v) l (m.toNat : Int) _ j
            rw [Int.toNat_of_nonneg m0]
          generalize bfr_ (c_r v) l (bf_ (c_r v) l a i.toNat) m.toNat = f at hf lf kx
          generalize hx : (c_r v) (16 + 6 * m) = x at *
          generalize hy : (c_r v) (17 + 6 * m) = y at *
          have rx : ∀ {D : Nat} {R1 : Option bc_A → bc_M → Prop} {X1 : Nat → bc_M → Prop} {g1 : bc_C}, R1 (some (bc_I x)) σ → bc_Sem g1 (D + 3) (bc_twin mX10_firstJoint) [bc_R 0, bc_I m] σ R1 X1 := fun q => t0_X10_firstJoint hF ⟨m0, hm⟩ (by rw [hx]; exact q)
          have ry : ∀ {D : Nat} {R1 : Option bc_A → bc_M → Prop} {X1 : Nat → bc_M → Prop} {g1 : bc_C}, R1 (some (bc_I y)) σ → bc_Sem g1 (D + 3) (bc_twin mX10_secondJoint) [bc_R 0, bc_I m] σ R1 X1 := fun q => t0_X10_secondJoint hF ⟨m0, hm⟩ (by rw [hy]; exact q)
          have s179 : ∀ (can c : Int) (F1 f1 : Int → Int), (can = 0 ∨ can = 1) → (0 ≤ c ∧ c ≤ 90) → (∀ j : Int, 0 ≤ j → j < 8 → F1 j = f1 j) → lm_ f1 9999 → (∀ F2 : Int → Int, (∀ j : Int, 0 ≤ j → j < 8 → F2 j = (if can = 1 then bfa_ f1 y x c else f1) j) → K g' [bd_row w u, bd_row 8 F2] 74 [(0, bc_R 0), (1, bc_I a), (2, bc_I b), (3, bc_I l), (4, bc_R 500), (5, bc_R 501), (6, bc_I i), (7, bc_I (m + 1)), (8, bc_I can), (9, bc_I c), (10, bc_I x), (11, bc_I y)] [] σ 3) → K g' [bd_row w u, bd_row 8 F1] 179 [(0, bc_R 0), (1, bc_I a), (2, bc_I b), (3, bc_I l), (4, bc_R 500), (5, bc_R 501), (6, bc_I i), (7, bc_I m), (8, bc_I can), (9, bc_I c), (10, bc_I x), (11, bc_I y)] [] σ 3 := by
            intro can c F1 f1 hcan hc h1 l1 hres
            have ex := h1 x gx.1 (by omega)
            have ey := h1 y gy.1 (by omega)
            have lx := l1 x gx.1 (by omega)
            have ly := l1 y gy.1 (by omega)
            refine hK.1 [64, 74, 107, 129, 179] 60 _ _ _ _ _ _ _ ?_
            refine bc_ob_i (by constructor <;> omega) ?_
            refine bc_br_i (fun c0 => ?_) (fun c0 => ?_)
            · refine bc_ob_i ⟨⟨by omega, by omega⟩, show 8 < 2000 by decide⟩ ?_
              refine bc_ob_i ⟨⟨by omega, by omega⟩, show 8 < 2000 by decide⟩ ?_
              refine hres _ (fun j j0 j1 => ?_)
              rw [if_neg (show ¬ can = 1 by omega)]
              show (if j = y then F1 y else F1 j) = f1 j
              split
              · rename_i e
                rw [e, ey]
              · exact h1 j j0 j1
            · refine bc_ob_i ⟨⟨by omega, by omega⟩, show 8 < 2000 by decide⟩ ?_
              refine bc_ob_i ⟨⟨by omega, by omega⟩, show 8 < 2000 by decide⟩ ?_
              refine bc_ob_i ⟨by constructor <;> omega, by constructor <;> omega, by show 2 ≤ 8; decide⟩ ?_
              refine bc_ob_i ⟨⟨by omega, by omega⟩, show 8 < 2000 by decide⟩ ?_
              refine hres _ (fun j j0 j1 => ?_)
              rw [if_pos (show can = 1 by omega)]
              show (if j = y then min (F1 y) (F1 x + c) else F1 j) = (if j = y then min (f1 y) (f1 x + c) else f1 j)
              rw [ex, ey, h1 j j0 j1]
          have s129 : ∀ can : Int, (can = 0 ∨ can = 1) → (can = 1 ↔ (c_r v) (21 + 6 * m) = 0 ∧ l ≤ (c_r v) (18 + 6 * m)) → K g' [bd_row w u, bd_row 8 F] 129 [(0, bc_R 0), (1, bc_I a), (2, bc_I b), (3, bc_I l), (4, bc_R 500), (5, bc_R 501), (6, bc_I i), (7, bc_I m), (8, bc_I can), (9, bc_I (bfc_ (c_r v) l m))] [] σ 3 := by
            intro can hcan hiff
            have lc := bfc_0 hM l m0 (by omega : m < 16)
            have ex := hf x gx.1 (by omega)
            have ey := hf y gy.1 (by omega)
            have lx := lf x gx.1 (by omega)
            have ly := lf y gy.1 (by omega)
            have k2 := kx can (bfc_ (c_r v) l m)
            unfold bfm_ at k2
            rw [hx, hy] at k2
            generalize bfc_ (c_r v) l m = c at *
            refine hK.1 [64, 74, 107, 129, 179] 60 _ _ _ _ _ _ _ ?_
            refine fun Z => rx ?_
            refine fun Z => ry ?_
            refine bc_ob_i (by constructor <;> omega) ?_
            refine bc_br_i (fun c0 => ?_) (fun c0 => ?_)
            · rw [if_neg (fun q => by have := hiff.mpr q; omega)] at k2
              refine bc_ob_i ⟨⟨by omega, by omega⟩, show 8 < 2000 by decide⟩ ?_
              refine bc_ob_i ⟨⟨by omega, by omega⟩, show 8 < 2000 by decide⟩ ?_
              refine s179 can c _ f hcan lc (fun j j0 j1 => ?_) lf (fun F2 h2 => k2 F2 (fun j j0 j1 => ?_))
              · show (if j = x then F x else F j) = f j
                split
                · rename_i e
                  rw [e, ex]
                · exact hf j j0 j1
              · rw [h2 j j0 j1, if_neg (by omega)]
            · rw [if_pos (hiff.mp (by omega))] at k2
              refine bc_ob_i ⟨⟨by omega, by omega⟩, show 8 < 2000 by decide⟩ ?_
              refine bc_ob_i ⟨⟨by omega, by omega⟩, show 8 < 2000 by decide⟩ ?_
              refine bc_ob_i ⟨by constructor <;> omega, by constructor <;> omega, by show 2 ≤ 8; decide⟩ ?_
              refine bc_ob_i ⟨⟨by omega, by omega⟩, show 8 < 2000 by decide⟩ ?_
              refine s179 can c _ (bfa_ f x y c) hcan lc (fun j j0 j1 => ?_) (bfa_lm lf gy.1 (by omega) lc.1) (fun F2 h2 => k2 F2 (fun j j0 j1 => ?_))
              · show (if j = x then min (F x) (F y + c) else F j) = (if j = x then min (f x) (f y + c) else f j)
                rw [ex, ey, hf j j0 j1]
              · rw [h2 j j0 j1, if_pos (by omega)]
          have s107 : ∀ can : Int, (can = 0 ∨ can = 1) → (can = 1 ↔ (c_r v) (21 + 6 * m) = 0 ∧ l ≤ (c_r v) (18 + 6 * m)) → K g' [bd_row w u, bd_row 8 F] 107 [(0, bc_R 0), (1, bc_I a), (2, bc_I b), (3, bc_I l), (4, bc_R 500), (5, bc_R 501), (6, bc_I i), (7, bc_I m), (8, bc_I can)] [] σ 3 := by
            intro can hcan hiff
            have q := s129 can hcan hiff
            refine hK.1 [64, 74, 107, 129, 179] 60 _ _ _ _ _ _ _ ?_
            refine fun Z => t0_X10_bearing hF ⟨m0, hm⟩ ?_
            refine bc_ob_i ⟨by constructor <;> omega, by constructor <;> omega⟩ ?_
            refine bc_br_i (fun c => ?_) (fun c => ?_)
            · refine fun Z => t0_X10_repairCost hF ⟨m0, hm⟩ ?_
              have e : bfc_ (c_r v) l m = co_ (c_r v) m := if_neg (by omega)
              rw [e] at q
              exact q
            · have e : bfc_ (c_r v) l m = 0 := if_pos (by omega)
              rw [e] at q
              exact q
          refine hK.2 _ _ _ _ [(0, bc_R 0), (1, bc_I a), (2, bc_I b), (3, bc_I l), (4, bc_R 500), (5, bc_R 501), (6, bc_I i), (7, bc_I m)] _ _ _ (ls_ _ _) ?_
          refine hK.1 [64, 74, 107, 129, 179] 60 _ _ _ _ _ _ _ ?_
          refine bc_ob_i ⟨by constructor <;> omega, by constructor <;> omega⟩ ?_
          refine bc_br_i (fun _ => ?_) (fun c => (by omega : False).elim)
          refine fun Z => t0_X10_isAbandoned hF ⟨m0, hm⟩ ?_
          refine bc_ob_i (by constructor <;> omega) ?_
          refine bc_br_i (fun c => ?_) (fun c => s107 0 (.inl rfl) (by omega))
          refine bc_ob_i ⟨⟨by omega, by omega⟩, by omega⟩ ?_
          refine bc_ob_i ⟨by constructor <;> omega, by constructor <;> omega⟩ ?_
          exact bc_br_i (fun c2 => s107 0 (.inl rfl) (by omega)) (fun c2 => s107 1 (.inr rfl) (by omega))
      refine hK.2 _ _ _ _ [(0, bc_R 0), (1, bc_I a), (2, bc_I b), (3, bc_I l), (4, bc_R 500), (5, bc_R 501), (6, bc_I i)] _ _ _ (ls_ _ _) ?_
      refine hK.1 [64, 74, 107, 129, 179] 60 _ _ _ _ _ _ _ ?_
      refine bc_ob_i ⟨by constructor <;> omega, by decide⟩ ?_
      refine bc_br_i (fun _ => ?_) (fun c => (by omega : False).elim)
      exact M 0 F [] (by decide) w3.1 hf
  refine hK.1 [4] 3 _ _ _ _ _ _ _ ?_
  refine bc_ob_i (by decide) ?_
  intro ad
  show K (bd_up g 501 ad) [bd_row w u, bd_row 8 (fun _ => 0)] 4 [(0, bc_R 0), (1, bc_I a), (2, bc_I b), (3, bc_I l), (4, bc_R 500)] [bc_R 501] σ 3
  refine hK.1 [64, 74, 107, 129, 179] 120 _ _ _ _ _ _ _ ?_
  iterate 8 refine bc_ob_i ⟨⟨by decide, by decide⟩, show 8 < 2000 by decide⟩ ?_
  refine bc_ob_i ⟨⟨by omega, by omega⟩, show 8 < 2000 by decide⟩ ?_
  refine L (bd_up g 501 ad) 0 _ [] (by decide) (by decide) (fun j j0 j1 => ?_)
  show (if j = a then (0 : Int) else if j = 7 then 9999 else if j = 6 then 9999 else if j = 5 then 9999 else if j = 4 then 9999 else if j = 3 then 9999 else if j = 2 then 9999 else if j = 1 then 9999 else if j = 0 then 9999 else 0) = (if j = a then 0 else 9999)
  (repeat' split) <;> omega
end BDAFF
