section
/-! the reference: links, critical members, ranks, the greatest vow -/
noncomputable def lnk_ (q : rw_t) : Nat → Int64
  | 0 => 0
  | n + 1 => if 0 < br_ q n then lnk_ q n ||| (((1 : Int64) <<< ((Int32.ofInt (8 * q (16 + 6 * (n : Int)) + q (17 + 6 * (n : Int)))).toInt64 &&& 63)) ||| ((1 : Int64) <<< ((Int32.ofInt (8 * q (17 + 6 * (n : Int)) + q (16 + 6 * (n : Int)))).toInt64 &&& 63))) else lnk_ q n
theorem lnk_s {q : rw_t} {i : Int} (h : 0 ≤ i) : lnk_ q (i + 1).toNat = if 0 < br_ q i then lnk_ q i.toNat ||| (((1 : Int64) <<< ((Int32.ofInt (8 * q (16 + 6 * i) + q (17 + 6 * i))).toInt64 &&& 63)) ||| ((1 : Int64) <<< ((Int32.ofInt (8 * q (17 + 6 * i) + q (16 + 6 * i))).toInt64 &&& 63))) else lnk_ q i.toNat := by
  obtain ⟨n, rfl⟩ : ∃ n : Nat, i = n := ⟨i.toNat, by omega⟩
  rw [show ((n : Int) + 1).toNat = n + 1 by omega, show ((n : Int)).toNat = n by omega]
  rfl
noncomputable def acr_ (q : rw_t) (m : Int) : Int := if br_ q m = 0 then 0 else if 99999 ≤ xm_ q 1 m (q (17 + 6 * m)) 8 (q (16 + 6 * m)) then 1 else 0
section REF
variable {g : bc_C} {d : Nat} {σ : bc_M} {q b : rw_t} {h : List rw_t} {Rr : Option bc_A → bc_M → Prop} {X : Nat → bc_M → Prop} {B : Int}
theorem t_X11_links (hN : nw_ σ 219 q) (hW : wf_M q) (f : ∀ σ', roc_ 0 σ σ' → Rr (some (bc_J (lnk_ q (q 3).toNat))) σ') : bc_Sem g (d + 6) mX11_links [bc_R 218] σ Rr X := by
  have w3 := hW.1
  have R0 : roc_ 0 σ (bc_wr σ 218 ((14 : Nat) : Int) 0) := roc_wr rfl
  have N := nw_fr hN R0.2.1 (by decide)
  have fin := f _ R0
  have e3 := N 3 (by decide) (by decide)
  refine e_X11_links rfl (fun K hK => ?_)
  have L : ∀ i : Int, 0 ≤ i → i ≤ q 3 → K 9 [(0, bc_R 218), (1, bc_J (lnk_ q i.toNat)), (3, bc_I i)] [] (bc_wr σ 218 ((14 : Nat) : Int) 0) 0 := by
    generalize bc_wr σ 218 ((14 : Nat) : Int) 0 = s at N fin e3 ⊢
    refine up_ind (q 3) (fun i hi i0 i1 => ?_) (fun i hi ih i0 i1 => ?_)
    · have e : i = q 3 := by omega
      subst e
      refine hK.1 [9] 60 _ _ _ _ _ ?_
      refine bc_ob_i (by first | omega | decide | (constructor <;> omega) | (constructor <;> constructor <;> omega)) ?_
      refine bc_ob_i (by first | omega | decide | (constructor <;> omega) | (constructor <;> constructor <;> omega)) ?_
      refine bc_br_i (fun c => absurd c (by omega)) (fun _ => ?_)
      exact fin
    · have hb := br_le hW i0 (by omega : i < 16)
      rw [lnk_s i0] at ih
      refine hK.1 [9] 90 _ _ _ _ _ ?_
      refine bc_ob_i (by first | omega | decide | (constructor <;> omega) | (constructor <;> constructor <;> omega)) ?_
      refine bc_ob_i (by first | omega | decide | (constructor <;> omega) | (constructor <;> constructor <;> omega)) ?_
      refine bc_br_i (fun _ => ?_) (fun c => absurd (by omega) c)
      refine t_X11_bears N hW i0 hi ?_
      refine bc_ob_i (by first | omega | decide | (constructor <;> omega) | (constructor <;> constructor <;> omega)) ?_
      refine bc_br_i (fun c => ?_) (fun c => ?_)
      rotate_left
      · have c' : ¬ 0 < br_ q i := c
        rw [if_neg c'] at ih
        exact ih (by omega) (by omega)
      · have c' : 0 < br_ q i := c
        rw [if_pos c'] at ih
        refine t_X11_ofM 16 N hW i0 hi (by decide) rfl ?_
        refine t_X11_ofM 17 N hW i0 hi (by decide) rfl ?_
        refine t_X11_ofM 17 N hW i0 hi (by decide) rfl ?_
        refine t_X11_ofM 16 N hW i0 hi (by decide) rfl ?_
        exact ih (by omega) (by omega)
  refine hK.1 [9] 60 _ _ _ _ _ ?_
  exact L 0 (Int.le_refl 0) w3.1
theorem t_X11_asksCritical {m : Int} (hN : nw_ σ 219 q) (hW : wf_M q) (hm : bc_in m) (f1 : ¬ (0 ≤ m ∧ m < q 3) → ∀ σ', roc_ 1 σ σ' → Rr (some (bc_I 0)) σ') (f0 : 0 ≤ m ∧ m < q 3 → ∀ σ', roc_ 0 σ σ' → Rr (some (bc_I (acr_ q m))) σ') : bc_Sem g (d + 7) mX11_asksCritical [bc_R 218, bc_I m] σ Rr X := by
  have w3 := hW.1
  refine e_X11_asksCritical rfl (fun K hK => ?_)
  refine hK.1 [] 60 _ _ _ _ _ ?_
  refine t_X11_isMember hN w3 hm ?_
  by_cases c : 0 ≤ m ∧ m < q 3
  · rw [if_pos c]
    obtain ⟨g0, g1, -⟩ := hW.2 m c.1 (by omega)
    have hb := br_le hW c.1 (by omega : m < 16)
    refine t_X11_goes (by decide) ?_
    have R0 : roc_ 0 σ (bc_wr σ 218 ((14 : Nat) : Int) (1 - 1)) := roc_wr (by decide)
    have N := nw_fr hN R0.2.1 (by decide)
    generalize bc_wr σ 218 ((14 : Nat) : Int) (1 - 1) = s at R0 N ⊢
    refine bc_ob_i (by decide) ?_
    refine bc_br_i (fun c => absurd c (by decide)) (fun _ => ?_)
    refine t_X11_bears N hW c.1 c.2 ?_
    refine bc_ob_i (by first | omega | decide | (constructor <;> omega) | (constructor <;> constructor <;> omega)) ?_
    refine bc_br_i (fun e => ?_) (fun e => ?_)
    rotate_left
    · refine t_X11_ofM 17 N hW c.1 c.2 (by decide) rfl ?_
      refine t_X11_measures N hW (by omega) (by decide) hm (fun s2 a2 F2 => ?_)
      have fin := f0 c s2 (roc_fr R0 F2 (by decide) (fun k hk => .inl hk))
      unfold acr_ at fin
      rw [if_neg (by omega)] at fin
      refine t_X11_ofM 16 (nw_fr N F2 (by decide)) hW c.1 c.2 (by decide) rfl ?_
      have a16 := a2 (q (16 + 6 * m)) (by omega) (by omega)
      have l16 := xm_lm hW 1 m (q (17 + 6 * m)) 8 (q (16 + 6 * m)) (by omega) (by omega)
      refine bc_ob_i (by omega) ?_
      refine bc_ob_i (by rw [a16]; constructor <;> constructor <;> omega) ?_
      rw [a16]
      refine bc_br_i (fun k => ?_) (fun k => ?_)
      · rw [if_neg (by omega)] at fin
        refine bc_ob_i (by decide) ?_
        exact fin
      · rw [if_pos (by omega)] at fin
        refine bc_ob_i (by decide) ?_
        exact fin
    · have fin := f0 c s R0
      unfold acr_ at fin
      rw [if_pos (by omega)] at fin
      refine bc_ob_i (by decide) ?_
      exact fin
  · rw [if_neg c]
    refine t_X11_goes (by decide) ?_
    refine bc_ob_i (by decide) ?_
    refine bc_br_i (fun _ => ?_) (fun c => absurd (by decide) c)
    refine bc_ob_i (by decide) ?_
    exact f1 c _ (roc_wr (by decide))
theorem t_X11_isCritical {m : Int} (hN : nw_ σ 219 q) (hW : wf_M q) (hm : bc_in m) (f1 : ¬ (0 ≤ m ∧ m < q 3) → ∀ σ', roc_ 1 σ σ' → Rr (some (bc_I 0)) σ') (f0 : 0 ≤ m ∧ m < q 3 → ∀ σ', roc_ 0 σ σ' → Rr (some (bc_I (acr_ q m))) σ') : bc_Sem g (d + 8) mX11_isCritical [bc_R 218, bc_I m] σ Rr X := by
  refine e_X11_isCritical rfl (fun K hK => ?_)
  have la : 0 ≤ acr_ q m ∧ acr_ q m ≤ 1 := by unfold acr_; (repeat' split) <;> omega
  refine hK.1 [] 60 _ _ _ _ _ ?_
  refine t_X11_asksCritical hN hW hm (fun c s R => ?_) (fun c s R => ?_)
  · exact bc_ob_i (by decide) (f1 c s R)
  · exact bc_ob_i (by omega) (f0 c s R)
theorem t_X11_isCriticalByRemoval {m : Int} (hN : nw_ σ 219 q) (hW : wf_M q) (hm : bc_in m) (f1 : ¬ (0 ≤ m ∧ m < q 3) → ∀ σ', roc_ 1 σ σ' → Rr (some (bc_I 0)) σ') (f0 : 0 ≤ m ∧ m < q 3 → ∀ σ', roc_ 0 σ σ' → Rr (some (bc_I (acr_ q m))) σ') : bc_Sem g (d + 8) mX11_isCriticalByRemoval [bc_R 218, bc_I m] σ Rr X := by
  refine e_X11_isCriticalByRemoval rfl (fun K hK => ?_)
  have la : 0 ≤ acr_ q m ∧ acr_ q m ≤ 1 := by unfold acr_; (repeat' split) <;> omega
  refine hK.1 [] 60 _ _ _ _ _ ?_
  refine t_X11_asksCritical hN hW hm (fun c s R => ?_) (fun c s R => ?_)
  · exact bc_ob_i (by decide) (f1 c s R)
  · exact bc_ob_i (by omega) (f0 c s R)
/-- a rank among the members: x bears it, or none does -/
noncomputable def rkx_ (q : rw_t) (a n x : Int) : Prop := (x = -1 ∧ ∀ k : Int, 0 ≤ k → k < n → rk_ q k ≠ a) ∨ ((0 ≤ x ∧ x < q 3) ∧ rk_ q x = a)
theorem t_X11_memberByBearing {a : Int} (hN : nw_ σ 219 q) (hW : wf_M q) (ha : bc_in a) (f1 : rkx_ q a (q 3) (-1) → ∀ σ', roc_ 1 σ σ' → Rr (some (bc_I 0)) σ') (f0 : ∀ x, 0 ≤ x → rkx_ q a (q 3) x → ∀ σ', roc_ 0 σ σ' → Rr (some (bc_I x)) σ') : bc_Sem g (d + 6) mX11_memberByBearing [bc_R 218, bc_I a] σ Rr X := by
  have w3 := hW.1
  have e3 := hN 3 (by decide) (by decide)
  obtain ⟨ha0, ha1⟩ := ha
  refine e_X11_memberByBearing rfl (fun K hK => ?_)
  have E : ∀ x y : Int, rkx_ q a (q 3) x → (y = if x ≠ -1 then 1 else 0) → K 132 [(0, bc_R 218), (1, bc_I a), (2, bc_I x)] [bc_I y, bc_R 218] σ 0 := by
    intro x y hx hy
    refine hK.1 [] 60 _ _ _ _ _ ?_
    by_cases c : x ≠ -1
    · rw [if_pos c] at hy
      subst hy
      have x0 : 0 ≤ x := by rcases hx with hx | hx <;> omega
      refine t_X11_goes (by decide) ?_
      refine bc_ob_i (by decide) ?_
      refine bc_br_i (fun c => absurd c (by decide)) (fun _ => ?_)
      exact f0 x x0 hx _ (roc_wr (by decide))
    · rw [if_neg c] at hy
      subst hy
      have x0 : x = -1 := by omega
      subst x0
      refine t_X11_goes (by decide) ?_
      refine bc_ob_i (by decide) ?_
      refine bc_br_i (fun _ => ?_) (fun c => absurd (by decide) c)
      exact f1 hx _ (roc_wr (by decide))
  have Li : ∀ (i x : Int), 0 ≤ i → i < q 3 → (∀ (z : bc_LV), K 103 ([(0, bc_R 218), (1, bc_I a), (2, bc_I x), (3, bc_I i), (4, bc_I (rk_ q i)), (5, bc_I (q 3))] ++ z) [] σ 0) → ∀ j : Int, ∀ z : bc_LV, 0 ≤ j → j ≤ q 3 → K 20 ([(0, bc_R 218), (1, bc_I a), (2, bc_I x), (3, bc_I i), (4, bc_I (sm_ (fun k => bb_ q k i) j.toNat)), (5, bc_I j)] ++ z) [] σ 0 := by
    intro i x i0 i1 go
    have bi := br_le hW i0 (by omega : i < 16)
    obtain ⟨-, -, -, ci, -⟩ := hW.2 i i0 (by omega)
    refine up_ind (q 3) (fun j hj z j0 j1 => ?_) (fun j hj ih z j0 j1 => ?_)
    · have e : j = q 3 := by omega
      subst e
      refine hK.2 _ _ [(0, bc_R 218), (1, bc_I a), (2, bc_I x), (3, bc_I i), (4, bc_I (sm_ (fun k => bb_ q k i) (q 3).toNat)), (5, bc_I (q 3))] _ _ _ (ls_ _ _) ?_
      refine hK.1 [4, 20, 103] 60 _ _ _ _ _ ?_
      refine bc_ob_i (by first | omega | decide | (constructor <;> omega) | (constructor <;> constructor <;> omega)) ?_
      refine bc_ob_i (by first | omega | decide | (constructor <;> omega) | (constructor <;> constructor <;> omega)) ?_
      refine bc_br_i (fun c => absurd c (by omega)) (fun _ => ?_)
      exact go []
    · have bj := br_le hW j0 (by omega : j < 16)
      obtain ⟨-, -, -, cj, -⟩ := hW.2 j j0 (by omega)
      rw [sm_s j0] at ih
      have N94 : ∀ (y u v : Int), y = bb_ q j i → K 94 [(0, bc_R 218), (1, bc_I a), (2, bc_I x), (3, bc_I i), (4, bc_I (sm_ (fun k => bb_ q k i) j.toNat)), (5, bc_I j), (6, bc_I u), (7, bc_I v)] [bc_I y, bc_I (sm_ (fun k => bb_ q k i) j.toNat)] σ 0 := by
        intro y u v hy
        subst hy
        refine hK.1 [4, 20] 60 _ _ _ _ _ ?_
        exact ih [(6, bc_I u), (7, bc_I v)] (by omega) (by omega)
      unfold bb_ at N94
      refine hK.2 _ _ [(0, bc_R 218), (1, bc_I a), (2, bc_I x), (3, bc_I i), (4, bc_I (sm_ (fun k => bb_ q k i) j.toNat)), (5, bc_I j)] _ _ _ (ls_ _ _) ?_
      refine hK.1 [4, 20, 94, 103] 120 _ _ _ _ _ ?_
      refine bc_ob_i (by first | omega | decide | (constructor <;> omega) | (constructor <;> constructor <;> omega)) ?_
      refine bc_ob_i (by first | omega | decide | (constructor <;> omega) | (constructor <;> constructor <;> omega)) ?_
      refine bc_br_i (fun _ => ?_) (fun c => absurd (by omega) c)
      refine t_X11_bears hN hW i0 i1 ?_
      refine t_X11_bears hN hW j0 hj ?_
      refine t_X11_ofM 19 hN hW j0 hj (by decide) rfl ?_
      refine t_X11_ofM 19 hN hW i0 i1 (by decide) rfl ?_
      refine bc_ob_i (by first | omega | decide | (constructor <;> omega) | (constructor <;> constructor <;> omega)) ?_
      refine bc_br_i (fun c => ?_) (fun c => ?_)
      · exact N94 1 _ _ (by rw [if_pos (by omega), if_pos (by omega)])
      refine bc_ob_i (by first | omega | decide | (constructor <;> omega) | (constructor <;> constructor <;> omega)) ?_
      refine bc_br_i (fun c1 => ?_) (fun c1 => N94 0 _ _ (by rw [if_pos (by omega), if_neg (by omega)]))
      refine bc_ob_i (by first | omega | decide | (constructor <;> omega) | (constructor <;> constructor <;> omega)) ?_
      refine bc_br_i (fun c2 => ?_) (fun c2 => ?_)
      · exact N94 1 _ _ (by rw [if_neg (by omega), if_pos (by omega), if_pos (by omega)])
      refine bc_ob_i (by first | omega | decide | (constructor <;> omega) | (constructor <;> constructor <;> omega)) ?_
      refine bc_br_i (fun c3 => ?_) (fun c3 => N94 0 _ _ (by rw [if_neg (by omega), if_pos (by omega), if_neg (by omega)]))
      refine bc_ob_i (by first | omega | decide | (constructor <;> omega) | (constructor <;> constructor <;> omega)) ?_
      refine bc_br_i (fun c4 => ?_) (fun c4 => ?_)
      · exact N94 1 _ _ (by rw [if_neg (by omega), if_neg (by omega), if_pos (by omega)])
      · exact N94 0 _ _ (by rw [if_neg (by omega), if_neg (by omega), if_neg (by omega)])
  have L : ∀ i : Int, ∀ (x : Int) (z : bc_LV), 0 ≤ i → i ≤ q 3 → rkx_ q a i x → K 4 ([(0, bc_R 218), (1, bc_I a), (2, bc_I x), (3, bc_I i)] ++ z) [] σ 0 := by
    refine up_ind (q 3) (fun i hi x z i0 i1 hx => ?_) (fun i hi ih x z i0 i1 hx => ?_)
    · have e : i = q 3 := by omega
      subst e
      have lx : -1 ≤ x ∧ x < 16 := by rcases hx with hx | hx <;> omega
      refine hK.2 _ _ [(0, bc_R 218), (1, bc_I a), (2, bc_I x), (3, bc_I (q 3))] _ _ _ (ls_ _ _) ?_
      refine hK.1 [4, 132] 60 _ _ _ _ _ ?_
      refine bc_ob_i (by first | omega | decide | (constructor <;> omega) | (constructor <;> constructor <;> omega)) ?_
      refine bc_ob_i (by first | omega | decide | (constructor <;> omega) | (constructor <;> constructor <;> omega)) ?_
      refine bc_br_i (fun c => absurd c (by omega)) (fun _ => ?_)
      refine bc_ob_i (by first | omega | decide | (constructor <;> omega) | (constructor <;> constructor <;> omega)) ?_
      have W : ∀ y : Int, (y = if x ≠ -1 then 1 else 0) → K 132 [(0, bc_R 218), (1, bc_I a), (2, bc_I x), (3, bc_I (q 3))] [bc_I y, bc_R 218] σ 0 := fun y hy => hK.2 _ _ [(0, bc_R 218), (1, bc_I a), (2, bc_I x)] _ _ _ (ls_ _ [(3, bc_I (q 3))]) (E x y hx hy)
      refine bc_br_i (fun c => ?_) (fun c => ?_)
      · exact W 0 (if_neg (by omega)).symm
      · exact W 1 (if_pos (by omega)).symm
    · have nx : ∀ (y : Int) (z2 : bc_LV), rkx_ q a (i + 1) y → K 4 ([(0, bc_R 218), (1, bc_I a), (2, bc_I y), (3, bc_I (i + 1))] ++ z2) [] σ 0 := fun y z2 hy => ih y z2 (by omega) (by omega) hy
      have lk := rk_le hW i
      have go : ∀ (z : bc_LV), K 103 ([(0, bc_R 218), (1, bc_I a), (2, bc_I x), (3, bc_I i), (4, bc_I (rk_ q i)), (5, bc_I (q 3))] ++ z) [] σ 0 := by
        intro z
        refine hK.2 _ _ [(0, bc_R 218), (1, bc_I a), (2, bc_I x), (3, bc_I i), (4, bc_I (rk_ q i)), (5, bc_I (q 3))] _ _ _ (ls_ _ _) ?_
        refine hK.1 [4] 60 _ _ _ _ _ ?_
        refine bc_ob_i (by first | omega | decide | (constructor <;> omega) | (constructor <;> constructor <;> omega)) ?_
        refine bc_br_i (fun c => ?_) (fun c => ?_)
        rotate_left
        · refine nx x [(4, bc_I (rk_ q i)), (5, bc_I (q 3))] ?_
          rcases hx with ⟨x0, hx⟩ | hx
          · refine .inl ⟨x0, fun k k0 k1 => ?_⟩
            by_cases e : k = i
            · rw [e]; exact c
            · exact hx k k0 (by omega)
          · exact .inr hx
        · refine nx i [(4, bc_I (rk_ q i)), (5, bc_I (q 3))] (.inr ⟨⟨i0, hi⟩, ?_⟩)
          first | exact c | exact Classical.not_not.mp c
      refine hK.2 _ _ [(0, bc_R 218), (1, bc_I a), (2, bc_I x), (3, bc_I i)] _ _ _ (ls_ _ _) ?_
      refine hK.1 [4, 20] 60 _ _ _ _ _ ?_
      refine bc_ob_i (by first | omega | decide | (constructor <;> omega) | (constructor <;> constructor <;> omega)) ?_
      refine bc_ob_i (by first | omega | decide | (constructor <;> omega) | (constructor <;> constructor <;> omega)) ?_
      refine bc_br_i (fun _ => ?_) (fun c => absurd (by omega) c)
      exact Li i x i0 hi go 0 [] (Int.le_refl 0) w3.1
  refine hK.1 [4] 60 _ _ _ _ _ ?_
  exact L 0 (-1) [] (Int.le_refl 0) w3.1 (.inl ⟨rfl, fun k k0 k1 => by omega⟩)
end REF
end
section
/-! the reference: the vows in their order; the greatest vow -/
section REF
variable {g : bc_C} {d : Nat} {σ : bc_M} {q b : rw_t} {h : List rw_t} {Rr : Option bc_A → bc_M → Prop} {X : Nat → bc_M → Prop} {B : Int}
/-- a place among the waiting vows: the vow x stands there, or none does -/
noncomputable def vkx_ (q : rw_t) (a n x : Int) : Prop := (x = -1 ∧ ∀ k : Int, 0 ≤ k → k < n → vk_r q k ≠ a) ∨ ∃ k : Int, (0 ≤ k ∧ k < q 4) ∧ vk_r q k = a ∧ x = q (112 + 3 * k)
theorem t_X11_vowAt {a : Int} (hN : nw_ σ 219 q) (hT : wf_T B q) (hB : B ≤ 1000000) (ha : bc_in a) (f1 : vkx_ q a (q 4) (-1) → ∀ σ', roc_ 1 σ σ' → Rr (some (bc_I 0)) σ') (f0 : ∀ x, 0 ≤ x → vkx_ q a (q 4) x → ∀ σ', roc_ 0 σ σ' → Rr (some (bc_I x)) σ') : bc_Sem g (d + 3) mX11_vowAt [bc_R 218, bc_I a] σ Rr X := by
  obtain ⟨T0, T1, T2, T4, T5, T6, T7, Ts, T8, T9, T10, Te, Tv, Tw, To⟩ := hT
  have e4 := hN 4 (by decide) (by decide)
  obtain ⟨ha0, ha1⟩ := ha
  refine e_X11_vowAt rfl (fun K hK => ?_)
  have lx : ∀ n x : Int, vkx_ q a n x → -1 ≤ x ∧ x ≤ 1000000 := by
    intro n x hx
    rcases hx with hx | ⟨k, hk, -, e⟩
    · omega
    · obtain ⟨v1, v2, v3⟩ := Tv k hk.1 (by omega)
      omega
  have E : ∀ x y : Int, vkx_ q a (q 4) x → (y = if x ≠ -1 then 1 else 0) → K 113 [(0, bc_R 218), (1, bc_I a), (2, bc_I x)] [bc_I y, bc_R 218] σ 0 := by
    intro x y hx hy
    have l := lx _ _ hx
    refine hK.1 [] 60 _ _ _ _ _ ?_
    by_cases c : x ≠ -1
    · rw [if_pos c] at hy
      subst hy
      refine t_X11_goes (by decide) ?_
      refine bc_ob_i (by decide) ?_
      refine bc_br_i (fun c => absurd c (by decide)) (fun _ => ?_)
      exact f0 x (by omega) hx _ (roc_wr (by decide))
    · rw [if_neg c] at hy
      subst hy
      have x0 : x = -1 := by omega
      subst x0
      refine t_X11_goes (by decide) ?_
      refine bc_ob_i (by decide) ?_
      refine bc_br_i (fun _ => ?_) (fun c => absurd (by decide) c)
      exact f1 hx _ (roc_wr (by decide))
  have Li : ∀ (i x : Int), 0 ≤ i → i < q 4 → (∀ (z : bc_LV), K 79 ([(0, bc_R 218), (1, bc_I a), (2, bc_I x), (3, bc_I i), (4, bc_I (vk_r q i)), (5, bc_I (q 4))] ++ z) [] σ 0) → ∀ j : Int, ∀ z : bc_LV, 0 ≤ j → j ≤ q 4 → K 20 ([(0, bc_R 218), (1, bc_I a), (2, bc_I x), (3, bc_I i), (4, bc_I (sm_ (fun k => vb_ q k i) j.toNat)), (5, bc_I j)] ++ z) [] σ 0 := by
    intro i x i0 i1 go
    obtain ⟨u1, u2, u3⟩ := Tv i i0 (by omega)
    refine up_ind (q 4) (fun j hj z j0 j1 => ?_) (fun j hj ih z j0 j1 => ?_)
    · have e : j = q 4 := by omega
      subst e
      refine hK.2 _ _ [(0, bc_R 218), (1, bc_I a), (2, bc_I x), (3, bc_I i), (4, bc_I (sm_ (fun k => vb_ q k i) (q 4).toNat)), (5, bc_I (q 4))] _ _ _ (ls_ _ _) ?_
      refine hK.1 [4, 20, 79] 60 _ _ _ _ _ ?_
      refine bc_ob_i (by first | omega | decide | (constructor <;> omega) | (constructor <;> constructor <;> omega)) ?_
      refine bc_ob_i (by first | omega | decide | (constructor <;> omega) | (constructor <;> constructor <;> omega)) ?_
      refine bc_br_i (fun c => absurd c (by omega)) (fun _ => ?_)
      exact go []
    · obtain ⟨v1, v2, v3⟩ := Tv j j0 (by omega)
      have oij : j < i → q (112 + 3 * j) < q (112 + 3 * i) := fun c => To j i j0 c i1
      have oji : i < j → q (112 + 3 * i) < q (112 + 3 * j) := fun c => To i j i0 c hj
      have oee : i = j → q (112 + 3 * i) = q (112 + 3 * j) := fun c => by rw [c]
      rw [sm_s j0] at ih
      have N70 : ∀ (y u : Int), y = vb_ q j i → K 70 [(0, bc_R 218), (1, bc_I a), (2, bc_I x), (3, bc_I i), (4, bc_I (sm_ (fun k => vb_ q k i) j.toNat)), (5, bc_I j), (6, bc_I u)] [bc_I y, bc_I (sm_ (fun k => vb_ q k i) j.toNat)] σ 0 := by
        intro y u hy
        subst hy
        refine hK.1 [4, 20] 60 _ _ _ _ _ ?_
        exact ih [(6, bc_I u)] (by omega) (by omega)
      unfold vb_ at N70
      refine hK.2 _ _ [(0, bc_R 218), (1, bc_I a), (2, bc_I x), (3, bc_I i), (4, bc_I (sm_ (fun k => vb_ q k i) j.toNat)), (5, bc_I j)] _ _ _ (ls_ _ _) ?_
      refine hK.1 [4, 20, 70, 79] 120 _ _ _ _ _ ?_
      refine bc_ob_i (by first | omega | decide | (constructor <;> omega) | (constructor <;> constructor <;> omega)) ?_
      refine bc_ob_i (by first | omega | decide | (constructor <;> omega) | (constructor <;> constructor <;> omega)) ?_
      refine bc_br_i (fun _ => ?_) (fun c => absurd (by omega) c)
      refine t_X11_ofVow 113 hN (by omega) (by decide) rfl ?_
      refine t_X11_ofVow 113 hN (by omega) (by decide) rfl ?_
      refine bc_ob_i (by first | omega | decide | (constructor <;> omega) | (constructor <;> constructor <;> omega)) ?_
      refine bc_br_i (fun c => ?_) (fun c => ?_)
      · exact N70 1 _ (by rw [if_pos (by omega)])
      refine bc_ob_i (by first | omega | decide | (constructor <;> omega) | (constructor <;> constructor <;> omega)) ?_
      refine bc_br_i (fun c1 => ?_) (fun c1 => N70 0 _ (by rw [if_neg (by omega), if_neg (by omega)]))
      refine bc_ob_i (by first | omega | decide | (constructor <;> omega) | (constructor <;> constructor <;> omega)) ?_
      refine bc_br_i (fun c4 => ?_) (fun c4 => ?_)
      · exact N70 1 _ (by rw [if_neg (by omega), if_pos (by omega), if_pos (by omega)])
      · exact N70 0 _ (by rw [if_neg (by omega), if_pos (by omega), if_neg (by omega)])
  have L : ∀ i : Int, ∀ (x : Int) (z : bc_LV), 0 ≤ i → i ≤ q 4 → vkx_ q a i x → K 4 ([(0, bc_R 218), (1, bc_I a), (2, bc_I x), (3, bc_I i)] ++ z) [] σ 0 := by
    refine up_ind (q 4) (fun i hi x z i0 i1 hx => ?_) (fun i hi ih x z i0 i1 hx => ?_)
    · have e : i = q 4 := by omega
      subst e
      have l := lx _ _ hx
      refine hK.2 _ _ [(0, bc_R 218), (1, bc_I a), (2, bc_I x), (3, bc_I (q 4))] _ _ _ (ls_ _ _) ?_
      refine hK.1 [4, 113] 60 _ _ _ _ _ ?_
      refine bc_ob_i (by first | omega | decide | (constructor <;> omega) | (constructor <;> constructor <;> omega)) ?_
      refine bc_ob_i (by first | omega | decide | (constructor <;> omega) | (constructor <;> constructor <;> omega)) ?_
      refine bc_br_i (fun c => absurd c (by omega)) (fun _ => ?_)
      refine bc_ob_i (by first | omega | decide | (constructor <;> omega) | (constructor <;> constructor <;> omega)) ?_
      have W : ∀ y : Int, (y = if x ≠ -1 then 1 else 0) → K 113 [(0, bc_R 218), (1, bc_I a), (2, bc_I x), (3, bc_I (q 4))] [bc_I y, bc_R 218] σ 0 := fun y hy => hK.2 _ _ [(0, bc_R 218), (1, bc_I a), (2, bc_I x)] _ _ _ (ls_ _ [(3, bc_I (q 4))]) (E x y hx hy)
      refine bc_br_i (fun c => ?_) (fun c => ?_)
      · exact W 0 (if_neg (by omega)).symm
      · exact W 1 (if_pos (by omega)).symm
    · have nx : ∀ (y : Int) (z2 : bc_LV), vkx_ q a (i + 1) y → K 4 ([(0, bc_R 218), (1, bc_I a), (2, bc_I y), (3, bc_I (i + 1))] ++ z2) [] σ 0 := fun y z2 hy => ih y z2 (by omega) (by omega) hy
      have lk := vk_le T4 i
      have go : ∀ (z : bc_LV), K 79 ([(0, bc_R 218), (1, bc_I a), (2, bc_I x), (3, bc_I i), (4, bc_I (vk_r q i)), (5, bc_I (q 4))] ++ z) [] σ 0 := by
        intro z
        refine hK.2 _ _ [(0, bc_R 218), (1, bc_I a), (2, bc_I x), (3, bc_I i), (4, bc_I (vk_r q i)), (5, bc_I (q 4))] _ _ _ (ls_ _ _) ?_
        refine hK.1 [4] 60 _ _ _ _ _ ?_
        refine bc_ob_i (by first | omega | decide | (constructor <;> omega) | (constructor <;> constructor <;> omega)) ?_
        refine bc_br_i (fun c => ?_) (fun c => ?_)
        rotate_left
        · refine nx x [(4, bc_I (vk_r q i)), (5, bc_I (q 4))] ?_
          rcases hx with ⟨x0, hx⟩ | hx
          · refine .inl ⟨x0, fun k k0 k1 => ?_⟩
            by_cases e : k = i
            · rw [e]; exact c
            · exact hx k k0 (by omega)
          · exact .inr hx
        · refine t_X11_ofVow 112 hN (by omega) (by decide) rfl ?_
          refine nx (q (112 + 3 * i)) [(4, bc_I (vk_r q i)), (5, bc_I (q 4))] (.inr ⟨i, ⟨i0, hi⟩, ?_, rfl⟩)
          first | exact c | exact Classical.not_not.mp c
      refine hK.2 _ _ [(0, bc_R 218), (1, bc_I a), (2, bc_I x), (3, bc_I i)] _ _ _ (ls_ _ _) ?_
      refine hK.1 [4, 20] 60 _ _ _ _ _ ?_
      refine bc_ob_i (by first | omega | decide | (constructor <;> omega) | (constructor <;> constructor <;> omega)) ?_
      refine bc_ob_i (by first | omega | decide | (constructor <;> omega) | (constructor <;> constructor <;> omega)) ?_
      refine bc_br_i (fun _ => ?_) (fun c => absurd (by omega) c)
      exact Li i x i0 hi go 0 [] (Int.le_refl 0) T4.1
  refine hK.1 [4] 60 _ _ _ _ _ ?_
  exact L 0 (-1) [] (Int.le_refl 0) T4.1 (.inl ⟨rfl, fun k k0 k1 => by omega⟩)
/-- the most that can be vowed for a day, with the first n vows looked at -/
noncomputable def gv_ (q : rw_t) (a n x : Int) : Prop := x ≤ sp_ q a ∧ (∀ k : Int, 0 ≤ k → k < n → a ≤ q (113 + 3 * k) → x ≤ sp_ q (q (113 + 3 * k))) ∧ (x = sp_ q a ∨ ∃ k : Int, (0 ≤ k ∧ k < q 4) ∧ a ≤ q (113 + 3 * k) ∧ x = sp_ q (q (113 + 3 * k)))
theorem t_X11_greatestVow {a : Int} (hN : nw_ σ 219 q) (hT : wf_T B q) (hB : B ≤ 1000000) (ha : bc_in a) (f1 : ¬ (q 0 < a ∧ a ≤ q 0 + 50) → ∀ σ', roc_ 1 σ σ' → Rr (some (bc_I 0)) σ') (f2 : (q 0 < a ∧ a ≤ q 0 + 50) → kpa_ q 0 → ∀ σ', roc_ 2 σ σ' → Rr (some (bc_I 0)) σ') (f0 : (q 0 < a ∧ a ≤ q 0 + 50) → kpa_ q 1 → ∀ x, gv_ q a (q 4) x → ∀ σ', roc_ 0 σ σ' → Rr (some (bc_I x)) σ') : bc_Sem g (d + 4) mX11_greatestVow [bc_R 218, bc_I a] σ Rr X := by
  have hT0 := hT
  obtain ⟨T0, T1, T2, T4, T5, T6, T7, Ts, T8, T9, T10, Te, Tv, Tw, To⟩ := hT0
  have e4 := hN 4 (by decide) (by decide)
  refine e_X11_greatestVow rfl (fun K hK => ?_)
  by_cases c : q 0 < a ∧ a ≤ q 0 + 50
  · have ia := sp_in hT hB (a := a) (by omega)
    have lx : ∀ n x : Int, gv_ q a n x → bc_in x := by
      intro n x hx
      obtain ⟨-, -, hx | ⟨k, hk, -, e⟩⟩ := hx
      · rw [hx]; exact ia
      · obtain ⟨v1, v2, v3⟩ := Tv k hk.1 (by omega)
        rw [e]
        exact sp_in hT hB (by omega)
    have L : ∀ i : Int, ∀ x : Int, 0 ≤ i → i ≤ q 4 → gv_ q a i x → K 23 [(0, bc_R 218), (1, bc_I a), (2, bc_I 1), (3, bc_I x), (4, bc_I i)] [] σ 0 := by
      refine up_ind (q 4) (fun i hi x i0 i1 hx => ?_) (fun i hi ih x i0 i1 hx => ?_)
      · have e : i = q 4 := by omega
        subst e
        refine hK.1 [23] 90 _ _ _ _ _ ?_
        refine bc_ob_i (by first | omega | decide | (constructor <;> omega) | (constructor <;> constructor <;> omega)) ?_
        refine bc_ob_i (by first | omega | decide | (constructor <;> omega) | (constructor <;> constructor <;> omega)) ?_
        refine bc_br_i (fun c => absurd c (by omega)) (fun _ => ?_)
        refine t_X11_keepsAll hN hT hB (fun y hy => ?_)
        have ly : y = 0 ∨ y = 1 := by rcases hy with hy | hy <;> omega
        rcases ly with ly | ly
        · subst ly
          refine t_X11_holds (by decide) (by decide) (by decide) (by decide) ?_
          refine bc_ob_i (by decide) ?_
          refine bc_br_i (fun _ => ?_) (fun c => absurd (by decide) c)
          exact f2 c hy _ (roc_wr (by decide))
        · subst ly
          refine t_X11_holds (by decide) (by decide) (by decide) (by decide) ?_
          refine bc_ob_i (by decide) ?_
          refine bc_br_i (fun c => absurd c (by decide)) (fun _ => ?_)
          exact f0 c hy x hx _ (roc_wr (by decide))
      · obtain ⟨v1, v2, v3⟩ := Tv i i0 (by omega)
        have ii := sp_in hT hB (a := q (113 + 3 * i)) (by omega)
        have ix := lx _ _ hx
        obtain ⟨x1, x2, x3⟩ := id hx
        refine hK.1 [23] 90 _ _ _ _ _ ?_
        refine bc_ob_i (by first | omega | decide | (constructor <;> omega) | (constructor <;> constructor <;> omega)) ?_
        refine bc_ob_i (by first | omega | decide | (constructor <;> omega) | (constructor <;> constructor <;> omega)) ?_
        refine bc_br_i (fun _ => ?_) (fun c => absurd (by omega) c)
        refine bc_ob_i (by decide) ?_
        refine bc_br_i (fun c => absurd c (by decide)) (fun _ => ?_)
        refine t_X11_ofVow 113 hN (by omega) (by decide) rfl ?_
        refine bc_ob_i (by first | omega | decide | (constructor <;> omega) | (constructor <;> constructor <;> omega)) ?_
        refine bc_br_i (fun k => ?_) (fun k => ?_)
        · refine ih x (by omega) (by omega) ⟨x1, fun j j0 j1 ja => ?_, x3⟩
          by_cases e : j = i
          · subst e
            omega
          · exact x2 j j0 (by omega) ja
        · refine t_X11_ofVow 113 hN (by omega) (by decide) rfl ?_
          refine t_X11_spareOn hN hT hB (by constructor <;> omega) ?_
          refine bc_ob_i ⟨ix, ii, Nat.le_of_ble_eq_true rfl⟩ ?_
          refine ih (min x (sp_ q (q (113 + 3 * i)))) (by omega) (by omega) ⟨by omega, fun j j0 j1 ja => ?_, ?_⟩
          · by_cases e : j = i
            · subst e
              omega
            · have := x2 j j0 (by omega) ja
              omega
          · by_cases e : x ≤ sp_ q (q (113 + 3 * i))
            · rw [Int.min_eq_left e]
              exact x3
            · rw [Int.min_eq_right (by omega)]
              exact .inr ⟨i, ⟨i0, hi⟩, by omega, rfl⟩
    refine hK.1 [23] 60 _ _ _ _ _ ?_
    refine t_X11_isDue hN (by omega) ha ?_
    rw [if_pos c]
    refine bc_ob_i (by decide) ?_
    refine bc_br_i (fun c => absurd c (by decide)) (fun _ => ?_)
    refine t_X11_spareOn hN hT hB ha ?_
    exact L 0 _ (Int.le_refl 0) T4.1 ⟨Int.le_refl _, fun k k0 k1 => by omega, .inl rfl⟩
  · have E : ∀ x : Int, K 75 [(0, bc_R 218), (1, bc_I a), (2, bc_I 0), (3, bc_I 0), (4, bc_I 0)] [] σ 0 := by
      intro x
      refine hK.1 [] 60 _ _ _ _ _ ?_
      refine t_X11_keepsAll hN hT hB (fun y hy => ?_)
      have ly : 0 ≤ y ∧ y ≤ 1 := by rcases hy with hy | hy <;> omega
      refine t_X11_holds (by decide) ly (by decide) (by decide) ?_
      have e : ho_ 0 y 1 1 = 1 := by unfold ho_; rw [if_pos rfl]
      rw [e]
      refine bc_ob_i (by decide) ?_
      refine bc_br_i (fun _ => ?_) (fun c => absurd (by decide) c)
      exact f1 c _ (roc_wr rfl)
    refine hK.1 [23, 75] 60 _ _ _ _ _ ?_
    refine t_X11_isDue hN (by omega) ha ?_
    rw [if_neg c]
    refine bc_ob_i (by decide) ?_
    refine bc_br_i (fun _ => ?_) (fun c => absurd (by decide) c)
    refine hK.1 [75] 60 _ _ _ _ _ ?_
    refine bc_ob_i (by first | omega | decide | (constructor <;> omega) | (constructor <;> constructor <;> omega)) ?_
    refine bc_ob_i (by first | omega | decide | (constructor <;> omega) | (constructor <;> constructor <;> omega)) ?_
    refine bc_br_i (fun _ => ?_) (fun _ => E 0)
    refine bc_ob_i (by decide) ?_
    refine bc_br_i (fun _ => ?_) (fun c => absurd (by decide) c)
    exact E 0
end REF
end
section
/-! the reference: what repairs afford (the scratch stays in its bounds) -/
theorem bd_wr {s : bc_M} {i v : Int} (h : ∀ j : Int, 0 ≤ j → j < 8 → 0 ≤ s.1 223 j ∧ s.1 223 j ≤ 99999) (hv : 0 ≤ v ∧ v ≤ 99999) : ∀ j : Int, 0 ≤ j → j < 8 → 0 ≤ (bc_wr s 223 i v).1 223 j ∧ (bc_wr s 223 i v).1 223 j ≤ 99999 := by
  intro j j0 j1
  simp only [bc_wr, if_true]
  split
  · exact hv
  · exact h j j0 j1
theorem ho_3 (a b c : Int) : 0 ≤ ho_ a b c 1 ∧ ho_ a b c 1 ≤ 3 := by
  unfold ho_
  (repeat' split) <;> omega
theorem cole_ {q : rw_t} (hW : wf_M q) {m : Int} (m0 : 0 ≤ m) (m1 : m < 16) : 0 ≤ co_ q m ∧ co_ q m ≤ 90 := by
  obtain ⟨g0, g1, g2, g3, g4, g5⟩ := hW.2 m m0 m1
  unfold co_
  have := mul_le (a := (q (18 + 6 * m) + 9) / 10) (A := 10) (b := q (19 + 6 * m)) (B := 9) (by omega) (by omega) (by omega) (by omega)
  omega
section REF
variable {g : bc_C} {d : Nat} {σ : bc_M} {q b : rw_t} {h : List rw_t} {Rr : Option bc_A → bc_M → Prop} {X : Nat → bc_M → Prop} {B : Int}
theorem t_X11_costFor {u v l : Int} (hN : nw_ σ 219 q) (hW : wf_M q) (a0 : 0 ≤ u ∧ u < 8) (b0 : 0 ≤ v ∧ v < 8) (hl : 0 ≤ l ∧ l ≤ 99) (f : ∀ σ' x, (0 ≤ x ∧ x ≤ 99999) → fr_ (fun k => k = 223) σ σ' → Rr (some (bc_I x)) σ') : bc_Sem g (d + 6) mX11_costFor [bc_R 218, bc_I u, bc_I v, bc_I l] σ Rr X := by
  have w3 := hW.1
  refine e_X11_costFor rfl (fun K hK => ?_)
  have Lm : ∀ (i : Int), (∀ (s : bc_M) (z : bc_LV), (∀ j : Int, 0 ≤ j → j < 8 → 0 ≤ s.1 223 j ∧ s.1 223 j ≤ 99999) → fr_ (fun k => k = 223) σ s → K 16 ([(0, bc_R 218), (1, bc_I u), (2, bc_I v), (3, bc_I l), (4, bc_I (i + 1))] ++ z) [] s 0) → ∀ m : Int, ∀ (s : bc_M) (z : bc_LV), 0 ≤ m → m ≤ q 3 → (∀ j : Int, 0 ≤ j → j < 8 → 0 ≤ s.1 223 j ∧ s.1 223 j ≤ 99999) → fr_ (fun k => k = 223) σ s → K 26 ([(0, bc_R 218), (1, bc_I u), (2, bc_I v), (3, bc_I l), (4, bc_I i), (5, bc_I m)] ++ z) [] s 0 := by
    intro i go
    refine up_ind (q 3) (fun m hm s z m0 m1 ha Fr => ?_) (fun m hm ih s z m0 m1 ha Fr => ?_)
    · have em : m = q 3 := by omega
      subst em
      have e3 := (nw_fr hN Fr (by decide)) 3 (by decide) (by decide)
      refine hK.2 _ _ [(0, bc_R 218), (1, bc_I u), (2, bc_I v), (3, bc_I l), (4, bc_I i), (5, bc_I (q 3))] _ _ _ (ls_ _ _) ?_
      refine hK.1 [16, 26] 60 _ _ _ _ _ ?_
      refine bc_ob_i (by first | omega | decide | (constructor <;> omega) | (constructor <;> constructor <;> omega)) ?_
      refine bc_ob_i (by first | omega | decide | (constructor <;> omega) | (constructor <;> constructor <;> omega)) ?_
      refine bc_br_i (fun c => absurd c (by omega)) (fun _ => ?_)
      exact go s [(5, bc_I (q 3))] ha Fr
    · have hNs := nw_fr hN Fr (by decide)
      have e3 := hNs 3 (by decide) (by decide)
      obtain ⟨g0, g1, g2, g3, g4, g5⟩ := hW.2 m m0 (by omega)
      have hb := br_le hW m0 (by omega : m < 16)
      have hc := cole_ hW m0 (by omega : m < 16)
      have T95 : ∀ (c y : Int), (0 ≤ c ∧ c ≤ 99999) → K 95 [(0, bc_R 218), (1, bc_I u), (2, bc_I v), (3, bc_I l), (4, bc_I i), (5, bc_I m), (6, bc_I y)] [bc_I c] s 0 := by
        intro c y lc
        have a1 := ha (q (16 + 6 * m)) g0.1 (by omega)
        have a2 := ha (q (17 + 6 * m)) g1.1 (by omega)
        have A1 := bd_wr (i := q (17 + 6 * m)) (v := min (s.1 223 (q (17 + 6 * m))) (s.1 223 (q (16 + 6 * m)) + c)) ha (by omega)
        have f1 : fr_ (fun k => k = 223) s (bc_wr s 223 (q (17 + 6 * m)) (min (s.1 223 (q (17 + 6 * m))) (s.1 223 (q (16 + 6 * m)) + c))) := fr_wr rfl
        have b1 := A1 (q (16 + 6 * m)) g0.1 (by omega)
        have b2 := A1 (q (17 + 6 * m)) g1.1 (by omega)
        have A2 := bd_wr (i := q (16 + 6 * m)) (v := min ((bc_wr s 223 (q (17 + 6 * m)) (min (s.1 223 (q (17 + 6 * m))) (s.1 223 (q (16 + 6 * m)) + c))).1 223 (q (16 + 6 * m))) ((bc_wr s 223 (q (17 + 6 * m)) (min (s.1 223 (q (17 + 6 * m))) (s.1 223 (q (16 + 6 * m)) + c))).1 223 (q (17 + 6 * m)) + c)) A1 (by omega)
        refine hK.1 [16, 26] 120 _ _ _ _ _ ?_
        refine t_X11_ofM 16 hNs hW m0 hm (by decide) rfl ?_
        refine t_X11_ofM 17 hNs hW m0 hm (by decide) rfl ?_
        refine bc_ob_i (by omega) ?_
        refine bc_ob_i (by omega) ?_
        refine bc_ob_i ⟨by constructor <;> omega, by constructor <;> omega, Nat.le_of_ble_eq_true rfl⟩ ?_
        refine bc_ob_i (by omega) ?_
        refine bc_ob_i (by omega) ?_
        refine bc_ob_i (by omega) ?_
        refine bc_ob_i ⟨by constructor <;> omega, by constructor <;> omega, Nat.le_of_ble_eq_true rfl⟩ ?_
        refine bc_ob_i (by omega) ?_
        exact ih _ [(6, bc_I y), (7, bc_I c), (8, bc_I (q (16 + 6 * m))), (9, bc_I (q (17 + 6 * m)))] (by omega) (by omega) A2 (fr_trans Fr (fr_trans f1 (fr_wr rfl)))
      have T63 : ∀ (y : Int), (0 ≤ y ∧ y ≤ 1) → K 63 [(0, bc_R 218), (1, bc_I u), (2, bc_I v), (3, bc_I l), (4, bc_I i), (5, bc_I m)] [bc_I y] s 0 := by
        intro y ly
        refine hK.1 [95] 60 _ _ _ _ _ ?_
        refine bc_ob_i (by first | omega | decide | (constructor <;> omega) | (constructor <;> constructor <;> omega)) ?_
        refine bc_br_i (fun c => ?_) (fun c => ?_)
        rotate_left
        · refine t_X11_bears hNs hW m0 hm ?_
          refine bc_ob_i (by first | omega | decide | (constructor <;> omega) | (constructor <;> constructor <;> omega)) ?_
          refine bc_br_i (fun c => ?_) (fun c => ?_)
          · refine t_X11_costOf hNs hW m0 hm ?_
            exact T95 _ y (by omega)
          · exact T95 0 y (by decide)
        · exact T95 99999 y (by decide)
      refine hK.2 _ _ [(0, bc_R 218), (1, bc_I u), (2, bc_I v), (3, bc_I l), (4, bc_I i), (5, bc_I m)] _ _ _ (ls_ _ _) ?_
      refine hK.1 [16, 26, 63] 60 _ _ _ _ _ ?_
      refine bc_ob_i (by first | omega | decide | (constructor <;> omega) | (constructor <;> constructor <;> omega)) ?_
      refine bc_ob_i (by first | omega | decide | (constructor <;> omega) | (constructor <;> constructor <;> omega)) ?_
      refine bc_br_i (fun _ => ?_) (fun c => absurd (by omega) c)
      refine t_X11_ofM 21 hNs hW m0 hm (by decide) rfl ?_
      refine bc_ob_i (by first | omega | decide | (constructor <;> omega) | (constructor <;> constructor <;> omega)) ?_
      refine bc_br_i (fun c => ?_) (fun c => ?_)
      rotate_left
      · exact T63 0 (by decide)
      · refine t_X11_ofM 18 hNs hW m0 hm (by decide) rfl ?_
        refine bc_ob_i (by first | omega | decide | (constructor <;> omega) | (constructor <;> constructor <;> omega)) ?_
        refine bc_br_i (fun c => ?_) (fun c => ?_)
        · exact T63 0 (by decide)
        · exact T63 1 (by decide)
  have L : ∀ i : Int, ∀ (s : bc_M) (z : bc_LV), 0 ≤ i → i ≤ 8 → (∀ j : Int, 0 ≤ j → j < 8 → 0 ≤ s.1 223 j ∧ s.1 223 j ≤ 99999) → fr_ (fun k => k = 223) σ s → K 16 ([(0, bc_R 218), (1, bc_I u), (2, bc_I v), (3, bc_I l), (4, bc_I i)] ++ z) [] s 0 := by
    refine up_ind 8 (fun i hi s z i0 i1 ha F => ?_) (fun i hi ih s z i0 i1 ha F => ?_)
    · have ei : i = 8 := by omega
      subst ei
      refine hK.2 _ _ [(0, bc_R 218), (1, bc_I u), (2, bc_I v), (3, bc_I l), (4, bc_I 8)] _ _ _ (ls_ _ _) ?_
      refine hK.1 [16] 60 _ _ _ _ _ ?_
      refine bc_ob_i (by decide) ?_
      refine bc_br_i (fun c => absurd c (by decide)) (fun _ => ?_)
      refine bc_ob_i b0 ?_
      exact f s _ (ha v b0.1 b0.2) F
    · refine hK.2 _ _ [(0, bc_R 218), (1, bc_I u), (2, bc_I v), (3, bc_I l), (4, bc_I i)] _ _ _ (ls_ _ _) ?_
      refine hK.1 [16, 26] 60 _ _ _ _ _ ?_
      refine bc_ob_i (by first | omega | decide | (constructor <;> omega) | (constructor <;> constructor <;> omega)) ?_
      refine bc_br_i (fun _ => ?_) (fun c => absurd (by omega) c)
      exact Lm i (fun s' z' h1 h2 => ih s' z' (by omega) (by omega) h1 h2) 0 s [] (by decide) w3.1 ha F
  refine hK.1 [16] 60 _ _ _ _ _ ?_
  refine t_X11_fills (fun σ1 h1 f1 => ?_)
  refine bc_ob_i a0 ?_
  refine L 0 _ [] (by decide) (by decide) (bd_wr (fun j j0 j1 => ?_) (by decide)) (fr_trans f1 (fr_wr rfl))
  have := h1 j j0 j1
  omega
theorem t_X11_affords {u v : Int} (hN : nw_ σ 219 q) (hW : wf_M q) (hT : wf_T B q) (hB : B ≤ 1000000) (a0 : 0 ≤ u ∧ u < 8) (b0 : 0 ≤ v ∧ v < 8) (f : ∀ σ' x, (0 ≤ x ∧ x ≤ 99) → fr_ (fun k => k = 223) σ σ' → Rr (some (bc_I x)) σ') : bc_Sem g (d + 7) mX11_affords [bc_R 218, bc_I u, bc_I v] σ Rr X := by
  obtain ⟨T0, T1, T2, T4, T5, T6, T7, Ts, T8, T9, T10, Te, -⟩ := hT
  refine e_X11_affords rfl (fun K hK => ?_)
  have L : ∀ i : Int, ∀ (s : bc_M), 0 ≤ i → i ≤ 99 → fr_ (fun k => k = 223) σ s → K 3 [(0, bc_R 218), (1, bc_I u), (2, bc_I v), (3, bc_I (99 - i))] [] s 0 := by
    refine up_ind 99 (fun i hi s i0 i1 F => ?_) (fun i hi ih s i0 i1 F => ?_)
    · have ei : i = 99 := by omega
      subst ei
      refine hK.1 [3] 60 _ _ _ _ _ ?_
      refine bc_ob_i (by decide) ?_
      refine bc_br_i (fun c => ?_) (fun c => ?_)
      · first | exact f s _ (by decide) F | exact absurd c (by decide)
      · first | exact f s _ (by decide) F | exact absurd c (by decide)
    · have hNs := nw_fr hN F (by decide)
      have e1 := hNs 1 (by decide) (by decide)
      have fin := f s (99 - i) (by omega)
      refine hK.1 [3] 60 _ _ _ _ _ ?_
      refine bc_ob_i (by first | omega | decide | (constructor <;> omega) | (constructor <;> constructor <;> omega)) ?_
      refine bc_br_i (fun c => ?_) (fun c => ?_)
      rotate_left
      · exact absurd c (by omega)
      · refine t_X11_costFor hNs hW a0 b0 (by omega) (fun s2 x lx F2 => ?_)
        have e1 := (nw_fr hNs F2 (by decide)) 1 (by decide) (by decide)
        have ea : (99 : Int) - (i + 1) = 99 - i + -1 := by omega
        have go := ih s2 (by omega) (by omega) (fr_trans F F2)
        rw [ea] at go
        have fin := f s2 (99 - i) (by omega) (fr_trans F F2)
        refine bc_ob_i (by decide) ?_
        refine bc_ob_i (by rw [e1]; constructor <;> constructor <;> omega) ?_
        refine bc_br_i (fun c => ?_) (fun c => ?_)
        · first | exact fin | exact go
        · first | exact fin | exact go
  refine hK.1 [3] 60 _ _ _ _ _ ?_
  exact L 0 σ (by decide) (by decide) (fr_refl _)
theorem t_X11_asksAffordable {u v : Int} (hN : nw_ σ 219 q) (hW : wf_M q) (hT : wf_T B q) (hB : B ≤ 1000000) (ha : bc_in u) (hb : bc_in v) (f : ∀ t x σ', (0 ≤ t ∧ t ≤ 3) → (0 ≤ x ∧ x ≤ 99) → roc_ t σ σ' → Rr (some (bc_I x)) σ') : bc_Sem g (d + 8) mX11_asksAffordable [bc_R 218, bc_I u, bc_I v] σ Rr X := by
  refine e_X11_asksAffordable rfl (fun K hK => ?_)
  have T53 : ∀ (s : bc_M) (x3 x4 y c : Int), (0 ≤ x3 ∧ x3 ≤ 1) → (0 ≤ x4 ∧ x4 ≤ 1) → (0 ≤ y ∧ y ≤ 1) → (0 ≤ c ∧ c ≤ 99) → fr_ (fun k => k = 223) σ s → K 53 [(0, bc_R 218), (1, bc_I u), (2, bc_I v), (3, bc_I x3), (4, bc_I x4), (5, bc_I c)] [bc_I y, bc_I x4, bc_I x3, bc_R 218] s 0 := by
    intro s x3 x4 y c l3 l4 ly lc F
    have lh := ho_3 x3 x4 y
    refine hK.1 [] 60 _ _ _ _ _ ?_
    refine t_X11_holds l3 l4 ly (by decide) ?_
    have R := roc_tr F (by decide) (fun k hk => .inl hk) (roc_wr (σ := s) (v := ho_ x3 x4 y 1) rfl)
    by_cases e : ho_ x3 x4 y 1 = 0
    · rw [if_pos e]
      refine bc_ob_i (by decide) ?_
      refine bc_br_i (fun c => absurd c (by decide)) (fun _ => ?_)
      exact f _ c _ lh lc R
    · rw [if_neg e]
      refine bc_ob_i (by decide) ?_
      refine bc_br_i (fun _ => ?_) (fun c => absurd (by decide) c)
      exact f _ 0 _ lh (by decide) R
  have T37 : ∀ (s : bc_M) (x3 x4 c : Int), (0 ≤ x3 ∧ x3 ≤ 1) → (0 ≤ x4 ∧ x4 ≤ 1) → (0 ≤ c ∧ c ≤ 99) → fr_ (fun k => k = 223) σ s → K 37 [(0, bc_R 218), (1, bc_I u), (2, bc_I v), (3, bc_I x3), (4, bc_I x4)] [bc_I c] s 0 := by
    intro s x3 x4 c l3 l4 lc F
    refine hK.1 [53] 60 _ _ _ _ _ ?_
    refine bc_ob_i (by first | omega | decide | (constructor <;> omega) | (constructor <;> constructor <;> omega)) ?_
    refine bc_br_i (fun k => ?_) (fun k => ?_)
    · exact T53 s x3 x4 1 c l3 l4 (by decide) lc F
    · exact T53 s x3 x4 0 c l3 l4 (by decide) lc F
  refine hK.1 [37] 80 _ _ _ _ _ ?_
  refine t_X11_areJoints ha hb ?_
  by_cases c : (0 ≤ u ∧ u < 8) ∧ 0 ≤ v ∧ v < 8
  · rw [if_pos c]
    refine bc_ob_i (by decide) ?_
    refine bc_br_i (fun c => absurd c (by decide)) (fun _ => ?_)
    refine bc_ob_i ⟨ha, hb⟩ ?_
    refine bc_br_i (fun e => ?_) (fun e => ?_)
    · refine bc_ob_i (by decide) ?_
      refine bc_br_i (fun _ => ?_) (fun c => absurd (by decide) c)
      exact T37 σ 1 0 0 (by decide) (by decide) (by decide) (fr_refl _)
    · refine bc_ob_i (by decide) ?_
      refine bc_br_i (fun c => absurd c (by decide)) (fun _ => ?_)
      refine t_X11_affords hN hW hT hB c.1 c.2 (fun s x lx F => ?_)
      exact T37 s 1 1 x (by decide) (by decide) lx F
  · rw [if_neg c]
    refine bc_ob_i (by decide) ?_
    refine bc_br_i (fun _ => ?_) (fun c => absurd (by decide) c)
    refine bc_ob_i (by decide) ?_
    refine bc_br_i (fun _ => ?_) (fun c => absurd (by decide) c)
    exact T37 σ 0 0 0 (by decide) (by decide) (by decide) (fr_refl _)
theorem t_X11_affordableLoad {u v : Int} (hN : nw_ σ 219 q) (hW : wf_M q) (hT : wf_T B q) (hB : B ≤ 1000000) (ha : bc_in u) (hb : bc_in v) (f : ∀ t x σ', (0 ≤ t ∧ t ≤ 3) → (0 ≤ x ∧ x ≤ 99) → roc_ t σ σ' → Rr (some (bc_I x)) σ') : bc_Sem g (d + 9) mX11_affordableLoad [bc_R 218, bc_I u, bc_I v] σ Rr X := by
  refine e_X11_affordableLoad rfl (fun K hK => ?_)
  refine hK.1 [] 60 _ _ _ _ _ ?_
  exact t_X11_asksAffordable hN hW hT hB ha hb f
theorem t_X11_affordableLoadByTable {u v : Int} (hN : nw_ σ 219 q) (hW : wf_M q) (hT : wf_T B q) (hB : B ≤ 1000000) (ha : bc_in u) (hb : bc_in v) (f : ∀ t x σ', (0 ≤ t ∧ t ≤ 3) → (0 ≤ x ∧ x ≤ 99) → roc_ t σ σ' → Rr (some (bc_I x)) σ') : bc_Sem g (d + 9) mX11_affordableLoadByTable [bc_R 218, bc_I u, bc_I v] σ Rr X := by
  refine e_X11_affordableLoadByTable rfl (fun K hK => ?_)
  refine hK.1 [] 60 _ _ _ _ _ ?_
  exact t_X11_asksAffordable hN hW hT hB ha hb f
end REF
end
section
/-! floats: what is no NaN stays none -/
noncomputable def fg3_ (z : FP.Core.Datum) : Prop := z ≠ .nan ∧ ∀ s c q, z = .fin s c q → c < 16777216 ∧ -149 ≤ q ∧ q ≤ 104
noncomputable def fg6_ (z : FP.Core.Datum) : Prop := z ≠ .nan ∧ ∀ s c q, z = .fin s c q → c < 9007199254740992 ∧ -1074 ≤ q ∧ q ≤ 971
theorem fg3_inf (s : Bool) : fg3_ (.inf s) := ⟨(fun e => by cases e), (fun _ _ _ e => by cases e)⟩
theorem fg6_inf (s : Bool) : fg6_ (.inf s) := ⟨(fun e => by cases e), (fun _ _ _ e => by cases e)⟩
theorem fg3_fin {s : Bool} {c : Nat} {q : Int} (h : c < 16777216 ∧ -149 ≤ q ∧ q ≤ 104) : fg3_ (.fin s c q) := ⟨(fun e => by cases e), (fun _ _ _ e => by cases e; exact h)⟩
theorem fg6_fin {s : Bool} {c : Nat} {q : Int} (h : c < 9007199254740992 ∧ -1074 ≤ q ∧ q ≤ 971) : fg6_ (.fin s c q) := ⟨(fun e => by cases e), (fun _ _ _ e => by cases e; exact h)⟩
theorem fg3_rr (s : Bool) (a b : Nat) (e : Int) : fg3_ (FP.Core.roundRatio FP.Core.b32 s a b e) := by
  unfold FP.Core.roundRatio
  split
  · exact fg3_fin ⟨by decide, by decide, by decide⟩
  · have hq : -149 ≤ FP.Core.quantum FP.Core.b32 a b e := by
      unfold FP.Core.quantum
      have : FP.Core.Fmt.qmin FP.Core.b32 = -149 := by decide
      omega
    have hm : FP.Core.Fmt.qmax FP.Core.b32 = 104 := by decide
    have hp : 2 ^ FP.Core.b32.p = 16777216 := by decide
    unfold FP.Core.roundAt FP.Core.settle FP.Core.bound
    rw [hm, hp]
    split
    · split
      · exact fg3_fin ⟨by assumption, hq, by assumption⟩
      · exact fg3_inf _
    · split
      · exact fg3_fin ⟨by decide, by omega, by assumption⟩
      · exact fg3_inf _
theorem fg6_rr (s : Bool) (a b : Nat) (e : Int) : fg6_ (FP.Core.roundRatio FP.Core.b64 s a b e) := by
  unfold FP.Core.roundRatio
  split
  · exact fg6_fin ⟨by decide, by decide, by decide⟩
  · have hq : -1074 ≤ FP.Core.quantum FP.Core.b64 a b e := by
      unfold FP.Core.quantum
      have : FP.Core.Fmt.qmin FP.Core.b64 = -1074 := by decide
      omega
    have hm : FP.Core.Fmt.qmax FP.Core.b64 = 971 := by decide
    have hp : 2 ^ FP.Core.b64.p = 9007199254740992 := by decide
    unfold FP.Core.roundAt FP.Core.settle FP.Core.bound
    rw [hm, hp]
    split
    · split
      · exact fg6_fin ⟨by assumption, hq, by assumption⟩
      · exact fg6_inf _
    · split
      · exact fg6_fin ⟨by decide, by omega, by assumption⟩
      · exact fg6_inf _
theorem vn3_of {n : Nat} (h1 : n < 4294967296) (h2 : n % 2147483648 ≤ 2139095040) : vf_n32 (UInt32.ofNat n) := by
  have e : (UInt32.ofNat n).toNat = n := by rw [UInt32.toNat_ofNat']; exact Nat.mod_eq_of_lt h1
  show (UInt32.ofNat n) &&& 0x7fffffff ≤ 0x7f800000
  rw [UInt32.le_iff_toNat_le, UInt32.toNat_and, e]
  have h3 : n &&& (2 ^ 31 - 1) = n % 2 ^ 31 := Nat.and_two_pow_sub_one_eq_mod _ _
  have h4 : (0x7fffffff : UInt32).toNat = 2 ^ 31 - 1 := by decide
  rw [h4, h3]
  exact h2
theorem vn6_of {n : Nat} (h1 : n < 18446744073709551616) (h2 : n % 9223372036854775808 ≤ 9218868437227405312) : vf_n64 (UInt64.ofNat n) := by
  have e : (UInt64.ofNat n).toNat = n := by rw [UInt64.toNat_ofNat']; exact Nat.mod_eq_of_lt h1
  show (UInt64.ofNat n) &&& 0x7fffffffffffffff ≤ 0x7ff0000000000000
  rw [UInt64.le_iff_toNat_le, UInt64.toNat_and, e]
  have h3 : n &&& (2 ^ 63 - 1) = n % 2 ^ 63 := Nat.and_two_pow_sub_one_eq_mod _ _
  have h4 : (0x7fffffffffffffff : UInt64).toNat = 2 ^ 63 - 1 := by decide
  rw [h4, h3]
  exact h2
theorem fg3_enc {z : FP.Core.Datum} (h : fg3_ z) : vf_n32 (UInt32.ofNat (FP.Core.encode FP.Core.b32 z)) := by
  cases z with
  | nan => exact absurd rfl h.1
  | inf s => cases s <;> exact vn3_of (by decide) (by decide)
  | fin s c q =>
    obtain ⟨h1, h2, h3⟩ := h.2 s c q rfl
    have ht : FP.Core.Fmt.tails FP.Core.b32 = 8388608 := by decide
    have hx : FP.Core.Fmt.exps FP.Core.b32 = 256 := by decide
    have hm : FP.Core.Fmt.qmin FP.Core.b32 = -149 := by decide
    have hs : s.toNat ≤ 1 := by cases s <;> decide
    show vf_n32 (UInt32.ofNat (if c < FP.Core.Fmt.tails FP.Core.b32 then FP.Core.assemble FP.Core.b32 s 0 c else FP.Core.assemble FP.Core.b32 s ((q - FP.Core.Fmt.qmin FP.Core.b32).toNat + 1) (c - FP.Core.Fmt.tails FP.Core.b32)))
    unfold FP.Core.assemble
    rw [ht, hx, hm]
    split
    · exact vn3_of (by omega) (by omega)
    · have : (q - -149).toNat ≤ 253 := by omega
      exact vn3_of (by omega) (by omega)
theorem fg6_enc {z : FP.Core.Datum} (h : fg6_ z) : vf_n64 (UInt64.ofNat (FP.Core.encode FP.Core.b64 z)) := by
  cases z with
  | nan => exact absurd rfl h.1
  | inf s => cases s <;> exact vn6_of (by decide) (by decide)
  | fin s c q =>
    obtain ⟨h1, h2, h3⟩ := h.2 s c q rfl
    have ht : FP.Core.Fmt.tails FP.Core.b64 = 4503599627370496 := by decide
    have hx : FP.Core.Fmt.exps FP.Core.b64 = 2048 := by decide
    have hm : FP.Core.Fmt.qmin FP.Core.b64 = -1074 := by decide
    have hs : s.toNat ≤ 1 := by cases s <;> decide
    show vf_n64 (UInt64.ofNat (if c < FP.Core.Fmt.tails FP.Core.b64 then FP.Core.assemble FP.Core.b64 s 0 c else FP.Core.assemble FP.Core.b64 s ((q - FP.Core.Fmt.qmin FP.Core.b64).toNat + 1) (c - FP.Core.Fmt.tails FP.Core.b64)))
    unfold FP.Core.assemble
    rw [ht, hx, hm]
    split
    · exact vn6_of (by omega) (by omega)
    · have : (q - -1074).toNat ≤ 2045 := by omega
      exact vn6_of (by omega) (by omega)
theorem fd3_ {x : UInt32} (h : vf_n32 x) : FP.Core.decode FP.Core.b32 x.toNat ≠ .nan := by
  have hb := jd_n31 h
  unfold FP.Core.decode
  split
  · rename_i hE
    have e1 : x.toNat / 8388608 % 256 = 255 := hE
    have e2 : FP.Core.fieldT FP.Core.b32 x.toNat = 0 := by
      show x.toNat % 8388608 = 0
      omega
    rw [if_pos e2]
    intro q
    cases q
  · split <;> (intro q; cases q)
theorem fd6_ {x : UInt64} (h : vf_n64 x) : FP.Core.decode FP.Core.b64 x.toNat ≠ .nan := by
  have hb : x.toNat % 9223372036854775808 ≤ 9218868437227405312 := by
    have h2 : (x &&& 0x7fffffffffffffff).toNat ≤ (0x7ff0000000000000 : UInt64).toNat := UInt64.le_iff_toNat_le.mp h
    rw [UInt64.toNat_and] at h2
    have h3 : x.toNat &&& (2 ^ 63 - 1) = x.toNat % 2 ^ 63 := Nat.and_two_pow_sub_one_eq_mod _ _
    have h4 : (0x7fffffffffffffff : UInt64).toNat = 2 ^ 63 - 1 := by decide
    rw [h4, h3] at h2
    exact h2
  unfold FP.Core.decode
  split
  · rename_i hE
    have e1 : x.toNat / 4503599627370496 % 2048 = 2047 := hE
    have e2 : FP.Core.fieldT FP.Core.b64 x.toNat = 0 := by
      show x.toNat % 4503599627370496 = 0
      omega
    rw [if_pos e2]
    intro q
    cases q
  · split <;> (intro q; cases q)
/-- a number other than zero -/
noncomputable def nz3_ (x : UInt32) : Bool := match FP.Core.decode FP.Core.b32 x.toNat with | .fin _ c _ => !(Nat.beq c 0) | _ => false
noncomputable def nz6_ (x : UInt64) : Bool := match FP.Core.decode FP.Core.b64 x.toNat with | .fin _ c _ => !(Nat.beq c 0) | _ => false
theorem nz3_e {x : UInt32} (h : nz3_ x = true) : ∃ s c q, FP.Core.decode FP.Core.b32 x.toNat = .fin s c q ∧ c ≠ 0 := by
  unfold nz3_ at h
  cases hq : FP.Core.decode FP.Core.b32 x.toNat with
  | nan => rw [hq] at h; cases h
  | inf s => rw [hq] at h; cases h
  | fin s c q =>
    rw [hq] at h
    refine ⟨s, c, q, rfl, fun e => ?_⟩
    rw [e] at h
    cases h
theorem nz6_e {x : UInt64} (h : nz6_ x = true) : ∃ s c q, FP.Core.decode FP.Core.b64 x.toNat = .fin s c q ∧ c ≠ 0 := by
  unfold nz6_ at h
  cases hq : FP.Core.decode FP.Core.b64 x.toNat with
  | nan => rw [hq] at h; cases h
  | inf s => rw [hq] at h; cases h
  | fin s c q =>
    rw [hq] at h
    refine ⟨s, c, q, rfl, fun e => ?_⟩
    rw [e] at h
    cases h
theorem vn_fdiv {x y : UInt32} (hx : vf_n32 x) (hy : nz3_ y = true) : vf_n32 (FP.fdiv x y) := by
  obtain ⟨t, c, r, e, hc⟩ := nz3_e hy
  have hn := fd3_ hx
  show vf_n32 (UInt32.ofNat (FP.Core.encode FP.Core.b32 (FP.Core.quotient FP.Core.b32 (FP.Core.decode FP.Core.b32 x.toNat) (FP.Core.decode FP.Core.b32 y.toNat))))
  rw [e]
  cases hq : FP.Core.decode FP.Core.b32 x.toNat with
  | nan => exact absurd hq hn
  | inf s => exact fg3_enc (fg3_inf _)
  | fin s k q =>
    refine fg3_enc ?_
    show fg3_ (if c = 0 then (if k = 0 then .nan else .inf (s != t)) else FP.Core.roundRatio FP.Core.b32 (s != t) k c (q - r))
    rw [if_neg hc]
    exact fg3_rr _ _ _ _
theorem vn_ddiv {x y : UInt64} (hx : vf_n64 x) (hy : nz6_ y = true) : vf_n64 (FP.ddiv x y) := by
  obtain ⟨t, c, r, e, hc⟩ := nz6_e hy
  have hn := fd6_ hx
  show vf_n64 (UInt64.ofNat (FP.Core.encode FP.Core.b64 (FP.Core.quotient FP.Core.b64 (FP.Core.decode FP.Core.b64 x.toNat) (FP.Core.decode FP.Core.b64 y.toNat))))
  rw [e]
  cases hq : FP.Core.decode FP.Core.b64 x.toNat with
  | nan => exact absurd hq hn
  | inf s => exact fg6_enc (fg6_inf _)
  | fin s k q =>
    refine fg6_enc ?_
    show fg6_ (if c = 0 then (if k = 0 then .nan else .inf (s != t)) else FP.Core.roundRatio FP.Core.b64 (s != t) k c (q - r))
    rw [if_neg hc]
    exact fg6_rr _ _ _ _
theorem vn_fmul {x y : UInt32} (hx : vf_n32 x) (hy : nz3_ y = true) : vf_n32 (FP.fmul x y) := by
  obtain ⟨t, c, r, e, hc⟩ := nz3_e hy
  have hn := fd3_ hx
  show vf_n32 (UInt32.ofNat (FP.Core.encode FP.Core.b32 (FP.Core.round FP.Core.b32 (FP.Core.exactProduct (FP.Core.decode FP.Core.b32 x.toNat) (FP.Core.decode FP.Core.b32 y.toNat)))))
  rw [e]
  cases hq : FP.Core.decode FP.Core.b32 x.toNat with
  | nan => exact absurd hq hn
  | inf s =>
    refine fg3_enc ?_
    show fg3_ (FP.Core.round FP.Core.b32 (if c = 0 then .nan else .inf (s != t)))
    rw [if_neg hc]
    exact fg3_inf _
  | fin s k q => exact fg3_enc (fg3_rr _ _ _ _)
theorem vn_fsub {x y : UInt32} (hx : vf_n32 x) (hy : nz3_ y = true) : vf_n32 (FP.fsub x y) := by
  obtain ⟨t, c, r, e, hc⟩ := nz3_e hy
  have hn := fd3_ hx
  show vf_n32 (UInt32.ofNat (FP.Core.encode FP.Core.b32 (FP.Core.round FP.Core.b32 (FP.Core.exactSum (FP.Core.decode FP.Core.b32 x.toNat) (FP.Core.negate (FP.Core.decode FP.Core.b32 y.toNat))))))
  rw [e]
  cases hq : FP.Core.decode FP.Core.b32 x.toNat with
  | nan => exact absurd hq hn
  | inf s => exact fg3_enc (fg3_inf _)
  | fin s k q => exact fg3_enc (fg3_rr _ _ _ _)
theorem vn_fneg {x : UInt32} (hx : vf_n32 x) : vf_n32 (FP.fneg x) := by
  have hb := jd_n31 hx
  show (x ^^^ 0x80000000) &&& 0x7fffffff ≤ 0x7f800000
  rw [UInt32.le_iff_toNat_le, UInt32.toNat_and, UInt32.toNat_xor]
  have h3 : (x.toNat ^^^ (0x80000000 : UInt32).toNat) &&& (2 ^ 31 - 1) = (x.toNat ^^^ (0x80000000 : UInt32).toNat) % 2 ^ 31 := Nat.and_two_pow_sub_one_eq_mod _ _
  have h4 : (0x7fffffff : UInt32).toNat = 2 ^ 31 - 1 := by decide
  have h5 : (0x80000000 : UInt32).toNat % 2 ^ 31 = 0 := by decide
  rw [h4, h3, Nat.xor_mod_two_pow, h5, Nat.xor_zero]
  exact hb
theorem vn_if_ (a : Int32) : vf_n32 (FP.i2f a) := fg3_enc (fg3_rr _ _ _ _)
theorem vn_id_ (a : Int32) : vf_n64 (FP.i2d a) := fg6_enc (fg6_rr _ _ _ _)
theorem vn_f2d {x : UInt32} (hx : vf_n32 x) : vf_n64 (FP.f2d x) := by
  have hn := fd3_ hx
  have hf : FP.Core.fIsNaN x = false := decide_eq_false hn
  unfold FP.f2d
  rw [hf, if_neg Bool.false_ne_true]
  show vf_n64 (UInt64.ofNat (FP.Core.encode FP.Core.b64 (FP.Core.round FP.Core.b64 (FP.Core.decode FP.Core.b32 x.toNat))))
  cases hq : FP.Core.decode FP.Core.b32 x.toNat with
  | nan => exact absurd hq hn
  | inf s => exact fg6_enc (fg6_inf _)
  | fin s c q => exact fg6_enc (fg6_rr _ _ _ _)
theorem nz3_t : (List.range 100).all (fun k => Nat.beq k 0 || nz3_ (FP.i2f (Int32.ofInt (k : Int)))) = true := by decide +kernel
theorem nz6_t : (List.range 17).all (fun k => Nat.beq k 0 || nz6_ (FP.i2d (Int32.ofInt (k : Int)))) = true := by decide +kernel
theorem nz3_i {a : Int} (h0 : 1 ≤ a) (h1 : a ≤ 99) : nz3_ (FP.i2f (Int32.ofInt a)) = true := by
  have h := List.all_eq_true.mp nz3_t a.toNat (List.mem_range.mpr (by omega))
  rw [Bool.or_eq_true] at h
  rcases h with h | h
  · have := Nat.eq_of_beq_eq_true h
    omega
  · rw [show ((a.toNat : Nat) : Int) = a by omega] at h
    exact h
theorem nz6_i {a : Int} (h0 : 1 ≤ a) (h1 : a ≤ 16) : nz6_ (FP.i2d (Int32.ofInt a)) = true := by
  have h := List.all_eq_true.mp nz6_t a.toNat (List.mem_range.mpr (by omega))
  rw [Bool.or_eq_true] at h
  rcases h with h | h
  · have := Nat.eq_of_beq_eq_true h
    omega
  · rw [show ((a.toNat : Nat) : Int) = a by omega] at h
    exact h
theorem nz3_one : nz3_ FP.fconst1 = true := by decide +kernel
theorem nz3_two : nz3_ FP.fconst2 = true := by decide +kernel
theorem nz3_big : nz3_ 1258291200 = true := by decide +kernel
end
section
/-! the reference's floats -/
noncomputable def stt_ (q : rw_t) (m : Int) : Int := if ¬ (0 ≤ m ∧ m < q 3) then 1 else if ¬ 0 < br_ q m then 2 else 0
noncomputable def stv_ (q : rw_t) (m l : Int) : UInt32 := FP.fdiv (FP.i2f (Int32.ofInt l)) (FP.i2f (Int32.ofInt (br_ q m)))
theorem stt_le (q : rw_t) (m : Int) : 0 ≤ stt_ q m ∧ stt_ q m ≤ 2 := by
  unfold stt_
  (repeat' split) <;> omega
theorem stt_0 {q : rw_t} {m : Int} (h : stt_ q m = 0) : (0 ≤ m ∧ m < q 3) ∧ 0 < br_ q m := by
  unfold stt_ at h
  by_cases c : 0 ≤ m ∧ m < q 3
  · rw [if_neg (fun k => k c)] at h
    by_cases e : 0 < br_ q m
    · exact ⟨c, e⟩
    · rw [if_pos e] at h
      exact absurd h (by decide)
  · rw [if_pos c] at h
    exact absurd h (by decide)
theorem stv_n {q : rw_t} (hW : wf_M q) {m : Int} (l : Int) (h : stt_ q m = 0) : vf_n32 (stv_ q m l) := by
  obtain ⟨⟨m0, m1⟩, hb⟩ := stt_0 h
  have w3 := hW.1
  have lb := br_le hW m0 (by omega : m < 16)
  exact vn_fdiv (vn_if_ _) (nz3_i (by omega) (by omega))
section REF
variable {g : bc_C} {d : Nat} {σ : bc_M} {q b : rw_t} {h : List rw_t} {Rr : Option bc_A → bc_M → Prop} {X : Nat → bc_M → Prop} {B : Int}
theorem t_X11_strains {m l : Int} (hN : nw_ σ 219 q) (hW : wf_M q) (hm : bc_in m) (f1 : stt_ q m ≠ 0 → ∀ σ', roc_ (stt_ q m) σ σ' → Rr (some (bc_F FP.fconst0)) σ') (f0 : stt_ q m = 0 → ∀ σ', roc_ 0 σ σ' → Rr (some (bc_F (stv_ q m l))) σ') : bc_Sem g (d + 6) mX11_strains [bc_R 218, bc_I m, bc_I l] σ Rr X := by
  have w3 := hW.1
  refine e_X11_strains rfl (fun K hK => ?_)
  have T25 : ∀ x y : Int, (x = if 0 ≤ m ∧ m < q 3 then 1 else 0) → (y = if stt_ q m = 0 then 1 else 0) → ho_ x y 1 1 = stt_ q m → K 25 [(0, bc_R 218), (1, bc_I m), (2, bc_I l), (3, bc_I x)] [bc_I y, bc_I x, bc_R 218] σ 0 := by
    intro x y hx hy ht
    have lx : 0 ≤ x ∧ x ≤ 1 := by rw [hx]; split <;> omega
    have ly : 0 ≤ y ∧ y ≤ 1 := by rw [hy]; split <;> omega
    refine hK.1 [] 60 _ _ _ _ _ ?_
    refine t_X11_holds lx ly (by decide) (by decide) ?_
    rw [ht]
    have R : roc_ (stt_ q m) σ (bc_wr σ 218 ((14 : Nat) : Int) (stt_ q m)) := roc_wr rfl
    generalize bc_wr σ 218 ((14 : Nat) : Int) (stt_ q m) = s at R ⊢
    by_cases e : stt_ q m = 0
    · obtain ⟨⟨m0, m1⟩, hb⟩ := stt_0 e
      have fin := f0 e s (by rw [e] at R; exact R)
      rw [if_pos e]
      refine bc_ob_i (by decide) ?_
      refine bc_br_i (fun c => absurd c (by decide)) (fun _ => ?_)
      refine t_X11_bears (nw_fr hN R.2.1 (by decide)) hW m0 m1 ?_
      refine bc_ob_i (stv_n hW l e) ?_
      exact fin
    · have fin := f1 e s R
      rw [if_neg e]
      refine bc_ob_i (by decide) ?_
      refine bc_br_i (fun _ => ?_) (fun c => absurd (by decide) c)
      exact fin
  refine hK.1 [25] 80 _ _ _ _ _ ?_
  refine t_X11_isMember hN w3 hm ?_
  by_cases c : 0 ≤ m ∧ m < q 3
  · have lb := br_le hW c.1 (by omega : m < 16)
    rw [if_pos c]
    refine bc_ob_i (by decide) ?_
    refine bc_br_i (fun c => absurd c (by decide)) (fun _ => ?_)
    refine t_X11_bears hN hW c.1 c.2 ?_
    refine bc_ob_i (by first | omega | decide | (constructor <;> omega) | (constructor <;> constructor <;> omega)) ?_
    refine bc_br_i (fun e => ?_) (fun e => ?_)
    rotate_left
    · have t2 : stt_ q m = 2 := by
        unfold stt_
        rw [if_neg (fun k => k c), if_pos (by omega)]
      exact T25 1 0 (if_pos c).symm (by rw [t2]; rfl) (by rw [t2]; rfl)
    · have t2 : stt_ q m = 0 := by
        unfold stt_
        rw [if_neg (fun k => k c), if_neg (by omega)]
      exact T25 1 1 (if_pos c).symm (by rw [t2]; rfl) (by rw [t2]; rfl)
  · rw [if_neg c]
    refine bc_ob_i (by decide) ?_
    refine bc_br_i (fun _ => ?_) (fun c => absurd (by decide) c)
    have t2 : stt_ q m = 1 := by
      unfold stt_
      rw [if_pos c]
    exact T25 0 0 (if_neg c).symm (by rw [t2]; rfl) (by rw [t2]; rfl)
theorem t_X11_strain {m l : Int} (hN : nw_ σ 219 q) (hW : wf_M q) (hm : bc_in m) (f1 : stt_ q m ≠ 0 → ∀ σ', roc_ (stt_ q m) σ σ' → Rr (some (bc_F FP.fconst0)) σ') (f0 : stt_ q m = 0 → ∀ σ', roc_ 0 σ σ' → Rr (some (bc_F (stv_ q m l))) σ') : bc_Sem g (d + 7) mX11_strain [bc_R 218, bc_I m, bc_I l] σ Rr X := by
  refine e_X11_strain rfl (fun K hK => ?_)
  refine hK.1 [] 60 _ _ _ _ _ ?_
  exact t_X11_strains hN hW hm f1 f0
theorem t_X11_strainBits {m l : Int} (hN : nw_ σ 219 q) (hW : wf_M q) (hm : bc_in m) (f1 : stt_ q m ≠ 0 → ∀ σ', roc_ (stt_ q m) σ σ' → Rr (some (bc_I 0)) σ') (f0 : stt_ q m = 0 → ∀ σ', roc_ 0 σ σ' → Rr (some (bc_I (stv_ q m l).toInt32.toInt)) σ') : bc_Sem g (d + 7) mX11_strainBits [bc_R 218, bc_I m, bc_I l] σ Rr X := by
  have lt := stt_le q m
  refine e_X11_strainBits rfl (fun K hK => ?_)
  refine hK.1 [] 60 _ _ _ _ _ ?_
  refine t_X11_strains hN hW hm (fun e s R => ?_) (fun e s R => ?_)
  · have t := R.1
    have fin := f1 e s R
    refine bc_ob_i (by constructor <;> omega) ?_
    refine bc_br_i (fun k => absurd k (by omega)) (fun _ => ?_)
    exact fin
  · have t := R.1
    have fin := f0 e s R
    refine bc_ob_i (by constructor <;> omega) ?_
    refine bc_br_i (fun _ => ?_) (fun k => absurd t k)
    refine bc_ob_i ⟨stv_n hW l e, Nat.le_of_ble_eq_true rfl⟩ ?_
    exact fin
theorem t_X11_meanBearing (hN : nw_ σ 219 q) (hW : wf_M q) (f1 : q 3 = 0 → ∀ σ', roc_ 1 σ σ' → Rr (some (bc_D FP.dconst0)) σ') (f0 : 0 < q 3 → ∀ σ', roc_ 0 σ σ' → Rr (some (bc_D (FP.ddiv (FP.i2d (Int32.ofInt (sm_ (fun k => br_ q k) (q 3).toNat))) (FP.i2d (Int32.ofInt (q 3)))))) σ') : bc_Sem g (d + 6) mX11_meanBearing [bc_R 218] σ Rr X := by
  have w3 := hW.1
  have e3 := hN 3 (by decide) (by decide)
  refine e_X11_meanBearing rfl (fun K hK => ?_)
  have T43 : ∀ y : Int, (y = if 0 < q 3 then 1 else 0) → ∀ z : bc_LV, K 43 ([(0, bc_R 218), (1, bc_I (sm_ (fun k => br_ q k) (q 3).toNat))] ++ z) [bc_I y, bc_R 218] σ 0 := by
    intro y hy z
    refine hK.2 _ _ [(0, bc_R 218), (1, bc_I (sm_ (fun k => br_ q k) (q 3).toNat))] _ _ _ (ls_ _ _) ?_
    refine hK.1 [] 60 _ _ _ _ _ ?_
    by_cases c : 0 < q 3
    · rw [if_pos c] at hy
      subst hy
      refine t_X11_goes (by decide) ?_
      have R : roc_ 0 σ (bc_wr σ 218 ((14 : Nat) : Int) (1 - 1)) := roc_wr (by decide)
      generalize bc_wr σ 218 ((14 : Nat) : Int) (1 - 1) = s at R ⊢
      have E3 := (nw_fr hN R.2.1 (by decide)) 3 (by decide) (by decide)
      have fin := f0 c s R
      refine bc_ob_i (by decide) ?_
      refine bc_br_i (fun c => absurd c (by decide)) (fun _ => ?_)
      refine bc_ob_i (by decide) ?_
      refine bc_ob_i (vn_ddiv (vn_id_ _) (nz6_i (by omega) (by omega))) ?_
      rw [E3]
      exact fin
    · rw [if_neg c] at hy
      subst hy
      refine t_X11_goes (by decide) ?_
      refine bc_ob_i (by decide) ?_
      refine bc_br_i (fun _ => ?_) (fun c => absurd (by decide) c)
      exact f1 (by omega) _ (roc_wr (by decide))
  have L : ∀ i : Int, 0 ≤ i → i ≤ q 3 → K 4 [(0, bc_R 218), (1, bc_I (sm_ (fun k => br_ q k) i.toNat)), (2, bc_I i)] [] σ 0 := by
    refine up_ind (q 3) (fun i hi i0 i1 => ?_) (fun i hi ih i0 i1 => ?_)
    · have e : i = q 3 := by omega
      subst e
      refine hK.1 [4, 43] 60 _ _ _ _ _ ?_
      refine bc_ob_i (by first | omega | decide | (constructor <;> omega) | (constructor <;> constructor <;> omega)) ?_
      refine bc_ob_i (by first | omega | decide | (constructor <;> omega) | (constructor <;> constructor <;> omega)) ?_
      refine bc_br_i (fun c => absurd c (by omega)) (fun _ => ?_)
      refine bc_ob_i (by first | omega | decide | (constructor <;> omega) | (constructor <;> constructor <;> omega)) ?_
      refine bc_ob_i (by first | omega | decide | (constructor <;> omega) | (constructor <;> constructor <;> omega)) ?_
      refine bc_br_i (fun c => ?_) (fun c => ?_)
      · exact T43 1 (if_pos (by omega)).symm [(2, bc_I (q 3))]
      · exact T43 0 (if_neg (by omega)).symm [(2, bc_I (q 3))]
    · rw [sm_s i0] at ih
      refine hK.1 [4] 60 _ _ _ _ _ ?_
      refine bc_ob_i (by first | omega | decide | (constructor <;> omega) | (constructor <;> constructor <;> omega)) ?_
      refine bc_ob_i (by first | omega | decide | (constructor <;> omega) | (constructor <;> constructor <;> omega)) ?_
      refine bc_br_i (fun _ => ?_) (fun c => absurd (by omega) c)
      refine t_X11_bears hN hW i0 hi ?_
      exact ih (by omega) (by omega)
  refine hK.1 [4] 60 _ _ _ _ _ ?_
  exact L 0 (Int.le_refl 0) w3.1
theorem t_X11_crackedShare (hN : nw_ σ 219 q) (hW : wf_M q) (f1 : q 3 = 0 → ∀ σ', roc_ 1 σ σ' → Rr (some (bc_F FP.fconst0)) σ') (f0 : 0 < q 3 → ∀ σ', roc_ 0 σ σ' → Rr (some (bc_F (FP.fdiv (FP.i2f (Int32.ofInt (sm_ (fun k => if 0 < q (19 + 6 * k) then 1 else 0) (q 3).toNat))) (FP.i2f (Int32.ofInt (q 3)))))) σ') : bc_Sem g (d + 5) mX11_crackedShare [bc_R 218] σ Rr X := by
  have w3 := hW.1
  have e3 := hN 3 (by decide) (by decide)
  refine e_X11_crackedShare rfl (fun K hK => ?_)
  have T52 : ∀ y : Int, (y = if 0 < q 3 then 1 else 0) → ∀ z : bc_LV, K 52 ([(0, bc_R 218), (1, bc_I (sm_ (fun k => if 0 < q (19 + 6 * k) then 1 else 0) (q 3).toNat))] ++ z) [bc_I y, bc_R 218] σ 0 := by
    intro y hy z
    refine hK.2 _ _ [(0, bc_R 218), (1, bc_I (sm_ (fun k => if 0 < q (19 + 6 * k) then 1 else 0) (q 3).toNat))] _ _ _ (ls_ _ _) ?_
    refine hK.1 [] 60 _ _ _ _ _ ?_
    by_cases c : 0 < q 3
    · rw [if_pos c] at hy
      subst hy
      refine t_X11_goes (by decide) ?_
      have R : roc_ 0 σ (bc_wr σ 218 ((14 : Nat) : Int) (1 - 1)) := roc_wr (by decide)
      generalize bc_wr σ 218 ((14 : Nat) : Int) (1 - 1) = s at R ⊢
      have E3 := (nw_fr hN R.2.1 (by decide)) 3 (by decide) (by decide)
      have fin := f0 c s R
      refine bc_ob_i (by decide) ?_
      refine bc_br_i (fun c => absurd c (by decide)) (fun _ => ?_)
      refine bc_ob_i (by decide) ?_
      refine bc_ob_i (vn_fdiv (vn_if_ _) (nz3_i (by omega) (by omega))) ?_
      rw [E3]
      exact fin
    · rw [if_neg c] at hy
      subst hy
      refine t_X11_goes (by decide) ?_
      refine bc_ob_i (by decide) ?_
      refine bc_br_i (fun _ => ?_) (fun c => absurd (by decide) c)
      exact f1 (by omega) _ (roc_wr (by decide))
  have L : ∀ i : Int, 0 ≤ i → i ≤ q 3 → K 4 [(0, bc_R 218), (1, bc_I (sm_ (fun k => if 0 < q (19 + 6 * k) then 1 else 0) i.toNat)), (2, bc_I i)] [] σ 0 := by
    refine up_ind (q 3) (fun i hi i0 i1 => ?_) (fun i hi ih i0 i1 => ?_)
    · have e : i = q 3 := by omega
      subst e
      refine hK.1 [4, 52] 60 _ _ _ _ _ ?_
      refine bc_ob_i (by first | omega | decide | (constructor <;> omega) | (constructor <;> constructor <;> omega)) ?_
      refine bc_ob_i (by first | omega | decide | (constructor <;> omega) | (constructor <;> constructor <;> omega)) ?_
      refine bc_br_i (fun c => absurd c (by omega)) (fun _ => ?_)
      refine bc_ob_i (by first | omega | decide | (constructor <;> omega) | (constructor <;> constructor <;> omega)) ?_
      refine bc_ob_i (by first | omega | decide | (constructor <;> omega) | (constructor <;> constructor <;> omega)) ?_
      refine bc_br_i (fun c => ?_) (fun c => ?_)
      · exact T52 1 (if_pos (by omega)).symm [(2, bc_I (q 3))]
      · exact T52 0 (if_neg (by omega)).symm [(2, bc_I (q 3))]
    · obtain ⟨g0, g1, g2, g3, g4, g5⟩ := hW.2 i i0 (by omega)
      rw [sm_s i0] at ih
      refine hK.1 [4] 60 _ _ _ _ _ ?_
      refine bc_ob_i (by first | omega | decide | (constructor <;> omega) | (constructor <;> constructor <;> omega)) ?_
      refine bc_ob_i (by first | omega | decide | (constructor <;> omega) | (constructor <;> constructor <;> omega)) ?_
      refine bc_br_i (fun _ => ?_) (fun c => absurd (by omega) c)
      refine t_X11_ofM 19 hN hW i0 hi (by decide) rfl ?_
      refine bc_ob_i (by first | omega | decide | (constructor <;> omega) | (constructor <;> constructor <;> omega)) ?_
      refine bc_br_i (fun c => ?_) (fun c => ?_)
      · rw [if_pos (by omega)] at ih
        exact ih (by omega) (by omega)
      · rw [if_neg (by omega)] at ih
        exact ih (by omega) (by omega)
  refine hK.1 [4] 60 _ _ _ _ _ ?_
  exact L 0 (Int.le_refl 0) w3.1
end REF
end
section
/-! the class's floats -/
theorem i3i_ (x : Int32) : bc_in x.toInt := by
  have h1 := Int32.le_toInt x
  have h2 := Int32.toInt_lt x
  constructor <;> omega
section FLO
variable {g : bc_C} {d : Nat} {σ : bc_M} {B : Int} {v : cs_t} {Rr : Option bc_A → bc_M → Prop} {X : Nat → bc_M → Prop}
theorem t_X10_strainOf {m l : Int} (hF : fa_ B σ v) (m0 : 0 ≤ m) (m1 : m < (c_r v) 3) (hb : 0 < br_ (c_r v) m) (h : Rr (some (bc_F (stv_ (c_r v) m l))) σ) : bc_Sem g (d + 2) mX10_strainOf [bc_R 0, bc_I m, bc_I l] σ Rr X := by
  have w0 := hF.1.1.2.1.1
  have lb := br_le hF.1.1.2.1 m0 (by omega : m < 16)
  refine e_X10_strainOf rfl (fun K hK => ?_)
  refine hK.1 [] 60 _ _ _ _ _ ?_
  refine t_X2_bearingOf hF.1.1.1.1 hF.1.1.2.1 m0 (by omega) ?_
  refine bc_ob_i (by first | omega | decide | (constructor <;> omega) | (constructor <;> constructor <;> omega)) ?_
  refine bc_br_i (fun c => absurd c (by omega)) (fun _ => ?_)
  refine bc_ob_i (vn_fdiv (vn_if_ _) (nz3_i (by omega) (by omega))) ?_
  exact h
theorem t_X10_strain {m l : Int} (hF : fa_ B σ v) (hm : bc_in m) (h1 : ∀ e : Nat, tq_ (c_r v) m = e + 1 → X e σ) (h0 : tq_ (c_r v) m = 0 → Rr (some (bc_F (stv_ (c_r v) m l))) σ) : bc_Sem g (d + 3) mX10_strain [bc_R 0, bc_I m, bc_I l] σ Rr X := by
  have w0 := hF.1.1.2.1.1
  have hl : 0 ≤ tq_ (c_r v) m ∧ tq_ (c_r v) m ≤ 6 := by unfold tq_; (repeat' split) <;> omega
  refine e_X10_strain rfl (fun K hK => ?_)
  refine hK.1 [] 60 _ _ _ _ _ ?_
  refine t_X10_strainFault hF hm ?_
  refine t_X10_refuse hl.1 hl.2 (fun e0 => ?_) (fun e he => h1 e he)
  have fin := h0 e0
  unfold tq_ at e0
  by_cases c : 0 ≤ m ∧ m < (c_r v) 3
  · rw [if_neg (fun k => k c)] at e0
    have lb := br_le hF.1.1.2.1 c.1 (by omega : m < 16)
    by_cases e : br_ (c_r v) m = 0
    · rw [if_pos e] at e0
      exact absurd e0 (by decide)
    · exact t_X10_strainOf hF c.1 c.2 (by omega) fin
  · rw [if_pos c] at e0
    exact absurd e0 (by decide)
theorem t_X10_bitsOf {x : UInt32} (hx : vf_n32 x) (h : ∀ y, bc_in y → Rr (some (bc_I y)) σ) : bc_Sem g (d + 1) mX10_bitsOf [bc_F x] σ Rr X := by
  refine e_X10_bitsOf rfl (fun K hK => ?_)
  have E : ∀ (s e : Int) (y : UInt32) (i : Int), vf_n32 y → K 96 [(0, bc_F x), (1, bc_I s), (2, bc_F y), (3, bc_I e), (4, bc_I i)] [] σ 0 := by
    intro s e y i hy
    refine hK.1 [] 60 _ _ _ _ _ ?_
    refine bc_ob_i (vn_fsub hy nz3_one) ?_
    refine bc_ob_i (vn_fmul (vn_fsub hy nz3_one) nz3_big) ?_
    exact h _ (i3i_ _)
  have L2 : ∀ (s : Int), ∀ i : Int, ∀ (e : Int) (y : UInt32), 0 ≤ i → i ≤ 32 → vf_n32 y → K 70 [(0, bc_F x), (1, bc_I s), (2, bc_F y), (3, bc_I e), (4, bc_I i)] [] σ 0 := by
    intro s
    refine up_ind 32 (fun i hi e y i0 i1 hy => ?_) (fun i hi ih e y i0 i1 hy => ?_)
    · refine hK.1 [70, 96] 60 _ _ _ _ _ ?_
      refine bc_ob_i (by first | omega | decide | (constructor <;> omega) | (constructor <;> constructor <;> omega)) ?_
      refine bc_br_i (fun c => absurd c (by omega)) (fun _ => ?_)
      exact E s e y i hy
    · refine hK.1 [70, 96] 60 _ _ _ _ _ ?_
      refine bc_ob_i (by first | omega | decide | (constructor <;> omega) | (constructor <;> constructor <;> omega)) ?_
      refine bc_br_i (fun _ => ?_) (fun c => absurd (by omega) c)
      refine bc_ob_i (i3i_ _) ?_
      refine bc_br_i (fun _ => ?_) (fun _ => ?_)
      · refine bc_ob_i (vn_fmul hy nz3_two) ?_
        exact ih _ _ (by omega) (by omega) (vn_fmul hy nz3_two)
      · exact E s e y i hy
  have L1 : ∀ (s : Int), ∀ i : Int, ∀ (e : Int) (y : UInt32), 0 ≤ i → i ≤ 32 → vf_n32 y → K 41 [(0, bc_F x), (1, bc_I s), (2, bc_F y), (3, bc_I e), (4, bc_I i)] [] σ 0 := by
    intro s
    refine up_ind 32 (fun i hi e y i0 i1 hy => ?_) (fun i hi ih e y i0 i1 hy => ?_)
    · refine hK.1 [41, 70] 60 _ _ _ _ _ ?_
      refine bc_ob_i (by first | omega | decide | (constructor <;> omega) | (constructor <;> constructor <;> omega)) ?_
      refine bc_br_i (fun c => absurd c (by omega)) (fun _ => ?_)
      exact L2 s 0 e y (by decide) (by decide) hy
    · refine hK.1 [41, 70] 60 _ _ _ _ _ ?_
      refine bc_ob_i (by first | omega | decide | (constructor <;> omega) | (constructor <;> constructor <;> omega)) ?_
      refine bc_br_i (fun _ => ?_) (fun c => absurd (by omega) c)
      refine bc_ob_i (i3i_ _) ?_
      refine bc_br_i (fun _ => ?_) (fun _ => ?_)
      · exact L2 s 0 e y (by decide) (by decide) hy
      · refine bc_ob_i (vn_fdiv hy nz3_two) ?_
        exact ih _ _ (by omega) (by omega) (vn_fdiv hy nz3_two)
  have S2 : ∀ (s : Int) (y : UInt32), vf_n32 y → K 34 [(0, bc_F x), (1, bc_I s)] [bc_F y] σ 0 := by
    intro s y hy
    refine hK.1 [41] 60 _ _ _ _ _ ?_
    exact L1 s 0 127 y (by decide) (by decide) hy
  have S1 : ∀ (s : Int), K 21 [(0, bc_F x)] [bc_I s] σ 0 := by
    intro s
    refine hK.1 [34] 60 _ _ _ _ _ ?_
    refine bc_ob_i (i3i_ _) ?_
    refine bc_br_i (fun _ => ?_) (fun _ => ?_)
    · exact S2 s _ (vn_fneg hx)
    · exact S2 s x hx
  refine hK.1 [21] 60 _ _ _ _ _ ?_
  refine bc_ob_i (i3i_ _) ?_
  refine bc_br_i (fun _ => ?_) (fun _ => ?_)
  · exact h 0 (by decide)
  · refine bc_ob_i (i3i_ _) ?_
    refine bc_br_i (fun _ => ?_) (fun _ => ?_)
    · exact S1 _
    · exact S1 _
theorem t_X10_strainBits {m l : Int} (hF : fa_ B σ v) (hm : bc_in m) (h1 : ∀ e : Nat, tq_ (c_r v) m = e + 1 → X e σ) (h0 : tq_ (c_r v) m = 0 → ∀ y, bc_in y → Rr (some (bc_I y)) σ) : bc_Sem g (d + 3) mX10_strainBits [bc_R 0, bc_I m, bc_I l] σ Rr X := by
  have w0 := hF.1.1.2.1.1
  have hl : 0 ≤ tq_ (c_r v) m ∧ tq_ (c_r v) m ≤ 6 := by unfold tq_; (repeat' split) <;> omega
  refine e_X10_strainBits rfl (fun K hK => ?_)
  refine hK.1 [] 60 _ _ _ _ _ ?_
  refine t_X10_strainFault hF hm ?_
  refine t_X10_refuse hl.1 hl.2 (fun e0 => ?_) (fun e he => h1 e he)
  have fin := h0 e0
  unfold tq_ at e0
  by_cases c : 0 ≤ m ∧ m < (c_r v) 3
  · rw [if_neg (fun k => k c)] at e0
    have lb := br_le hF.1.1.2.1 c.1 (by omega : m < 16)
    by_cases e : br_ (c_r v) m = 0
    · rw [if_pos e] at e0
      exact absurd e0 (by decide)
    · refine t_X10_strainOf hF c.1 c.2 (by omega) ?_
      exact t_X10_bitsOf (vn_fdiv (vn_if_ _) (nz3_i (by omega) (by omega))) fin
  · rw [if_pos c] at e0
    exact absurd e0 (by decide)
theorem t_X10_meanBearing (hF : fa_ B σ v) (h1 : (c_r v) 3 = 0 → X 5 σ) (h0 : 0 < (c_r v) 3 → Rr (some (bc_D (FP.ddiv (FP.i2d (Int32.ofInt (sm_ (br_ (c_r v)) ((c_r v) 3).toNat))) (FP.i2d (Int32.ofInt ((c_r v) 3)))))) σ) : bc_Sem g (d + 3) mX10_meanBearing [bc_R 0] σ Rr X := by
  have w0 := hF.1.1.2.1.1
  have e3 := (st_M1 hF.1.1.1.1).1
  refine e_X10_meanBearing rfl (fun K hK => ?_)
  refine hK.1 [] 60 _ _ _ _ _ ?_
  refine bc_ob_i (by first | omega | decide | (constructor <;> omega) | (constructor <;> constructor <;> omega)) ?_
  refine bc_br_i (fun c => ?_) (fun c => ?_)
  rotate_left
  · have c' : ¬ σ.1 2 ((0 : Nat) : Int) = 0 := c
    refine t_X10_refuse (f := 0) (by decide) (by decide) (fun _ => ?_) (fun e he => by omega)
    refine t_X2_bearingSum hF.1.1.1.1 hF.1.1.2.1 ?_
    have fin := h0 (by omega)
    have fin2 : Rr (some (bc_D (FP.ddiv (FP.i2d (Int32.ofInt (sm_ (br_ (c_r v)) ((c_r v) 3).toNat))) (FP.i2d (Int32.ofInt (σ.1 2 ((0 : Nat) : Int))))))) σ := by
      rw [e3]
      exact fin
    refine bc_ob_i (vn_ddiv (vn_id_ _) (nz6_i (show (1 : Int) ≤ σ.1 2 ((0 : Nat) : Int) by omega) (show σ.1 2 ((0 : Nat) : Int) ≤ 16 by omega))) ?_
    exact fin2
  · have c' : σ.1 2 ((0 : Nat) : Int) = 0 := c
    refine t_X10_refuse (f := 6) (by decide) (by decide) (fun e => by omega) (fun e he => ?_)
    have ee : e = 5 := by omega
    subst ee
    exact h1 (by omega)
theorem t_X10_crackedShare (hF : fa_ B σ v) (h1 : (c_r v) 3 = 0 → X 5 σ) (h0 : 0 < (c_r v) 3 → Rr (some (bc_F (FP.fdiv (FP.i2f (Int32.ofInt (sm_ (fun k => if 0 < (c_r v) (19 + 6 * k) then 1 else 0) ((c_r v) 3).toNat))) (FP.i2f (Int32.ofInt ((c_r v) 3)))))) σ) : bc_Sem g (d + 2) mX10_crackedShare [bc_R 0] σ Rr X := by
  have w0 := hF.1.1.2.1.1
  have e3 := (st_M1 hF.1.1.1.1).1
  refine e_X10_crackedShare rfl (fun K hK => ?_)
  refine hK.1 [] 60 _ _ _ _ _ ?_
  refine bc_ob_i (by first | omega | decide | (constructor <;> omega) | (constructor <;> constructor <;> omega)) ?_
  refine bc_br_i (fun c => ?_) (fun c => ?_)
  rotate_left
  · have c' : ¬ σ.1 2 ((0 : Nat) : Int) = 0 := c
    refine t_X10_refuse (f := 0) (by decide) (by decide) (fun _ => ?_) (fun e he => by omega)
    refine t_X2_crackedCount hF.1.1.1.1 hF.1.1.2.1 ?_
    have fin := h0 (by omega)
    have fin2 : Rr (some (bc_F (FP.fdiv (FP.i2f (Int32.ofInt (sm_ (fun k => if 0 < (c_r v) (19 + 6 * k) then 1 else 0) ((c_r v) 3).toNat))) (FP.i2f (Int32.ofInt (σ.1 2 ((0 : Nat) : Int))))))) σ := by
      rw [e3]
      exact fin
    refine bc_ob_i (vn_fdiv (vn_if_ _) (nz3_i (show (1 : Int) ≤ σ.1 2 ((0 : Nat) : Int) by omega) (show σ.1 2 ((0 : Nat) : Int) ≤ 99 by omega))) ?_
    exact fin2
  · have c' : σ.1 2 ((0 : Nat) : Int) = 0 := c
    refine t_X10_refuse (f := 6) (by decide) (by decide) (fun e => by omega) (fun e he => ?_)
    have ee : e = 5 := by omega
    subst ee
    exact h1 (by omega)
end FLO
end
section
/-! the reference tells members and ways -/
noncomputable def lnt_ (σ : bc_M) (l : List Int) : Prop := l.length ≤ 60 ∧ (∀ j : Nat, j < l.length → σ.1 226 (j : Int) = l.getD j 0) ∧ ∀ c ∈ l, 0 ≤ c ∧ c ≤ 65535
theorem lnt_0 (σ : bc_M) : lnt_ σ [] := ⟨by decide, fun j hj => absurd hj (Nat.not_lt_zero _), fun c hc => by cases hc⟩
theorem lnt_fr {P : Nat → Prop} {σ σ' : bc_M} {l : List Int} (h : lnt_ σ l) (hf : fr_ P σ σ') (hp : ¬ P 226) : lnt_ σ' l := by
  unfold lnt_
  rw [hf.1 226 hp]
  exact h
theorem lnt_add {σ : bc_M} {l : List Int} {c : Int} (h : lnt_ σ l) (hl : l.length < 60) (hc : 0 ≤ c ∧ c ≤ 65535) : lnt_ (bc_wr σ 226 (l.length : Int) c) (ta_ l c) := by
  unfold ta_
  rw [if_pos hl]
  refine ⟨by simp; omega, fun j hj => ?_, fun x hx => ?_⟩
  · simp only [bc_wr, if_true]
    by_cases e : j = l.length
    · subst e
      simp
    · have hlt : j < l.length := by simp at hj; omega
      rw [if_neg (by omega), h.2.1 j hlt]
      simp [List.getD_eq_getElem?_getD, List.getElem?_append_left hlt]
  · rcases List.mem_append.mp hx with hx | hx
    · exact h.2.2 x hx
    · have : x = c := by simpa using hx
      rw [this]; exact hc
theorem ta_len {l : List Int} {c : Int} (hl : l.length < 60) : (ta_ l c).length = l.length + 1 := by
  unfold ta_
  rw [if_pos hl]
  simp
theorem tn_len {l : List Int} {n : Int} (hl : l.length + 2 ≤ 60) : l.length + 1 ≤ (tn_ l n).length ∧ (tn_ l n).length ≤ l.length + 2 := by
  unfold tn_
  split
  · have e1 := ta_len (l := l) (c := 48 + n / 10 % 10) (by omega)
    rw [ta_len (by omega)]
    omega
  · rw [ta_len (by omega)]
    omega
section REF
variable {g : bc_C} {d : Nat} {σ : bc_M} {q b : rw_t} {h : List rw_t} {Rr : Option bc_A → bc_M → Prop} {X : Nat → bc_M → Prop} {B : Int}
theorem t_X11_lays {l : List Int} {c n : Int} (hl : lnt_ σ l) (h6 : l.length < 60) (e : n = l.length) (hc : 0 ≤ c ∧ c ≤ 65535) (f : ∀ σ', lnt_ σ' (ta_ l c) → fr_ (fun k => k = 226) σ σ' → Rr (some (bc_I ((ta_ l c).length : Int))) σ') : bc_Sem g (d + 1) mX11_lays [bc_R 218, bc_I n, bc_I c] σ Rr X := by
  subst e
  refine e_X11_lays rfl (fun K hK => ?_)
  refine hK.1 [] 60 _ _ _ _ _ ?_
  refine bc_ob_i (by first | omega | decide | (constructor <;> omega) | (constructor <;> constructor <;> omega)) ?_
  exact rt_ (f _ (lnt_add hl h6 hc) (fr_wr rfl)) (by rw [ta_len h6]; omega)
theorem t_X11_writesNumber {l : List Int} {n m : Int} (hl : lnt_ σ l) (h6 : l.length + 2 ≤ 60) (e : m = l.length) (hn : 0 ≤ n ∧ n ≤ 99) (f : ∀ σ', lnt_ σ' (tn_ l n) → fr_ (fun k => k = 226) σ σ' → Rr (some (bc_I ((tn_ l n).length : Int))) σ') : bc_Sem g (d + 2) mX11_writesNumber [bc_R 218, bc_I m, bc_I n] σ Rr X := by
  subst e
  refine e_X11_writesNumber rfl (fun K hK => ?_)
  by_cases c : n ≤ 9
  · have e1 : tn_ l n = ta_ l (48 + n / 1 % 10) := by
      unfold tn_
      rw [if_neg (by omega), show 48 + n / 1 % 10 = 48 + n % 10 by omega]
    rw [e1] at f
    refine hK.1 [] 200 _ _ _ _ _ ?_
    refine bc_ob_i ⟨⟨by omega, by omega⟩, by decide, by decide⟩ ?_
    refine bc_ob_i (by first | omega | decide | (constructor <;> omega) | (constructor <;> constructor <;> omega)) ?_
    refine bc_br_i (fun k => absurd k (by omega)) (fun _ => ?_)
    refine bc_ob_i (by decide) ?_
    refine bc_br_i (fun _ => ?_) (fun k => absurd (by decide) k)
    refine bc_ob_i ⟨⟨by omega, by omega⟩, by decide, by decide⟩ ?_
    refine bc_ob_i ⟨⟨by omega, by omega⟩, by decide, by decide⟩ ?_
    refine t_X11_lays hl (by omega) rfl (by omega) (fun s1 l1 F1 => ?_)
    refine bc_ob_i ⟨⟨by decide, by decide⟩, by decide, by decide⟩ ?_
    refine bc_ob_i (by decide) ?_
    refine bc_br_i (fun c => absurd c (by decide)) (fun _ => ?_)
    exact f s1 l1 F1
  · have e1 : tn_ l n = ta_ (ta_ l (48 + n / (1 * 10) % 10)) (48 + n / (1 * 10 / 10) % 10) := by
      unfold tn_
      rw [if_pos (by omega), show 48 + n / (1 * 10) % 10 = 48 + n / 10 % 10 by omega, show 48 + n / (1 * 10 / 10) % 10 = 48 + n % 10 by omega]
    rw [e1] at f
    have y1 := ta_len (l := l) (c := 48 + n / (1 * 10) % 10) (by omega)
    refine hK.1 [] 300 _ _ _ _ _ ?_
    refine bc_ob_i ⟨⟨by omega, by omega⟩, by decide, by decide⟩ ?_
    refine bc_ob_i (by first | omega | decide | (constructor <;> omega) | (constructor <;> constructor <;> omega)) ?_
    refine bc_br_i (fun _ => ?_) (fun k => absurd (by omega) k)
    refine bc_ob_i ⟨⟨by omega, by omega⟩, by decide, by decide⟩ ?_
    refine bc_ob_i (by first | omega | decide | (constructor <;> omega) | (constructor <;> constructor <;> omega)) ?_
    refine bc_br_i (fun k => absurd k (by omega)) (fun _ => ?_)
    refine bc_ob_i (by decide) ?_
    refine bc_br_i (fun _ => ?_) (fun k => absurd (by decide) k)
    refine bc_ob_i ⟨⟨by omega, by omega⟩, by decide, by decide⟩ ?_
    refine bc_ob_i ⟨⟨by omega, by omega⟩, by decide, by decide⟩ ?_
    refine t_X11_lays hl (by omega) rfl (by omega) (fun s1 l1 F1 => ?_)
    refine bc_ob_i ⟨⟨by decide, by decide⟩, by decide, by decide⟩ ?_
    refine bc_ob_i (by decide) ?_
    refine bc_br_i (fun _ => ?_) (fun k => absurd (by decide) k)
    refine bc_ob_i ⟨⟨by omega, by omega⟩, by decide, by decide⟩ ?_
    refine bc_ob_i ⟨⟨by omega, by omega⟩, by decide, by decide⟩ ?_
    refine t_X11_lays l1 (by omega) rfl (by omega) (fun s2 l2 F2 => ?_)
    refine bc_ob_i ⟨⟨by decide, by decide⟩, by decide, by decide⟩ ?_
    refine bc_ob_i (by decide) ?_
    refine bc_br_i (fun c => absurd c (by decide)) (fun _ => ?_)
    exact f s2 l2 (fr_trans F1 F2)
/-- the reference's line -/
noncomputable def liq_ (σ : bc_M) (l : List Int) : Prop := σ.1 218 ((13 : Nat) : Int) = l.length ∧ lnt_ σ l
/-- a telling call -/
noncomputable def rot_ (σ σ' : bc_M) : Prop := σ'.1 218 ((14 : Nat) : Int) = 0 ∧ fr_ (fun k => k = 218 ∨ k = 223 ∨ k = 224 ∨ k = 226) σ σ' ∧ fj_ (fun j => j = 13 ∨ j = 14) σ σ'
theorem t_X11_renderMember {m : Int} (hN : nw_ σ 219 q) (hW : wf_M q) (hm : bc_in m) (f1 : ¬ (0 ≤ m ∧ m < q 3) → ∀ σ', roc_ 1 σ σ' → Rr (some (bc_I 0)) σ') (f0 : 0 ≤ m ∧ m < q 3 → ∀ σ', liq_ σ' (om_ q m) → rot_ σ σ' → Rr (some (bc_I ((om_ q m).length : Int))) σ') : bc_Sem g (d + 5) mX11_renderMember [bc_R 218, bc_I m] σ Rr X := by
  have w3 := hW.1
  refine e_X11_renderMember rfl (fun K hK => ?_)
  by_cases c : 0 ≤ m ∧ m < q 3
  · obtain ⟨g0, g1, g2, g3, g4, g5⟩ := hW.2 m c.1 (by omega)
    have R0 : roc_ 0 σ (bc_wr σ 218 ((14 : Nat) : Int) (1 - 1)) := roc_wr (by decide)
    -- the line stands
    have E : ∀ (s : bc_M) (l : List Int), l = om_ q m → lnt_ s l → fr_ (fun k => k = 218 ∨ k = 223 ∨ k = 224 ∨ k = 226) σ s → fj_ (fun j => j = 13 ∨ j = 14) σ s → s.1 218 ((14 : Nat) : Int) = 0 → ∀ z : bc_LV, K 131 ([(0, bc_R 218), (1, bc_I m)] ++ z) [bc_I (l.length : Int), bc_R 218] s 0 := by
      intro s l el hl F J t0 z
      subst el
      have l13 : (bc_wr s 218 ((13 : Nat) : Int) ((om_ q m).length : Int)).1 218 ((13 : Nat) : Int) = ((om_ q m).length : Int) := by simp [bc_wr]
      have F4 : fr_ (fun k => k = 218) s (bc_wr s 218 ((13 : Nat) : Int) ((om_ q m).length : Int)) := fr_wr rfl
      refine hK.2 _ _ [(0, bc_R 218), (1, bc_I m)] _ _ _ (ls_ _ _) ?_
      refine hK.1 [] 60 _ _ _ _ _ ?_
      refine rt_ (f0 c _ ⟨l13, lnt_fr hl F4 (by decide)⟩ ⟨?_, fr_trans (fr_mono F (fun k hk => by omega)) (fr_mono F4 (fun k hk => by omega)), fj_trans J (fj_wr (.inl rfl))⟩) l13
      have : (bc_wr s 218 ((13 : Nat) : Int) ((om_ q m).length : Int)).1 218 ((14 : Nat) : Int) = s.1 218 ((14 : Nat) : Int) := by simp [bc_wr]
      rw [this]
      exact t0
    refine hK.1 [131] 200 _ _ _ _ _ ?_
    refine t_X11_isMember hN w3 hm ?_
    rw [if_pos c]
    refine t_X11_goes (by decide) ?_
    generalize bc_wr σ 218 ((14 : Nat) : Int) (1 - 1) = s0 at R0 ⊢
    obtain ⟨t0, F0, J0⟩ := R0
    have N0 := nw_fr hN F0 (by decide)
    refine bc_ob_i (by decide) ?_
    refine bc_br_i (fun k => absurd k (by decide)) (fun _ => ?_)
    have Z : ∀ s : bc_M, fr_ (fun k => k = 226) s0 s → nw_ s 219 q := fun s F => nw_fr N0 F (by decide)
    have Q1 : fr_ (fun k => k = 226) s0 s0 := fr_refl _
    have y0 : ([] : List Int).length = 0 := rfl
    have y1 := tn_len (l := ([] : List Int)) (n := m) (by decide)
    refine t_X11_writesNumber (lnt_0 s0) (by decide) rfl (by omega) (fun s1 l1 G1 => ?_)
    have P1 : fr_ (fun k => k = 226) s0 s1 := fr_trans Q1 G1
    have y2 := ta_len (l := (tn_ ([] : List Int) (m))) (c := 58) (by omega)
    refine t_X11_lays l1 (by omega) rfl (by decide) (fun s2 l2 G2 => ?_)
    have P2 : fr_ (fun k => k = 226) s0 s2 := fr_trans P1 G2
    refine t_X11_ofM 16 (Z s2 P2) hW c.1 c.2 (by decide) rfl ?_
    have y3 := tn_len (l := (ta_ (tn_ ([] : List Int) (m)) 58)) (n := q (16 + 6 * m)) (by omega)
    refine t_X11_writesNumber l2 (by omega) rfl (by omega) (fun s3 l3 G3 => ?_)
    have P3 : fr_ (fun k => k = 226) s0 s3 := fr_trans P2 G3
    have y4 := ta_len (l := (tn_ (ta_ (tn_ ([] : List Int) (m)) 58) (q (16 + 6 * m)))) (c := 45) (by omega)
    refine t_X11_lays l3 (by omega) rfl (by decide) (fun s4 l4 G4 => ?_)
    have P4 : fr_ (fun k => k = 226) s0 s4 := fr_trans P3 G4
    refine t_X11_ofM 17 (Z s4 P4) hW c.1 c.2 (by decide) rfl ?_
    have y5 := tn_len (l := (ta_ (tn_ (ta_ (tn_ ([] : List Int) (m)) 58) (q (16 + 6 * m))) 45)) (n := q (17 + 6 * m)) (by omega)
    refine t_X11_writesNumber l4 (by omega) rfl (by omega) (fun s5 l5 G5 => ?_)
    have P5 : fr_ (fun k => k = 226) s0 s5 := fr_trans P4 G5
    have y6 := ta_len (l := (tn_ (ta_ (tn_ (ta_ (tn_ ([] : List Int) (m)) 58) (q (16 + 6 * m))) 45) (q (17 + 6 * m)))) (c := 115) (by omega)
    refine t_X11_lays l5 (by omega) rfl (by decide) (fun s6 l6 G6 => ?_)
    have P6 : fr_ (fun k => k = 226) s0 s6 := fr_trans P5 G6
    refine t_X11_ofM 18 (Z s6 P6) hW c.1 c.2 (by decide) rfl ?_
    have y7 := tn_len (l := (ta_ (tn_ (ta_ (tn_ (ta_ (tn_ ([] : List Int) (m)) 58) (q (16 + 6 * m))) 45) (q (17 + 6 * m))) 115)) (n := q (18 + 6 * m)) (by omega)
    refine t_X11_writesNumber l6 (by omega) rfl (by omega) (fun s7 l7 G7 => ?_)
    have P7 : fr_ (fun k => k = 226) s0 s7 := fr_trans P6 G7
    have y8 := ta_len (l := (tn_ (ta_ (tn_ (ta_ (tn_ (ta_ (tn_ ([] : List Int) (m)) 58) (q (16 + 6 * m))) 45) (q (17 + 6 * m))) 115) (q (18 + 6 * m)))) (c := 99) (by omega)
    refine t_X11_lays l7 (by omega) rfl (by decide) (fun s8 l8 G8 => ?_)
    have P8 : fr_ (fun k => k = 226) s0 s8 := fr_trans P7 G8
    refine t_X11_ofM 19 (Z s8 P8) hW c.1 c.2 (by decide) rfl ?_
    have y9 := tn_len (l := (ta_ (tn_ (ta_ (tn_ (ta_ (tn_ (ta_ (tn_ ([] : List Int) (m)) 58) (q (16 + 6 * m))) 45) (q (17 + 6 * m))) 115) (q (18 + 6 * m))) 99)) (n := q (19 + 6 * m)) (by omega)
    refine t_X11_writesNumber l8 (by omega) rfl (by omega) (fun s9 l9 G9 => ?_)
    have P9 : fr_ (fun k => k = 226) s0 s9 := fr_trans P8 G9
    have y10 := ta_len (l := (tn_ (ta_ (tn_ (ta_ (tn_ (ta_ (tn_ (ta_ (tn_ ([] : List Int) (m)) 58) (q (16 + 6 * m))) 45) (q (17 + 6 * m))) 115) (q (18 + 6 * m))) 99) (q (19 + 6 * m)))) (c := 119) (by omega)
    refine t_X11_lays l9 (by omega) rfl (by decide) (fun s10 l10 G10 => ?_)
    have P10 : fr_ (fun k => k = 226) s0 s10 := fr_trans P9 G10
    refine t_X11_ofM 20 (Z s10 P10) hW c.1 c.2 (by decide) rfl ?_
    have y11 := tn_len (l := (ta_ (tn_ (ta_ (tn_ (ta_ (tn_ (ta_ (tn_ (ta_ (tn_ ([] : List Int) (m)) 58) (q (16 + 6 * m))) 45) (q (17 + 6 * m))) 115) (q (18 + 6 * m))) 99) (q (19 + 6 * m))) 119)) (n := q (20 + 6 * m)) (by omega)
    refine t_X11_writesNumber l10 (by omega) rfl (by omega) (fun s11 l11 G11 => ?_)
    have P11 : fr_ (fun k => k = 226) s0 s11 := fr_trans P10 G11
    refine t_X11_ofM 21 (Z s11 P11) hW c.1 c.2 (by decide) rfl ?_
    have FF : fr_ (fun k => k = 218 ∨ k = 223 ∨ k = 224 ∨ k = 226) σ s11 := fr_trans (fr_mono F0 (fun k hk => by omega)) (fr_mono P11 (fun k hk => by omega))
    have JJ : fj_ (fun j => j = 13 ∨ j = 14) σ s11 := fj_trans (fun j hj => J0 j (fun e => hj (.inr e))) (fj_fr P11 (by decide))
    have t11 : s11.1 218 ((14 : Nat) : Int) = 0 := by rw [P11.1 218 (by decide)]; exact t0
    refine bc_ob_i (by constructor <;> constructor <;> omega) ?_
    refine bc_br_i (fun k => ?_) (fun k => ?_)
    rotate_left
    · refine E s11 _ ?_ l11 FF JJ t11 [(2, bc_I (_ : Int))]
      unfold om_
      rw [if_pos (by omega)]
    · have y12 := ta_len (l := (tn_ (ta_ (tn_ (ta_ (tn_ (ta_ (tn_ (ta_ (tn_ (ta_ (tn_ ([] : List Int) (m)) 58) (q (16 + 6 * m))) 45) (q (17 + 6 * m))) 115) (q (18 + 6 * m))) 99) (q (19 + 6 * m))) 119) (q (20 + 6 * m)))) (c := 120) (by omega)
      refine t_X11_lays l11 (by omega) rfl (by decide) (fun s12 l12 G12 => ?_)
      refine E s12 _ ?_ l12 (fr_trans FF (fr_mono G12 (fun k hk => by omega))) (fj_trans JJ (fj_fr G12 (by decide))) (by rw [G12.1 218 (by decide)]; exact t11) [(2, bc_I (_ : Int))]
      unfold om_
      rw [if_neg (by omega)]
  · refine hK.1 [] 60 _ _ _ _ _ ?_
    refine t_X11_isMember hN w3 hm ?_
    rw [if_neg c]
    refine t_X11_goes (by decide) ?_
    refine bc_ob_i (by decide) ?_
    refine bc_br_i (fun _ => ?_) (fun k => absurd rfl k)
    exact f1 c _ (roc_wr (by decide))
theorem t_X11_outputAt {l : List Int} {i : Int} (hl : liq_ σ l) (hi : bc_in i) (f1 : ¬ (0 ≤ i ∧ i < l.length) → ∀ σ', roc_ 1 σ σ' → Rr (some (bc_I 0)) σ') (f0 : 0 ≤ i ∧ i < l.length → ∀ σ', roc_ 0 σ σ' → Rr (some (bc_I (tg_ l i))) σ') : bc_Sem g (d + 3) mX11_outputAt [bc_R 218, bc_I i] σ Rr X := by
  obtain ⟨l13, l6, lj, lc⟩ := hl
  have lg := tg_le lc i
  refine e_X11_outputAt rfl (fun K hK => ?_)
  refine hK.1 [] 60 _ _ _ _ _ ?_
  refine t_X11_isIn hi (by decide) (by rw [l13]; constructor <;> omega) ?_
  rw [l13]
  by_cases c : 0 ≤ i ∧ i < l.length
  · rw [if_pos (by omega)]
    refine t_X11_goes (by decide) ?_
    have R0 : roc_ 0 σ (bc_wr σ 218 ((14 : Nat) : Int) (1 - 1)) := roc_wr (by decide)
    have fin := f0 c _ R0
    have e1 : (bc_wr σ 218 ((14 : Nat) : Int) (1 - 1)).1 226 i = tg_ l i := by
      rw [R0.2.1.1 226 (by decide)]
      have := lj i.toNat (by omega)
      rw [show ((i.toNat : Nat) : Int) = i by omega] at this
      unfold tg_
      rw [if_pos c]
      exact this
    generalize bc_wr σ 218 ((14 : Nat) : Int) (1 - 1) = s at fin e1 ⊢
    refine bc_ob_i (by decide) ?_
    refine bc_br_i (fun c => absurd c (by decide)) (fun _ => ?_)
    refine bc_ob_i (by omega) ?_
    refine bc_ob_i (by rw [e1]; omega) ?_
    exact rt_ fin (by rw [e1]; omega)
  · rw [if_neg (by omega)]
    refine t_X11_goes (by decide) ?_
    refine bc_ob_i (by decide) ?_
    refine bc_br_i (fun _ => ?_) (fun c => absurd (by decide) c)
    refine bc_ob_i (by decide) ?_
    exact f1 c _ (roc_wr (by decide))
end REF
end
section
/-! the reference tells a way -/
theorem wyJ_le {q : rw_t} (hW : wf_M q) (hU : uj_ q) {u v : Int} (h : atw_ q u v = 0) {i : Int} (i0 : 0 ≤ i) (hi : i ≤ xm_ q (xw_ q u 8 v) (-1) v 8 u) : 0 ≤ wyJ_ q u v i ∧ wyJ_ q u v i ≤ 7 := by
  obtain ⟨⟨⟨u0, u1⟩, v0, v1⟩, hne, l1⟩ := atw_0 h
  have l9 := xw_99 hW u 8 v (fun e => hne e.symm)
  have W := wb_xw hW hU u0 u1 v0 v1 (fun e => hne e.symm) l9
  obtain ⟨P1, P2, P3⟩ := way_fw hW hU u0 u1 v0 v1 hne (fun _ => 0) (by rw [W]; exact l1)
  have L := (jw_le (f := sa_ q) (l := wb_ (sa_ q) u v) (a := u) (b := v) (dd := md_ (sa_ q) (wb_ (sa_ q) u v) v) (J := fun _ => 0) (fun j _ _ => ⟨Int.le_refl 0, (by decide : (0 : Int) ≤ 7)⟩) u0 u1 7 (Nat.le_refl 7)).1
  have e := P3 i.toNat (by rw [P2, W]; omega)
  rw [show ((i.toNat : Nat) : Int) = i by omega] at e
  have li := L i i0 (by rw [P2, W] at P1; omega)
  have e2 : (jw_ (sa_ q) (wb_ (sa_ q) u v) u v (md_ (sa_ q) (wb_ (sa_ q) u v) v) (fun _ => 0) 7).1 i = wyJ_ q u v i := by
    unfold wyJ_
    rw [← W]
    exact e
  rw [e2] at li
  exact li
theorem ow_s {J : Int → Int} {i : Int} (h : 1 ≤ i) : ow_ J (i + 1).toNat = tn_ (ta_ (ow_ J i.toNat) 62) (J i) := by
  obtain ⟨n, rfl⟩ : ∃ n : Nat, i = n := ⟨i.toNat, by omega⟩
  rw [show ((n : Int) + 1).toNat = n + 1 by omega, show ((n : Int)).toNat = n by omega]
  show tn_ (if 0 < n then ta_ (ow_ J n) 62 else ow_ J n) (J n) = _
  rw [if_pos (by omega)]
section REF
variable {g : bc_C} {d : Nat} {σ : bc_M} {q b : rw_t} {h : List rw_t} {Rr : Option bc_A → bc_M → Prop} {X : Nat → bc_M → Prop} {B : Int}
theorem t_X11_renderWay {u v : Int} (hN : nw_ σ 219 q) (hW : wf_M q) (hU : uj_ q) (ha : bc_in u) (hb : bc_in v) (f1 : atw_ q u v ≠ 0 → ∀ σ', roc_ (atw_ q u v) σ σ' → Rr (some (bc_I 0)) σ') (f0 : atw_ q u v = 0 → ∀ σ', liq_ σ' (ow_ (wyJ_ q u v) ((xm_ q (xw_ q u 8 v) (-1) v 8 u).toNat + 1)) → rot_ σ σ' → Rr (some (bc_I ((ow_ (wyJ_ q u v) ((xm_ q (xw_ q u 8 v) (-1) v 8 u).toNat + 1)).length : Int))) σ') : bc_Sem g (d + 8) mX11_renderWay [bc_R 218, bc_I u, bc_I v] σ Rr X := by
  have le := atw_le q u v
  refine e_X11_renderWay rfl (fun K hK => ?_)
  refine hK.1 [38] 80 _ _ _ _ _ ?_
  refine t_X11_asksWay hN hW ha hb (fun c s R => ?_) (fun c s R => ?_)
  · have t := R.1
    refine bc_ob_i (by constructor <;> omega) ?_
    refine bc_br_i (fun e => absurd e (by omega)) (fun _ => ?_)
    exact f1 c s R
  · have t := R.1
    obtain ⟨hj, hne, -⟩ := atw_0 c
    obtain ⟨hl, hm⟩ := atw_m hW hU c
    have hwy := fun i (i0 : 0 ≤ i) hi => wyJ_le (i := i) hW hU c i0 hi
    refine bc_ob_i (by constructor <;> omega) ?_
    refine bc_br_i (fun _ => ?_) (fun e => absurd t e)
    refine t_X11_finds (nw_fr hN R.2.1 (by decide)) hW hU hj.1 hj.2 hl (by omega) (fun s2 hwk F => ?_)
    have R2 := roc_fr R F (by decide) (fun k hk => hk)
    have fin := f0 c
    have hway : ∀ k : Int, 0 ≤ k → k ≤ xm_ q (xw_ q u 8 v) (-1) v 8 u → s2.1 224 k = wyJ_ q u v k := fun k k0 k1 => by
      have := hwk k.toNat (by omega)
      rw [show ((k.toNat : Nat) : Int) = k by omega] at this
      exact this
    have J0 : wyJ_ q u v 0 = u := rfl
    have eD : ((xm_ q (xw_ q u 8 v) (-1) v 8 u).toNat : Int) = xm_ q (xw_ q u 8 v) (-1) v 8 u := by omega
    have eB : bc_in (xw_ q u 8 v) := by constructor <;> omega
    have L : ∀ k : Int, ∀ (s : bc_M), 1 ≤ k → k ≤ xm_ q (xw_ q u 8 v) (-1) v 8 u + 1 → lnt_ s (ow_ (wyJ_ q u v) k.toNat) → ((ow_ (wyJ_ q u v) k.toNat).length : Int) ≤ 3 * k → s.1 218 ((13 : Nat) : Int) = (ow_ (wyJ_ q u v) k.toNat).length → s.1 218 ((14 : Nat) : Int) = 0 → fr_ (fun k => k = 218 ∨ k = 226) s2 s → fj_ (fun j => j = 13 ∨ j = 14) s2 s → K 38 [(0, bc_R 218), (1, bc_I u), (2, bc_I v), (3, bc_I (xw_ q u 8 v)), (4, bc_I (xm_ q (xw_ q u 8 v) (-1) v 8 u)), (5, bc_I k)] [] s 0 := by
      generalize xm_ q (xw_ q u 8 v) (-1) v 8 u = D at hwk hm eD hway hwy fin ⊢
      refine up_ind (D + 1) (fun k hk s k0 k1 hs hlen h13 h14 F3 J3 => ?_) (fun k hk ih s k0 k1 hs hlen h13 h14 F3 J3 => ?_)
      · have e : k = D + 1 := by omega
        subst e
        have ek : (D + 1).toNat = D.toNat + 1 := by omega
        rw [ek] at hs h13
        refine hK.1 [38] 60 _ _ _ _ _ ?_
        refine bc_ob_i (by first | omega | decide | (constructor <;> omega) | (constructor <;> constructor <;> omega)) ?_
        refine bc_br_i (fun _ => ?_) (fun c => absurd c (by omega))
        refine rt_ (fin s ⟨h13, hs⟩ ⟨h14, fr_trans (fr_mono R2.2.1 (fun k hk => by omega)) (fr_mono F3 (fun k hk => by omega)), fj_trans (fun j hj => R2.2.2 j (fun e => hj (.inr e))) J3⟩) h13
      · have ek := hway k (by omega) (by omega)
        have lk := hwy k (by omega) (by omega)
        rw [ow_s (by omega)] at ih
        generalize ow_ (wyJ_ q u v) k.toNat = l at hs hlen h13 ih
        have y1 := ta_len (l := l) (c := 62) (by omega)
        have y2 := tn_len (l := ta_ l 62) (n := wyJ_ q u v k) (by omega)
        refine hK.1 [38] 90 _ _ _ _ _ ?_
        refine bc_ob_i (by first | omega | decide | (constructor <;> omega) | (constructor <;> constructor <;> omega)) ?_
        refine bc_br_i (fun c => absurd c (by omega)) (fun _ => ?_)
        refine t_X11_lays hs (by omega) h13 (by decide) (fun s3 l3 F4 => ?_)
        refine bc_ob_i (by omega) ?_
        have e224 : s3.1 224 k = wyJ_ q u v k := by
          rw [F4.1 224 (by decide), F3.1 224 (by decide)]
          exact ek
        refine t_X11_writesNumber (n := s3.1 224 k) l3 (by omega) rfl (by omega) (fun s4 l4 F5 => ?_)
        have y3 : (tn_ (ta_ l 62) (s3.1 224 k)).length = (tn_ (ta_ l 62) (wyJ_ q u v k)).length := by rw [e224]
        have F6 : fr_ (fun k => k = 218) s4 (bc_wr s4 218 ((13 : Nat) : Int) ((tn_ (ta_ l 62) (s3.1 224 k)).length : Int)) := fr_wr rfl
        have F45 := fr_trans F4 F5
        have l6 := lnt_fr l4 F6 (by decide)
        rw [e224] at l6
        have l13 : (bc_wr s4 218 ((13 : Nat) : Int) ((tn_ (ta_ l 62) (s3.1 224 k)).length : Int)).1 218 ((13 : Nat) : Int) = (tn_ (ta_ l 62) (wyJ_ q u v k)).length := by
          rw [y3]
          simp [bc_wr]
        have l14 : (bc_wr s4 218 ((13 : Nat) : Int) ((tn_ (ta_ l 62) (s3.1 224 k)).length : Int)).1 218 ((14 : Nat) : Int) = 0 := by
          have : (bc_wr s4 218 ((13 : Nat) : Int) ((tn_ (ta_ l 62) (s3.1 224 k)).length : Int)).1 218 ((14 : Nat) : Int) = s4.1 218 ((14 : Nat) : Int) := by simp [bc_wr]
          rw [this, F45.1 218 (by decide)]
          exact h14
        refine ih _ (by omega) (by omega) l6 (by omega) l13 l14 (fr_trans F3 (fr_trans (fr_mono F45 (fun k hk => .inr hk)) (fr_mono F6 (fun k hk => .inl hk)))) (fj_trans J3 (fj_trans (fj_fr F45 (by decide)) (fj_wr (.inl rfl))))
    have y1 := tn_len (l := ([] : List Int)) (n := u) (by decide)
    have y0 : ([] : List Int).length = 0 := rfl
    refine t_X11_writesNumber (lnt_0 s2) (by decide) rfl (by omega) (fun s3 l3 F3 => ?_)
    have F6 : fr_ (fun k => k = 218) s3 (bc_wr s3 218 ((13 : Nat) : Int) ((tn_ [] u).length : Int)) := fr_wr rfl
    refine L 1 _ (by decide) (by omega) (lnt_fr l3 F6 (by decide)) (show ((tn_ [] u).length : Int) ≤ 3 * 1 by omega) (by simp [bc_wr]; rfl) ?_ (fr_trans (fr_mono F3 (fun k hk => .inr hk)) (fr_mono F6 (fun k hk => .inl hk))) (fj_trans (fj_fr F3 (by decide)) (fj_wr (.inl rfl)))
    have : (bc_wr s3 218 ((13 : Nat) : Int) ((tn_ [] u).length : Int)).1 218 ((14 : Nat) : Int) = s3.1 218 ((14 : Nat) : Int) := by simp [bc_wr]
    rw [this, F3.1 218 (by decide)]
    exact R2.1
end REF
end
section
/-! the reference reads a script: signs and values -/
/-- the text l, the place p, the error w (-1: none) -/
noncomputable def rsc_ (σ : bc_M) (l : List Int) (p w : Int) : Prop := ((σ.1 218 ((15 : Nat) : Int) = l.length ∧ l.length ≤ 60) ∧ (∀ j : Nat, j < l.length → σ.1 225 (j : Int) = l.getD j 0) ∧ ∀ c ∈ l, 0 ≤ c ∧ c ≤ 65535) ∧ (σ.1 218 ((16 : Nat) : Int) = p ∧ 0 ≤ p ∧ p ≤ l.length) ∧ σ.1 218 ((17 : Nat) : Int) = w ∧ -1 ≤ w ∧ w ≤ 60
/-- only the place and the error have changed -/
noncomputable def rsf_ (σ σ' : bc_M) : Prop := fr_ (fun k => k = 218) σ σ' ∧ fj_ (fun j => j = 16 ∨ j = 17) σ σ'
theorem rsf_trans {a b c : bc_M} (h : rsf_ a b) (k : rsf_ b c) : rsf_ a c := ⟨fr_trans h.1 k.1, fj_trans h.2 k.2⟩
theorem rsc_16 {σ : bc_M} {l : List Int} {p w v : Int} (h : rsc_ σ l p w) (hv : 0 ≤ v ∧ v ≤ l.length) : rsc_ (bc_wr σ 218 ((16 : Nat) : Int) v) l v w := by
  obtain ⟨⟨⟨a1, a2⟩, a3, a4⟩, ⟨b1, b2⟩, c1, c2⟩ := h
  refine ⟨⟨⟨?_, a2⟩, fun j hj => ?_, a4⟩, ⟨by simp [bc_wr], hv⟩, ?_, c2⟩
  · rw [← a1]; simp [bc_wr]
  · rw [← a3 j hj]; simp [bc_wr]
  · rw [← c1]; simp [bc_wr]
theorem rsc_17 {σ : bc_M} {l : List Int} {p w v : Int} (h : rsc_ σ l p w) (hv : -1 ≤ v ∧ v ≤ 60) : rsc_ (bc_wr σ 218 ((17 : Nat) : Int) v) l p v := by
  obtain ⟨⟨⟨a1, a2⟩, a3, a4⟩, ⟨b1, b2⟩, c1, c2⟩ := h
  refine ⟨⟨⟨?_, a2⟩, fun j hj => ?_, a4⟩, ⟨?_, b2⟩, by simp [bc_wr], hv⟩
  · rw [← a1]; simp [bc_wr]
  · rw [← a3 j hj]; simp [bc_wr]
  · rw [← b1]; simp [bc_wr]
theorem rsf_16 {σ : bc_M} {v : Int} : rsf_ σ (bc_wr σ 218 ((16 : Nat) : Int) v) := ⟨fr_wr rfl, fj_wr (.inl rfl)⟩
theorem rsf_17 {σ : bc_M} {v : Int} : rsf_ σ (bc_wr σ 218 ((17 : Nat) : Int) v) := ⟨fr_wr rfl, fj_wr (.inr rfl)⟩
theorem rsc_at {σ : bc_M} {l : List Int} {p w i : Int} (h : rsc_ σ l p w) (h0 : 0 ≤ i) (h1 : i < l.length) : σ.1 225 i = tg_ l i := by
  have := h.1.2.1 i.toNat (by omega)
  rw [show ((i.toNat : Nat) : Int) = i by omega] at this
  unfold tg_
  rw [if_pos ⟨h0, h1⟩]
  exact this
/-- one value or sign read, with what goes before -/
noncomputable def srd_ (l : List Int) (f : Int) (e : Int × Int) : Int × Int := if e.2 = -1 then (if f = 32 then (if tg_ l e.1 = 32 then (e.1 + 1, -1) else (e.1, e.1)) else ((qv_ l e.1 f).2, if (qv_ l e.1 f).1 = -1 then (qv_ l e.1 f).2 else -1)) else e
theorem srd_no {l : List Int} {f : Int} {e : Int × Int} (h : e.2 ≠ -1) : srd_ l f e = e := by
  unfold srd_
  rw [if_neg h]
section REF
variable {g : bc_C} {d : Nat} {σ : bc_M} {l : List Int} {p w : Int} {Rr : Option bc_A → bc_M → Prop} {X : Nat → bc_M → Prop}
theorem t_X11_letterHere (hS : rsc_ σ l p w) (h : Rr (some (bc_I (if p < l.length then tg_ l p else -1))) σ) : bc_Sem g (d + 1) mX11_letterHere [bc_R 218] σ Rr X := by
  obtain ⟨⟨⟨a1, a2⟩, a3, a4⟩, ⟨b1, b2, b3⟩, c1, c2⟩ := id hS
  refine e_X11_letterHere rfl (fun K hK => ?_)
  refine hK.1 [] 60 _ _ _ _ _ ?_
  refine bc_ob_i (by rw [a1, b1]; constructor <;> constructor <;> omega) ?_
  rw [a1, b1]
  refine bc_br_i (fun c => ?_) (fun c => ?_)
  · rw [if_pos c] at h
    refine bc_ob_i (by rw [b1]; omega) ?_
    refine rt_ h ?_
    rw [b1]
    exact rsc_at hS b2 c
  · rw [if_neg c] at h
    exact h
theorem t_X11_reads {a b : Int} (hS : rsc_ σ l p w) (ha : 1 ≤ a ∧ a ≤ 65535) (hb : 1 ≤ b ∧ b ≤ 65535) (h1 : w = -1 → p < l.length → a ≤ tg_ l p ∧ tg_ l p ≤ b → ∀ σ', rsc_ σ' l (p + 1) (-1) → rsf_ σ σ' → Rr (some (bc_I (tg_ l p))) σ') (h0 : ¬ (w = -1 ∧ a ≤ tg_ l p ∧ tg_ l p ≤ b) → ∀ σ', rsc_ σ' l p (if w = -1 then p else w) → rsf_ σ σ' → Rr (some (bc_I 48)) σ') : bc_Sem g (d + 2) mX11_reads [bc_R 218, bc_I a, bc_I b] σ Rr X := by
  obtain ⟨⟨⟨a1, a2⟩, a3, a4⟩, ⟨b1, b2, b3⟩, c1, c2, c3⟩ := id hS
  have lg := tg_le a4 p
  refine e_X11_reads rfl (fun K hK => ?_)
  have T42 : ¬ (w = -1 ∧ a ≤ tg_ l p ∧ tg_ l p ≤ b) → K 42 [(0, bc_R 218), (1, bc_I a), (2, bc_I b)] [] σ 0 := by
    intro no
    have fin := h0 no
    refine hK.1 [] 60 _ _ _ _ _ ?_
    refine bc_ob_i (by rw [c1]; constructor <;> constructor <;> omega) ?_
    rw [c1]
    refine bc_br_i (fun c => ?_) (fun c => ?_)
    · rw [if_pos c] at fin
      refine fin _ ?_ rsf_17
      rw [b1]
      exact rsc_17 hS (by omega)
    · rw [if_neg c] at fin
      refine fin _ ?_ rsf_17
      rw [c1]
      exact rsc_17 hS (by omega)
  refine hK.1 [42] 60 _ _ _ _ _ ?_
  refine bc_ob_i (by rw [c1]; constructor <;> constructor <;> omega) ?_
  rw [c1]
  refine bc_br_i (fun c => ?_) (fun c => ?_)
  · refine t_X11_letterHere hS ?_
    refine t_X11_isIn (by split <;> constructor <;> omega) (by constructor <;> omega) (by constructor <;> omega) ?_
    by_cases q : p < l.length
    · rw [if_pos q]
      by_cases r : a ≤ tg_ l p ∧ tg_ l p ≤ b
      · rw [if_pos r]
        refine bc_ob_i (by decide) ?_
        refine bc_br_i (fun c => absurd c (by decide)) (fun _ => ?_)
        have S1 := rsc_16 hS (v := σ.1 218 ((16 : Nat) : Int) + 1) (by rw [b1]; omega)
        have S2 : rsc_ (bc_wr σ 218 ((16 : Nat) : Int) (σ.1 218 ((16 : Nat) : Int) + 1)) l (p + 1) (-1) := by
          have k := rsc_16 hS (v := p + 1) (by omega)
          rw [c] at k
          rw [b1]
          exact k
        have fin := h1 c q r _ S2 rsf_16
        have e16 := S1.2.1.1
        have ev : (bc_wr σ 218 ((16 : Nat) : Int) (σ.1 218 ((16 : Nat) : Int) + 1)).1 225 ((bc_wr σ 218 ((16 : Nat) : Int) (σ.1 218 ((16 : Nat) : Int) + 1)).1 218 ((16 : Nat) : Int) - 1) = tg_ l p := by
          rw [rsc_at S1 (by rw [e16, b1]; omega) (by rw [e16, b1]; omega), e16, b1, show p + 1 - 1 = p by omega]
        refine bc_ob_i (by rw [e16, b1]; omega) ?_
        exact rt_ fin ev
      · rw [if_neg r]
        refine bc_ob_i (by decide) ?_
        refine bc_br_i (fun _ => ?_) (fun c => absurd (by decide) c)
        exact T42 (fun k => r k.2)
    · rw [if_neg q, if_neg (by omega)]
      refine bc_ob_i (by decide) ?_
      refine bc_br_i (fun _ => ?_) (fun c => absurd (by decide) c)
      refine T42 (fun k => ?_)
      have : tg_ l p = 0 := by
        unfold tg_
        rw [if_neg (by omega)]
      omega
  · exact T42 (fun k => c k.1)
theorem t_X11_blank (hS : rsc_ σ l p w) (h : ∀ σ', rsc_ σ' l (srd_ l 32 (p, w)).1 (srd_ l 32 (p, w)).2 → rsf_ σ σ' → Rr none σ') : bc_Sem g (d + 3) mX11_blank [bc_R 218] σ Rr X := by
  refine e_X11_blank rfl (fun K hK => ?_)
  refine hK.1 [] 60 _ _ _ _ _ ?_
  unfold srd_ at h
  refine t_X11_reads hS (by decide) (by decide) (fun c q r s S F => ?_) (fun no s S F => ?_)
  · have e : tg_ l p = 32 := by omega
    subst c
    rw [if_pos rfl, if_pos rfl, if_pos e] at h
    exact h s S F
  · by_cases c : w = -1
    · subst c
      have e : ¬ tg_ l p = 32 := fun e => no ⟨rfl, by omega⟩
      rw [if_pos rfl, if_pos rfl, if_neg e] at h
      exact h s S F
    · rw [if_neg c] at h S
      exact h s S F
/-- a value read: x -/
noncomputable def rvx_ (l : List Int) (p w f x : Int) : Prop := (0 ≤ x ∧ x ≤ 999) ∧ (w = -1 → (qv_ l p f).1 ≠ -1 → x = (qv_ l p f).1)
theorem t_X11_digit0 (hS : rsc_ σ l p w) (h1 : w = -1 → 48 ≤ tg_ l p ∧ tg_ l p ≤ 57 → ∀ σ', rsc_ σ' l (p + 1) (-1) → rsf_ σ σ' → Rr (some (bc_I (tg_ l p - 48))) σ') (h0 : ¬ (w = -1 ∧ 48 ≤ tg_ l p ∧ tg_ l p ≤ 57) → ∀ σ', rsc_ σ' l p (if w = -1 then p else w) → rsf_ σ σ' → Rr (some (bc_I 0)) σ') : bc_Sem g (d + 3) mX11_digit [bc_R 218] σ Rr X := by
  refine e_X11_digit rfl (fun K hK => ?_)
  refine hK.1 [] 60 _ _ _ _ _ ?_
  refine t_X11_reads hS (by decide) (by decide) (fun c q r s S F => ?_) (fun no s S F => ?_)
  · exact h1 c r s S F
  · exact h0 no s S F
theorem qv_d {l : List Int} {p : Int} : qv_ l p 100 = if 48 ≤ tg_ l p ∧ tg_ l p ≤ 57 then (tg_ l p - 48, p + 1) else (-1, p) := by
  unfold qv_
  rw [if_neg (by decide), if_neg (by decide : ¬ (100 : Int) = 110), qd_s]
  by_cases c : 48 ≤ tg_ l p ∧ tg_ l p ≤ 57
  · rw [if_pos c, if_pos c]
    show (if p + 1 = p then (-1 : Int) else 0 * 10 + tg_ l p - 48, p + 1) = _
    rw [if_neg (by omega), show 0 * 10 + tg_ l p - 48 = tg_ l p - 48 by omega]
  · rw [if_neg c, if_neg c]
    show (if p = p then (-1 : Int) else 0, p) = _
    rw [if_pos rfl]
theorem t_X11_digit (hS : rsc_ σ l p w) (h : ∀ σ' x, rsc_ σ' l (srd_ l 100 (p, w)).1 (srd_ l 100 (p, w)).2 → rsf_ σ σ' → rvx_ l p w 100 x → Rr (some (bc_I x)) σ') : bc_Sem g (d + 3) mX11_digit [bc_R 218] σ Rr X := by
  unfold srd_ rvx_ at h
  rw [if_neg (by decide : ¬ (100 : Int) = 32), qv_d] at h
  refine t_X11_digit0 hS (fun c r s S F => ?_) (fun no s S F => ?_)
  · subst c
    rw [if_pos rfl, if_pos r] at h
    refine h s _ ?_ F ⟨by omega, fun _ _ => rfl⟩
    show rsc_ s l (p + 1) (if tg_ l p - 48 = -1 then p + 1 else -1)
    rw [if_neg (by omega)]
    exact S
  · by_cases c : w = -1
    · subst c
      have e : ¬ (48 ≤ tg_ l p ∧ tg_ l p ≤ 57) := fun e => no ⟨rfl, e⟩
      rw [if_pos rfl, if_neg e] at h
      exact h s 0 S F ⟨by decide, fun _ q => absurd rfl q⟩
    · rw [if_neg c] at h S
      exact h s 0 S F ⟨by decide, fun q => absurd q c⟩
theorem t_X11_kindOf (hS : rsc_ σ l p w) (h : ∀ σ' x, rsc_ σ' l (srd_ l 107 (p, w)).1 (srd_ l 107 (p, w)).2 → rsf_ σ σ' → rvx_ l p w 107 x → Rr (some (bc_I x)) σ') : bc_Sem g (d + 3) mX11_kindOf [bc_R 218] σ Rr X := by
  have a4 := hS.1.2.2
  have lg := tg_le a4 p
  have eq : qv_ l p 107 = if tg_ l p = 99 ∨ tg_ l p = 108 then (tg_ l p, p + 1) else (-1, p) := by
    unfold qv_
    rw [if_pos rfl]
  unfold srd_ rvx_ at h
  rw [if_neg (by decide : ¬ (107 : Int) = 32), eq] at h
  have H1 : w = -1 → tg_ l p = 99 ∨ tg_ l p = 108 → ∀ s, rsc_ s l (p + 1) (-1) → rsf_ σ s → Rr (some (bc_I (tg_ l p))) s := by
    intro c r s S F
    subst c
    rw [if_pos rfl, if_pos r] at h
    refine h s _ ?_ F ⟨by omega, fun _ _ => rfl⟩
    show rsc_ s l (p + 1) (if tg_ l p = -1 then p + 1 else -1)
    rw [if_neg (by omega)]
    exact S
  have H0 : ¬ (w = -1 ∧ (tg_ l p = 99 ∨ tg_ l p = 108)) → ∀ s, rsc_ s l p (if w = -1 then p else w) → rsf_ σ s → Rr (some (bc_I 48)) s := by
    intro no s S F
    by_cases c : w = -1
    · subst c
      have e : ¬ (tg_ l p = 99 ∨ tg_ l p = 108) := fun e => no ⟨rfl, e⟩
      rw [if_pos rfl, if_neg e] at h
      exact h s 48 S F ⟨by decide, fun _ q => absurd rfl q⟩
    · rw [if_neg c] at h S
      exact h s 48 S F ⟨by decide, fun q => absurd q c⟩
  refine e_X11_kindOf rfl (fun K hK => ?_)
  refine hK.1 [] 60 _ _ _ _ _ ?_
  refine t_X11_letterHere hS ?_
  by_cases q : p < l.length
  · rw [if_pos q]
    refine bc_ob_i (by constructor <;> constructor <;> omega) ?_
    refine bc_br_i (fun c => ?_) (fun c => ?_)
    · refine t_X11_reads hS (by decide) (by decide) (fun c2 q r s S F => H1 c2 (.inr c) s S F) (fun no s S F => ?_)
      exact H0 (fun k => no ⟨k.1, by omega⟩) s S F
    · refine t_X11_reads hS (by decide) (by decide) (fun c2 q r s S F => H1 c2 (.inl (by omega)) s S F) (fun no s S F => ?_)
      exact H0 (fun k => no ⟨k.1, by omega⟩) s S F
  · rw [if_neg q]
    have z : tg_ l p = 0 := by
      unfold tg_
      rw [if_neg (by omega)]
    refine bc_ob_i (by decide) ?_
    refine bc_br_i (fun c => absurd c (by decide)) (fun _ => ?_)
    refine t_X11_reads hS (by decide) (by decide) (fun c2 q r s S F => absurd z (by omega)) (fun no s S F => ?_)
    exact H0 (fun k => absurd z (by omega)) s S F
theorem t_X11_number (hS : rsc_ σ l p w) (h : ∀ σ' x, rsc_ σ' l (srd_ l 110 (p, w)).1 (srd_ l 110 (p, w)).2 → rsf_ σ σ' → rvx_ l p w 110 x → Rr (some (bc_I x)) σ') : bc_Sem g (d + 4) mX11_number [bc_R 218] σ Rr X := by
  unfold srd_ rvx_ at h
  rw [if_neg (by decide : ¬ (110 : Int) = 32)] at h
  have eq : qv_ l p 110 = (if (qd_ l 3 p 0).2 = p then -1 else (qd_ l 3 p 0).1, (qd_ l 3 p 0).2) := by
    unfold qv_
    rw [if_neg (by decide), if_pos rfl]
  have p0 := hS.2.1.2
  refine e_X11_number rfl (fun K hK => ?_)
  -- the further digits
  have L : 48 ≤ tg_ l p ∧ tg_ l p ≤ 57 → w = -1 → ∀ i : Nat, ∀ (s : bc_M) (v : Int), i ≤ 2 → rsc_ s l (p + 3 - i) (-1) → rsf_ σ s → (0 ≤ v ∧ (i = 2 → v ≤ 9) ∧ (i = 1 → v ≤ 99) ∧ v ≤ 999) → qd_ l i (p + 3 - i) v = qd_ l 3 p 0 → K 7 [(0, bc_R 218), (1, bc_I v), (2, bc_I (3 - i))] [] s 0 := by
    intro hd c i
    subst c
    rw [if_pos rfl, eq] at h
    induction i with
    | zero =>
      intro s v hi S F lv hq
      have e2 : (qd_ l 3 p 0).2 = p + 3 - ((0 : Nat) : Int) := by rw [← hq]; rfl
      have e1 : (qd_ l 3 p 0).1 = v := by rw [← hq]; rfl
      rw [e2, e1] at h
      refine hK.1 [7] 60 _ _ _ _ _ ?_
      refine bc_ob_i (by decide) ?_
      refine bc_br_i (fun c => absurd c (by decide)) (fun _ => ?_)
      refine h s v ?_ F ⟨by omega, fun _ _ => ?_⟩
      · show rsc_ s l (p + 3 - ((0 : Nat) : Int)) (if (if p + 3 - ((0 : Nat) : Int) = p then (-1 : Int) else v) = -1 then p + 3 - ((0 : Nat) : Int) else -1)
        rw [if_neg (by omega : ¬ p + 3 - ((0 : Nat) : Int) = p), if_neg (by omega)]
        exact S
      · show v = (if p + 3 - ((0 : Nat) : Int) = p then (-1 : Int) else v)
        rw [if_neg (by omega)]
    | succ i ih =>
      intro s v hi S F lv hq
      obtain ⟨-, ⟨b1, b2, b3⟩, c1, -⟩ := id S
      have a4 := S.1.2.2
      have lg := tg_le a4 (p + 3 - ((i + 1 : Nat) : Int))
      have out : ¬ (48 ≤ tg_ l (p + 3 - ((i + 1 : Nat) : Int)) ∧ tg_ l (p + 3 - ((i + 1 : Nat) : Int)) ≤ 57) → K 50 [(0, bc_R 218), (1, bc_I v), (2, bc_I (3 - ((i + 1 : Nat) : Int)))] [] s 0 := by
        intro no
        rw [qd_s, if_neg no] at hq
        have e2 : (qd_ l 3 p 0).2 = p + 3 - ((i + 1 : Nat) : Int) := by rw [← hq]
        have e1 : (qd_ l 3 p 0).1 = v := by rw [← hq]
        rw [e2, e1] at h
        refine hK.1 [] 60 _ _ _ _ _ ?_
        refine h s v ?_ F ⟨by omega, fun _ _ => ?_⟩
        · show rsc_ s l (p + 3 - ((i + 1 : Nat) : Int)) (if (if p + 3 - ((i + 1 : Nat) : Int) = p then (-1 : Int) else v) = -1 then p + 3 - ((i + 1 : Nat) : Int) else -1)
          rw [if_neg (by omega : ¬ p + 3 - ((i + 1 : Nat) : Int) = p), if_neg (by omega)]
          exact S
        · show v = (if p + 3 - ((i + 1 : Nat) : Int) = p then (-1 : Int) else v)
          rw [if_neg (by omega)]
      refine hK.1 [7, 50] 90 _ _ _ _ _ ?_
      refine bc_ob_i (by constructor <;> constructor <;> omega) ?_
      refine bc_br_i (fun _ => ?_) (fun c => absurd c (by omega))
      refine bc_ob_i (by rw [c1]; decide) ?_
      rw [c1]
      refine bc_br_i (fun _ => ?_) (fun c => absurd (by decide) c)
      refine t_X11_letterHere S ?_
      refine t_X11_isIn (by split <;> constructor <;> omega) (by decide) (by decide) ?_
      by_cases q : 48 ≤ tg_ l (p + 3 - ((i + 1 : Nat) : Int)) ∧ tg_ l (p + 3 - ((i + 1 : Nat) : Int)) ≤ 57
      · have hp := (tg_in (l := l) (p := p + 3 - ((i + 1 : Nat) : Int)) (by omega)).2
        rw [if_pos hp, if_pos q]
        refine bc_ob_i (by decide) ?_
        refine bc_br_i (fun c => absurd c (by decide)) (fun _ => ?_)
        refine t_X11_digit0 S (fun _ r s2 S2 F2 => ?_) (fun no s2 S2 F2 => absurd ⟨rfl, q⟩ no)
        rw [qd_s, if_pos q] at hq
        have ep : p + 3 - ((i + 1 : Nat) : Int) + 1 = p + 3 - (i : Int) := by omega
        have ek : (3 : Int) - ((i + 1 : Nat) : Int) + 1 = 3 - (i : Int) := by omega
        rw [ep] at S2 hq
        have hh : i = 0 ∨ i = 1 := by omega
        have go := ih s2 (10 * v + (tg_ l (p + 3 - ((i + 1 : Nat) : Int)) - 48)) (by omega) S2 (rsf_trans F F2) (by rcases hh with rfl | rfl <;> omega) (by rw [show 10 * v + (tg_ l (p + 3 - ((i + 1 : Nat) : Int)) - 48) = v * 10 + tg_ l (p + 3 - ((i + 1 : Nat) : Int)) - 48 by omega]; exact hq)
        rw [← ek] at go
        exact go
      · have e0 : ¬ (48 ≤ (if p + 3 - ((i + 1 : Nat) : Int) < l.length then tg_ l (p + 3 - ((i + 1 : Nat) : Int)) else -1) ∧ (if p + 3 - ((i + 1 : Nat) : Int) < l.length then tg_ l (p + 3 - ((i + 1 : Nat) : Int)) else -1) ≤ 57) := by
          split
          · exact q
          · decide
        rw [if_neg e0]
        refine bc_ob_i (by decide) ?_
        refine bc_br_i (fun _ => ?_) (fun c => absurd (by decide) c)
        exact out q
  refine hK.1 [7] 60 _ _ _ _ _ ?_
  refine t_X11_digit0 hS (fun c r s S F => ?_) (fun no s S F => ?_)
  · refine L r c 2 s _ (by decide) ?_ F (by omega) ?_
    · rw [show p + 3 - ((2 : Nat) : Int) = p + 1 by omega]
      exact S
    · rw [qd_s (n := 2), if_pos r, show p + 3 - ((2 : Nat) : Int) = p + 1 by omega, show 0 * 10 + tg_ l p - 48 = tg_ l p - 48 by omega]
  · have out : K 50 [(0, bc_R 218), (1, bc_I 0), (2, bc_I 1)] [] s 0 := by
      refine hK.1 [] 60 _ _ _ _ _ ?_
      by_cases c : w = -1
      · subst c
        have e : ¬ (48 ≤ tg_ l p ∧ tg_ l p ≤ 57) := fun e => no ⟨rfl, e⟩
        have eq2 : qd_ l 3 p 0 = (0, p) := by
          rw [qd_s (n := 2), if_neg e]
        rw [if_pos rfl, eq, eq2] at h
        refine h s 0 ?_ F ⟨by decide, fun _ q => absurd ?_ q⟩
        · show rsc_ s l p (if (if p = p then (-1 : Int) else 0) = -1 then p else -1)
          rw [if_pos rfl, if_pos rfl]
          exact S
        · show (if p = p then (-1 : Int) else 0) = -1
          rw [if_pos rfl]
      · rw [if_neg c] at h S
        exact h s 0 S F ⟨by decide, fun q => absurd q c⟩
    have nw : (if w = -1 then p else w) ≠ -1 := by
      split
      · omega
      · assumption
    have e17 := S.2.2.1
    have l17 := S.2.2.2
    refine hK.1 [7, 50] 60 _ _ _ _ _ ?_
    refine bc_ob_i (by decide) ?_
    refine bc_br_i (fun _ => ?_) (fun c => absurd (by decide) c)
    refine bc_ob_i (by rw [e17]; constructor <;> constructor <;> omega) ?_
    rw [e17]
    refine bc_br_i (fun c => absurd c nw) (fun _ => ?_)
    exact out
end REF
end
section
/-! the reference reads a word -/
noncomputable def so_ (w : Int) : Int := if w = 0 then 0 else if w = 1 then 7 else if w = 2 then 12 else if w = 3 then 16 else if w = 4 then 22 else if w = 5 then 29 else if w = 6 then 37 else if w = 7 then 44 else if w = 8 then 50 else if w = 9 then 54 else 57
theorem wd_len {m : Nat} (hm : m < 10) : so_ ((m : Int) + 1) - so_ (m : Int) = ((bc_tx m).length : Int) ∧ 3 ≤ (bc_tx m).length ∧ (bc_tx m).length ≤ 8 ∧ 0 ≤ so_ (m : Int) ∧ so_ (m : Int) + ((bc_tx m).length : Int) ≤ 57 ∧ (∀ c ∈ bc_tx m, 1 ≤ c ∧ c ≤ 126) := by
  have : m = 0 ∨ m = 1 ∨ m = 2 ∨ m = 3 ∨ m = 4 ∨ m = 5 ∨ m = 6 ∨ m = 7 ∨ m = 8 ∨ m = 9 := by omega
  rcases this with rfl | rfl | rfl | rfl | rfl | rfl | rfl | rfl | rfl | rfl <;> decide
theorem wd_at {m : Nat} (hm : m < 10) : ∀ k : Nat, k < (bc_tx m).length → (bc_tx 16).getD (so_ (m : Int) + (k : Int)).toNat 0 = (bc_tx m).getD k 0 := by
  have : m = 0 ∨ m = 1 ∨ m = 2 ∨ m = 3 ∨ m = 4 ∨ m = 5 ∨ m = 6 ∨ m = 7 ∨ m = 8 ∨ m = 9 := by omega
  rcases this with rfl | rfl | rfl | rfl | rfl | rfl | rfl | rfl | rfl | rfl <;> decide
section REF
variable {g : bc_C} {d : Nat} {σ : bc_M} {l : List Int} {p w : Int} {Rr : Option bc_A → bc_M → Prop} {X : Nat → bc_M → Prop}
theorem t_X11_startOf {i : Int} (hi : 0 ≤ i ∧ i ≤ 10) (h : Rr (some (bc_I (so_ i))) σ) : bc_Sem g (d + 1) mX11_startOf [bc_I i] σ Rr X := by
  have : i = 0 ∨ i = 1 ∨ i = 2 ∨ i = 3 ∨ i = 4 ∨ i = 5 ∨ i = 6 ∨ i = 7 ∨ i = 8 ∨ i = 9 ∨ i = 10 := by omega
  refine e_X11_startOf rfl (fun K hK => ?_)
  refine hK.1 [] 60 _ _ _ _ _ ?_
  refine bc_ob_i (by constructor <;> omega) ?_
  rcases this with rfl | rfl | rfl | rfl | rfl | rfl | rfl | rfl | rfl | rfl | rfl
  all_goals
    repeat' refine bc_br_i (fun c => ?_) (fun c => ?_)
  all_goals first | (exfalso; revert c; decide) | exact h | (exfalso; omega)
theorem t_X11_kindHere (hS : rsc_ σ l p (-1)) (h : ∀ σ', rsc_ σ' l (if (qw_ l p 10 0).1 = -1 then p else (qw_ l p 10 0).2) (if (qw_ l p 10 0).1 = -1 then (qw_ l p 10 0).2 else -1) → rsf_ σ σ' → Rr (some (bc_I (qw_ l p 10 0).1)) σ') : bc_Sem g (d + 2) mX11_kindHere [bc_R 218] σ Rr X := by
  obtain ⟨⟨⟨a1, a2⟩, a3, a4⟩, ⟨b1, b2, b3⟩, c1, c2⟩ := id hS
  generalize hW : qw_ l p 10 0 = W at *
  refine e_X11_kindHere rfl (fun K hK => ?_)
  -- no word
  have En : ∀ (b : Int) (z : bc_LV), 0 ≤ b → p + b ≤ l.length → W = (-1, p + b) → K 121 ([(0, bc_R 218), (1, bc_I (p + b)), (2, bc_I (-1))] ++ z) [] σ 0 := by
    intro b z b0 bl e
    rw [e] at h
    rw [if_pos rfl, if_pos rfl] at h
    have S1 := rsc_17 hS (v := p + b) (by omega)
    have e16 := S1.2.1.1
    have S2 := rsc_16 S1 (v := p) (by omega)
    refine hK.2 _ _ [(0, bc_R 218), (1, bc_I (p + b)), (2, bc_I (-1))] _ _ _ (ls_ _ _) ?_
    refine hK.1 [] 60 _ _ _ _ _ ?_
    refine bc_ob_i (by decide) ?_
    refine bc_br_i (fun _ => ?_) (fun c => absurd (by decide) c)
    refine bc_ob_i (by decide) ?_
    refine bc_br_i (fun _ => ?_) (fun c => absurd (by decide) c)
    refine h _ ?_ (rsf_trans rsf_17 rsf_16)
    rw [e16, show p + 0 = p by omega]
    exact S2
  -- a word
  have Ey : ∀ (m : Nat) (far : Int) (z : bc_LV), m < 10 → p + (bc_tx m).length ≤ l.length → W = ((m : Int), p + (bc_tx m).length) → K 121 ([(0, bc_R 218), (1, bc_I far), (2, bc_I m)] ++ z) [] σ 0 := by
    intro m far z hm bl e
    obtain ⟨w1, w2, w3, w4, w5, w6⟩ := wd_len hm
    rw [e] at h
    rw [if_neg (show ¬ (m : Int) = -1 by omega), if_neg (show ¬ (m : Int) = -1 by omega)] at h
    have S1 := rsc_17 hS (v := σ.1 218 ((17 : Nat) : Int)) (by rw [c1]; decide)
    have e16 := S1.2.1.1
    rw [c1] at S1
    have S2 := rsc_16 S1 (v := p + (bc_tx m).length) (by omega)
    refine hK.2 _ _ [(0, bc_R 218), (1, bc_I far), (2, bc_I m)] _ _ _ (ls_ _ _) ?_
    refine hK.1 [] 90 _ _ _ _ _ ?_
    refine bc_ob_i (by constructor <;> constructor <;> omega) ?_
    refine bc_br_i (fun c => absurd c (by omega)) (fun _ => ?_)
    refine bc_ob_i (by constructor <;> constructor <;> omega) ?_
    refine bc_br_i (fun c => absurd c (by omega)) (fun _ => ?_)
    refine t_X11_startOf (by omega) ?_
    refine t_X11_startOf (by omega) ?_
    refine h _ ?_ (rsf_trans rsf_17 rsf_16)
    rw [e16, w1, c1]
    exact S2
  have F9 : ∀ (m : Nat) (far i : Int) (z : bc_LV), m < 10 → (0 ≤ i ∧ i ≤ 10) → p + (bc_tx m).length ≤ l.length → W = ((m : Int), p + (bc_tx m).length) → K 9 ([(0, bc_R 218), (1, bc_I far), (2, bc_I m), (3, bc_I i)] ++ z) [] σ 0 := by
    intro m far i z hm hi bl e
    have go := Ey m far [(3, bc_I i)] hm bl e
    refine hK.2 _ _ [(0, bc_R 218), (1, bc_I far), (2, bc_I m), (3, bc_I i)] _ _ _ (ls_ _ _) ?_
    refine hK.1 [121] 60 _ _ _ _ _ ?_
    refine bc_ob_i (by constructor <;> constructor <;> omega) ?_
    refine bc_br_i (fun c => ?_) (fun _ => go)
    refine bc_ob_i (by constructor <;> constructor <;> omega) ?_
    refine bc_br_i (fun c => absurd c (by omega)) (fun _ => go)
  have L : ∀ n : Nat, n ≤ 10 → ∀ b z, 0 ≤ b → p + b ≤ l.length → W = qw_ l p n b → K 9 ([(0, bc_R 218), (1, bc_I (p + b)), (2, bc_I (-1)), (3, bc_I (10 - n))] ++ z) [] σ 0 := by
    intro n
    induction n with
    | zero =>
      intro hn b z b0 b1 h1
      refine hK.2 _ _ [(0, bc_R 218), (1, bc_I (p + b)), (2, bc_I (-1)), (3, bc_I (10 - ((0 : Nat) : Int)))] _ _ _ (ls_ _ _) ?_
      refine hK.1 [121] 60 _ _ _ _ _ ?_
      refine bc_ob_i (by decide) ?_
      refine bc_br_i (fun c => absurd c (by decide)) (fun _ => ?_)
      exact En b [(3, bc_I (10 - ((0 : Nat) : Int)))] b0 b1 h1
    | succ n ih =>
      intro hn b z b0 bl h1
      refine hK.2 _ _ [(0, bc_R 218), (1, bc_I (p + b)), (2, bc_I (-1)), (3, bc_I (10 - ((n + 1 : Nat) : Int)))] _ _ _ (ls_ _ _) ?_
      have ek : 10 - ((n + 1 : Nat) : Int) = ((9 - n : Nat) : Int) := by omega
      have ek2 : 10 - (n : Int) = ((9 - n : Nat) : Int) + 1 := by omega
      rw [ek]
      rw [ek2] at ih
      rw [qw_s] at h1
      have hm : 9 - n < 10 := by omega
      generalize 9 - n = m at hm h1 ih ⊢
      obtain ⟨w1, w2, w3, w4, w5, w6⟩ := wd_len hm
      have q1 := qm_in (bc_tx m) p (fun c hc => by have := w6 c hc; omega) b2 b3
      have q2 := qm_le (l := l) (bc_tx m) p
      -- the word's end
      have T90 : ∀ k : Int, k = qm_ l p (bc_tx m) → K 90 [(0, bc_R 218), (1, bc_I (p + b)), (2, bc_I (-1)), (3, bc_I m), (4, bc_I ((bc_tx m).length : Int)), (5, bc_I k)] [] σ 0 := by
        intro k hk
        subst hk
        have e : max (p + b) (σ.1 218 ((16 : Nat) : Int) + qm_ l p (bc_tx m)) = p + max b (qm_ l p (bc_tx m)) := by rw [b1]; omega
        refine hK.1 [9] 60 _ _ _ _ _ ?_
        refine bc_ob_i ⟨by constructor <;> omega, by rw [b1]; constructor <;> omega, Nat.le_of_ble_eq_true rfl⟩ ?_
        refine bc_ob_i (by constructor <;> constructor <;> omega) ?_
        refine bc_br_i (fun c => ?_) (fun c => ?_)
        · rw [if_pos c, c] at h1
          exact F9 m _ _ [(4, bc_I ((bc_tx m).length : Int)), (5, bc_I (qm_ l p (bc_tx m)))] hm (by omega) (by omega) h1
        · rw [if_neg c] at h1
          have go := ih (by omega) (max b (qm_ l p (bc_tx m))) [(4, bc_I ((bc_tx m).length : Int)), (5, bc_I (qm_ l p (bc_tx m)))] (by omega) (by omega) h1
          rw [← e] at go
          exact go
      have Lk : ∀ i : Int, 0 ≤ i → i ≤ (bc_tx m).length → qm_ l p (bc_tx m) = i + qm_ l (p + i) ((bc_tx m).drop i.toNat) → K 36 [(0, bc_R 218), (1, bc_I (p + b)), (2, bc_I (-1)), (3, bc_I m), (4, bc_I ((bc_tx m).length : Int)), (5, bc_I i)] [] σ 0 := by
        refine up_ind ((bc_tx m).length) (fun i hi h0 h1 h2 => ?_) (fun i hi ih h0 h1 h2 => ?_)
        · have ei : i = (bc_tx m).length := by omega
          rw [List.drop_eq_nil_of_le (by omega)] at h2
          have h3 : qm_ l p (bc_tx m) = i + 0 := h2
          refine hK.1 [36, 90] 60 _ _ _ _ _ ?_
          refine bc_ob_i (by constructor <;> constructor <;> omega) ?_
          refine bc_br_i (fun c => absurd c (by omega)) (fun _ => ?_)
          exact T90 i (by omega)
        · have hlt : i.toNat < (bc_tx m).length := by omega
          have hd : (bc_tx m).drop i.toNat = (bc_tx m)[i.toNat] :: (bc_tx m).drop (i.toNat + 1) := List.drop_eq_getElem_cons hlt
          have hge : (bc_tx m).getD i.toNat 0 = (bc_tx m)[i.toNat] := by rw [List.getD_eq_getElem?_getD, List.getElem?_eq_getElem hlt]; rfl
          have hc := w6 _ (List.getElem_mem hlt)
          have hwa := wd_at hm i.toNat hlt
          rw [hge, show ((i.toNat : Nat) : Int) = i by omega] at hwa
          have hg := tg_le a4 (p + i)
          rw [hd, qm_c] at h2
          have out : ¬ tg_ l (p + i) = ((bc_tx m)[i.toNat] : Nat) → K 90 [(0, bc_R 218), (1, bc_I (p + b)), (2, bc_I (-1)), (3, bc_I m), (4, bc_I ((bc_tx m).length : Int)), (5, bc_I i)] [] σ 0 := by
            intro no
            rw [if_neg no] at h2
            exact T90 i (by omega)
          refine hK.1 [36, 90] 90 _ _ _ _ _ ?_
          refine bc_ob_i (by constructor <;> constructor <;> omega) ?_
          refine bc_br_i (fun _ => ?_) (fun c => absurd c (by omega))
          refine bc_ob_i (by rw [b1, a1]; constructor <;> constructor <;> omega) ?_
          rw [b1, a1]
          refine bc_br_i (fun c => ?_) (fun c => ?_)
          · have et := rsc_at hS (i := p + i) (by omega) c
            refine bc_ob_i (by rw [b1]; omega) ?_
            refine t_X11_startOf (by omega) ?_
            refine bc_ob_i ⟨⟨⟨by omega, by omega⟩, Nat.le_of_ble_eq_true rfl⟩, by omega, show so_ (m : Int) + i < 57 by omega⟩ ?_
            have hv : (((bc_tx (1016 - 1000)).getD (so_ (m : Int) + i).toNat 0 : Nat) : Int) = ((bc_tx m)[i.toNat] : Nat) := congrArg _ hwa
            refine bc_ob_i (by rw [b1, et, hv]; constructor <;> constructor <;> omega) ?_
            rw [b1, et, hv]
            refine bc_br_i (fun c2 => ?_) (fun c2 => ?_)
            · rw [if_pos c2] at h2
              refine ih (by omega) (by omega) ?_
              rw [h2, show (i + 1).toNat = i.toNat + 1 by omega, show p + (i + 1) = p + i + 1 by omega]
              omega
            · exact out c2
          · refine out (fun e => ?_)
            have : tg_ l (p + i) = 0 := by
              unfold tg_
              rw [if_neg (by omega)]
            omega
      refine hK.1 [36] 60 _ _ _ _ _ ?_
      refine bc_ob_i (by constructor <;> constructor <;> omega) ?_
      refine bc_br_i (fun _ => ?_) (fun c => absurd c (by omega))
      refine bc_ob_i (by decide) ?_
      refine bc_br_i (fun _ => ?_) (fun c => absurd (by decide) c)
      refine t_X11_startOf (by omega) ?_
      refine t_X11_startOf (by omega) ?_
      have go := Lk 0 (Int.le_refl 0) (by omega) (by simp)
      rw [← w1] at go
      exact go
  refine hK.1 [9] 60 _ _ _ _ _ ?_
  have go := L 10 (Nat.le_refl 10) 0 [] (Int.le_refl 0) (by omega) hW.symm
  rw [show p + 0 = σ.1 218 ((16 : Nat) : Int) by omega] at go
  exact go
end REF
end
section
/-! the reference reads a command -/
theorem rsc_fr {P : Nat → Prop} {σ σ' : bc_M} {l : List Int} {p w : Int} (h : rsc_ σ l p w) (hf : fr_ P σ σ') (h1 : ¬ P 218) (h2 : ¬ P 225) : rsc_ σ' l p w := by
  unfold rsc_
  rw [hf.1 218 h1, hf.1 225 h2]
  exact h
/-- a run over the forms fs: the values xs, from e to e' -/
noncomputable def rrun_ (l : List Int) : List Nat → Int × Int → List Int → Int × Int → Prop
  | [], e, xs, e' => xs = [] ∧ e' = e
  | f :: fs, e, xs, e' => if (f : Int) = 32 then rrun_ l fs (srd_ l 32 e) xs e' else ∃ x ys, xs = x :: ys ∧ rvx_ l e.1 e.2 f x ∧ rrun_ l fs (srd_ l f e) ys e'
theorem rr_0 {l : List Int} {e : Int × Int} : rrun_ l [] e [] e := ⟨rfl, rfl⟩
theorem rr_b {l : List Int} {fs : List Nat} {e e' : Int × Int} {xs : List Int} (h : rrun_ l fs (srd_ l 32 e) xs e') : rrun_ l (32 :: fs) e xs e' := by
  unfold rrun_
  rw [if_pos (by decide)]
  exact h
theorem rr_v {l : List Int} {f : Nat} {fs : List Nat} {e e' : Int × Int} {x : Int} {xs : List Int} (hf : (f : Int) ≠ 32) (hx : rvx_ l e.1 e.2 f x) (h : rrun_ l fs (srd_ l f e) xs e') : rrun_ l (f :: fs) e (x :: xs) e' := by
  unfold rrun_
  rw [if_neg hf]
  exact ⟨x, xs, rfl, hx, h⟩
theorem rr_no {l : List Int} : ∀ (fs : List Nat) {e e' : Int × Int} {xs : List Int}, e.2 ≠ -1 → rrun_ l fs e xs e' → e' = e := by
  intro fs
  induction fs with
  | nil => intro e e' xs _ h; exact h.2
  | cons f fs ih =>
    intro e e' xs he h
    unfold rrun_ at h
    split at h
    · rw [srd_no he] at h
      exact ih he h
    · obtain ⟨x, ys, -, -, h⟩ := h
      rw [srd_no he] at h
      exact ih he h
theorem rr_qg {l : List Int} {c : Int} : ∀ (fs : List Nat) {p n : Int} {xs : List Int} {e' : Int × Int} {A : gr_t}, 0 ≤ p → p ≤ l.length → 0 ≤ n → n + xs.length ≤ 3 → rrun_ l fs (p, -1) xs e' → ((qg_ l c fs p n A).1 = 0 ∧ e'.2 = (qg_ l c fs p n A).2.1 ∧ e'.2 ≠ -1) ∨ ((qg_ l c fs p n A).1 = 1 ∧ e' = ((qg_ l c fs p n A).2.1, -1) ∧ (∀ j : Nat, j < xs.length → (qg_ l c fs p n A).2.2 c (n + j) = xs.getD j 0) ∧ ∀ j : Int, j < n → (qg_ l c fs p n A).2.2 c j = A c j) := by
  intro fs
  induction fs with
  | nil =>
    intro p n xs e' A p0 p1 n0 n3 h
    obtain ⟨rfl, rfl⟩ := h
    exact .inr ⟨rfl, rfl, fun j hj => absurd hj (Nat.not_lt_zero _), fun _ _ => rfl⟩
  | cons f fs ih =>
    intro p n xs e' A p0 p1 n0 n3 h
    rw [qg_c]
    unfold rrun_ at h
    by_cases hf : (f : Int) = 32
    · rw [if_pos hf] at h ⊢
      unfold srd_ at h
      rw [if_pos rfl, if_pos rfl] at h
      by_cases t : tg_ l p = 32
      · rw [if_pos t] at h ⊢
        have hp := (tg_in (l := l) (p := p) (by omega)).2
        exact ih (by omega) (by omega) n0 n3 h
      · rw [if_neg t] at h ⊢
        have e := rr_no fs (show ((p, p) : Int × Int).2 ≠ -1 by show p ≠ -1; omega) h
        subst e
        exact .inl ⟨rfl, rfl, by show p ≠ -1; omega⟩
    · rw [if_neg hf] at h ⊢
      obtain ⟨x, ys, rfl, hx, h⟩ := h
      have lq := qv_le (l := l) (p := p) (f := (f : Int)) p0 p1
      unfold srd_ at h
      rw [if_pos rfl, if_neg hf] at h
      rw [List.length_cons] at n3
      by_cases v : (qv_ l p f).1 = -1
      · rw [if_pos (.inl v)]
        have h2 : rrun_ l fs ((qv_ l p f).2, (qv_ l p f).2) ys e' := by
          have := h
          rw [show ((if (qv_ l ((p, (-1 : Int)) : Int × Int).1 f).1 = -1 then (qv_ l ((p, (-1 : Int)) : Int × Int).1 f).2 else -1) : Int) = (qv_ l p f).2 from if_pos v] at this
          exact this
        have e := rr_no fs (show (((qv_ l p f).2, (qv_ l p f).2) : Int × Int).2 ≠ -1 by show (qv_ l p f).2 ≠ -1; omega) h2
        subst e
        exact .inl ⟨rfl, rfl, by show (qv_ l p f).2 ≠ -1; omega⟩
      · rw [if_neg (by omega)]
        have h2 : rrun_ l fs ((qv_ l p f).2, -1) ys e' := by
          have := h
          rw [show ((if (qv_ l ((p, (-1 : Int)) : Int × Int).1 f).1 = -1 then (qv_ l ((p, (-1 : Int)) : Int × Int).1 f).2 else -1) : Int) = -1 from if_neg v] at this
          exact this
        have ex := hx.2 rfl v
        rcases ih (A := ug_ A c n (qv_ l p f).1) (by omega) (by omega) (by omega : 0 ≤ n + 1) (by omega) h2 with r | ⟨r1, r2, r3, r4⟩
        · exact .inl r
        · refine .inr ⟨r1, r2, fun j hj => ?_, fun j hj => ?_⟩
          · cases j with
            | zero =>
              have e := r4 n (by omega)
              rw [show n + ((0 : Nat) : Int) = n by omega, e]
              show (if c = c ∧ n = n then (qv_ l p f).1 else A c n) = x
              rw [if_pos ⟨rfl, rfl⟩]
              exact ex.symm
            | succ j =>
              have e := r3 j (by rw [List.length_cons] at hj; omega)
              rw [show n + ((j + 1 : Nat) : Int) = n + 1 + (j : Int) by omega, e]
              rfl
          · rw [r4 j (by omega)]
            show (if c = c ∧ j = n then (qv_ l p f).1 else A c j) = A c j
            rw [if_neg (by omega)]
noncomputable def ari_ (k : Int) : Int := if k = 0 ∨ k = 1 ∨ k = 8 then 3 else if k = 2 then 2 else 1
/-- what a command's reading has laid down -/
noncomputable def rcm_ (l : List Int) (p c : Int) (F F' : Int → Int) (p' w' : Int) : Prop :=
  (∀ j : Int, ¬ (4 * c ≤ j ∧ j < 4 * c + 4) → F' j = F j) ∧ (∀ j : Int, F' j = F j ∨ (-1 ≤ F' j ∧ F' j ≤ 999)) ∧
  (((qw_ l p 10 0).1 = -1 ∧ w' = (qw_ l p 10 0).2) ∨ ((qw_ l p 10 0).1 ≠ -1 ∧ ∀ A : gr_t, ((qa_ l (qw_ l p 10 0).2 c (qw_ l p 10 0).1 A).1 = 0 ∧ w' = (qa_ l (qw_ l p 10 0).2 c (qw_ l p 10 0).1 A).2.1 ∧ w' ≠ -1) ∨ ((qa_ l (qw_ l p 10 0).2 c (qw_ l p 10 0).1 A).1 = 1 ∧ p' = (qa_ l (qw_ l p 10 0).2 c (qw_ l p 10 0).1 A).2.1 ∧ w' = -1 ∧ F' (4 * c) = (qw_ l p 10 0).1 ∧ ∀ j : Int, 0 ≤ j → j < ari_ (qw_ l p 10 0).1 → F' (4 * c + 1 + j) = (qa_ l (qw_ l p 10 0).2 c (qw_ l p 10 0).1 A).2.2 c j)))
theorem rcm_mk {l : List Int} {p c k : Int} {F F' : Int → Int} {p1 : Int} {fs : List Nat} {xs : List Int} {e' : Int × Int} (hk : (qw_ l p 10 0).1 = k) (k0 : 0 ≤ k) (h2 : (qw_ l p 10 0).2 = p1) (p0 : 0 ≤ p1) (pl : p1 ≤ l.length) (hfs : bc_tx (fx_ k) = fs) (h9 : ¬ (k = 9 ∧ tg_ l p1 ≠ 32)) (run : rrun_ l fs (p1, -1) xs e') (hx : (xs.length : Int) = ari_ k) (hb : F' (4 * c) = k) (hv : ∀ j : Nat, j < xs.length → F' (4 * c + 1 + j) = xs.getD j 0) (hu : ∀ j : Int, ¬ (4 * c ≤ j ∧ j < 4 * c + 4) → F' j = F j) (hl : ∀ j : Int, F' j = F j ∨ (-1 ≤ F' j ∧ F' j ≤ 999)) : rcm_ l p c F F' e'.1 e'.2 := by
  refine ⟨hu, hl, .inr ⟨by omega, fun A => ?_⟩⟩
  have l3 : (xs.length : Int) ≤ 3 := by
    rw [hx]
    unfold ari_
    (repeat' split) <;> decide
  rw [hk, h2]
  unfold qa_
  rw [if_neg h9, hfs]
  rcases rr_qg (c := c) fs (n := 0) (A := A) p0 pl (Int.le_refl 0) (by omega) run with r | ⟨r1, r2, r3, -⟩
  · exact .inl r
  · refine .inr ⟨r1, by rw [r2], by rw [r2], hb, fun j j0 j1 => ?_⟩
    have e := hv j.toNat (by omega)
    have e2 := r3 j.toNat (by omega)
    rw [show ((j.toNat : Nat) : Int) = j by omega] at e e2
    rw [Int.zero_add] at e2
    rw [e, e2]
theorem rcm_1 {l : List Int} {p c k : Int} {F : Int → Int} {p1 : Int} {fs : List Nat} {x : Int} {e' : Int × Int} (hk : (qw_ l p 10 0).1 = k) (k0 : 0 ≤ k) (k9 : k ≤ 9) (h2 : (qw_ l p 10 0).2 = p1) (p0 : 0 ≤ p1) (pl : p1 ≤ l.length) (hfs : bc_tx (fx_ k) = fs) (h9 : ¬ (k = 9 ∧ tg_ l p1 ≠ 32)) (run : rrun_ l fs (p1, -1) [x] e') (hx : ari_ k = 1) (l0 : 0 ≤ x ∧ x ≤ 999) : rcm_ l p c F (up_ (up_ (up_ F (4 * c) k) (4 * c + 1) 1) (4 * c + 1) x) e'.1 e'.2 := by
  refine rcm_mk hk k0 h2 p0 pl hfs h9 run (by rw [hx]; rfl) ?_ (fun j hj => ?_) (fun j hj => ?_) (fun j => ?_)
  · rw [up_ne (by omega), up_ne (by omega), up_at]
  · have : j = 0 := by simpa using hj
    subst this
    rw [show 4 * c + 1 + ((0 : Nat) : Int) = 4 * c + 1 by omega, up_at]
    rfl
  · rw [up_ne (by omega), up_ne (by omega), up_ne (by omega)]
  · unfold up_
    (repeat' split) <;> first | exact .inl rfl | (refine .inr ?_; omega)
theorem rcm_2 {l : List Int} {p c k : Int} {F : Int → Int} {p1 : Int} {fs : List Nat} {x y : Int} {e' : Int × Int} (hk : (qw_ l p 10 0).1 = k) (k0 : 0 ≤ k) (k9 : k ≤ 9) (h2 : (qw_ l p 10 0).2 = p1) (p0 : 0 ≤ p1) (pl : p1 ≤ l.length) (hfs : bc_tx (fx_ k) = fs) (h9 : ¬ (k = 9 ∧ tg_ l p1 ≠ 32)) (run : rrun_ l fs (p1, -1) [x, y] e') (hx : ari_ k = 2) (l0 : 0 ≤ x ∧ x ≤ 999) (l1 : 0 ≤ y ∧ y ≤ 999) : rcm_ l p c F (up_ (up_ (up_ (up_ F (4 * c) k) (4 * c + 1) 1) (4 * c + 1) x) (4 * c + 2) y) e'.1 e'.2 := by
  refine rcm_mk hk k0 h2 p0 pl hfs h9 run (by rw [hx]; rfl) ?_ (fun j hj => ?_) (fun j hj => ?_) (fun j => ?_)
  · rw [up_ne (by omega), up_ne (by omega), up_ne (by omega), up_at]
  · have : j = 0 ∨ j = 1 := by simp at hj; omega
    rcases this with rfl | rfl
    · rw [show 4 * c + 1 + ((0 : Nat) : Int) = 4 * c + 1 by omega, up_ne (by omega), up_at]
      rfl
    · rw [show 4 * c + 1 + ((1 : Nat) : Int) = 4 * c + 2 by omega, up_at]
      rfl
  · rw [up_ne (by omega), up_ne (by omega), up_ne (by omega), up_ne (by omega)]
  · unfold up_
    (repeat' split) <;> first | exact .inl rfl | (refine .inr ?_; omega)
theorem rcm_3 {l : List Int} {p c k : Int} {F : Int → Int} {p1 : Int} {fs : List Nat} {x y v : Int} {e' : Int × Int} (hk : (qw_ l p 10 0).1 = k) (k0 : 0 ≤ k) (k9 : k ≤ 9) (h2 : (qw_ l p 10 0).2 = p1) (p0 : 0 ≤ p1) (pl : p1 ≤ l.length) (hfs : bc_tx (fx_ k) = fs) (h9 : ¬ (k = 9 ∧ tg_ l p1 ≠ 32)) (run : rrun_ l fs (p1, -1) [x, y, v] e') (hx : ari_ k = 3) (l0 : 0 ≤ x ∧ x ≤ 999) (l1 : 0 ≤ y ∧ y ≤ 999) (l2 : 0 ≤ v ∧ v ≤ 999) : rcm_ l p c F (up_ (up_ (up_ (up_ (up_ F (4 * c) k) (4 * c + 1) 1) (4 * c + 1) x) (4 * c + 2) y) (4 * c + 3) v) e'.1 e'.2 := by
  refine rcm_mk hk k0 h2 p0 pl hfs h9 run (by rw [hx]; rfl) ?_ (fun j hj => ?_) (fun j hj => ?_) (fun j => ?_)
  · rw [up_ne (by omega), up_ne (by omega), up_ne (by omega), up_ne (by omega), up_at]
  · have : j = 0 ∨ j = 1 ∨ j = 2 := by simp at hj; omega
    rcases this with rfl | rfl | rfl
    · rw [show 4 * c + 1 + ((0 : Nat) : Int) = 4 * c + 1 by omega, up_ne (by omega), up_ne (by omega), up_at]
      rfl
    · rw [show 4 * c + 1 + ((1 : Nat) : Int) = 4 * c + 2 by omega, up_ne (by omega), up_at]
      rfl
    · rw [show 4 * c + 1 + ((2 : Nat) : Int) = 4 * c + 3 by omega, up_at]
      rfl
  · rw [up_ne (by omega), up_ne (by omega), up_ne (by omega), up_ne (by omega), up_ne (by omega)]
  · unfold up_
    (repeat' split) <;> first | exact .inl rfl | (refine .inr ?_; omega)
/-- within a command's reading: from σ -/
noncomputable def rqs_ (σ : bc_M) (l : List Int) (c p w : Int) (F : Int → Int) (s : bc_M) : Prop := rsc_ s l p w ∧ s.1 227 = F ∧ s.1 218 ((18 : Nat) : Int) = c ∧ fr_ (fun k => k = 218 ∨ k = 227) σ s ∧ fj_ (fun j => j = 16 ∨ j = 17 ∨ j = 18) σ s
theorem rqs_v {σ s s' : bc_M} {l : List Int} {c p w p' w' : Int} {F : Int → Int} (h : rqs_ σ l c p w F s) (S : rsc_ s' l p' w') (G : rsf_ s s') : rqs_ σ l c p' w' F s' := by
  obtain ⟨h1, h2, h3, h4, h5⟩ := h
  refine ⟨S, by rw [G.1.1 227 (by decide)]; exact h2, ?_, fr_trans h4 (fr_mono G.1 (fun k hk => .inl hk)), fj_trans h5 (fun j hj => G.2 j (fun e => hj (by rcases e with e | e <;> simp [e])))⟩
  rw [G.2 ((18 : Nat) : Int) (by decide)]
  exact h3
theorem rqs_n {σ s : bc_M} {l : List Int} {c p w i v : Int} {F : Int → Int} (h : rqs_ σ l c p w F s) : rqs_ σ l c p w (up_ F i v) (bc_wr s 227 i v) := by
  obtain ⟨h1, h2, h3, h4, h5⟩ := h
  have F1 : fr_ (fun k => k = 227) s (bc_wr s 227 i v) := fr_wr rfl
  refine ⟨rsc_fr h1 F1 (by decide) (by decide), ?_, by rw [F1.1 218 (by decide)]; exact h3, fr_trans h4 (fr_mono F1 (fun k hk => .inr hk)), fj_trans h5 (fj_fr F1 (by decide))⟩
  funext j
  show (if (227 : Nat) = 227 then (if j = i then v else s.1 227 j) else s.1 227 j) = (if j = i then v else F j)
  rw [if_pos rfl, h2]
theorem rcm_9 {l : List Int} {p c : Int} {F : Int → Int} {p1 : Int} (hk : (qw_ l p 10 0).1 = 9) (h2 : (qw_ l p 10 0).2 = p1) (h9 : tg_ l p1 ≠ 32) : rcm_ l p c F (up_ (up_ F (4 * c) 9) (4 * c + 1) 1) p1 (-1) := by
  refine ⟨fun j hj => ?_, fun j => ?_, .inr ⟨by omega, fun A => ?_⟩⟩
  · rw [up_ne (by omega), up_ne (by omega)]
  · unfold up_
    (repeat' split) <;> first | exact .inl rfl | (refine .inr ?_; omega)
  · rw [hk, h2]
    unfold qa_
    rw [if_pos ⟨rfl, h9⟩]
    refine .inr ⟨rfl, rfl, rfl, ?_, fun j j0 j1 => ?_⟩
    · rw [up_ne (by omega), up_at]
    · have : j = 0 := by
        have e : ari_ 9 = 1 := by decide
        omega
      subst this
      rw [show 4 * c + 1 + 0 = 4 * c + 1 by omega, up_at]
      show (1 : Int) = (if c = c ∧ (0 : Int) = 0 then 1 else A c 0)
      rw [if_pos ⟨rfl, rfl⟩]
theorem rqs_t {σ s : bc_M} {l : List Int} {c p w : Int} {F : Int → Int} (h : rqs_ σ l c p w F s) : rqs_ σ l (c + 1) p w F (bc_wr s 218 ((18 : Nat) : Int) (s.1 218 ((18 : Nat) : Int) + 1)) := by
  obtain ⟨⟨⟨⟨a1, a2⟩, a3, a4⟩, ⟨b1, b2⟩, c1, c2⟩, h2, h3, h4, h5⟩ := h
  have F1 : fr_ (fun k => k = 218) s (bc_wr s 218 ((18 : Nat) : Int) (s.1 218 ((18 : Nat) : Int) + 1)) := fr_wr rfl
  refine ⟨⟨⟨⟨?_, a2⟩, fun j hj => ?_, a4⟩, ⟨?_, b2⟩, ?_, c2⟩, by rw [F1.1 227 (by decide)]; exact h2, ?_, fr_trans h4 (fr_mono F1 (fun k hk => .inl hk)), fj_trans h5 (fj_wr (.inr (.inr rfl)))⟩
  · rw [← a1]; simp [bc_wr]
  · rw [← a3 j hj]; simp [bc_wr]
  · rw [← b1]; simp [bc_wr]
  · rw [← c1]; simp [bc_wr]
  · rw [← h3]; simp [bc_wr]
section REF
variable {g : bc_C} {d : Nat} {σ : bc_M} {l : List Int} {p w : Int} {Rr : Option bc_A → bc_M → Prop} {X : Nat → bc_M → Prop}
theorem t_X11_readsCommand {c : Int} {F : Int → Int} (hS : rsc_ σ l p (-1)) (hc : σ.1 218 ((18 : Nat) : Int) = c) (c0 : 0 ≤ c) (c1 : c ≤ 15) (hF : σ.1 227 = F) (h : ∀ s p' w' F', rqs_ σ l (c + 1) p' w' F' s → rcm_ l p c F F' p' w' → Rr none s) : bc_Sem g (d + 5) mX11_readsCommand [bc_R 218] σ Rr X := by
  have lq := qw_le (l := l) (p := p) 10 (b := 0) (Nat.le_refl 10) hS.2.1.2.1 hS.2.1.2.2 hS.1.1.2 (Int.le_refl 0) (by have := hS.2.1.2.2; omega)
  have pl0 := hS.2.1.2
  have ll := hS.1.1.2
  generalize hk : (qw_ l p 10 0).1 = k at lq
  generalize h2 : (qw_ l p 10 0).2 = p1 at lq
  refine e_X11_readsCommand rfl (fun K hK => ?_)
  have T39 : ∀ (s : bc_M), rqs_ σ l (c + 1) (if k = -1 then p else p1) (if k = -1 then p1 else -1) (up_ (up_ F (4 * c) k) (4 * c + 1) 1) s → K 39 [(0, bc_R 218), (1, bc_I (4 * c)), (2, bc_I k)] [bc_R 218] s 0 := by
    intro s Q
    have e17 := Q.1.2.2.1
    by_cases kn : k = -1
    · rw [if_pos kn] at Q
      rw [if_pos kn] at e17 Q
      refine hK.1 [] 60 _ _ _ _ _ ?_
      refine bc_ob_i (by rw [e17]; constructor <;> constructor <;> omega) ?_
      rw [e17]
      refine bc_br_i (fun c => absurd c (by omega)) (fun _ => ?_)
      refine h _ _ _ _ Q ⟨fun j hj => ?_, fun j => ?_, .inl ⟨by omega, h2.symm⟩⟩
      · rw [up_ne (by omega), up_ne (by omega)]
      · unfold up_
        (repeat' split) <;> first | exact .inl rfl | (refine .inr ?_; omega)
    · rw [if_neg kn] at Q
      rw [if_neg kn] at e17 Q
      have lp : 0 ≤ p1 ∧ p1 ≤ l.length := by omega
      have T47 : K 47 [(0, bc_R 218), (1, bc_I (4 * c)), (2, bc_I k)] [] s 0 := by
        have Q0 := Q
        have kk : k = 0 ∨ k = 1 ∨ k = 2 ∨ k = 3 ∨ k = 4 ∨ k = 5 ∨ k = 6 ∨ k = 7 ∨ k = 8 ∨ k = 9 := by omega
        rcases kk with rfl | rfl | rfl | rfl | rfl | rfl | rfl | rfl | rfl | rfl
        · refine hK.1 [] 400 _ _ _ _ _ ?_
          refine bc_ob_i (by decide) ?_
          refine bc_br_i (fun c => absurd c (by decide)) (fun _ => ?_)
          refine bc_ob_i (by decide) ?_
          refine bc_br_i (fun _ => ?_) (fun c => absurd (by decide) c)
          refine bc_ob_i (by decide) ?_
          refine bc_br_i (fun c => absurd c (by decide)) (fun _ => ?_)
          refine bc_ob_i (by decide) ?_
          refine bc_br_i (fun c => absurd c (by decide)) (fun _ => ?_)
          refine t_X11_digit Q0.1 (fun s1 x1 S1 G1 V1 => ?_)
          have Q1 := rqs_v Q0 S1 G1
          refine bc_ob_i (by omega) ?_
          have Q2 := rqs_n (i := 4 * c + 1) (v := x1) Q1
          refine bc_ob_i (by decide) ?_
          refine bc_br_i (fun _ => ?_) (fun c => absurd (by decide) c)
          refine t_X11_digit Q2.1 (fun s3 x3 S3 G3 V3 => ?_)
          have Q3 := rqs_v Q2 S3 G3
          refine bc_ob_i (by omega) ?_
          have Q4 := rqs_n (i := 4 * c + 2) (v := x3) Q3
          refine t_X11_blank Q4.1 (fun s5 S5 G5 => ?_)
          have Q5 := rqs_v Q4 S5 G5
          refine t_X11_number Q5.1 (fun s6 x6 S6 G6 V6 => ?_)
          have Q6 := rqs_v Q5 S6 G6
          refine bc_ob_i (by omega) ?_
          have Q7 := rqs_n (i := 4 * c + 3) (v := x6) Q6
          refine bc_ob_i (by decide) ?_
          refine bc_br_i (fun c => absurd c (by decide)) (fun _ => ?_)
          refine bc_ob_i (by decide) ?_
          refine bc_br_i (fun c => absurd c (by decide)) (fun _ => ?_)
          exact h _ _ _ _ Q7 (rcm_3 hk (by decide) (by decide) h2 lp.1 lp.2 rfl (fun q => absurd q.1 (by decide)) (rr_v (by decide) V1 (rr_v (by decide) V3 (rr_b (rr_v (by decide) V6 rr_0)))) (by decide) V1.1 V3.1 V6.1)
        · refine hK.1 [] 400 _ _ _ _ _ ?_
          refine bc_ob_i (by decide) ?_
          refine bc_br_i (fun c => absurd c (by decide)) (fun _ => ?_)
          refine bc_ob_i (by decide) ?_
          refine bc_br_i (fun _ => ?_) (fun c => absurd (by decide) c)
          refine bc_ob_i (by decide) ?_
          refine bc_br_i (fun c => absurd c (by decide)) (fun _ => ?_)
          refine bc_ob_i (by decide) ?_
          refine bc_br_i (fun c => absurd c (by decide)) (fun _ => ?_)
          refine t_X11_digit Q0.1 (fun s1 x1 S1 G1 V1 => ?_)
          have Q1 := rqs_v Q0 S1 G1
          refine bc_ob_i (by omega) ?_
          have Q2 := rqs_n (i := 4 * c + 1) (v := x1) Q1
          refine bc_ob_i (by decide) ?_
          refine bc_br_i (fun _ => ?_) (fun c => absurd (by decide) c)
          refine t_X11_digit Q2.1 (fun s3 x3 S3 G3 V3 => ?_)
          have Q3 := rqs_v Q2 S3 G3
          refine bc_ob_i (by omega) ?_
          have Q4 := rqs_n (i := 4 * c + 2) (v := x3) Q3
          refine t_X11_blank Q4.1 (fun s5 S5 G5 => ?_)
          have Q5 := rqs_v Q4 S5 G5
          refine t_X11_number Q5.1 (fun s6 x6 S6 G6 V6 => ?_)
          have Q6 := rqs_v Q5 S6 G6
          refine bc_ob_i (by omega) ?_
          have Q7 := rqs_n (i := 4 * c + 3) (v := x6) Q6
          refine bc_ob_i (by decide) ?_
          refine bc_br_i (fun c => absurd c (by decide)) (fun _ => ?_)
          refine bc_ob_i (by decide) ?_
          refine bc_br_i (fun c => absurd c (by decide)) (fun _ => ?_)
          exact h _ _ _ _ Q7 (rcm_3 hk (by decide) (by decide) h2 lp.1 lp.2 rfl (fun q => absurd q.1 (by decide)) (rr_v (by decide) V1 (rr_v (by decide) V3 (rr_b (rr_v (by decide) V6 rr_0)))) (by decide) V1.1 V3.1 V6.1)
        · refine hK.1 [] 400 _ _ _ _ _ ?_
          refine bc_ob_i (by decide) ?_
          refine bc_br_i (fun c => absurd c (by decide)) (fun _ => ?_)
          refine bc_ob_i (by decide) ?_
          refine bc_br_i (fun c => absurd c (by decide)) (fun _ => ?_)
          refine bc_ob_i (by decide) ?_
          refine bc_br_i (fun c => absurd c (by decide)) (fun _ => ?_)
          refine bc_ob_i (by decide) ?_
          refine bc_br_i (fun c => absurd c (by decide)) (fun _ => ?_)
          refine bc_ob_i (by decide) ?_
          refine bc_br_i (fun _ => ?_) (fun c => absurd (by decide) c)
          refine t_X11_number Q0.1 (fun s1 x1 S1 G1 V1 => ?_)
          have Q1 := rqs_v Q0 S1 G1
          refine bc_ob_i (by omega) ?_
          have Q2 := rqs_n (i := 4 * c + 1) (v := x1) Q1
          refine bc_ob_i (by decide) ?_
          refine bc_br_i (fun c => absurd c (by decide)) (fun _ => ?_)
          refine bc_ob_i (by decide) ?_
          refine bc_br_i (fun _ => ?_) (fun c => absurd (by decide) c)
          refine t_X11_blank Q2.1 (fun s3 S3 G3 => ?_)
          have Q3 := rqs_v Q2 S3 G3
          refine t_X11_number Q3.1 (fun s4 x4 S4 G4 V4 => ?_)
          have Q4 := rqs_v Q3 S4 G4
          refine bc_ob_i (by omega) ?_
          have Q5 := rqs_n (i := 4 * c + 2) (v := x4) Q4
          refine bc_ob_i (by decide) ?_
          refine bc_br_i (fun c => absurd c (by decide)) (fun _ => ?_)
          exact h _ _ _ _ Q5 (rcm_2 hk (by decide) (by decide) h2 lp.1 lp.2 rfl (fun q => absurd q.1 (by decide)) (rr_v (by decide) V1 (rr_b (rr_v (by decide) V4 rr_0))) (by decide) V1.1 V4.1)
        · refine hK.1 [] 400 _ _ _ _ _ ?_
          refine bc_ob_i (by decide) ?_
          refine bc_br_i (fun c => absurd c (by decide)) (fun _ => ?_)
          refine bc_ob_i (by decide) ?_
          refine bc_br_i (fun c => absurd c (by decide)) (fun _ => ?_)
          refine bc_ob_i (by decide) ?_
          refine bc_br_i (fun c => absurd c (by decide)) (fun _ => ?_)
          refine bc_ob_i (by decide) ?_
          refine bc_br_i (fun c => absurd c (by decide)) (fun _ => ?_)
          refine bc_ob_i (by decide) ?_
          refine bc_br_i (fun _ => ?_) (fun c => absurd (by decide) c)
          refine t_X11_number Q0.1 (fun s1 x1 S1 G1 V1 => ?_)
          have Q1 := rqs_v Q0 S1 G1
          refine bc_ob_i (by omega) ?_
          have Q2 := rqs_n (i := 4 * c + 1) (v := x1) Q1
          refine bc_ob_i (by decide) ?_
          refine bc_br_i (fun c => absurd c (by decide)) (fun _ => ?_)
          refine bc_ob_i (by decide) ?_
          refine bc_br_i (fun c => absurd c (by decide)) (fun _ => ?_)
          refine bc_ob_i (by decide) ?_
          refine bc_br_i (fun c => absurd c (by decide)) (fun _ => ?_)
          exact h _ _ _ _ Q2 (rcm_1 hk (by decide) (by decide) h2 lp.1 lp.2 rfl (fun q => absurd q.1 (by decide)) (rr_v (by decide) V1 rr_0) (by decide) V1.1)
        · refine hK.1 [] 400 _ _ _ _ _ ?_
          refine bc_ob_i (by decide) ?_
          refine bc_br_i (fun c => absurd c (by decide)) (fun _ => ?_)
          refine bc_ob_i (by decide) ?_
          refine bc_br_i (fun c => absurd c (by decide)) (fun _ => ?_)
          refine bc_ob_i (by decide) ?_
          refine bc_br_i (fun c => absurd c (by decide)) (fun _ => ?_)
          refine bc_ob_i (by decide) ?_
          refine bc_br_i (fun c => absurd c (by decide)) (fun _ => ?_)
          refine bc_ob_i (by decide) ?_
          refine bc_br_i (fun _ => ?_) (fun c => absurd (by decide) c)
          refine t_X11_number Q0.1 (fun s1 x1 S1 G1 V1 => ?_)
          have Q1 := rqs_v Q0 S1 G1
          refine bc_ob_i (by omega) ?_
          have Q2 := rqs_n (i := 4 * c + 1) (v := x1) Q1
          refine bc_ob_i (by decide) ?_
          refine bc_br_i (fun c => absurd c (by decide)) (fun _ => ?_)
          refine bc_ob_i (by decide) ?_
          refine bc_br_i (fun c => absurd c (by decide)) (fun _ => ?_)
          refine bc_ob_i (by decide) ?_
          refine bc_br_i (fun c => absurd c (by decide)) (fun _ => ?_)
          exact h _ _ _ _ Q2 (rcm_1 hk (by decide) (by decide) h2 lp.1 lp.2 rfl (fun q => absurd q.1 (by decide)) (rr_v (by decide) V1 rr_0) (by decide) V1.1)
        · refine hK.1 [] 400 _ _ _ _ _ ?_
          refine bc_ob_i (by decide) ?_
          refine bc_br_i (fun c => absurd c (by decide)) (fun _ => ?_)
          refine bc_ob_i (by decide) ?_
          refine bc_br_i (fun c => absurd c (by decide)) (fun _ => ?_)
          refine bc_ob_i (by decide) ?_
          refine bc_br_i (fun c => absurd c (by decide)) (fun _ => ?_)
          refine bc_ob_i (by decide) ?_
          refine bc_br_i (fun c => absurd c (by decide)) (fun _ => ?_)
          refine bc_ob_i (by decide) ?_
          refine bc_br_i (fun _ => ?_) (fun c => absurd (by decide) c)
          refine t_X11_number Q0.1 (fun s1 x1 S1 G1 V1 => ?_)
          have Q1 := rqs_v Q0 S1 G1
          refine bc_ob_i (by omega) ?_
          have Q2 := rqs_n (i := 4 * c + 1) (v := x1) Q1
          refine bc_ob_i (by decide) ?_
          refine bc_br_i (fun c => absurd c (by decide)) (fun _ => ?_)
          refine bc_ob_i (by decide) ?_
          refine bc_br_i (fun c => absurd c (by decide)) (fun _ => ?_)
          refine bc_ob_i (by decide) ?_
          refine bc_br_i (fun c => absurd c (by decide)) (fun _ => ?_)
          exact h _ _ _ _ Q2 (rcm_1 hk (by decide) (by decide) h2 lp.1 lp.2 rfl (fun q => absurd q.1 (by decide)) (rr_v (by decide) V1 rr_0) (by decide) V1.1)
        · refine hK.1 [] 400 _ _ _ _ _ ?_
          refine bc_ob_i (by decide) ?_
          refine bc_br_i (fun c => absurd c (by decide)) (fun _ => ?_)
          refine bc_ob_i (by decide) ?_
          refine bc_br_i (fun c => absurd c (by decide)) (fun _ => ?_)
          refine bc_ob_i (by decide) ?_
          refine bc_br_i (fun c => absurd c (by decide)) (fun _ => ?_)
          refine bc_ob_i (by decide) ?_
          refine bc_br_i (fun c => absurd c (by decide)) (fun _ => ?_)
          refine bc_ob_i (by decide) ?_
          refine bc_br_i (fun _ => ?_) (fun c => absurd (by decide) c)
          refine t_X11_number Q0.1 (fun s1 x1 S1 G1 V1 => ?_)
          have Q1 := rqs_v Q0 S1 G1
          refine bc_ob_i (by omega) ?_
          have Q2 := rqs_n (i := 4 * c + 1) (v := x1) Q1
          refine bc_ob_i (by decide) ?_
          refine bc_br_i (fun c => absurd c (by decide)) (fun _ => ?_)
          refine bc_ob_i (by decide) ?_
          refine bc_br_i (fun c => absurd c (by decide)) (fun _ => ?_)
          refine bc_ob_i (by decide) ?_
          refine bc_br_i (fun c => absurd c (by decide)) (fun _ => ?_)
          exact h _ _ _ _ Q2 (rcm_1 hk (by decide) (by decide) h2 lp.1 lp.2 rfl (fun q => absurd q.1 (by decide)) (rr_v (by decide) V1 rr_0) (by decide) V1.1)
        · refine hK.1 [] 400 _ _ _ _ _ ?_
          refine bc_ob_i (by decide) ?_
          refine bc_br_i (fun c => absurd c (by decide)) (fun _ => ?_)
          refine bc_ob_i (by decide) ?_
          refine bc_br_i (fun c => absurd c (by decide)) (fun _ => ?_)
          refine bc_ob_i (by decide) ?_
          refine bc_br_i (fun c => absurd c (by decide)) (fun _ => ?_)
          refine bc_ob_i (by decide) ?_
          refine bc_br_i (fun _ => ?_) (fun c => absurd (by decide) c)
          refine t_X11_kindOf Q0.1 (fun s1 x1 S1 G1 V1 => ?_)
          have Q1 := rqs_v Q0 S1 G1
          refine bc_ob_i (by omega) ?_
          have Q2 := rqs_n (i := 4 * c + 1) (v := x1) Q1
          refine bc_ob_i (by decide) ?_
          refine bc_br_i (fun c => absurd c (by decide)) (fun _ => ?_)
          refine bc_ob_i (by decide) ?_
          refine bc_br_i (fun c => absurd c (by decide)) (fun _ => ?_)
          refine bc_ob_i (by decide) ?_
          refine bc_br_i (fun c => absurd c (by decide)) (fun _ => ?_)
          exact h _ _ _ _ Q2 (rcm_1 hk (by decide) (by decide) h2 lp.1 lp.2 rfl (fun q => absurd q.1 (by decide)) (rr_v (by decide) V1 rr_0) (by decide) V1.1)
        · refine hK.1 [] 400 _ _ _ _ _ ?_
          refine bc_ob_i (by decide) ?_
          refine bc_br_i (fun c => absurd c (by decide)) (fun _ => ?_)
          refine bc_ob_i (by decide) ?_
          refine bc_br_i (fun c => absurd c (by decide)) (fun _ => ?_)
          refine bc_ob_i (by decide) ?_
          refine bc_br_i (fun _ => ?_) (fun c => absurd (by decide) c)
          refine bc_ob_i (by decide) ?_
          refine bc_br_i (fun c => absurd c (by decide)) (fun _ => ?_)
          refine bc_ob_i (by decide) ?_
          refine bc_br_i (fun c => absurd c (by decide)) (fun _ => ?_)
          refine t_X11_digit Q0.1 (fun s1 x1 S1 G1 V1 => ?_)
          have Q1 := rqs_v Q0 S1 G1
          refine bc_ob_i (by omega) ?_
          have Q2 := rqs_n (i := 4 * c + 1) (v := x1) Q1
          refine bc_ob_i (by decide) ?_
          refine bc_br_i (fun c => absurd c (by decide)) (fun _ => ?_)
          refine bc_ob_i (by decide) ?_
          refine bc_br_i (fun c => absurd c (by decide)) (fun _ => ?_)
          refine bc_ob_i (by decide) ?_
          refine bc_br_i (fun _ => ?_) (fun c => absurd (by decide) c)
          refine t_X11_blank Q2.1 (fun s3 S3 G3 => ?_)
          have Q3 := rqs_v Q2 S3 G3
          refine t_X11_kindOf Q3.1 (fun s4 x4 S4 G4 V4 => ?_)
          have Q4 := rqs_v Q3 S4 G4
          refine bc_ob_i (by omega) ?_
          have Q5 := rqs_n (i := 4 * c + 2) (v := x4) Q4
          refine t_X11_number Q5.1 (fun s6 x6 S6 G6 V6 => ?_)
          have Q6 := rqs_v Q5 S6 G6
          refine bc_ob_i (by omega) ?_
          have Q7 := rqs_n (i := 4 * c + 3) (v := x6) Q6
          exact h _ _ _ _ Q7 (rcm_3 hk (by decide) (by decide) h2 lp.1 lp.2 rfl (fun q => absurd q.1 (by decide)) (rr_v (by decide) V1 (rr_b (rr_v (by decide) V4 (rr_v (by decide) V6 rr_0)))) (by decide) V1.1 V4.1 V6.1)
        · refine hK.1 [] 90 _ _ _ _ _ ?_
          refine bc_ob_i (by decide) ?_
          refine bc_br_i (fun _ => ?_) (fun c => absurd (by decide) c)
          refine t_X11_letterHere Q0.1 ?_
          have a4 := Q0.1.1.2.2
          have lg := tg_le a4 p1
          refine bc_ob_i (by split <;> constructor <;> constructor <;> omega) ?_
          refine bc_br_i (fun q => ?_) (fun q => ?_)
          · have t : tg_ l p1 = 32 := by
              split at q
              · exact q
              · omega
            refine t_X11_blank Q0.1 (fun s1 S1 G1 => ?_)
            have Q1 := rqs_v Q0 S1 G1
            refine t_X11_number Q1.1 (fun s2 x2 S2 G2 V2 => ?_)
            have Q2 := rqs_v Q1 S2 G2
            refine bc_ob_i (by omega) ?_
            have Q3 := rqs_n (i := 4 * c + 1) (v := x2) Q2
            exact h _ _ _ _ Q3 (rcm_1 hk (by decide) (by decide) h2 lp.1 lp.2 rfl (fun k => k.2 t) (rr_b (rr_v (by decide) V2 rr_0)) (by decide) V2.1)
          · have t : tg_ l p1 ≠ 32 := by
              intro t
              have hp := (tg_in (l := l) (p := p1) (by omega)).2
              rw [if_pos hp] at q
              exact q t
            exact h _ _ _ _ Q0 (rcm_9 hk h2 t)
      refine hK.1 [47] 60 _ _ _ _ _ ?_
      refine bc_ob_i (by rw [e17]; decide) ?_
      rw [e17]
      refine bc_br_i (fun _ => T47) (fun c => absurd rfl c)
  refine hK.1 [39] 120 _ _ _ _ _ ?_
  refine t_X11_kindHere hS (fun s1 S1 G1 => ?_)
  rw [hk, h2] at S1
  rw [hk]
  have Q1 : rqs_ σ l c (if k = -1 then p else p1) (if k = -1 then p1 else -1) F s1 := ⟨S1, by rw [G1.1.1 227 (by decide)]; exact hF, by rw [G1.2 ((18 : Nat) : Int) (by decide)]; exact hc, fr_mono G1.1 (fun k hk => .inl hk), fun j hj => G1.2 j (fun e => hj (by rcases e with e | e <;> simp [e]))⟩
  have Q2 := rqs_n (i := 4 * c) (v := k) Q1
  have Q3 := rqs_n (i := 4 * c + 1) (v := 1) Q2
  have Q4 := rqs_t Q3
  have go := T39 _ Q4
  refine bc_ob_i (by omega) ?_
  refine bc_ob_i (by omega) ?_
  rw [← hc] at go
  exact go
end REF
end
section
/-! a command's step on a row: what stays so -/
noncomputable def wu_ (B : Int) (q : rw_t) : Prop := wf_M q ∧ wf_N q ∧ wf_T B q ∧ uj_ q
theorem wu_mono {B B' : Int} {q : rw_t} (h : wu_ B q) (hb : B ≤ B') : wu_ B' q := ⟨h.1, h.2.1, wf_T_mono h.2.2.1 hb, h.2.2.2⟩
noncomputable def crow_ (q : rw_t) (k x y z : Int) (q' : rw_t) : Prop :=
  (k = 0 ∧ q' = ra_ q x y z) ∨ (k = 1 ∧ wl_ (z + tw_ q) (wyJ_ q x y) q (xm_ q (xw_ q x 8 y) (-1) y 8 x).toNat q') ∨ (k = 2 ∧ q' = rv_ q x y) ∨ (k = 3 ∧ q' = up_ q 2 x) ∨
  (k = 4 ∧ q' = rn_ (rs_ q (co_ q x)) x) ∨ (k = 5 ∧ q' = rl_ q x 1) ∨ (k = 6 ∧ q' = rl_ q x 0) ∨ (k = 7 ∧ q' = re_ q x) ∨ (k = 8 ∧ q' = rp_ q x z) ∨ (k = 9 ∧ q' = ps_ q x.toNat)
theorem wl_wf {f : Int} {J : Int → Int} {q : rw_t} (hW : wf_M q) (hf : 0 ≤ f) : ∀ (n : Nat) (r : rw_t), wl_ f J q n r → wf_M r ∧ eN_ q r ∧ eT_ q r
  | 0, r, h => by
    have e : r = q := h
    rw [e]
    exact ⟨hW, fun _ _ => rfl, fun _ _ => rfl⟩
  | n + 1, r, h => by
    obtain ⟨q1, x, h1, b1, e1⟩ := h
    obtain ⟨a1, a2, a3⟩ := wl_wf hW hf n q1 h1
    rw [e1]
    split
    · exact ⟨a1, a2, a3⟩
    · rename_i c
      have w := a1.1
      have lx : 0 ≤ x ∧ x < q1 3 := by
        rcases b1 with ⟨e, -⟩ | ⟨x0, x1, -⟩
        · exact absurd e c
        · exact ⟨x0, x1⟩
      obtain ⟨b1, b2, b3⟩ := rd_wf (m := x) (f := f) a1 lx.1 (by omega) hf
      exact ⟨b1, fun j hj => (b2 j hj).trans (a2 j hj), fun j hj => (b3 j hj).trans (a3 j hj)⟩
theorem adr_0 {q : rw_t} {x y s : Int} (h : adr_ q x y s 0) : ((0 ≤ x ∧ x < 8) ∧ 0 ≤ y ∧ y < 8) ∧ (x ≠ y ∧ 1 ≤ s ∧ s ≤ 99) ∧ q 3 < 16 := by
  rcases h with ⟨-, e⟩ | ⟨-, -, e⟩ | ⟨-, -, -, e⟩ | ⟨h1, h2, h3, -, -⟩
  · exact absurd e (by decide)
  · exact absurd e (by decide)
  · exact absurd e (by decide)
  · exact ⟨h1, h2, h3⟩
theorem wkt_0 {q : rw_t} {u v n : Int} (h : wkt_ q u v n = 0) : 1 ≤ n ∧ n ≤ 99 := by
  unfold wkt_ at h
  split at h
  · exact absurd h (by decide)
  · split at h
    · exact absurd h (by decide)
    · omega
theorem cf_0 (r : rw_t) (x y z f : Int) : cf_ r 0 x y z f ↔ mq_ r x y z f := by simp [cf_]
theorem cf_1 (r : rw_t) (x y z f : Int) : cf_ r 1 x y z f ↔ f = wq_ r x y z := by simp [cf_]
theorem cf_2 (r : rw_t) (x y z f : Int) : cf_ r 2 x y z f ↔ f = vq_ r x y := by simp [cf_]
theorem cf_3 (r : rw_t) (x y z f : Int) : cf_ r 3 x y z f ↔ f = fq1_ x := by simp [cf_]
theorem cf_4 (r : rw_t) (x y z f : Int) : cf_ r 4 x y z f ↔ f = eq_ r x := by simp [cf_]
theorem cf_5 (r : rw_t) (x y z f : Int) : cf_ r 5 x y z f ↔ f = lq_ r x 0 := by simp [cf_]
theorem cf_6 (r : rw_t) (x y z f : Int) : cf_ r 6 x y z f ↔ f = lq_ r x 1 := by simp [cf_]
theorem cf_7 (r : rw_t) (x y z f : Int) : cf_ r 7 x y z f ↔ f = nq1_ x := by simp [cf_]
theorem cf_8 (r : rw_t) (x y z f : Int) : cf_ r 8 x y z f ↔ f = pq_ r x y z := by simp [cf_]
theorem cf_9 (r : rw_t) (x y z f : Int) : cf_ r 9 x y z f ↔ f = dq_ x := by simp [cf_]
theorem wq_0t {q : rw_t} (hW : wf_M q) (hU : uj_ q) {u v n : Int} (h : 0 = wq_ q u v n) : wkt_ q u v n = 0 := by
  have e := wq_wkt hW hU u v n
  rw [← h] at e
  split at e
  · exact absurd e (by decide)
  · split at e
    · exact absurd e (by decide)
    · exact e.symm
theorem wu_step {B : Int} {q q' : rw_t} {k x y z : Int} (h : wu_ B q) (hc : cf_ q k x y z 0) (hr : crow_ q k x y z q') : wu_ (B + 30) q' := by
  obtain ⟨hM, hN, hT, hU⟩ := h
  have w3 := hM.1
  have w4 : 0 ≤ q 4 := hT.2.2.2.1.1
  have twl : 0 ≤ tw_ q := by
    have := hN
    unfold wf_N at this
    unfold tw_
    omega
  have up : ∀ {r : rw_t} {B' : Int}, wf_M r → wf_N r → wf_T B' r → B' ≤ B + 30 → eJ_ q r → wu_ (B + 30) r := fun a b c d e => ⟨a, b, wf_T_mono c d, uj_eJ w3.2 e hU⟩
  rcases hr with ⟨rfl, rfl⟩ | ⟨rfl, hr⟩ | ⟨rfl, rfl⟩ | ⟨rfl, rfl⟩ | ⟨rfl, rfl⟩ | ⟨rfl, rfl⟩ | ⟨rfl, rfl⟩ | ⟨rfl, rfl⟩ | ⟨rfl, rfl⟩ | ⟨rfl, rfl⟩
  · have hm := mq_adr hU ((cf_0 _ _ _ _ _).mp hc)
    obtain ⟨⟨h1, h2⟩, ⟨-, h3⟩, h4⟩ := adr_0 hm
    obtain ⟨a1, a2, a3⟩ := ra_wf hM h4 h1 h2 h3
    exact ⟨a1, wf_N_e a2 hN, wf_T_mono (wf_T_e a3 hT) (by omega), uj_ra hM hU hm⟩
  · have hw := wq_0t hM hU ((cf_1 _ _ _ _ _).mp hc)
    have lz := wkt_0 hw
    obtain ⟨a1, a2, a3⟩ := wl_wf hM (by omega) _ _ hr
    have e := (wl_eq w3.2 hU _ _ _ (fun _ _ => rfl) hr hr).2
    exact up a1 (wf_N_e a2 hN) (wf_T_e a3 hT) (by omega) e
  · obtain ⟨h1, h2, h3⟩ := vq_0 ((cf_2 _ _ _ _ _).mp hc)
    obtain ⟨a1, a2, a3⟩ := rv_wf hT h1 h2 h3
    exact up (wf_M_e a2 hM) (wf_N_e a3 hN) a1 (by omega) (eJ_rv (eJ_refl q) w4)
  · have h1 := (cf_3 _ _ _ _ _).mp hc
    have lx : 0 ≤ x ∧ x ≤ 20 := by
      unfold fq1_ at h1
      split at h1 <;> omega
    obtain ⟨a1, a2, a3⟩ := f2_wf hT lx
    exact up (wf_M_e a2 hM) (wf_N_e a3 hN) a1 (by omega) (eJ_up (eJ_refl q) (by decide))
  · obtain ⟨h1, h2⟩ := eq_0 ((cf_4 _ _ _ _ _).mp hc)
    have lc := co_le hM h1.1 (by omega : x < 16)
    obtain ⟨a1, a2, a3⟩ := rs_wf hT ⟨lc.1, h2⟩
    obtain ⟨b1, b2, b3⟩ := rn_wf (m := x) (wf_M_e a2 hM) h1.1 (by omega)
    exact up b1 (wf_N_e b2 (wf_N_e a3 hN)) (wf_T_e b3 a1) (by omega) (eJ_rn (eJ_rs (eJ_refl q)))
  · have h1 := lq_0 ((cf_5 _ _ _ _ _).mp hc)
    obtain ⟨b1, b2, b3⟩ := rl_wf (m := x) (b := 1) hM h1.1 (by omega) (by decide)
    exact up b1 (wf_N_e b2 hN) (wf_T_e b3 hT) (by omega) (eJ_rl h1.1 (eJ_refl q))
  · have h1 := lq_0 ((cf_6 _ _ _ _ _).mp hc)
    obtain ⟨b1, b2, b3⟩ := rl_wf (m := x) (b := 0) hM h1.1 (by omega) (by decide)
    exact up b1 (wf_N_e b2 hN) (wf_T_e b3 hT) (by omega) (eJ_rl h1.1 (eJ_refl q))
  · have h1 := (cf_7 _ _ _ _ _).mp hc
    have lx : x = 99 ∨ x = 108 := by
      unfold nq1_ at h1
      split at h1
      · assumption
      · omega
    obtain ⟨a1, a2, a3⟩ := re_wf (r := q) lx
    exact up (wf_M_e a2 hM) a1 (wf_T_e a3 hT) (by omega) (eJ_re (eJ_refl q))
  · obtain ⟨h1, h2⟩ := pq_0 ((cf_8 _ _ _ _ _).mp hc)
    obtain ⟨a1, a2, a3⟩ := rp_wf hN h1.1 h1.2 h2
    exact up (wf_M_e a2 hM) a1 (wf_T_e a3 hT) (by omega) (eJ_rp (eJ_refl q) (by omega))
  · have h1 := (cf_9 _ _ _ _ _).mp hc
    have lx : 1 ≤ x ∧ x ≤ 30 := by
      unfold dq_ at h1
      split at h1 <;> omega
    obtain ⟨a2, a3⟩ := ps_e hT x.toNat
    have a1 := (ps_wf hT x.toNat).1
    exact up (wf_M_e a2 hM) (wf_N_e a3 hN) a1 (by omega) (eJ_ps hT _)
theorem adr_mq0 {q : rw_t} (hU : uj_ q) {x y s : Int} (h : adr_ q x y s 0) : mq_ q x y s 0 := by
  rcases h with ⟨-, e⟩ | ⟨-, -, e⟩ | ⟨-, -, -, e⟩ | ⟨h1, h2, h3, h4, -⟩
  · exact absurd e (by decide)
  · exact absurd e (by decide)
  · exact absurd e (by decide)
  · refine .inr (.inr (.inr ⟨?_, h2.2, h3, fun k k0 k1 => ?_, rfl⟩))
    · unfold pf_
      (repeat' split) <;> omega
    · exact fun q => h4 k k0 k1 ((jn_jr (hU.1 k k0 k1)).mpr q)
/-! the reference carries a command out -/
section REF
variable {g : bc_C} {d : Nat} {σ : bc_M} {q b : rw_t} {h : List rw_t} {Rr : Option bc_A → bc_M → Prop} {X : Nat → bc_M → Prop} {B : Int}
theorem su_ex {t : Int} {σ' : bc_M} (h1 : rg_ σ' q h) (h2 : nw_ σ' 220 b) (h3 : σ'.1 218 ((14 : Nat) : Int) = t) (h4 : fr_ ex_ σ σ') (h5 : fj_ ej_ σ σ') : su_ t q h b σ σ' := ⟨⟨h1, h2⟩, h3, fr_mono h4 (fun k hk => by omega), h5⟩
theorem t_X11_does {j : Int} {F : Int → Int} (hG : rg_ σ q h) (hb : nw_ σ 220 b) (hU : wu_ B q) (hB : B + 30 ≤ 1000000) (hF : σ.1 227 = F) (j0 : 0 ≤ j) (j1 : j + 3 < 120) (hl : ∀ i : Int, 0 ≤ i → i < 120 → -1 ≤ F i ∧ F i ≤ 999) (hk : 0 ≤ F j ∧ F j ≤ 9)
    (f1 : ∀ t r σ', (1 ≤ t ∧ t ≤ 4) → (∀ f, cf_ q (F j) (F (j + 1)) (F (j + 2)) (F (j + 3)) f → f ≠ 0) → su_ t q h b σ σ' → Rr (some (bc_I r)) σ')
    (f0 : ∀ q' r σ', cf_ q (F j) (F (j + 1)) (F (j + 2)) (F (j + 3)) 0 → crow_ q (F j) (F (j + 1)) (F (j + 2)) (F (j + 3)) q' → su_ 0 q' h b σ σ' → Rr (some (bc_I r)) σ') : bc_Sem g (d + 9) mX11_does [bc_R 218, bc_I j] σ Rr X := by
  obtain ⟨hM, hN, hT, hUj⟩ := hU
  have lx := hl (j + 1) (by omega) (by omega)
  have ly := hl (j + 2) (by omega) (by omega)
  have lz := hl (j + 3) (by omega) (by omega)
  subst hF
  have ix : bc_in (σ.1 227 (j + 1)) := by constructor <;> omega
  have iy : bc_in (σ.1 227 (j + 2)) := by constructor <;> omega
  have iz : bc_in (σ.1 227 (j + 3)) := by constructor <;> omega
  have w0 : 0 ≤ q 0 ∧ q 0 ≤ 1000000 := by have := hT.1; omega
  have w4 := hT.2.2.2.1
  refine e_X11_does rfl (fun K hK => ?_)
  refine hK.1 [] 90 _ _ _ _ _ ?_
  refine bc_ob_i (by omega) ?_
  refine bc_ob_i (by omega) ?_
  refine bc_ob_i (by omega) ?_
  refine bc_ob_i (by omega) ?_
  refine bc_ob_i (by constructor <;> omega) ?_
  generalize hk2 : σ.1 227 j = k at hk f1 f0 ⊢
  generalize σ.1 227 (j + 1) = x at lx ix f1 f0 ⊢
  generalize σ.1 227 (j + 2) = y at ly iy f1 f0 ⊢
  generalize σ.1 227 (j + 3) = z at lz iz f1 f0 ⊢
  refine bc_br_i (fun c => ?_) (fun c0 => ?_)
  · subst c
    refine t_X11_adds hG hb hM ix iy iz (fun t a nt s S => ?_) (fun a s S => ?_)
    · exact f1 t _ s (by have := adr_le a; omega) (fun f hf e => nt (adr_eq a (by rw [e] at hf; exact mq_adr hUj ((cf_0 _ _ _ _ _).mp hf)))) S
    · exact f0 _ _ s ((cf_0 _ _ _ _ _).mpr (adr_mq0 hUj a)) (.inl ⟨rfl, rfl⟩) S
  refine bc_br_i (fun c => ?_) (fun c1 => ?_)
  · subst c
    have le := wkt_le q x y z
    refine t_X11_walks hG hb hM hN hUj ix iy iz (fun nt s S => ?_) (fun e s r' hw S => ?_)
    · exact f1 _ _ s (by omega) (fun f hf e => nt (wq_0t hM hUj (e.symm.trans ((cf_1 _ _ _ _ _).mp hf)))) S
    · refine f0 r' _ s ((cf_1 _ _ _ _ _).mpr ?_) (.inr (.inl ⟨rfl, hw⟩)) S
      rw [wq_wkt hM hUj, e]
      rfl
  refine bc_br_i (fun c => ?_) (fun c2 => ?_)
  · subst c
    refine t_X11_vows hG hb w0 w4 ix iy (fun nt s S1 S2 S3 S4 S5 => ?_) (fun e s S1 S2 S3 S4 S5 => ?_)
    · exact f1 _ _ s (by split <;> omega) (fun f hf e => nt (((cf_2 _ _ _ _ _).mp hf).symm.trans e)) (su_ex S1 S2 S3 S4 S5)
    · exact f0 _ _ s ((cf_2 _ _ _ _ _).mpr e.symm) (.inr (.inr (.inl ⟨rfl, rfl⟩))) (su_ex S1 S2 S3 S4 S5)
  refine bc_br_i (fun c => ?_) (fun c3 => ?_)
  · subst c
    refine t_X11_forges hG hb ix (fun s S1 S2 S3 S4 S5 => ?_)
    by_cases e : 0 ≤ x ∧ x ≤ 20
    · rw [if_pos e] at S1 S3
      refine f0 _ _ s ((cf_3 _ _ _ _ _).mpr ?_) (.inr (.inr (.inr (.inl ⟨rfl, rfl⟩)))) (su_ex S1 S2 S3 S4 S5)
      unfold fq1_
      rw [if_neg (by omega)]
    · rw [if_neg e] at S1 S3
      refine f1 1 _ s (by decide) (fun f hf e2 => ?_) (su_ex S1 S2 S3 S4 S5)
      have h2 := (cf_3 _ _ _ _ _).mp hf
      unfold fq1_ at h2
      rw [if_pos (by omega)] at h2
      omega
  refine bc_br_i (fun c => ?_) (fun c4 => ?_)
  · subst c
    have le := er_le q x
    refine t_X11_repairs hG hb hM hT (by omega) ix (fun nt s S => ?_) (fun e s S => ?_)
    · refine f1 _ _ s (by omega) (fun f hf e2 => ?_) S
      have h2 := (cf_4 _ _ _ _ _).mp hf
      rw [eq_er, e2] at h2
      split at h2
      · omega
      · split at h2 <;> omega
    · refine f0 _ _ s ((cf_4 _ _ _ _ _).mpr ?_) (.inr (.inr (.inr (.inr (.inl ⟨rfl, rfl⟩))))) S
      rw [eq_er, e]
      rfl
  refine bc_br_i (fun c => ?_) (fun c5 => ?_)
  · subst c
    refine t_X11_leaves hG hb hM ix (by decide) (fun nt s S1 S2 S3 S4 S5 => ?_) (fun e s S1 S2 S3 S4 S5 => ?_)
    · exact f1 _ _ s (by split <;> omega) (fun f hf e => nt (((cf_5 _ _ _ _ _).mp hf).symm.trans e)) (su_ex S1 S2 S3 S4 S5)
    · exact f0 _ _ s ((cf_5 _ _ _ _ _).mpr e.symm) (.inr (.inr (.inr (.inr (.inr (.inl ⟨rfl, rfl⟩)))))) (su_ex S1 S2 S3 S4 S5)
  refine bc_br_i (fun c => ?_) (fun c6 => ?_)
  · subst c
    refine t_X11_leaves hG hb hM ix (by decide) (fun nt s S1 S2 S3 S4 S5 => ?_) (fun e s S1 S2 S3 S4 S5 => ?_)
    · exact f1 _ _ s (by split <;> omega) (fun f hf e => nt (((cf_6 _ _ _ _ _).mp hf).symm.trans e)) (su_ex S1 S2 S3 S4 S5)
    · exact f0 _ _ s ((cf_6 _ _ _ _ _).mpr e.symm) (.inr (.inr (.inr (.inr (.inr (.inr (.inl ⟨rfl, rfl⟩))))))) (su_ex S1 S2 S3 S4 S5)
  refine bc_br_i (fun c => ?_) (fun c7 => ?_)
  · subst c
    refine t_X11_empties hG hb ix (fun s S1 S2 S3 S4 S5 => ?_)
    by_cases e : x = 99 ∨ x = 108
    · rw [if_pos e] at S1 S3
      refine f0 _ _ s ((cf_7 _ _ _ _ _).mpr ?_) (.inr (.inr (.inr (.inr (.inr (.inr (.inr (.inl ⟨rfl, rfl⟩)))))))) (su_ex S1 S2 S3 S4 S5)
      unfold nq1_
      rw [if_pos e]
    · rw [if_neg e] at S1 S3
      refine f1 1 _ s (by decide) (fun f hf e2 => ?_) (su_ex S1 S2 S3 S4 S5)
      have h2 := (cf_7 _ _ _ _ _).mp hf
      unfold nq1_ at h2
      rw [if_neg e] at h2
      omega
  refine bc_br_i (fun c => ?_) (fun c8 => ?_)
  · subst c
    have le := put_le q x y z
    refine t_X11_puts hG hb hN ix iy iz (fun nt s S => ?_) (fun e s S => ?_)
    · refine f1 _ _ s (by omega) (fun f hf e2 => ?_) S
      have h2 := (cf_8 _ _ _ _ _).mp hf
      rw [pq_put hN, e2] at h2
      split at h2
      · omega
      · split at h2 <;> omega
    · refine f0 _ _ s ((cf_8 _ _ _ _ _).mpr ?_) (.inr (.inr (.inr (.inr (.inr (.inr (.inr (.inr (.inl ⟨rfl, rfl⟩))))))))) S
      rw [pq_put hN, e]
      rfl
  · have e9 : k = 9 := by omega
    subst e9
    refine t_X11_waits hG hb hT hB ix (fun nt s S => ?_) (fun e s S => ?_)
    · refine f1 1 _ s (by decide) (fun f hf e2 => ?_) S
      have h2 := (cf_9 _ _ _ _ _).mp hf
      unfold dq_ at h2
      rw [if_pos (by omega)] at h2
      omega
    · refine f0 _ _ s ((cf_9 _ _ _ _ _).mpr ?_) (.inr (.inr (.inr (.inr (.inr (.inr (.inr (.inr (.inr ⟨rfl, rfl⟩))))))))) S
      unfold dq_
      rw [if_neg (by omega)]
end REF
end
section
/-! the reference reads a whole script -/
/-- the commands before n are laid down -/
noncomputable def ag_ (F : Int → Int) (k : Int → Int) (A : gr_t) (n : Int) : Prop := ∀ i : Int, 0 ≤ i → i < n → F (4 * i) = k i ∧ ∀ j : Int, 0 ≤ j → j < ari_ (k i) → F (4 * i + 1 + j) = A i j
/-- a script's reading is done: told t, error w -/
noncomputable def rdn_ (z : pz_t) (t w : Int) (F : Int → Int) : Prop := (z.1 = 0 ∧ w = z.2.1 ∧ w ≠ -1) ∨ (z.1 = 1 ∧ w = -1 ∧ t = z.2.2.1 ∧ ag_ F z.2.2.2.1 z.2.2.2.2 t)
theorem qw_3 {l : List Int} {p : Int} : ∀ (n : Nat) {b : Int}, n ≤ 10 → (qw_ l p n b).1 ≠ -1 → p + 3 ≤ (qw_ l p n b).2
  | 0, b, _, h => absurd rfl h
  | n + 1, b, hn, h => by
    rw [qw_s] at h ⊢
    have w := wd_len (m := 9 - n) (by omega)
    split
    · rename_i c
      show p + 3 ≤ p + qm_ l p (bc_tx (9 - n))
      rw [c]
      omega
    · rename_i c
      rw [if_neg c] at h
      exact qw_3 n (by omega) h
theorem qg_o {l : List Int} {c : Int} : ∀ (fs : List Nat) {p n : Int} {A : gr_t} {i : Int}, i ≠ c → ∀ j : Int, (qg_ l c fs p n A).2.2 i j = A i j
  | [], _, _, _, _, _, _ => rfl
  | f :: fs, p, n, A, i, hi, j => by
    rw [qg_c]
    split
    · split
      · exact qg_o fs hi j
      · rfl
    · split
      · rfl
      · rw [qg_o fs hi j]
        show (if i = c ∧ j = n then _ else A i j) = A i j
        rw [if_neg (fun k => hi k.1)]
theorem qa_o {l : List Int} {p c k : Int} {A : gr_t} {i : Int} (hi : i ≠ c) (j : Int) : (qa_ l p c k A).2.2 i j = A i j := by
  unfold qa_
  split
  · show (if i = c ∧ j = 0 then (1 : Int) else A i j) = A i j
    rw [if_neg (fun k => hi k.1)]
  · exact qg_o _ hi j
theorem ag_next {F F' : Int → Int} {k : Int → Int} {A A' : gr_t} {c kv : Int} (h : ag_ F k A c) (c0 : 0 ≤ c) (hu : ∀ j : Int, ¬ (4 * c ≤ j ∧ j < 4 * c + 4) → F' j = F j) (ha : ∀ i : Int, i ≠ c → ∀ j, A' i j = A i j) (hk : F' (4 * c) = kv) (hv : ∀ j : Int, 0 ≤ j → j < ari_ kv → F' (4 * c + 1 + j) = A' c j) : ag_ F' (up_ k c kv) A' (c + 1) := by
  intro i i0 i1
  have l3 : ∀ x, ari_ x ≤ 3 := fun x => by
    unfold ari_
    (repeat' split) <;> decide
  by_cases e : i = c
  · subst e
    rw [up_at]
    exact ⟨hk, hv⟩
  · obtain ⟨h1, h2⟩ := h i i0 (by omega)
    rw [up_ne e]
    refine ⟨(hu _ (by omega)).trans h1, fun j j0 j1 => ?_⟩
    have := l3 (k i)
    rw [hu _ (by omega), h2 j j0 j1, ha i e j]
section REF
variable {g : bc_C} {d : Nat} {σ : bc_M} {l : List Int} {p w : Int} {Rr : Option bc_A → bc_M → Prop} {X : Nat → bc_M → Prop}
theorem t_X11_readsAll {k0 : Int → Int} {A0 : gr_t} {F0 : Int → Int} (hl : tyt_ σ l) (hc : ∀ c ∈ l, 0 ≤ c ∧ c ≤ 65535) (gA : g3_ A0) (hF : σ.1 227 = F0) (hb : ∀ j : Int, -1 ≤ F0 j ∧ F0 j ≤ 999)
    (h : ∀ s t w F, rdn_ (qp_ l 16 0 0 k0 A0) t w F → (0 ≤ t ∧ t ≤ 16) → (-1 ≤ w ∧ w ≤ 60) → s.1 227 = F → (∀ j : Int, -1 ≤ F j ∧ F j ≤ 999) → s.1 218 ((11 : Nat) : Int) = 0 → s.1 218 ((17 : Nat) : Int) = w → s.1 218 ((18 : Nat) : Int) = t → fr_ (fun k => k = 218 ∨ k = 227) σ s → fj_ (fun j => j = 11 ∨ j = 15 ∨ j = 16 ∨ j = 17 ∨ j = 18) σ s → Rr none s) : bc_Sem g (d + 6) mX11_readsAll [bc_R 218] σ Rr X := by
  obtain ⟨a1, a2, a3⟩ := hl
  refine e_X11_readsAll rfl (fun K hK => ?_)
  generalize hZ : qp_ l 16 0 0 k0 A0 = Z at h
  -- the state at the first command
  have S0 : ∃ s0, s0 = bc_wr (bc_wr (bc_wr (bc_wr (bc_wr σ 218 ((15 : Nat) : Int) (σ.1 218 ((11 : Nat) : Int))) 218 ((11 : Nat) : Int) 0) 218 ((16 : Nat) : Int) 0) 218 ((17 : Nat) : Int) (-1)) 218 ((18 : Nat) : Int) 0 := ⟨_, rfl⟩
  obtain ⟨s0, hs0⟩ := S0
  have f0 : fr_ (fun k => k = 218) σ s0 := by
    rw [hs0]
    exact fr_trans (fr_trans (fr_trans (fr_trans (fr_wr rfl) (fr_wr rfl)) (fr_wr rfl)) (fr_wr rfl)) (fr_wr rfl)
  have j0 : fj_ (fun j => j = 11 ∨ j = 15 ∨ j = 16 ∨ j = 17 ∨ j = 18) σ s0 := by
    rw [hs0]
    exact fj_trans (fj_trans (fj_trans (fj_trans (fj_wr (.inr (.inl rfl))) (fj_wr (.inl rfl))) (fj_wr (.inr (.inr (.inl rfl))))) (fj_wr (.inr (.inr (.inr (.inl rfl)))))) (fj_wr (.inr (.inr (.inr (.inr rfl)))))
  have e11 : s0.1 218 ((11 : Nat) : Int) = 0 := by rw [hs0]; simp [bc_wr]
  have e15 : s0.1 218 ((15 : Nat) : Int) = l.length := by rw [hs0, ← a1]; simp [bc_wr]
  have e16 : s0.1 218 ((16 : Nat) : Int) = 0 := by rw [hs0]; simp [bc_wr]
  have e17 : s0.1 218 ((17 : Nat) : Int) = -1 := by rw [hs0]; simp [bc_wr]
  have e18 : s0.1 218 ((18 : Nat) : Int) = 0 := by rw [hs0]; simp [bc_wr]
  have R0 : rsc_ s0 l 0 (-1) := ⟨⟨⟨e15, a2⟩, fun j hj => by rw [f0.1 225 (by decide)]; exact a3 j hj, hc⟩, ⟨e16, Int.le_refl 0, by omega⟩, e17, by decide, by decide⟩
  have Q0 : rqs_ s0 l 0 0 (-1) F0 s0 := ⟨R0, by rw [f0.1 227 (by decide)]; exact hF, e18, fr_refl _, fun _ _ => rfl⟩
  have fin : ∀ s t p w F, rqs_ s0 l t p w F s → rdn_ Z t w F → (0 ≤ t ∧ t ≤ 16) → (∀ j : Int, -1 ≤ F j ∧ F j ≤ 999) → Rr none s := by
    intro s t p w F Q D ht hFb
    obtain ⟨q1, q2, q3, q4, q5⟩ := Q
    refine h s t w F D ht q1.2.2.2 q2 hFb ?_ q1.2.2.1 q3 (fr_trans (fr_mono f0 (fun k hk => .inl hk)) q4) (fj_trans j0 (fun j hj => q5 j (fun e => hj (by rcases e with e | e | e <;> simp [e]))))
    rw [q5 ((11 : Nat) : Int) (by decide)]
    exact e11
  have out : ∀ (s : bc_M) (z : bc_LV) (t p w : Int) (F : Int → Int), rqs_ s0 l t p w F s → rdn_ Z t w F → (0 ≤ t ∧ t ≤ 16) → (∀ j : Int, -1 ≤ F j ∧ F j ≤ 999) → (w ≠ -1 ∨ p = l.length) → K 32 ([(0, bc_R 218)] ++ z) [] s 0 := by
    intro s z t p w F Q D ht hFb hw
    have e17 := Q.1.2.2.1
    have l17 := Q.1.2.2.2
    have e16 := Q.1.2.1.1
    have e15 := Q.1.1.1.1
    have l60 := Q.1.1.1.2
    have go := fin s t p w F Q D ht hFb
    refine hK.2 _ _ [(0, bc_R 218)] _ _ _ (ls_ _ _) ?_
    refine hK.1 [32] 60 _ _ _ _ _ ?_
    refine bc_ob_i (by rw [e17]; constructor <;> constructor <;> omega) ?_
    rw [e17]
    refine bc_br_i (fun c => ?_) (fun _ => go)
    rcases hw with hw | hw
    · exact absurd c hw
    · refine bc_ob_i (by rw [e16, e15]; constructor <;> constructor <;> omega) ?_
      rw [e16, e15]
      refine bc_br_i (fun c2 => absurd c2 (by omega)) (fun _ => go)
  have step : ∀ n : Nat, (∀ m : Nat, n = m + 1 → ∀ (c p : Int) (k : Int → Int) (A : gr_t) (F : Int → Int) (s : bc_M) (p' w' : Int) (F' : Int → Int) (z : bc_LV), c + m = 15 → 0 ≤ c → 4 * c ≤ p → p ≤ l.length → g3_ A → ag_ F k A c → (∀ j : Int, -1 ≤ F j ∧ F j ≤ 999) → rqs_ s0 l (c + 1) p' w' F' s → rcm_ l p c F F' p' w' → Z = qp_ l (m + 1) c p k A → K 32 ([(0, bc_R 218)] ++ z) [] s 0) → ∀ (c p : Int) (k : Int → Int) (A : gr_t) (F : Int → Int) (s : bc_M) (p' w' : Int) (F' : Int → Int) (z : bc_LV), c + n = 15 → 0 ≤ c → 4 * c ≤ p → p ≤ l.length → g3_ A → ag_ F k A c → (∀ j : Int, -1 ≤ F j ∧ F j ≤ 999) → rqs_ s0 l (c + 1) p' w' F' s → rcm_ l p c F F' p' w' → Z = qp_ l (n + 1) c p k A → K 32 ([(0, bc_R 218)] ++ z) [] s 0 := by
    intro n ih c p k A F s p' w' F' z hn c0 hp pl gA1 hag hFb Q R hZ
    have l60 := Q.1.1.1.2
    have e15 := Q.1.1.1.1
    have lq := qw_le (l := l) (p := p) 10 (b := 0) (Nat.le_refl 10) (by omega) pl l60 (Int.le_refl 0) (by omega)
    obtain ⟨hu, hlF, hR⟩ := R
    have hFb' : ∀ j, -1 ≤ F' j ∧ F' j ≤ 999 := fun j => by
      rcases hlF j with e | e
      · rw [e]; exact hFb j
      · exact e
    rw [qp_s] at hZ
    rcases hR with ⟨q1, q2⟩ | ⟨q1, q2⟩
    · rw [if_pos q1] at hZ
      exact out s z (c + 1) p' w' F' Q (.inl ⟨by rw [hZ], by rw [hZ]; exact q2, by omega⟩) (by omega) hFb' (.inl (by omega))
    · rw [if_neg q1] at hZ
      have w3 := qw_3 10 (b := 0) (Nat.le_refl 10) q1
      have la := qa_le (l := l) (p := (qw_ l p 10 0).2) (c := c) (k := (qw_ l p 10 0).1) (A := A) (by omega) (by omega) gA1
      rcases q2 A with ⟨r1, r2, r3⟩ | ⟨r1, r2, r3, r4, r5⟩
      · rw [if_pos r1] at hZ
        exact out s z (c + 1) p' w' F' Q (.inl ⟨by rw [hZ], by rw [hZ]; exact r2, r3⟩) (by omega) hFb' (.inl r3)
      · rw [if_neg (by omega)] at hZ
        subst r3
        have ag2 := ag_next hag c0 hu (fun i hi j => qa_o hi j) r4 r5
        have gA2 := la.2.1
        rw [← r2] at hZ la
        generalize (qa_ l (qw_ l p 10 0).2 c (qw_ l p 10 0).1 A).2.2 = A2 at hZ ag2 gA2
        generalize (qw_ l p 10 0).1 = kv at hZ ag2
        have e16 := Q.1.2.1.1
        have e17 := Q.1.2.2.1
        by_cases t : tg_ l p' = 59
        · rw [if_pos t] at hZ
          have hp' := (tg_in (l := l) (p := p') (by omega)).2
          obtain ⟨m, rfl⟩ : ∃ m, n = m + 1 := ⟨n - 1, by omega⟩
          refine hK.2 _ _ [(0, bc_R 218)] _ _ _ (ls_ _ _) ?_
          refine hK.1 [32] 120 _ _ _ _ _ ?_
          refine bc_ob_i (by rw [e17]; decide) ?_
          rw [e17]
          refine bc_br_i (fun _ => ?_) (fun c => absurd (by decide) c)
          refine bc_ob_i (by rw [e16, e15]; constructor <;> constructor <;> omega) ?_
          rw [e16, e15]
          refine bc_br_i (fun _ => ?_) (fun c2 => absurd hp' c2)
          refine t_X11_reads Q.1 (by decide) (by decide) (fun _ _ _ s1 S1 G1 => ?_) (fun no => absurd ⟨rfl, by omega⟩ no)
          have Q1 := rqs_v Q S1 G1
          have e17b := S1.2.2.1
          refine bc_ob_i (by rw [e17b]; decide) ?_
          rw [e17b]
          refine bc_br_i (fun _ => ?_) (fun c => absurd (by decide) c)
          refine t_X11_readsCommand S1 Q1.2.2.1 (by omega) (by omega) Q1.2.1 (fun s2 p2 w2 F2 Q2 R2 => ?_)
          have Q3 : rqs_ s0 l (c + 1 + 1) p2 w2 F2 s2 := ⟨Q2.1, Q2.2.1, Q2.2.2.1, fr_trans Q1.2.2.2.1 Q2.2.2.2.1, fj_trans Q1.2.2.2.2 Q2.2.2.2.2⟩
          exact ih m rfl (c + 1) (p' + 1) (up_ k c kv) A2 F' s2 p2 w2 F2 [(1, bc_I (tg_ l p'))] (by omega) (by omega) (by omega) (by omega) gA2 ag2 hFb' Q3 R2 hZ
        · rw [if_neg t] at hZ
          by_cases e : p' = l.length
          · rw [if_pos e] at hZ
            exact out s z (c + 1) p' (-1) F' Q (.inr ⟨by rw [hZ], rfl, by rw [hZ], by rw [hZ]; exact ag2⟩) (by omega) hFb' (.inr e)
          · rw [if_neg e] at hZ
            refine hK.2 _ _ [(0, bc_R 218)] _ _ _ (ls_ _ _) ?_
            refine hK.1 [32] 120 _ _ _ _ _ ?_
            refine bc_ob_i (by rw [e17]; decide) ?_
            rw [e17]
            refine bc_br_i (fun _ => ?_) (fun c => absurd (by decide) c)
            refine bc_ob_i (by rw [e16, e15]; constructor <;> constructor <;> omega) ?_
            rw [e16, e15]
            refine bc_br_i (fun _ => ?_) (fun c2 => absurd (by omega) c2)
            refine t_X11_reads Q.1 (by decide) (by decide) (fun _ _ r => absurd (by omega) t) (fun no s1 S1 G1 => ?_)
            rw [if_pos rfl] at S1
            have Q1 := rqs_v Q S1 G1
            have e17b := S1.2.2.1
            refine bc_ob_i (by rw [e17b]; constructor <;> constructor <;> omega) ?_
            rw [e17b]
            refine bc_br_i (fun c2 => absurd c2 (by omega)) (fun _ => ?_)
            exact out s1 [(1, bc_I 48)] (c + 1) p' p' F' Q1 (.inl ⟨by rw [hZ], by rw [hZ], by omega⟩) (by omega) hFb' (.inl (by omega))
  have L : ∀ n : Nat, ∀ (c p : Int) (k : Int → Int) (A : gr_t) (F : Int → Int) (s : bc_M) (p' w' : Int) (F' : Int → Int) (z : bc_LV), c + n = 15 → 0 ≤ c → 4 * c ≤ p → p ≤ l.length → g3_ A → ag_ F k A c → (∀ j : Int, -1 ≤ F j ∧ F j ≤ 999) → rqs_ s0 l (c + 1) p' w' F' s → rcm_ l p c F F' p' w' → Z = qp_ l (n + 1) c p k A → K 32 ([(0, bc_R 218)] ++ z) [] s 0 := by
    intro n
    induction n with
    | zero => exact step 0 (fun m e => absurd e (by omega))
    | succ n ih => exact step (n + 1) (fun m e => by
        have e2 : m = n := by omega
        subst e2
        exact ih)
  subst hs0
  refine hK.1 [32] 90 _ _ _ _ _ ?_
  refine t_X11_readsCommand R0 e18 (Int.le_refl 0) (by decide) Q0.2.1 (fun s2 p2 w2 F2 Q2 R2 => ?_)
  exact L 15 0 0 k0 A0 F0 s2 p2 w2 F2 [] (by decide) (Int.le_refl 0) (by decide) (by omega) gA (fun i i0 i1 => by omega) hb Q2 R2 hZ.symm
end REF
end
section
/-! the reference runs a script -/
theorem ari_1 (k : Int) : 1 ≤ ari_ k ∧ ari_ k ≤ 3 := by
  unfold ari_
  (repeat' split) <;> decide
theorem cf_cong {r : rw_t} {k x y z x' y' z' f : Int} (hk : 0 ≤ k ∧ k ≤ 9) (ex : x = x') (ey : 2 ≤ ari_ k → y = y') (ez : 3 ≤ ari_ k → z = z') : cf_ r k x y z f ↔ cf_ r k x' y' z' f := by
  subst ex
  have kk : k = 0 ∨ k = 1 ∨ k = 2 ∨ k = 3 ∨ k = 4 ∨ k = 5 ∨ k = 6 ∨ k = 7 ∨ k = 8 ∨ k = 9 := by omega
  rcases kk with rfl | rfl | rfl | rfl | rfl | rfl | rfl | rfl | rfl | rfl
  · rw [ey (by decide), ez (by decide)]
  · rw [ey (by decide), ez (by decide)]
  · rw [ey (by decide), cf_2, cf_2]
  · rw [cf_3, cf_3]
  · rw [cf_4, cf_4]
  · rw [cf_5, cf_5]
  · rw [cf_6, cf_6]
  · rw [cf_7, cf_7]
  · rw [ey (by decide), ez (by decide)]
  · rw [cf_9, cf_9]
theorem crow_cong {q q' : rw_t} {k x y z x' y' z' : Int} (hk : 0 ≤ k ∧ k ≤ 9) (ex : x = x') (ey : 2 ≤ ari_ k → y = y') (ez : 3 ≤ ari_ k → z = z') (h : crow_ q k x y z q') : crow_ q k x' y' z' q' := by
  subst ex
  have kk : k = 0 ∨ k = 1 ∨ k = 2 ∨ k = 3 ∨ k = 4 ∨ k = 5 ∨ k = 6 ∨ k = 7 ∨ k = 8 ∨ k = 9 := by omega
  rcases kk with rfl | rfl | rfl | rfl | rfl | rfl | rfl | rfl | rfl | rfl
  · rw [← ey (by decide), ← ez (by decide)]; exact h
  · rw [← ey (by decide), ← ez (by decide)]; exact h
  · rw [← ey (by decide)]; simpa [crow_] using h
  · simpa [crow_] using h
  · simpa [crow_] using h
  · simpa [crow_] using h
  · simpa [crow_] using h
  · simpa [crow_] using h
  · rw [← ey (by decide), ← ez (by decide)]; exact h
  · simpa [crow_] using h
theorem qp_kk {l : List Int} (hl : l.length ≤ 60) : ∀ (n : Nat) {c p : Int} {k : Int → Int} {A : gr_t}, 0 ≤ p → p ≤ l.length → g3_ A → kk_ k → kk_ (qp_ l n c p k A).2.2.2.1
  | 0, _, _, _, _, _, _, _, hk => hk
  | n + 1, c, p, k, A, p0, p1, gA, hk => by
    rw [qp_s]
    have lq := qw_le (l := l) (p := p) 10 (b := 0) (Nat.le_refl 10) p0 p1 hl (Int.le_refl 0) (by omega)
    have la := qa_le (l := l) (p := (qw_ l p 10 0).2) (c := c) (k := (qw_ l p 10 0).1) (A := A) (by omega) (by omega) gA
    have ku : (qw_ l p 10 0).1 ≠ -1 → kk_ (up_ k c (qw_ l p 10 0).1) := fun ne j j0 j1 => by
      unfold up_
      split
      · omega
      · exact hk j j0 j1
    split
    · exact hk
    · rename_i ne
      split
      · exact hk
      · split
        · rename_i t
          have hp := (tg_in (l := l) (p := (qa_ l (qw_ l p 10 0).2 c (qw_ l p 10 0).1 A).2.1) (by omega)).2
          exact qp_kk hl n (by omega) (by omega) la.2.1 (ku ne)
        · exact ku ne
/-- the reference's row after n commands -/
noncomputable def rsx_ (z : pz_t) (q : rw_t) : Nat → rw_t → Prop
  | 0, r => r = q
  | n + 1, r => ∃ r0, rsx_ z q n r0 ∧ cf_ r0 (z.2.2.2.1 n) (z.2.2.2.2 n 0) (z.2.2.2.2 n 1) (z.2.2.2.2 n 2) 0 ∧ crow_ r0 (z.2.2.2.1 n) (z.2.2.2.2 n 0) (z.2.2.2.2 n 1) (z.2.2.2.2 n 2) r
noncomputable abbrev eyz_ (k : Nat) : Prop := k = 218 ∨ k = 219 ∨ k = 220 ∨ k = 222 ∨ k = 223 ∨ k = 224 ∨ k = 227
noncomputable abbrev jz_ (j : Int) : Prop := j = 5 ∨ j = 11 ∨ j = 14 ∨ j = 15 ∨ j = 16 ∨ j = 17 ∨ j = 18
/-- a script is done: thrown t -/
noncomputable def rfin_ (t : Int) (σ s : bc_M) : Prop := s.1 218 ((14 : Nat) : Int) = t ∧ s.1 218 ((11 : Nat) : Int) = 0 ∧ (∀ j : Int, -1 ≤ s.1 227 j ∧ s.1 227 j ≤ 999) ∧ fr_ eyz_ σ s ∧ fj_ (fun j => jz_ j ∨ j = 6 ∨ j = 7) σ s
section REF
variable {g : bc_C} {d : Nat} {σ : bc_M} {q b : rw_t} {h : List rw_t} {l : List Int} {Rr : Option bc_A → bc_M → Prop} {X : Nat → bc_M → Prop} {B : Int}
theorem rg_fr {P : Nat → Prop} {σ' : bc_M} (hG : rg_ σ q h) (hf : fr_ P σ σ') (h1 : ¬ P 219) (h2 : ¬ P 222) (h5 : σ'.1 218 ((5 : Nat) : Int) = σ.1 218 ((5 : Nat) : Int)) : rg_ σ' q h := ⟨nw_fr hG.1 hf h1, mh_fr hG.2 hf h2 h5⟩
theorem t_X11_runScript {k0 : Int → Int} {A0 : gr_t} {F0 : Int → Int} (hG : rg_ σ q h) (hU : wu_ B q) (hB : B + 480 ≤ 1000000) (hl : tyt_ σ l) (hc : ∀ c ∈ l, 0 ≤ c ∧ c ≤ 65535) (kk : kk_ k0) (gA : g3_ A0) (hF : σ.1 227 = F0) (hb : ∀ j : Int, -1 ≤ F0 j ∧ F0 j ≤ 999)
    (he : (qp_ l 16 0 0 k0 A0).1 = 0 → ∀ s, rfin_ 1 σ s → rg_ s q h → s.1 218 ((6 : Nat) : Int) = (qp_ l 16 0 0 k0 A0).2.1 → s.1 218 ((7 : Nat) : Int) = σ.1 218 ((7 : Nat) : Int) → Rr (some (bc_I 0)) s)
    (hf : (qp_ l 16 0 0 k0 A0).1 = 1 → ∀ (i : Nat) (r : rw_t) (s : bc_M), (i : Int) < (qp_ l 16 0 0 k0 A0).2.2.1 → rsx_ (qp_ l 16 0 0 k0 A0) q i r → (∀ f, cf_ r ((qp_ l 16 0 0 k0 A0).2.2.2.1 i) ((qp_ l 16 0 0 k0 A0).2.2.2.2 i 0) ((qp_ l 16 0 0 k0 A0).2.2.2.2 i 1) ((qp_ l 16 0 0 k0 A0).2.2.2.2 i 2) f → f ≠ 0) → rfin_ 2 σ s → rg_ s q h → s.1 218 ((6 : Nat) : Int) = σ.1 218 ((6 : Nat) : Int) → s.1 218 ((7 : Nat) : Int) = i → Rr (some (bc_I 0)) s)
    (h0 : (qp_ l 16 0 0 k0 A0).1 = 1 → ∀ (r : rw_t) (s : bc_M), rsx_ (qp_ l 16 0 0 k0 A0) q (qp_ l 16 0 0 k0 A0).2.2.1.toNat r → wu_ (B + 480) r → rfin_ 0 σ s → rg_ s r (hr_ h q) → s.1 218 ((6 : Nat) : Int) = σ.1 218 ((6 : Nat) : Int) → s.1 218 ((7 : Nat) : Int) = σ.1 218 ((7 : Nat) : Int) → Rr (some (bc_I (qp_ l 16 0 0 k0 A0).2.2.1)) s) : bc_Sem g (d + 10) mX11_runScript [bc_R 218] σ Rr X := by
  have kZ := qp_kk hl.2.1 16 (c := 0) (p := 0) (k := k0) (A := A0) (Int.le_refl 0) (by omega) gA kk
  refine e_X11_runScript rfl (fun K hK => ?_)
  refine hK.1 [38] 90 _ _ _ _ _ ?_
  refine t_X11_readsAll (k0 := k0) (A0 := A0) hl hc gA hF hb (fun s t w F D lt lw sF bF s11 s17 s18 f1 j1 => ?_)
  generalize qp_ l 16 0 0 k0 A0 = Z at *
  have G1 : rg_ s q h := rg_fr hG f1 (by decide) (by decide) (j1 ((5 : Nat) : Int) (by decide))
  have J1 : fj_ jz_ σ s := fun j hj => j1 j (fun e => hj (by omega))
  have F1 : fr_ eyz_ σ s := fr_mono f1 (fun k hk => by omega)
  refine bc_ob_i (by rw [s17]; constructor <;> constructor <;> omega) ?_
  rw [s17]
  rcases D with ⟨z0, zw, wn⟩ | ⟨z1, wz, zt, za⟩
  · refine bc_br_i (fun c => absurd c wn) (fun _ => ?_)
    have g2 : fr_ (fun k => k = 218) s (bc_wr s 218 ((6 : Nat) : Int) (s.1 218 ((17 : Nat) : Int))) := fr_wr rfl
    have g3 : fr_ (fun k => k = 218) (bc_wr s 218 ((6 : Nat) : Int) (s.1 218 ((17 : Nat) : Int))) (bc_wr (bc_wr s 218 ((6 : Nat) : Int) (s.1 218 ((17 : Nat) : Int))) 218 ((14 : Nat) : Int) 1) := fr_wr rfl
    have g23 := fr_trans g2 g3
    have jj : fj_ (fun j => j = 6 ∨ j = 14) s (bc_wr (bc_wr s 218 ((6 : Nat) : Int) (s.1 218 ((17 : Nat) : Int))) 218 ((14 : Nat) : Int) 1) := fj_trans (fj_wr (.inl rfl)) (fj_wr (.inr rfl))
    refine he z0 _ ⟨by simp [bc_wr], ?_, fun j => ?_, fr_trans F1 (fr_mono g23 (fun k hk => by omega)), fj_trans (fun j hj => J1 j (fun e => hj (.inl e))) (fun j hj => jj j (fun e => hj (by omega)))⟩ (rg_fr G1 g23 (by decide) (by decide) (jj _ (by decide))) ?_ ?_
    · rw [jj ((11 : Nat) : Int) (by decide)]; exact s11
    · rw [g23.1 227 (by decide), sF]; exact bF j
    · rw [← zw, ← s17]; simp [bc_wr]
    · rw [jj ((7 : Nat) : Int) (by decide)]; exact j1 _ (by decide)
  · subst wz
    refine bc_br_i (fun _ => ?_) (fun c => absurd rfl c)
    refine t_X11_begins2 G1 (fun s2 G2 b2 f2 j2 => ?_)
    have g3 : fr_ (fun k => k = 218) s2 (bc_wr s2 218 ((14 : Nat) : Int) 0) := fr_wr rfl
    have j3 : fj_ (fun j => j = 14) s2 (bc_wr s2 218 ((14 : Nat) : Int) 0) := fj_wr rfl
    -- the commands one by one
    have L : ∀ i : Int, ∀ (r : rw_t) (s' : bc_M) (z : bc_LV), 0 ≤ i → i ≤ t → rsx_ Z q i.toNat r → wu_ (B + 30 * i) r → rg_ s' r h → nw_ s' 220 q → s'.1 227 = F → s'.1 218 ((11 : Nat) : Int) = 0 → s'.1 218 ((14 : Nat) : Int) = 0 → s'.1 218 ((18 : Nat) : Int) = t → fr_ eyz_ σ s' → fj_ jz_ σ s' → K 38 ([(0, bc_R 218), (1, bc_I i)] ++ z) [] s' 0 := by
      refine up_ind t (fun i hi r s' z i0 i1 hx hW hg hn h27 h11 h14 h18 hfr hfj => ?_) (fun i hi ih r s' z i0 i1 hx hW hg hn h27 h11 h14 h18 hfr hfj => ?_)
      · have ei : i = t := by omega
        subst ei
        refine hK.2 _ _ [(0, bc_R 218), (1, bc_I i)] _ _ _ (ls_ _ _) ?_
        refine hK.1 [38] 60 _ _ _ _ _ ?_
        refine bc_ob_i (by rw [h18]; constructor <;> constructor <;> omega) ?_
        rw [h18]
        refine bc_br_i (fun c => absurd c (by omega)) (fun _ => ?_)
        refine t_X11_ends hg hn h14 (by decide) (fun e => absurd rfl e) (fun _ s3 G3 t3 f3 j3 => ?_)
        rw [zt] at hx
        refine rt_ (h0 z1 r s3 hx (wu_mono hW (by omega)) ⟨t3, by rw [j3 ((11 : Nat) : Int) (by decide)]; exact h11, fun j => by rw [f3.1 227 (by decide), h27]; exact bF j, fr_trans hfr (fr_mono f3 (fun k hk => by omega)), fj_trans (fun j hj => hfj j (fun e => hj (.inl e))) (fun j hj => j3 j (fun e => hj (by omega)))⟩ G3 ?_ ?_) ?_
        · rw [j3 ((6 : Nat) : Int) (by decide)]; exact hfj _ (by decide)
        · rw [j3 ((7 : Nat) : Int) (by decide)]; exact hfj _ (by decide)
        · rw [h18]; exact zt
      · have en : ((i.toNat : Nat) : Int) = i := by omega
        obtain ⟨a1, a2⟩ := za i i0 hi
        have la := ari_1 (Z.2.2.2.1 i)
        have kzi := kZ i i0 (by omega)
        have v0 : F (4 * i + 1) = Z.2.2.2.2 i 0 := by have := a2 0 (Int.le_refl 0) (by omega); rw [show 4 * i + 1 + 0 = 4 * i + 1 by omega] at this; exact this
        have v1 : 2 ≤ ari_ (Z.2.2.2.1 i) → F (4 * i + 2) = Z.2.2.2.2 i 1 := fun q => by have := a2 1 (by decide) (by omega); rw [show 4 * i + 1 + 1 = 4 * i + 2 by omega] at this; exact this
        have v2 : 3 ≤ ari_ (Z.2.2.2.1 i) → F (4 * i + 3) = Z.2.2.2.2 i 2 := fun q => by have := a2 2 (by decide) (by omega); rw [show 4 * i + 1 + 2 = 4 * i + 3 by omega] at this; exact this
        refine hK.2 _ _ [(0, bc_R 218), (1, bc_I i)] _ _ _ (ls_ _ _) ?_
        refine hK.1 [38] 120 _ _ _ _ _ ?_
        refine bc_ob_i (by rw [h18]; constructor <;> constructor <;> omega) ?_
        rw [h18]
        refine bc_br_i (fun _ => ?_) (fun c => absurd hi c)
        refine t_X11_does hg hn hW (by omega) h27 (by omega) (by omega) (fun j _ _ => bF j) (by rw [a1]; exact kzi) (fun e x s3 le hno S => ?_) (fun r' x s3 hcf hcr S => ?_)
        · obtain ⟨⟨⟨N3, M3⟩, b3⟩, e14, f3, j3⟩ := S
          refine bc_ob_i (by rw [e14]; constructor <;> omega) ?_
          rw [e14]
          refine bc_br_i (fun c => absurd c (by omega)) (fun _ => ?_)
          have g4 : fr_ (fun k => k = 218) s3 (bc_wr (bc_wr s3 218 ((7 : Nat) : Int) i) 218 ((14 : Nat) : Int) 2) := fr_trans (fr_wr rfl) (fr_wr rfl)
          have j4 : fj_ (fun j => j = 7 ∨ j = 14) s3 (bc_wr (bc_wr s3 218 ((7 : Nat) : Int) i) 218 ((14 : Nat) : Int) 2) := fj_trans (fj_wr (.inl rfl)) (fj_wr (.inr rfl))
          refine t_X11_copies (.inr (.inl ⟨rfl, rfl⟩)) (by decide) (by decide) (fun s5 hcc => ?_)
          obtain ⟨g5, c5, -⟩ := hcc
          have g45 := fr_trans (fr_mono g4 (fun k hk => Or.inl hk)) (fr_mono g5 (fun k hk => Or.inr hk) : fr_ (fun k => k = 218 ∨ k = 219) _ _)
          have N5 : nw_ s5 219 q := fun j j0 j1 => by
            have e := c5 j j0 j1
            rw [Int.zero_add] at e
            rw [e, g4.1 220 (by decide)]
            exact b3 j j0 j1
          have j5 : fj_ (fun j => j = 7 ∨ j = 14) s3 s5 := fj_trans j4 (fj_fr g5 (by decide))
          have M5 : mh_ s5 h := mh_fr M3 g45 (by decide) (j5 _ (by decide))
          have hx2 := hf z1 i.toNat r s5 (by omega) hx (fun f hcf2 => hno f (by
            rw [en] at hcf2
            rw [a1]
            exact (cf_cong kzi v0 v1 v2).mpr hcf2))
          refine hx2 ⟨?_, ?_, fun j => ?_, fr_trans hfr (fr_trans (fr_mono f3 (fun k hk => by omega)) (fr_mono g45 (fun k hk => by omega))), fj_trans (fun j hj => hfj j (fun e => hj (.inl e))) (fj_trans (fun j hj => j3 j (fun e => hj (by omega))) (fun j hj => j5 j (fun e => hj (by omega))))⟩ ⟨N5, M5⟩ ?_ ?_
          · rw [g5.1 218 (by decide)]; simp [bc_wr]
          · rw [j5 ((11 : Nat) : Int) (by decide), j3 ((11 : Nat) : Int) (by decide)]; exact h11
          · rw [g45.1 227 (by decide), f3.1 227 (by decide), h27]; exact bF j
          · rw [j5 ((6 : Nat) : Int) (by decide), j3 ((6 : Nat) : Int) (by decide)]; exact hfj _ (by decide)
          · rw [g5.1 218 (by decide), en]; simp [bc_wr]
        · obtain ⟨⟨G3, b3⟩, e14, f3, j3⟩ := S
          refine bc_ob_i (by rw [e14]; decide) ?_
          rw [e14]
          refine bc_br_i (fun _ => ?_) (fun c => absurd rfl c)
          have hW2 := wu_step hW hcf hcr
          rw [a1] at hcf hcr
          have hx2 : rsx_ Z q (i + 1).toNat r' := by
            rw [show (i + 1).toNat = i.toNat + 1 by omega]
            refine ⟨r, hx, ?_, ?_⟩
            · rw [en]; exact (cf_cong kzi v0 v1 v2).mp hcf
            · rw [en]; exact crow_cong kzi v0 v1 v2 hcr
          exact ih r' s3 [(2, bc_I x)] (by omega) (by omega) hx2 (by rw [show B + 30 * (i + 1) = B + 30 * i + 30 by omega]; exact hW2) G3 b3 (by rw [f3.1 227 (by decide)]; exact h27) (by rw [j3 ((11 : Nat) : Int) (by decide)]; exact h11) e14 (by rw [j3 ((18 : Nat) : Int) (by decide)]; exact h18) (fr_trans hfr (fr_mono f3 (fun k hk => by omega))) (fj_trans hfj (fun j hj => j3 j (fun e => hj (by omega))))
    refine L 0 q _ [] (Int.le_refl 0) lt.1 rfl (wu_mono hU (by omega)) (rg_fr G2 g3 (by decide) (by decide) (j3 _ (by decide))) (nw_fr b2 g3 (by decide)) ?_ ?_ (by simp [bc_wr]) ?_ (fr_trans F1 (fr_trans (fr_mono f2 (fun k hk => by omega)) (fr_mono g3 (fun k hk => by omega)))) (fj_trans J1 (fj_trans (fun j hj => j2 j (fun e => hj (by omega))) (fun j hj => j3 j (fun e => hj (by omega)))))
    · rw [g3.1 227 (by decide), f2.1 227 (by decide)]; exact sF
    · rw [j3 ((11 : Nat) : Int) (by decide), j2 ((11 : Nat) : Int) (by decide)]; exact s11
    · rw [j3 ((18 : Nat) : Int) (by decide), j2 ((18 : Nat) : Int) (by decide)]; exact s18
end REF
end
