/-! the reference: links, critical members, ranks, the greatest vow -/
def lnk_ (q : rw_t) : Nat → Int64
  | 0 => 0
  | n + 1 => if 0 < br_ q n then lnk_ q n ||| (((1 : Int64) <<< ((Int32.ofInt (8 * q (16 + 6 * (n : Int)) + q (17 + 6 * (n : Int)))).toInt64 &&& 63)) ||| ((1 : Int64) <<< ((Int32.ofInt (8 * q (17 + 6 * (n : Int)) + q (16 + 6 * (n : Int)))).toInt64 &&& 63))) else lnk_ q n
theorem lnk_s {q : rw_t} {i : Int} (h : 0 ≤ i) : lnk_ q (i + 1).toNat = if 0 < br_ q i then lnk_ q i.toNat ||| (((1 : Int64) <<< ((Int32.ofInt (8 * q (16 + 6 * i) + q (17 + 6 * i))).toInt64 &&& 63)) ||| ((1 : Int64) <<< ((Int32.ofInt (8 * q (17 + 6 * i) + q (16 + 6 * i))).toInt64 &&& 63))) else lnk_ q i.toNat := by
  obtain ⟨n, rfl⟩ : ∃ n : Nat, i = n := ⟨i.toNat, by omega⟩
  rw [show ((n : Int) + 1).toNat = n + 1 by omega, show ((n : Int)).toNat = n by omega]
  rfl
def acr_ (q : rw_t) (m : Int) : Int := if br_ q m = 0 then 0 else if 99999 ≤ xm_ q 1 m (q (17 + 6 * m)) 8 (q (16 + 6 * m)) then 1 else 0
section REF
variable {g : bc_C} {d : Nat} {σ : bc_M} {q b : rw_t} {h : List rw_t} {Rr : Option bc_A → bc_M → Prop} {X : Nat → bc_M → Prop} {B : Int}
theorem t_X11_links (hN : nw_ σ 219 q) (hW : wf_M q) (f : ∀ σ', roc_ 0 σ σ' → Rr (some (bc_J (lnk_ q (q 3).toNat))) σ') : bc_Sem g (d + 6) mX11_links [bc_R 218] σ Rr X := by
  have w3 := hW.1
  have R0 : roc_ 0 σ (bc_wr σ 218 ((14 : Nat) : Int) 0) := roc_wr rfl
  have N := nw_fr hN R0.2.1 (by decide)
  have fin := f _ R0
  have e3 := N 3 (by decide) (by decide)
  refine e_X11_links rfl (fun K hK => ?_)
  have L : ∀ i : Int, 0 ≤ i → i ≤ q 3 → K 9 [(0, bc_R 218), (1, bc_J (lnk_ q i.toNat)), (3, bc_I i)] [] (bc_wr σ 218 ((14 : Nat) : Int) 0) 0 := by
    generalize bc_wr σ 218 ((14 : Nat) : Int) 0 = s at N fin e3 ⊢
    refine up_ind (q 3) (fun i hi i0 i1 => ?_) (fun i hi ih i0 i1 => ?_)
    · have e : i = q 3 := by omega
      subst e
      refine hK.1 [9] 60 _ _ _ _ _ ?_
      refine bc_ob_i (by first | omega | decide | (constructor <;> omega) | (constructor <;> constructor <;> omega)) ?_
      refine bc_ob_i (by first | omega | decide | (constructor <;> omega) | (constructor <;> constructor <;> omega)) ?_
      refine bc_br_i (fun c => absurd c (by omega)) (fun _ => ?_)
      exact fin
    · have hb := br_le hW i0 (by omega : i < 16)
      rw [lnk_s i0] at ih
      refine hK.1 [9] 90 _ _ _ _ _ ?_
      refine bc_ob_i (by first | omega | decide | (constructor <;> omega) | (constructor <;> constructor <;> omega)) ?_
      refine bc_ob_i (by first | omega | decide | (constructor <;> omega) | (constructor <;> constructor <;> omega)) ?_
      refine bc_br_i (fun _ => ?_) (fun c => absurd (by omega) c)
      refine t_X11_bears N hW i0 hi ?_
      refine bc_ob_i (by first | omega | decide | (constructor <;> omega) | (constructor <;> constructor <;> omega)) ?_
      refine bc_br_i (fun c => ?_) (fun c => ?_)
      rotate_left
      · have c' : ¬ 0 < br_ q i := c
        rw [if_neg c'] at ih
        exact ih (by omega) (by omega)
      · have c' : 0 < br_ q i := c
        rw [if_pos c'] at ih
        refine t_X11_ofM 16 N hW i0 hi (by decide) rfl ?_
        refine t_X11_ofM 17 N hW i0 hi (by decide) rfl ?_
        refine t_X11_ofM 17 N hW i0 hi (by decide) rfl ?_
        refine t_X11_ofM 16 N hW i0 hi (by decide) rfl ?_
        exact ih (by omega) (by omega)
  refine hK.1 [9] 60 _ _ _ _ _ ?_
  exact L 0 (Int.le_refl 0) w3.1
theorem t_X11_asksCritical {m : Int} (hN : nw_ σ 219 q) (hW : wf_M q) (hm : bc_in m) (f1 : ¬ (0 ≤ m ∧ m < q 3) → ∀ σ', roc_ 1 σ σ' → Rr (some (bc_I 0)) σ') (f0 : 0 ≤ m ∧ m < q 3 → ∀ σ', roc_ 0 σ σ' → Rr (some (bc_I (acr_ q m))) σ') : bc_Sem g (d + 7) mX11_asksCritical [bc_R 218, bc_I m] σ Rr X := by
  have w3 := hW.1
  refine e_X11_asksCritical rfl (fun K hK => ?_)
  refine hK.1 [] 60 _ _ _ _ _ ?_
  refine t_X11_isMember hN w3 hm ?_
  by_cases c : 0 ≤ m ∧ m < q 3
  · rw [if_pos c]
    obtain ⟨g0, g1, -⟩ := hW.2 m c.1 (by omega)
    have hb := br_le hW c.1 (by omega : m < 16)
    refine t_X11_goes (by decide) ?_
    have R0 : roc_ 0 σ (bc_wr σ 218 ((14 : Nat) : Int) (1 - 1)) := roc_wr (by decide)
    have N := nw_fr hN R0.2.1 (by decide)
    generalize bc_wr σ 218 ((14 : Nat) : Int) (1 - 1) = s at R0 N ⊢
    refine bc_ob_i (by decide) ?_
    refine bc_br_i (fun c => absurd c (by decide)) (fun _ => ?_)
    refine t_X11_bears N hW c.1 c.2 ?_
    refine bc_ob_i (by first | omega | decide | (constructor <;> omega) | (constructor <;> constructor <;> omega)) ?_
    refine bc_br_i (fun e => ?_) (fun e => ?_)
    rotate_left
    · refine t_X11_ofM 17 N hW c.1 c.2 (by decide) rfl ?_
      refine t_X11_measures N hW (by omega) (by decide) hm (fun s2 a2 F2 => ?_)
      have fin := f0 c s2 (roc_fr R0 F2 (by decide) (fun k hk => .inl hk))
      unfold acr_ at fin
      rw [if_neg (by omega)] at fin
      refine t_X11_ofM 16 (nw_fr N F2 (by decide)) hW c.1 c.2 (by decide) rfl ?_
      have a16 := a2 (q (16 + 6 * m)) (by omega) (by omega)
      have l16 := xm_lm hW 1 m (q (17 + 6 * m)) 8 (q (16 + 6 * m)) (by omega) (by omega)
      refine bc_ob_i (by omega) ?_
      refine bc_ob_i (by rw [a16]; constructor <;> constructor <;> omega) ?_
      rw [a16]
      refine bc_br_i (fun k => ?_) (fun k => ?_)
      · rw [if_neg (by omega)] at fin
        refine bc_ob_i (by decide) ?_
        exact fin
      · rw [if_pos (by omega)] at fin
        refine bc_ob_i (by decide) ?_
        exact fin
    · have fin := f0 c s R0
      unfold acr_ at fin
      rw [if_pos (by omega)] at fin
      refine bc_ob_i (by decide) ?_
      exact fin
  · rw [if_neg c]
    refine t_X11_goes (by decide) ?_
    refine bc_ob_i (by decide) ?_
    refine bc_br_i (fun _ => ?_) (fun c => absurd (by decide) c)
    refine bc_ob_i (by decide) ?_
    exact f1 c _ (roc_wr (by decide))
theorem t_X11_isCritical {m : Int} (hN : nw_ σ 219 q) (hW : wf_M q) (hm : bc_in m) (f1 : ¬ (0 ≤ m ∧ m < q 3) → ∀ σ', roc_ 1 σ σ' → Rr (some (bc_I 0)) σ') (f0 : 0 ≤ m ∧ m < q 3 → ∀ σ', roc_ 0 σ σ' → Rr (some (bc_I (acr_ q m))) σ') : bc_Sem g (d + 8) mX11_isCritical [bc_R 218, bc_I m] σ Rr X := by
  refine e_X11_isCritical rfl (fun K hK => ?_)
  have la : 0 ≤ acr_ q m ∧ acr_ q m ≤ 1 := by unfold acr_; (repeat' split) <;> omega
  refine hK.1 [] 60 _ _ _ _ _ ?_
  refine t_X11_asksCritical hN hW hm (fun c s R => ?_) (fun c s R => ?_)
  · exact bc_ob_i (by decide) (f1 c s R)
  · exact bc_ob_i (by omega) (f0 c s R)
theorem t_X11_isCriticalByRemoval {m : Int} (hN : nw_ σ 219 q) (hW : wf_M q) (hm : bc_in m) (f1 : ¬ (0 ≤ m ∧ m < q 3) → ∀ σ', roc_ 1 σ σ' → Rr (some (bc_I 0)) σ') (f0 : 0 ≤ m ∧ m < q 3 → ∀ σ', roc_ 0 σ σ' → Rr (some (bc_I (acr_ q m))) σ') : bc_Sem g (d + 8) mX11_isCriticalByRemoval [bc_R 218, bc_I m] σ Rr X := by
  refine e_X11_isCriticalByRemoval rfl (fun K hK => ?_)
  have la : 0 ≤ acr_ q m ∧ acr_ q m ≤ 1 := by unfold acr_; (repeat' split) <;> omega
  refine hK.1 [] 60 _ _ _ _ _ ?_
  refine t_X11_asksCritical hN hW hm (fun c s R => ?_) (fun c s R => ?_)
  · exact bc_ob_i (by decide) (f1 c s R)
  · exact bc_ob_i (by omega) (f0 c s R)
/-- a rank among the members: x bears it, or none does -/
def rkx_ (q : rw_t) (a n x : Int) : Prop := (x = -1 ∧ ∀ k : Int, 0 ≤ k → k < n → rk_ q k ≠ a) ∨ ((0 ≤ x ∧ x < q 3) ∧ rk_ q x = a)
theorem t_X11_memberByBearing {a : Int} (hN : nw_ σ 219 q) (hW : wf_M q) (ha : bc_in a) (f1 : rkx_ q a (q 3) (-1) → ∀ σ', roc_ 1 σ σ' → Rr (some (bc_I 0)) σ') (f0 : ∀ x, 0 ≤ x → rkx_ q a (q 3) x → ∀ σ', roc_ 0 σ σ' → Rr (some (bc_I x)) σ') : bc_Sem g (d + 6) mX11_memberByBearing [bc_R 218, bc_I a] σ Rr X := by
  have w3 := hW.1
  have e3 := hN 3 (by decide) (by decide)
  obtain ⟨ha0, ha1⟩ := ha
  refine e_X11_memberByBearing rfl (fun K hK => ?_)
  have E : ∀ x y : Int, rkx_ q a (q 3) x → (y = if x ≠ -1 then 1 else 0) → K 132 [(0, bc_R 218), (1, bc_I a), (2, bc_I x)] [bc_I y, bc_R 218] σ 0 := by
    intro x y hx hy
    refine hK.1 [] 60 _ _ _ _ _ ?_
    by_cases c : x ≠ -1
    · rw [if_pos c] at hy
      subst hy
      have x0 : 0 ≤ x := by rcases hx with hx | hx <;> omega
      refine t_X11_goes (by decide) ?_
      refine bc_ob_i (by decide) ?_
      refine bc_br_i (fun c => absurd c (by decide)) (fun _ => ?_)
      exact f0 x x0 hx _ (roc_wr (by decide))
    · rw [if_neg c] at hy
      subst hy
      have x0 : x = -1 := by omega
      subst x0
      refine t_X11_goes (by decide) ?_
      refine bc_ob_i (by decide) ?_
      refine bc_br_i (fun _ => ?_) (fun c => absurd (by decide) c)
      exact f1 hx _ (roc_wr (by decide))
  have Li : ∀ (i x : Int), 0 ≤ i → i < q 3 → (∀ (z : bc_LV), K 103 ([(0, bc_R 218), (1, bc_I a), (2, bc_I x), (3, bc_I i), (4, bc_I (rk_ q i)), (5, bc_I (q 3))] ++ z) [] σ 0) → ∀ j : Int, ∀ z : bc_LV, 0 ≤ j → j ≤ q 3 → K 20 ([(0, bc_R 218), (1, bc_I a), (2, bc_I x), (3, bc_I i), (4, bc_I (sm_ (fun k => bb_ q k i) j.toNat)), (5, bc_I j)] ++ z) [] σ 0 := by
    intro i x i0 i1 go
    have bi := br_le hW i0 (by omega : i < 16)
    obtain ⟨-, -, -, ci, -⟩ := hW.2 i i0 (by omega)
    refine up_ind (q 3) (fun j hj z j0 j1 => ?_) (fun j hj ih z j0 j1 => ?_)
    · have e : j = q 3 := by omega
      subst e
      refine hK.2 _ _ [(0, bc_R 218), (1, bc_I a), (2, bc_I x), (3, bc_I i), (4, bc_I (sm_ (fun k => bb_ q k i) (q 3).toNat)), (5, bc_I (q 3))] _ _ _ (ls_ _ _) ?_
      refine hK.1 [4, 20, 103] 60 _ _ _ _ _ ?_
      refine bc_ob_i (by first | omega | decide | (constructor <;> omega) | (constructor <;> constructor <;> omega)) ?_
      refine bc_ob_i (by first | omega | decide | (constructor <;> omega) | (constructor <;> constructor <;> omega)) ?_
      refine bc_br_i (fun c => absurd c (by omega)) (fun _ => ?_)
      exact go []
    · have bj := br_le hW j0 (by omega : j < 16)
      obtain ⟨-, -, -, cj, -⟩ := hW.2 j j0 (by omega)
      rw [sm_s j0] at ih
      have N94 : ∀ (y u v : Int), y = bb_ q j i → K 94 [(0, bc_R 218), (1, bc_I a), (2, bc_I x), (3, bc_I i), (4, bc_I (sm_ (fun k => bb_ q k i) j.toNat)), (5, bc_I j), (6, bc_I u), (7, bc_I v)] [bc_I y, bc_I (sm_ (fun k => bb_ q k i) j.toNat)] σ 0 := by
        intro y u v hy
        subst hy
        refine hK.1 [4, 20] 60 _ _ _ _ _ ?_
        exact ih [(6, bc_I u), (7, bc_I v)] (by omega) (by omega)
      unfold bb_ at N94
      refine hK.2 _ _ [(0, bc_R 218), (1, bc_I a), (2, bc_I x), (3, bc_I i), (4, bc_I (sm_ (fun k => bb_ q k i) j.toNat)), (5, bc_I j)] _ _ _ (ls_ _ _) ?_
      refine hK.1 [4, 20, 94, 103] 120 _ _ _ _ _ ?_
      refine bc_ob_i (by first | omega | decide | (constructor <;> omega) | (constructor <;> constructor <;> omega)) ?_
      refine bc_ob_i (by first | omega | decide | (constructor <;> omega) | (constructor <;> constructor <;> omega)) ?_
      refine bc_br_i (fun _ => ?_) (fun c => absurd (by omega) c)
      refine t_X11_bears hN hW i0 i1 ?_
      refine t_X11_bears hN hW j0 hj ?_
      refine t_X11_ofM 19 hN hW j0 hj (by decide) rfl ?_
      refine t_X11_ofM 19 hN hW i0 i1 (by decide) rfl ?_
      refine bc_ob_i (by first | omega | decide | (constructor <;> omega) | (constructor <;> constructor <;> omega)) ?_
      refine bc_br_i (fun c => ?_) (fun c => ?_)
      · exact N94 1 _ _ (by rw [if_pos (by omega), if_pos (by omega)])
      refine bc_ob_i (by first | omega | decide | (constructor <;> omega) | (constructor <;> constructor <;> omega)) ?_
      refine bc_br_i (fun c1 => ?_) (fun c1 => N94 0 _ _ (by rw [if_pos (by omega), if_neg (by omega)]))
      refine bc_ob_i (by first | omega | decide | (constructor <;> omega) | (constructor <;> constructor <;> omega)) ?_
      refine bc_br_i (fun c2 => ?_) (fun c2 => ?_)
      · exact N94 1 _ _ (by rw [if_neg (by omega), if_pos (by omega), if_pos (by omega)])
      refine bc_ob_i (by first | omega | decide | (constructor <;> omega) | (constructor <;> constructor <;> omega)) ?_
      refine bc_br_i (fun c3 => ?_) (fun c3 => N94 0 _ _ (by rw [if_neg (by omega), if_pos (by omega), if_neg (by omega)]))
      refine bc_ob_i (by first | omega | decide | (constructor <;> omega) | (constructor <;> constructor <;> omega)) ?_
      refine bc_br_i (fun c4 => ?_) (fun c4 => ?_)
      · exact N94 1 _ _ (by rw [if_neg (by omega), if_neg (by omega), if_pos (by omega)])
      · exact N94 0 _ _ (by rw [if_neg (by omega), if_neg (by omega), if_neg (by omega)])
  have L : ∀ i : Int, ∀ (x : Int) (z : bc_LV), 0 ≤ i → i ≤ q 3 → rkx_ q a i x → K 4 ([(0, bc_R 218), (1, bc_I a), (2, bc_I x), (3, bc_I i)] ++ z) [] σ 0 := by
    refine up_ind (q 3) (fun i hi x z i0 i1 hx => ?_) (fun i hi ih x z i0 i1 hx => ?_)
    · have e : i = q 3 := by omega
      subst e
      have lx : -1 ≤ x ∧ x < 16 := by rcases hx with hx | hx <;> omega
      refine hK.2 _ _ [(0, bc_R 218), (1, bc_I a), (2, bc_I x), (3, bc_I (q 3))] _ _ _ (ls_ _ _) ?_
      refine hK.1 [4, 132] 60 _ _ _ _ _ ?_
      refine bc_ob_i (by first | omega | decide | (constructor <;> omega) | (constructor <;> constructor <;> omega)) ?_
      refine bc_ob_i (by first | omega | decide | (constructor <;> omega) | (constructor <;> constructor <;> omega)) ?_
      refine bc_br_i (fun c => absurd c (by omega)) (fun _ => ?_)
      refine bc_ob_i (by first | omega | decide | (constructor <;> omega) | (constructor <;> constructor <;> omega)) ?_
      have W : ∀ y : Int, (y = if x ≠ -1 then 1 else 0) → K 132 [(0, bc_R 218), (1, bc_I a), (2, bc_I x), (3, bc_I (q 3))] [bc_I y, bc_R 218] σ 0 := fun y hy => hK.2 _ _ [(0, bc_R 218), (1, bc_I a), (2, bc_I x)] _ _ _ (ls_ _ [(3, bc_I (q 3))]) (E x y hx hy)
      refine bc_br_i (fun c => ?_) (fun c => ?_)
      · exact W 0 (if_neg (by omega)).symm
      · exact W 1 (if_pos (by omega)).symm
    · have nx : ∀ (y : Int) (z2 : bc_LV), rkx_ q a (i + 1) y → K 4 ([(0, bc_R 218), (1, bc_I a), (2, bc_I y), (3, bc_I (i + 1))] ++ z2) [] σ 0 := fun y z2 hy => ih y z2 (by omega) (by omega) hy
      have lk := rk_le hW i
      have go : ∀ (z : bc_LV), K 103 ([(0, bc_R 218), (1, bc_I a), (2, bc_I x), (3, bc_I i), (4, bc_I (rk_ q i)), (5, bc_I (q 3))] ++ z) [] σ 0 := by
        intro z
        refine hK.2 _ _ [(0, bc_R 218), (1, bc_I a), (2, bc_I x), (3, bc_I i), (4, bc_I (rk_ q i)), (5, bc_I (q 3))] _ _ _ (ls_ _ _) ?_
        refine hK.1 [4] 60 _ _ _ _ _ ?_
        refine bc_ob_i (by first | omega | decide | (constructor <;> omega) | (constructor <;> constructor <;> omega)) ?_
        refine bc_br_i (fun c => ?_) (fun c => ?_)
        rotate_left
        · refine nx x [(4, bc_I (rk_ q i)), (5, bc_I (q 3))] ?_
          rcases hx with ⟨x0, hx⟩ | hx
          · refine .inl ⟨x0, fun k k0 k1 => ?_⟩
            by_cases e : k = i
            · rw [e]; exact c
            · exact hx k k0 (by omega)
          · exact .inr hx
        · refine nx i [(4, bc_I (rk_ q i)), (5, bc_I (q 3))] (.inr ⟨⟨i0, hi⟩, ?_⟩)
          first | exact c | exact Classical.not_not.mp c
      refine hK.2 _ _ [(0, bc_R 218), (1, bc_I a), (2, bc_I x), (3, bc_I i)] _ _ _ (ls_ _ _) ?_
      refine hK.1 [4, 20] 60 _ _ _ _ _ ?_
      refine bc_ob_i (by first | omega | decide | (constructor <;> omega) | (constructor <;> constructor <;> omega)) ?_
      refine bc_ob_i (by first | omega | decide | (constructor <;> omega) | (constructor <;> constructor <;> omega)) ?_
      refine bc_br_i (fun _ => ?_) (fun c => absurd (by omega) c)
      exact Li i x i0 hi go 0 [] (Int.le_refl 0) w3.1
  refine hK.1 [4] 60 _ _ _ _ _ ?_
  exact L 0 (-1) [] (Int.le_refl 0) w3.1 (.inl ⟨rfl, fun k k0 k1 => by omega⟩)
end REF
