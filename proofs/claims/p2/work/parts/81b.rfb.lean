/-! the reference: the vows in their order; the greatest vow -/
section REF
variable {g : bc_C} {d : Nat} {σ : bc_M} {q b : rw_t} {h : List rw_t} {Rr : Option bc_A → bc_M → Prop} {X : Nat → bc_M → Prop} {B : Int}
/-- a place among the waiting vows: the vow x stands there, or none does -/
def vkx_ (q : rw_t) (a n x : Int) : Prop := (x = -1 ∧ ∀ k : Int, 0 ≤ k → k < n → vk_r q k ≠ a) ∨ ∃ k : Int, (0 ≤ k ∧ k < q 4) ∧ vk_r q k = a ∧ x = q (112 + 3 * k)
theorem t_X11_vowAt {a : Int} (hN : nw_ σ 219 q) (hT : wf_T B q) (hB : B ≤ 1000000) (ha : bc_in a) (f1 : vkx_ q a (q 4) (-1) → ∀ σ', roc_ 1 σ σ' → Rr (some (bc_I 0)) σ') (f0 : ∀ x, 0 ≤ x → vkx_ q a (q 4) x → ∀ σ', roc_ 0 σ σ' → Rr (some (bc_I x)) σ') : bc_Sem g (d + 3) mX11_vowAt [bc_R 218, bc_I a] σ Rr X := by
  obtain ⟨T0, T1, T2, T4, T5, T6, T7, Ts, T8, T9, T10, Te, Tv, Tw, To⟩ := hT
  have e4 := hN 4 (by decide) (by decide)
  obtain ⟨ha0, ha1⟩ := ha
  refine e_X11_vowAt rfl (fun K hK => ?_)
  have lx : ∀ n x : Int, vkx_ q a n x → -1 ≤ x ∧ x ≤ 1000000 := by
    intro n x hx
    rcases hx with hx | ⟨k, hk, -, e⟩
    · omega
    · obtain ⟨v1, v2, v3⟩ := Tv k hk.1 (by omega)
      omega
  have E : ∀ x y : Int, vkx_ q a (q 4) x → (y = if x ≠ -1 then 1 else 0) → K 113 [(0, bc_R 218), (1, bc_I a), (2, bc_I x)] [bc_I y, bc_R 218] σ 0 := by
    intro x y hx hy
    have l := lx _ _ hx
    refine hK.1 [] 60 _ _ _ _ _ ?_
    by_cases c : x ≠ -1
    · rw [if_pos c] at hy
      subst hy
      refine t_X11_goes (by decide) ?_
      refine bc_ob_i (by decide) ?_
      refine bc_br_i (fun c => absurd c (by decide)) (fun _ => ?_)
      exact f0 x (by omega) hx _ (roc_wr (by decide))
    · rw [if_neg c] at hy
      subst hy
      have x0 : x = -1 := by omega
      subst x0
      refine t_X11_goes (by decide) ?_
      refine bc_ob_i (by decide) ?_
      refine bc_br_i (fun _ => ?_) (fun c => absurd (by decide) c)
      exact f1 hx _ (roc_wr (by decide))
  have Li : ∀ (i x : Int), 0 ≤ i → i < q 4 → (∀ (z : bc_LV), K 79 ([(0, bc_R 218), (1, bc_I a), (2, bc_I x), (3, bc_I i), (4, bc_I (vk_r q i)), (5, bc_I (q 4))] ++ z) [] σ 0) → ∀ j : Int, ∀ z : bc_LV, 0 ≤ j → j ≤ q 4 → K 20 ([(0, bc_R 218), (1, bc_I a), (2, bc_I x), (3, bc_I i), (4, bc_I (sm_ (fun k => vb_ q k i) j.toNat)), (5, bc_I j)] ++ z) [] σ 0 := by
    intro i x i0 i1 go
    obtain ⟨u1, u2, u3⟩ := Tv i i0 (by omega)
    refine up_ind (q 4) (fun j hj z j0 j1 => ?_) (fun j hj ih z j0 j1 => ?_)
    · have e : j = q 4 := by omega
      subst e
      refine hK.2 _ _ [(0, bc_R 218), (1, bc_I a), (2, bc_I x), (3, bc_I i), (4, bc_I (sm_ (fun k => vb_ q k i) (q 4).toNat)), (5, bc_I (q 4))] _ _ _ (ls_ _ _) ?_
      refine hK.1 [4, 20, 79] 60 _ _ _ _ _ ?_
      refine bc_ob_i (by first | omega | decide | (constructor <;> omega) | (constructor <;> constructor <;> omega)) ?_
      refine bc_ob_i (by first | omega | decide | (constructor <;> omega) | (constructor <;> constructor <;> omega)) ?_
      refine bc_br_i (fun c => absurd c (by omega)) (fun _ => ?_)
      exact go []
    · obtain ⟨v1, v2, v3⟩ := Tv j j0 (by omega)
      have oij : j < i → q (112 + 3 * j) < q (112 + 3 * i) := fun c => To j i j0 c i1
      have oji : i < j → q (112 + 3 * i) < q (112 + 3 * j) := fun c => To i j i0 c hj
      have oee : i = j → q (112 + 3 * i) = q (112 + 3 * j) := fun c => by rw [c]
      rw [sm_s j0] at ih
      have N70 : ∀ (y u : Int), y = vb_ q j i → K 70 [(0, bc_R 218), (1, bc_I a), (2, bc_I x), (3, bc_I i), (4, bc_I (sm_ (fun k => vb_ q k i) j.toNat)), (5, bc_I j), (6, bc_I u)] [bc_I y, bc_I (sm_ (fun k => vb_ q k i) j.toNat)] σ 0 := by
        intro y u hy
        subst hy
        refine hK.1 [4, 20] 60 _ _ _ _ _ ?_
        exact ih [(6, bc_I u)] (by omega) (by omega)
      unfold vb_ at N70
      refine hK.2 _ _ [(0, bc_R 218), (1, bc_I a), (2, bc_I x), (3, bc_I i), (4, bc_I (sm_ (fun k => vb_ q k i) j.toNat)), (5, bc_I j)] _ _ _ (ls_ _ _) ?_
      refine hK.1 [4, 20, 70, 79] 120 _ _ _ _ _ ?_
      refine bc_ob_i (by first | omega | decide | (constructor <;> omega) | (constructor <;> constructor <;> omega)) ?_
      refine bc_ob_i (by first | omega | decide | (constructor <;> omega) | (constructor <;> constructor <;> omega)) ?_
      refine bc_br_i (fun _ => ?_) (fun c => absurd (by omega) c)
      refine t_X11_ofVow 113 hN (by omega) (by decide) rfl ?_
      refine t_X11_ofVow 113 hN (by omega) (by decide) rfl ?_
      refine bc_ob_i (by first | omega | decide | (constructor <;> omega) | (constructor <;> constructor <;> omega)) ?_
      refine bc_br_i (fun c => ?_) (fun c => ?_)
      · exact N70 1 _ (by rw [if_pos (by omega)])
      refine bc_ob_i (by first | omega | decide | (constructor <;> omega) | (constructor <;> constructor <;> omega)) ?_
      refine bc_br_i (fun c1 => ?_) (fun c1 => N70 0 _ (by rw [if_neg (by omega), if_neg (by omega)]))
      refine bc_ob_i (by first | omega | decide | (constructor <;> omega) | (constructor <;> constructor <;> omega)) ?_
      refine bc_br_i (fun c4 => ?_) (fun c4 => ?_)
      · exact N70 1 _ (by rw [if_neg (by omega), if_pos (by omega), if_pos (by omega)])
      · exact N70 0 _ (by rw [if_neg (by omega), if_pos (by omega), if_neg (by omega)])
  have L : ∀ i : Int, ∀ (x : Int) (z : bc_LV), 0 ≤ i → i ≤ q 4 → vkx_ q a i x → K 4 ([(0, bc_R 218), (1, bc_I a), (2, bc_I x), (3, bc_I i)] ++ z) [] σ 0 := by
    refine up_ind (q 4) (fun i hi x z i0 i1 hx => ?_) (fun i hi ih x z i0 i1 hx => ?_)
    · have e : i = q 4 := by omega
      subst e
      have l := lx _ _ hx
      refine hK.2 _ _ [(0, bc_R 218), (1, bc_I a), (2, bc_I x), (3, bc_I (q 4))] _ _ _ (ls_ _ _) ?_
      refine hK.1 [4, 113] 60 _ _ _ _ _ ?_
      refine bc_ob_i (by first | omega | decide | (constructor <;> omega) | (constructor <;> constructor <;> omega)) ?_
      refine bc_ob_i (by first | omega | decide | (constructor <;> omega) | (constructor <;> constructor <;> omega)) ?_
      refine bc_br_i (fun c => absurd c (by omega)) (fun _ => ?_)
      refine bc_ob_i (by first | omega | decide | (constructor <;> omega) | (constructor <;> constructor <;> omega)) ?_
      have W : ∀ y : Int, (y = if x ≠ -1 then 1 else 0) → K 113 [(0, bc_R 218), (1, bc_I a), (2, bc_I x), (3, bc_I (q 4))] [bc_I y, bc_R 218] σ 0 := fun y hy => hK.2 _ _ [(0, bc_R 218), (1, bc_I a), (2, bc_I x)] _ _ _ (ls_ _ [(3, bc_I (q 4))]) (E x y hx hy)
      refine bc_br_i (fun c => ?_) (fun c => ?_)
      · exact W 0 (if_neg (by omega)).symm
      · exact W 1 (if_pos (by omega)).symm
    · have nx : ∀ (y : Int) (z2 : bc_LV), vkx_ q a (i + 1) y → K 4 ([(0, bc_R 218), (1, bc_I a), (2, bc_I y), (3, bc_I (i + 1))] ++ z2) [] σ 0 := fun y z2 hy => ih y z2 (by omega) (by omega) hy
      have lk := vk_le T4 i
      have go : ∀ (z : bc_LV), K 79 ([(0, bc_R 218), (1, bc_I a), (2, bc_I x), (3, bc_I i), (4, bc_I (vk_r q i)), (5, bc_I (q 4))] ++ z) [] σ 0 := by
        intro z
        refine hK.2 _ _ [(0, bc_R 218), (1, bc_I a), (2, bc_I x), (3, bc_I i), (4, bc_I (vk_r q i)), (5, bc_I (q 4))] _ _ _ (ls_ _ _) ?_
        refine hK.1 [4] 60 _ _ _ _ _ ?_
        refine bc_ob_i (by first | omega | decide | (constructor <;> omega) | (constructor <;> constructor <;> omega)) ?_
        refine bc_br_i (fun c => ?_) (fun c => ?_)
        rotate_left
        · refine nx x [(4, bc_I (vk_r q i)), (5, bc_I (q 4))] ?_
          rcases hx with ⟨x0, hx⟩ | hx
          · refine .inl ⟨x0, fun k k0 k1 => ?_⟩
            by_cases e : k = i
            · rw [e]; exact c
            · exact hx k k0 (by omega)
          · exact .inr hx
        · refine t_X11_ofVow 112 hN (by omega) (by decide) rfl ?_
          refine nx (q (112 + 3 * i)) [(4, bc_I (vk_r q i)), (5, bc_I (q 4))] (.inr ⟨i, ⟨i0, hi⟩, ?_, rfl⟩)
          first | exact c | exact Classical.not_not.mp c
      refine hK.2 _ _ [(0, bc_R 218), (1, bc_I a), (2, bc_I x), (3, bc_I i)] _ _ _ (ls_ _ _) ?_
      refine hK.1 [4, 20] 60 _ _ _ _ _ ?_
      refine bc_ob_i (by first | omega | decide | (constructor <;> omega) | (constructor <;> constructor <;> omega)) ?_
      refine bc_ob_i (by first | omega | decide | (constructor <;> omega) | (constructor <;> constructor <;> omega)) ?_
      refine bc_br_i (fun _ => ?_) (fun c => absurd (by omega) c)
      exact Li i x i0 hi go 0 [] (Int.le_refl 0) T4.1
  refine hK.1 [4] 60 _ _ _ _ _ ?_
  exact L 0 (-1) [] (Int.le_refl 0) T4.1 (.inl ⟨rfl, fun k k0 k1 => by omega⟩)
/-- the most that can be vowed for a day, with the first n vows looked at -/
def gv_ (q : rw_t) (a n x : Int) : Prop := x ≤ sp_ q a ∧ (∀ k : Int, 0 ≤ k → k < n → a ≤ q (113 + 3 * k) → x ≤ sp_ q (q (113 + 3 * k))) ∧ (x = sp_ q a ∨ ∃ k : Int, (0 ≤ k ∧ k < q 4) ∧ a ≤ q (113 + 3 * k) ∧ x = sp_ q (q (113 + 3 * k)))
theorem t_X11_greatestVow {a : Int} (hN : nw_ σ 219 q) (hT : wf_T B q) (hB : B ≤ 1000000) (ha : bc_in a) (f1 : ¬ (q 0 < a ∧ a ≤ q 0 + 50) → ∀ σ', roc_ 1 σ σ' → Rr (some (bc_I 0)) σ') (f2 : (q 0 < a ∧ a ≤ q 0 + 50) → kpa_ q 0 → ∀ σ', roc_ 2 σ σ' → Rr (some (bc_I 0)) σ') (f0 : (q 0 < a ∧ a ≤ q 0 + 50) → kpa_ q 1 → ∀ x, gv_ q a (q 4) x → ∀ σ', roc_ 0 σ σ' → Rr (some (bc_I x)) σ') : bc_Sem g (d + 4) mX11_greatestVow [bc_R 218, bc_I a] σ Rr X := by
  have hT0 := hT
  obtain ⟨T0, T1, T2, T4, T5, T6, T7, Ts, T8, T9, T10, Te, Tv, Tw, To⟩ := hT0
  have e4 := hN 4 (by decide) (by decide)
  refine e_X11_greatestVow rfl (fun K hK => ?_)
  by_cases c : q 0 < a ∧ a ≤ q 0 + 50
  · have ia := sp_in hT hB (a := a) (by omega)
    have lx : ∀ n x : Int, gv_ q a n x → bc_in x := by
      intro n x hx
      obtain ⟨-, -, hx | ⟨k, hk, -, e⟩⟩ := hx
      · rw [hx]; exact ia
      · obtain ⟨v1, v2, v3⟩ := Tv k hk.1 (by omega)
        rw [e]
        exact sp_in hT hB (by omega)
    have L : ∀ i : Int, ∀ x : Int, 0 ≤ i → i ≤ q 4 → gv_ q a i x → K 23 [(0, bc_R 218), (1, bc_I a), (2, bc_I 1), (3, bc_I x), (4, bc_I i)] [] σ 0 := by
      refine up_ind (q 4) (fun i hi x i0 i1 hx => ?_) (fun i hi ih x i0 i1 hx => ?_)
      · have e : i = q 4 := by omega
        subst e
        refine hK.1 [23] 90 _ _ _ _ _ ?_
        refine bc_ob_i (by first | omega | decide | (constructor <;> omega) | (constructor <;> constructor <;> omega)) ?_
        refine bc_ob_i (by first | omega | decide | (constructor <;> omega) | (constructor <;> constructor <;> omega)) ?_
        refine bc_br_i (fun c => absurd c (by omega)) (fun _ => ?_)
        refine t_X11_keepsAll hN hT hB (fun y hy => ?_)
        have ly : y = 0 ∨ y = 1 := by rcases hy with hy | hy <;> omega
        rcases ly with ly | ly
        · subst ly
          refine t_X11_holds (by decide) (by decide) (by decide) (by decide) ?_
          refine bc_ob_i (by decide) ?_
          refine bc_br_i (fun _ => ?_) (fun c => absurd (by decide) c)
          exact f2 c hy _ (roc_wr (by decide))
        · subst ly
          refine t_X11_holds (by decide) (by decide) (by decide) (by decide) ?_
          refine bc_ob_i (by decide) ?_
          refine bc_br_i (fun c => absurd c (by decide)) (fun _ => ?_)
          exact f0 c hy x hx _ (roc_wr (by decide))
      · obtain ⟨v1, v2, v3⟩ := Tv i i0 (by omega)
        have ii := sp_in hT hB (a := q (113 + 3 * i)) (by omega)
        have ix := lx _ _ hx
        obtain ⟨x1, x2, x3⟩ := id hx
        refine hK.1 [23] 90 _ _ _ _ _ ?_
        refine bc_ob_i (by first | omega | decide | (constructor <;> omega) | (constructor <;> constructor <;> omega)) ?_
        refine bc_ob_i (by first | omega | decide | (constructor <;> omega) | (constructor <;> constructor <;> omega)) ?_
        refine bc_br_i (fun _ => ?_) (fun c => absurd (by omega) c)
        refine bc_ob_i (by decide) ?_
        refine bc_br_i (fun c => absurd c (by decide)) (fun _ => ?_)
        refine t_X11_ofVow 113 hN (by omega) (by decide) rfl ?_
        refine bc_ob_i (by first | omega | decide | (constructor <;> omega) | (constructor <;> constructor <;> omega)) ?_
        refine bc_br_i (fun k => ?_) (fun k => ?_)
        · refine ih x (by omega) (by omega) ⟨x1, fun j j0 j1 ja => ?_, x3⟩
          by_cases e : j = i
          · subst e
            omega
          · exact x2 j j0 (by omega) ja
        · refine t_X11_ofVow 113 hN (by omega) (by decide) rfl ?_
          refine t_X11_spareOn hN hT hB (by constructor <;> omega) ?_
          refine bc_ob_i ⟨ix, ii, Nat.le_of_ble_eq_true rfl⟩ ?_
          refine ih (min x (sp_ q (q (113 + 3 * i)))) (by omega) (by omega) ⟨by omega, fun j j0 j1 ja => ?_, ?_⟩
          · by_cases e : j = i
            · subst e
              omega
            · have := x2 j j0 (by omega) ja
              omega
          · by_cases e : x ≤ sp_ q (q (113 + 3 * i))
            · rw [Int.min_eq_left e]
              exact x3
            · rw [Int.min_eq_right (by omega)]
              exact .inr ⟨i, ⟨i0, hi⟩, by omega, rfl⟩
    refine hK.1 [23] 60 _ _ _ _ _ ?_
    refine t_X11_isDue hN (by omega) ha ?_
    rw [if_pos c]
    refine bc_ob_i (by decide) ?_
    refine bc_br_i (fun c => absurd c (by decide)) (fun _ => ?_)
    refine t_X11_spareOn hN hT hB ha ?_
    exact L 0 _ (Int.le_refl 0) T4.1 ⟨Int.le_refl _, fun k k0 k1 => by omega, .inl rfl⟩
  · have E : ∀ x : Int, K 75 [(0, bc_R 218), (1, bc_I a), (2, bc_I 0), (3, bc_I 0), (4, bc_I 0)] [] σ 0 := by
      intro x
      refine hK.1 [] 60 _ _ _ _ _ ?_
      refine t_X11_keepsAll hN hT hB (fun y hy => ?_)
      have ly : 0 ≤ y ∧ y ≤ 1 := by rcases hy with hy | hy <;> omega
      refine t_X11_holds (by decide) ly (by decide) (by decide) ?_
      have e : ho_ 0 y 1 1 = 1 := by unfold ho_; rw [if_pos rfl]
      rw [e]
      refine bc_ob_i (by decide) ?_
      refine bc_br_i (fun _ => ?_) (fun c => absurd (by decide) c)
      exact f1 c _ (roc_wr rfl)
    refine hK.1 [23, 75] 60 _ _ _ _ _ ?_
    refine t_X11_isDue hN (by omega) ha ?_
    rw [if_neg c]
    refine bc_ob_i (by decide) ?_
    refine bc_br_i (fun _ => ?_) (fun c => absurd (by decide) c)
    refine hK.1 [75] 60 _ _ _ _ _ ?_
    refine bc_ob_i (by first | omega | decide | (constructor <;> omega) | (constructor <;> constructor <;> omega)) ?_
    refine bc_ob_i (by first | omega | decide | (constructor <;> omega) | (constructor <;> constructor <;> omega)) ?_
    refine bc_br_i (fun _ => ?_) (fun _ => E 0)
    refine bc_ob_i (by decide) ?_
    refine bc_br_i (fun _ => ?_) (fun c => absurd (by decide) c)
    exact E 0
end REF
