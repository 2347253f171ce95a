/-! the reference: put, addMember, save, restore -/
section REF
variable {g : bc_C} {d : Nat} {σ : bc_M} {q b : rw_t} {h : List rw_t} {Rr : Option bc_A → bc_M → Prop} {X : Nat → bc_M → Prop} {B : Int}
theorem t_X11_puts {p c w : Int} (hG : rg_ σ q h) (hb : nw_ σ 220 b) (hW : wf_N q) (hp : bc_in p) (hc : bc_in c) (hw : bc_in w) (f1 : put_ q p c w ≠ 0 → ∀ σ', su_ (put_ q p c w) q h b σ σ' → Rr (some (bc_I 0)) σ') (f0 : put_ q p c w = 0 → ∀ σ', su_ 0 (rp_ q p w) h b σ σ' → Rr (some (bc_I (tw_ (rp_ q p w)))) σ') : bc_Sem g (d + 3) mX11_puts [bc_R 218, bc_I p, bc_I c, bc_I w] σ Rr X := by
  obtain ⟨w1, w2, w3, w4, w5⟩ := hW
  obtain ⟨hN, hH⟩ := hG
  obtain ⟨c0, c1⟩ := hc
  have e11 := hN 11 (by decide) (by decide)
  refine e_X11_puts rfl (fun K hK => ?_)
  have T : ∀ (x y k n : Int), (x = if 0 ≤ p ∧ p ≤ 3 then 1 else 0) → (y = if (0 ≤ p ∧ p ≤ 3) ∧ q (12 + p) = 0 then 1 else 0) → (k = if (c = 99 ∨ c = 108) ∧ 1 ≤ w ∧ w ≤ 20 then 1 else 0) → (n = if q 11 = c then 1 else 0) → K 73 [(0, bc_R 218), (1, bc_I p), (2, bc_I c), (3, bc_I w), (4, bc_I x), (5, bc_I y)] [bc_I n, bc_I k, bc_I x, bc_R 218] σ 0 := by
    intro x y k n hx hy hk hn
    have lx : 0 ≤ x ∧ x ≤ 1 := by rw [hx]; split <;> omega
    have ly : 0 ≤ y ∧ y ≤ 1 := by rw [hy]; split <;> omega
    have lk : 0 ≤ k ∧ k ≤ 1 := by rw [hk]; split <;> omega
    have ln : 0 ≤ n ∧ n ≤ 1 := by rw [hn]; split <;> omega
    have ht : ho_ x k n y = put_ q p c w := by
      rw [hx, hk, hn, hy]
      unfold ho_ put_
      (repeat' split) <;> first | rfl | omega
    refine hK.1 [] 80 _ _ _ _ _ ?_
    refine t_X11_holds lx lk ln ly ?_
    rw [ht]
    have B0 := su_t (q := q) (h := h) (b := b) ⟨hN, hH⟩ hb (put_ q p c w)
    have n0 := B0.1.1.1
    generalize bc_wr σ 218 ((14 : Nat) : Int) (put_ q p c w) = s0 at B0 n0 ⊢
    by_cases e : put_ q p c w = 0
    · rw [if_pos e]
      have pp : 0 ≤ p ∧ p ≤ 3 := by
        refine Classical.byContradiction (fun np => ?_)
        unfold put_ at e
        rw [if_pos np] at e
        exact absurd e (by decide)
      refine bc_ob_i (by decide) ?_
      refine bc_br_i (fun q => absurd q (by decide)) (fun _ => ?_)
      refine bc_ob_i (by omega) ?_
      rw [e] at B0
      have B1 : su_ 0 (rp_ q p w) h b σ (bc_wr s0 219 (12 + p) w) := su_w B0
      refine t_X11_weighs B1.1.1.1 ?_
      exact f0 e _ B1
    · rw [if_neg e]
      refine bc_ob_i (by decide) ?_
      refine bc_br_i (fun _ => ?_) (fun q => absurd rfl q)
      exact f1 e _ B0
  have T1 : ∀ (x y k : Int), (x = if 0 ≤ p ∧ p ≤ 3 then 1 else 0) → (y = if (0 ≤ p ∧ p ≤ 3) ∧ q (12 + p) = 0 then 1 else 0) → (k = if (c = 99 ∨ c = 108) ∧ 1 ≤ w ∧ w ≤ 20 then 1 else 0) → K 57 [(0, bc_R 218), (1, bc_I p), (2, bc_I c), (3, bc_I w), (4, bc_I x), (5, bc_I y)] [bc_I k, bc_I x, bc_R 218] σ 0 := by
    intro x y k hx hy hk
    refine hK.1 [73] 60 _ _ _ _ _ ?_
    refine bc_ob_i (by decide) ?_
    refine bc_ob_i ⟨by rw [e11]; constructor <;> omega, by constructor <;> omega⟩ ?_
    rw [e11]
    refine bc_br_i (fun c3 => ?_) (fun c3 => ?_)
    · exact T x y k 1 hx hy hk (if_pos c3).symm
    · exact T x y k 0 hx hy hk (if_neg c3).symm
  have T2 : ∀ (x y : Int), (x = if 0 ≤ p ∧ p ≤ 3 then 1 else 0) → (y = if (0 ≤ p ∧ p ≤ 3) ∧ q (12 + p) = 0 then 1 else 0) → K 30 [(0, bc_R 218), (1, bc_I p), (2, bc_I c), (3, bc_I w), (4, bc_I x)] [bc_I y] σ 0 := by
    intro x y hx hy
    refine hK.1 [57] 60 _ _ _ _ _ ?_
    refine t_X11_isKind (by constructor <;> omega) ?_
    refine bc_ob_i (by split <;> omega) ?_
    refine bc_br_i (fun c2 => ?_) (fun c2 => ?_)
    · exact T1 x y 0 hx hy (if_neg (fun q => by rw [if_pos q.1] at c2; exact absurd c2 (by decide))).symm
    · have k1 : c = 99 ∨ c = 108 := by
        refine Classical.byContradiction (fun np => ?_)
        rw [if_neg np] at c2
        exact c2 rfl
      refine t_X11_isIn hw (by decide) (by decide) ?_
      refine bc_ob_i (by split <;> omega) ?_
      refine bc_br_i (fun c3 => ?_) (fun c3 => ?_)
      · exact T1 x y 0 hx hy (if_neg (fun q => by rw [if_pos q.2] at c3; exact absurd c3 (by decide))).symm
      · exact T1 x y 1 hx hy (if_pos ⟨k1, by split at c3 <;> omega⟩).symm
  refine hK.1 [30] 60 _ _ _ _ _ ?_
  refine t_X11_isIn hp (by decide) (by decide) ?_
  refine bc_ob_i (by split <;> omega) ?_
  refine bc_br_i (fun c1 => ?_) (fun c1 => ?_)
  · exact T2 _ 0 rfl (if_neg (fun q => by rw [if_pos q.1] at c1; exact absurd c1 (by decide))).symm
  · have pp : 0 ≤ p ∧ p ≤ 3 := by
      refine Classical.byContradiction (fun np => ?_)
      rw [if_neg np] at c1
      exact c1 rfl
    have ep := hN (12 + p) (by omega) (by omega)
    have lp : 0 ≤ q (12 + p) ∧ q (12 + p) ≤ 20 := by
      have hh : p = 0 ∨ p = 1 ∨ p = 2 ∨ p = 3 := by omega
      rcases hh with rfl | rfl | rfl | rfl <;> assumption
    refine bc_ob_i (by omega) ?_
    refine bc_ob_i (by rw [ep]; constructor <;> omega) ?_
    refine bc_br_i (fun c2 => ?_) (fun c2 => ?_)
    · exact T2 _ 1 rfl (if_pos ⟨pp, by rw [← ep]; exact c2⟩).symm
    · exact T2 _ 0 rfl (if_neg (fun q => c2 (by rw [ep]; exact q.2))).symm
def adr_ (q : rw_t) (x y s t : Int) : Prop := (¬ ((0 ≤ x ∧ x < 8) ∧ 0 ≤ y ∧ y < 8) ∧ t = 1) ∨ (((0 ≤ x ∧ x < 8) ∧ 0 ≤ y ∧ y < 8) ∧ ¬ (x ≠ y ∧ 1 ≤ s ∧ s ≤ 99) ∧ t = 2) ∨ (((0 ≤ x ∧ x < 8) ∧ 0 ≤ y ∧ y < 8) ∧ (x ≠ y ∧ 1 ≤ s ∧ s ≤ 99) ∧ (16 ≤ q 3 ∨ ∃ k : Int, 0 ≤ k ∧ k < q 3 ∧ jr_ q k x y) ∧ t = 3) ∨ (((0 ≤ x ∧ x < 8) ∧ 0 ≤ y ∧ y < 8) ∧ (x ≠ y ∧ 1 ≤ s ∧ s ≤ 99) ∧ q 3 < 16 ∧ (∀ k : Int, 0 ≤ k → k < q 3 → ¬ jr_ q k x y) ∧ t = 0)
theorem t_X11_adds {x y s : Int} (hG : rg_ σ q h) (hb : nw_ σ 220 b) (hW : wf_M q) (hx : bc_in x) (hy : bc_in y) (hs : bc_in s) (f1 : ∀ t, adr_ q x y s t → t ≠ 0 → ∀ σ', su_ t q h b σ σ' → Rr (some (bc_I 0)) σ') (f0 : adr_ q x y s 0 → ∀ σ', su_ 0 (ra_ q x y s) h b σ σ' → Rr (some (bc_I (q 3))) σ') : bc_Sem g (d + 7) mX11_adds [bc_R 218, bc_I x, bc_I y, bc_I s] σ Rr X := by
  obtain ⟨hN, hH⟩ := hG
  have w3 := hW.1
  have e3 := hN 3 (by decide) (by decide)
  refine e_X11_adds rfl (fun K hK => ?_)
  have T : ∀ u v w t : Int, (u = if x ≠ y ∧ 1 ≤ s ∧ s ≤ 99 then 1 else 0) → (v = if (0 ≤ x ∧ x < 8) ∧ 0 ≤ y ∧ y < 8 then 1 else 0) → 0 ≤ w ∧ w ≤ 1 → (ho_ v u w 1 = t) → adr_ q x y s t → K 56 [(0, bc_R 218), (1, bc_I x), (2, bc_I y), (3, bc_I s), (4, bc_I u)] [bc_I w, bc_I u, bc_I v, bc_R 218] σ 0 := by
    intro u v w t hu hv lw ht ha
    have lu : 0 ≤ u ∧ u ≤ 1 := by rw [hu]; split <;> omega
    have lv : 0 ≤ v ∧ v ≤ 1 := by rw [hv]; split <;> omega
    refine hK.1 [] 120 _ _ _ _ _ ?_
    refine t_X11_holds lv lu lw (by decide) ?_
    rw [ht]
    have S0 := su_t (q := q) (h := h) (b := b) ⟨hN, hH⟩ hb t
    generalize bc_wr σ 218 ((14 : Nat) : Int) t = s0 at S0 ⊢
    by_cases c : t = 0
    · rw [if_pos c]
      subst c
      have l3 : q 3 < 16 := by
        rcases ha with ⟨-, e⟩ | ⟨-, -, e⟩ | ⟨-, -, -, e⟩ | ⟨-, -, k, -⟩
        · exact absurd e (by decide)
        · exact absurd e (by decide)
        · exact absurd e (by decide)
        · exact k
      have a3 := S0.1.1.1 3 (by decide) (by decide)
      have S1 := su_w S0 (i := 3) (v := s0.1 219 3 + 1)
      have k1 : (up_ q 3 (s0.1 219 3 + 1)) 3 = q 3 + 1 := up_at.trans (by rw [a3])
      have p1 : pl_ (up_ q 3 (s0.1 219 3 + 1)) (s0.1 219 3) 0 = 16 + 6 * q 3 := by
        rw [pl_at (by omega) (by rw [k1]; omega), a3]
        omega
      have S2 := su_w S1 (i := 16 + 6 * q 3) (v := min x y)
      have k2 : (up_ (up_ q 3 (s0.1 219 3 + 1)) (16 + 6 * q 3) (min x y)) 3 = q 3 + 1 := (up_ne (by omega)).trans k1
      have p2 : pl_ (up_ (up_ q 3 (s0.1 219 3 + 1)) (16 + 6 * q 3) (min x y)) (s0.1 219 3) 1 = 17 + 6 * q 3 := by
        rw [pl_at (by omega) (by rw [k2]; omega), a3]
        omega
      have S3 := su_w S2 (i := 17 + 6 * q 3) (v := max x y)
      have k3 : (up_ (up_ (up_ q 3 (s0.1 219 3 + 1)) (16 + 6 * q 3) (min x y)) (17 + 6 * q 3) (max x y)) 3 = q 3 + 1 := (up_ne (by omega)).trans k2
      have p3 : pl_ (up_ (up_ (up_ q 3 (s0.1 219 3 + 1)) (16 + 6 * q 3) (min x y)) (17 + 6 * q 3) (max x y)) (s0.1 219 3) 2 = 18 + 6 * q 3 := by
        rw [pl_at (by omega) (by rw [k3]; omega), a3]
        omega
      have S4 := su_w S3 (i := 18 + 6 * q 3) (v := s)
      have k4 : (up_ (up_ (up_ (up_ q 3 (s0.1 219 3 + 1)) (16 + 6 * q 3) (min x y)) (17 + 6 * q 3) (max x y)) (18 + 6 * q 3) (s)) 3 = q 3 + 1 := (up_ne (by omega)).trans k3
      have p4 : pl_ (up_ (up_ (up_ (up_ q 3 (s0.1 219 3 + 1)) (16 + 6 * q 3) (min x y)) (17 + 6 * q 3) (max x y)) (18 + 6 * q 3) (s)) (s0.1 219 3) 3 = 19 + 6 * q 3 := by
        rw [pl_at (by omega) (by rw [k4]; omega), a3]
        omega
      have S5 := su_w S4 (i := 19 + 6 * q 3) (v := 0)
      have k5 : (up_ (up_ (up_ (up_ (up_ q 3 (s0.1 219 3 + 1)) (16 + 6 * q 3) (min x y)) (17 + 6 * q 3) (max x y)) (18 + 6 * q 3) (s)) (19 + 6 * q 3) (0)) 3 = q 3 + 1 := (up_ne (by omega)).trans k4
      have p5 : pl_ (up_ (up_ (up_ (up_ (up_ q 3 (s0.1 219 3 + 1)) (16 + 6 * q 3) (min x y)) (17 + 6 * q 3) (max x y)) (18 + 6 * q 3) (s)) (19 + 6 * q 3) (0)) (s0.1 219 3) 4 = 20 + 6 * q 3 := by
        rw [pl_at (by omega) (by rw [k5]; omega), a3]
        omega
      have S6 := su_w S5 (i := 20 + 6 * q 3) (v := 0)
      have k6 : (up_ (up_ (up_ (up_ (up_ (up_ q 3 (s0.1 219 3 + 1)) (16 + 6 * q 3) (min x y)) (17 + 6 * q 3) (max x y)) (18 + 6 * q 3) (s)) (19 + 6 * q 3) (0)) (20 + 6 * q 3) (0)) 3 = q 3 + 1 := (up_ne (by omega)).trans k5
      have p6 : pl_ (up_ (up_ (up_ (up_ (up_ (up_ q 3 (s0.1 219 3 + 1)) (16 + 6 * q 3) (min x y)) (17 + 6 * q 3) (max x y)) (18 + 6 * q 3) (s)) (19 + 6 * q 3) (0)) (20 + 6 * q 3) (0)) (s0.1 219 3) 5 = 21 + 6 * q 3 := by
        rw [pl_at (by omega) (by rw [k6]; omega), a3]
        omega
      have S7 := su_w S6 (i := 21 + 6 * q 3) (v := 0)
      have er : (up_ (up_ (up_ (up_ (up_ (up_ (up_ q 3 (s0.1 219 3 + 1)) (16 + 6 * q 3) (min x y)) (17 + 6 * q 3) (max x y)) (18 + 6 * q 3) (s)) (19 + 6 * q 3) (0)) (20 + 6 * q 3) (0)) (21 + 6 * q 3) (0)) = ra_ q x y s := by
        rw [a3]
        funext j
        unfold ra_ up_
        by_cases j3 : j = 3
        · rw [if_neg (by omega), if_neg (by omega), if_neg (by omega), if_neg (by omega), if_neg (by omega), if_neg (by omega), if_pos j3, if_pos j3]
        · rw [if_neg j3]
          (repeat' split) <;> first | rfl | omega
      rw [er] at S7
      have fin := f0 ha _ S7
      refine bc_ob_i (by decide) ?_
      refine bc_br_i (fun q => absurd q (by decide)) (fun _ => ?_)
      refine bc_ob_i (by decide) ?_
      refine bc_ob_i (by decide) ?_
      refine bc_ob_i (by decide) ?_
      refine t_X11_place S1.1.1.1 (by rw [k1]; omega) (by constructor <;> omega) ?_
      rw [p1]
      refine bc_ob_i ⟨hx, hy, Nat.le_of_ble_eq_true rfl⟩ ?_
      refine bc_ob_i (by omega) ?_
      refine t_X11_place S2.1.1.1 (by rw [k2]; omega) (by constructor <;> omega) ?_
      rw [p2]
      refine bc_ob_i ⟨hx, hy, Nat.le_of_ble_eq_true rfl⟩ ?_
      refine bc_ob_i (by omega) ?_
      refine t_X11_place S3.1.1.1 (by rw [k3]; omega) (by constructor <;> omega) ?_
      rw [p3]
      refine bc_ob_i (by omega) ?_
      refine t_X11_place S4.1.1.1 (by rw [k4]; omega) (by constructor <;> omega) ?_
      rw [p4]
      refine bc_ob_i (by omega) ?_
      refine t_X11_place S5.1.1.1 (by rw [k5]; omega) (by constructor <;> omega) ?_
      rw [p5]
      refine bc_ob_i (by omega) ?_
      refine t_X11_place S6.1.1.1 (by rw [k6]; omega) (by constructor <;> omega) ?_
      rw [p6]
      refine bc_ob_i (by omega) ?_
      exact rt_ fin a3
    · rw [if_neg c]
      refine bc_ob_i (by decide) ?_
      refine bc_br_i (fun _ => ?_) (fun q => absurd rfl q)
      exact f1 t ha c _ S0
  have T0 : ∀ u v w : Int, (u = if x ≠ y ∧ 1 ≤ s ∧ s ≤ 99 then 1 else 0) → (v = if (0 ≤ x ∧ x < 8) ∧ 0 ≤ y ∧ y < 8 then 1 else 0) → ((w = 0 ∧ (16 ≤ q 3 ∨ ∃ k : Int, 0 ≤ k ∧ k < q 3 ∧ jr_ q k x y)) ∨ (w = 1 ∧ q 3 < 16 ∧ ∀ k : Int, 0 ≤ k → k < q 3 → ¬ jr_ q k x y)) → K 56 [(0, bc_R 218), (1, bc_I x), (2, bc_I y), (3, bc_I s), (4, bc_I u)] [bc_I w, bc_I u, bc_I v, bc_R 218] σ 0 := by
    intro u v w hu hv hw
    by_cases c1 : (0 ≤ x ∧ x < 8) ∧ 0 ≤ y ∧ y < 8
    · by_cases c2 : x ≠ y ∧ 1 ≤ s ∧ s ≤ 99
      · rcases hw with ⟨w0, hw⟩ | ⟨w0, w1, hw⟩
        · exact T u v w 3 hu hv (by omega) (by rw [hu, hv, w0, if_pos c1, if_pos c2]; rfl) (.inr (.inr (.inl ⟨c1, c2, hw, rfl⟩)))
        · exact T u v w 0 hu hv (by omega) (by rw [hu, hv, w0, if_pos c1, if_pos c2]; rfl) (.inr (.inr (.inr ⟨c1, c2, w1, hw, rfl⟩)))
      · exact T u v w 2 hu hv (by omega) (by rw [hu, hv, if_pos c1, if_neg c2]; rfl) (.inr (.inl ⟨c1, c2, rfl⟩))
    · exact T u v w 1 hu hv (by omega) (by rw [hv, if_neg c1]; rfl) (.inl ⟨c1, rfl⟩)
  have T1 : ∀ u : Int, (u = if x ≠ y ∧ 1 ≤ s ∧ s ≤ 99 then 1 else 0) → K 20 [(0, bc_R 218), (1, bc_I x), (2, bc_I y), (3, bc_I s)] [bc_I u] σ 0 := by
    intro u hu
    refine hK.1 [56] 80 _ _ _ _ _ ?_
    refine t_X11_areJoints hx hy ?_
    refine bc_ob_i (by decide) ?_
    refine bc_ob_i (by omega) ?_
    refine bc_br_i (fun c => ?_) (fun c => ?_)
    · refine t_X11_between hN hW hx hy (fun v hv => ?_)
      refine bc_ob_i (by rcases hv with hv | hv <;> omega) ?_
      refine bc_br_i (fun c2 => ?_) (fun c2 => ?_)
      · refine T0 u _ 1 hu rfl (.inr ⟨rfl, by omega, ?_⟩)
        rcases hv with hv | hv
        · exact hv.2
        · omega
      · refine T0 u _ 0 hu rfl (.inl ⟨rfl, .inr ?_⟩)
        rcases hv with hv | hv
        · exact absurd hv.1 c2
        · exact ⟨v, hv⟩
    · exact T0 u _ 0 hu rfl (.inl ⟨rfl, .inl (by omega)⟩)
  refine hK.1 [20] 60 _ _ _ _ _ ?_
  refine bc_ob_i ⟨hx, hy⟩ ?_
  refine bc_br_i (fun c => ?_) (fun c => ?_)
  · exact T1 0 (if_neg (by omega)).symm
  · refine t_X11_isIn hs (by decide) (by decide) ?_
    refine bc_ob_i (by split <;> omega) ?_
    refine bc_br_i (fun c2 => ?_) (fun c2 => ?_)
    · exact T1 0 (if_neg (by split at c2 <;> omega)).symm
    · exact T1 1 (if_pos (by split at c2 <;> omega)).symm
end REF
