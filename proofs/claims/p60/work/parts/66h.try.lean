theorem tw1_cg {f : gr_t} {a l c : Int} {U : Nat} {wy wy' : Int → Int} (h : tw1_ f a l c U wy) (e : ∀ i : Int, 0 ≤ i → i ≤ l → wy' i = wy i) : tw1_ f a l c U wy' := by
  obtain ⟨w0, w1, w2, w3, w4, w5, w6, w7⟩ := h
  refine ⟨by rw [e 0 (by decide) w1.1]; exact w0, w1, w2, fun i i0 i1 => by rw [e i i0 i1]; exact w3 i i0 i1, fun i i0 i1 => by rw [e i i0 (by omega), e (i + 1) (by omega) (by omega)]; exact w4 i i0 i1, w5, fun j hj => ?_, fun i j i0 i1 j0 j1 q => ?_⟩
  · rw [w6 j hj]
    constructor
    · rintro ⟨i, i0, i1, i2⟩
      exact ⟨i, i0, i1, by rw [e i i0 i1]; exact i2⟩
    · rintro ⟨i, i0, i1, i2⟩
      exact ⟨i, i0, i1, by rw [← e i i0 i1]; exact i2⟩
  · rw [e i i0 i1, e j j0 j1] at q
    exact w7 i j i0 i1 j0 j1 q
section BDTRY
variable {sc : Nat × (Nat → Int32)} {d : Nat} {σ : bc_M} {B : Int} {v : cs_t}
/-- the way is whole: it is compared, and kept if it is better -/
theorem t_tw_end {a b w n l c : Int} {U : Nat} {P bs wy : Int → Int} {gp : Prop} {g : bc_C} {D : Nat} {R' : Option bc_A → List bd_O → bc_M → Prop} {K : bd_KT} (hK : bd_Good sc mL_tryWays D R' K) (hgp : gp → tp1_ (sa_ (c_r v)) b w n P) (hw : tw1_ (sa_ (c_r v)) a l c U wy) (hb : tb1_ (sa_ (c_r v)) a b bs) (b0 : 0 ≤ b) (b1 : b < 8) (at_ : wy l = b)
    (h : (∀ bs' wy' : Int → Int, (∀ i : Int, 0 ≤ i → i ≤ l → wy' i = wy i) → tb1_ (sa_ (c_r v)) a b bs' → (gp → tg1_ w n P bs → tg1_ w n P bs') → (gp → tf1_ w n P l c wy → tg1_ w n P bs') → R' none [bd_row 11 bs', bd_row 9 wy'] σ)) : K g [bd_row 11 bs, bd_row 9 wy] 12 [(0, bc_R 0), (1, bc_R 501), (2, bc_I l), (3, bc_I ((U : Nat) : Int)), (4, bc_I c), (5, bc_I b), (6, bc_R 500), (7, bc_I (wy l))] [] σ 0 := by
  obtain ⟨w0, w1, w2, w3, w4, w5, w6, w7⟩ := id hw
  have g0 : 0 ≤ bs 0 ∧ bs 0 ≤ 999 := by rcases hb with ⟨e, -⟩ | ⟨e, -⟩ <;> omega
  have g1 : 0 ≤ bs 1 ∧ bs 1 ≤ 99 := by rcases hb with ⟨-, e⟩ | ⟨-, e, -⟩ <;> omega
  have C2 : ∀ (al : Int), tx1p_ l c wy bs → ∀ k : Int, ∀ F : Int → Int, 0 ≤ k → k ≤ l + 1 → F 0 = c → F 1 = l → (∀ i : Int, 0 ≤ i → i < k → F (2 + i) = wy i) → K g [bd_row 11 F, bd_row 9 wy] 174 [(0, bc_R 0), (1, bc_R 501), (2, bc_I l), (3, bc_I ((U : Nat) : Int)), (4, bc_I c), (5, bc_I b), (6, bc_R 500), (7, bc_I (wy l)), (8, bc_I 1), (9, bc_I al), (10, bc_I k)] [] σ 0 := by
    intro al hx
    refine up_ind (l + 1) (fun k hk F k0 k1 e0 e1 e2 => ?_) (fun k hk ih F k0 k1 e0 e1 e2 => ?_)
    · have nw := t1_new (w := w) (n := n) (P := P) (bs' := F) hw at_ hx e0 e1 (fun i i0 i1 => e2 i i0 (by omega))
      refine hK.1 [45, 72, 136, 174, 206, 259] 60 _ _ _ _ _ _ _ ?_
      refine bc_ob_i ⟨by constructor <;> omega, by constructor <;> omega⟩ ?_
      refine bc_br_i (fun _ => ?_) (fun c => (by omega : False).elim)
      exact h F wy (fun _ _ _ => rfl) nw.1 (fun _ => nw.2.1) (fun hg hf => nw.2.2 hf (hgp hg).2.2.1 (hgp hg).2.2.2.2.2)
    · refine hK.1 [45, 72, 136, 174, 206, 259] 60 _ _ _ _ _ _ _ ?_
      refine bc_ob_i ⟨by constructor <;> omega, by constructor <;> omega⟩ ?_
      refine bc_br_i (fun c => (by omega : False).elim) (fun _ => ?_)
      refine bc_ob_i (by decide) ?_
      refine bc_br_i (fun c => absurd c (by decide)) (fun _ => ?_)
      refine bc_ob_i ⟨⟨by omega, by omega⟩, by decide⟩ ?_
      refine bc_ob_i ⟨⟨by omega, by omega⟩, by decide⟩ ?_
      refine ih _ (by omega) (by omega) ?_ ?_ (fun i i0 i1 => ?_)
      · show (if (0 : Int) = 2 + k then wy k else F 0) = c
        rw [if_neg (by omega)]
        exact e0
      · show (if (1 : Int) = 2 + k then wy k else F 1) = l
        rw [if_neg (by omega)]
        exact e1
      · show (if 2 + i = 2 + k then wy k else F (2 + i)) = wy i
        by_cases q : i = k
        · rw [if_pos (by omega), q]
        · rw [if_neg (by omega)]
          exact e2 i i0 (by omega)
  have C1 : ∀ (al k : Int), tx1p_ l c wy bs → K g [bd_row 11 bs, bd_row 9 wy] 136 [(0, bc_R 0), (1, bc_R 501), (2, bc_I l), (3, bc_I ((U : Nat) : Int)), (4, bc_I c), (5, bc_I b), (6, bc_R 500), (7, bc_I (wy l)), (8, bc_I 1), (9, bc_I al), (10, bc_I k)] [] σ 0 := by
    intro al k hx
    refine hK.1 [45, 72, 136, 174, 206, 259] 60 _ _ _ _ _ _ _ ?_
    refine bc_ob_i (by decide) ?_
    refine bc_br_i (fun c => absurd c (by decide)) (fun _ => ?_)
    refine bc_ob_i ⟨⟨by decide, by decide⟩, by decide⟩ ?_
    refine bc_ob_i (by decide) ?_
    refine bc_br_i (fun c => absurd c (by decide)) (fun _ => ?_)
    refine bc_ob_i ⟨⟨by decide, by decide⟩, by decide⟩ ?_
    refine C2 al hx 0 _ (by decide) (by omega) ?_ ?_ (fun i i0 i1 => by omega)
    · show (if (0 : Int) = 1 then l else if (0 : Int) = 0 then c else bs 0) = c
      rw [if_neg (by decide), if_pos rfl]
    · show (if (1 : Int) = 1 then l else if (1 : Int) = 0 then c else bs 1) = l
      rw [if_pos rfl]
  have C0 : ∀ (al k : Int), tn1_ l c wy bs → K g [bd_row 11 bs, bd_row 9 wy] 136 [(0, bc_R 0), (1, bc_R 501), (2, bc_I l), (3, bc_I ((U : Nat) : Int)), (4, bc_I c), (5, bc_I b), (6, bc_R 500), (7, bc_I (wy l)), (8, bc_I 0), (9, bc_I al), (10, bc_I k)] [] σ 0 := by
    intro al k hx
    have fin : ∀ F : Int → Int, (∀ q : Int, F q = bs q) → R' none [bd_row 11 F, bd_row 9 wy] σ := fun F hF => by
      have e : F = bs := funext hF
      rw [e]
      exact h bs wy (fun _ _ _ => rfl) hb (fun _ q => q) (fun hg hf => t1_old at_ w1.1 hx hf (hgp hg).2.2.1 (hgp hg).2.2.2.2.2)
    refine hK.1 [45, 72, 136, 206, 259] 60 _ _ _ _ _ _ _ ?_
    refine bc_ob_i (by decide) ?_
    refine bc_br_i (fun _ => ?_) (fun c => absurd rfl c)
    refine bc_ob_i ⟨⟨by decide, by decide⟩, by decide⟩ ?_
    refine bc_ob_i ⟨⟨by decide, by decide⟩, by decide⟩ ?_
    refine bc_ob_i (by decide) ?_
    refine bc_br_i (fun _ => ?_) (fun c => absurd rfl c)
    refine bc_ob_i ⟨⟨by decide, by decide⟩, by decide⟩ ?_
    refine bc_ob_i ⟨⟨by decide, by decide⟩, by decide⟩ ?_
    refine bc_ob_i ⟨by decide, by constructor <;> omega⟩ ?_
    refine bc_br_i (fun c => (by omega : False).elim) (fun _ => ?_)
    refine bc_ob_i (by decide) ?_
    refine bc_br_i (fun _ => ?_) (fun c => absurd rfl c)
    refine fin _ (fun q => ?_)
    show (if q = 1 then (if (1 : Int) = 0 then bs 0 else bs 1) else if q = 0 then bs 0 else bs q) = bs q
    by_cases e1 : q = 1
    · rw [if_pos e1, if_neg (by decide), e1]
    · rw [if_neg e1]
      by_cases e0 : q = 0
      · rw [if_pos e0, e0]
      · rw [if_neg e0]
  have N2 : ∀ (be k : Int), ((be = 1 ∧ tx1p_ l c wy bs) ∨ (be = 0 ∧ tn1_ l c wy bs)) → (0 ≤ k ∧ k ≤ 8) → K g [bd_row 11 bs, bd_row 9 wy] 72 [(0, bc_R 0), (1, bc_R 501), (2, bc_I l), (3, bc_I ((U : Nat) : Int)), (4, bc_I c), (5, bc_I b), (6, bc_R 500), (7, bc_I (wy l)), (8, bc_I be), (9, bc_I 0), (10, bc_I k)] [] σ 0 := by
    intro be k hbe hk
    have go : K g [bd_row 11 bs, bd_row 9 wy] 136 [(0, bc_R 0), (1, bc_R 501), (2, bc_I l), (3, bc_I ((U : Nat) : Int)), (4, bc_I c), (5, bc_I b), (6, bc_R 500), (7, bc_I (wy l)), (8, bc_I be), (9, bc_I 0), (10, bc_I k)] [] σ 0 := by
      rcases hbe with ⟨rfl, hx⟩ | ⟨rfl, hx⟩
      · exact C1 0 k hx
      · exact C0 0 k hx
    refine hK.1 [45, 72, 136, 174, 206, 259] 60 _ _ _ _ _ _ _ ?_
    refine bc_ob_i ⟨by constructor <;> omega, by constructor <;> omega⟩ ?_
    refine bc_br_i (fun _ => go) (fun _ => ?_)
    refine bc_ob_i (by decide) ?_
    exact bc_br_i (fun _ => go) (fun c => absurd rfl c)
  have N1 : c = bs 0 → l = bs 1 → ∀ k : Int, 0 ≤ k → k ≤ l + 1 → (∀ i : Int, 0 ≤ i → i < k → wy i = bs (2 + i)) → K g [bd_row 11 bs, bd_row 9 wy] 72 [(0, bc_R 0), (1, bc_R 501), (2, bc_I l), (3, bc_I ((U : Nat) : Int)), (4, bc_I c), (5, bc_I b), (6, bc_R 500), (7, bc_I (wy l)), (8, bc_I 0), (9, bc_I 1), (10, bc_I k)] [] σ 0 := by
    intro ec el
    have hr : ∀ i : Int, 0 ≤ i → i ≤ l → 0 ≤ bs (2 + i) ∧ bs (2 + i) < 8 := by
      rcases hb with ⟨-, e⟩ | ⟨-, -, -, -, e, -⟩
      · omega
      · exact fun i i0 i1 => e i i0 (by omega)
    refine up_ind (l + 1) (fun k hk k0 k1 hq => ?_) (fun k hk ih k0 k1 hq => ?_)
    · refine hK.1 [45, 72, 136, 174, 206, 259] 60 _ _ _ _ _ _ _ ?_
      refine bc_ob_i ⟨by constructor <;> omega, by constructor <;> omega⟩ ?_
      refine bc_br_i (fun _ => ?_) (fun c => (by omega : False).elim)
      exact C0 1 k (.inr ⟨ec, .inr ⟨el, .inl (fun i i0 i1 => hq i i0 (by omega))⟩⟩)
    · have h1 := hr k k0 (by omega)
      have h2 := w3 k k0 (by omega)
      refine hK.1 [45, 72, 136, 174, 206, 259] 90 _ _ _ _ _ _ _ ?_
      refine bc_ob_i ⟨by constructor <;> omega, by constructor <;> omega⟩ ?_
      refine bc_br_i (fun c => (by omega : False).elim) (fun _ => ?_)
      refine bc_ob_i (by decide) ?_
      refine bc_br_i (fun c => absurd c (by decide)) (fun _ => ?_)
      refine bc_ob_i (by decide) ?_
      refine bc_br_i (fun _ => ?_) (fun c => absurd rfl c)
      refine bc_ob_i ⟨⟨by omega, by omega⟩, by decide⟩ ?_
      refine bc_ob_i ⟨⟨by omega, by omega⟩, by decide⟩ ?_
      refine bc_ob_i ⟨by constructor <;> omega, by constructor <;> omega⟩ ?_
      refine bc_br_i (fun lt => ?_) (fun ge => ?_)
      · refine bc_ob_i ⟨⟨by omega, by omega⟩, by decide⟩ ?_
        refine bc_ob_i ⟨⟨by omega, by omega⟩, by decide⟩ ?_
        refine bc_ob_i ⟨by constructor <;> omega, by constructor <;> omega⟩ ?_
        refine bc_br_i (fun e => (by omega : False).elim) (fun _ => ?_)
        exact N2 1 (k + 1) (.inl ⟨rfl, .inr ⟨ec, .inr ⟨el, k, k0, by omega, hq, lt⟩⟩⟩) (by omega)
      · refine bc_ob_i ⟨⟨by omega, by omega⟩, by decide⟩ ?_
        refine bc_ob_i ⟨⟨by omega, by omega⟩, by decide⟩ ?_
        refine bc_ob_i ⟨by constructor <;> omega, by constructor <;> omega⟩ ?_
        refine bc_br_i (fun e => ?_) (fun e => ?_)
        · refine ih (by omega) (by omega) (fun i i0 i1 => ?_)
          by_cases q : i = k
          · rw [q]
            exact e
          · exact hq i i0 (by omega)
        · exact N2 0 (k + 1) (.inr ⟨rfl, .inr ⟨ec, .inr ⟨el, .inr ⟨k, k0, by omega, hq, by omega⟩⟩⟩⟩) (by omega)
  have C3 : (bs 0 < c ∨ (c = bs 0 ∧ l < bs 1)) → K g [bd_row 11 bs, bd_row 9 wy] 45 [(0, bc_R 0), (1, bc_R 501), (2, bc_I l), (3, bc_I ((U : Nat) : Int)), (4, bc_I c), (5, bc_I b), (6, bc_R 500), (7, bc_I (wy l)), (8, bc_I 1)] [] σ 0 := by
    intro hx
    have go := N2 1 0 (.inl ⟨rfl, hx.imp id (fun q => ⟨q.1, .inl q.2⟩)⟩) (by decide)
    refine hK.1 [45, 72, 136, 174, 206, 259] 60 _ _ _ _ _ _ _ ?_
    refine bc_ob_i ⟨⟨by decide, by decide⟩, by decide⟩ ?_
    refine bc_ob_i ⟨by constructor <;> omega, by constructor <;> omega⟩ ?_
    refine bc_br_i (fun e => ?_) (fun _ => go)
    refine bc_ob_i ⟨⟨by decide, by decide⟩, by decide⟩ ?_
    refine bc_ob_i ⟨by constructor <;> omega, by constructor <;> omega⟩ ?_
    exact bc_br_i (fun e2 => (by omega : False).elim) (fun _ => go)
  have C4 : ¬ (bs 0 < c ∨ (c = bs 0 ∧ l < bs 1)) → K g [bd_row 11 bs, bd_row 9 wy] 45 [(0, bc_R 0), (1, bc_R 501), (2, bc_I l), (3, bc_I ((U : Nat) : Int)), (4, bc_I c), (5, bc_I b), (6, bc_R 500), (7, bc_I (wy l)), (8, bc_I 0)] [] σ 0 := by
    intro hx
    refine hK.1 [45, 72, 136, 174, 206, 259] 60 _ _ _ _ _ _ _ ?_
    refine bc_ob_i ⟨⟨by decide, by decide⟩, by decide⟩ ?_
    refine bc_ob_i ⟨by constructor <;> omega, by constructor <;> omega⟩ ?_
    refine bc_br_i (fun e => ?_) (fun e => ?_)
    · refine bc_ob_i ⟨⟨by decide, by decide⟩, by decide⟩ ?_
      refine bc_ob_i ⟨by constructor <;> omega, by constructor <;> omega⟩ ?_
      refine bc_br_i (fun e2 => ?_) (fun e2 => ?_)
      · exact N1 e e2 0 (by decide) (by omega) (fun i i0 i1 => by omega)
      · exact N2 0 0 (.inr ⟨rfl, .inr ⟨e, .inl (by omega)⟩⟩) (by decide)
    · exact N2 0 0 (.inr ⟨rfl, .inl (by omega)⟩) (by decide)
  refine hK.1 [45, 72, 136, 174, 206, 259] 60 _ _ _ _ _ _ _ ?_
  refine bc_ob_i ⟨⟨by decide, by decide⟩, by decide⟩ ?_
  refine bc_ob_i ⟨by constructor <;> omega, by constructor <;> omega⟩ ?_
  refine bc_br_i (fun e => C3 (.inl e)) (fun e => ?_)
  refine bc_ob_i ⟨⟨by decide, by decide⟩, by decide⟩ ?_
  refine bc_ob_i ⟨by constructor <;> omega, by constructor <;> omega⟩ ?_
  refine bc_br_i (fun e2 => ?_) (fun e2 => C4 (by omega))
  refine bc_ob_i ⟨⟨by decide, by decide⟩, by decide⟩ ?_
  refine bc_ob_i ⟨by constructor <;> omega, by constructor <;> omega⟩ ?_
  exact bc_br_i (fun e3 => C3 (.inr ⟨e2, e3⟩)) (fun e3 => C4 (by omega))
/-- one joint: all members on from it -/
theorem t_tw_step {a b w n l c x : Int} {U : Nat} {P bs wy : Int → Int} {gp : Prop} {g : bc_C} {E : Nat} {Rr : Option bc_A → List bd_O → bc_M → Prop} (hsc : sc.1 < 2000) (hF : fa_ B σ v) (hU : uj_ (c_r v)) (b0 : 0 ≤ b) (b1 : b < 8) (hgp : gp → tp1_ (sa_ (c_r v)) b w n P)
    (hrec : ∀ (c' x' : Int) (U' : Nat) (bs1 wy1 : Int → Int) (g' : bc_C) (Rr' : Option bc_A → List bd_O → bc_M → Prop), l ≤ 6 → tw1_ (sa_ (c_r v)) a (l + 1) c' U' wy1 → x' = ((U' : Nat) : Int) → tb1_ (sa_ (c_r v)) a b bs1 → (∀ bs2 wy2 : Int → Int, (∀ i : Int, 0 ≤ i → i ≤ l + 1 → wy2 i = wy1 i) → tb1_ (sa_ (c_r v)) a b bs2 → (gp → tg1_ w n P bs1 → tg1_ w n P bs2) → (gp → tf1_ w n P (l + 1) c' wy1 → tg1_ w n P bs2) → Rr' none [bd_row 11 bs2, bd_row 9 wy2] σ) → bd_Sem sc g' [bd_row 11 bs1, bd_row 9 wy1] (E + 20) mL_tryWays [bc_R 0, bc_R 501, bc_I (l + 1), bc_I x', bc_I c', bc_I b, bc_R 500] σ Rr')
    (hw : tw1_ (sa_ (c_r v)) a l c U wy) (hx : x = ((U : Nat) : Int)) (hb : tb1_ (sa_ (c_r v)) a b bs) (h : (∀ bs' wy' : Int → Int, (∀ i : Int, 0 ≤ i → i ≤ l → wy' i = wy i) → tb1_ (sa_ (c_r v)) a b bs' → (gp → tg1_ w n P bs → tg1_ w n P bs') → (gp → tf1_ w n P l c wy → tg1_ w n P bs') → Rr none [bd_row 11 bs', bd_row 9 wy'] σ)) : bd_Sem sc g [bd_row 11 bs, bd_row 9 wy] (E + 21) mL_tryWays [bc_R 0, bc_R 501, bc_I l, bc_I x, bc_I c, bc_I b, bc_R 500] σ Rr := by
  subst hx
  have hM := hF.1.1.2.1
  have r3 := hM.1
  obtain ⟨w0, w1, w2, w3, w4, w5, w6, w7⟩ := id hw
  have hat := w3 l w1.1 (Int.le_refl _)
  refine m_L_tryWays hsc rfl (fun K hK => ?_)
  refine hK.1 [12, 45, 72, 136, 174, 206, 259] 60 _ _ _ _ _ _ _ ?_
  refine bc_ob_i ⟨⟨by omega, by omega⟩, by decide⟩ ?_
  refine bc_ob_i ⟨by constructor <;> omega, by constructor <;> omega⟩ ?_
  refine bc_br_i (fun at_ => ?_) (fun nat_ => ?_)
  · exact t_tw_end hK hgp hw hb b0 b1 at_ (fun bs' wy' e1 e2 e3 e4 => h bs' wy' e1 e2 e3 e4)
  · have ln : gp → tf1_ w n P l c wy → l < n := fun hg hf => by
      rcases Int.lt_or_le l n with q | q
      · exact q
      · exfalso
        have := hf.1 l w1.1 (Int.le_refl _)
        rw [show l = n by have := hf.2.1; omega, (hgp hg).2.2.1] at this
        rw [show l = n by have := hf.2.1; omega] at nat_
        exact nat_ this
    obtain ⟨ms, hms⟩ : ∃ ms : Nat, gp → tf1_ w n P l c wy → (ms : Int) < (c_r v) 3 ∧ jn_ (c_r v) (ms : Int) (wy l) (P (l + 1)) ∧ w ≤ br_ (c_r v) (ms : Int) := by
      by_cases q : gp ∧ tf1_ w n P l c wy
      · obtain ⟨p1, p2, p3, p4, p5, p6⟩ := hgp q.1
        have q1 := ln q.1 q.2
        obtain ⟨m, m1, m2, m3⟩ := sa_ex hU r3.1 p1.1 (p5 l w1.1 q1)
        exact ⟨m, fun _ _ => ⟨m1, by rw [q.2.1 l w1.1 (Int.le_refl _)]; exact m2, m3⟩⟩
      · exact ⟨0, fun h1 h2 => absurd ⟨h1, h2⟩ q⟩
    have M : ∀ m : Int, ∀ (bs1 wy1 : Int → Int) (z : bc_LV), 0 ≤ m → m ≤ (c_r v) 3 → (∀ i : Int, 0 ≤ i → i ≤ l → wy1 i = wy i) → tb1_ (sa_ (c_r v)) a b bs1 → (gp → tg1_ w n P bs → tg1_ w n P bs1) → (gp → tf1_ w n P l c wy → tg1_ w n P bs1 ∨ m ≤ (ms : Int)) → K g [bd_row 11 bs1, bd_row 9 wy1] 206 ([(0, bc_R 0), (1, bc_R 501), (2, bc_I l), (3, bc_I ((U : Nat) : Int)), (4, bc_I c), (5, bc_I b), (6, bc_R 500), (7, bc_I (wy l)), (8, bc_I m)] ++ z) [] σ 0 := by
      refine up_ind ((c_r v) 3) (fun m hm bs1 wy1 z m0 m1 ew hb1 hg1 hq => ?_) (fun m hm ih bs1 wy1 z m0 m1 ew hb1 hg1 hq => ?_)
      · refine hK.2 _ _ _ _ [(0, bc_R 0), (1, bc_R 501), (2, bc_I l), (3, bc_I ((U : Nat) : Int)), (4, bc_I c), (5, bc_I b), (6, bc_R 500), (7, bc_I (wy l)), (8, bc_I m)] _ _ _ (ls_ _ _) ?_
        refine hK.1 [45, 72, 136, 174, 206, 259] 60 _ _ _ _ _ _ _ ?_
        refine fun Z => t_X10_memberCount hF ?_
        refine bc_ob_i ⟨by constructor <;> omega, by constructor <;> omega⟩ ?_
        refine bc_br_i (fun c => (by omega : False).elim) (fun _ => ?_)
        exact h bs1 wy1 ew hb1 hg1 (fun hg hf => (hq hg hf).resolve_right (fun q => by have := (hms hg hf).1; omega))
      · obtain ⟨gx, gy, g18, g19, g20, g21⟩ := hM.2 m m0 (by omega)
        have hxy := hU.1 m m0 hm
        have lbr := bre_ hM m0 (by omega)
        have gb : 0 ≤ bs1 0 ∧ bs1 0 ≤ 999 := by rcases hb1 with ⟨e, -⟩ | ⟨e, -⟩ <;> omega
        have hjn : ∀ A C : Int, jn_ (c_r v) m A C ↔ ((c_r v) (16 + 6 * m) = A ∧ (c_r v) (17 + 6 * m) = C) ∨ ((c_r v) (16 + 6 * m) = C ∧ (c_r v) (17 + 6 * m) = A) := fun _ _ => Iff.rfl
        have hmm : gp → tf1_ w n P l c wy → m = (ms : Int) → jn_ (c_r v) m (wy l) (P (l + 1)) ∧ w ≤ br_ (c_r v) m := fun hg hf e => by
          rw [e]
          exact (hms hg hf).2
        generalize hx : (c_r v) (16 + 6 * m) = x at *
        generalize hy : (c_r v) (17 + 6 * m) = y at *
        have rx : ∀ {D : Nat} {R1 : Option bc_A → bc_M → Prop} {X1 : Nat → bc_M → Prop} {g1 : bc_C}, R1 (some (bc_I x)) σ → bc_Sem g1 (D + 3) (bc_twin mX10_firstJoint) [bc_R 0, bc_I m] σ R1 X1 := fun q => t0_X10_firstJoint hF ⟨m0, hm⟩ (by rw [hx]; exact q)
        have ry : ∀ {D : Nat} {R1 : Option bc_A → bc_M → Prop} {X1 : Nat → bc_M → Prop} {g1 : bc_C}, R1 (some (bc_I y)) σ → bc_Sem g1 (D + 3) (bc_twin mX10_secondJoint) [bc_R 0, bc_I m] σ R1 X1 := fun q => t0_X10_secondJoint hF ⟨m0, hm⟩ (by rw [hy]; exact q)
        have s259 : ∀ nx : Int, ((x = wy l ∧ nx = y) ∨ (x ≠ wy l ∧ y = wy l ∧ nx = x) ∨ (x ≠ wy l ∧ y ≠ wy l ∧ nx = wy l)) → K g [bd_row 11 bs1, bd_row 9 wy1] 259 [(0, bc_R 0), (1, bc_R 501), (2, bc_I l), (3, bc_I ((U : Nat) : Int)), (4, bc_I c), (5, bc_I b), (6, bc_R 500), (7, bc_I (wy l)), (8, bc_I m), (9, bc_I x), (10, bc_I y), (11, bc_I nx)] [] σ 0 := by
          intro nx hnx
          have n8 : 0 ≤ nx ∧ nx < 8 := by omega
          have hit : gp → tf1_ w n P l c wy → m = (ms : Int) → nx = P (l + 1) := fun hg hf e => by
            have := (hjn _ _).mp (hmm hg hf e).1
            omega
          have skip : ∀ e : Int, (gp → tf1_ w n P l c wy → m = (ms : Int) → tg1_ w n P bs1) → K g [bd_row 11 bs1, bd_row 9 wy1] 206 [(0, bc_R 0), (1, bc_R 501), (2, bc_I l), (3, bc_I ((U : Nat) : Int)), (4, bc_I c), (5, bc_I b), (6, bc_R 500), (7, bc_I (wy l)), (8, bc_I (m + 1)), (9, bc_I x), (10, bc_I y), (11, bc_I nx), (12, bc_I e)] [] σ 0 := fun e he => ih bs1 wy1 [(9, bc_I x), (10, bc_I y), (11, bc_I nx), (12, bc_I e)] (by omega) (by omega) ew hb1 hg1 (fun hg hf => by
            rcases hq hg hf with q | q
            · exact .inl q
            · by_cases c : m = (ms : Int)
              · exact .inl (he hg hf c)
              · exact .inr (by omega))
          have ebit := i3_bit w5 n8.1 n8.2
          refine hK.1 [45, 72, 136, 174, 206, 259] 120 _ _ _ _ _ _ _ ?_
          refine fun Z => t0_X10_bearing hF ⟨m0, hm⟩ ?_
          refine bc_ob_i ⟨by constructor <;> omega, by constructor <;> omega, by show 0 ≤ 8; decide⟩ ?_
          refine bc_ob_i (bd_in32 _) ?_
          refine bc_br_i (fun cb => ?_) (fun cb => ?_)
          · have nb : ¬ U.testBit nx.toNat = true := fun q => by
              rw [ebit, if_pos q] at cb
              exact absurd cb (by decide)
            refine bc_ob_i (by constructor <;> omega) ?_
            refine bc_br_i (fun ce => ?_) (fun ce => ?_)
            · refine bc_ob_i ⟨⟨by decide, by decide⟩, by decide⟩ ?_
              refine bc_ob_i ⟨by constructor <;> omega, by constructor <;> omega⟩ ?_
              refine bc_br_i (fun cl => ?_) (fun cl => ?_)
              · exact skip _ (fun hg hf e => .inl (by have := (hmm hg hf e).2; have := hf.2.2; omega))
              · have hnl : nx ≠ wy l := fun q => nb ((w6 nx.toNat (by omega)).mpr ⟨l, w1.1, Int.le_refl _, by rw [q]; omega⟩)
                have edge : sa_ (c_r v) (wy1 l) nx = br_ (c_r v) m := by
                  rw [ew l w1.1 (Int.le_refl _)]
                  exact sa_yes hU r3.1 m0 hm ((hjn _ _).mpr (by omega))
                refine bc_ob_i ⟨⟨by omega, by omega⟩, by decide⟩ ?_
                have nw : ∀ i : Int, 0 ≤ i → i ≤ l → (fun q : Int => if q = l + 1 then nx else wy1 q) i = wy1 i := fun i i0 i1 => if_neg (by omega)
                have nl : (fun q : Int => if q = l + 1 then nx else wy1 q) (l + 1) = nx := if_pos rfl
                obtain ⟨l6, tw'⟩ := tw1_s (e := min c (br_ (c_r v) m)) (tw1_cg hw ew) n8 nb (by omega) (by rw [edge]; omega) nw nl
                refine hrec (min c (br_ (c_r v) m)) _ (U ||| 2 ^ nx.toNat) bs1 _ g _ l6 tw' (by rw [(i3_one n8.1 n8.2).1]; exact (i3_or w5 (i3_one n8.1 n8.2).2).1) hb1 (fun bs2 wy2 e2 t2 g2 p2 => ?_)
                refine ih bs2 wy2 [(9, bc_I x), (10, bc_I y), (11, bc_I nx), (12, bc_I (min c (br_ (c_r v) m)))] (by omega) (by omega) (fun i i0 i1 => ?_) t2 (fun hg q => g2 hg (hg1 hg q)) (fun hg hf => ?_)
                · rw [e2 i i0 (by omega), ← ew i i0 i1]
                  exact nw i i0 i1
                · rcases hq hg hf with q | q
                  · exact .inl (g2 hg q)
                  · by_cases cm : m = (ms : Int)
                    · refine .inl (p2 hg ⟨fun i i0 i1 => ?_, by have := ln hg hf; omega, by have := (hmm hg hf cm).2; have := hf.2.2; omega⟩)
                      by_cases ci : i = l + 1
                      · rw [ci, nl]
                        exact hit hg hf cm
                      · rw [nw i i0 (by omega), ew i i0 (by omega)]
                        exact hf.1 i i0 (by omega)
                    · exact .inr (by omega)
            · exact skip _ (fun hg hf e => (by have := (hmm hg hf e).2; have := hf.2.2; have := (hgp hg).1.1; omega : False).elim)
          · refine skip _ (fun hg hf e => ?_)
            exfalso
            by_cases q : U.testBit nx.toNat = true
            · obtain ⟨i, i0, i1, i2⟩ := (w6 nx.toNat (by omega)).mp q
              have e1 := hit hg hf e
              have e2 := hf.1 i i0 i1
              have e3 := ln hg hf
              have := (hgp hg).2.2.2.2.2 i (l + 1) i0 (by omega) (by omega) (by omega) (by rw [← e2, ← e1, i2]; omega)
              omega
            · rw [ebit, if_neg q] at cb
              exact cb rfl
        refine hK.2 _ _ _ _ [(0, bc_R 0), (1, bc_R 501), (2, bc_I l), (3, bc_I ((U : Nat) : Int)), (4, bc_I c), (5, bc_I b), (6, bc_R 500), (7, bc_I (wy l)), (8, bc_I m)] _ _ _ (ls_ _ _) ?_
        refine hK.1 [45, 72, 136, 174, 206, 259] 60 _ _ _ _ _ _ _ ?_
        refine fun Z => t_X10_memberCount hF ?_
        refine bc_ob_i ⟨by constructor <;> omega, by constructor <;> omega⟩ ?_
        refine bc_br_i (fun _ => ?_) (fun c => (by omega : False).elim)
        refine fun Z => rx ?_
        refine fun Z => ry ?_
        refine bc_ob_i ⟨by constructor <;> omega, by constructor <;> omega⟩ ?_
        refine bc_br_i (fun e1 => s259 y (.inl ⟨e1, rfl⟩)) (fun e1 => ?_)
        refine bc_ob_i ⟨by constructor <;> omega, by constructor <;> omega⟩ ?_
        exact bc_br_i (fun e2 => s259 x (.inr (.inl ⟨e1, e2, rfl⟩))) (fun e2 => s259 (wy l) (.inr (.inr ⟨e1, e2, rfl⟩)))
    exact M 0 bs wy [] (by decide) r3.1 (fun _ _ _ => rfl) hb (fun _ q => q) (fun _ _ => .inr (by omega))
/-- ALL WAYS ON from a joint are tried: what is kept is a way, no worse than before, and no worse than P if P begins so -/
theorem t_L_tryWays {a b w n : Int} {P : Int → Int} {gp : Prop} (hsc : sc.1 < 2000) (hF : fa_ B σ v) (hU : uj_ (c_r v)) (b0 : 0 ≤ b) (b1 : b < 8) (hgp : gp → tp1_ (sa_ (c_r v)) b w n P) : ∀ (t : Nat) (l c x : Int) (U : Nat) (bs wy : Int → Int) (g : bc_C) (Rr : Option bc_A → List bd_O → bc_M → Prop), (t : Int) = 7 - l → tw1_ (sa_ (c_r v)) a l c U wy → x = ((U : Nat) : Int) → tb1_ (sa_ (c_r v)) a b bs → (∀ bs' wy' : Int → Int, (∀ i : Int, 0 ≤ i → i ≤ l → wy' i = wy i) → tb1_ (sa_ (c_r v)) a b bs' → (gp → tg1_ w n P bs → tg1_ w n P bs') → (gp → tf1_ w n P l c wy → tg1_ w n P bs') → Rr none [bd_row 11 bs', bd_row 9 wy'] σ) → bd_Sem sc g [bd_row 11 bs, bd_row 9 wy] (d + t + 24) mL_tryWays [bc_R 0, bc_R 501, bc_I l, bc_I x, bc_I c, bc_I b, bc_R 500] σ Rr
  | 0, l, c, x, U, bs, wy, g, Rr, ht, hw, hx, hb, h => t_tw_step (E := d + 3) hsc hF hU b0 b1 hgp (fun _ _ _ _ _ _ _ l6 => (by omega : False).elim) hw hx hb h
  | t + 1, l, c, x, U, bs, wy, g, Rr, ht, hw, hx, hb, h => t_tw_step (E := d + t + 4) hsc hF hU b0 b1 hgp (fun c' x' U' bs1 wy1 g' Rr' _ hw' hx' hb' h' => t_L_tryWays hsc hF hU b0 b1 hgp t (l + 1) c' x' U' bs1 wy1 g' Rr' (by omega) hw' hx' hb' h') hw hx hb h
end BDTRY
