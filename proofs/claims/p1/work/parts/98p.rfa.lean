/-! the reference walks -/
def wkt_ (q : rw_t) (u v n : Int) : Int := if ¬ ((0 ≤ u ∧ u < 8) ∧ 0 ≤ v ∧ v < 8) then 1 else if u = v ∨ n < 1 ∨ 99 < n then 2 else if xw_ q u 8 v ≤ 0 then 3 else if xw_ q u 8 v < n + tw_ q then 4 else 0
def wyJ_ (q : rw_t) (u v : Int) : Int → Int := fun i => wy1_ (sa_ q) (xw_ q u 8 v) (xm_ q (xw_ q u 8 v) (-1) v 8) u i.toNat
def eJ_ (q r : rw_t) : Prop := r 3 = q 3 ∧ ∀ k : Int, 0 ≤ k → k < 16 → r (16 + 6 * k) = q (16 + 6 * k) ∧ r (17 + 6 * k) = q (17 + 6 * k)
theorem rd_eJ {q r : rw_t} {x f : Int} (h : eJ_ q r) : eJ_ q (rd_ r x f) := by
  refine ⟨?_, fun k k0 k1 => ⟨?_, ?_⟩⟩
  · unfold rd_
    rw [if_neg (by omega), if_neg (by omega)]
    exact h.1
  · unfold rd_
    rw [if_neg (by omega), if_neg (by omega)]
    exact (h.2 k k0 k1).1
  · unfold rd_
    rw [if_neg (by omega), if_neg (by omega)]
    exact (h.2 k k0 k1).2
theorem uj_eJ {q r : rw_t} (h3 : q 3 ≤ 16) (h : eJ_ q r) (hu : uj_ q) : uj_ r := by
  refine ⟨fun k k0 k1 => ?_, fun k l k0 k1 k2 => ?_⟩
  · have e := h.2 k k0 (by have := h.1; omega)
    have := hu.1 k k0 (by have := h.1; omega)
    omega
  · have e := h.2 k k0 (by have := h.1; omega)
    have e2 := h.2 l (by omega) (by have := h.1; omega)
    have := hu.2 k l k0 k1 (by have := h.1; omega)
    omega
/-- between, where a member joins -/
theorem bq_bt {r : rw_t} (hu : uj_ r) {a b v m : Int} (h : bq_ r a b v) (m0 : 0 ≤ m) (m1 : m < r 3) (hm : jn_ r m a b) : (0 ≤ v ∧ v < r 3) ∧ bt_ r a b v := by
  rcases h with ⟨-, h⟩ | ⟨v0, v1, h⟩
  · exact absurd ((jn_jr (hu.1 m m0 m1)).mpr hm) (h m m0 m1)
  · exact ⟨⟨v0, v1⟩, .inr ⟨v0, v1, (jn_jr (hu.1 v v0 v1)).mp h⟩⟩
theorem way_link {q : rw_t} {u v l : Int} (hW : wf_M q) (hu : uj_ q) (u0 : 0 ≤ u) (u1 : u < 8) (v0 : 0 ≤ v) (v1 : v < 8) (l1 : 1 ≤ l) (h7 : md_ (sa_ q) l v u ≤ 7) {k : Nat} (hk : (k : Int) < md_ (sa_ q) l v u) : ∃ m : Int, (0 ≤ m ∧ m < q 3) ∧ jn_ q m (wy1_ (sa_ q) l (xm_ q l (-1) v 8) u k) (wy1_ (sa_ q) l (xm_ q l (-1) v 8) u (k + 1)) := by
  obtain ⟨-, -, hr, -⟩ := way_all hW hu u0 u1 v0 v1 l1 (fun _ => 0) h7 (k + 1) (by omega)
  have e : wy1_ (sa_ q) l (xm_ q l (-1) v 8) u (k + 1) = nx_ (sa_ q) l (xm_ q l (-1) v 8) (wy1_ (sa_ q) l (xm_ q l (-1) v 8) u k) (xm_ q l (-1) v 8 u - ((k : Int) + 1)) 8 := rfl
  have hl : l ≤ sa_ q (wy1_ (sa_ q) l (xm_ q l (-1) v 8) u k) (wy1_ (sa_ q) l (xm_ q l (-1) v 8) u (k + 1)) := by
    rcases nx_spec (sa_ q) l (xm_ q l (-1) v 8) (wy1_ (sa_ q) l (xm_ q l (-1) v 8) u k) (xm_ q l (-1) v 8 u - ((k : Int) + 1)) 8 (Nat.le_refl 8) with ⟨h, -⟩ | ⟨-, h, -⟩
    · omega
    · rw [e]
      exact h.1
  obtain ⟨m, m1, hm, -⟩ := sa_ex hu hW.1.1 l1 hl
  exact ⟨m, ⟨by omega, m1⟩, hm⟩
section REF
variable {g : bc_C} {d : Nat} {σ : bc_M} {q b : rw_t} {h : List rw_t} {Rr : Option bc_A → bc_M → Prop} {X : Nat → bc_M → Prop} {B : Int}
theorem t_X11_walks {u v n : Int} (hG : rg_ σ q h) (hb : nw_ σ 220 b) (hW : wf_M q) (hN4 : wf_N q) (hU : uj_ q) (hu : bc_in u) (hv : bc_in v) (hn : bc_in n)
    (f1 : wkt_ q u v n ≠ 0 → ∀ σ', su_ (wkt_ q u v n) q h b σ σ' → Rr (some (bc_I 0)) σ')
    (f0 : wkt_ q u v n = 0 → ∀ σ' r', wl_ (n + tw_ q) (wyJ_ q u v) q (xm_ q (xw_ q u 8 v) (-1) v 8 u).toNat r' → su_ 0 r' h b σ σ' → Rr (some (bc_I (xm_ q (xw_ q u 8 v) (-1) v 8 u))) σ') : bc_Sem g (d + 8) mX11_walks [bc_R 218, bc_I u, bc_I v, bc_I n] σ Rr X := by
  obtain ⟨hN, hH⟩ := hG
  have w3 := hW.1
  obtain ⟨t1, t2, t3, t4, t5⟩ := hN4
  have htw : 0 ≤ tw_ q ∧ tw_ q ≤ 80 := by unfold tw_; omega
  refine e_X11_walks rfl (fun K hK => ?_)
  -- not right
  have N0 : ∀ x : Int, (0 ≤ x ∧ x ≤ 1) → ho_ x 0 0 1 = wkt_ q u v n → K 32 [(0, bc_R 218), (1, bc_I u), (2, bc_I v), (3, bc_I n), (4, bc_I x)] [bc_I 0] σ 0 := by
    intro x lx ht
    have S0 := su_t (q := q) (h := h) (b := b) ⟨hN, hH⟩ hb (wkt_ q u v n)
    have nz : wkt_ q u v n ≠ 0 := by
      rw [← ht]
      unfold ho_
      split <;> decide
    refine hK.1 [] 80 _ _ _ _ _ ?_
    refine bc_ob_i (by decide) ?_
    refine bc_br_i (fun _ => ?_) (fun c => absurd rfl c)
    refine bc_ob_i (by decide) ?_
    refine bc_br_i (fun _ => ?_) (fun c => absurd rfl c)
    refine bc_ob_i (by decide) ?_
    refine bc_br_i (fun c => absurd c (by decide)) (fun _ => ?_)
    refine bc_ob_i (by decide) ?_
    refine bc_br_i (fun c => absurd c (by decide)) (fun _ => ?_)
    refine t_X11_holds lx (by decide) (by decide) (by decide) ?_
    rw [ht, if_neg nz]
    refine bc_ob_i (by decide) ?_
    refine bc_br_i (fun _ => ?_) (fun q => absurd rfl q)
    exact f1 nz _ S0
  have N1 : ((0 ≤ u ∧ u < 8) ∧ 0 ≤ v ∧ v < 8) → u ≠ v → (1 ≤ n ∧ n ≤ 99) → K 32 [(0, bc_R 218), (1, bc_I u), (2, bc_I v), (3, bc_I n), (4, bc_I 1)] [bc_I 1] σ 0 := by
    intro hj0 hne hn1
    obtain ⟨⟨u0, u1⟩, v0, v1⟩ := id hj0
    have lw := xw_lm hW u 8 v v0 v1
    have l9 := xw_99 hW u 8 v (fun e => hne e.symm)
    have ew : ho_ 1 1 (if 0 < xw_ q u 8 v then 1 else 0) (if n + tw_ q ≤ xw_ q u 8 v then 1 else 0) = wkt_ q u v n := by
      have e1 : wkt_ q u v n = if xw_ q u 8 v ≤ 0 then 3 else if xw_ q u 8 v < n + tw_ q then 4 else 0 := by
        unfold wkt_
        rw [if_neg (fun k => k hj0), if_neg (by omega)]
      rw [e1]
      by_cases c1 : 0 < xw_ q u 8 v
      · by_cases c2 : n + tw_ q ≤ xw_ q u 8 v
        · rw [if_pos c1, if_pos c2, if_neg (by omega), if_neg (by omega)]
          rfl
        · rw [if_pos c1, if_neg c2, if_neg (by omega), if_pos (by omega)]
          rfl
      · rw [if_neg c1, if_pos (show xw_ q u 8 v ≤ 0 by omega)]
        rfl
    have T : ∀ (s : bc_M) (x y : Int), fr_ (fun k => k = 223) σ s → (x = if 0 < xw_ q u 8 v then 1 else 0) → (y = if n + tw_ q ≤ xw_ q u 8 v then 1 else 0) → K 95 [(0, bc_R 218), (1, bc_I u), (2, bc_I v), (3, bc_I n), (4, bc_I 1), (5, bc_I 1), (6, bc_I (xw_ q u 8 v)), (7, bc_I (n + tw_ q))] [bc_I y, bc_I x, bc_I 1, bc_I 1, bc_R 218] s 0 := by
      intro s x y F hx hy
      have lx : 0 ≤ x ∧ x ≤ 1 := by rw [hx]; split <;> omega
      have ly : 0 ≤ y ∧ y ≤ 1 := by rw [hy]; split <;> omega
      have ht : ho_ 1 1 x y = wkt_ q u v n := by rw [hx, hy]; exact ew
      have G1 : rg_ s q h := ⟨nw_fr hN F (by decide), mh_fr hH F (by decide) (by rw [F.1 218 (by decide)])⟩
      have S1 := su_t (b := b) G1 (nw_fr hb F (by decide)) (ho_ 1 1 x y)
      have S0 : su_ (ho_ 1 1 x y) q h b σ (bc_wr s 218 ((14 : Nat) : Int) (ho_ 1 1 x y)) := ⟨S1.1, S1.2.1, fr_trans (fr_mono F (fun k hk => by omega)) S1.2.2.1, fj_trans (fj_fr F (by decide)) S1.2.2.2⟩
      clear S1
      refine hK.1 [116] 80 _ _ _ _ _ ?_
      refine t_X11_holds (by decide) (by decide) lx ly ?_
      rw [ht] at S0 ⊢
      generalize bc_wr s 218 ((14 : Nat) : Int) (wkt_ q u v n) = s0 at S0 ⊢
      by_cases e : wkt_ q u v n = 0
      · rw [if_pos e]
        rw [e] at S0
        have l1 : 1 ≤ xw_ q u 8 v := by
          refine Classical.byContradiction (fun no => ?_)
          rw [← ew, if_neg (show ¬ 0 < xw_ q u 8 v by omega)] at e
          exact absurd e (by unfold ho_; rw [if_neg (by decide), if_neg (by decide), if_pos rfl]; decide)
        have W := wb_xw hW hU u0 u1 v0 v1 (fun e => hne e.symm) l9
        obtain ⟨P1, P2, -⟩ := way_fw hW hU u0 u1 v0 v1 hne (fun _ => 0) (by rw [W]; exact l1)
        rw [W] at P2
        rw [P2] at P1
        have h7 : xm_ q (xw_ q u 8 v) (-1) v 8 u = md_ (sa_ q) (xw_ q u 8 v) v u ∧ md_ (sa_ q) (xw_ q u 8 v) v u ≤ 7 := by
          rcases md_xm hW hU v0 v1 u0 u1 l1 with ⟨c1, c2⟩ | ⟨c1, c2⟩
          · exact ⟨c2, c1⟩
          · omega
        sorry
      · rw [if_neg e]
        refine bc_ob_i (by decide) ?_
        refine bc_br_i (fun _ => ?_) (fun q => absurd rfl q)
        exact f1 e _ S0
    have T2 : ∀ (s : bc_M) (x : Int), fr_ (fun k => k = 223) σ s → (x = if 0 < xw_ q u 8 v then 1 else 0) → K 83 [(0, bc_R 218), (1, bc_I u), (2, bc_I v), (3, bc_I n), (4, bc_I 1), (5, bc_I 1), (6, bc_I (xw_ q u 8 v)), (7, bc_I (n + tw_ q))] [bc_I x, bc_I 1, bc_I 1, bc_R 218] s 0 := by
      intro s x F hx
      refine hK.1 [95] 60 _ _ _ _ _ ?_
      refine bc_ob_i (by constructor <;> constructor <;> omega) ?_
      refine bc_br_i (fun c => ?_) (fun c => ?_)
      · first | exact T s x 1 F hx (if_pos (by omega)).symm | exact T s x 0 F hx (if_neg (by omega)).symm
      · first | exact T s x 1 F hx (if_pos (by omega)).symm | exact T s x 0 F hx (if_neg (by omega)).symm
    refine hK.1 [83] 80 _ _ _ _ _ ?_
    refine bc_ob_i (by decide) ?_
    refine bc_br_i (fun c => absurd c (by decide)) (fun _ => ?_)
    refine t_X11_widest hN hW ⟨u0, u1⟩ ⟨v0, v1⟩ (fun s F => ?_)
    refine bc_ob_i (by decide) ?_
    refine bc_br_i (fun c => absurd c (by decide)) (fun _ => ?_)
    refine t_X11_weighs (nw_fr hN F (by decide)) ?_
    refine bc_ob_i (by constructor <;> omega) ?_
    refine bc_br_i (fun c => ?_) (fun c => ?_)
    · first | exact T2 s 1 F (if_pos (by omega)).symm | exact T2 s 0 F (if_neg (by omega)).symm
    · first | exact T2 s 1 F (if_pos (by omega)).symm | exact T2 s 0 F (if_neg (by omega)).symm
  refine hK.1 [32] 80 _ _ _ _ _ ?_
  refine t_X11_areJoints hu hv ?_
  by_cases c : (0 ≤ u ∧ u < 8) ∧ 0 ≤ v ∧ v < 8
  · rw [if_pos c]
    have no : (u = v ∨ n < 1 ∨ 99 < n) → ho_ 1 0 0 1 = wkt_ q u v n := fun e => by
      unfold wkt_
      rw [if_neg (fun k => k c), if_pos e]
      rfl
    refine bc_ob_i (by decide) ?_
    refine bc_br_i (fun c => absurd c (by decide)) (fun _ => ?_)
    refine bc_ob_i ⟨hu, hv⟩ ?_
    refine bc_br_i (fun e => ?_) (fun e => ?_)
    · exact N0 1 (by decide) (no (.inl e))
    · refine t_X11_isIn hn (by decide) (by decide) ?_
      by_cases k : 1 ≤ n ∧ n ≤ 99
      · rw [if_pos k]
        refine bc_ob_i (by decide) ?_
        refine bc_br_i (fun c => absurd c (by decide)) (fun _ => ?_)
        exact N1 c e k
      · rw [if_neg k]
        refine bc_ob_i (by decide) ?_
        refine bc_br_i (fun _ => ?_) (fun c => absurd rfl c)
        exact N0 1 (by decide) (no (.inr (by omega)))
  · rw [if_neg c]
    refine bc_ob_i (by decide) ?_
    refine bc_br_i (fun _ => ?_) (fun c => absurd rfl c)
    refine N0 0 (by decide) ?_
    unfold wkt_
    rw [if_pos c]
    rfl
end REF
