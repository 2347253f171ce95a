/-! the reference walks -/
def wkt_ (q : rw_t) (u v n : Int) : Int := if ¬ ((0 ≤ u ∧ u < 8) ∧ 0 ≤ v ∧ v < 8) then 1 else if u = v ∨ n < 1 ∨ 99 < n then 2 else if xw_ q u 8 v ≤ 0 then 3 else if xw_ q u 8 v < n + tw_ q then 4 else 0
def wyJ_ (q : rw_t) (u v : Int) : Int → Int := fun i => wy1_ (sa_ q) (xw_ q u 8 v) (xm_ q (xw_ q u 8 v) (-1) v 8) u i.toNat
def eJ_ (q r : rw_t) : Prop := r 3 = q 3 ∧ ∀ k : Int, 0 ≤ k → k < 16 → r (16 + 6 * k) = q (16 + 6 * k) ∧ r (17 + 6 * k) = q (17 + 6 * k)
theorem rd_eJ {q r : rw_t} {x f : Int} (h : eJ_ q r) : eJ_ q (rd_ r x f) := by
  refine ⟨?_, fun k k0 k1 => ⟨?_, ?_⟩⟩
  · unfold rd_
    rw [if_neg (by omega), if_neg (by omega)]
    exact h.1
  · unfold rd_
    rw [if_neg (by omega), if_neg (by omega)]
    exact (h.2 k k0 k1).1
  · unfold rd_
    rw [if_neg (by omega), if_neg (by omega)]
    exact (h.2 k k0 k1).2
theorem uj_eJ {q r : rw_t} (h3 : q 3 ≤ 16) (h : eJ_ q r) (hu : uj_ q) : uj_ r := by
  refine ⟨fun k k0 k1 => ?_, fun k l k0 k1 k2 => ?_⟩
  · have e := h.2 k k0 (by have := h.1; omega)
    have := hu.1 k k0 (by have := h.1; omega)
    omega
  · have e := h.2 k k0 (by have := h.1; omega)
    have e2 := h.2 l (by omega) (by have := h.1; omega)
    have := hu.2 k l k0 k1 (by have := h.1; omega)
    omega
/-- between, where a member joins -/
theorem bq_bt {r : rw_t} (hu : uj_ r) {a b v m : Int} (h : bq_ r a b v) (m0 : 0 ≤ m) (m1 : m < r 3) (hm : jn_ r m a b) : (0 ≤ v ∧ v < r 3) ∧ bt_ r a b v := by
  rcases h with ⟨-, h⟩ | ⟨v0, v1, h⟩
  · exact absurd ((jn_jr (hu.1 m m0 m1)).mpr hm) (h m m0 m1)
  · exact ⟨⟨v0, v1⟩, .inr ⟨v0, v1, (jn_jr (hu.1 v v0 v1)).mp h⟩⟩
theorem way_link {q : rw_t} {u v l : Int} (hW : wf_M q) (hu : uj_ q) (u0 : 0 ≤ u) (u1 : u < 8) (v0 : 0 ≤ v) (v1 : v < 8) (l1 : 1 ≤ l) (h7 : md_ (sa_ q) l v u ≤ 7) {k : Nat} (hk : (k : Int) < md_ (sa_ q) l v u) : ∃ m : Int, (0 ≤ m ∧ m < q 3) ∧ jn_ q m (wy1_ (sa_ q) l (xm_ q l (-1) v 8) u k) (wy1_ (sa_ q) l (xm_ q l (-1) v 8) u (k + 1)) := by
  obtain ⟨-, -, hr, -⟩ := way_all hW hu u0 u1 v0 v1 l1 (fun _ => 0) h7 (k + 1) (by omega)
  have e : wy1_ (sa_ q) l (xm_ q l (-1) v 8) u (k + 1) = nx_ (sa_ q) l (xm_ q l (-1) v 8) (wy1_ (sa_ q) l (xm_ q l (-1) v 8) u k) (xm_ q l (-1) v 8 u - ((k : Int) + 1)) 8 := rfl
  have hl : l ≤ sa_ q (wy1_ (sa_ q) l (xm_ q l (-1) v 8) u k) (wy1_ (sa_ q) l (xm_ q l (-1) v 8) u (k + 1)) := by
    rcases nx_spec (sa_ q) l (xm_ q l (-1) v 8) (wy1_ (sa_ q) l (xm_ q l (-1) v 8) u k) (xm_ q l (-1) v 8 u - ((k : Int) + 1)) 8 (Nat.le_refl 8) with ⟨h, -⟩ | ⟨-, h, -⟩
    · omega
    · rw [e]
      exact h.1
  obtain ⟨m, m1, hm, -⟩ := sa_ex hu hW.1.1 l1 hl
  exact ⟨m, ⟨by omega, m1⟩, hm⟩
section REF
variable {g : bc_C} {d : Nat} {σ : bc_M} {q b : rw_t} {h : List rw_t} {Rr : Option bc_A → bc_M → Prop} {X : Nat → bc_M → Prop} {B : Int}
theorem t_X11_walks {u v n : Int} (hG : rg_ σ q h) (hb : nw_ σ 220 b) (hW : wf_M q) (hN4 : wf_N q) (hU : uj_ q) (hu : bc_in u) (hv : bc_in v) (hn : bc_in n)
    (f1 : wkt_ q u v n ≠ 0 → ∀ σ', su_ (wkt_ q u v n) q h b σ σ' → Rr (some (bc_I 0)) σ')
    (f0 : wkt_ q u v n = 0 → ∀ σ' r', wl_ (n + tw_ q) (wyJ_ q u v) q (xm_ q (xw_ q u 8 v) (-1) v 8 u).toNat r' → su_ 0 r' h b σ σ' → Rr (some (bc_I (xm_ q (xw_ q u 8 v) (-1) v 8 u))) σ') : bc_Sem g (d + 8) mX11_walks [bc_R 218, bc_I u, bc_I v, bc_I n] σ Rr X := by
  obtain ⟨hN, hH⟩ := hG
  have w3 := hW.1
  obtain ⟨t1, t2, t3, t4, t5⟩ := hN4
  have htw : 0 ≤ tw_ q ∧ tw_ q ≤ 80 := by unfold tw_; omega
  refine e_X11_walks rfl (fun K hK => ?_)
  -- not right
  have N0 : ∀ x : Int, (0 ≤ x ∧ x ≤ 1) → ho_ x 0 0 1 = wkt_ q u v n → K 32 [(0, bc_R 218), (1, bc_I u), (2, bc_I v), (3, bc_I n), (4, bc_I x)] [bc_I 0] σ 0 := by
    intro x lx ht
    have S0 := su_t (q := q) (h := h) (b := b) ⟨hN, hH⟩ hb (wkt_ q u v n)
    have nz : wkt_ q u v n ≠ 0 := by
      rw [← ht]
      unfold ho_
      split <;> decide
    refine hK.1 [] 80 _ _ _ _ _ ?_
    refine bc_ob_i (by decide) ?_
    refine bc_br_i (fun _ => ?_) (fun c => absurd rfl c)
    refine bc_ob_i (by decide) ?_
    refine bc_br_i (fun _ => ?_) (fun c => absurd rfl c)
    refine bc_ob_i (by decide) ?_
    refine bc_br_i (fun c => absurd c (by decide)) (fun _ => ?_)
    refine bc_ob_i (by decide) ?_
    refine bc_br_i (fun c => absurd c (by decide)) (fun _ => ?_)
    refine t_X11_holds lx (by decide) (by decide) (by decide) ?_
    rw [ht, if_neg nz]
    refine bc_ob_i (by decide) ?_
    refine bc_br_i (fun _ => ?_) (fun q => absurd rfl q)
    exact f1 nz _ S0
  have N1 : ((0 ≤ u ∧ u < 8) ∧ 0 ≤ v ∧ v < 8) → u ≠ v → (1 ≤ n ∧ n ≤ 99) → K 32 [(0, bc_R 218), (1, bc_I u), (2, bc_I v), (3, bc_I n), (4, bc_I 1)] [bc_I 1] σ 0 := by
    intro hj0 hne hn1
    obtain ⟨⟨u0, u1⟩, v0, v1⟩ := id hj0
    have lw := xw_lm hW u 8 v v0 v1
    have l9 := xw_99 hW u 8 v (fun e => hne e.symm)
    have ew : ho_ 1 1 (if 0 < xw_ q u 8 v then 1 else 0) (if n + tw_ q ≤ xw_ q u 8 v then 1 else 0) = wkt_ q u v n := by
      have e1 : wkt_ q u v n = if xw_ q u 8 v ≤ 0 then 3 else if xw_ q u 8 v < n + tw_ q then 4 else 0 := by
        unfold wkt_
        rw [if_neg (fun k => k hj0), if_neg (by omega)]
      rw [e1]
      by_cases c1 : 0 < xw_ q u 8 v
      · by_cases c2 : n + tw_ q ≤ xw_ q u 8 v
        · rw [if_pos c1, if_pos c2, if_neg (by omega), if_neg (by omega)]
          rfl
        · rw [if_pos c1, if_neg c2, if_neg (by omega), if_pos (by omega)]
          rfl
      · rw [if_neg c1, if_pos (show xw_ q u 8 v ≤ 0 by omega)]
        rfl
    have T : ∀ (s : bc_M) (x y : Int), fr_ (fun k => k = 223) σ s → (x = if 0 < xw_ q u 8 v then 1 else 0) → (y = if n + tw_ q ≤ xw_ q u 8 v then 1 else 0) → K 95 [(0, bc_R 218), (1, bc_I u), (2, bc_I v), (3, bc_I n), (4, bc_I 1), (5, bc_I 1), (6, bc_I (xw_ q u 8 v)), (7, bc_I (n + tw_ q))] [bc_I y, bc_I x, bc_I 1, bc_I 1, bc_R 218] s 0 := by
      intro s x y F hx hy
      have lx : 0 ≤ x ∧ x ≤ 1 := by rw [hx]; split <;> omega
      have ly : 0 ≤ y ∧ y ≤ 1 := by rw [hy]; split <;> omega
      have ht : ho_ 1 1 x y = wkt_ q u v n := by rw [hx, hy]; exact ew
      have G1 : rg_ s q h := ⟨nw_fr hN F (by decide), mh_fr hH F (by decide) (by rw [F.1 218 (by decide)])⟩
      have S1 := su_t (b := b) G1 (nw_fr hb F (by decide)) (ho_ 1 1 x y)
      have S0 : su_ (ho_ 1 1 x y) q h b σ (bc_wr s 218 ((14 : Nat) : Int) (ho_ 1 1 x y)) := ⟨S1.1, S1.2.1, fr_trans (fr_mono F (fun k hk => by omega)) S1.2.2.1, fj_trans (fj_fr F (by decide)) S1.2.2.2⟩
      clear S1
      refine hK.1 [116] 80 _ _ _ _ _ ?_
      refine t_X11_holds (by decide) (by decide) lx ly ?_
      rw [ht] at S0 ⊢
      generalize bc_wr s 218 ((14 : Nat) : Int) (wkt_ q u v n) = s0 at S0 ⊢
      by_cases e : wkt_ q u v n = 0
      · rw [if_pos e]
        rw [e] at S0
        have l1 : 1 ≤ xw_ q u 8 v := by
          refine Classical.byContradiction (fun no => ?_)
          rw [← ew, if_neg (show ¬ 0 < xw_ q u 8 v by omega)] at e
          exact absurd e (by unfold ho_; rw [if_neg (by decide), if_neg (by decide), if_pos rfl]; decide)
        have W := wb_xw hW hU u0 u1 v0 v1 (fun e => hne e.symm) l9
        obtain ⟨P1, P2, -⟩ := way_fw hW hU u0 u1 v0 v1 hne (fun _ => 0) (by rw [W]; exact l1)
        rw [W] at P2
        rw [P2] at P1
        have h7 : xm_ q (xw_ q u 8 v) (-1) v 8 u = md_ (sa_ q) (xw_ q u 8 v) v u ∧ md_ (sa_ q) (xw_ q u 8 v) v u ≤ 7 := by
          rcases md_xm hW hU v0 v1 u0 u1 l1 with ⟨c1, c2⟩ | ⟨c1, c2⟩
          · exact ⟨c2, c1⟩
          · omega
        have hlink : ∀ k : Nat, (k : Int) < xm_ q (xw_ q u 8 v) (-1) v 8 u → ∃ m : Int, (0 ≤ m ∧ m < q 3) ∧ jn_ q m (wy1_ (sa_ q) (xw_ q u 8 v) (xm_ q (xw_ q u 8 v) (-1) v 8) u k) (wy1_ (sa_ q) (xw_ q u 8 v) (xm_ q (xw_ q u 8 v) (-1) v 8) u (k + 1)) := fun k hk => way_link hW hU u0 u1 v0 v1 l1 h7.2 (by omega)
        have hle := wy1_le (sa_ q) (xw_ q u 8 v) (xm_ q (xw_ q u 8 v) (-1) v 8) u ⟨u0, u1⟩
        have hJ : ∀ k : Nat, wyJ_ q u v (k : Int) = wy1_ (sa_ q) (xw_ q u 8 v) (xm_ q (xw_ q u 8 v) (-1) v 8) u k := fun k => by
          unfold wyJ_
          rw [Int.toNat_natCast]
        have hfin := f0 e
        have L : ∀ (M : Int) (wy : Nat → Int), M ≤ 7 → (∀ k : Nat, (k : Int) < M → ∃ m : Int, (0 ≤ m ∧ m < q 3) ∧ jn_ q m (wy k) (wy (k + 1))) → (∀ k, -1 ≤ wy k ∧ wy k ≤ 7) → (∀ k : Nat, wyJ_ q u v (k : Int) = wy k) → (∀ (σ' : bc_M) (r' : rw_t), wl_ (n + tw_ q) (wyJ_ q u v) q M.toNat r' → su_ 0 r' h b σ σ' → Rr (some (bc_I M)) σ') → ∀ k : Int, ∀ (s : bc_M) (R : rw_t) (z : bc_LV), 0 ≤ k → k ≤ M → su_ 0 R h b σ s → wl_ (n + tw_ q) (wyJ_ q u v) q k.toNat R → eJ_ q R → wf_M R → (∀ j : Nat, (j : Int) ≤ M → s.1 224 (j : Int) = wy j) → K 116 ([(0, bc_R 218), (1, bc_I u), (2, bc_I v), (3, bc_I n), (4, bc_I 1), (5, bc_I 1), (6, bc_I (xw_ q u 8 v)), (7, bc_I (n + tw_ q)), (8, bc_I M), (9, bc_I k)] ++ z) [] s 0 := by
          intro M wy m7 hlink hle hJ hfin
          refine up_ind M (fun k hk s R z k0 k1 S hw eJ hWR hc => ?_) (fun k hk ih s R z k0 k1 S hw eJ hWR hc => ?_)
          · have ek : k = M := by omega
            subst ek
            refine hK.2 _ _ [(0, bc_R 218), (1, bc_I u), (2, bc_I v), (3, bc_I n), (4, bc_I 1), (5, bc_I 1), (6, bc_I (xw_ q u 8 v)), (7, bc_I (n + tw_ q)), (8, bc_I k), (9, bc_I k)] _ _ _ (ls_ _ _) ?_
            refine hK.1 [116] 60 _ _ _ _ _ ?_
            refine bc_ob_i (by constructor <;> constructor <;> omega) ?_
            refine bc_br_i (fun c => absurd c (by omega)) (fun _ => ?_)
            exact hfin s R hw S
          · have en : ((k.toNat : Nat) : Int) = k := by omega
            have a1 := hc k.toNat (by omega)
            have a2 := hc (k.toNat + 1) (by omega)
            have en1 : ((k.toNat + 1 : Nat) : Int) = k + 1 := by omega
            rw [en] at a1
            rw [en1] at a2
            have b1 := hle k.toNat
            have b2 := hle (k.toNat + 1)
            obtain ⟨m, hm, hjn⟩ := hlink k.toNat (by omega)
            have hUR := uj_eJ w3.2 eJ hU
            have r3 := eJ.1
            have hjR : jn_ R m (wy k.toNat) (wy (k.toNat + 1)) := by
              obtain ⟨c1, c2⟩ := eJ.2 m hm.1 (by omega)
              unfold jn_
              rw [c1, c2]
              exact hjn
            have hNs := S.1.1.1
            refine hK.2 _ _ [(0, bc_R 218), (1, bc_I u), (2, bc_I v), (3, bc_I n), (4, bc_I 1), (5, bc_I 1), (6, bc_I (xw_ q u 8 v)), (7, bc_I (n + tw_ q)), (8, bc_I M), (9, bc_I k)] _ _ _ (ls_ _ _) ?_
            refine hK.1 [116] 120 _ _ _ _ _ ?_
            refine bc_ob_i (by constructor <;> constructor <;> omega) ?_
            refine bc_br_i (fun _ => ?_) (fun c => absurd c (by omega))
            refine bc_ob_i (by omega) ?_
            refine bc_ob_i (by omega) ?_
            refine t_X11_between hNs hWR (by rw [a1]; constructor <;> omega) (by rw [a2]; constructor <;> omega) (fun x hx => ?_)
            rw [a1, a2] at hx
            obtain ⟨⟨x0, x1⟩, hbt⟩ := bq_bt hUR hx hm.1 (by omega) hjR
            obtain ⟨g0, g1, g2, g3, g4, g5⟩ := hWR.2 x x0 (by omega)
            have hw' : wl_ (n + tw_ q) (wyJ_ q u v) q (k + 1).toNat (rd_ R x (n + tw_ q)) := by
              rw [show (k + 1).toNat = k.toNat + 1 by omega]
              refine ⟨R, x, hw, ?_, by rw [if_neg (by omega)]⟩
              rw [show ((k.toNat : Nat) : Int) + 1 = ((k.toNat + 1 : Nat) : Int) by omega, hJ, hJ]
              exact hbt
            have p3 : pl_ R x 3 = 19 + 6 * x := by
              rw [pl_at x0 x1]
              omega
            have T1 := su_w S (i := 19 + 6 * x) (v := min 9 (R (19 + 6 * x) + (R (20 + 6 * x) + (n + tw_ q)) / 100))
            have k3 : up_ R (19 + 6 * x) (min 9 (R (19 + 6 * x) + (R (20 + 6 * x) + (n + tw_ q)) / 100)) 3 = R 3 := up_ne (by omega)
            have p4 : pl_ (up_ R (19 + 6 * x) (min 9 (R (19 + 6 * x) + (R (20 + 6 * x) + (n + tw_ q)) / 100))) x 4 = 20 + 6 * x := by
              rw [pl_at x0 (by rw [k3]; exact x1)]
              omega
            have T2 := su_w T1 (i := 20 + 6 * x) (v := (R (20 + 6 * x) + (n + tw_ q)) % 100)
            have er : up_ (up_ R (19 + 6 * x) (min 9 (R (19 + 6 * x) + (R (20 + 6 * x) + (n + tw_ q)) / 100))) (20 + 6 * x) ((R (20 + 6 * x) + (n + tw_ q)) % 100) = rd_ R x (n + tw_ q) := by
              funext j
              unfold rd_ up_
              by_cases j1 : j = 20 + 6 * x
              · rw [if_pos j1, if_neg (by omega), if_pos j1]
              · rw [if_neg j1, if_neg j1]
            rw [er] at T2
            have go := ih _ (rd_ R x (n + tw_ q)) [(10, bc_I x), (11, bc_I (R (20 + 6 * x) + (n + tw_ q)))] (by omega) (by omega) T2 hw' (rd_eJ eJ) (rd_wf hWR x0 (by omega) (by omega)).1 (fun j hj => by
              have := hc j hj
              rw [bc_wr_ne (by decide), bc_wr_ne (by decide)]
              exact this)
            refine t_X11_ofM 20 hNs hWR x0 x1 (by decide) rfl ?_
            refine t_X11_place hNs hWR.1 (by constructor <;> omega) ?_
            rw [p3]
            refine t_X11_ofM 19 hNs hWR x0 x1 (by decide) rfl ?_
            refine bc_ob_i ⟨⟨by omega, by omega⟩, by decide, by decide⟩ ?_
            refine bc_ob_i ⟨by decide, by constructor <;> omega, Nat.le_of_ble_eq_true rfl⟩ ?_
            refine bc_ob_i (by omega) ?_
            refine t_X11_place T1.1.1.1 (by rw [k3]; exact hWR.1) (by constructor <;> omega) ?_
            rw [p4]
            refine bc_ob_i ⟨⟨by omega, by omega⟩, by decide, by decide⟩ ?_
            refine bc_ob_i (by omega) ?_
            exact go
        refine bc_ob_i (by decide) ?_
        refine bc_br_i (fun q => absurd q (by decide)) (fun _ => ?_)
        refine t_X11_finds S0.1.1.1 hW hU ⟨u0, u1⟩ ⟨v0, v1⟩ ⟨l1, l9⟩ (by omega) (fun s1 hw F1 => ?_)
        have S2 : su_ 0 q h b σ s1 := su_fr S0 F1 (by decide) (by decide) (by decide) (by decide) (fun k hk => by omega)
        exact L _ _ (by omega) hlink hle hJ hfin 0 s1 q [] (by decide) (by omega) S2 rfl ⟨rfl, fun k k0 k1 => ⟨rfl, rfl⟩⟩ hW hw
      · rw [if_neg e]
        refine bc_ob_i (by decide) ?_
        refine bc_br_i (fun _ => ?_) (fun q => absurd rfl q)
        exact f1 e _ S0
    have T2 : ∀ (s : bc_M) (x : Int), fr_ (fun k => k = 223) σ s → (x = if 0 < xw_ q u 8 v then 1 else 0) → K 83 [(0, bc_R 218), (1, bc_I u), (2, bc_I v), (3, bc_I n), (4, bc_I 1), (5, bc_I 1), (6, bc_I (xw_ q u 8 v)), (7, bc_I (n + tw_ q))] [bc_I x, bc_I 1, bc_I 1, bc_R 218] s 0 := by
      intro s x F hx
      refine hK.1 [95] 60 _ _ _ _ _ ?_
      refine bc_ob_i (by constructor <;> constructor <;> omega) ?_
      refine bc_br_i (fun c => ?_) (fun c => ?_)
      · first | exact T s x 1 F hx (if_pos (by omega)).symm | exact T s x 0 F hx (if_neg (by omega)).symm
      · first | exact T s x 1 F hx (if_pos (by omega)).symm | exact T s x 0 F hx (if_neg (by omega)).symm
    refine hK.1 [83] 80 _ _ _ _ _ ?_
    refine bc_ob_i (by decide) ?_
    refine bc_br_i (fun c => absurd c (by decide)) (fun _ => ?_)
    refine t_X11_widest hN hW ⟨u0, u1⟩ ⟨v0, v1⟩ (fun s F => ?_)
    refine bc_ob_i (by decide) ?_
    refine bc_br_i (fun c => absurd c (by decide)) (fun _ => ?_)
    refine t_X11_weighs (nw_fr hN F (by decide)) ?_
    refine bc_ob_i (by constructor <;> omega) ?_
    refine bc_br_i (fun c => ?_) (fun c => ?_)
    · first | exact T2 s 1 F (if_pos (by omega)).symm | exact T2 s 0 F (if_neg (by omega)).symm
    · first | exact T2 s 1 F (if_pos (by omega)).symm | exact T2 s 0 F (if_neg (by omega)).symm
  refine hK.1 [32] 80 _ _ _ _ _ ?_
  refine t_X11_areJoints hu hv ?_
  by_cases c : (0 ≤ u ∧ u < 8) ∧ 0 ≤ v ∧ v < 8
  · rw [if_pos c]
    have no : (u = v ∨ n < 1 ∨ 99 < n) → ho_ 1 0 0 1 = wkt_ q u v n := fun e => by
      unfold wkt_
      rw [if_neg (fun k => k c), if_pos e]
      rfl
    refine bc_ob_i (by decide) ?_
    refine bc_br_i (fun c => absurd c (by decide)) (fun _ => ?_)
    refine bc_ob_i ⟨hu, hv⟩ ?_
    refine bc_br_i (fun e => ?_) (fun e => ?_)
    · exact N0 1 (by decide) (no (.inl e))
    · refine t_X11_isIn hn (by decide) (by decide) ?_
      by_cases k : 1 ≤ n ∧ n ≤ 99
      · rw [if_pos k]
        refine bc_ob_i (by decide) ?_
        refine bc_br_i (fun c => absurd c (by decide)) (fun _ => ?_)
        exact N1 c e k
      · rw [if_neg k]
        refine bc_ob_i (by decide) ?_
        refine bc_br_i (fun _ => ?_) (fun c => absurd rfl c)
        exact N0 1 (by decide) (no (.inr (by omega)))
  · rw [if_neg c]
    refine bc_ob_i (by decide) ?_
    refine bc_br_i (fun _ => ?_) (fun c => absurd rfl c)
    refine N0 0 (by decide) ?_
    unfold wkt_
    rw [if_pos c]
    rfl
end REF
