/-! the reference lays the best way -/
section REF
variable {g : bc_C} {d : Nat} {σ : bc_M} {q b : rw_t} {h : List rw_t} {Rr : Option bc_A → bc_M → Prop} {X : Nat → bc_M → Prop} {B : Int}
theorem t_X11_finds {u v l : Int} (hN : nw_ σ 219 q) (hW : wf_M q) (hU : uj_ q) (a0 : 0 ≤ u ∧ u < 8) (b0 : 0 ≤ v ∧ v < 8) (hl : 1 ≤ l ∧ l ≤ 99) (hM : xm_ q l (-1) v 8 u ≤ 8) (f : ∀ σ', (∀ k : Nat, (k : Int) ≤ xm_ q l (-1) v 8 u → σ'.1 224 (k : Int) = wy1_ (sa_ q) l (xm_ q l (-1) v 8) u k) → fr_ (fun k => k = 223 ∨ k = 224) σ σ' → Rr (some (bc_I (xm_ q l (-1) v 8 u))) σ') : bc_Sem g (d + 7) mX11_finds [bc_R 218, bc_I u, bc_I v, bc_I l] σ Rr X := by
  have w3 := hW.1
  have lm := xm_lm hW l (-1) v 8
  have lmu := lm u a0.1 a0.2
  refine e_X11_finds rfl (fun K hK => ?_)
  generalize hD : xm_ q l (-1) v 8 = D at *
  -- the joints downwards
  have Lj : ∀ (k a : Int) (s : bc_M), 1 ≤ k → k ≤ D u → -1 ≤ a → a ≤ 7 → s.1 224 (k - 1) = a → ar_ s 223 D → fr_ (fun k => k = 223 ∨ k = 224) σ s → (∀ z : bc_LV, K 119 ([(0, bc_R 218), (1, bc_I u), (2, bc_I v), (3, bc_I l), (4, bc_I (D u)), (5, bc_I k), (6, bc_I (nx_ (sa_ q) l D a (D u - k) 8)), (7, bc_I (-1))] ++ z) [] s 0) → ∀ i : Int, ∀ z : bc_LV, 0 ≤ i → i ≤ 8 → K 39 ([(0, bc_R 218), (1, bc_I u), (2, bc_I v), (3, bc_I l), (4, bc_I (D u)), (5, bc_I k), (6, bc_I (nx_ (sa_ q) l D a (D u - k) i.toNat)), (7, bc_I (7 - i))] ++ z) [] s 0 := by
    intro k a s k1 k2 am a7 ha hA F go
    refine up_ind 8 (fun i hi z i0 i1 => ?_) (fun i hi ih z i0 i1 => ?_)
    · have ei : i = 8 := by omega
      subst ei
      refine hK.2 _ _ [(0, bc_R 218), (1, bc_I u), (2, bc_I v), (3, bc_I l), (4, bc_I (D u)), (5, bc_I k), (6, bc_I (nx_ (sa_ q) l D a (D u - k) 8)), (7, bc_I (7 - 8))] _ _ _ (ls_ _ _) ?_
      refine hK.1 [39, 119] 60 _ _ _ _ _ ?_
      refine bc_ob_i (by decide) ?_
      refine bc_br_i (fun c => ?_) (fun c => ?_)
      · first | exact go [] | exact absurd c (by decide)
      · first | exact go [] | exact absurd c (by decide)
    · have hNs := nw_fr hN F (by decide)
      have li := lm (7 - i) (by omega) (by omega)
      have ai := hA (7 - i) (by omega) (by omega)
      have ea : (7 : Int) - (i + 1) = 7 - i + -1 := by omega
      have en : ((i.toNat : Nat) : Int) = i := by omega
      have es : nx_ (sa_ q) l D a (D u - k) (i + 1).toNat = if l ≤ sa_ q a (7 - i) ∧ D (7 - i) = D u - k then 7 - i else nx_ (sa_ q) l D a (D u - k) i.toNat := by
        rw [show (i + 1).toNat = i.toNat + 1 by omega]
        show (if l ≤ sa_ q a (7 - (i.toNat : Int)) ∧ D (7 - (i.toNat : Int)) = D u - k then 7 - (i.toNat : Int) else nx_ (sa_ q) l D a (D u - k) i.toNat) = _
        rw [en]
      rw [es, ea] at ih
      have N97 : ∀ (x w : Int), (x = if l ≤ sa_ q a (7 - i) ∧ D (7 - i) = D u - k then 1 else 0) → K 97 [(0, bc_R 218), (1, bc_I u), (2, bc_I v), (3, bc_I l), (4, bc_I (D u)), (5, bc_I k), (6, bc_I (nx_ (sa_ q) l D a (D u - k) i.toNat)), (7, bc_I (7 - i)), (8, bc_I w)] [bc_I x] s 0 := by
        intro x w hx
        by_cases c : l ≤ sa_ q a (7 - i) ∧ D (7 - i) = D u - k
        · rw [if_pos c] at hx ih
          subst hx
          refine hK.1 [39] 60 _ _ _ _ _ ?_
          refine bc_ob_i (by decide) ?_
          refine bc_br_i (fun c => absurd c (by decide)) (fun _ => ?_)
          exact ih [(8, bc_I w), (9, bc_I 1)] (by omega) (by omega)
        · rw [if_neg c] at hx ih
          subst hx
          refine hK.1 [39] 60 _ _ _ _ _ ?_
          refine bc_ob_i (by decide) ?_
          refine bc_br_i (fun _ => ?_) (fun c => absurd rfl c)
          exact ih [(8, bc_I w), (9, bc_I 0)] (by omega) (by omega)
      refine hK.2 _ _ [(0, bc_R 218), (1, bc_I u), (2, bc_I v), (3, bc_I l), (4, bc_I (D u)), (5, bc_I k), (6, bc_I (nx_ (sa_ q) l D a (D u - k) i.toNat)), (7, bc_I (7 - i))] _ _ _ (ls_ _ _) ?_
      refine hK.1 [39, 97, 119] 80 _ _ _ _ _ ?_
      refine bc_ob_i (by constructor <;> omega) ?_
      refine bc_br_i (fun c => ?_) (fun c => ?_)
      · exact absurd c (by omega)
      · refine bc_ob_i (by omega) ?_
        refine t_X11_between hNs hW (by rw [ha]; constructor <;> omega) (by constructor <;> omega) (fun w hw => ?_)
        rw [ha] at hw
        rcases bq_sa hU w3.1 hw with ⟨w0, w1⟩ | ⟨w0, w1, w2, w4⟩
        · subst w0
          refine bc_ob_i (by decide) ?_
          refine bc_br_i (fun _ => ?_) (fun c => absurd rfl c)
          exact N97 0 _ (if_neg (by omega)).symm
        · have hb := br_le hW w0 (by omega : w < 16)
          refine bc_ob_i (by constructor <;> constructor <;> omega) ?_
          refine bc_br_i (fun c => absurd c (by omega)) (fun _ => ?_)
          refine t_X11_bears hNs hW w0 w1 ?_
          refine bc_ob_i (by constructor <;> constructor <;> omega) ?_
          refine bc_br_i (fun c => ?_) (fun c => ?_)
          · exact N97 0 _ (if_neg (by omega)).symm
          · refine bc_ob_i (by omega) ?_
            refine bc_ob_i (by rw [ai]; constructor <;> constructor <;> omega) ?_
            rw [ai]
            refine bc_br_i (fun c2 => ?_) (fun c2 => ?_)
            · exact N97 1 _ (if_pos (by omega)).symm
            · exact N97 0 _ (if_neg (by omega)).symm
  have L : ∀ k : Int, ∀ (s : bc_M) (z : bc_LV), 1 ≤ k → k ≤ D u + 1 → (∀ j : Nat, (j : Int) < k → s.1 224 (j : Int) = wy1_ (sa_ q) l D u j) → ar_ s 223 D → fr_ (fun k => k = 223 ∨ k = 224) σ s → K 25 ([(0, bc_R 218), (1, bc_I u), (2, bc_I v), (3, bc_I l), (4, bc_I (D u)), (5, bc_I k)] ++ z) [] s 0 := by
    refine up_ind (D u + 1) (fun k hk s z k1 k2 hJ hA F => ?_) (fun k hk ih s z k1 k2 hJ hA F => ?_)
    · have ek : k = D u + 1 := by omega
      subst ek
      refine hK.2 _ _ [(0, bc_R 218), (1, bc_I u), (2, bc_I v), (3, bc_I l), (4, bc_I (D u)), (5, bc_I (D u + 1))] _ _ _ (ls_ _ _) ?_
      refine hK.1 [25] 60 _ _ _ _ _ ?_
      refine bc_ob_i (by constructor <;> constructor <;> omega) ?_
      refine bc_br_i (fun c => ?_) (fun c => ?_)
      · first | exact absurd c (by omega) | exact f s (fun j hj => hJ j (by omega)) F
      · first | exact absurd c (by omega) | exact f s (fun j hj => hJ j (by omega)) F
    · have wl := wy1_le (sa_ q) l D u a0 (k - 1).toNat
      have ek : (((k - 1).toNat : Nat) : Int) = k - 1 := by omega
      have ha := hJ (k - 1).toNat (by omega)
      rw [ek] at ha
      have en : wy1_ (sa_ q) l D u k.toNat = nx_ (sa_ q) l D (wy1_ (sa_ q) l D u (k - 1).toNat) (D u - k) 8 := by
        rw [show k.toNat = (k - 1).toNat + 1 by omega]
        show nx_ (sa_ q) l D (wy1_ (sa_ q) l D u (k - 1).toNat) (D u - (((k - 1).toNat : Int) + 1)) 8 = _
        rw [ek, show k - 1 + 1 = k by omega]
      have go : ∀ z : bc_LV, K 119 ([(0, bc_R 218), (1, bc_I u), (2, bc_I v), (3, bc_I l), (4, bc_I (D u)), (5, bc_I k), (6, bc_I (nx_ (sa_ q) l D (wy1_ (sa_ q) l D u (k - 1).toNat) (D u - k) 8)), (7, bc_I (-1))] ++ z) [] s 0 := by
        intro z
        refine hK.2 _ _ [(0, bc_R 218), (1, bc_I u), (2, bc_I v), (3, bc_I l), (4, bc_I (D u)), (5, bc_I k), (6, bc_I (nx_ (sa_ q) l D (wy1_ (sa_ q) l D u (k - 1).toNat) (D u - k) 8)), (7, bc_I (-1))] _ _ _ (ls_ _ _) ?_
        refine hK.1 [25] 60 _ _ _ _ _ ?_
        refine bc_ob_i (by omega) ?_
        rw [← en]
        have f4 : fr_ (fun k => k = 224) s (bc_wr s 224 k (wy1_ (sa_ q) l D u k.toNat)) := fr_wr rfl
        refine ih _ [(6, bc_I (wy1_ (sa_ q) l D u k.toNat)), (7, bc_I (-1))] (by omega) (by omega) (fun j hj => ?_) (fun j j0 j1 => by rw [f4.1 223 (by decide)]; exact hA j j0 j1) (fr_trans F (fr_mono f4 (fun k hk => .inr hk)))
        simp only [bc_wr, if_true]
        by_cases e : (j : Int) = k
        · rw [if_pos e, show j = k.toNat by omega]
        · rw [if_neg e]
          exact hJ j (by omega)
      refine hK.2 _ _ [(0, bc_R 218), (1, bc_I u), (2, bc_I v), (3, bc_I l), (4, bc_I (D u)), (5, bc_I k)] _ _ _ (ls_ _ _) ?_
      refine hK.1 [25, 39] 60 _ _ _ _ _ ?_
      refine bc_ob_i (by constructor <;> constructor <;> omega) ?_
      refine bc_br_i (fun c => ?_) (fun c => ?_)
      · first | exact absurd c (by omega) | exact Lj k (wy1_ (sa_ q) l D u (k - 1).toNat) s k1 (by omega) wl.1 wl.2 ha hA F go 0 [] (by decide) (by decide)
      · first | exact absurd c (by omega) | exact Lj k (wy1_ (sa_ q) l D u (k - 1).toNat) s k1 (by omega) wl.1 wl.2 ha hA F go 0 [] (by decide) (by decide)
  refine hK.1 [25] 60 _ _ _ _ _ ?_
  refine t_X11_measures hN hW b0 (by constructor <;> omega) (by decide) (fun σ1 h1 f1 => ?_)
  rw [hD] at h1
  have e1 := h1 u a0.1 a0.2
  refine bc_ob_i a0 ?_
  refine bc_ob_i (by decide) ?_
  have f4 : fr_ (fun k => k = 224) σ1 (bc_wr σ1 224 0 u) := fr_wr rfl
  have H := L 1 (bc_wr σ1 224 0 u) [] (by decide) (by omega) (fun j hj => by
    have j0 : j = 0 := by omega
    subst j0
    simp [bc_wr, wy1_]) (fun j j0 j1 => by rw [f4.1 223 (by decide)]; exact h1 j j0 j1) (fr_trans (fr_mono f1 (fun k hk => .inl hk)) (fr_mono f4 (fun k hk => .inr hk)))
  rw [← e1] at H
  exact H
end REF
