/-! the reference: how far, mirrored -/
def xm1_ (q : rw_t) (l w m : Int) (f : Int → Int) : Int → Int := if m ≠ w ∧ l ≤ br_ q m then up_ (up_ f (q (17 + 6 * m)) (min (f (q (17 + 6 * m))) (f (q (16 + 6 * m)) + 1))) (q (16 + 6 * m)) (min ((up_ f (q (17 + 6 * m)) (min (f (q (17 + 6 * m))) (f (q (16 + 6 * m)) + 1))) (q (16 + 6 * m))) ((up_ f (q (17 + 6 * m)) (min (f (q (17 + 6 * m))) (f (q (16 + 6 * m)) + 1))) (q (17 + 6 * m)) + 1)) else f
def xm2_ (q : rw_t) (l w : Int) (f : Int → Int) (k : Nat) : Int → Int := fo_ (fun m f => xm1_ q l w m f) f k
def xm0_ (a : Int) : Int → Int := fun j => if j = a then 0 else 99999
def xm_ (q : rw_t) (l w a : Int) (k : Nat) : Int → Int := fo_ (fun _ f => xm2_ q l w f (q 3).toNat) (xm0_ a) k
theorem xm1_lm {q : rw_t} (hW : wf_M q) {l w m : Int} (m0 : 0 ≤ m) (m1 : m < 16) {f : Int → Int} (h : lm_ f 99999) : lm_ (xm1_ q l w m f) 99999 := by
  obtain ⟨g0, g1, -⟩ := hW.2 m m0 m1
  have a1 := h (q (16 + 6 * m)) g0.1 (by omega)
  have a2 := h (q (17 + 6 * m)) g1.1 (by omega)
  have l1 : lm_ (up_ f (q (17 + 6 * m)) (min (f (q (17 + 6 * m))) (f (q (16 + 6 * m)) + 1))) 99999 := lm_up h (by omega)
  have b1 := l1 (q (16 + 6 * m)) g0.1 (by omega)
  have b2 := l1 (q (17 + 6 * m)) g1.1 (by omega)
  unfold xm1_
  split
  · exact lm_up l1 (by omega)
  · exact h
theorem xm2_lm {q : rw_t} (hW : wf_M q) {l w : Int} {f : Int → Int} (h : lm_ f 99999) (k : Nat) (hk : (k : Int) ≤ q 3) : lm_ (xm2_ q l w f k) 99999 := by
  have w := hW.1
  exact fo_inv (n := k) (P := fun x => lm_ x 99999) h (fun i x i0 i1 hx => xm1_lm hW i0 (by omega) hx) k (Nat.le_refl k)
theorem xm0_lm (a : Int) : lm_ (xm0_ a) 99999 := fun j _ _ => by
  unfold xm0_
  split <;> decide
theorem xm_lm {q : rw_t} (hW : wf_M q) (l w a : Int) (k : Nat) : lm_ (xm_ q l w a k) 99999 := by
  have w := hW.1
  exact fo_inv (n := k) (P := fun x => lm_ x 99999) (xm0_lm a) (fun i x i0 i1 hx => xm2_lm hW hx _ (by omega)) k (Nat.le_refl k)
section REF
variable {g : bc_C} {d : Nat} {σ : bc_M} {q b : rw_t} {h : List rw_t} {Rr : Option bc_A → bc_M → Prop} {X : Nat → bc_M → Prop} {B : Int}
theorem t_X11_measures {u l w : Int} (hN : nw_ σ 219 q) (hW : wf_M q) (a0 : 0 ≤ u ∧ u < 8) (hl : bc_in l) (hw : bc_in w) (f : ∀ σ', ar_ σ' 223 (xm_ q l w u 8) → fr_ (fun k => k = 223) σ σ' → Rr none σ') : bc_Sem g (d + 6) mX11_measures [bc_R 218, bc_I u, bc_I l, bc_I w] σ Rr X := by
  have w3 := hW.1
  obtain ⟨hl0, hl1⟩ := hl
  obtain ⟨hw0, hw1⟩ := hw
  refine e_X11_measures rfl (fun K hK => ?_)
  have Lm : ∀ (i : Int) (F : Int → Int), lm_ F 99999 → (∀ (s : bc_M) (z : bc_LV), ar_ s 223 (xm2_ q l w F (q 3).toNat) → fr_ (fun k => k = 223) σ s → K 16 ([(0, bc_R 218), (1, bc_I u), (2, bc_I l), (3, bc_I w), (4, bc_I (i + 1))] ++ z) [] s 0) → ∀ m : Int, ∀ (s : bc_M) (z : bc_LV), 0 ≤ m → m ≤ q 3 → ar_ s 223 (xm2_ q l w F m.toNat) → fr_ (fun k => k = 223) σ s → K 26 ([(0, bc_R 218), (1, bc_I u), (2, bc_I l), (3, bc_I w), (4, bc_I i), (5, bc_I m)] ++ z) [] s 0 := by
    intro i F hF go
    refine up_ind (q 3) (fun m hm s z m0 m1 ha Fr => ?_) (fun m hm ih s z m0 m1 ha Fr => ?_)
    · have em : m = q 3 := by omega
      subst em
      have e3 := (nw_fr hN Fr (by decide)) 3 (by decide) (by decide)
      refine hK.2 _ _ [(0, bc_R 218), (1, bc_I u), (2, bc_I l), (3, bc_I w), (4, bc_I i), (5, bc_I (q 3))] _ _ _ (ls_ _ _) ?_
      refine hK.1 [16, 26] 60 _ _ _ _ _ ?_
      refine bc_ob_i (by decide) ?_
      refine bc_ob_i (by omega) ?_
      refine bc_br_i (fun c => absurd c (by omega)) (fun _ => ?_)
      exact go s [(5, bc_I (q 3))] ha Fr
    · have hNs := nw_fr hN Fr (by decide)
      have e3 := hNs 3 (by decide) (by decide)
      obtain ⟨g0, g1, -⟩ := hW.2 m m0 (by omega)
      have hb := br_le hW m0 (by omega : m < 16)
      have hl := xm2_lm (l := l) (w := w) hW hF m.toNat (by omega)
      have es : xm2_ q l w F (m + 1).toNat = xm1_ q l w m (xm2_ q l w F m.toNat) := fo_s m0
      rw [es] at ih
      generalize xm2_ q l w F m.toNat = G at ha hl ih
      refine hK.2 _ _ [(0, bc_R 218), (1, bc_I u), (2, bc_I l), (3, bc_I w), (4, bc_I i), (5, bc_I m)] _ _ _ (ls_ _ _) ?_
      refine hK.1 [16, 26] 120 _ _ _ _ _ ?_
      refine bc_ob_i (by decide) ?_
      refine bc_ob_i (by omega) ?_
      refine bc_br_i (fun _ => ?_) (fun c => absurd c (by omega))
      refine bc_ob_i (by constructor <;> constructor <;> omega) ?_
      refine bc_br_i (fun c => ?_) (fun c => ?_)
      · refine ih s [] (by omega) (by omega) ?_ Fr
        unfold xm1_
        rw [if_neg (by omega)]
        exact ha
      · refine t_X11_bears hNs hW m0 hm ?_
        refine bc_ob_i (by constructor <;> constructor <;> omega) ?_
        refine bc_br_i (fun c2 => ?_) (fun c2 => ?_)
        · refine ih s [] (by omega) (by omega) ?_ Fr
          unfold xm1_
          rw [if_neg (by omega)]
          exact ha
        · have a1 := hl (q (16 + 6 * m)) g0.1 (by omega)
          have a2 := hl (q (17 + 6 * m)) g1.1 (by omega)
          have x1 := ha (q (16 + 6 * m)) g0.1 (by omega)
          have x2 := ha (q (17 + 6 * m)) g1.1 (by omega)
          have A1 : ar_ (bc_wr s 223 (q (17 + 6 * m)) (min (s.1 223 (q (17 + 6 * m))) (s.1 223 (q (16 + 6 * m)) + 1))) 223 (up_ G (q (17 + 6 * m)) (min (G (q (17 + 6 * m))) (G (q (16 + 6 * m)) + 1))) := ar_w2 ha (by rw [x1, x2])
          have l1 : lm_ (up_ G (q (17 + 6 * m)) (min (G (q (17 + 6 * m))) (G (q (16 + 6 * m)) + 1))) 99999 := lm_up hl (by omega)
          have b1 := l1 (q (16 + 6 * m)) g0.1 (by omega)
          have b2 := l1 (q (17 + 6 * m)) g1.1 (by omega)
          have y1 := A1 (q (16 + 6 * m)) g0.1 (by omega)
          have y2 := A1 (q (17 + 6 * m)) g1.1 (by omega)
          have f1 : fr_ (fun k => k = 223) s (bc_wr s 223 (q (17 + 6 * m)) (min (s.1 223 (q (17 + 6 * m))) (s.1 223 (q (16 + 6 * m)) + 1))) := fr_wr rfl
          have hN1 := nw_fr hNs f1 (by decide)
          refine t_X11_ofM 17 hNs hW m0 hm (by decide) rfl ?_
          refine t_X11_ofM 17 hNs hW m0 hm (by decide) rfl ?_
          refine bc_ob_i (by omega) ?_
          refine t_X11_ofM 16 hNs hW m0 hm (by decide) rfl ?_
          refine bc_ob_i (by omega) ?_
          refine bc_ob_i ⟨by rw [x2]; constructor <;> omega, by rw [x1]; constructor <;> omega, Nat.le_of_ble_eq_true rfl⟩ ?_
          refine bc_ob_i (by omega) ?_
          refine t_X11_ofM 16 hN1 hW m0 hm (by decide) rfl ?_
          refine t_X11_ofM 16 hN1 hW m0 hm (by decide) rfl ?_
          refine bc_ob_i (by omega) ?_
          refine t_X11_ofM 17 hN1 hW m0 hm (by decide) rfl ?_
          refine bc_ob_i (by omega) ?_
          refine bc_ob_i ⟨by rw [y1]; constructor <;> omega, by rw [y2]; constructor <;> omega, Nat.le_of_ble_eq_true rfl⟩ ?_
          refine bc_ob_i (by omega) ?_
          refine ih _ [] (by omega) (by omega) ?_ (fr_trans Fr (fr_trans f1 (fr_wr rfl)))
          unfold xm1_
          rw [if_pos ⟨by omega, by omega⟩]
          exact ar_w2 A1 (by rw [y1, y2])
  have L : ∀ i : Int, ∀ (s : bc_M) (z : bc_LV), 0 ≤ i → i ≤ 8 → ar_ s 223 (xm_ q l w u i.toNat) → fr_ (fun k => k = 223) σ s → K 16 ([(0, bc_R 218), (1, bc_I u), (2, bc_I l), (3, bc_I w), (4, bc_I i)] ++ z) [] s 0 := by
    refine up_ind 8 (fun i hi s z i0 i1 ha F => ?_) (fun i hi ih s z i0 i1 ha F => ?_)
    · have ei : i = 8 := by omega
      subst ei
      refine hK.2 _ _ [(0, bc_R 218), (1, bc_I u), (2, bc_I l), (3, bc_I w), (4, bc_I 8)] _ _ _ (ls_ _ _) ?_
      refine hK.1 [16] 60 _ _ _ _ _ ?_
      refine bc_ob_i (by decide) ?_
      refine bc_br_i (fun c => absurd c (by decide)) (fun _ => ?_)
      exact f s ha F
    · refine hK.2 _ _ [(0, bc_R 218), (1, bc_I u), (2, bc_I l), (3, bc_I w), (4, bc_I i)] _ _ _ (ls_ _ _) ?_
      refine hK.1 [16, 26] 60 _ _ _ _ _ ?_
      refine bc_ob_i (by omega) ?_
      refine bc_br_i (fun _ => ?_) (fun c => absurd hi c)
      refine Lm i (xm_ q l w u i.toNat) (xm_lm hW l w u _) (fun s' z' h1 h2 => ih s' z' (by omega) (by omega) ?_ h2) 0 s [] (by decide) w3.1 ha F
      have e : xm_ q l w u (i + 1).toNat = xm2_ q l w (xm_ q l w u i.toNat) (q 3).toNat := fo_s i0
      rw [e]
      exact h1
  refine hK.1 [16] 60 _ _ _ _ _ ?_
  refine t_X11_fills (fun σ1 h1 f1 => ?_)
  refine bc_ob_i a0 ?_
  refine L 0 _ [] (by decide) (by decide) (fun j j0 j1 => ?_) (fr_trans f1 (fr_wr rfl))
  show (bc_wr σ1 223 u 0).1 223 j = xm0_ u j
  simp only [bc_wr, if_true]
  unfold xm0_
  split
  · rfl
  · exact h1 j j0 j1
end REF
