/-! the reference: the widest way, the fewest members, mirrored -/
def xw1_ (q : rw_t) (m : Int) (f : Int → Int) : Int → Int := up_ (up_ f (q (17 + 6 * m)) (max (f (q (17 + 6 * m))) (min (f (q (16 + 6 * m))) (br_ q m)))) (q (16 + 6 * m)) (max ((up_ f (q (17 + 6 * m)) (max (f (q (17 + 6 * m))) (min (f (q (16 + 6 * m))) (br_ q m)))) (q (16 + 6 * m))) (min ((up_ f (q (17 + 6 * m)) (max (f (q (17 + 6 * m))) (min (f (q (16 + 6 * m))) (br_ q m)))) (q (17 + 6 * m))) (br_ q m)))
def xw2_ (q : rw_t) (f : Int → Int) (k : Nat) : Int → Int := fo_ (fun m f => xw1_ q m f) f k
def xw0_ (a : Int) : Int → Int := fun j => if j = a then 99999 else 0
def xw_ (q : rw_t) (a : Int) (k : Nat) : Int → Int := fo_ (fun _ f => xw2_ q f (q 3).toNat) (xw0_ a) k
theorem ar_w2 {σ : bc_M} {c : Nat} {f : Int → Int} {i v w : Int} (h : ar_ σ c f) (e : v = w) : ar_ (bc_wr σ c i v) c (up_ f i w) := fun j j0 j1 => by
  subst e
  simp only [bc_wr, if_true, up_]
  split
  · rfl
  · exact h j j0 j1
theorem lmu_ {f : Int → Int} {M i v : Int} (h : lm_ f M) (hv : 0 ≤ v ∧ v ≤ M) : lm_ (up_ f i v) M := fun j j0 j1 => by
  unfold up_
  split
  · exact hv
  · exact h j j0 j1
theorem bre_ {q : rw_t} (hW : wf_M q) {m : Int} (m0 : 0 ≤ m) (m1 : m < 16) : 0 ≤ br_ q m ∧ br_ q m ≤ 99 := by
  obtain ⟨g0, g1, g2, g3, g4, g5⟩ := hW.2 m m0 m1
  have hp := mul_le g2.1 g2.2 (b := 10 - q (19 + 6 * m)) (B := 10) (by omega) (by omega)
  unfold br_
  split
  · constructor <;> omega
  · decide
theorem xw1_lm {q : rw_t} (hW : wf_M q) {m : Int} (m0 : 0 ≤ m) (m1 : m < 16) {f : Int → Int} (h : lm_ f 99999) : lm_ (xw1_ q m f) 99999 := by
  obtain ⟨g0, g1, -⟩ := hW.2 m m0 m1
  have hb := bre_ hW m0 m1
  have a1 := h (q (16 + 6 * m)) g0.1 (by omega)
  have a2 := h (q (17 + 6 * m)) g1.1 (by omega)
  have l1 : lm_ (up_ f (q (17 + 6 * m)) (max (f (q (17 + 6 * m))) (min (f (q (16 + 6 * m))) (br_ q m)))) 99999 := lmu_ h (by omega)
  have b1 := l1 (q (16 + 6 * m)) g0.1 (by omega)
  have b2 := l1 (q (17 + 6 * m)) g1.1 (by omega)
  unfold xw1_
  exact lmu_ l1 (by omega)
theorem xw2_lm {q : rw_t} (hW : wf_M q) {f : Int → Int} (h : lm_ f 99999) (k : Nat) (hk : (k : Int) ≤ q 3) : lm_ (xw2_ q f k) 99999 := by
  have w := hW.1
  exact fo_inv (n := k) (P := fun x => lm_ x 99999) h (fun i x i0 i1 hx => xw1_lm hW i0 (by omega) hx) k (Nat.le_refl k)
theorem xw0_lm (a : Int) : lm_ (xw0_ a) 99999 := fun j _ _ => by
  unfold xw0_
  split <;> decide
theorem xw_lm {q : rw_t} (hW : wf_M q) (a : Int) (k : Nat) : lm_ (xw_ q a k) 99999 := by
  have w := hW.1
  exact fo_inv (n := k) (P := fun x => lm_ x 99999) (xw0_lm a) (fun i x i0 i1 hx => xw2_lm hW hx _ (by omega)) k (Nat.le_refl k)
section REF
variable {g : bc_C} {d : Nat} {σ : bc_M} {q b : rw_t} {h : List rw_t} {Rr : Option bc_A → bc_M → Prop} {X : Nat → bc_M → Prop} {B : Int}
theorem t_X11_widest {u v : Int} (hN : nw_ σ 219 q) (hW : wf_M q) (a0 : 0 ≤ u ∧ u < 8) (b0 : 0 ≤ v ∧ v < 8) (f : ∀ σ', fr_ (fun k => k = 223) σ σ' → Rr (some (bc_I (xw_ q u 8 v))) σ') : bc_Sem g (d + 6) mX11_widest [bc_R 218, bc_I u, bc_I v] σ Rr X := by
  have w3 := hW.1
  refine e_X11_widest rfl (fun K hK => ?_)
  have Lm : ∀ (i : Int) (F : Int → Int), lm_ F 99999 → (∀ (s : bc_M) (z : bc_LV), ar_ s 223 (xw2_ q F (q 3).toNat) → fr_ (fun k => k = 223) σ s → K 15 ([(0, bc_R 218), (1, bc_I u), (2, bc_I v), (3, bc_I (i + 1))] ++ z) [] s 0) → ∀ m : Int, ∀ (s : bc_M) (z : bc_LV), 0 ≤ m → m ≤ q 3 → ar_ s 223 (xw2_ q F m.toNat) → fr_ (fun k => k = 223) σ s → K 24 ([(0, bc_R 218), (1, bc_I u), (2, bc_I v), (3, bc_I i), (4, bc_I m)] ++ z) [] s 0 := by
    intro i F hF go
    refine up_ind (q 3) (fun m hm s z m0 m1 ha Fr => ?_) (fun m hm ih s z m0 m1 ha Fr => ?_)
    · have em : m = q 3 := by omega
      subst em
      have e3 := (nw_fr hN Fr (by decide)) 3 (by decide) (by decide)
      refine hK.2 _ _ [(0, bc_R 218), (1, bc_I u), (2, bc_I v), (3, bc_I i), (4, bc_I (q 3))] _ _ _ (ls_ _ _) ?_
      refine hK.1 [15, 24] 60 _ _ _ _ _ ?_
      refine bc_ob_i (by decide) ?_
      refine bc_ob_i (by omega) ?_
      refine bc_br_i (fun c => absurd c (by omega)) (fun _ => ?_)
      exact go s [(4, bc_I (q 3))] ha Fr
    · have hNs := nw_fr hN Fr (by decide)
      have e3 := hNs 3 (by decide) (by decide)
      obtain ⟨g0, g1, -⟩ := hW.2 m m0 (by omega)
      have hb := bre_ hW m0 (by omega : m < 16)
      have hl := xw2_lm hW hF m.toNat (by omega)
      have es : xw2_ q F (m + 1).toNat = xw1_ q m (xw2_ q F m.toNat) := fo_s m0
      rw [es] at ih
      generalize xw2_ q F m.toNat = G at ha hl ih
      have a1 := hl (q (16 + 6 * m)) g0.1 (by omega)
      have a2 := hl (q (17 + 6 * m)) g1.1 (by omega)
      have x1 := ha (q (16 + 6 * m)) g0.1 (by omega)
      have x2 := ha (q (17 + 6 * m)) g1.1 (by omega)
      have A1 : ar_ (bc_wr s 223 (q (17 + 6 * m)) (max (s.1 223 (q (17 + 6 * m))) (min (s.1 223 (q (16 + 6 * m))) (br_ q m)))) 223 (up_ G (q (17 + 6 * m)) (max (G (q (17 + 6 * m))) (min (G (q (16 + 6 * m))) (br_ q m)))) := ar_w2 ha (by rw [x1, x2])
      have l1 : lm_ (up_ G (q (17 + 6 * m)) (max (G (q (17 + 6 * m))) (min (G (q (16 + 6 * m))) (br_ q m)))) 99999 := lmu_ hl (by omega)
      have b1 := l1 (q (16 + 6 * m)) g0.1 (by omega)
      have b2 := l1 (q (17 + 6 * m)) g1.1 (by omega)
      have y1 := A1 (q (16 + 6 * m)) g0.1 (by omega)
      have y2 := A1 (q (17 + 6 * m)) g1.1 (by omega)
      have f1 : fr_ (fun k => k = 223) s (bc_wr s 223 (q (17 + 6 * m)) (max (s.1 223 (q (17 + 6 * m))) (min (s.1 223 (q (16 + 6 * m))) (br_ q m)))) := fr_wr rfl
      refine hK.2 _ _ [(0, bc_R 218), (1, bc_I u), (2, bc_I v), (3, bc_I i), (4, bc_I m)] _ _ _ (ls_ _ _) ?_
      refine hK.1 [15, 24] 100 _ _ _ _ _ ?_
      refine bc_ob_i (by decide) ?_
      refine bc_ob_i (by omega) ?_
      refine bc_br_i (fun _ => ?_) (fun c => absurd c (by omega))
      refine t_X11_ofM 16 hNs hW m0 hm (by decide) rfl ?_
      refine t_X11_ofM 17 hNs hW m0 hm (by decide) rfl ?_
      refine bc_ob_i (by omega) ?_
      refine bc_ob_i (by omega) ?_
      refine t_X11_bears hNs hW m0 hm ?_
      refine bc_ob_i ⟨by rw [x1]; constructor <;> omega, by constructor <;> omega, Nat.le_of_ble_eq_true rfl⟩ ?_
      refine bc_ob_i ⟨by rw [x2]; constructor <;> omega, by rw [x1]; constructor <;> omega, Nat.le_of_ble_eq_true rfl⟩ ?_
      refine bc_ob_i (by omega) ?_
      refine bc_ob_i (by omega) ?_
      refine bc_ob_i (by omega) ?_
      refine t_X11_bears (nw_fr hNs f1 (by decide)) hW m0 hm ?_
      refine bc_ob_i ⟨by rw [y2]; constructor <;> omega, by constructor <;> omega, Nat.le_of_ble_eq_true rfl⟩ ?_
      refine bc_ob_i ⟨by rw [y1]; constructor <;> omega, by rw [y2]; constructor <;> omega, Nat.le_of_ble_eq_true rfl⟩ ?_
      refine bc_ob_i (by omega) ?_
      exact ih _ [(5, bc_I (q (16 + 6 * m))), (6, bc_I (q (17 + 6 * m)))] (by omega) (by omega) (ar_w2 A1 (by rw [y1, y2])) (fr_trans Fr (fr_trans f1 (fr_wr rfl)))
  have L : ∀ i : Int, ∀ (s : bc_M) (z : bc_LV), 0 ≤ i → i ≤ 8 → ar_ s 223 (xw_ q u i.toNat) → fr_ (fun k => k = 223) σ s → K 15 ([(0, bc_R 218), (1, bc_I u), (2, bc_I v), (3, bc_I i)] ++ z) [] s 0 := by
    refine up_ind 8 (fun i hi s z i0 i1 ha F => ?_) (fun i hi ih s z i0 i1 ha F => ?_)
    · have ei : i = 8 := by omega
      subst ei
      refine hK.2 _ _ [(0, bc_R 218), (1, bc_I u), (2, bc_I v), (3, bc_I 8)] _ _ _ (ls_ _ _) ?_
      refine hK.1 [15] 60 _ _ _ _ _ ?_
      refine bc_ob_i (by decide) ?_
      refine bc_br_i (fun c => absurd c (by decide)) (fun _ => ?_)
      refine bc_ob_i b0 ?_
      exact rt_ (f s F) (ha v b0.1 b0.2)
    · refine hK.2 _ _ [(0, bc_R 218), (1, bc_I u), (2, bc_I v), (3, bc_I i)] _ _ _ (ls_ _ _) ?_
      refine hK.1 [15, 24] 60 _ _ _ _ _ ?_
      refine bc_ob_i (by omega) ?_
      refine bc_br_i (fun _ => ?_) (fun c => absurd hi c)
      refine Lm i (xw_ q u i.toNat) (xw_lm hW u _) (fun s' z' h1 h2 => ih s' z' (by omega) (by omega) ?_ h2) 0 s [] (by decide) w3.1 ha F
      have e : xw_ q u (i + 1).toNat = xw2_ q (xw_ q u i.toNat) (q 3).toNat := fo_s i0
      rw [e]
      exact h1
  refine hK.1 [15] 60 _ _ _ _ _ ?_
  refine t_X11_fills (fun σ1 h1 f1 => ?_)
  refine bc_ob_i a0 ?_
  refine L 0 _ [] (by decide) (by decide) (fun j j0 j1 => ?_) (fr_trans f1 (fr_wr rfl))
  show (bc_wr σ1 223 u 99999).1 223 j = xw0_ u j
  simp only [bc_wr, if_true]
  unfold xw0_
  split
  · rfl
  · exact h1 j j0 j1
end REF
