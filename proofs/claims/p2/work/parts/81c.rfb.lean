/-! the reference: what repairs afford (the scratch stays in its bounds) -/
theorem bd_wr {s : bc_M} {i v : Int} (h : ∀ j : Int, 0 ≤ j → j < 8 → 0 ≤ s.1 223 j ∧ s.1 223 j ≤ 99999) (hv : 0 ≤ v ∧ v ≤ 99999) : ∀ j : Int, 0 ≤ j → j < 8 → 0 ≤ (bc_wr s 223 i v).1 223 j ∧ (bc_wr s 223 i v).1 223 j ≤ 99999 := by
  intro j j0 j1
  simp only [bc_wr, if_true]
  split
  · exact hv
  · exact h j j0 j1
theorem ho_3 (a b c : Int) : 0 ≤ ho_ a b c 1 ∧ ho_ a b c 1 ≤ 3 := by
  unfold ho_
  (repeat' split) <;> omega
theorem cole_ {q : rw_t} (hW : wf_M q) {m : Int} (m0 : 0 ≤ m) (m1 : m < 16) : 0 ≤ co_ q m ∧ co_ q m ≤ 90 := by
  obtain ⟨g0, g1, g2, g3, g4, g5⟩ := hW.2 m m0 m1
  unfold co_
  have := mul_le (a := (q (18 + 6 * m) + 9) / 10) (A := 10) (b := q (19 + 6 * m)) (B := 9) (by omega) (by omega) (by omega) (by omega)
  omega
section REF
variable {g : bc_C} {d : Nat} {σ : bc_M} {q b : rw_t} {h : List rw_t} {Rr : Option bc_A → bc_M → Prop} {X : Nat → bc_M → Prop} {B : Int}
theorem t_X11_costFor {u v l : Int} (hN : nw_ σ 219 q) (hW : wf_M q) (a0 : 0 ≤ u ∧ u < 8) (b0 : 0 ≤ v ∧ v < 8) (hl : 0 ≤ l ∧ l ≤ 99) (f : ∀ σ' x, (0 ≤ x ∧ x ≤ 99999) → fr_ (fun k => k = 223) σ σ' → Rr (some (bc_I x)) σ') : bc_Sem g (d + 6) mX11_costFor [bc_R 218, bc_I u, bc_I v, bc_I l] σ Rr X := by
  have w3 := hW.1
  refine e_X11_costFor rfl (fun K hK => ?_)
  have Lm : ∀ (i : Int), (∀ (s : bc_M) (z : bc_LV), (∀ j : Int, 0 ≤ j → j < 8 → 0 ≤ s.1 223 j ∧ s.1 223 j ≤ 99999) → fr_ (fun k => k = 223) σ s → K 16 ([(0, bc_R 218), (1, bc_I u), (2, bc_I v), (3, bc_I l), (4, bc_I (i + 1))] ++ z) [] s 0) → ∀ m : Int, ∀ (s : bc_M) (z : bc_LV), 0 ≤ m → m ≤ q 3 → (∀ j : Int, 0 ≤ j → j < 8 → 0 ≤ s.1 223 j ∧ s.1 223 j ≤ 99999) → fr_ (fun k => k = 223) σ s → K 26 ([(0, bc_R 218), (1, bc_I u), (2, bc_I v), (3, bc_I l), (4, bc_I i), (5, bc_I m)] ++ z) [] s 0 := by
    intro i go
    refine up_ind (q 3) (fun m hm s z m0 m1 ha Fr => ?_) (fun m hm ih s z m0 m1 ha Fr => ?_)
    · have em : m = q 3 := by omega
      subst em
      have e3 := (nw_fr hN Fr (by decide)) 3 (by decide) (by decide)
      refine hK.2 _ _ [(0, bc_R 218), (1, bc_I u), (2, bc_I v), (3, bc_I l), (4, bc_I i), (5, bc_I (q 3))] _ _ _ (ls_ _ _) ?_
      refine hK.1 [16, 26] 60 _ _ _ _ _ ?_
      refine bc_ob_i (by first | omega | decide | (constructor <;> omega) | (constructor <;> constructor <;> omega)) ?_
      refine bc_ob_i (by first | omega | decide | (constructor <;> omega) | (constructor <;> constructor <;> omega)) ?_
      refine bc_br_i (fun c => absurd c (by omega)) (fun _ => ?_)
      exact go s [(5, bc_I (q 3))] ha Fr
    · have hNs := nw_fr hN Fr (by decide)
      have e3 := hNs 3 (by decide) (by decide)
      obtain ⟨g0, g1, g2, g3, g4, g5⟩ := hW.2 m m0 (by omega)
      have hb := br_le hW m0 (by omega : m < 16)
      have hc := cole_ hW m0 (by omega : m < 16)
      have T95 : ∀ (c y : Int), (0 ≤ c ∧ c ≤ 99999) → K 95 [(0, bc_R 218), (1, bc_I u), (2, bc_I v), (3, bc_I l), (4, bc_I i), (5, bc_I m), (6, bc_I y)] [bc_I c] s 0 := by
        intro c y lc
        have a1 := ha (q (16 + 6 * m)) g0.1 (by omega)
        have a2 := ha (q (17 + 6 * m)) g1.1 (by omega)
        have A1 := bd_wr (i := q (17 + 6 * m)) (v := min (s.1 223 (q (17 + 6 * m))) (s.1 223 (q (16 + 6 * m)) + c)) ha (by omega)
        have f1 : fr_ (fun k => k = 223) s (bc_wr s 223 (q (17 + 6 * m)) (min (s.1 223 (q (17 + 6 * m))) (s.1 223 (q (16 + 6 * m)) + c))) := fr_wr rfl
        have b1 := A1 (q (16 + 6 * m)) g0.1 (by omega)
        have b2 := A1 (q (17 + 6 * m)) g1.1 (by omega)
        have A2 := bd_wr (i := q (16 + 6 * m)) (v := min ((bc_wr s 223 (q (17 + 6 * m)) (min (s.1 223 (q (17 + 6 * m))) (s.1 223 (q (16 + 6 * m)) + c))).1 223 (q (16 + 6 * m))) ((bc_wr s 223 (q (17 + 6 * m)) (min (s.1 223 (q (17 + 6 * m))) (s.1 223 (q (16 + 6 * m)) + c))).1 223 (q (17 + 6 * m)) + c)) A1 (by omega)
        refine hK.1 [16, 26] 120 _ _ _ _ _ ?_
        refine t_X11_ofM 16 hNs hW m0 hm (by decide) rfl ?_
        refine t_X11_ofM 17 hNs hW m0 hm (by decide) rfl ?_
        refine bc_ob_i (by omega) ?_
        refine bc_ob_i (by omega) ?_
        refine bc_ob_i ⟨by constructor <;> omega, by constructor <;> omega, Nat.le_of_ble_eq_true rfl⟩ ?_
        refine bc_ob_i (by omega) ?_
        refine bc_ob_i (by omega) ?_
        refine bc_ob_i (by omega) ?_
        refine bc_ob_i ⟨by constructor <;> omega, by constructor <;> omega, Nat.le_of_ble_eq_true rfl⟩ ?_
        refine bc_ob_i (by omega) ?_
        exact ih _ [(6, bc_I y), (7, bc_I c), (8, bc_I (q (16 + 6 * m))), (9, bc_I (q (17 + 6 * m)))] (by omega) (by omega) A2 (fr_trans Fr (fr_trans f1 (fr_wr rfl)))
      have T63 : ∀ (y : Int), (0 ≤ y ∧ y ≤ 1) → K 63 [(0, bc_R 218), (1, bc_I u), (2, bc_I v), (3, bc_I l), (4, bc_I i), (5, bc_I m)] [bc_I y] s 0 := by
        intro y ly
        refine hK.1 [95] 60 _ _ _ _ _ ?_
        refine bc_ob_i (by first | omega | decide | (constructor <;> omega) | (constructor <;> constructor <;> omega)) ?_
        refine bc_br_i (fun c => ?_) (fun c => ?_)
        rotate_left
        · refine t_X11_bears hNs hW m0 hm ?_
          refine bc_ob_i (by first | omega | decide | (constructor <;> omega) | (constructor <;> constructor <;> omega)) ?_
          refine bc_br_i (fun c => ?_) (fun c => ?_)
          · refine t_X11_costOf hNs hW m0 hm ?_
            exact T95 _ y (by omega)
          · exact T95 0 y (by decide)
        · exact T95 99999 y (by decide)
      refine hK.2 _ _ [(0, bc_R 218), (1, bc_I u), (2, bc_I v), (3, bc_I l), (4, bc_I i), (5, bc_I m)] _ _ _ (ls_ _ _) ?_
      refine hK.1 [16, 26, 63] 60 _ _ _ _ _ ?_
      refine bc_ob_i (by first | omega | decide | (constructor <;> omega) | (constructor <;> constructor <;> omega)) ?_
      refine bc_ob_i (by first | omega | decide | (constructor <;> omega) | (constructor <;> constructor <;> omega)) ?_
      refine bc_br_i (fun _ => ?_) (fun c => absurd (by omega) c)
      refine t_X11_ofM 21 hNs hW m0 hm (by decide) rfl ?_
      refine bc_ob_i (by first | omega | decide | (constructor <;> omega) | (constructor <;> constructor <;> omega)) ?_
      refine bc_br_i (fun c => ?_) (fun c => ?_)
      rotate_left
      · exact T63 0 (by decide)
      · refine t_X11_ofM 18 hNs hW m0 hm (by decide) rfl ?_
        refine bc_ob_i (by first | omega | decide | (constructor <;> omega) | (constructor <;> constructor <;> omega)) ?_
        refine bc_br_i (fun c => ?_) (fun c => ?_)
        · exact T63 0 (by decide)
        · exact T63 1 (by decide)
  have L : ∀ i : Int, ∀ (s : bc_M) (z : bc_LV), 0 ≤ i → i ≤ 8 → (∀ j : Int, 0 ≤ j → j < 8 → 0 ≤ s.1 223 j ∧ s.1 223 j ≤ 99999) → fr_ (fun k => k = 223) σ s → K 16 ([(0, bc_R 218), (1, bc_I u), (2, bc_I v), (3, bc_I l), (4, bc_I i)] ++ z) [] s 0 := by
    refine up_ind 8 (fun i hi s z i0 i1 ha F => ?_) (fun i hi ih s z i0 i1 ha F => ?_)
    · have ei : i = 8 := by omega
      subst ei
      refine hK.2 _ _ [(0, bc_R 218), (1, bc_I u), (2, bc_I v), (3, bc_I l), (4, bc_I 8)] _ _ _ (ls_ _ _) ?_
      refine hK.1 [16] 60 _ _ _ _ _ ?_
      refine bc_ob_i (by decide) ?_
      refine bc_br_i (fun c => absurd c (by decide)) (fun _ => ?_)
      refine bc_ob_i b0 ?_
      exact f s _ (ha v b0.1 b0.2) F
    · refine hK.2 _ _ [(0, bc_R 218), (1, bc_I u), (2, bc_I v), (3, bc_I l), (4, bc_I i)] _ _ _ (ls_ _ _) ?_
      refine hK.1 [16, 26] 60 _ _ _ _ _ ?_
      refine bc_ob_i (by first | omega | decide | (constructor <;> omega) | (constructor <;> constructor <;> omega)) ?_
      refine bc_br_i (fun _ => ?_) (fun c => absurd (by omega) c)
      exact Lm i (fun s' z' h1 h2 => ih s' z' (by omega) (by omega) h1 h2) 0 s [] (by decide) w3.1 ha F
  refine hK.1 [16] 60 _ _ _ _ _ ?_
  refine t_X11_fills (fun σ1 h1 f1 => ?_)
  refine bc_ob_i a0 ?_
  refine L 0 _ [] (by decide) (by decide) (bd_wr (fun j j0 j1 => ?_) (by decide)) (fr_trans f1 (fr_wr rfl))
  have := h1 j j0 j1
  omega
theorem t_X11_affords {u v : Int} (hN : nw_ σ 219 q) (hW : wf_M q) (hT : wf_T B q) (hB : B ≤ 1000000) (a0 : 0 ≤ u ∧ u < 8) (b0 : 0 ≤ v ∧ v < 8) (f : ∀ σ' x, (0 ≤ x ∧ x ≤ 99) → fr_ (fun k => k = 223) σ σ' → Rr (some (bc_I x)) σ') : bc_Sem g (d + 7) mX11_affords [bc_R 218, bc_I u, bc_I v] σ Rr X := by
  obtain ⟨T0, T1, T2, T4, T5, T6, T7, Ts, T8, T9, T10, Te, -⟩ := hT
  refine e_X11_affords rfl (fun K hK => ?_)
  have L : ∀ i : Int, ∀ (s : bc_M), 0 ≤ i → i ≤ 99 → fr_ (fun k => k = 223) σ s → K 3 [(0, bc_R 218), (1, bc_I u), (2, bc_I v), (3, bc_I (99 - i))] [] s 0 := by
    refine up_ind 99 (fun i hi s i0 i1 F => ?_) (fun i hi ih s i0 i1 F => ?_)
    · have ei : i = 99 := by omega
      subst ei
      refine hK.1 [3] 60 _ _ _ _ _ ?_
      refine bc_ob_i (by decide) ?_
      refine bc_br_i (fun c => ?_) (fun c => ?_)
      · first | exact f s _ (by decide) F | exact absurd c (by decide)
      · first | exact f s _ (by decide) F | exact absurd c (by decide)
    · have hNs := nw_fr hN F (by decide)
      have e1 := hNs 1 (by decide) (by decide)
      have fin := f s (99 - i) (by omega)
      refine hK.1 [3] 60 _ _ _ _ _ ?_
      refine bc_ob_i (by first | omega | decide | (constructor <;> omega) | (constructor <;> constructor <;> omega)) ?_
      refine bc_br_i (fun c => ?_) (fun c => ?_)
      rotate_left
      · exact absurd c (by omega)
      · refine t_X11_costFor hNs hW a0 b0 (by omega) (fun s2 x lx F2 => ?_)
        have e1 := (nw_fr hNs F2 (by decide)) 1 (by decide) (by decide)
        have ea : (99 : Int) - (i + 1) = 99 - i + -1 := by omega
        have go := ih s2 (by omega) (by omega) (fr_trans F F2)
        rw [ea] at go
        have fin := f s2 (99 - i) (by omega) (fr_trans F F2)
        refine bc_ob_i (by decide) ?_
        refine bc_ob_i (by rw [e1]; constructor <;> constructor <;> omega) ?_
        refine bc_br_i (fun c => ?_) (fun c => ?_)
        · first | exact fin | exact go
        · first | exact fin | exact go
  refine hK.1 [3] 60 _ _ _ _ _ ?_
  exact L 0 σ (by decide) (by decide) (fr_refl _)
theorem t_X11_asksAffordable {u v : Int} (hN : nw_ σ 219 q) (hW : wf_M q) (hT : wf_T B q) (hB : B ≤ 1000000) (ha : bc_in u) (hb : bc_in v) (f : ∀ t x σ', (0 ≤ t ∧ t ≤ 3) → (0 ≤ x ∧ x ≤ 99) → roc_ t σ σ' → Rr (some (bc_I x)) σ') : bc_Sem g (d + 8) mX11_asksAffordable [bc_R 218, bc_I u, bc_I v] σ Rr X := by
  refine e_X11_asksAffordable rfl (fun K hK => ?_)
  have T53 : ∀ (s : bc_M) (x3 x4 y c : Int), (0 ≤ x3 ∧ x3 ≤ 1) → (0 ≤ x4 ∧ x4 ≤ 1) → (0 ≤ y ∧ y ≤ 1) → (0 ≤ c ∧ c ≤ 99) → fr_ (fun k => k = 223) σ s → K 53 [(0, bc_R 218), (1, bc_I u), (2, bc_I v), (3, bc_I x3), (4, bc_I x4), (5, bc_I c)] [bc_I y, bc_I x4, bc_I x3, bc_R 218] s 0 := by
    intro s x3 x4 y c l3 l4 ly lc F
    have lh := ho_3 x3 x4 y
    refine hK.1 [] 60 _ _ _ _ _ ?_
    refine t_X11_holds l3 l4 ly (by decide) ?_
    have R := roc_tr F (by decide) (fun k hk => .inl hk) (roc_wr (σ := s) (v := ho_ x3 x4 y 1) rfl)
    by_cases e : ho_ x3 x4 y 1 = 0
    · rw [if_pos e]
      refine bc_ob_i (by decide) ?_
      refine bc_br_i (fun c => absurd c (by decide)) (fun _ => ?_)
      exact f _ c _ lh lc R
    · rw [if_neg e]
      refine bc_ob_i (by decide) ?_
      refine bc_br_i (fun _ => ?_) (fun c => absurd (by decide) c)
      exact f _ 0 _ lh (by decide) R
  have T37 : ∀ (s : bc_M) (x3 x4 c : Int), (0 ≤ x3 ∧ x3 ≤ 1) → (0 ≤ x4 ∧ x4 ≤ 1) → (0 ≤ c ∧ c ≤ 99) → fr_ (fun k => k = 223) σ s → K 37 [(0, bc_R 218), (1, bc_I u), (2, bc_I v), (3, bc_I x3), (4, bc_I x4)] [bc_I c] s 0 := by
    intro s x3 x4 c l3 l4 lc F
    refine hK.1 [53] 60 _ _ _ _ _ ?_
    refine bc_ob_i (by first | omega | decide | (constructor <;> omega) | (constructor <;> constructor <;> omega)) ?_
    refine bc_br_i (fun k => ?_) (fun k => ?_)
    · exact T53 s x3 x4 1 c l3 l4 (by decide) lc F
    · exact T53 s x3 x4 0 c l3 l4 (by decide) lc F
  refine hK.1 [37] 80 _ _ _ _ _ ?_
  refine t_X11_areJoints ha hb ?_
  by_cases c : (0 ≤ u ∧ u < 8) ∧ 0 ≤ v ∧ v < 8
  · rw [if_pos c]
    refine bc_ob_i (by decide) ?_
    refine bc_br_i (fun c => absurd c (by decide)) (fun _ => ?_)
    refine bc_ob_i ⟨ha, hb⟩ ?_
    refine bc_br_i (fun e => ?_) (fun e => ?_)
    · refine bc_ob_i (by decide) ?_
      refine bc_br_i (fun _ => ?_) (fun c => absurd (by decide) c)
      exact T37 σ 1 0 0 (by decide) (by decide) (by decide) (fr_refl _)
    · refine bc_ob_i (by decide) ?_
      refine bc_br_i (fun c => absurd c (by decide)) (fun _ => ?_)
      refine t_X11_affords hN hW hT hB c.1 c.2 (fun s x lx F => ?_)
      exact T37 s 1 1 x (by decide) (by decide) lx F
  · rw [if_neg c]
    refine bc_ob_i (by decide) ?_
    refine bc_br_i (fun _ => ?_) (fun c => absurd (by decide) c)
    refine bc_ob_i (by decide) ?_
    refine bc_br_i (fun _ => ?_) (fun c => absurd (by decide) c)
    exact T37 σ 0 0 0 (by decide) (by decide) (by decide) (fr_refl _)
theorem t_X11_affordableLoad {u v : Int} (hN : nw_ σ 219 q) (hW : wf_M q) (hT : wf_T B q) (hB : B ≤ 1000000) (ha : bc_in u) (hb : bc_in v) (f : ∀ t x σ', (0 ≤ t ∧ t ≤ 3) → (0 ≤ x ∧ x ≤ 99) → roc_ t σ σ' → Rr (some (bc_I x)) σ') : bc_Sem g (d + 9) mX11_affordableLoad [bc_R 218, bc_I u, bc_I v] σ Rr X := by
  refine e_X11_affordableLoad rfl (fun K hK => ?_)
  refine hK.1 [] 60 _ _ _ _ _ ?_
  exact t_X11_asksAffordable hN hW hT hB ha hb f
theorem t_X11_affordableLoadByTable {u v : Int} (hN : nw_ σ 219 q) (hW : wf_M q) (hT : wf_T B q) (hB : B ≤ 1000000) (ha : bc_in u) (hb : bc_in v) (f : ∀ t x σ', (0 ≤ t ∧ t ≤ 3) → (0 ≤ x ∧ x ≤ 99) → roc_ t σ σ' → Rr (some (bc_I x)) σ') : bc_Sem g (d + 9) mX11_affordableLoadByTable [bc_R 218, bc_I u, bc_I v] σ Rr X := by
  refine e_X11_affordableLoadByTable rfl (fun K hK => ?_)
  refine hK.1 [] 60 _ _ _ _ _ ?_
  exact t_X11_asksAffordable hN hW hT hB ha hb f
end REF
