/-! the best way; the bits of the links -/
def lb_ (f : gr_t) (i : Int) (b : Int64) (j : Int) : Int64 := if 0 < f i j then b ||| ((1 : Int64) <<< ((Int32.ofInt (8 * i + j)).toInt64 &&& 63)) else b
def lr_ (f : gr_t) (b : Int64) (i : Int) (k : Nat) : Int64 := fo_ (fun j b => lb_ f i b j) b k
def lf_ (f : gr_t) (k : Nat) : Int64 := fo_ (fun i b => lr_ f b i 8) 0 k
section WAY
variable {g : bc_C} {d : Nat} {σ : bc_M} {r : rw_t} {Rr : Option bc_A → bc_M → Prop} {X : Nat → bc_M → Prop} {f : gr_t}
abbrev wx_ (k : Nat) : Prop := k = 157 ∨ (167 ≤ k ∧ k ≤ 170)
/-- what stands after a search: J, n are what stood before -/
def fz_ (f : gr_t) (a b : Int) (J : Int → Int) : jl_t := if wb_ f a b = 0 then (J, 0) else fw_ f a b J
theorem t_X9_findBest {a b : Int} {J : Int → Int} (hf : sv_ σ 158 f) (lf : gl_ f 99) (hJ : ar_ σ 170 J) (lJ : lm_ J 7) (a0 : 0 ≤ a) (a1 : a < 8) (b0 : 0 ≤ b) (b1 : b < 8) (h : ∀ σ' : bc_M, fr_ wx_ σ σ' → ar_ σ' 170 (fz_ f a b J).1 → σ'.1 157 ((5 : Nat) : Int) = (fz_ f a b J).2 → Rr (some (bc_I (wb_ f a b))) σ') : bc_Sem g (d + 3) mX9_findBest [bc_R 157, bc_I a, bc_I b] σ Rr X := by
  refine e_X9_findBest rfl (fun K hK => ?_)
  refine hK.1 [34] 60 _ _ _ _ _ ?_
  refine t_X9_widestByGrowing (sv_fr hf (fr_wr (P := fun k => k = 157) rfl) (by decide)) lf a0 a1 b0 b1 (fun σ1 f1 => ?_)
  have hl := wb_le lf a0 a1 b0 b1
  have F1 : fr_ wx_ σ σ1 := fr_trans (fr_wr (.inl rfl)) (fr_mono f1 (by omega))
  have z1 : σ1.1 157 ((5 : Nat) : Int) = 0 := by
    rw [f1.1 157 (by decide)]
    simp [bc_wr]
  have J1 : ar_ σ1 170 J := ar_fr (ar_fr hJ (fr_wr (P := fun k => k = 157) rfl) (by decide)) f1 (by decide)
  have S1 : sv_ σ1 158 f := sv_fr hf F1 (by decide)
  refine bc_ob_i (by omega) ?_
  refine bc_br_i (fun c => ?_) (fun c => ?_)
  · have e : fz_ f a b J = (J, 0) := if_pos c
    exact rt_ (h σ1 F1 (by rw [e]; exact J1) (by rw [e]; exact z1)) c.symm
  · have e : fz_ f a b J = fw_ f a b J := if_neg c
    rw [e] at h
    unfold fw_ at h
    generalize hw : wb_ f a b = l at *
    refine t_X9_measureFrom S1 lf (by constructor <;> omega) (by constructor <;> omega) (fun σ2 d2 f2 => ?_)
    refine bc_ob_i (by decide) ?_
    have J2 : ar_ (bc_wr σ2 170 0 a) 170 (up_ J 0 a) := ar_wr (ar_fr J1 f2 (by decide))
    have F2 : fr_ wx_ σ (bc_wr σ2 170 0 a) := fr_trans F1 (fr_trans (fr_mono f2 (by omega)) (fr_wr (by omega)))
    have z2 : (bc_wr σ2 170 0 a).1 157 ((5 : Nat) : Int) = 0 := by
      simp [bc_wr]
      rw [f2.1 157 (by decide)]
      exact z1
    have D2 : ar_ (bc_wr σ2 170 0 a) 169 (md_ f l b) := ar_fr d2 (fr_wr (P := fun k => k = 170) rfl) (by decide)
    have ldd : lm_ (md_ f l b) 8 := mc_le 7
    generalize hdd : md_ f l b = dd at *
    have L : ∀ i : Int, ∀ σ' : bc_M, 1 ≤ i → i ≤ 8 → ar_ σ' 170 (jw_ f l a b dd J (i - 1).toNat).1 → σ'.1 157 ((5 : Nat) : Int) = (jw_ f l a b dd J (i - 1).toNat).2 → (jw_ f l a b dd J (i - 1).toNat).2 = i - 1 → ar_ σ' 169 dd → fr_ wx_ σ σ' → K 34 [(0, bc_R 157), (1, bc_I a), (2, bc_I b), (3, bc_I l), (4, bc_I i)] [] σ' 0 := by
      refine up_ind 8 (fun i hi σ' h0 h1 h2 h3 h4 h5 h6 => ?_) (fun i hi ih σ' h0 h1 h2 h3 h4 h5 h6 => ?_)
      · refine hK.1 [34] 60 _ _ _ _ _ ?_
        refine bc_ob_i (by omega) ?_
        refine bc_br_i (fun c => by omega) (fun _ => ?_)
        have e : i = 8 := by omega
        rw [e] at h2 h3
        exact h σ' h6 h2 h3
      · have lw := (jw_le (f := f) (l := l) (b := b) (dd := dd) lJ a0 a1 (i - 1).toNat (by omega)).1
        have es : jw_ f l a b dd J (i + 1 - 1).toNat = js_ f l b dd (i - 1 + 1) (jw_ f l a b dd J (i - 1).toNat) := by
          rw [show i + 1 - 1 = (i - 1) + 1 by omega]
          exact fo_s (by omega)
        rw [show i - 1 + 1 = i by omega] at es
        have l1 := lw (i - 1) (by omega) (by omega)
        have e1 := h2 (i - 1) (by omega) (by omega)
        refine hK.1 [34] 60 _ _ _ _ _ ?_
        refine bc_ob_i (by omega) ?_
        refine bc_br_i (fun c => ?_) (fun c => by omega)
        refine bc_ob_i (by omega) ?_
        refine bc_ob_i (by omega) ?_
        refine bc_br_i (fun c => ?_) (fun c => ?_)
        · have hstop := jw_stop (f := f) (l := l) (a := a) (b := b) (dd := dd) (J := J) (k := (i - 1).toNat) (by omega) (.inr (by rw [Int.toNat_of_nonneg (by omega)]; omega)) (by omega)
          refine h σ' h6 ?_ ?_
          · rw [hstop]; exact h2
          · rw [hstop]; exact h3
        · have ej : jw_ f l a b dd J (i + 1 - 1).toNat = (up_ (jw_ f l a b dd J (i - 1).toNat).1 i (ln_ f l dd ((jw_ f l a b dd J (i - 1).toNat).1 (i - 1))), i) := by
            rw [es]
            exact if_pos ⟨h4, by omega⟩
          refine bc_ob_i (by omega) ?_
          have hs := ln_le (f := f) (l := l) (dd := dd) (a := σ'.1 170 (i - 1)) (by omega) (by omega)
          refine t_X9_lowestNearer (sv_fr hf h6 (by decide)) lf h5 ldd (by omega) (by omega) (by constructor <;> omega) ?_
          refine bc_ob_i (by omega) ?_
          refine ih _ (by omega) (by omega) ?_ ?_ ?_ ?_ (fr_trans h6 (fr_trans (fr_wr (by omega)) (fr_wr (by omega))))
          · rw [ej]
            refine ar_fr ?_ (fr_wr (P := fun k => k = 157) rfl) (by decide)
            rw [e1]
            exact ar_wr h2
          · rw [ej]
            simp [bc_wr]
          · rw [ej]
            simp only
            omega
          · exact ar_fr h5 (fr_trans (fr_wr (P := fun k => k = 157 ∨ k = 170) (by omega)) (fr_wr (by omega))) (by decide)
    exact L 1 _ (by omega) (by omega) J2 z2 rfl D2 F2
theorem t_X9_linkBits (hf : sv_ σ 158 f) (lf : gl_ f 99) (h : Rr (some (bc_J (lf_ f 8))) σ) : bc_Sem g (d + 1) mX9_linkBits [bc_R 157] σ Rr X := by
  refine e_X9_linkBits rfl (fun K hK => ?_)
  have L : ∀ i : Int, ∀ x : Int64, 0 ≤ i → i ≤ 8 → x = lf_ f i.toNat → K 4 [(0, bc_R 157), (1, bc_J x), (3, bc_I i)] [] σ 0 := by
    refine up_ind 8 (fun i hi x h0 h1 h2 => ?_) (fun i hi ih x h0 h1 h2 => ?_)
    · refine hK.1 [4] 60 _ _ _ _ _ ?_
      refine bc_ob_i (by omega) ?_
      refine bc_br_i (fun c => by omega) (fun c => ?_)
      have e : i = 8 := by omega
      rw [h2, e]
      exact h
    · have es : lf_ f (i + 1).toNat = lr_ f (lf_ f i.toNat) i 8 := fo_s h0
      have L0 : ∀ j : Int, ∀ x : Int64, 0 ≤ j → j ≤ 8 → x = lr_ f (lf_ f i.toNat) i j.toNat → K 13 [(0, bc_R 157), (1, bc_J x), (3, bc_I i), (4, bc_I j)] [] σ 0 := by
        refine up_ind 8 (fun j hj x j0 j1 j2 => ?_) (fun j hj jh x j0 j1 j2 => ?_)
        · refine hK.1 [4, 13] 60 _ _ _ _ _ ?_
          refine bc_ob_i (by omega) ?_
          refine bc_br_i (fun c => by omega) (fun c => ?_)
          refine hK.2 _ _ [(0, bc_R 157), (1, bc_J x), (3, bc_I (i + 1))] _ _ _ (ls_ _ _) ?_
          have e : j = 8 := by omega
          exact ih x (by omega) (by omega) (by rw [es, j2, e]; rfl)
        · have ej : lr_ f (lf_ f i.toNat) i (j + 1).toNat = lb_ f i (lr_ f (lf_ f i.toNat) i j.toNat) j := fo_s j0
          have e1 := hf i j h0 hi j0 hj
          have l1 := lf i j h0 hi j0 hj
          have hy : bc_in (σ.1 158 (((8 : Nat) : Int) * i + j)) := by constructor <;> omega
          have nxt : ∀ y, y = lb_ f i x j → K 13 [(0, bc_R 157), (1, bc_J y), (3, bc_I i), (4, bc_I (j + 1))] [] σ 0 := fun y e => jh y (by omega) (by omega) (by rw [ej, e, j2])
          unfold lb_ at nxt
          refine hK.1 [4, 13] 60 _ _ _ _ _ ?_
          refine bc_ob_i (by omega) ?_
          refine bc_br_i (fun c => ?_) (fun c => by omega)
          refine bc_ob_i (by omega) ?_
          refine bc_ob_i (by omega) ?_
          refine bc_ob_i hy ?_
          refine bc_br_i (fun c => ?_) (fun c => ?_)
          · have c' : 0 < σ.1 158 (((8 : Nat) : Int) * i + j) := c
            refine nxt _ ?_
            rw [if_pos (by omega)]
            rfl
          · have c' : ¬ 0 < σ.1 158 (((8 : Nat) : Int) * i + j) := c
            exact nxt _ (by rw [if_neg (by omega)])
      refine hK.1 [4, 13] 60 _ _ _ _ _ ?_
      refine bc_ob_i (by omega) ?_
      refine bc_br_i (fun c => ?_) (fun c => by omega)
      exact L0 0 x (by omega) (by omega) h2
  refine hK.1 [4] 40 _ _ _ _ _ ?_
  exact L 0 _ (by omega) (by omega) rfl
end WAY
