/-! prices, the cheapest way -/
abbrev px_ (k : Nat) : Prop := k = 175
abbrev dx_ (k : Nat) : Prop := k = 184 ∨ k = 185
section REP
variable {g : bc_C} {d : Nat} {σ : bc_M} {r : rw_t} {Rr : Option bc_A → bc_M → Prop} {X : Nat → bc_M → Prop} {f : gr_t}
theorem t_X4_setPrices {l : Int} (hS : st_M σ 1 r) (hW : wf_M r) (hl : bc_in l) (h : ∀ σ' : bc_M, sv_ σ' 175 (pr_ r l) → fr_ px_ σ σ' → Rr none σ') : bc_Sem g (d + 3) mX4_setPrices [bc_R 174, bc_R 2, bc_I l] σ Rr X := by
  have w1 := hW.1
  refine e_X4_setPrices rfl (fun K hK => ?_)
  have L2 : ∀ i : Int, ∀ σ' : bc_M, 0 ≤ i → i ≤ r 3 → sv_ σ' 175 (pk_ r l i.toNat) → fr_ px_ σ σ' → K 43 [(0, bc_R 174), (1, bc_R 2), (2, bc_I l), (3, bc_I i)] [] σ' 0 := by
    refine up_ind (r 3) (fun i hi σ' h0 h1 h2 h3 => ?_) (fun i hi ih σ' h0 h1 h2 h3 => ?_)
    · obtain ⟨c1, c2⟩ := st_M1 (st_M_fr hS h3 (by omega))
      refine hK.1 [43] 60 _ _ _ _ _ ?_
      refine bc_ob_i (by omega) ?_
      refine bc_br_i (fun c => by omega) (fun c => ?_)
      have e : i = r 3 := by omega
      rw [e] at h2
      exact h σ' h2 h3
    · have hM := st_M_fr hS h3 (by omega)
      obtain ⟨c1, c2⟩ := st_M1 hM
      obtain ⟨e1, e2, e3, e4, e5, e6⟩ := c2 i h0 (by omega)
      obtain ⟨g0, g1, g2, g3, g4, g5⟩ := hW.2 i h0 (by omega)
      refine hK.1 [43] 60 _ _ _ _ _ ?_
      refine bc_ob_i (by omega) ?_
      refine bc_br_i (fun c => ?_) (fun c => by omega)
      refine bc_ob_i (by omega) ?_
      refine bc_ob_i (by omega) ?_
      refine bc_ob_i (by omega) ?_
      refine t_X4_priceOf hM hW hl h0 (by omega) ?_
      refine bc_ob_i (by omega) ?_
      refine bc_ob_i (by omega) ?_
      refine bc_ob_i (by omega) ?_
      refine bc_ob_i (by omega) ?_
      refine bc_ob_i (by omega) ?_
      refine hK.2 _ _ [(0, bc_R 174), (1, bc_R 2), (2, bc_I l), (3, bc_I (i + 1))] _ _ _ (ls_ _ _) ?_
      refine ih _ (by omega) (by omega) ?_ (fr_trans h3 (fr_trans (fr_wr rfl) (fr_wr rfl)))
      rw [pk_, fo_s h0]
      rw [e1, e2]
      have q1 := sv_wr (v := po_ r l i) g0.1 (by omega) g1.1 (by omega) h2
      have q2 := sv_wr (v := po_ r l i) g1.1 (by omega) g0.1 (by omega) q1
      have q3 := q1 _ _ g0.1 (by omega) g1.1 (by omega)
      rw [q3]
      have e : ug_ (pk_ r l i.toNat) (r (16 + 6 * i)) (r (17 + 6 * i)) (po_ r l i) (r (16 + 6 * i)) (r (17 + 6 * i)) = po_ r l i := by simp [ug_]
      rw [e]
      exact q2
  have L1 : ∀ i : Int, ∀ σ' : bc_M, 0 ≤ i → i ≤ 8 → (∀ a b : Int, 0 ≤ a → a < i → 0 ≤ b → b < 8 → σ'.1 175 (((8 : Nat) : Int) * a + b) = 1000000) → fr_ px_ σ σ' → K 2 [(0, bc_R 174), (1, bc_R 2), (2, bc_I l), (3, bc_I i)] [] σ' 0 := by
    refine up_ind 8 (fun i hi σ' h0 h1 h2 h3 => ?_) (fun i hi ih σ' h0 h1 h2 h3 => ?_)
    · refine hK.1 [2, 43] 60 _ _ _ _ _ ?_
      refine bc_ob_i (by omega) ?_
      refine bc_br_i (fun c => by omega) (fun c => ?_)
      exact L2 0 _ (by omega) (by omega) (fun a b a0 a1 b0 b1 => h2 a b a0 (by omega) b0 b1) h3
    · have L0 : ∀ j : Int, ∀ σ' : bc_M, 0 ≤ j → j ≤ 8 → (∀ a b : Int, 0 ≤ a → a < i → 0 ≤ b → b < 8 → σ'.1 175 (((8 : Nat) : Int) * a + b) = 1000000) → (∀ b : Int, 0 ≤ b → b < j → σ'.1 175 (((8 : Nat) : Int) * i + b) = 1000000) → fr_ px_ σ σ' → K 11 [(0, bc_R 174), (1, bc_R 2), (2, bc_I l), (3, bc_I i), (4, bc_I j)] [] σ' 0 := by
        refine up_ind 8 (fun j hj σ' j0 j1 j2 j3 j4 => ?_) (fun j hj jh σ' j0 j1 j2 j3 j4 => ?_)
        · refine hK.1 [2, 11] 60 _ _ _ _ _ ?_
          refine bc_ob_i (by omega) ?_
          refine bc_br_i (fun c => by omega) (fun c => ?_)
          refine hK.2 _ _ [(0, bc_R 174), (1, bc_R 2), (2, bc_I l), (3, bc_I (i + 1))] _ _ _ (ls_ _ _) ?_
          refine ih _ (by omega) (by omega) (fun a b a0 a1 b0 b1 => ?_) j4
          by_cases e : a = i
          · rw [e]; exact j3 b b0 (by omega)
          · exact j2 a b a0 (by omega) b0 b1
        · refine hK.1 [2, 11] 60 _ _ _ _ _ ?_
          refine bc_ob_i (by omega) ?_
          refine bc_br_i (fun c => ?_) (fun c => by omega)
          refine bc_ob_i (by omega) ?_
          refine bc_ob_i (by omega) ?_
          refine jh _ (by omega) (by omega) (fun a b a0 a1 b0 b1 => ?_) (fun b b0 b1 => ?_) (fr_trans j4 (fr_wr rfl))
          · have := j2 a b a0 a1 b0 b1
            simp only [bc_wr, if_true]
            split
            · rfl
            · exact this
          · simp only [bc_wr, if_true]
            by_cases e : b = j
            · rw [e]; simp
            · rw [if_neg (by omega)]
              exact j3 b b0 (by omega)
      refine hK.1 [2, 11] 60 _ _ _ _ _ ?_
      refine bc_ob_i (by omega) ?_
      refine bc_br_i (fun c => ?_) (fun c => by omega)
      exact L0 0 _ (by omega) (by omega) h2 (fun b b0 b1 => by omega) h3
  refine hK.1 [2] 40 _ _ _ _ _ ?_
  exact L1 0 _ (by omega) (by omega) (fun a b a0 a1 b0 b1 => by omega) (fr_refl _)
theorem t_X4_cheapestUnsettled {s : dj_t} (hw : ar_ σ 184 s.1) (hq : ar_ σ 185 s.2) (lw : lm_ s.1 1000000) (lq : lm_ s.2 1) (h : Rr (some (bc_I (un_ s))) σ) : bc_Sem g (d + 1) mX4_cheapestUnsettled [bc_R 174] σ Rr X := by
  refine e_X4_cheapestUnsettled rfl (fun K hK => ?_)
  have L : ∀ i : Int, ∀ x t : Int, 0 ≤ i → i ≤ 8 → x = (up2_ s i.toNat).1 → t = (up2_ s i.toNat).2 → K 7 [(0, bc_R 174), (1, bc_I x), (2, bc_I t), (3, bc_I i)] [] σ 0 := by
    refine up_ind 8 (fun i hi x t h0 h1 h2 h3 => ?_) (fun i hi ih x t h0 h1 h2 h3 => ?_)
    · refine hK.1 [7] 60 _ _ _ _ _ ?_
      refine bc_ob_i (by omega) ?_
      refine bc_br_i (fun c => by omega) (fun c => ?_)
      have e : i = 8 := by omega
      refine rt_ h ?_
      rw [h2, e]
      rfl
    · have e1 := hw i h0 hi
      have e2 := hq i h0 hi
      have l1 := lw i h0 hi
      have l2 := lq i h0 hi
      have l3 := up2_le lw i.toNat (by omega)
      have es : up2_ s (i + 1).toNat = uq_ s (up2_ s i.toNat) i := fo_s h0
      have nxt : ∀ s' t', (s', t') = uq_ s (up2_ s i.toNat) i → K 7 [(0, bc_R 174), (1, bc_I s'), (2, bc_I t'), (3, bc_I (i + 1))] [] σ 0 := fun s' t' e => ih s' t' (by omega) (by omega) (by rw [es, ← e]) (by rw [es, ← e])
      unfold uq_ at nxt
      rw [← h2, ← h3] at l3
      refine hK.1 [7] 60 _ _ _ _ _ ?_
      repeat' first | refine bc_br_i (fun _ => ?_) (fun _ => ?_) | refine bc_ob_i (by omega) ?_
      all_goals first | (exfalso; omega) | (refine nxt _ _ ?_; rw [if_pos (by omega), e1]; done) | (refine nxt _ _ ?_; rw [if_neg (by omega), h2, h3])
  refine hK.1 [7] 40 _ _ _ _ _ ?_
  exact L 0 (-1) 1000000 (by omega) (by omega) rfl rfl
theorem t_X4_cheapestWay {a b : Int} (hf : sv_ σ 175 f) (lf : gl_ f 1000000) (a0 : 0 ≤ a) (a1 : a < 8) (b0 : 0 ≤ b) (b1 : b < 8) (h : ∀ σ' : bc_M, fr_ dx_ σ σ' → Rr (some (bc_I (dc_ f a b))) σ') : bc_Sem g (d + 2) mX4_cheapestWay [bc_R 174, bc_I a, bc_I b] σ Rr X := by
  refine e_X4_cheapestWay rfl (fun K hK => ?_)
  have L : ∀ i : Int, ∀ σ' : bc_M, 0 ≤ i → i ≤ 8 → ar_ σ' 184 (dk_ f a i.toNat).1 → ar_ σ' 185 (dk_ f a i.toNat).2 → fr_ dx_ σ σ' → K 40 [(0, bc_R 174), (1, bc_I a), (2, bc_I b), (3, bc_I i)] [] σ' 0 := by
    refine up_ind 8 (fun i hi σ' h0 h1 h2 h3 h4 => ?_) (fun i hi ih σ' h0 h1 h2 h3 h4 => ?_)
    · refine hK.1 [40] 60 _ _ _ _ _ ?_
      refine bc_ob_i (by omega) ?_
      refine bc_br_i (fun c => by omega) (fun c => ?_)
      refine bc_ob_i (by omega) ?_
      have e : i = 8 := by omega
      refine rt_ (h σ' h4) ?_
      rw [h2 b b0 b1, e]
      rfl
    · obtain ⟨l1, l2⟩ := dk_le (a := a) lf i.toNat
      have hl := (up2_le (s := dk_ f a i.toNat) l1 8 (by decide)).1
      have es : dk_ f a (i + 1).toNat = dg_ f (dk_ f a i.toNat) := fo_s (by omega)
      refine hK.1 [40, 76] 60 _ _ _ _ _ ?_
      refine bc_ob_i (by omega) ?_
      refine bc_br_i (fun c => ?_) (fun c => by omega)
      refine t_X4_cheapestUnsettled h2 h3 l1 l2 ?_
      rw [show (up2_ (dk_ f a i.toNat) 8).1 = un_ (dk_ f a i.toNat) from rfl] at hl
      generalize hz : un_ (dk_ f a i.toNat) = z at hl
      refine bc_ob_i (by omega) ?_
      refine bc_br_i (fun c => ?_) (fun c => ?_)
      · refine bc_ob_i (by omega) ?_
        refine rt_ (h σ' h4) ?_
        rw [h2 b b0 b1]
        exact dc_stop (by omega) (by rw [hz, c])
      · refine bc_ob_i (by omega) ?_
        refine bc_ob_i (by decide) ?_
        unfold dg_ at es
        rw [hz, if_neg c] at es
        generalize hw : (dk_ f a i.toNat).1 = w at *
        generalize hq : (dk_ f a i.toNat).2 = q at *
        have z0 : 0 ≤ z ∧ z < 8 := by omega
        have lzz := l1 z z0.1 z0.2
        have lfzz := lf z z z0.1 z0.2 z0.1 z0.2
        have L0 : ∀ j : Int, ∀ σ'' : bc_M, 0 ≤ j → j ≤ 8 → ar_ σ'' 184 (fun k => if k < j then min (w k) (w z + f z k) else w k) → ar_ σ'' 185 (up_ q z 1) → fr_ dx_ σ σ'' → K 76 [(0, bc_R 174), (1, bc_I a), (2, bc_I b), (3, bc_I i), (4, bc_I z), (5, bc_I j)] [] σ'' 0 := by
          refine up_ind 8 (fun j hj σ'' j0 j1 j2 j3 j4 => ?_) (fun j hj jh σ'' j0 j1 j2 j3 j4 => ?_)
          · refine hK.1 [40, 76] 60 _ _ _ _ _ ?_
            refine bc_ob_i (by omega) ?_
            refine bc_br_i (fun c => by omega) (fun c => ?_)
            refine hK.2 _ _ [(0, bc_R 174), (1, bc_I a), (2, bc_I b), (3, bc_I (i + 1))] _ _ _ (ls_ _ _) ?_
            refine ih _ (by omega) (by omega) ?_ ?_ j4
            · rw [es]
              intro k k0 k1
              rw [j2 k k0 k1]
              simp only
              rw [if_pos (by omega)]
            · rw [es]
              exact j3
          · have lj := l1 j j0 hj
            have lfz := lf z j z0.1 z0.2 j0 hj
            have e1 := j2 j j0 hj
            have e2 := j2 z z0.1 z0.2
            have e3 := sv_fr hf j4 (by decide) z j z0.1 z0.2 j0 hj
            simp only at e1 e2
            rw [if_neg (by omega)] at e1
            have e2 : σ''.1 184 z = w z := by
              rw [e2]
              split
              · omega
              · rfl
            have hy : bc_in (σ''.1 184 z + σ''.1 175 (((8 : Nat) : Int) * z + j)) := by constructor <;> omega
            refine hK.1 [40, 76] 60 _ _ _ _ _ ?_
            refine bc_ob_i (by omega) ?_
            refine bc_br_i (fun c => ?_) (fun c => by omega)
            refine bc_ob_i (by omega) ?_
            refine bc_ob_i (by omega) ?_
            refine bc_ob_i (by omega) ?_
            refine bc_ob_i (by omega) ?_
            refine bc_ob_i ⟨by omega, hy, Nat.le_of_ble_eq_true rfl⟩ ?_
            refine bc_ob_i (by omega) ?_
            refine jh _ (by omega) (by omega) (fun k k0 k1 => ?_) ?_ (fr_trans j4 (fr_wr (.inl rfl)))
            · simp only [bc_wr, if_true]
              by_cases ek : k = j
              · rw [if_pos ek, if_pos (by omega), ek, e1, e2, e3]
              · rw [if_neg ek, j2 k k0 k1]
                simp only
                by_cases kj : k < j
                · rw [if_pos kj, if_pos (by omega)]
                · rw [if_neg kj, if_neg (by omega)]
            · exact ar_fr j3 (fr_wr (P := fun k => k = 184) rfl) (by decide)
        refine L0 0 _ (by omega) (by omega) (fun k k0 k1 => ?_) (ar_wr h3) (fr_trans h4 (fr_wr (.inr rfl)))
        have := ar_fr h2 (fr_wr (P := fun k => k = 185) (k := 185) (j := z) (v := 1) rfl) (by decide) k k0 k1
        rw [this]
        simp only
        rw [if_neg (by omega)]
  have L1 : ∀ i : Int, ∀ σ' : bc_M, 0 ≤ i → i ≤ 8 → (∀ k : Int, 0 ≤ k → k < i → σ'.1 184 k = if k = a then 0 else 1000000) → (∀ k : Int, 0 ≤ k → k < i → σ'.1 185 k = 0) → fr_ dx_ σ σ' → K 2 [(0, bc_R 174), (1, bc_I a), (2, bc_I b), (3, bc_I i)] [] σ' 0 := by
    refine up_ind 8 (fun i hi σ' h0 h1 h2 h3 h4 => ?_) (fun i hi ih σ' h0 h1 h2 h3 h4 => ?_)
    · refine hK.1 [2, 40] 60 _ _ _ _ _ ?_
      refine bc_ob_i (by omega) ?_
      refine bc_br_i (fun c => by omega) (fun c => ?_)
      exact L 0 _ (by omega) (by omega) (fun k k0 k1 => h2 k k0 (by omega)) (fun k k0 k1 => h3 k k0 (by omega)) h4
    · have nxt : ∀ v : Int, v = (if i = a then 0 else 1000000) → K 2 [(0, bc_R 174), (1, bc_I a), (2, bc_I b), (3, bc_I (i + 1))] [] (bc_wr (bc_wr σ' 184 i v) 185 i 0) 0 := fun v hv => by
        refine ih _ (by omega) (by omega) (fun k k0 k1 => ?_) (fun k k0 k1 => ?_) (fr_trans h4 (fr_trans (fr_wr (.inl rfl)) (fr_wr (.inr rfl))))
        · by_cases e : k = i
          · simp only [bc_wr]
            simp
            rw [if_pos e, e]
            exact hv
          · have := h2 k k0 (by omega)
            simp only [bc_wr]
            simp
            rw [if_neg e]
            exact this
        · simp only [bc_wr]
          simp
          exact fun e => h3 k k0 (by omega)
      refine hK.1 [2, 40] 60 _ _ _ _ _ ?_
      repeat' first | refine bc_br_i (fun _ => ?_) (fun _ => ?_) | refine bc_ob_i (by omega) ?_
      all_goals first | (exfalso; omega) | (refine nxt _ ?_; rw [if_pos (by omega)]; done) | (refine nxt _ ?_; rw [if_neg (by omega)])
  refine hK.1 [2] 40 _ _ _ _ _ ?_
  exact L1 0 _ (by omega) (by omega) (fun k k0 k1 => by omega) (fun k k0 k1 => by omega) (fr_refl _)
end REP
