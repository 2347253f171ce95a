/-! the widest way by growing -/
def wo_ (w q : Int → Int) (p : Int × Int) (j : Int) : Int × Int := if q j = 0 ∧ p.2 < w j then (j, w j) else p
def wp_ (w q : Int → Int) (k : Nat) : Int × Int := fo_ (fun j p => wo_ w q p j) (-1, 0) k
def wn_ (w q : Int → Int) : Int := (wp_ w q 8).1
abbrev wq_t := (Int → Int) × (Int → Int)
def wg_ (f : gr_t) (s : wq_t) : wq_t := if wn_ s.1 s.2 = -1 then s else (fun j => max (s.1 j) (min (s.1 (wn_ s.1 s.2)) (f (wn_ s.1 s.2) j)), up_ s.2 (wn_ s.1 s.2) 1)
def wi_ (f : gr_t) (a : Int) : wq_t := (f a, fun j => if j = a then 1 else 0)
def wk_ (f : gr_t) (a : Int) (k : Nat) : wq_t := fo_ (fun _ s => wg_ f s) (wi_ f a) k
def wb_ (f : gr_t) (a b : Int) : Int := (wk_ f a 7).1 b
theorem wp_le {w q : Int → Int} (h : lm_ w 99) (k : Nat) (hk : k ≤ 8) : (-1 ≤ (wp_ w q k).1 ∧ (wp_ w q k).1 < 8) ∧ 0 ≤ (wp_ w q k).2 ∧ (wp_ w q k).2 ≤ 99 := by
  unfold wp_
  refine fo_inv (n := 8) (P := fun p : Int × Int => (-1 ≤ p.1 ∧ p.1 < 8) ∧ 0 ≤ p.2 ∧ p.2 ≤ 99) (by decide) (fun i p i0 i1 hp => ?_) k hk
  have := h i i0 (by omega)
  unfold wo_
  split
  · exact ⟨⟨by simp only; omega, by simp only; omega⟩, by simp only; omega⟩
  · exact hp
theorem wg_le {f : gr_t} {s : wq_t} (hf : gl_ f 99) (h : lm_ s.1 99 ∧ lm_ s.2 1) : lm_ (wg_ f s).1 99 ∧ lm_ (wg_ f s).2 1 := by
  unfold wg_
  split
  · exact h
  · rename_i hn
    have hl := (wp_le (q := s.2) h.1 8 (by decide)).1
    refine ⟨fun j j0 j1 => ?_, lm_up h.2 (by decide)⟩
    have := h.1 j j0 j1
    unfold wn_ at *
    have h2 := hf (wp_ s.1 s.2 8).1 j (by omega) (by omega) j0 j1
    have h3 := h.1 (wp_ s.1 s.2 8).1 (by omega) (by omega)
    simp only
    omega
theorem wi_le {f : gr_t} {a : Int} (hf : gl_ f 99) (a0 : 0 ≤ a) (a1 : a < 8) : lm_ (wi_ f a).1 99 ∧ lm_ (wi_ f a).2 1 := by
  refine ⟨fun j j0 j1 => hf a j a0 a1 j0 j1, fun j j0 j1 => ?_⟩
  simp only [wi_]
  split <;> omega
theorem wk_le {f : gr_t} {a : Int} (hf : gl_ f 99) (a0 : 0 ≤ a) (a1 : a < 8) (k : Nat) : lm_ (wk_ f a k).1 99 ∧ lm_ (wk_ f a k).2 1 := by
  unfold wk_
  exact fo_inv (n := k) (P := fun s : wq_t => lm_ s.1 99 ∧ lm_ s.2 1) (wi_le hf a0 a1) (fun i s _ _ h => wg_le hf h) k (Nat.le_refl _)
theorem wb_le {f : gr_t} {a b : Int} (hf : gl_ f 99) (a0 : 0 ≤ a) (a1 : a < 8) (b0 : 0 ≤ b) (b1 : b < 8) : 0 ≤ wb_ f a b ∧ wb_ f a b ≤ 99 := (wk_le hf a0 a1 7).1 b b0 b1
theorem wb_stop {f : gr_t} {a b : Int} {k : Nat} (hk : k ≤ 7) (h : wn_ (wk_ f a k).1 (wk_ f a k).2 = -1) : (wk_ f a k).1 b = wb_ f a b := by
  unfold wb_ wk_
  rw [fo_fix (k := k) (fun i _ => ?_) 7 hk]
  show wg_ f (wk_ f a k) = wk_ f a k
  unfold wg_
  rw [if_pos h]
section WAY
variable {g : bc_C} {d : Nat} {σ : bc_M} {r : rw_t} {Rr : Option bc_A → bc_M → Prop} {X : Nat → bc_M → Prop} {f : gr_t}
theorem t_X9_widestOutside {w q : Int → Int} (hw : ar_ σ 167 w) (hq : ar_ σ 168 q) (lw : lm_ w 99) (lq : lm_ q 1) (h : Rr (some (bc_I (wn_ w q))) σ) : bc_Sem g (d + 1) mX9_widestOutside [bc_R 157] σ Rr X := by
  refine e_X9_widestOutside rfl (fun K hK => ?_)
  have L : ∀ i : Int, ∀ s t : Int, 0 ≤ i → i ≤ 8 → s = (wp_ w q i.toNat).1 → t = (wp_ w q i.toNat).2 → K 6 [(0, bc_R 157), (1, bc_I s), (2, bc_I t), (3, bc_I i)] [] σ 0 := by
    refine up_ind 8 (fun i hi s t h0 h1 h2 h3 => ?_) (fun i hi ih s t h0 h1 h2 h3 => ?_)
    · refine hK.1 [6] 60 _ _ _ _ _ ?_
      refine bc_ob_i (by omega) ?_
      refine bc_br_i (fun c => by omega) (fun c => ?_)
      have e : i = 8 := by omega
      refine rt_ h ?_
      rw [h2, e]
      rfl
    · have e1 := hw i h0 hi
      have e2 := hq i h0 hi
      have l1 := lw i h0 hi
      have l2 := lq i h0 hi
      have l3 := wp_le (q := q) lw i.toNat (by omega)
      have es : wp_ w q (i + 1).toNat = wo_ w q (wp_ w q i.toNat) i := fo_s h0
      have nxt : ∀ s' t', (s', t') = wo_ w q (wp_ w q i.toNat) i → K 6 [(0, bc_R 157), (1, bc_I s'), (2, bc_I t'), (3, bc_I (i + 1))] [] σ 0 := fun s' t' e => ih s' t' (by omega) (by omega) (by rw [es, ← e]) (by rw [es, ← e])
      unfold wo_ at nxt
      rw [← h2, ← h3] at l3
      refine hK.1 [6] 60 _ _ _ _ _ ?_
      repeat' first | refine bc_br_i (fun _ => ?_) (fun _ => ?_) | refine bc_ob_i (by omega) ?_
      all_goals first | (exfalso; omega) | (refine nxt _ _ ?_; rw [if_pos (by omega), e1]; done) | (refine nxt _ _ ?_; rw [if_neg (by omega), h2, h3])
  refine hK.1 [6] 40 _ _ _ _ _ ?_
  exact L 0 (-1) 0 (by omega) (by omega) rfl rfl
abbrev wy_ (k : Nat) : Prop := k = 167 ∨ k = 168
theorem t_X9_widestByGrowing {a b : Int} (hf : sv_ σ 158 f) (lf : gl_ f 99) (a0 : 0 ≤ a) (a1 : a < 8) (b0 : 0 ≤ b) (b1 : b < 8) (h : ∀ σ' : bc_M, fr_ wy_ σ σ' → Rr (some (bc_I (wb_ f a b))) σ') : bc_Sem g (d + 2) mX9_widestByGrowing [bc_R 157, bc_I a, bc_I b] σ Rr X := by
  refine e_X9_widestByGrowing rfl (fun K hK => ?_)
  have L : ∀ i : Int, ∀ σ' : bc_M, 1 ≤ i → i ≤ 8 → ar_ σ' 167 (wk_ f a (i - 1).toNat).1 → ar_ σ' 168 (wk_ f a (i - 1).toNat).2 → fr_ wy_ σ σ' → K 46 [(0, bc_R 157), (1, bc_I a), (2, bc_I b), (3, bc_I i)] [] σ' 0 := by
    refine up_ind 8 (fun i hi σ' h0 h1 h2 h3 h4 => ?_) (fun i hi ih σ' h0 h1 h2 h3 h4 => ?_)
    · refine hK.1 [46] 60 _ _ _ _ _ ?_
      refine bc_ob_i (by omega) ?_
      refine bc_br_i (fun c => by omega) (fun c => ?_)
      refine bc_ob_i (by omega) ?_
      have e : i = 8 := by omega
      refine rt_ (h σ' h4) ?_
      rw [h2 b b0 b1, e]
      rfl
    · obtain ⟨l1, l2⟩ := wk_le (a := a) lf a0 a1 (i - 1).toNat
      have hl := (wp_le (q := (wk_ f a (i - 1).toNat).2) l1 8 (by decide)).1
      have es : wk_ f a (i + 1 - 1).toNat = wg_ f (wk_ f a (i - 1).toNat) := by
        have e : i + 1 - 1 = (i - 1) + 1 := by omega
        rw [e]
        exact fo_s (by omega)
      refine hK.1 [46, 82] 60 _ _ _ _ _ ?_
      refine bc_ob_i (by omega) ?_
      refine bc_br_i (fun c => ?_) (fun c => by omega)
      refine t_X9_widestOutside h2 h3 l1 l2 ?_
      rw [show (wp_ (wk_ f a (i - 1).toNat).1 (wk_ f a (i - 1).toNat).2 8).1 = wn_ (wk_ f a (i - 1).toNat).1 (wk_ f a (i - 1).toNat).2 from rfl] at hl
      generalize hz : wn_ (wk_ f a (i - 1).toNat).1 (wk_ f a (i - 1).toNat).2 = z at hl
      refine bc_ob_i (by omega) ?_
      refine bc_br_i (fun c => ?_) (fun c => ?_)
      · refine bc_ob_i (by omega) ?_
        refine rt_ (h σ' h4) ?_
        rw [h2 b b0 b1]
        exact wb_stop (by omega) (by rw [hz, c])
      · refine bc_ob_i (by omega) ?_
        refine bc_ob_i (by decide) ?_
        unfold wg_ at es
        rw [hz, if_neg c] at es
        generalize hw : (wk_ f a (i - 1).toNat).1 = w at *
        generalize hq : (wk_ f a (i - 1).toNat).2 = q at *
        have z0 : 0 ≤ z ∧ z < 8 := by omega
        have L0 : ∀ j : Int, ∀ σ'' : bc_M, 0 ≤ j → j ≤ 8 → ar_ σ'' 167 (fun k => if k < j then max (w k) (min (w z) (f z k)) else w k) → ar_ σ'' 168 (up_ q z 1) → fr_ wy_ σ σ'' → K 82 [(0, bc_R 157), (1, bc_I a), (2, bc_I b), (3, bc_I i), (4, bc_I z), (5, bc_I j)] [] σ'' 0 := by
          refine up_ind 8 (fun j hj σ'' j0 j1 j2 j3 j4 => ?_) (fun j hj jh σ'' j0 j1 j2 j3 j4 => ?_)
          · refine hK.1 [46, 82] 60 _ _ _ _ _ ?_
            refine bc_ob_i (by omega) ?_
            refine bc_br_i (fun c => by omega) (fun c => ?_)
            refine hK.2 _ _ [(0, bc_R 157), (1, bc_I a), (2, bc_I b), (3, bc_I (i + 1))] _ _ _ (ls_ _ _) ?_
            refine ih _ (by omega) (by omega) ?_ ?_ j4
            · rw [es]
              intro k k0 k1
              rw [j2 k k0 k1]
              simp only
              rw [if_pos (by omega)]
            · rw [es]
              exact j3
          · have lj := l1 j j0 hj
            have lz := l1 z z0.1 z0.2
            have lfz := lf z j z0.1 z0.2 j0 hj
            have e1 := j2 j j0 hj
            have e2 := j2 z z0.1 z0.2
            have e3 := sv_fr hf j4 (by decide) z j z0.1 z0.2 j0 hj
            simp only at e1 e2
            rw [if_neg (by omega)] at e1
            have e2 : σ''.1 167 z = w z := by
              rw [e2]
              split
              · omega
              · rfl
            have hy : bc_in (σ''.1 158 (((8 : Nat) : Int) * z + j)) := by constructor <;> omega
            have hm : bc_in (min (σ''.1 167 z) (σ''.1 158 (((8 : Nat) : Int) * z + j))) := by constructor <;> omega
            refine hK.1 [46, 82] 60 _ _ _ _ _ ?_
            refine bc_ob_i (by omega) ?_
            refine bc_br_i (fun c => ?_) (fun c => by omega)
            refine bc_ob_i (by omega) ?_
            refine bc_ob_i (by omega) ?_
            refine bc_ob_i (by omega) ?_
            refine bc_ob_i (by omega) ?_
            refine bc_ob_i ⟨by omega, hy, Nat.le_of_ble_eq_true rfl⟩ ?_
            refine bc_ob_i ⟨by omega, hm, Nat.le_of_ble_eq_true rfl⟩ ?_
            refine bc_ob_i (by omega) ?_
            refine jh _ (by omega) (by omega) (fun k k0 k1 => ?_) ?_ (fr_trans j4 (fr_wr (.inl rfl)))
            · simp only [bc_wr, if_true]
              by_cases ek : k = j
              · rw [if_pos ek, if_pos (by omega), ek, e1, e2, e3]
              · rw [if_neg ek, j2 k k0 k1]
                simp only
                by_cases kj : k < j
                · rw [if_pos kj, if_pos (by omega)]
                · rw [if_neg kj, if_neg (by omega)]
            · exact ar_fr j3 (fr_wr (P := fun k => k = 167) rfl) (by decide)
        refine L0 0 _ (by omega) (by omega) (fun k k0 k1 => ?_) (ar_wr h3) (fr_trans h4 (fr_wr (.inr rfl)))
        have := ar_fr h2 (fr_wr (P := fun k => k = 168) (k := 168) (j := z) (v := 1) rfl) (by decide) k k0 k1
        rw [this]
        simp only
        rw [if_neg (by omega)]
  have L1 : ∀ i : Int, ∀ σ' : bc_M, 0 ≤ i → i ≤ 8 → (∀ k : Int, 0 ≤ k → k < i → σ'.1 167 k = f a k) → (∀ k : Int, 0 ≤ k → k < i → σ'.1 168 k = if k = a then 1 else 0) → fr_ wy_ σ σ' → K 2 [(0, bc_R 157), (1, bc_I a), (2, bc_I b), (3, bc_I i)] [] σ' 0 := by
    refine up_ind 8 (fun i hi σ' h0 h1 h2 h3 h4 => ?_) (fun i hi ih σ' h0 h1 h2 h3 h4 => ?_)
    · refine hK.1 [2, 46] 60 _ _ _ _ _ ?_
      refine bc_ob_i (by omega) ?_
      refine bc_br_i (fun c => by omega) (fun c => ?_)
      exact L 1 _ (by omega) (by omega) (fun k k0 k1 => h2 k k0 (by omega)) (fun k k0 k1 => h3 k k0 (by omega)) h4
    · have e1 := sv_fr hf h4 (by decide) a i a0 a1 h0 hi
      have nxt : ∀ v : Int, v = (if i = a then 1 else 0) → K 2 [(0, bc_R 157), (1, bc_I a), (2, bc_I b), (3, bc_I (i + 1))] [] (bc_wr (bc_wr σ' 167 i (σ'.1 158 (((8 : Nat) : Int) * a + i))) 168 i v) 0 := fun v hv => by
        refine ih _ (by omega) (by omega) (fun k k0 k1 => ?_) (fun k k0 k1 => ?_) (fr_trans h4 (fr_trans (fr_wr (.inl rfl)) (fr_wr (.inr rfl))))
        · by_cases e : k = i
          · simp only [bc_wr]
            simp
            rw [if_pos e, e]
            exact e1
          · have := h2 k k0 (by omega)
            simp only [bc_wr]
            simp
            rw [if_neg e]
            exact this
        · by_cases e : k = i
          · simp only [bc_wr]
            simp
            rw [if_pos e, e]
            exact hv
          · have := h3 k k0 (by omega)
            simp only [bc_wr]
            simp
            rw [if_neg e]
            exact this
      refine hK.1 [2, 46] 60 _ _ _ _ _ ?_
      repeat' first | refine bc_br_i (fun _ => ?_) (fun _ => ?_) | refine bc_ob_i (by omega) ?_
      all_goals first | (exfalso; omega) | (refine nxt _ ?_; rw [if_pos (by omega)]; done) | (refine nxt _ ?_; rw [if_neg (by omega)])
  refine hK.1 [2] 40 _ _ _ _ _ ?_
  exact L1 0 _ (by omega) (by omega) (fun k k0 k1 => by omega) (fun k k0 k1 => by omega) (fr_refl _)
end WAY
