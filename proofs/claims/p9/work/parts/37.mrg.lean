section
/-! the repair plan, mirrored -/
noncomputable def iq_ (r : rw_t) (l : Int) (k : Nat) : Int := fo_ (fun m e => if e = 1 ∨ (r (18 + 6 * m) = l ∧ r (21 + 6 * m) = 0) ∨ br_ r m = l then 1 else 0) 0 k
noncomputable def iw_ (r : rw_t) (l : Int) : Int := iq_ r l (r 3).toNat
noncomputable def po_ (r : rw_t) (l m : Int) : Int := if r (21 + 6 * m) ≠ 0 ∨ r (18 + 6 * m) < l then 1000000 else if l ≤ br_ r m then 0 else co_ r m
noncomputable def pk_ (r : rw_t) (l : Int) (k : Nat) : gr_t := fo_ (fun k f => ug_ (ug_ f (r (16 + 6 * k)) (r (17 + 6 * k)) (po_ r l k)) (r (17 + 6 * k)) (r (16 + 6 * k)) (po_ r l k)) (fun _ _ => 1000000) k
noncomputable def pr_ (r : rw_t) (l : Int) : gr_t := pk_ r l (r 3).toNat
theorem po_le {r : rw_t} (hW : wf_M r) {l m : Int} (h0 : 0 ≤ m) (h1 : m < 16) : 0 ≤ po_ r l m ∧ po_ r l m ≤ 1000000 := by
  have := co_le hW h0 h1
  unfold po_
  split
  · omega
  · split <;> omega
theorem pxk_le {r : rw_t} (hW : wf_M r) {l : Int} (k : Nat) (hk : k ≤ 16) : gl_ (pk_ r l k) 1000000 := by
  unfold pk_
  refine fo_inv (n := 16) (P := fun f => gl_ f 1000000) (fun i j _ _ _ _ => ⟨by decide, Int.le_refl _⟩) (fun i f i0 i1 h => fun a b a0 a1 b0 b1 => ?_) k hk
  have := h a b a0 a1 b0 b1
  have hb := po_le (l := l) hW i0 (by omega)
  simp only [ug_]
  repeat' split
  all_goals omega
theorem pr_le {r : rw_t} (hW : wf_M r) {l : Int} : gl_ (pr_ r l) 1000000 := pxk_le hW _ (by have := hW.1; omega)
noncomputable abbrev dj_t := (Int → Int) × (Int → Int)
noncomputable def uq_ (s : dj_t) (p : Int × Int) (j : Int) : Int × Int := if s.2 j = 0 ∧ s.1 j < p.2 then (j, s.1 j) else p
noncomputable def up2_ (s : dj_t) (k : Nat) : Int × Int := fo_ (fun j p => uq_ s p j) (-1, 1000000) k
noncomputable def un_ (s : dj_t) : Int := (up2_ s 8).1
noncomputable def dg_ (f : gr_t) (s : dj_t) : dj_t := if un_ s = -1 then s else (fun j => min (s.1 j) (s.1 (un_ s) + f (un_ s) j), up_ s.2 (un_ s) 1)
noncomputable def di_ (a : Int) : dj_t := (fun j => if j = a then 0 else 1000000, fun _ => 0)
noncomputable def dk_ (f : gr_t) (a : Int) (k : Nat) : dj_t := fo_ (fun _ s => dg_ f s) (di_ a) k
/-- the cheapest way's price -/
noncomputable def dc_ (f : gr_t) (a b : Int) : Int := (dk_ f a 8).1 b
theorem up2_le {s : dj_t} (h : lm_ s.1 1000000) (k : Nat) (hk : k ≤ 8) : (-1 ≤ (up2_ s k).1 ∧ (up2_ s k).1 < 8) ∧ 0 ≤ (up2_ s k).2 ∧ (up2_ s k).2 ≤ 1000000 := by
  unfold up2_
  refine fo_inv (n := 8) (P := fun p : Int × Int => (-1 ≤ p.1 ∧ p.1 < 8) ∧ 0 ≤ p.2 ∧ p.2 ≤ 1000000) (by decide) (fun i p i0 i1 hp => ?_) k hk
  have := h i i0 (by omega)
  unfold uq_
  split
  · exact ⟨⟨by simp only; omega, by simp only; omega⟩, by simp only; omega⟩
  · exact hp
theorem dg_le {f : gr_t} {s : dj_t} (hf : gl_ f 1000000) (h : lm_ s.1 1000000 ∧ lm_ s.2 1) : lm_ (dg_ f s).1 1000000 ∧ lm_ (dg_ f s).2 1 := by
  unfold dg_
  split
  · exact h
  · rename_i hn
    have hl := (up2_le h.1 8 (by decide)).1
    refine ⟨fun j j0 j1 => ?_, lm_up h.2 (by decide)⟩
    have := h.1 j j0 j1
    unfold un_ at *
    have h2 := hf (up2_ s 8).1 j (by omega) (by omega) j0 j1
    have h3 := h.1 (up2_ s 8).1 (by omega) (by omega)
    simp only
    omega
theorem di_le {a : Int} : lm_ (di_ a).1 1000000 ∧ lm_ (di_ a).2 1 := by
  refine ⟨fun j j0 j1 => ?_, fun j j0 j1 => by simp only [di_]; omega⟩
  simp only [di_]
  split <;> omega
theorem dk_le {f : gr_t} {a : Int} (hf : gl_ f 1000000) (k : Nat) : lm_ (dk_ f a k).1 1000000 ∧ lm_ (dk_ f a k).2 1 := by
  unfold dk_
  exact fo_inv (n := k) (P := fun s : dj_t => lm_ s.1 1000000 ∧ lm_ s.2 1) di_le (fun i s _ _ h => dg_le hf h) k (Nat.le_refl _)
theorem dc_stop {f : gr_t} {a b : Int} {k : Nat} (hk : k ≤ 8) (h : un_ (dk_ f a k) = -1) : (dk_ f a k).1 b = dc_ f a b := by
  unfold dc_ dk_
  rw [fo_fix (k := k) (fun i _ => ?_) 8 hk]
  show dg_ f (dk_ f a k) = dk_ f a k
  unfold dg_
  rw [if_pos h]
section REP
variable {g : bc_C} {d : Nat} {σ : bc_M} {r : rw_t} {Rr : Option bc_A → bc_M → Prop} {X : Nat → bc_M → Prop} {f : gr_t}
theorem t_X4_isWorthTrying {l : Int} (hS : st_M σ 1 r) (hW : wf_M r) (hl : bc_in l) (h : Rr (some (bc_I (iw_ r l))) σ) : bc_Sem g (d + 2) mX4_isWorthTrying [bc_R 174, bc_R 2, bc_I l] σ Rr X := by
  obtain ⟨q0, q1⟩ := hl
  obtain ⟨c1, c2⟩ := st_M1 hS
  have w1 := hW.1
  refine e_X4_isWorthTrying rfl (fun K hK => ?_)
  have L : ∀ i : Int, ∀ z, 0 ≤ i → i ≤ r 3 → iq_ r l i.toNat = 0 → K 2 ([(0, bc_R 174), (1, bc_R 2), (2, bc_I l), (3, bc_I i)] ++ z) [] σ 0 := by
    refine up_ind (r 3) (fun i hi z h0 h1 h2 => ?_) (fun i hi ih z h0 h1 h2 => ?_)
    · refine hK.2 _ _ [(0, bc_R 174), (1, bc_R 2), (2, bc_I l), (3, bc_I i)] _ _ _ (ls_ _ _) ?_
      refine hK.1 [2] 60 _ _ _ _ _ ?_
      refine bc_ob_i (by omega) ?_
      refine bc_br_i (fun c => by omega) (fun c => ?_)
      have e : i = r 3 := by omega
      rw [e] at h2
      refine bc_ob_i (by decide) ?_
      exact rt_ h h2.symm
    · refine hK.2 _ _ [(0, bc_R 174), (1, bc_R 2), (2, bc_I l), (3, bc_I i)] _ _ _ (ls_ _ _) ?_
      obtain ⟨e1, e2, e3, e4, e5, e6⟩ := c2 i h0 (by omega)
      obtain ⟨g0, g1, g2, g3, g4, g5⟩ := hW.2 i h0 (by omega)
      have hb := br_le hW h0 (by omega)
      have es : iq_ r l (i + 1).toNat = if iq_ r l i.toNat = 1 ∨ (r (18 + 6 * i) = l ∧ r (21 + 6 * i) = 0) ∨ br_ r i = l then 1 else 0 := fo_s h0
      have yes : ((r (18 + 6 * i) = l ∧ r (21 + 6 * i) = 0) ∨ br_ r i = l) → Rr (some (bc_I 1)) σ := fun q => by
        refine rt_ h ?_
        have e : iq_ r l (i + 1).toNat = 1 := by rw [es, if_pos (.inr q)]
        unfold iw_ iq_
        symm
        have step : ∀ n : Nat, (i + 1).toNat ≤ n → fo_ (fun m e => if e = 1 ∨ (r (18 + 6 * m) = l ∧ r (21 + 6 * m) = 0) ∨ br_ r m = l then 1 else 0) 0 n = fo_ (fun m e => if e = 1 ∨ (r (18 + 6 * m) = l ∧ r (21 + 6 * m) = 0) ∨ br_ r m = l then 1 else 0) (0 : Int) (i + 1).toNat := fun n hn => fo_fix (fun m _ => by
          have e' : fo_ (fun m e => if e = 1 ∨ (r (18 + 6 * m) = l ∧ r (21 + 6 * m) = 0) ∨ br_ r m = l then 1 else 0) (0 : Int) (i + 1).toNat = 1 := e
          rw [if_pos (.inl e'), e']) n hn
        rw [step _ (by omega)]
        exact e
      have no : ¬ ((r (18 + 6 * i) = l ∧ r (21 + 6 * i) = 0) ∨ br_ r i = l) → ∀ z, K 2 ([(0, bc_R 174), (1, bc_R 2), (2, bc_I l), (3, bc_I (i + 1))] ++ z) [] σ 0 := fun q z => ih z (by omega) (by omega) (by rw [es, if_neg (by omega)])
      refine hK.1 [2] 60 _ _ _ _ _ ?_
      refine bc_ob_i (by omega) ?_
      refine bc_br_i (fun c => ?_) (fun c => by omega)
      refine bc_ob_i (by omega) ?_
      refine bc_ob_i (by omega) ?_
      refine bc_br_i (fun c => ?_) (fun c => ?_)
      · refine bc_ob_i (by omega) ?_
        refine bc_ob_i (by omega) ?_
        refine bc_br_i (fun c => ?_) (fun c => ?_)
        · refine bc_ob_i (by decide) ?_
          refine bc_br_i (fun c => by omega) (fun c => ?_)
          refine bc_ob_i (by decide) ?_
          exact yes (.inl ⟨by omega, by omega⟩)
        · refine bc_ob_i (by decide) ?_
          refine bc_br_i (fun c => ?_) (fun c => by omega)
          refine t_X2_bearingOf hS hW h0 (by omega) ?_
          refine bc_ob_i (by omega) ?_
          refine bc_br_i (fun c => ?_) (fun c => ?_)
          · refine bc_ob_i (by decide) ?_
            exact yes (.inr c)
          · exact no (by omega) [(4, bc_I 0)]
      · refine bc_ob_i (by decide) ?_
        refine bc_br_i (fun c => ?_) (fun c => by omega)
        refine t_X2_bearingOf hS hW h0 (by omega) ?_
        refine bc_ob_i (by omega) ?_
        refine bc_br_i (fun c => ?_) (fun c => ?_)
        · refine bc_ob_i (by decide) ?_
          exact yes (.inr c)
        · exact no (by omega) [(4, bc_I 0)]
  refine hK.1 [2] 40 _ _ _ _ _ ?_
  exact L 0 [] (by omega) (by omega) rfl
theorem t_X4_priceOf {l m : Int} (hS : st_M σ 1 r) (hW : wf_M r) (hl : bc_in l) (h0 : 0 ≤ m) (h1 : m < 16) (h : Rr (some (bc_I (po_ r l m))) σ) : bc_Sem g (d + 2) mX4_priceOf [bc_R 174, bc_R 2, bc_I m, bc_I l] σ Rr X := by
  obtain ⟨q0, q1⟩ := hl
  obtain ⟨c1, c2⟩ := st_M1 hS
  obtain ⟨e1, e2, e3, e4, e5, e6⟩ := c2 m h0 h1
  obtain ⟨g0, g1, g2, g3, g4, g5⟩ := hW.2 m h0 h1
  have hb := br_le hW h0 h1
  refine e_X4_priceOf rfl (fun K hK => ?_)
  unfold po_ at h
  refine hK.1 [] 60 _ _ _ _ _ ?_
  refine bc_ob_i (by omega) ?_
  refine bc_ob_i (by omega) ?_
  refine bc_br_i (fun c => ?_) (fun c => ?_)
  · refine bc_ob_i (by omega) ?_
    refine bc_ob_i (by omega) ?_
    refine bc_br_i (fun c => ?_) (fun c => ?_)
    · exact rt_ h (by rw [if_pos (by omega)])
    · refine t_X2_bearingOf hS hW h0 h1 ?_
      refine bc_ob_i (by omega) ?_
      refine bc_br_i (fun c => ?_) (fun c => ?_)
      · refine t_X2_costOf hS hW h0 h1 ?_
        exact rt_ h (by rw [if_neg (by omega), if_neg (by omega)])
      · exact rt_ h (by rw [if_neg (by omega), if_pos (by omega)])
  · exact rt_ h (by rw [if_pos (by omega)])
end REP
end
section
/-! prices, the cheapest way -/
noncomputable abbrev px_ (k : Nat) : Prop := k = 175
noncomputable abbrev dx_ (k : Nat) : Prop := k = 184 ∨ k = 185
section REP
variable {g : bc_C} {d : Nat} {σ : bc_M} {r : rw_t} {Rr : Option bc_A → bc_M → Prop} {X : Nat → bc_M → Prop} {f : gr_t}
theorem t_X4_setPrices {l : Int} (hS : st_M σ 1 r) (hW : wf_M r) (hl : bc_in l) (h : ∀ σ' : bc_M, sv_ σ' 175 (pr_ r l) → fr_ px_ σ σ' → Rr none σ') : bc_Sem g (d + 3) mX4_setPrices [bc_R 174, bc_R 2, bc_I l] σ Rr X := by
  have w1 := hW.1
  refine e_X4_setPrices rfl (fun K hK => ?_)
  have L2 : ∀ i : Int, ∀ σ' : bc_M, 0 ≤ i → i ≤ r 3 → sv_ σ' 175 (pk_ r l i.toNat) → fr_ px_ σ σ' → K 43 [(0, bc_R 174), (1, bc_R 2), (2, bc_I l), (3, bc_I i)] [] σ' 0 := by
    refine up_ind (r 3) (fun i hi σ' h0 h1 h2 h3 => ?_) (fun i hi ih σ' h0 h1 h2 h3 => ?_)
    · obtain ⟨c1, c2⟩ := st_M1 (st_M_fr hS h3 (by omega))
      refine hK.1 [43] 60 _ _ _ _ _ ?_
      refine bc_ob_i (by omega) ?_
      refine bc_br_i (fun c => by omega) (fun c => ?_)
      have e : i = r 3 := by omega
      rw [e] at h2
      exact h σ' h2 h3
    · have hM := st_M_fr hS h3 (by omega)
      obtain ⟨c1, c2⟩ := st_M1 hM
      obtain ⟨e1, e2, e3, e4, e5, e6⟩ := c2 i h0 (by omega)
      obtain ⟨g0, g1, g2, g3, g4, g5⟩ := hW.2 i h0 (by omega)
      refine hK.1 [43] 60 _ _ _ _ _ ?_
      refine bc_ob_i (by omega) ?_
      refine bc_br_i (fun c => ?_) (fun c => by omega)
      refine bc_ob_i (by omega) ?_
      refine bc_ob_i (by omega) ?_
      refine bc_ob_i (by omega) ?_
      refine t_X4_priceOf hM hW hl h0 (by omega) ?_
      refine bc_ob_i (by omega) ?_
      refine bc_ob_i (by omega) ?_
      refine bc_ob_i (by omega) ?_
      refine bc_ob_i (by omega) ?_
      refine bc_ob_i (by omega) ?_
      refine hK.2 _ _ [(0, bc_R 174), (1, bc_R 2), (2, bc_I l), (3, bc_I (i + 1))] _ _ _ (ls_ _ _) ?_
      refine ih _ (by omega) (by omega) ?_ (fr_trans h3 (fr_trans (fr_wr rfl) (fr_wr rfl)))
      rw [pk_, fo_s h0]
      rw [e1, e2]
      have q1 := sv_wr (v := po_ r l i) g0.1 (by omega) g1.1 (by omega) h2
      have q2 := sv_wr (v := po_ r l i) g1.1 (by omega) g0.1 (by omega) q1
      have q3 := q1 _ _ g0.1 (by omega) g1.1 (by omega)
      rw [q3]
      have e : ug_ (pk_ r l i.toNat) (r (16 + 6 * i)) (r (17 + 6 * i)) (po_ r l i) (r (16 + 6 * i)) (r (17 + 6 * i)) = po_ r l i := by simp [ug_]
      rw [e]
      exact q2
  have L1 : ∀ i : Int, ∀ σ' : bc_M, 0 ≤ i → i ≤ 8 → (∀ a b : Int, 0 ≤ a → a < i → 0 ≤ b → b < 8 → σ'.1 175 (((8 : Nat) : Int) * a + b) = 1000000) → fr_ px_ σ σ' → K 2 [(0, bc_R 174), (1, bc_R 2), (2, bc_I l), (3, bc_I i)] [] σ' 0 := by
    refine up_ind 8 (fun i hi σ' h0 h1 h2 h3 => ?_) (fun i hi ih σ' h0 h1 h2 h3 => ?_)
    · refine hK.1 [2, 43] 60 _ _ _ _ _ ?_
      refine bc_ob_i (by omega) ?_
      refine bc_br_i (fun c => by omega) (fun c => ?_)
      exact L2 0 _ (by omega) (by omega) (fun a b a0 a1 b0 b1 => h2 a b a0 (by omega) b0 b1) h3
    · have L0 : ∀ j : Int, ∀ σ' : bc_M, 0 ≤ j → j ≤ 8 → (∀ a b : Int, 0 ≤ a → a < i → 0 ≤ b → b < 8 → σ'.1 175 (((8 : Nat) : Int) * a + b) = 1000000) → (∀ b : Int, 0 ≤ b → b < j → σ'.1 175 (((8 : Nat) : Int) * i + b) = 1000000) → fr_ px_ σ σ' → K 11 [(0, bc_R 174), (1, bc_R 2), (2, bc_I l), (3, bc_I i), (4, bc_I j)] [] σ' 0 := by
        refine up_ind 8 (fun j hj σ' j0 j1 j2 j3 j4 => ?_) (fun j hj jh σ' j0 j1 j2 j3 j4 => ?_)
        · refine hK.1 [2, 11] 60 _ _ _ _ _ ?_
          refine bc_ob_i (by omega) ?_
          refine bc_br_i (fun c => by omega) (fun c => ?_)
          refine hK.2 _ _ [(0, bc_R 174), (1, bc_R 2), (2, bc_I l), (3, bc_I (i + 1))] _ _ _ (ls_ _ _) ?_
          refine ih _ (by omega) (by omega) (fun a b a0 a1 b0 b1 => ?_) j4
          by_cases e : a = i
          · rw [e]; exact j3 b b0 (by omega)
          · exact j2 a b a0 (by omega) b0 b1
        · refine hK.1 [2, 11] 60 _ _ _ _ _ ?_
          refine bc_ob_i (by omega) ?_
          refine bc_br_i (fun c => ?_) (fun c => by omega)
          refine bc_ob_i (by omega) ?_
          refine bc_ob_i (by omega) ?_
          refine jh _ (by omega) (by omega) (fun a b a0 a1 b0 b1 => ?_) (fun b b0 b1 => ?_) (fr_trans j4 (fr_wr rfl))
          · have := j2 a b a0 a1 b0 b1
            simp only [bc_wr, if_true]
            split
            · rfl
            · exact this
          · simp only [bc_wr, if_true]
            by_cases e : b = j
            · rw [e]; simp
            · rw [if_neg (by omega)]
              exact j3 b b0 (by omega)
      refine hK.1 [2, 11] 60 _ _ _ _ _ ?_
      refine bc_ob_i (by omega) ?_
      refine bc_br_i (fun c => ?_) (fun c => by omega)
      exact L0 0 _ (by omega) (by omega) h2 (fun b b0 b1 => by omega) h3
  refine hK.1 [2] 40 _ _ _ _ _ ?_
  exact L1 0 _ (by omega) (by omega) (fun a b a0 a1 b0 b1 => by omega) (fr_refl _)
theorem t_X4_cheapestUnsettled {s : dj_t} (hw : ar_ σ 184 s.1) (hq : ar_ σ 185 s.2) (lw : lm_ s.1 1000000) (lq : lm_ s.2 1) (h : Rr (some (bc_I (un_ s))) σ) : bc_Sem g (d + 1) mX4_cheapestUnsettled [bc_R 174] σ Rr X := by
  refine e_X4_cheapestUnsettled rfl (fun K hK => ?_)
  have L : ∀ i : Int, ∀ x t : Int, 0 ≤ i → i ≤ 8 → x = (up2_ s i.toNat).1 → t = (up2_ s i.toNat).2 → K 7 [(0, bc_R 174), (1, bc_I x), (2, bc_I t), (3, bc_I i)] [] σ 0 := by
    refine up_ind 8 (fun i hi x t h0 h1 h2 h3 => ?_) (fun i hi ih x t h0 h1 h2 h3 => ?_)
    · refine hK.1 [7] 60 _ _ _ _ _ ?_
      refine bc_ob_i (by omega) ?_
      refine bc_br_i (fun c => by omega) (fun c => ?_)
      have e : i = 8 := by omega
      refine rt_ h ?_
      rw [h2, e]
      rfl
    · have e1 := hw i h0 hi
      have e2 := hq i h0 hi
      have l1 := lw i h0 hi
      have l2 := lq i h0 hi
      have l3 := up2_le lw i.toNat (by omega)
      have es : up2_ s (i + 1).toNat = uq_ s (up2_ s i.toNat) i := fo_s h0
      have nxt : ∀ s' t', (s', t') = uq_ s (up2_ s i.toNat) i → K 7 [(0, bc_R 174), (1, bc_I s'), (2, bc_I t'), (3, bc_I (i + 1))] [] σ 0 := fun s' t' e => ih s' t' (by omega) (by omega) (by rw [es, ← e]) (by rw [es, ← e])
      unfold uq_ at nxt
      rw [← h2, ← h3] at l3
      refine hK.1 [7] 60 _ _ _ _ _ ?_
      repeat' first | refine bc_br_i (fun _ => ?_) (fun _ => ?_) | refine bc_ob_i (by omega) ?_
      all_goals first | (exfalso; omega) | (refine nxt _ _ ?_; rw [if_pos (by omega), e1]; done) | (refine nxt _ _ ?_; rw [if_neg (by omega), h2, h3])
  refine hK.1 [7] 40 _ _ _ _ _ ?_
  exact L 0 (-1) 1000000 (by omega) (by omega) rfl rfl
theorem t_X4_cheapestWay {a b : Int} (hf : sv_ σ 175 f) (lf : gl_ f 1000000) (a0 : 0 ≤ a) (a1 : a < 8) (b0 : 0 ≤ b) (b1 : b < 8) (h : ∀ σ' : bc_M, fr_ dx_ σ σ' → Rr (some (bc_I (dc_ f a b))) σ') : bc_Sem g (d + 2) mX4_cheapestWay [bc_R 174, bc_I a, bc_I b] σ Rr X := by
  refine e_X4_cheapestWay rfl (fun K hK => ?_)
  have L : ∀ i : Int, ∀ σ' : bc_M, 0 ≤ i → i ≤ 8 → ar_ σ' 184 (dk_ f a i.toNat).1 → ar_ σ' 185 (dk_ f a i.toNat).2 → fr_ dx_ σ σ' → K 40 [(0, bc_R 174), (1, bc_I a), (2, bc_I b), (3, bc_I i)] [] σ' 0 := by
    refine up_ind 8 (fun i hi σ' h0 h1 h2 h3 h4 => ?_) (fun i hi ih σ' h0 h1 h2 h3 h4 => ?_)
    · refine hK.1 [40] 60 _ _ _ _ _ ?_
      refine bc_ob_i (by omega) ?_
      refine bc_br_i (fun c => by omega) (fun c => ?_)
      refine bc_ob_i (by omega) ?_
      have e : i = 8 := by omega
      refine rt_ (h σ' h4) ?_
      rw [h2 b b0 b1, e]
      rfl
    · obtain ⟨l1, l2⟩ := dk_le (a := a) lf i.toNat
      have hl := (up2_le (s := dk_ f a i.toNat) l1 8 (by decide)).1
      have es : dk_ f a (i + 1).toNat = dg_ f (dk_ f a i.toNat) := fo_s (by omega)
      refine hK.1 [40, 76] 60 _ _ _ _ _ ?_
      refine bc_ob_i (by omega) ?_
      refine bc_br_i (fun c => ?_) (fun c => by omega)
      refine t_X4_cheapestUnsettled h2 h3 l1 l2 ?_
      rw [show (up2_ (dk_ f a i.toNat) 8).1 = un_ (dk_ f a i.toNat) from rfl] at hl
      generalize hz : un_ (dk_ f a i.toNat) = z at hl
      refine bc_ob_i (by omega) ?_
      refine bc_br_i (fun c => ?_) (fun c => ?_)
      · refine bc_ob_i (by omega) ?_
        refine rt_ (h σ' h4) ?_
        rw [h2 b b0 b1]
        exact dc_stop (by omega) (by rw [hz, c])
      · refine bc_ob_i (by omega) ?_
        refine bc_ob_i (by decide) ?_
        unfold dg_ at es
        rw [hz, if_neg c] at es
        generalize hw : (dk_ f a i.toNat).1 = w at *
        generalize hq : (dk_ f a i.toNat).2 = q at *
        have z0 : 0 ≤ z ∧ z < 8 := by omega
        have lzz := l1 z z0.1 z0.2
        have lfzz := lf z z z0.1 z0.2 z0.1 z0.2
        have L0 : ∀ j : Int, ∀ σ'' : bc_M, 0 ≤ j → j ≤ 8 → ar_ σ'' 184 (fun k => if k < j then min (w k) (w z + f z k) else w k) → ar_ σ'' 185 (up_ q z 1) → fr_ dx_ σ σ'' → K 76 [(0, bc_R 174), (1, bc_I a), (2, bc_I b), (3, bc_I i), (4, bc_I z), (5, bc_I j)] [] σ'' 0 := by
          refine up_ind 8 (fun j hj σ'' j0 j1 j2 j3 j4 => ?_) (fun j hj jh σ'' j0 j1 j2 j3 j4 => ?_)
          · refine hK.1 [40, 76] 60 _ _ _ _ _ ?_
            refine bc_ob_i (by omega) ?_
            refine bc_br_i (fun c => by omega) (fun c => ?_)
            refine hK.2 _ _ [(0, bc_R 174), (1, bc_I a), (2, bc_I b), (3, bc_I (i + 1))] _ _ _ (ls_ _ _) ?_
            refine ih _ (by omega) (by omega) ?_ ?_ j4
            · rw [es]
              intro k k0 k1
              rw [j2 k k0 k1]
              simp only
              rw [if_pos (by omega)]
            · rw [es]
              exact j3
          · have lj := l1 j j0 hj
            have lfz := lf z j z0.1 z0.2 j0 hj
            have e1 := j2 j j0 hj
            have e2 := j2 z z0.1 z0.2
            have e3 := sv_fr hf j4 (by decide) z j z0.1 z0.2 j0 hj
            simp only at e1 e2
            rw [if_neg (by omega)] at e1
            have e2 : σ''.1 184 z = w z := by
              rw [e2]
              split
              · omega
              · rfl
            have hy : bc_in (σ''.1 184 z + σ''.1 175 (((8 : Nat) : Int) * z + j)) := by constructor <;> omega
            refine hK.1 [40, 76] 60 _ _ _ _ _ ?_
            refine bc_ob_i (by omega) ?_
            refine bc_br_i (fun c => ?_) (fun c => by omega)
            refine bc_ob_i (by omega) ?_
            refine bc_ob_i (by omega) ?_
            refine bc_ob_i (by omega) ?_
            refine bc_ob_i (by omega) ?_
            refine bc_ob_i ⟨by omega, hy, Nat.le_of_ble_eq_true rfl⟩ ?_
            refine bc_ob_i (by omega) ?_
            refine jh _ (by omega) (by omega) (fun k k0 k1 => ?_) ?_ (fr_trans j4 (fr_wr (.inl rfl)))
            · simp only [bc_wr, if_true]
              by_cases ek : k = j
              · rw [if_pos ek, if_pos (by omega), ek, e1, e2, e3]
              · rw [if_neg ek, j2 k k0 k1]
                simp only
                by_cases kj : k < j
                · rw [if_pos kj, if_pos (by omega)]
                · rw [if_neg kj, if_neg (by omega)]
            · exact ar_fr j3 (fr_wr (P := fun k => k = 184) rfl) (by decide)
        refine L0 0 _ (by omega) (by omega) (fun k k0 k1 => ?_) (ar_wr h3) (fr_trans h4 (fr_wr (.inr rfl)))
        have := ar_fr h2 (fr_wr (P := fun k => k = 185) (k := 185) (j := z) (v := 1) rfl) (by decide) k k0 k1
        rw [this]
        simp only
        rw [if_neg (by omega)]
  have L1 : ∀ i : Int, ∀ σ' : bc_M, 0 ≤ i → i ≤ 8 → (∀ k : Int, 0 ≤ k → k < i → σ'.1 184 k = if k = a then 0 else 1000000) → (∀ k : Int, 0 ≤ k → k < i → σ'.1 185 k = 0) → fr_ dx_ σ σ' → K 2 [(0, bc_R 174), (1, bc_I a), (2, bc_I b), (3, bc_I i)] [] σ' 0 := by
    refine up_ind 8 (fun i hi σ' h0 h1 h2 h3 h4 => ?_) (fun i hi ih σ' h0 h1 h2 h3 h4 => ?_)
    · refine hK.1 [2, 40] 60 _ _ _ _ _ ?_
      refine bc_ob_i (by omega) ?_
      refine bc_br_i (fun c => by omega) (fun c => ?_)
      exact L 0 _ (by omega) (by omega) (fun k k0 k1 => h2 k k0 (by omega)) (fun k k0 k1 => h3 k k0 (by omega)) h4
    · have nxt : ∀ v : Int, v = (if i = a then 0 else 1000000) → K 2 [(0, bc_R 174), (1, bc_I a), (2, bc_I b), (3, bc_I (i + 1))] [] (bc_wr (bc_wr σ' 184 i v) 185 i 0) 0 := fun v hv => by
        refine ih _ (by omega) (by omega) (fun k k0 k1 => ?_) (fun k k0 k1 => ?_) (fr_trans h4 (fr_trans (fr_wr (.inl rfl)) (fr_wr (.inr rfl))))
        · by_cases e : k = i
          · simp only [bc_wr]
            simp
            rw [if_pos e, e]
            exact hv
          · have := h2 k k0 (by omega)
            simp only [bc_wr]
            simp
            rw [if_neg e]
            exact this
        · simp only [bc_wr]
          simp
          exact fun e => h3 k k0 (by omega)
      refine hK.1 [2, 40] 60 _ _ _ _ _ ?_
      repeat' first | refine bc_br_i (fun _ => ?_) (fun _ => ?_) | refine bc_ob_i (by omega) ?_
      all_goals first | (exfalso; omega) | (refine nxt _ ?_; rw [if_pos (by omega)]; done) | (refine nxt _ ?_; rw [if_neg (by omega)])
  refine hK.1 [2] 40 _ _ _ _ _ ?_
  exact L1 0 _ (by omega) (by omega) (fun k k0 k1 => by omega) (fun k k0 k1 => by omega) (fr_refl _)
end REP
end
section
/-! prices between all joints; what is affordable -/
noncomputable def fq_ (k i j : Int) (f : gr_t) : gr_t := ug_ f i j (min (f i j) (f i k + f k j))
noncomputable def fr1_ (k i : Int) (f : gr_t) (n : Nat) : gr_t := fo_ (fun j f => fq_ k i j f) f n
noncomputable def fr2_ (k : Int) (f : gr_t) (n : Nat) : gr_t := fo_ (fun i f => fr1_ k i f 8) f n
noncomputable def fr3_ (f : gr_t) (n : Nat) : gr_t := fo_ (fun k f => fr2_ k f 8) f n
/-- the closed prices -/
noncomputable def fc_ (f : gr_t) : gr_t := fr3_ f 8
theorem fq_le {k i j : Int} {f : gr_t} (h : gl_ f 1000000) (k0 : 0 ≤ k) (k1 : k < 8) (i0 : 0 ≤ i) (i1 : i < 8) (j0 : 0 ≤ j) (j1 : j < 8) : gl_ (fq_ k i j f) 1000000 := fun a b a0 a1 b0 b1 => by
  have q1 := h a b a0 a1 b0 b1
  have q2 := h i j i0 i1 j0 j1
  have q3 := h i k i0 i1 k0 k1
  have q4 := h k j k0 k1 j0 j1
  unfold fq_ ug_
  split <;> omega
theorem fr1_le {k i : Int} {f : gr_t} (h : gl_ f 1000000) (k0 : 0 ≤ k) (k1 : k < 8) (i0 : 0 ≤ i) (i1 : i < 8) (n : Nat) (hn : n ≤ 8) : gl_ (fr1_ k i f n) 1000000 := by
  unfold fr1_
  exact fo_inv (n := 8) (P := fun f => gl_ f 1000000) h (fun j f j0 j1 hf => fq_le hf k0 k1 i0 i1 j0 (by omega)) n hn
theorem fr2_le {k : Int} {f : gr_t} (h : gl_ f 1000000) (k0 : 0 ≤ k) (k1 : k < 8) (n : Nat) (hn : n ≤ 8) : gl_ (fr2_ k f n) 1000000 := by
  unfold fr2_
  exact fo_inv (n := 8) (P := fun f => gl_ f 1000000) h (fun i f i0 i1 hf => fr1_le hf k0 k1 i0 (by omega) 8 (Nat.le_refl _)) n hn
theorem fr3_le {f : gr_t} (h : gl_ f 1000000) (n : Nat) (hn : n ≤ 8) : gl_ (fr3_ f n) 1000000 := by
  unfold fr3_
  exact fo_inv (n := 8) (P := fun f => gl_ f 1000000) h (fun k f k0 k1 hf => fr2_le hf k0 (by omega) 8 (Nat.le_refl _)) n hn
noncomputable def nq_ (f : gr_t) (l s i j : Int) (t : gr_t) : gr_t := if t i j = 0 ∧ f i j ≤ s then ug_ t i j l else t
noncomputable def nr_ (f : gr_t) (l s i : Int) (t : gr_t) (n : Nat) : gr_t := fo_ (fun j t => nq_ f l s i j t) t n
noncomputable def na_ (f : gr_t) (l s : Int) (t : gr_t) (n : Nat) : gr_t := fo_ (fun i t => nr_ f l s i t 8) t n
theorem nq_le {f t : gr_t} {l s i j : Int} (h : gl_ t 99) (hl : 0 ≤ l ∧ l ≤ 99) : gl_ (nq_ f l s i j t) 99 := fun a b a0 a1 b0 b1 => by
  have q := h a b a0 a1 b0 b1
  unfold nq_ ug_
  split
  · simp only
    split <;> omega
  · exact q
theorem nr_le {f t : gr_t} {l s i : Int} (h : gl_ t 99) (hl : 0 ≤ l ∧ l ≤ 99) (n : Nat) : gl_ (nr_ f l s i t n) 99 := by
  unfold nr_
  exact fo_inv (n := n) (P := fun f => gl_ f 99) h (fun j t _ _ ht => nq_le ht hl) n (Nat.le_refl _)
theorem na_le {f t : gr_t} {l s : Int} (h : gl_ t 99) (hl : 0 ≤ l ∧ l ≤ 99) (n : Nat) : gl_ (na_ f l s t n) 99 := by
  unfold na_
  exact fo_inv (n := n) (P := fun f => gl_ f 99) h (fun j t _ _ ht => nr_le ht hl 8) n (Nat.le_refl _)
/-- the load by ways: from 99 down; n loads were tried -/
noncomputable def la_ (r : rw_t) (s a b : Int) : Nat → Int
  | 0 => 0
  | n + 1 => if iw_ r (n + 1 : Nat) = 1 ∧ dc_ (pr_ r (n + 1 : Nat)) a b ≤ s then ((n + 1 : Nat) : Int) else la_ r s a b n
/-- the table: the loads n, n - 1, .. 1 come yet -/
noncomputable def ta1_ (r : rw_t) (s : Int) (l : Int) (t : gr_t) : gr_t := if iw_ r l = 1 then na_ (fc_ (pr_ r l)) l s t 8 else t
noncomputable def tl_ (r : rw_t) (s : Int) : Nat → gr_t → gr_t
  | 0, t => t
  | n + 1, t => tl_ r s n (ta1_ r s (n + 1 : Nat) t)
/-- the loads of the table -/
noncomputable def tb_ (r : rw_t) (s : Int) : gr_t := tl_ r s 99 (fun _ _ => 0)
noncomputable abbrev tx1_ (k : Nat) : Prop := k = 186
noncomputable abbrev rx_ (k : Nat) : Prop := 175 ≤ k ∧ k ≤ 194
section REP
variable {g : bc_C} {d : Nat} {σ : bc_M} {r : rw_t} {Rr : Option bc_A → bc_M → Prop} {X : Nat → bc_M → Prop} {f : gr_t}
theorem t_X4_closePrices (hf : sv_ σ 175 f) (lf : gl_ f 1000000) (h : ∀ σ' : bc_M, sv_ σ' 175 (fc_ f) → fr_ px_ σ σ' → Rr none σ') : bc_Sem g (d + 1) mX4_closePrices [bc_R 174] σ Rr X := by
  refine e_X4_closePrices rfl (fun K hK => ?_)
  have L : ∀ k : Int, ∀ σ' : bc_M, 0 ≤ k → k ≤ 8 → sv_ σ' 175 (fr3_ f k.toNat) → fr_ px_ σ σ' → K 2 [(0, bc_R 174), (1, bc_I k)] [] σ' 0 := by
    refine up_ind 8 (fun k hk σ' h0 h1 h2 h3 => ?_) (fun k hk ih σ' h0 h1 h2 h3 => ?_)
    · refine hK.1 [2] 60 _ _ _ _ _ ?_
      refine bc_ob_i (by omega) ?_
      refine bc_br_i (fun c => by omega) (fun c => ?_)
      have e : k = 8 := by omega
      rw [e] at h2
      exact h σ' h2 h3
    · have lk := fr3_le lf k.toNat (by omega)
      have es : fr3_ f (k + 1).toNat = fr2_ k (fr3_ f k.toNat) 8 := fo_s h0
      generalize fr3_ f k.toNat = F at *
      have L1 : ∀ i : Int, ∀ σ' : bc_M, 0 ≤ i → i ≤ 8 → sv_ σ' 175 (fr2_ k F i.toNat) → fr_ px_ σ σ' → K 10 [(0, bc_R 174), (1, bc_I k), (2, bc_I i)] [] σ' 0 := by
        refine up_ind 8 (fun i hi σ' i0 i1 i2 i3 => ?_) (fun i hi jh σ' i0 i1 i2 i3 => ?_)
        · refine hK.1 [2, 10] 60 _ _ _ _ _ ?_
          refine bc_ob_i (by omega) ?_
          refine bc_br_i (fun c => by omega) (fun c => ?_)
          refine hK.2 _ _ [(0, bc_R 174), (1, bc_I (k + 1))] _ _ _ (ls_ _ _) ?_
          refine ih _ (by omega) (by omega) ?_ i3
          have e : i = 8 := by omega
          rw [e] at i2
          rw [es]
          exact i2
        · have li := fr2_le lk h0 hk i.toNat (by omega)
          have ei : fr2_ k F (i + 1).toNat = fr1_ k i (fr2_ k F i.toNat) 8 := fo_s i0
          generalize fr2_ k F i.toNat = G at *
          have L2 : ∀ j : Int, ∀ σ' : bc_M, 0 ≤ j → j ≤ 8 → sv_ σ' 175 (fr1_ k i G j.toNat) → fr_ px_ σ σ' → K 18 [(0, bc_R 174), (1, bc_I k), (2, bc_I i), (3, bc_I j)] [] σ' 0 := by
            refine up_ind 8 (fun j hj σ' j0 j1 j2 j3 => ?_) (fun j hj kh σ' j0 j1 j2 j3 => ?_)
            · refine hK.1 [2, 10, 18] 60 _ _ _ _ _ ?_
              refine bc_ob_i (by omega) ?_
              refine bc_br_i (fun c => by omega) (fun c => ?_)
              refine hK.2 _ _ [(0, bc_R 174), (1, bc_I k), (2, bc_I (i + 1))] _ _ _ (ls_ _ _) ?_
              refine jh _ (by omega) (by omega) ?_ j3
              have e : j = 8 := by omega
              rw [e] at j2
              rw [ei]
              exact j2
            · have lj := fr1_le li h0 hk i0 hi j.toNat (by omega)
              have ej : fr1_ k i G (j + 1).toNat = fq_ k i j (fr1_ k i G j.toNat) := fo_s j0
              generalize fr1_ k i G j.toNat = H at *
              have y1 := j2 i j i0 hi j0 hj
              have y2 := j2 i k i0 hi h0 hk
              have y3 := j2 k j h0 hk j0 hj
              have x1 := lj i j i0 hi j0 hj
              have x2 := lj i k i0 hi h0 hk
              have x3 := lj k j h0 hk j0 hj
              have z1 : bc_in (σ'.1 175 (((8 : Nat) : Int) * i + j)) := by constructor <;> omega
              have z2 : bc_in (σ'.1 175 (((8 : Nat) : Int) * i + k) + σ'.1 175 (((8 : Nat) : Int) * k + j)) := by constructor <;> omega
              refine hK.1 [2, 10, 18] 60 _ _ _ _ _ ?_
              refine bc_ob_i (by omega) ?_
              refine bc_br_i (fun c => ?_) (fun c => by omega)
              refine bc_ob_i (by omega) ?_
              refine bc_ob_i (by omega) ?_
              refine bc_ob_i (by omega) ?_
              refine bc_ob_i (by omega) ?_
              refine bc_ob_i (by omega) ?_
              refine bc_ob_i (by omega) ?_
              refine bc_ob_i (by omega) ?_
              refine bc_ob_i ⟨z1, z2, Nat.le_of_ble_eq_true rfl⟩ ?_
              refine bc_ob_i (by omega) ?_
              refine kh _ (by omega) (by omega) ?_ (fr_trans j3 (fr_wr rfl))
              rw [ej]
              have := sv_wr (v := min (H i j) (H i k + H k j)) i0 hi j0 hj j2
              unfold fq_
              rw [← y1, ← y2, ← y3] at this ⊢
              exact this
          refine hK.1 [2, 10, 18] 60 _ _ _ _ _ ?_
          refine bc_ob_i (by omega) ?_
          refine bc_br_i (fun c => ?_) (fun c => by omega)
          exact L2 0 σ' (by omega) (by omega) i2 i3
      refine hK.1 [2, 10] 60 _ _ _ _ _ ?_
      refine bc_ob_i (by omega) ?_
      refine bc_br_i (fun c => ?_) (fun c => by omega)
      exact L1 0 σ' (by omega) (by omega) h2 h3
  refine hK.1 [2] 40 _ _ _ _ _ ?_
  exact L 0 _ (by omega) (by omega) hf (fr_refl _)
theorem t_X4_noteAffordable {l s : Int} {t : gr_t} (hf : sv_ σ 175 f) (lf : gl_ f 1000000) (ht : sv_ σ 186 t) (lt : gl_ t 99) (hl : 0 ≤ l ∧ l ≤ 99) (hs : bc_in s) (h : ∀ σ' : bc_M, sv_ σ' 186 (na_ f l s t 8) → fr_ tx1_ σ σ' → Rr none σ') : bc_Sem g (d + 1) mX4_noteAffordable [bc_R 174, bc_I l, bc_I s] σ Rr X := by
  refine e_X4_noteAffordable rfl (fun K hK => ?_)
  have L : ∀ i : Int, ∀ σ' : bc_M, 0 ≤ i → i ≤ 8 → sv_ σ' 186 (na_ f l s t i.toNat) → fr_ tx1_ σ σ' → K 2 [(0, bc_R 174), (1, bc_I l), (2, bc_I s), (3, bc_I i)] [] σ' 0 := by
    refine up_ind 8 (fun i hi σ' h0 h1 h2 h3 => ?_) (fun i hi ih σ' h0 h1 h2 h3 => ?_)
    · refine hK.1 [2] 60 _ _ _ _ _ ?_
      refine bc_ob_i (by omega) ?_
      refine bc_br_i (fun c => by omega) (fun c => ?_)
      have e : i = 8 := by omega
      rw [e] at h2
      exact h σ' h2 h3
    · have lk := na_le (f := f) (s := s) lt hl i.toNat
      have es : na_ f l s t (i + 1).toNat = nr_ f l s i (na_ f l s t i.toNat) 8 := fo_s h0
      generalize na_ f l s t i.toNat = F at *
      have L1 : ∀ j : Int, ∀ σ' : bc_M, 0 ≤ j → j ≤ 8 → sv_ σ' 186 (nr_ f l s i F j.toNat) → fr_ tx1_ σ σ' → K 11 [(0, bc_R 174), (1, bc_I l), (2, bc_I s), (3, bc_I i), (4, bc_I j)] [] σ' 0 := by
        refine up_ind 8 (fun j hj σ' j0 j1 j2 j3 => ?_) (fun j hj jh σ' j0 j1 j2 j3 => ?_)
        · refine hK.1 [2, 11] 60 _ _ _ _ _ ?_
          refine bc_ob_i (by omega) ?_
          refine bc_br_i (fun c => by omega) (fun c => ?_)
          refine hK.2 _ _ [(0, bc_R 174), (1, bc_I l), (2, bc_I s), (3, bc_I (i + 1))] _ _ _ (ls_ _ _) ?_
          refine ih _ (by omega) (by omega) ?_ j3
          have e : j = 8 := by omega
          rw [e] at j2
          rw [es]
          exact j2
        · have lj := nr_le (f := f) (s := s) (i := i) lk hl j.toNat
          have ej : nr_ f l s i F (j + 1).toNat = nq_ f l s i j (nr_ f l s i F j.toNat) := fo_s j0
          generalize nr_ f l s i F j.toNat = H at *
          have y1 := j2 i j h0 hi j0 hj
          have x1 := lj i j h0 hi j0 hj
          have y2 := sv_fr hf j3 (by decide) i j h0 hi j0 hj
          have x2 := lf i j h0 hi j0 hj
          have z1 : bc_in (σ'.1 186 (((8 : Nat) : Int) * i + j)) := by constructor <;> omega
          have z2 : bc_in (σ'.1 175 (((8 : Nat) : Int) * i + j)) := by constructor <;> omega
          refine hK.1 [2, 11] 60 _ _ _ _ _ ?_
          refine bc_ob_i (by omega) ?_
          refine bc_br_i (fun c => ?_) (fun c => by omega)
          refine bc_ob_i (by omega) ?_
          refine bc_ob_i (by omega) ?_
          refine bc_ob_i z1 ?_
          refine bc_br_i (fun c => ?_) (fun c => ?_)
          · have c' : σ'.1 186 (((8 : Nat) : Int) * i + j) = 0 := c
            refine bc_ob_i (by omega) ?_
            refine bc_ob_i (by omega) ?_
            refine bc_ob_i ⟨z2, hs⟩ ?_
            refine bc_br_i (fun c2 => ?_) (fun c2 => ?_)
            · have c2' : s < σ'.1 175 (((8 : Nat) : Int) * i + j) := c2
              refine jh _ (by omega) (by omega) ?_ j3
              rw [ej]
              unfold nq_
              rw [if_neg (by omega)]
              exact j2
            · have c2' : ¬ s < σ'.1 175 (((8 : Nat) : Int) * i + j) := c2
              refine bc_ob_i (by omega) ?_
              refine bc_ob_i (by omega) ?_
              refine jh _ (by omega) (by omega) ?_ (fr_trans j3 (fr_wr rfl))
              rw [ej]
              unfold nq_
              rw [if_pos (by omega)]
              exact sv_wr h0 hi j0 hj j2
          · have c' : ¬ σ'.1 186 (((8 : Nat) : Int) * i + j) = 0 := c
            refine jh _ (by omega) (by omega) ?_ j3
            rw [ej]
            unfold nq_
            rw [if_neg (by omega)]
            exact j2
      refine hK.1 [2, 11] 60 _ _ _ _ _ ?_
      refine bc_ob_i (by omega) ?_
      refine bc_br_i (fun c => ?_) (fun c => by omega)
      exact L1 0 σ' (by omega) (by omega) h2 h3
  refine hK.1 [2] 40 _ _ _ _ _ ?_
  exact L 0 _ (by omega) (by omega) ht (fr_refl _)
end REP
end
section
/-! the repair plan's two ways -/
noncomputable abbrev ry_ (k : Nat) : Prop := k = 175 ∨ k = 184 ∨ k = 185
section REP
variable {g : bc_C} {d : Nat} {σ : bc_M} {r : rw_t} {Rr : Option bc_A → bc_M → Prop} {X : Nat → bc_M → Prop} {f : gr_t}
theorem iw_le (r : rw_t) (l : Int) : 0 ≤ iw_ r l ∧ iw_ r l ≤ 1 := by
  unfold iw_ iq_
  refine fo_inv (n := (r 3).toNat) (P := fun e : Int => 0 ≤ e ∧ e ≤ 1) (by decide) (fun i e _ _ _ => ?_) _ (Nat.le_refl _)
  split <;> omega
theorem dc_le {a b : Int} (lf : gl_ f 1000000) (b0 : 0 ≤ b) (b1 : b < 8) : 0 ≤ dc_ f a b ∧ dc_ f a b ≤ 1000000 := (dk_le lf 8).1 b b0 b1
theorem t_X4_loadByWays {s a b : Int} (hS : st_M σ 1 r) (hW : wf_M r) (hs : bc_in s) (a0 : 0 ≤ a) (a1 : a < 8) (b0 : 0 ≤ b) (b1 : b < 8) (h : ∀ σ' : bc_M, fr_ ry_ σ σ' → Rr (some (bc_I (la_ r s a b 99))) σ') : bc_Sem g (d + 4) mX4_loadByWays [bc_R 174, bc_R 2, bc_I s, bc_I a, bc_I b] σ Rr X := by
  refine e_X4_loadByWays rfl (fun K hK => ?_)
  have L : ∀ n : Nat, n ≤ 99 → ∀ σ' : bc_M, la_ r s a b 99 = la_ r s a b n → fr_ ry_ σ σ' → K 4 [(0, bc_R 174), (1, bc_R 2), (2, bc_I s), (3, bc_I a), (4, bc_I b), (5, bc_I n)] [] σ' 0 := by
    intro n
    induction n with
    | zero =>
      intro hn σ' h1 h2
      refine hK.1 [4] 60 _ _ _ _ _ ?_
      refine bc_ob_i (by decide) ?_
      refine bc_br_i (fun c => ?_) (fun c => absurd (by decide) c)
      exact rt_ (h σ' h2) (by rw [h1]; rfl)
    | succ n ih =>
      intro hn σ' h1 h2
      have hM := st_M_fr hS h2 (by omega)
      have li := iw_le r ((n + 1 : Nat) : Int)
      have en : ((n + 1 : Nat) : Int) + -1 = (n : Int) := by omega
      have skip : ¬ (iw_ r ((n + 1 : Nat) : Int) = 1 ∧ dc_ (pr_ r ((n + 1 : Nat) : Int)) a b ≤ s) → ∀ σ'', fr_ ry_ σ' σ'' → K 4 [(0, bc_R 174), (1, bc_R 2), (2, bc_I s), (3, bc_I a), (4, bc_I b), (5, bc_I (((n + 1 : Nat) : Int) + -1))] [] σ'' 0 := by
        intro q σ'' hf
        rw [en]
        refine ih (by omega) σ'' ?_ (fr_trans h2 hf)
        rw [h1]
        exact if_neg q
      refine hK.1 [4] 60 _ _ _ _ _ ?_
      refine bc_ob_i (by omega) ?_
      refine bc_br_i (fun c => by omega) (fun c => ?_)
      refine t_X4_isWorthTrying hM hW (by constructor <;> omega) ?_
      refine bc_ob_i (by omega) ?_
      refine bc_br_i (fun c => ?_) (fun c => ?_)
      · exact skip (by omega) σ' (fr_refl _)
      · refine t_X4_setPrices hM hW (by constructor <;> omega) (fun σ1 p1 f1 => ?_)
        have lp := pr_le hW (l := ((n + 1 : Nat) : Int))
        have ld := dc_le (a := a) lp b0 b1
        refine t_X4_cheapestWay p1 lp a0 a1 b0 b1 (fun σ2 f2 => ?_)
        have F : fr_ ry_ σ' σ2 := fr_trans (fr_mono f1 (by omega)) (fr_mono f2 (by omega))
        refine bc_ob_i ⟨by omega, hs⟩ ?_
        refine bc_br_i (fun c => ?_) (fun c => ?_)
        · exact skip (by omega) σ2 F
        · refine rt_ (h σ2 (fr_trans h2 F)) ?_
          rw [h1]
          exact (if_pos ⟨by omega, by omega⟩).symm
  refine hK.1 [4] 40 _ _ _ _ _ ?_
  exact L 99 (Nat.le_refl _) σ rfl (fr_refl _)
theorem t_X4_fillTable {s : Int} (hS : st_M σ 1 r) (hW : wf_M r) (hs : bc_in s) (h : ∀ σ' : bc_M, sv_ σ' 186 (tb_ r s) → gl_ (tb_ r s) 99 → fr_ rx_ σ σ' → Rr none σ') : bc_Sem g (d + 4) mX4_fillTable [bc_R 174, bc_R 2, bc_I s] σ Rr X := by
  refine e_X4_fillTable rfl (fun K hK => ?_)
  have L : ∀ n : Nat, n ≤ 99 → ∀ (σ' : bc_M) (t : gr_t), tb_ r s = tl_ r s n t → sv_ σ' 186 t → gl_ t 99 → fr_ rx_ σ σ' → K 43 [(0, bc_R 174), (1, bc_R 2), (2, bc_I s), (3, bc_I n)] [] σ' 0 := by
    intro n
    induction n with
    | zero =>
      intro hn σ' t h1 h2 h3 h4
      refine hK.1 [43] 60 _ _ _ _ _ ?_
      refine bc_ob_i (by decide) ?_
      refine bc_br_i (fun c => ?_) (fun c => absurd (by decide) c)
      have e : tb_ r s = t := h1
      rw [← e] at h2 h3
      exact h σ' h2 h3 h4
    | succ n ih =>
      intro hn σ' t h1 h2 h3 h4
      have hM := st_M_fr hS h4 (by omega)
      have li := iw_le r ((n + 1 : Nat) : Int)
      have en : ((n + 1 : Nat) : Int) + -1 = (n : Int) := by omega
      have nxt : ∀ σ'', sv_ σ'' 186 (ta1_ r s ((n + 1 : Nat) : Int) t) → gl_ (ta1_ r s ((n + 1 : Nat) : Int) t) 99 → fr_ rx_ σ' σ'' → K 43 [(0, bc_R 174), (1, bc_R 2), (2, bc_I s), (3, bc_I (((n + 1 : Nat) : Int) + -1))] [] σ'' 0 := by
        intro σ'' p1 p2 hf
        rw [en]
        exact ih (by omega) σ'' _ (by rw [h1]; rfl) p1 p2 (fr_trans h4 hf)
      refine hK.1 [43] 60 _ _ _ _ _ ?_
      refine bc_ob_i (by omega) ?_
      refine bc_br_i (fun c => by omega) (fun c => ?_)
      refine t_X4_isWorthTrying hM hW (by constructor <;> omega) ?_
      refine bc_ob_i (by omega) ?_
      refine bc_br_i (fun c => ?_) (fun c => ?_)
      · have e : ta1_ r s ((n + 1 : Nat) : Int) t = t := if_neg (by omega)
        rw [e] at nxt
        exact nxt σ' h2 h3 (fr_refl _)
      · have e : ta1_ r s ((n + 1 : Nat) : Int) t = na_ (fc_ (pr_ r ((n + 1 : Nat) : Int))) ((n + 1 : Nat) : Int) s t 8 := if_pos (by omega)
        rw [e] at nxt
        refine t_X4_setPrices hM hW (by constructor <;> omega) (fun σ1 p1 f1 => ?_)
        have lp := pr_le hW (l := ((n + 1 : Nat) : Int))
        refine t_X4_closePrices p1 lp (fun σ2 p2 f2 => ?_)
        have lc : gl_ (fc_ (pr_ r ((n + 1 : Nat) : Int))) 1000000 := fr3_le lp 8 (Nat.le_refl _)
        refine t_X4_noteAffordable p2 lc (sv_fr (sv_fr h2 f1 (by decide)) f2 (by decide)) h3 (by omega) hs (fun σ3 p3 f3 => ?_)
        exact nxt σ3 p3 (na_le h3 (by omega) 8) (fr_trans (fr_mono f1 (by omega)) (fr_trans (fr_mono f2 (by omega)) (fr_mono f3 (by omega))))
  have L1 : ∀ i : Int, ∀ σ' : bc_M, 0 ≤ i → i ≤ 8 → (∀ a b : Int, 0 ≤ a → a < i → 0 ≤ b → b < 8 → σ'.1 186 (((8 : Nat) : Int) * a + b) = 0) → fr_ rx_ σ σ' → K 2 [(0, bc_R 174), (1, bc_R 2), (2, bc_I s), (3, bc_I i)] [] σ' 0 := by
    refine up_ind 8 (fun i hi σ' h0 h1 h2 h3 => ?_) (fun i hi ih σ' h0 h1 h2 h3 => ?_)
    · refine hK.1 [2, 43] 60 _ _ _ _ _ ?_
      refine bc_ob_i (by omega) ?_
      refine bc_br_i (fun c => by omega) (fun c => ?_)
      exact L 99 (Nat.le_refl _) _ (fun _ _ => 0) rfl (fun a b a0 a1 b0 b1 => h2 a b a0 (by omega) b0 b1) (fun a b _ _ _ _ => by simp) h3
    · have L0 : ∀ j : Int, ∀ σ' : bc_M, 0 ≤ j → j ≤ 8 → (∀ a b : Int, 0 ≤ a → a < i → 0 ≤ b → b < 8 → σ'.1 186 (((8 : Nat) : Int) * a + b) = 0) → (∀ b : Int, 0 ≤ b → b < j → σ'.1 186 (((8 : Nat) : Int) * i + b) = 0) → fr_ rx_ σ σ' → K 11 [(0, bc_R 174), (1, bc_R 2), (2, bc_I s), (3, bc_I i), (4, bc_I j)] [] σ' 0 := by
        refine up_ind 8 (fun j hj σ' j0 j1 j2 j3 j4 => ?_) (fun j hj jh σ' j0 j1 j2 j3 j4 => ?_)
        · refine hK.1 [2, 11] 60 _ _ _ _ _ ?_
          refine bc_ob_i (by omega) ?_
          refine bc_br_i (fun c => by omega) (fun c => ?_)
          refine hK.2 _ _ [(0, bc_R 174), (1, bc_R 2), (2, bc_I s), (3, bc_I (i + 1))] _ _ _ (ls_ _ _) ?_
          refine ih _ (by omega) (by omega) (fun a b a0 a1 b0 b1 => ?_) j4
          by_cases e : a = i
          · rw [e]; exact j3 b b0 (by omega)
          · exact j2 a b a0 (by omega) b0 b1
        · refine hK.1 [2, 11] 60 _ _ _ _ _ ?_
          refine bc_ob_i (by omega) ?_
          refine bc_br_i (fun c => ?_) (fun c => by omega)
          refine bc_ob_i (by omega) ?_
          refine bc_ob_i (by omega) ?_
          refine jh _ (by omega) (by omega) (fun a b a0 a1 b0 b1 => ?_) (fun b b0 b1 => ?_) (fr_trans j4 (fr_wr (by omega)))
          · have := j2 a b a0 a1 b0 b1
            simp only [bc_wr, if_true]
            split
            · rfl
            · exact this
          · simp only [bc_wr, if_true]
            by_cases e : b = j
            · rw [e]; simp
            · rw [if_neg (by omega)]
              exact j3 b b0 (by omega)
      refine hK.1 [2, 11] 60 _ _ _ _ _ ?_
      refine bc_ob_i (by omega) ?_
      refine bc_br_i (fun c => ?_) (fun c => by omega)
      exact L0 0 _ (by omega) (by omega) h2 (fun b b0 b1 => by omega) h3
  refine hK.1 [2] 40 _ _ _ _ _ ?_
  exact L1 0 _ (by omega) (by omega) (fun a b a0 a1 b0 b1 => by omega) (fr_refl _)
end REP
end
section
/-! whether members connect two joints, mirrored on bits -/
noncomputable abbrev jo_ (x y : Int) : Int := (Int32.ofInt x ||| Int32.ofInt y).toInt
noncomputable abbrev ja_ (x y : Int) : Int := (Int32.ofInt x &&& Int32.ofInt y).toInt
noncomputable abbrev jb_ (i : Int) : Int := (Int32.ofInt 1 <<< (Int32.ofInt i &&& 31)).toInt
theorem j_in (x : Int32) : bc_in x.toInt := by
  have h1 := Int32.le_toInt x
  have h2 := Int32.toInt_lt x
  constructor <;> omega
noncomputable def je_ (r : rw_t) (l u m x : Int) : Int := if m ≠ u ∧ ja_ x (jo_ (jb_ (r (16 + 6 * m))) (jb_ (r (17 + 6 * m)))) ≠ 0 ∧ l ≤ br_ r m then jo_ x (jo_ (jb_ (r (16 + 6 * m))) (jb_ (r (17 + 6 * m)))) else x
noncomputable def jf_ (r : rw_t) (l u x : Int) (k : Nat) : Int := fo_ (fun m x => je_ r l u m x) x k
noncomputable def jh_ (r : rw_t) (l u a : Int) (k : Nat) : Int := fo_ (fun _ x => jf_ r l u x (r 3).toNat) (jb_ a) k
/-- whether joints a and b are connected over members that bear l, the member u left out -/
noncomputable def jc_ (r : rw_t) (l u a b : Int) : Int := if ja_ (jh_ r l u a 7) (jb_ b) = 0 then 0 else 1
theorem jf_in {r : rw_t} {l u x : Int} (h : bc_in x) (k : Nat) : bc_in (jf_ r l u x k) := by
  unfold jf_
  refine fo_inv (n := k) (P := fun x => bc_in x) h (fun m x _ _ hx => ?_) k (Nat.le_refl _)
  unfold je_
  split
  · exact j_in _
  · exact hx
theorem jh_in {r : rw_t} {l u a : Int} (k : Nat) : bc_in (jh_ r l u a k) := by
  unfold jh_
  exact fo_inv (n := k) (P := fun x => bc_in x) (j_in _) (fun m x _ _ hx => jf_in hx _) k (Nat.le_refl _)
section CON
variable {g : bc_C} {d : Nat} {σ : bc_M} {r : rw_t} {Rr : Option bc_A → bc_M → Prop} {X : Nat → bc_M → Prop}
theorem t_X2_connects {a b l u : Int} (hS : st_M σ 1 r) (hW : wf_M r) (hl : bc_in l) (hu : bc_in u) (h : Rr (some (bc_I (jc_ r l u a b))) σ) : bc_Sem g (d + 2) mX2_connects [bc_R 2, bc_I a, bc_I b, bc_I l, bc_I u] σ Rr X := by
  obtain ⟨q0, q1⟩ := hl
  obtain ⟨u0, u1⟩ := hu
  obtain ⟨c1, c2⟩ := st_M1 hS
  have w1 := hW.1
  refine e_X2_connects rfl (fun K hK => ?_)
  have L : ∀ i : Int, ∀ z x, 1 ≤ i → i ≤ 8 → x = jh_ r l u a (i - 1).toNat → K 8 ([(0, bc_R 2), (1, bc_I a), (2, bc_I b), (3, bc_I l), (4, bc_I u), (5, bc_I x), (6, bc_I i)] ++ z) [] σ 0 := by
    refine up_ind 8 (fun i hi z x h0 h1 h2 => ?_) (fun i hi ih z x h0 h1 h2 => ?_)
    · refine hK.2 _ _ [(0, bc_R 2), (1, bc_I a), (2, bc_I b), (3, bc_I l), (4, bc_I u), (5, bc_I x), (6, bc_I i)] _ _ _ (ls_ _ _) ?_
      have e : i = 8 := by omega
      have e7 : x = jh_ r l u a 7 := by rw [h2, e]; rfl
      unfold jc_ at h
      rw [← e7] at h
      refine hK.1 [8] 60 _ _ _ _ _ ?_
      refine bc_ob_i (by omega) ?_
      refine bc_br_i (fun c => by omega) (fun c => ?_)
      refine bc_ob_i (j_in _) ?_
      refine bc_br_i (fun c => ?_) (fun c => ?_)
      · refine bc_ob_i (by decide) ?_
        exact rt_ h (if_pos c).symm
      · refine bc_ob_i (by decide) ?_
        exact rt_ h (if_neg c).symm
    · refine hK.2 _ _ [(0, bc_R 2), (1, bc_I a), (2, bc_I b), (3, bc_I l), (4, bc_I u), (5, bc_I x), (6, bc_I i)] _ _ _ (ls_ _ _) ?_
      have es : jh_ r l u a (i + 1 - 1).toNat = jf_ r l u (jh_ r l u a (i - 1).toNat) (r 3).toNat := by
        rw [show i + 1 - 1 = (i - 1) + 1 by omega]
        exact fo_s (by omega)
      have hx : bc_in x := by rw [h2]; exact jh_in _
      rw [← h2] at es
      have L1 : ∀ j : Int, ∀ z y, 0 ≤ j → j ≤ r 3 → y = jf_ r l u x j.toNat → K 18 ([(0, bc_R 2), (1, bc_I a), (2, bc_I b), (3, bc_I l), (4, bc_I u), (5, bc_I y), (6, bc_I i), (7, bc_I j)] ++ z) [] σ 0 := by
        refine up_ind (r 3) (fun j hj z y j0 j1 j2 => ?_) (fun j hj jh z y j0 j1 j2 => ?_)
        · refine hK.2 _ _ [(0, bc_R 2), (1, bc_I a), (2, bc_I b), (3, bc_I l), (4, bc_I u), (5, bc_I y), (6, bc_I i), (7, bc_I j)] _ _ _ (ls_ _ _) ?_
          refine hK.1 [8, 18] 60 _ _ _ _ _ ?_
          refine bc_ob_i (by omega) ?_
          refine bc_br_i (fun c => by omega) (fun c => ?_)
          have e : j = r 3 := by omega
          exact ih [(7, bc_I j)] y (by omega) (by omega) (by rw [es, j2, e])
        · refine hK.2 _ _ [(0, bc_R 2), (1, bc_I a), (2, bc_I b), (3, bc_I l), (4, bc_I u), (5, bc_I y), (6, bc_I i), (7, bc_I j)] _ _ _ (ls_ _ _) ?_
          obtain ⟨e1, e2, e3, e4, e5, e6⟩ := c2 j j0 (by omega)
          have hb := br_le hW j0 (by omega)
          have ej : jf_ r l u x (j + 1).toNat = je_ r l u j (jf_ r l u x j.toNat) := fo_s j0
          rw [← j2] at ej
          have nxt : ∀ z' y', y' = je_ r l u j y → K 18 ([(0, bc_R 2), (1, bc_I a), (2, bc_I b), (3, bc_I l), (4, bc_I u), (5, bc_I y'), (6, bc_I i), (7, bc_I (j + 1))] ++ z') [] σ 0 := fun z' y' e => jh z' y' (by omega) (by omega) (by rw [ej, e])
          unfold je_ at nxt
          rw [← e1, ← e2] at nxt
          refine hK.1 [8, 18] 60 _ _ _ _ _ ?_
          refine bc_ob_i (by omega) ?_
          refine bc_br_i (fun c => ?_) (fun c => by omega)
          refine bc_ob_i (by omega) ?_
          refine bc_ob_i (by omega) ?_
          refine bc_ob_i (by omega) ?_
          refine bc_br_i (fun c => ?_) (fun c => ?_)
          · exact nxt [(8, _)] _ (if_neg (fun q => q.1 c)).symm
          · refine bc_ob_i (j_in _) ?_
            refine bc_br_i (fun c2 => ?_) (fun c2 => ?_)
            · exact nxt [(8, _)] _ (if_neg (fun q => q.2.1 c2)).symm
            · refine t_X2_bearingOf hS hW j0 (by omega) ?_
              refine bc_ob_i ⟨by omega, by omega⟩ ?_
              refine bc_br_i (fun c3 => ?_) (fun c3 => ?_)
              · exact nxt [(8, _)] _ (if_neg (fun q => by have := q.2.2; omega)).symm
              · exact nxt [(8, _)] _ (if_pos ⟨c, c2, by omega⟩).symm
      refine hK.1 [8, 18] 60 _ _ _ _ _ ?_
      refine bc_ob_i (by omega) ?_
      refine bc_br_i (fun c => ?_) (fun c => by omega)
      exact L1 0 [] x (by omega) (by omega) rfl
  refine hK.1 [8] 40 _ _ _ _ _ ?_
  exact L 1 [] _ (by omega) (by omega) rfl
end CON
end
section
/-! the script's reading, mirrored: l is the text, p a place in it -/
/-- how many signs of a word stand at p -/
noncomputable def qm_ (l : List Int) (p : Int) : List Nat → Int
  | [] => 0
  | c :: w => if tg_ l p = c then 1 + qm_ l (p + 1) w else 0
theorem qm_c {l : List Int} {p : Int} {c : Nat} {w : List Nat} : qm_ l p (c :: w) = if tg_ l p = c then 1 + qm_ l (p + 1) w else 0 := rfl
theorem qm_le {l : List Int} : ∀ (w : List Nat) (p : Int), 0 ≤ qm_ l p w ∧ qm_ l p w ≤ w.length := by
  intro w
  induction w with
  | nil => intro p; exact ⟨Int.le_refl _, Int.le_refl _⟩
  | cons c w ih =>
    intro p
    have := ih (p + 1)
    unfold qm_
    split
    · rw [List.length_cons]
      omega
    · rw [List.length_cons]
      omega
theorem qm_in {l : List Int} : ∀ (w : List Nat) (p : Int), (∀ c ∈ w, c ≠ 0) → 0 ≤ p → p ≤ l.length → p + qm_ l p w ≤ l.length := by
  intro w
  induction w with
  | nil => intro p _ _ h; show p + 0 ≤ _; omega
  | cons c w ih =>
    intro p hc h0 h1
    unfold qm_
    split
    · rename_i e
      have h2 : p < l.length := by
        unfold tg_ at e
        split at e
        · omega
        · have := hc c (List.mem_cons_self ..)
          omega
      have := ih (p + 1) (fun c h => hc c (List.mem_cons_of_mem _ h)) (by omega) (by omega)
      omega
    · omega
/-- a word is read: its kind or -1, and the place behind; n words are yet to try -/
noncomputable def qw_ (l : List Int) (p : Int) : Nat → Int → Int × Int
  | 0, b => (-1, p + b)
  | n + 1, b => if qm_ l p (bc_tx (9 - n)) = (bc_tx (9 - n)).length then (((9 - n : Nat) : Int), p + qm_ l p (bc_tx (9 - n))) else qw_ l p n (max b (qm_ l p (bc_tx (9 - n))))
/-- digits: the number and the place behind -/
noncomputable def qd_ (l : List Int) : Nat → Int → Int → Int × Int
  | 0, p, v => (v, p)
  | n + 1, p, v => if 48 ≤ tg_ l p ∧ tg_ l p ≤ 57 then qd_ l n (p + 1) (v * 10 + tg_ l p - 48) else (v, p)
noncomputable def qv_ (l : List Int) (p f : Int) : Int × Int := if f = 107 then (if tg_ l p = 99 ∨ tg_ l p = 108 then (tg_ l p, p + 1) else (-1, p)) else (if (qd_ l (if f = 110 then 3 else 1) p 0).2 = p then -1 else (qd_ l (if f = 110 then 3 else 1) p 0).1, (qd_ l (if f = 110 then 3 else 1) p 0).2)
/-- the script's text and place -/
noncomputable def sc_ (σ : bc_M) (l : List Int) (p : Int) : Prop := tx_ σ 196 l ∧ σ.1 195 ((4 : Nat) : Int) = p ∧ 0 ≤ p ∧ p ≤ l.length
/-- only the place has changed -/
noncomputable def sf_ (σ σ' : bc_M) : Prop := fr_ (fun k => k = 195) σ σ' ∧ σ'.1 195 ((3 : Nat) : Int) = σ.1 195 ((3 : Nat) : Int)
theorem sf_refl (σ : bc_M) : sf_ σ σ := ⟨fr_refl _, rfl⟩
theorem sf_trans {a b c : bc_M} (h : sf_ a b) (k : sf_ b c) : sf_ a c := ⟨fr_trans h.1 k.1, k.2.trans h.2⟩
theorem sf_wr {σ : bc_M} {v : Int} : sf_ σ (bc_wr σ 195 ((4 : Nat) : Int) v) := ⟨fr_wr rfl, by simp [bc_wr]⟩
theorem sc_wr {σ : bc_M} {l : List Int} {p v : Int} (h : sc_ σ l p) (h0 : 0 ≤ v) (h1 : v ≤ l.length) : sc_ (bc_wr σ 195 ((4 : Nat) : Int) v) l v := ⟨tx_fr h.1 (fr_wr (P := fun k => k = 195) rfl) (by decide), by simp [bc_wr], h0, h1⟩
theorem tg_in {l : List Int} {p : Int} (h : tg_ l p ≠ 0) : 0 ≤ p ∧ p < l.length := by
  unfold tg_ at h
  split at h
  · assumption
  · exact absurd rfl h
section SCR
variable {g : bc_C} {d : Nat} {σ : bc_M} {l : List Int} {p : Int} {Rr : Option bc_A → bc_M → Prop} {X : Nat → bc_M → Prop}
theorem t_X5_accept {c : Int} (hS : sc_ σ l p) (hc : 0 < c ∧ c ≤ 65535) (h1 : tg_ l p = c → p < l.length → ∀ σ', sc_ σ' l (p + 1) → sf_ σ σ' → Rr (some (bc_I 1)) σ') (h0 : tg_ l p ≠ c → Rr (some (bc_I 0)) σ) : bc_Sem g (d + 3) mX5_accept [bc_R 195, bc_I c] σ Rr X := by
  obtain ⟨s1, s2, s3, s4⟩ := id hS
  have s5 := s1.2.1
  have hg := tg_le s1.2.2.2 p
  have l2 : σ.1 195 4 = p := s2
  refine e_X5_accept rfl (fun K hK => ?_)
  refine hK.1 [] 60 _ _ _ _ _ ?_
  refine t_X7_at (.inl rfl) s1 (by rw [s2]; constructor <;> omega) ?_
  rw [s2]
  refine bc_ob_i (by omega) ?_
  refine bc_br_i (fun e => ?_) (fun e => ?_)
  · refine bc_ob_i (by decide) ?_
    have hp := tg_in (l := l) (p := p) (by omega)
    refine h1 e hp.2 _ ?_ sf_wr
    rw [s2]
    exact sc_wr hS (by omega) (by omega)
  · refine bc_ob_i (by decide) ?_
    exact h0 e
theorem t_X5_isDigit {c : Int} (hc : 0 ≤ c ∧ c ≤ 65535) (h : Rr (some (bc_I (if 48 ≤ c ∧ c ≤ 57 then 1 else 0))) σ) : bc_Sem g (d + 1) mX5_isDigit [bc_I c] σ Rr X := by
  refine e_X5_isDigit rfl (fun K hK => ?_)
  refine hK.1 [] 60 _ _ _ _ _ ?_
  refine bc_ob_i (by omega) ?_
  refine bc_br_i (fun e => ?_) (fun e => ?_)
  · refine bc_ob_i (by decide) ?_
    exact rt_ h (if_neg (by omega)).symm
  · refine bc_ob_i (by omega) ?_
    refine bc_br_i (fun e2 => ?_) (fun e2 => ?_)
    · refine bc_ob_i (by decide) ?_
      exact rt_ h (if_neg (by omega)).symm
    · refine bc_ob_i (by decide) ?_
      exact rt_ h (if_pos (by omega)).symm
theorem t_X5_wordOf {k : Nat} (hk : k < 10) (h : Rr (some (bc_R (1000 + k))) σ) : bc_Sem g (d + 1) mX5_wordOf [bc_I k] σ Rr X := by
  have : k = 0 ∨ k = 1 ∨ k = 2 ∨ k = 3 ∨ k = 4 ∨ k = 5 ∨ k = 6 ∨ k = 7 ∨ k = 8 ∨ k = 9 := by omega
  refine e_X5_wordOf rfl (fun K hK => ?_)
  refine hK.1 [] 60 _ _ _ _ _ ?_
  refine bc_ob_i (by omega) ?_
  rcases this with rfl | rfl | rfl | rfl | rfl | rfl | rfl | rfl | rfl | rfl
  all_goals
    repeat' refine bc_br_i (fun c => ?_) (fun c => ?_)
  all_goals first | (exfalso; revert c; decide) | exact h | (exfalso; omega)
theorem t_X5_matchedLength {w : Nat} (hw : w ≤ 16) (hS : sc_ σ l p) (h : Rr (some (bc_I (qm_ l p (bc_tx w)))) σ) : bc_Sem g (d + 3) mX5_matchedLength [bc_R 195, bc_R (1000 + w)] σ Rr X := by
  obtain ⟨s1, s2, s3, s4⟩ := id hS
  have s5 := s1.2.1
  have l2 : σ.1 195 4 = p := s2
  have hlen : (bc_tx w).length ≤ 60 := by
    have : w = 0 ∨ w = 1 ∨ w = 2 ∨ w = 3 ∨ w = 4 ∨ w = 5 ∨ w = 6 ∨ w = 7 ∨ w = 8 ∨ w = 9 ∨ w = 10 ∨ w = 11 ∨ w = 12 ∨ w = 13 ∨ w = 14 ∨ w = 15 ∨ w = 16 := by omega
    rcases this with rfl | rfl | rfl | rfl | rfl | rfl | rfl | rfl | rfl | rfl | rfl | rfl | rfl | rfl | rfl | rfl | rfl <;> decide
  have hbig : ∀ c ∈ bc_tx w, c ≤ 65535 := by
    have : w = 0 ∨ w = 1 ∨ w = 2 ∨ w = 3 ∨ w = 4 ∨ w = 5 ∨ w = 6 ∨ w = 7 ∨ w = 8 ∨ w = 9 ∨ w = 10 ∨ w = 11 ∨ w = 12 ∨ w = 13 ∨ w = 14 ∨ w = 15 ∨ w = 16 := by omega
    rcases this with rfl | rfl | rfl | rfl | rfl | rfl | rfl | rfl | rfl | rfl | rfl | rfl | rfl | rfl | rfl | rfl | rfl <;> decide
  have ew : 1000 + w - 1000 = w := by omega
  refine e_X5_matchedLength rfl (fun K hK => ?_)
  have L : ∀ i : Int, 0 ≤ i → i ≤ (bc_tx w).length → qm_ l p (bc_tx w) = i + qm_ l (p + i) ((bc_tx w).drop i.toNat) → K 2 [(0, bc_R 195), (1, bc_R (1000 + w)), (2, bc_I i)] [] σ 0 := by
    refine up_ind ((bc_tx w).length) (fun i hi h0 h1 h2 => ?_) (fun i hi ih h0 h1 h2 => ?_)
    · refine hK.1 [2] 60 _ _ _ _ _ ?_
      refine bc_ob_i ⟨⟨by omega, by omega⟩, Nat.le_of_ble_eq_true rfl⟩ ?_
      rw [ew]
      refine bc_ob_i (by omega) ?_
      refine bc_br_i (fun c => absurd c (by omega)) (fun c => ?_)
      refine rt_ h ?_
      rw [h2, List.drop_eq_nil_of_le (by omega)]
      show i = i + 0
      omega
    · have hlt : i.toNat < (bc_tx w).length := by omega
      have hd : (bc_tx w).drop i.toNat = (bc_tx w)[i.toNat] :: (bc_tx w).drop (i.toNat + 1) := List.drop_eq_getElem_cons hlt
      have hge : (bc_tx w).getD i.toNat 0 = (bc_tx w)[i.toNat] := by rw [List.getD_eq_getElem?_getD, List.getElem?_eq_getElem hlt]; rfl
      have hc := hbig _ (List.getElem_mem hlt)
      have hg := tg_le s1.2.2.2 (p + i)
      rw [hd, qm_c] at h2
      refine hK.1 [2] 60 _ _ _ _ _ ?_
      refine bc_ob_i ⟨⟨by omega, by omega⟩, Nat.le_of_ble_eq_true rfl⟩ ?_
      rw [ew]
      refine bc_ob_i (by omega) ?_
      refine bc_br_i (fun c => ?_) (fun c => absurd hi (by omega))
      refine t_X7_at (.inl rfl) s1 (by rw [s2]; constructor <;> omega) ?_
      rw [s2]
      refine bc_ob_i ⟨⟨⟨by omega, by omega⟩, Nat.le_of_ble_eq_true rfl⟩, h0, by rw [ew]; exact hi⟩ ?_
      rw [ew, hge]
      refine bc_ob_i (by constructor <;> constructor <;> omega) ?_
      refine bc_br_i (fun c => ?_) (fun c => ?_)
      · rw [if_pos c] at h2
        refine ih (by omega) (by omega) ?_
        rw [h2, show (i + 1).toNat = i.toNat + 1 by omega, show p + (i + 1) = p + i + 1 by omega]
        omega
      · rw [if_neg c] at h2
        exact rt_ h (by omega)
  refine hK.1 [2] 40 _ _ _ _ _ ?_
  exact L 0 (by omega) (by omega) (by simp)
end SCR
end
section
theorem qw_s {l : List Int} {p b : Int} {n : Nat} : qw_ l p (n + 1) b = if qm_ l p (bc_tx (9 - n)) = (bc_tx (9 - n)).length then (((9 - n : Nat) : Int), p + qm_ l p (bc_tx (9 - n))) else qw_ l p n (max b (qm_ l p (bc_tx (9 - n)))) := rfl
theorem qw_le {l : List Int} {p : Int} : ∀ (n : Nat) {b : Int}, n ≤ 10 → 0 ≤ p → p ≤ l.length → l.length ≤ 60 → 0 ≤ b → p + b ≤ l.length → p ≤ (qw_ l p n b).2 ∧ (qw_ l p n b).2 ≤ l.length ∧ -1 ≤ (qw_ l p n b).1 ∧ (qw_ l p n b).1 ≤ 9 := by
  intro n
  induction n with
  | zero => intro b _ h0 h1 h2 h3 h4; exact ⟨by show p ≤ p + b; omega, h4, by show -1 ≤ (-1 : Int); omega, by show (-1 : Int) ≤ 9; omega⟩
  | succ n ih =>
    intro b hn h0 h1 h2 h3 h4
    have hz : ∀ c ∈ bc_tx (9 - n), c ≠ 0 := by
      have : n = 0 ∨ n = 1 ∨ n = 2 ∨ n = 3 ∨ n = 4 ∨ n = 5 ∨ n = 6 ∨ n = 7 ∨ n = 8 ∨ n = 9 := by omega
      rcases this with rfl | rfl | rfl | rfl | rfl | rfl | rfl | rfl | rfl | rfl <;> decide
    have q1 := qm_in (bc_tx (9 - n)) p hz h0 h1
    have q2 := qm_le (l := l) (bc_tx (9 - n)) p
    unfold qw_
    split
    · exact ⟨by simp only; omega, by simp only; omega, by simp only; omega, by simp only; omega⟩
    · exact ih (by omega) h0 h1 h2 (by omega) (by omega)
theorem qd_le {l : List Int} : ∀ (n : Nat) {p v : Int}, 0 ≤ p → p ≤ l.length → 0 ≤ v → p ≤ (qd_ l n p v).2 ∧ (qd_ l n p v).2 ≤ p + n ∧ (qd_ l n p v).2 ≤ l.length ∧ 0 ≤ (qd_ l n p v).1 := by
  intro n
  induction n with
  | zero => intro p v h0 h1 h2; exact ⟨Int.le_refl _, by show p ≤ p + 0; omega, h1, h2⟩
  | succ n ih =>
    intro p v h0 h1 h2
    unfold qd_
    split
    · rename_i e
      have hp := tg_in (l := l) (p := p) (by omega)
      have := ih (p := p + 1) (v := v * 10 + tg_ l p - 48) (by omega) (by omega) (by omega)
      omega
    · exact ⟨Int.le_refl _, by simp only; omega, h1, h2⟩
theorem qd_3 {l : List Int} : ∀ (n : Nat) {p v M : Int}, 0 ≤ v → v ≤ M → (qd_ l n p v).1 ≤ (M + 1) * (10 ^ n : Nat) - 1 := by
  intro n
  induction n with
  | zero => intro p v M h0 h1; show v ≤ (M + 1) * 1 - 1; omega
  | succ n ih =>
    intro p v M h0 h1
    have hp : (1 : Int) ≤ (10 ^ n : Nat) := by
      have := Nat.pos_of_ne_zero (show 10 ^ n ≠ 0 by simp)
      omega
    have e : (M + 1) * ((10 ^ (n + 1) : Nat) : Int) = (M + 1) * (10 ^ n : Nat) * 10 := by
      rw [Nat.pow_succ, Int.natCast_mul, ← Int.mul_assoc]
      rfl
    unfold qd_
    split
    · have := ih (p := p + 1) (v := v * 10 + tg_ l p - 48) (M := M * 10 + 9) (by omega) (by omega)
      have e2 : (M * 10 + 9 + 1) * ((10 ^ n : Nat) : Int) = (M + 1) * (10 ^ n : Nat) * 10 := by
        rw [show M * 10 + 9 + 1 = (M + 1) * 10 by omega, Int.mul_assoc, Int.mul_comm 10, ← Int.mul_assoc]
      omega
    · have h5 : (M + 1) * 1 ≤ (M + 1) * ((10 ^ n : Nat) : Int) := Int.mul_le_mul_of_nonneg_left hp (by omega)
      simp only
      omega
theorem qv_le {l : List Int} {p f : Int} (h0 : 0 ≤ p) (h1 : p ≤ l.length) : p ≤ (qv_ l p f).2 ∧ (qv_ l p f).2 ≤ l.length ∧ -1 ≤ (qv_ l p f).1 ∧ (qv_ l p f).1 ≤ 999 := by
  unfold qv_
  split
  · split
    · rename_i e
      have hp := tg_in (l := l) (p := p) (by omega)
      exact ⟨by simp only; omega, by simp only; omega, by simp only; omega, by simp only; omega⟩
    · exact ⟨Int.le_refl _, h1, by simp only; omega, by simp only; omega⟩
  · have q1 := qd_le (l := l) (if f = 110 then 3 else 1) (p := p) (v := 0) h0 h1 (by omega)
    have q2 : (qd_ l (if f = 110 then 3 else 1) p 0).1 ≤ 999 := by
      split
      · have := qd_3 (l := l) 3 (p := p) (v := 0) (M := 0) (by omega) (by omega)
        have e : (0 + 1 : Int) * ((10 ^ 3 : Nat) : Int) - 1 = 999 := by decide
        omega
      · have := qd_3 (l := l) 1 (p := p) (v := 0) (M := 0) (by omega) (by omega)
        have e : (0 + 1 : Int) * ((10 ^ 1 : Nat) : Int) - 1 = 9 := by decide
        omega
    generalize (if f = 110 then (3 : Nat) else 1) = m at *
    refine ⟨q1.1, q1.2.2.1, ?_, ?_⟩
    · simp only; split <;> omega
    · simp only; split <;> omega
section SCR
variable {g : bc_C} {d : Nat} {σ : bc_M} {l : List Int} {p : Int} {Rr : Option bc_A → bc_M → Prop} {X : Nat → bc_M → Prop}
theorem t_X5_readWord (hS : sc_ σ l p) (h : ∀ σ', sc_ σ' l (qw_ l p 10 0).2 → sf_ σ σ' → Rr (some (bc_I (qw_ l p 10 0).1)) σ') : bc_Sem g (d + 4) mX5_readWord [bc_R 195] σ Rr X := by
  obtain ⟨s1, s2, s3, s4⟩ := id hS
  have s5 := s1.2.1
  have l2 : σ.1 195 4 = p := s2
  generalize hW : qw_ l p 10 0 = W at *
  refine e_X5_readWord rfl (fun K hK => ?_)
  have L : ∀ n : Nat, n ≤ 10 → ∀ b z, 0 ≤ b → p + b ≤ l.length → W = qw_ l p n b → K 4 ([(0, bc_R 195), (1, bc_I b), (2, bc_I (10 - n))] ++ z) [] σ 0 := by
    intro n
    induction n with
    | zero =>
      intro hn b z b0 b1 h1
      refine hK.2 _ _ [(0, bc_R 195), (1, bc_I b), (2, bc_I (10 - ((0 : Nat) : Int)))] _ _ _ (ls_ _ _) ?_
      refine hK.1 [4] 60 _ _ _ _ _ ?_
      refine bc_ob_i (by omega) ?_
      refine bc_br_i (fun c => by omega) (fun c => ?_)
      rw [h1] at h
      refine h _ ?_ sf_wr
      rw [s2]
      exact sc_wr hS (by omega) b1
    | succ n ih =>
      intro hn b z b0 b1 h1
      refine hK.2 _ _ [(0, bc_R 195), (1, bc_I b), (2, bc_I (10 - ((n + 1 : Nat) : Int)))] _ _ _ (ls_ _ _) ?_
      have ek : 10 - ((n + 1 : Nat) : Int) = ((9 - n : Nat) : Int) := by omega
      rw [ek]
      have hz : (∀ c ∈ bc_tx (9 - n), c ≠ 0) ∧ (bc_tx (9 - n)).length ≤ 60 := by
        have : n = 0 ∨ n = 1 ∨ n = 2 ∨ n = 3 ∨ n = 4 ∨ n = 5 ∨ n = 6 ∨ n = 7 ∨ n = 8 ∨ n = 9 := by omega
        rcases this with rfl | rfl | rfl | rfl | rfl | rfl | rfl | rfl | rfl | rfl <;> decide
      have q1 := qm_in (bc_tx (9 - n)) p hz.1 s3 s4
      have q2 := qm_le (l := l) (bc_tx (9 - n)) p
      have e1 : 1000 + (9 - n) - 1000 = 9 - n := by omega
      refine hK.1 [4] 60 _ _ _ _ _ ?_
      refine bc_ob_i (by omega) ?_
      refine bc_br_i (fun c => ?_) (fun c => by omega)
      refine t_X5_wordOf (k := 9 - n) (by omega) ?_
      refine t_X5_matchedLength (w := 9 - n) (by omega) hS ?_
      refine t_X5_wordOf (k := 9 - n) (by omega) ?_
      refine bc_ob_i ⟨⟨by omega, by omega⟩, Nat.le_of_ble_eq_true rfl⟩ ?_
      rw [e1]
      rw [qw_s] at h1
      refine bc_ob_i (by constructor <;> constructor <;> omega) ?_
      refine bc_br_i (fun c => ?_) (fun c => ?_)
      · rw [if_pos c] at h1
        rw [h1] at h
        refine h _ ?_ sf_wr
        rw [s2]
        exact sc_wr hS (by omega) q1
      · rw [if_neg c] at h1
        refine bc_ob_i ⟨by constructor <;> omega, by constructor <;> omega, Nat.le_of_ble_eq_true rfl⟩ ?_
        have en : ((9 - n : Nat) : Int) + 1 = 10 - (n : Int) := by omega
        have nx := ih (by omega) _ [(3, bc_I (qm_ l p (bc_tx (9 - n))))] (by omega) (by omega) h1
        rw [← en] at nx
        exact nx
  refine hK.1 [4] 40 _ _ _ _ _ ?_
  exact L 10 (Nat.le_refl _) 0 [] (by omega) (by omega) hW.symm
end SCR
end
section
/-! arguments; c is the command's number -/
noncomputable def qg_ (l : List Int) (c : Int) : List Nat → Int → Int → gr_t → Int × Int × gr_t
  | [], p, _, A => (1, p, A)
  | f :: fs, p, n, A => if (f : Int) = 32 then (if tg_ l p = 32 then qg_ l c fs (p + 1) n A else (0, p, A)) else if (qv_ l p f).1 = -1 ∨ 3 ≤ n then (0, (qv_ l p f).2, A) else qg_ l c fs (qv_ l p f).2 (n + 1) (ug_ A c n (qv_ l p f).1)
theorem qd_s {l : List Int} {p v : Int} {n : Nat} : qd_ l (n + 1) p v = if 48 ≤ tg_ l p ∧ tg_ l p ≤ 57 then qd_ l n (p + 1) (v * 10 + tg_ l p - 48) else (v, p) := rfl
theorem qg_c {l : List Int} {c p n : Int} {f : Nat} {fs : List Nat} {A : gr_t} : qg_ l c (f :: fs) p n A = if (f : Int) = 32 then (if tg_ l p = 32 then qg_ l c fs (p + 1) n A else (0, p, A)) else if (qv_ l p f).1 = -1 ∨ 3 ≤ n then (0, (qv_ l p f).2, A) else qg_ l c fs (qv_ l p f).2 (n + 1) (ug_ A c n (qv_ l p f).1) := rfl
/-- the form of a kind -/
noncomputable def fx_ (k : Int) : Nat := if k = 0 ∨ k = 1 then 10 else if k = 2 then 11 else if k = 7 then 12 else if k = 8 then 13 else if k = 9 then 14 else 15
noncomputable def qa_ (l : List Int) (p c k : Int) (A : gr_t) : Int × Int × gr_t := if k = 9 ∧ tg_ l p ≠ 32 then (1, p, ug_ A c 0 1) else qg_ l c (bc_tx (fx_ k)) p 0 A
noncomputable def s3_ (σ : bc_M) (A : gr_t) : Prop := ∀ i j : Int, 0 ≤ i → i < 16 → 0 ≤ j → j < 3 → σ.1 199 (((3 : Nat) : Int) * i + j) = A i j
noncomputable def g3_ (A : gr_t) : Prop := ∀ i j : Int, 0 ≤ i → i < 16 → 0 ≤ j → j < 3 → 0 ≤ A i j ∧ A i j ≤ 999
theorem s3_wr {σ : bc_M} {A : gr_t} {i j v : Int} (i0 : 0 ≤ i) (i1 : i < 16) (j0 : 0 ≤ j) (j1 : j < 3) (h : s3_ σ A) : s3_ (bc_wr σ 199 (((3 : Nat) : Int) * i + j) v) (ug_ A i j v) := fun a b a0 a1 b0 b1 => by
  have := h a b a0 a1 b0 b1
  simp only [bc_wr, ug_, if_true]
  by_cases e : a = i ∧ b = j
  · rw [if_pos e, if_pos (by rw [e.1, e.2])]
  · rw [if_neg e, if_neg (by omega)]
    exact this
theorem g3_up {A : gr_t} {i j v : Int} (h : g3_ A) (hv : 0 ≤ v ∧ v ≤ 999) : g3_ (ug_ A i j v) := fun a b a0 a1 b0 b1 => by
  have := h a b a0 a1 b0 b1
  unfold ug_
  split <;> omega
theorem s3_fr {P : Nat → Prop} {σ σ' : bc_M} {A : gr_t} (h : s3_ σ A) (hf : fr_ P σ σ') (hp : ¬ P 199) : s3_ σ' A := fun i j a b c' d => by rw [hf.1 199 hp]; exact h i j a b c' d
theorem qg_le {l : List Int} {c : Int} : ∀ (fs : List Nat) {p n : Int} {A : gr_t}, 0 ≤ p → p ≤ l.length → g3_ A → (p ≤ (qg_ l c fs p n A).2.1 ∧ (qg_ l c fs p n A).2.1 ≤ l.length) ∧ g3_ (qg_ l c fs p n A).2.2 ∧ 0 ≤ (qg_ l c fs p n A).1 ∧ (qg_ l c fs p n A).1 ≤ 1 := by
  intro fs
  induction fs with
  | nil => intro p n A h0 h1 h2; exact ⟨⟨Int.le_refl _, h1⟩, h2, by show 0 ≤ (1 : Int) ∧ (1 : Int) ≤ 1; decide⟩
  | cons f fs ih =>
    intro p n A h0 h1 h2
    have q := qv_le (l := l) (f := f) h0 h1
    rw [qg_c]
    split
    · split
      · rename_i e
        have hp := tg_in (l := l) (p := p) (by omega)
        have := ih (p := p + 1) (n := n) (A := A) (by omega) (by omega) h2
        exact ⟨⟨by omega, this.1.2⟩, this.2⟩
      · exact ⟨⟨Int.le_refl _, h1⟩, h2, by show 0 ≤ (0 : Int) ∧ (0 : Int) ≤ 1; decide⟩
    · split
      · exact ⟨⟨q.1, q.2.1⟩, h2, by show 0 ≤ (0 : Int) ∧ (0 : Int) ≤ 1; decide⟩
      · rename_i hn
        have := ih (p := (qv_ l p f).2) (n := n + 1) (A := ug_ A c n (qv_ l p f).1) (by omega) (by omega) (g3_up h2 (by omega))
        exact ⟨⟨by omega, this.1.2⟩, this.2⟩
theorem qa_le {l : List Int} {p c k : Int} {A : gr_t} (h0 : 0 ≤ p) (h1 : p ≤ l.length) (h2 : g3_ A) : (p ≤ (qa_ l p c k A).2.1 ∧ (qa_ l p c k A).2.1 ≤ l.length) ∧ g3_ (qa_ l p c k A).2.2 ∧ 0 ≤ (qa_ l p c k A).1 ∧ (qa_ l p c k A).1 ≤ 1 := by
  unfold qa_
  split
  · exact ⟨⟨Int.le_refl _, h1⟩, g3_up h2 (by decide), by show 0 ≤ (1 : Int) ∧ (1 : Int) ≤ 1; decide⟩
  · exact qg_le _ h0 h1 h2
/-- what reading arguments may change -/
noncomputable def sh_ (σ σ' : bc_M) : Prop := fr_ (fun k => k = 195 ∨ k = 199) σ σ' ∧ σ'.1 195 ((3 : Nat) : Int) = σ.1 195 ((3 : Nat) : Int)
theorem sh_of {σ σ' : bc_M} (h : sf_ σ σ') : sh_ σ σ' := ⟨fr_mono h.1 (by omega), h.2⟩
theorem sh_refl (σ : bc_M) : sh_ σ σ := ⟨fr_refl _, rfl⟩
theorem sh_trans {a b c : bc_M} (h : sh_ a b) (k : sh_ b c) : sh_ a c := ⟨fr_trans h.1 k.1, k.2.trans h.2⟩
theorem sh_wr {σ : bc_M} {j v : Int} : sh_ σ (bc_wr σ 199 j v) := ⟨fr_wr (.inr rfl), by simp [bc_wr]⟩
theorem sc_fr {P : Nat → Prop} {σ σ' : bc_M} {l : List Int} {p : Int} (h : sc_ σ l p) (hf : fr_ P σ σ') (hp : ¬ P 195 ∧ ¬ P 196 ∧ ¬ P 197) : sc_ σ' l p := ⟨tx_fr h.1 hf hp.2, by rw [hf.1 195 hp.1]; exact h.2.1, h.2.2⟩
section SCR
variable {g : bc_C} {d : Nat} {σ : bc_M} {l : List Int} {p : Int} {Rr : Option bc_A → bc_M → Prop} {X : Nat → bc_M → Prop}
theorem t_X5_readValue {f : Int} (hS : sc_ σ l p) (hf : 0 ≤ f ∧ f ≤ 65535) (h : ∀ σ', sc_ σ' l (qv_ l p f).2 → sf_ σ σ' → Rr (some (bc_I (qv_ l p f).1)) σ') : bc_Sem g (d + 4) mX5_readValue [bc_R 195, bc_I f] σ Rr X := by
  obtain ⟨s1, s2, s3, s4⟩ := id hS
  have s5 := s1.2.1
  have hg := tg_le s1.2.2.2 p
  refine e_X5_readValue rfl (fun K hK => ?_)
  unfold qv_ at h
  by_cases hk : f = 107
  · rw [if_pos hk] at h
    refine hK.1 [] 60 _ _ _ _ _ ?_
    refine bc_ob_i (by omega) ?_
    refine bc_br_i (fun _ => ?_) (fun c => absurd hk c)
    refine t_X7_at (.inl rfl) s1 (by rw [s2]; constructor <;> omega) ?_
    rw [s2]
    refine t_X5_accept (c := 99) hS (by decide) (fun e he σ' h1 h2 => ?_) (fun e => ?_)
    · rw [if_pos (.inl e)] at h
      refine bc_ob_i (by decide) ?_
      refine bc_br_i (fun c => by omega) (fun _ => ?_)
      exact h σ' h1 h2
    · refine bc_ob_i (by decide) ?_
      refine bc_br_i (fun _ => ?_) (fun c => absurd rfl c)
      refine t_X5_accept (c := 108) hS (by decide) (fun e2 he σ' h1 h2 => ?_) (fun e2 => ?_)
      · rw [if_pos (.inr e2)] at h
        refine bc_ob_i (by decide) ?_
        refine bc_br_i (fun c => by omega) (fun _ => ?_)
        exact h σ' h1 h2
      · rw [if_neg (by omega)] at h
        refine bc_ob_i (by decide) ?_
        refine bc_br_i (fun _ => ?_) (fun c => absurd rfl c)
        exact h σ hS (sf_refl _)
  · rw [if_neg hk] at h
    have q1 := qd_le (l := l) (if f = 110 then 3 else 1) (p := p) (v := 0) s3 s4 (by omega)
    generalize hQ : qd_ l (if f = 110 then 3 else 1) p 0 = Q at *
    have F : ∀ (m i v q : Int) (σ' : bc_M), 0 ≤ i → i ≤ 3 → q = p + i → Q = (v, q) → sc_ σ' l q → sf_ σ σ' → K 118 [(0, bc_R 195), (1, bc_I f), (2, bc_I m), (3, bc_I v), (4, bc_I i)] [] σ' 0 := by
      intro m i v q σ' i0 i3 hq he hs hh
      rw [he] at h
      refine hK.1 [] 60 _ _ _ _ _ ?_
      refine bc_ob_i (by omega) ?_
      refine bc_br_i (fun c => ?_) (fun c => ?_)
      · exact rt_ (h σ' hs hh) (if_pos (by simp only; omega)).symm
      · exact rt_ (h σ' hs hh) (if_neg (by simp only; omega)).symm
    have L : ∀ n : Nat, ∀ (m i v q : Int) (σ' : bc_M), m = i + n → 0 ≤ i → m ≤ 3 → q = p + i → Q = qd_ l n q v → sc_ σ' l q → sf_ σ σ' → K 59 [(0, bc_R 195), (1, bc_I f), (2, bc_I m), (3, bc_I v), (4, bc_I i)] [] σ' 0 := by
      intro n
      induction n with
      | zero =>
        intro m i v q σ' hm i0 m3 hq he hs hh
        refine hK.1 [59, 118] 60 _ _ _ _ _ ?_
        refine bc_ob_i (by omega) ?_
        refine bc_br_i (fun c => by omega) (fun _ => ?_)
        exact F m i v q σ' i0 (by omega) hq he hs hh
      | succ n ih =>
        intro m i v q σ' hm i0 m3 hq he hs hh
        obtain ⟨t1, t2, t3, t4⟩ := id hs
        have hg := tg_le t1.2.2.2 q
        rw [qd_s] at he
        refine hK.1 [59, 118] 60 _ _ _ _ _ ?_
        refine bc_ob_i (by omega) ?_
        refine bc_br_i (fun _ => ?_) (fun c => by omega)
        refine t_X7_at (.inl rfl) t1 (by rw [t2]; constructor <;> omega) ?_
        rw [t2]
        refine t_X5_isDigit hg ?_
        by_cases hd : 48 ≤ tg_ l q ∧ tg_ l q ≤ 57
        · rw [if_pos hd] at he ⊢
          have hin := tg_in (l := l) (p := q) (by omega)
          refine bc_ob_i (by decide) ?_
          refine bc_br_i (fun c => by omega) (fun _ => ?_)
          refine t_X7_at (.inl rfl) t1 (by rw [t2]; constructor <;> omega) ?_
          rw [t2]
          refine ih m (i + 1) _ (q + 1) _ (by omega) (by omega) m3 (by omega) he ?_ (sf_trans hh sf_wr)
          rw [t2]
          exact sc_wr hs (by omega) (by omega)
        · rw [if_neg hd] at he ⊢
          refine bc_ob_i (by decide) ?_
          refine bc_br_i (fun _ => ?_) (fun c => absurd rfl c)
          exact F m i v q σ' i0 (by omega) hq he hs hh
    refine hK.1 [59] 60 _ _ _ _ _ ?_
    refine bc_ob_i (by omega) ?_
    refine bc_br_i (fun c => absurd c hk) (fun _ => ?_)
    refine bc_ob_i (by omega) ?_
    refine bc_br_i (fun c => ?_) (fun c => ?_)
    · rw [if_pos c] at hQ
      exact L 3 3 0 0 p σ (by omega) (by omega) (by omega) (by omega) hQ.symm hS (sf_refl _)
    · rw [if_neg c] at hQ
      exact L 1 1 0 0 p σ (by omega) (by omega) (by omega) (by omega) hQ.symm hS (sf_refl _)
theorem t_X5_formOf {k : Nat} (hk : k < 10) (h : Rr (some (bc_R (1000 + fx_ k))) σ) : bc_Sem g (d + 1) mX5_formOf [bc_I k] σ Rr X := by
  have : k = 0 ∨ k = 1 ∨ k = 2 ∨ k = 3 ∨ k = 4 ∨ k = 5 ∨ k = 6 ∨ k = 7 ∨ k = 8 ∨ k = 9 := by omega
  refine e_X5_formOf rfl (fun K hK => ?_)
  refine hK.1 [] 60 _ _ _ _ _ ?_
  refine bc_ob_i (by omega) ?_
  rcases this with rfl | rfl | rfl | rfl | rfl | rfl | rfl | rfl | rfl | rfl
  all_goals
    repeat' refine bc_br_i (fun c => ?_) (fun c => ?_)
  all_goals first | (exfalso; revert c; decide) | exact h | (exfalso; omega)
theorem t_X5_readArguments {c : Int} {k : Nat} {A : gr_t} (hS : sc_ σ l p) (hc : σ.1 195 ((3 : Nat) : Int) = c) (c0 : 0 ≤ c) (c1 : c < 16) (hA : s3_ σ A) (gA : g3_ A) (hk : k < 10) (h : ∀ σ', sc_ σ' l (qa_ l p c k A).2.1 → s3_ σ' (qa_ l p c k A).2.2 → sh_ σ σ' → Rr (some (bc_I (qa_ l p c k A).1)) σ') : bc_Sem g (d + 5) mX5_readArguments [bc_R 195, bc_I k] σ Rr X := by
  obtain ⟨s1, s2, s3, s4⟩ := id hS
  have s5 := s1.2.1
  have hg := tg_le s1.2.2.2 p
  subst hc
  have hf : fx_ k ≤ 16 ∧ (bc_tx (fx_ k)).length ≤ 4 ∧ ∀ f ∈ bc_tx (fx_ k), f ≤ 65535 := by
    have : k = 0 ∨ k = 1 ∨ k = 2 ∨ k = 3 ∨ k = 4 ∨ k = 5 ∨ k = 6 ∨ k = 7 ∨ k = 8 ∨ k = 9 := by omega
    rcases this with rfl | rfl | rfl | rfl | rfl | rfl | rfl | rfl | rfl | rfl <;> decide
  refine e_X5_readArguments rfl (fun K hK => ?_)
  by_cases h9 : (k : Int) = 9 ∧ tg_ l p ≠ 32
  · have e : qa_ l p (σ.1 195 ((3 : Nat) : Int)) k A = (1, p, ug_ A (σ.1 195 ((3 : Nat) : Int)) 0 1) := if_pos h9
    rw [e] at h
    refine hK.1 [] 60 _ _ _ _ _ ?_
    refine bc_ob_i ⟨c0, c1⟩ ?_
    refine bc_ob_i (by omega) ?_
    refine bc_br_i (fun _ => ?_) (fun c => absurd h9.1 c)
    refine t_X7_at (.inl rfl) s1 (by rw [s2]; constructor <;> omega) ?_
    rw [s2]
    refine bc_ob_i (by omega) ?_
    refine bc_br_i (fun c => absurd c h9.2) (fun _ => ?_)
    refine bc_ob_i ⟨⟨c0, c1⟩, by decide⟩ ?_
    refine bc_ob_i (by decide) ?_
    exact h _ (sc_fr hS (fr_wr (P := fun k => k = 199) rfl) (by decide)) (s3_wr c0 c1 (by decide) (by decide) hA) sh_wr
  · have e : qa_ l p (σ.1 195 ((3 : Nat) : Int)) k A = qg_ l (σ.1 195 ((3 : Nat) : Int)) (bc_tx (fx_ k)) p 0 A := if_neg h9
    rw [e] at h
    generalize hw : fx_ k = w at *
    have ew : 1000 + w - 1000 = w := by omega
    generalize hQ : qg_ l (σ.1 195 ((3 : Nat) : Int)) (bc_tx w) p 0 A = Q at *
    have L : ∀ (fs : List Nat) (i n q : Int) (B : gr_t) (z : bc_LV) (σ' : bc_M), (bc_tx w).drop i.toNat = fs → 0 ≤ i → i ≤ (bc_tx w).length → 0 ≤ n → n ≤ i → Q = qg_ l (σ.1 195 ((3 : Nat) : Int)) fs q n B → sc_ σ' l q → s3_ σ' B → g3_ B → sh_ σ σ' → K 49 ([(0, bc_R 195), (1, bc_I k), (2, bc_G 199 (σ.1 195 ((3 : Nat) : Int))), (3, bc_R (1000 + w)), (4, bc_I n), (5, bc_I i)] ++ z) [] σ' 0 := by
      intro fs
      induction fs with
      | nil =>
        intro i n q B z σ' h1 i0 i1 n0 ni he hs ha hb hh
        have il : (bc_tx w).length ≤ i.toNat := List.drop_eq_nil_iff.mp h1
        refine hK.2 _ _ [(0, bc_R 195), (1, bc_I k), (2, bc_G 199 (σ.1 195 ((3 : Nat) : Int))), (3, bc_R (1000 + w)), (4, bc_I n), (5, bc_I i)] _ _ _ (ls_ _ _) ?_
        refine hK.1 [49] 60 _ _ _ _ _ ?_
        refine bc_ob_i ⟨⟨by omega, by omega⟩, Nat.le_of_ble_eq_true rfl⟩ ?_
        rw [ew]
        refine bc_ob_i (by omega) ?_
        refine bc_br_i (fun c => by omega) (fun c => ?_)
        refine bc_ob_i (by decide) ?_
        rw [he] at h
        exact h σ' hs ha hh
      | cons f fs ih =>
        intro i n q B z σ' h1 i0 i1 n0 ni he hs ha hb hh
        have hlt : i.toNat < (bc_tx w).length := by
          rcases Nat.lt_or_ge i.toNat (bc_tx w).length with q | q
          · exact q
          · rw [List.drop_eq_nil_of_le q] at h1; cases h1
        have hd : (bc_tx w).drop i.toNat = (bc_tx w)[i.toNat] :: (bc_tx w).drop (i.toNat + 1) := List.drop_eq_getElem_cons hlt
        rw [hd] at h1
        injection h1 with h1a h1b
        have hge : (bc_tx w).getD i.toNat 0 = f := by rw [List.getD_eq_getElem?_getD, List.getElem?_eq_getElem hlt]; exact h1a
        have hfb := hf.2.2 _ (List.getElem_mem hlt)
        rw [h1a] at hfb
        obtain ⟨t1, t2, t3, t4⟩ := id hs
        have hv := qv_le (l := l) (f := f) t3 t4
        have ei : (i + 1).toNat = i.toNat + 1 := by omega
        rw [qg_c] at he
        refine hK.2 _ _ [(0, bc_R 195), (1, bc_I k), (2, bc_G 199 (σ.1 195 ((3 : Nat) : Int))), (3, bc_R (1000 + w)), (4, bc_I n), (5, bc_I i)] _ _ _ (ls_ _ _) ?_
        refine hK.1 [49] 60 _ _ _ _ _ ?_
        refine bc_ob_i ⟨⟨by omega, by omega⟩, Nat.le_of_ble_eq_true rfl⟩ ?_
        rw [ew]
        refine bc_ob_i (by omega) ?_
        refine bc_br_i (fun _ => ?_) (fun c => by omega)
        refine bc_ob_i ⟨⟨⟨by omega, by omega⟩, Nat.le_of_ble_eq_true rfl⟩, i0, by rw [ew]; omega⟩ ?_
        rw [ew, hge]
        refine bc_ob_i (by omega) ?_
        refine bc_br_i (fun c6 => ?_) (fun c6 => ?_)
        · rw [if_pos c6] at he
          refine t_X5_accept (c := 32) hs (by decide) (fun e2 hl σ'' u1 u2 => ?_) (fun e2 => ?_)
          · rw [if_pos e2] at he
            refine bc_ob_i (by decide) ?_
            refine bc_br_i (fun c => by omega) (fun _ => ?_)
            exact ih (i + 1) n (q + 1) B [(6, bc_I f)] σ'' (by rw [ei]; exact h1b) (by omega) (by omega) n0 (by omega) he u1 (s3_fr ha u2.1 (by decide)) hb (sh_trans hh (sh_of u2))
          · rw [if_neg e2] at he
            refine bc_ob_i (by decide) ?_
            refine bc_br_i (fun _ => ?_) (fun c => absurd rfl c)
            refine bc_ob_i (by decide) ?_
            rw [he] at h
            exact h σ' hs ha hh
        · rw [if_neg c6] at he
          refine t_X5_readValue hs (by omega) (fun σ'' u1 u2 => ?_)
          refine bc_ob_i (by omega) ?_
          refine bc_br_i (fun c7 => ?_) (fun c7 => ?_)
          · rw [if_pos (.inl c7)] at he
            refine bc_ob_i (by decide) ?_
            rw [he] at h
            exact h σ'' u1 (s3_fr ha u2.1 (by decide)) (sh_trans hh (sh_of u2))
          · refine bc_ob_i (by omega) ?_
            refine bc_br_i (fun c8 => ?_) (fun c8 => ?_)
            · rw [if_neg (by omega)] at he
              refine bc_ob_i ⟨⟨c0, c1⟩, n0, c8⟩ ?_
              exact ih (i + 1) (n + 1) _ _ [(6, bc_I f), (7, bc_I (qv_ l q f).1)] _ (by rw [ei]; exact h1b) (by omega) (by omega) (by omega) (by omega) he (sc_fr u1 (fr_wr (P := fun k => k = 199) rfl) (by decide)) (s3_wr c0 c1 n0 c8 (s3_fr ha u2.1 (by decide))) (g3_up hb (by omega)) (sh_trans hh (sh_trans (sh_of u2) sh_wr))
            · rw [if_pos (.inr (by omega))] at he
              refine bc_ob_i (by decide) ?_
              rw [he] at h
              exact h σ'' u1 (s3_fr ha u2.1 (by decide)) (sh_trans hh (sh_of u2))
    have start : K 49 ([(0, bc_R 195), (1, bc_I k), (2, bc_G 199 (σ.1 195 ((3 : Nat) : Int))), (3, bc_R (1000 + w)), (4, bc_I 0), (5, bc_I 0)] ++ []) [] σ 0 := L (bc_tx w) 0 0 p A [] σ rfl (by omega) (by omega) (by omega) (by omega) hQ.symm hS hA gA (sh_refl _)
    refine hK.1 [49] 60 _ _ _ _ _ ?_
    refine bc_ob_i ⟨c0, c1⟩ ?_
    refine bc_ob_i (by omega) ?_
    refine bc_br_i (fun c9 => ?_) (fun c9 => ?_)
    · refine t_X7_at (.inl rfl) s1 (by rw [s2]; constructor <;> omega) ?_
      rw [s2]
      refine bc_ob_i (by omega) ?_
      refine bc_br_i (fun c => ?_) (fun c => absurd ⟨c9, c⟩ h9)
      refine t_X5_formOf hk ?_
      rw [hw]
      exact start
    · refine t_X5_formOf hk ?_
      rw [hw]
      exact start
end SCR
end
section
/-! the whole script: (in order?, place, commands, kinds, arguments); n commands may still come -/
noncomputable abbrev pz_t := Int × Int × Int × (Int → Int) × gr_t
noncomputable def qp_ (l : List Int) : Nat → Int → Int → (Int → Int) → gr_t → pz_t
  | 0, c, p, k, A => (if p = l.length then 1 else 0, p, c, k, A)
  | n + 1, c, p, k, A =>
    if (qw_ l p 10 0).1 = -1 then (0, (qw_ l p 10 0).2, c, k, A)
    else if (qa_ l (qw_ l p 10 0).2 c (qw_ l p 10 0).1 A).1 = 0 then (0, (qa_ l (qw_ l p 10 0).2 c (qw_ l p 10 0).1 A).2.1, c, k, (qa_ l (qw_ l p 10 0).2 c (qw_ l p 10 0).1 A).2.2)
    else if tg_ l (qa_ l (qw_ l p 10 0).2 c (qw_ l p 10 0).1 A).2.1 = 59 then qp_ l n (c + 1) ((qa_ l (qw_ l p 10 0).2 c (qw_ l p 10 0).1 A).2.1 + 1) (up_ k c (qw_ l p 10 0).1) (qa_ l (qw_ l p 10 0).2 c (qw_ l p 10 0).1 A).2.2
    else (if (qa_ l (qw_ l p 10 0).2 c (qw_ l p 10 0).1 A).2.1 = l.length then 1 else 0, (qa_ l (qw_ l p 10 0).2 c (qw_ l p 10 0).1 A).2.1, c + 1, up_ k c (qw_ l p 10 0).1, (qa_ l (qw_ l p 10 0).2 c (qw_ l p 10 0).1 A).2.2)
theorem qp_s {l : List Int} {n : Nat} {c p : Int} {k : Int → Int} {A : gr_t} : qp_ l (n + 1) c p k A =
    if (qw_ l p 10 0).1 = -1 then (0, (qw_ l p 10 0).2, c, k, A)
    else if (qa_ l (qw_ l p 10 0).2 c (qw_ l p 10 0).1 A).1 = 0 then (0, (qa_ l (qw_ l p 10 0).2 c (qw_ l p 10 0).1 A).2.1, c, k, (qa_ l (qw_ l p 10 0).2 c (qw_ l p 10 0).1 A).2.2)
    else if tg_ l (qa_ l (qw_ l p 10 0).2 c (qw_ l p 10 0).1 A).2.1 = 59 then qp_ l n (c + 1) ((qa_ l (qw_ l p 10 0).2 c (qw_ l p 10 0).1 A).2.1 + 1) (up_ k c (qw_ l p 10 0).1) (qa_ l (qw_ l p 10 0).2 c (qw_ l p 10 0).1 A).2.2
    else (if (qa_ l (qw_ l p 10 0).2 c (qw_ l p 10 0).1 A).2.1 = l.length then 1 else 0, (qa_ l (qw_ l p 10 0).2 c (qw_ l p 10 0).1 A).2.1, c + 1, up_ k c (qw_ l p 10 0).1, (qa_ l (qw_ l p 10 0).2 c (qw_ l p 10 0).1 A).2.2) := rfl
noncomputable def kk_ (k : Int → Int) : Prop := ∀ j : Int, 0 ≤ j → j < 16 → 0 ≤ k j ∧ k j ≤ 9
noncomputable def ak_ (σ : bc_M) (k : Int → Int) : Prop := ∀ j : Int, 0 ≤ j → j < 16 → σ.1 198 j = k j
theorem ak_fr {P : Nat → Prop} {σ σ' : bc_M} {k : Int → Int} (h : ak_ σ k) (hf : fr_ P σ σ') (hp : ¬ P 198) : ak_ σ' k := fun j a b => by rw [hf.1 198 hp]; exact h j a b
theorem ak_wr {σ : bc_M} {k : Int → Int} {i v : Int} (h : ak_ σ k) : ak_ (bc_wr σ 198 i v) (up_ k i v) := fun j a b => by
  have := h j a b
  simp only [bc_wr, up_, if_true]
  split
  · rfl
  · exact this
/-- what was read of a script -/
noncomputable def sz_ (σ : bc_M) (z : pz_t) : Prop := (σ.1 195 ((3 : Nat) : Int) = z.2.2.1 ∧ 0 ≤ z.2.2.1 ∧ z.2.2.1 ≤ 16) ∧ (ak_ σ z.2.2.2.1 ∧ kk_ z.2.2.2.1) ∧ s3_ σ z.2.2.2.2 ∧ g3_ z.2.2.2.2
theorem sz_fr {P : Nat → Prop} {σ σ' : bc_M} {z : pz_t} (h : sz_ σ z) (hf : fr_ P σ σ') (hp : ¬ P 195 ∧ ¬ P 198 ∧ ¬ P 199) : sz_ σ' z := by
  obtain ⟨h2, h3, h4, h5⟩ := h
  refine ⟨?_, ⟨ak_fr h3.1 hf hp.2.1, h3.2⟩, s3_fr h4 hf hp.2.2, h5⟩
  rw [hf.1 195 hp.1]
  exact h2
/-- a script as it stands -/
noncomputable def sq_ (σ : bc_M) (l : List Int) (z : pz_t) : Prop := sc_ σ l z.2.1 ∧ (σ.1 195 ((3 : Nat) : Int) = z.2.2.1 ∧ 0 ≤ z.2.2.1 ∧ z.2.2.1 ≤ 16) ∧ (ak_ σ z.2.2.2.1 ∧ kk_ z.2.2.2.1) ∧ s3_ σ z.2.2.2.2 ∧ g3_ z.2.2.2.2
noncomputable abbrev sx_ (k : Nat) : Prop := k = 195 ∨ k = 198 ∨ k = 199
section SCR
variable {g : bc_C} {d : Nat} {σ : bc_M} {l : List Int} {p : Int} {Rr : Option bc_A → bc_M → Prop} {X : Nat → bc_M → Prop}
theorem t_X5_readArgs {c k : Int} {A : gr_t} (hS : sc_ σ l p) (hc : σ.1 195 ((3 : Nat) : Int) = c) (c0 : 0 ≤ c) (c1 : c < 16) (hA : s3_ σ A) (gA : g3_ A) (k0 : 0 ≤ k) (hk : k < 10) (h : ∀ σ', sc_ σ' l (qa_ l p c k A).2.1 → s3_ σ' (qa_ l p c k A).2.2 → sh_ σ σ' → Rr (some (bc_I (qa_ l p c k A).1)) σ') : bc_Sem g (d + 5) mX5_readArguments [bc_R 195, bc_I k] σ Rr X := by
  obtain ⟨n, rfl⟩ := Int.eq_ofNat_of_zero_le k0
  exact t_X5_readArguments hS hc c0 c1 hA gA (by omega) h
theorem t_X5_parse {k : Int → Int} {A : gr_t} (hT : tx_ σ 196 l) (hk : ak_ σ k) (kk : kk_ k) (hA : s3_ σ A) (gA : g3_ A) (h : ∀ σ', sq_ σ' l (qp_ l 16 0 0 k A) → fr_ sx_ σ σ' → (0 ≤ (qp_ l 16 0 0 k A).1 ∧ (qp_ l 16 0 0 k A).1 ≤ 1) → Rr (some (bc_I (qp_ l 16 0 0 k A).1)) σ') : bc_Sem g (d + 6) mX5_parse [bc_R 195] σ Rr X := by
  refine e_X5_parse rfl (fun K hK => ?_)
  generalize hQ : qp_ l 16 0 0 k A = Q at *
  have s5 := hT.2.1
  have exit : ∀ (p c : Int) (k : Int → Int) (A : gr_t) (m : Int) (z : bc_LV) (σ' : bc_M), Q = (if p = l.length then 1 else 0, p, c, k, A) → (m = 0 ∨ (m = 1 ∧ c = 16)) → sc_ σ' l p → σ'.1 195 ((3 : Nat) : Int) = c → 0 ≤ c → c ≤ 16 → ak_ σ' k → kk_ k → s3_ σ' A → g3_ A → fr_ sx_ σ σ' → K 12 ([(0, bc_R 195), (1, bc_I m)] ++ z) [] σ' 0 := by
    intro p c k A m z σ' he hm hs hc c0 c1 hk kk hA gA hf
    refine hK.2 _ _ [(0, bc_R 195), (1, bc_I m)] _ _ _ (ls_ _ _) ?_
    have hl := hs.1.1
    have hp := hs.2.1
    have hp1 := hs.2.2
    have e1 : Q.1 = if p = l.length then 1 else 0 := by rw [he]
    have fin := h σ' (by rw [he]; exact ⟨hs, ⟨hc, c0, c1⟩, ⟨hk, kk⟩, hA, gA⟩) hf (by rw [e1]; split <;> omega)
    rw [e1] at fin
    refine hK.1 [12] 60 _ _ _ _ _ ?_
    refine bc_ob_i (by omega) ?_
    rcases hm with rfl | ⟨rfl, rfl⟩
    · refine bc_br_i (fun _ => ?_) (fun c => absurd rfl c)
      refine bc_ob_i (by omega) ?_
      refine bc_br_i (fun c => ?_) (fun c => ?_)
      · refine bc_ob_i (by decide) ?_
        exact rt_ fin (if_pos (by omega)).symm
      · refine bc_ob_i (by decide) ?_
        exact rt_ fin (if_neg (by omega)).symm
    · refine bc_br_i (fun c => absurd c (by decide)) (fun _ => ?_)
      refine bc_ob_i (by omega) ?_
      refine bc_br_i (fun c => by omega) (fun _ => ?_)
      refine bc_ob_i (by omega) ?_
      refine bc_br_i (fun c => ?_) (fun c => ?_)
      · refine bc_ob_i (by decide) ?_
        exact rt_ fin (if_pos (by omega)).symm
      · refine bc_ob_i (by decide) ?_
        exact rt_ fin (if_neg (by omega)).symm
  have L : ∀ (n : Nat) (c p : Int) (k : Int → Int) (A : gr_t) (z : bc_LV) (σ' : bc_M), c = 16 - n → n ≤ 16 → Q = qp_ l n c p k A → sc_ σ' l p → σ'.1 195 ((3 : Nat) : Int) = c → ak_ σ' k → kk_ k → s3_ σ' A → g3_ A → fr_ sx_ σ σ' → K 12 ([(0, bc_R 195), (1, bc_I 1)] ++ z) [] σ' 0 := by
    intro n
    induction n with
    | zero =>
      intro c p k A z σ' hn n16 he hs hc hk kk hA gA hf
      exact exit p c k A 1 z σ' he (.inr ⟨rfl, by omega⟩) hs hc (by omega) (by omega) hk kk hA gA hf
    | succ n ih =>
      intro c p k A z σ' hn n16 he hs hc hk kk hA gA hf
      refine hK.2 _ _ [(0, bc_R 195), (1, bc_I 1)] _ _ _ (ls_ _ _) ?_
      have hw := qw_le (l := l) (p := p) 10 (b := 0) (Nat.le_refl _) hs.2.2.1 hs.2.2.2 s5 (by omega) (by have := hs.2.2.2; omega)
      rw [qp_s] at he
      refine hK.1 [12] 60 _ _ _ _ _ ?_
      refine bc_ob_i (by decide) ?_
      refine bc_br_i (fun c => absurd c (by decide)) (fun _ => ?_)
      refine bc_ob_i (by omega) ?_
      refine bc_br_i (fun _ => ?_) (fun c => by omega)
      refine t_X5_readWord hs (fun σ1 u1 u2 => ?_)
      generalize hW : qw_ l p 10 0 = W at *
      refine bc_ob_i (by omega) ?_
      refine bc_br_i (fun c1 => ?_) (fun c1 => ?_)
      · rw [if_pos c1] at he
        have fin := h σ1 (by rw [he]; exact ⟨u1, ⟨by rw [u2.2]; exact hc, by simp only; omega, by simp only; omega⟩, ⟨ak_fr hk u2.1 (by decide), kk⟩, s3_fr hA u2.1 (by decide), gA⟩) (fr_trans hf (fr_mono u2.1 (by omega))) (by rw [he]; show 0 ≤ (0 : Int) ∧ (0 : Int) ≤ 1; decide)
        rw [he] at fin
        refine bc_ob_i (by decide) ?_
        exact fin
      · rw [if_neg c1] at he
        have ha := qa_le (l := l) (p := W.2) (c := c) (k := W.1) (A := A) (by have := hs.2.2.1; omega) (by omega) gA
        have hcc : σ1.1 195 ((3 : Nat) : Int) = c := by rw [u2.2]; exact hc
        refine t_X5_readArgs (A := A) u1 hcc (by omega) (by omega) (s3_fr hA u2.1 (by decide)) gA (by omega) (by omega) (fun σ2 v1 v2 v3 => ?_)
        generalize hZ : qa_ l W.2 c W.1 A = Z at *
        have hf2 : fr_ sx_ σ σ2 := fr_trans hf (fr_trans (fr_mono u2.1 (by omega)) (fr_mono v3.1 (by omega)))
        have hk2 : ak_ σ2 k := ak_fr (ak_fr hk u2.1 (by decide)) v3.1 (by decide)
        have hc2 : σ2.1 195 ((3 : Nat) : Int) = c := v3.2.trans hcc
        refine bc_ob_i (by omega) ?_
        refine bc_br_i (fun c2 => ?_) (fun c2 => ?_)
        · rw [if_pos c2] at he
          have fin := h σ2 (by rw [he]; exact ⟨v1, ⟨hc2, by simp only; omega, by simp only; omega⟩, ⟨hk2, kk⟩, v2, ha.2.1⟩) hf2 (by rw [he]; show 0 ≤ (0 : Int) ∧ (0 : Int) ≤ 1; decide)
          rw [he] at fin
          refine bc_ob_i (by decide) ?_
          exact fin
        · rw [if_neg c2] at he
          refine bc_ob_i (by omega) ?_
          have lc2 : σ2.1 195 3 = c := hc2
          have S3 : sc_ (bc_wr (bc_wr σ2 198 (σ2.1 195 ((3 : Nat) : Int)) W.1) 195 ((3 : Nat) : Int) ((bc_wr σ2 198 (σ2.1 195 ((3 : Nat) : Int)) W.1).1 195 ((3 : Nat) : Int) + 1)) l Z.2.1 := by
            refine ⟨tx_fr v1.1 (fr_trans (fr_wr (P := fun k => k = 195 ∨ k = 198) (by omega)) (fr_wr (by omega))) (by decide), ?_, v1.2.2⟩
            have := v1.2.1
            simp [bc_wr]
            exact this
          have C3 : (bc_wr (bc_wr σ2 198 (σ2.1 195 ((3 : Nat) : Int)) W.1) 195 ((3 : Nat) : Int) ((bc_wr σ2 198 (σ2.1 195 ((3 : Nat) : Int)) W.1).1 195 ((3 : Nat) : Int) + 1)).1 195 ((3 : Nat) : Int) = c + 1 := by
            simp [bc_wr]
            exact lc2
          have K3 : ak_ (bc_wr (bc_wr σ2 198 (σ2.1 195 ((3 : Nat) : Int)) W.1) 195 ((3 : Nat) : Int) ((bc_wr σ2 198 (σ2.1 195 ((3 : Nat) : Int)) W.1).1 195 ((3 : Nat) : Int) + 1)) (up_ k c W.1) := by
            refine ak_fr ?_ (fr_wr (P := fun k => k = 195) rfl) (by decide)
            rw [hc2]
            exact ak_wr hk2
          have A3 : s3_ (bc_wr (bc_wr σ2 198 (σ2.1 195 ((3 : Nat) : Int)) W.1) 195 ((3 : Nat) : Int) ((bc_wr σ2 198 (σ2.1 195 ((3 : Nat) : Int)) W.1).1 195 ((3 : Nat) : Int) + 1)) Z.2.2 := s3_fr v2 (fr_trans (fr_wr (P := fun k => k = 195 ∨ k = 198) (by omega)) (fr_wr (by omega))) (by decide)
          have F3 : fr_ sx_ σ (bc_wr (bc_wr σ2 198 (σ2.1 195 ((3 : Nat) : Int)) W.1) 195 ((3 : Nat) : Int) ((bc_wr σ2 198 (σ2.1 195 ((3 : Nat) : Int)) W.1).1 195 ((3 : Nat) : Int) + 1)) := fr_trans hf2 (fr_trans (fr_wr (by omega)) (fr_wr (by omega)))
          have KK : kk_ (up_ k c W.1) := fun j j0 j1 => by
            have := kk j j0 j1
            unfold up_
            split <;> omega
          refine t_X5_accept (c := 59) S3 (by decide) (fun e2 hl σ4 w1 w2 => ?_) (fun e2 => ?_)
          · rw [if_pos e2] at he
            exact ih (c + 1) _ _ _ [(2, bc_I W.1)] σ4 (by omega) (by omega) he w1 (w2.2.trans C3) (ak_fr K3 w2.1 (by decide)) KK (s3_fr A3 w2.1 (by decide)) ha.2.1 (fr_trans F3 (fr_mono w2.1 (by omega)))
          · rw [if_neg e2] at he
            exact exit _ _ _ _ 0 [(2, bc_I W.1)] _ he (.inl rfl) S3 C3 (by omega) (by omega) K3 KK A3 ha.2.1 F3
  have S0 : sc_ (bc_wr (bc_wr σ 195 ((3 : Nat) : Int) 0) 195 ((4 : Nat) : Int) 0) l 0 := ⟨tx_fr hT (fr_trans (fr_wr (P := fun k => k = 195) rfl) (fr_wr rfl)) (by decide), by simp [bc_wr], Int.le_refl _, by omega⟩
  have F0 : fr_ (fun k => k = 195) σ (bc_wr (bc_wr σ 195 ((3 : Nat) : Int) 0) 195 ((4 : Nat) : Int) 0) := fr_trans (fr_wr rfl) (fr_wr rfl)
  refine hK.1 [12] 60 _ _ _ _ _ ?_
  exact L 16 0 0 k A [] _ (by omega) (Nat.le_refl _) hQ.symm S0 (by simp [bc_wr]) (ak_fr hk F0 (by decide)) kk (s3_fr hA F0 (by decide)) gA (fr_mono F0 (by omega))
theorem t_X5_kindAt {z : pz_t} {i : Int} (hS : sz_ σ z) (hi : bc_in i) (h : Rr (some (bc_I (if 0 ≤ i ∧ i < z.2.2.1 then z.2.2.2.1 i else -1))) σ) : bc_Sem g (d + 1) mX5_kindAt [bc_R 195, bc_I i] σ Rr X := by
  obtain ⟨⟨h2, h2a, h2b⟩, ⟨h3, h3a⟩, h4, h5⟩ := hS
  refine e_X5_kindAt rfl (fun K hK => ?_)
  refine hK.1 [] 60 _ _ _ _ _ ?_
  refine bc_ob_i hi ?_
  refine bc_br_i (fun c => ?_) (fun c => ?_)
  · exact rt_ h (if_neg (by omega)).symm
  · refine bc_ob_i ⟨hi, by omega⟩ ?_
    refine bc_br_i (fun c2 => ?_) (fun c2 => ?_)
    · refine bc_ob_i (by omega) ?_
      exact rt_ h (by rw [if_pos (by omega)]; exact h3 i (by omega) (by omega))
    · exact rt_ h (if_neg (by omega)).symm
theorem t_X5_argument {z : pz_t} {i j : Int} (hS : sz_ σ z) (hi : bc_in i) (hj : bc_in j) (h : Rr (some (bc_I (if (0 ≤ i ∧ i < z.2.2.1) ∧ 0 ≤ j ∧ j < 3 then z.2.2.2.2 i j else 0))) σ) : bc_Sem g (d + 1) mX5_argument [bc_R 195, bc_I i, bc_I j] σ Rr X := by
  obtain ⟨⟨h2, h2a, h2b⟩, ⟨h3, h3a⟩, h4, h5⟩ := hS
  refine e_X5_argument rfl (fun K hK => ?_)
  have no : ¬ ((0 ≤ i ∧ i < z.2.2.1) ∧ 0 ≤ j ∧ j < 3) → Rr (some (bc_I 0)) σ := fun c => rt_ h (if_neg c).symm
  refine hK.1 [] 60 _ _ _ _ _ ?_
  refine bc_ob_i hi ?_
  refine bc_br_i (fun c => ?_) (fun c => ?_)
  · refine bc_ob_i (by decide) ?_
    refine bc_br_i (fun _ => no (by omega)) (fun c => absurd rfl c)
  · refine bc_ob_i ⟨hi, by omega⟩ ?_
    refine bc_br_i (fun c2 => ?_) (fun c2 => ?_)
    · refine bc_ob_i hj ?_
      refine bc_br_i (fun c3 => ?_) (fun c3 => ?_)
      · refine bc_ob_i (by decide) ?_
        refine bc_br_i (fun _ => no (by omega)) (fun c => absurd rfl c)
      · refine bc_ob_i ⟨hj, by decide⟩ ?_
        refine bc_br_i (fun c4 => ?_) (fun c4 => ?_)
        · refine bc_ob_i (by decide) ?_
          refine bc_br_i (fun c => absurd c (by decide)) (fun _ => ?_)
          refine bc_ob_i (by omega) ?_
          refine bc_ob_i (by omega) ?_
          exact rt_ h (by rw [if_pos (by omega)]; exact h4 i j (by omega) (by omega) (by omega) (by omega))
        · refine bc_ob_i (by decide) ?_
          refine bc_br_i (fun _ => no (by omega)) (fun c => absurd rfl c)
    · refine bc_ob_i (by decide) ?_
      refine bc_br_i (fun _ => no (by omega)) (fun c => absurd rfl c)
end SCR
end
