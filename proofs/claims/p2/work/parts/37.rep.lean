/-! the repair plan, mirrored -/
def iq_ (r : rw_t) (l : Int) (k : Nat) : Int := fo_ (fun m e => if e = 1 ∨ (r (18 + 6 * m) = l ∧ r (21 + 6 * m) = 0) ∨ br_ r m = l then 1 else 0) 0 k
def iw_ (r : rw_t) (l : Int) : Int := iq_ r l (r 3).toNat
def po_ (r : rw_t) (l m : Int) : Int := if r (21 + 6 * m) ≠ 0 ∨ r (18 + 6 * m) < l then 1000000 else if l ≤ br_ r m then 0 else co_ r m
def pk_ (r : rw_t) (l : Int) (k : Nat) : gr_t := fo_ (fun k f => ug_ (ug_ f (r (16 + 6 * k)) (r (17 + 6 * k)) (po_ r l k)) (r (17 + 6 * k)) (r (16 + 6 * k)) (po_ r l k)) (fun _ _ => 1000000) k
def pr_ (r : rw_t) (l : Int) : gr_t := pk_ r l (r 3).toNat
theorem po_le {r : rw_t} (hW : wf_M r) {l m : Int} (h0 : 0 ≤ m) (h1 : m < 16) : 0 ≤ po_ r l m ∧ po_ r l m ≤ 1000000 := by
  have := co_le hW h0 h1
  unfold po_
  split
  · omega
  · split <;> omega
theorem pxk_le {r : rw_t} (hW : wf_M r) {l : Int} (k : Nat) (hk : k ≤ 16) : gl_ (pk_ r l k) 1000000 := by
  unfold pk_
  refine fo_inv (n := 16) (P := fun f => gl_ f 1000000) (fun i j _ _ _ _ => ⟨by decide, Int.le_refl _⟩) (fun i f i0 i1 h => fun a b a0 a1 b0 b1 => ?_) k hk
  have := h a b a0 a1 b0 b1
  have hb := po_le (l := l) hW i0 (by omega)
  simp only [ug_]
  repeat' split
  all_goals omega
theorem pr_le {r : rw_t} (hW : wf_M r) {l : Int} : gl_ (pr_ r l) 1000000 := pxk_le hW _ (by have := hW.1; omega)
abbrev dj_t := (Int → Int) × (Int → Int)
def uq_ (s : dj_t) (p : Int × Int) (j : Int) : Int × Int := if s.2 j = 0 ∧ s.1 j < p.2 then (j, s.1 j) else p
def up2_ (s : dj_t) (k : Nat) : Int × Int := fo_ (fun j p => uq_ s p j) (-1, 1000000) k
def un_ (s : dj_t) : Int := (up2_ s 8).1
def dg_ (f : gr_t) (s : dj_t) : dj_t := if un_ s = -1 then s else (fun j => min (s.1 j) (s.1 (un_ s) + f (un_ s) j), up_ s.2 (un_ s) 1)
def di_ (a : Int) : dj_t := (fun j => if j = a then 0 else 1000000, fun _ => 0)
def dk_ (f : gr_t) (a : Int) (k : Nat) : dj_t := fo_ (fun _ s => dg_ f s) (di_ a) k
/-- the cheapest way's price -/
def dc_ (f : gr_t) (a b : Int) : Int := (dk_ f a 8).1 b
theorem up2_le {s : dj_t} (h : lm_ s.1 1000000) (k : Nat) (hk : k ≤ 8) : (-1 ≤ (up2_ s k).1 ∧ (up2_ s k).1 < 8) ∧ 0 ≤ (up2_ s k).2 ∧ (up2_ s k).2 ≤ 1000000 := by
  unfold up2_
  refine fo_inv (n := 8) (P := fun p : Int × Int => (-1 ≤ p.1 ∧ p.1 < 8) ∧ 0 ≤ p.2 ∧ p.2 ≤ 1000000) (by decide) (fun i p i0 i1 hp => ?_) k hk
  have := h i i0 (by omega)
  unfold uq_
  split
  · exact ⟨⟨by simp only; omega, by simp only; omega⟩, by simp only; omega⟩
  · exact hp
theorem dg_le {f : gr_t} {s : dj_t} (hf : gl_ f 1000000) (h : lm_ s.1 1000000 ∧ lm_ s.2 1) : lm_ (dg_ f s).1 1000000 ∧ lm_ (dg_ f s).2 1 := by
  unfold dg_
  split
  · exact h
  · rename_i hn
    have hl := (up2_le h.1 8 (by decide)).1
    refine ⟨fun j j0 j1 => ?_, lm_up h.2 (by decide)⟩
    have := h.1 j j0 j1
    unfold un_ at *
    have h2 := hf (up2_ s 8).1 j (by omega) (by omega) j0 j1
    have h3 := h.1 (up2_ s 8).1 (by omega) (by omega)
    simp only
    omega
theorem di_le {a : Int} : lm_ (di_ a).1 1000000 ∧ lm_ (di_ a).2 1 := by
  refine ⟨fun j j0 j1 => ?_, fun j j0 j1 => by simp only [di_]; omega⟩
  simp only [di_]
  split <;> omega
theorem dk_le {f : gr_t} {a : Int} (hf : gl_ f 1000000) (k : Nat) : lm_ (dk_ f a k).1 1000000 ∧ lm_ (dk_ f a k).2 1 := by
  unfold dk_
  exact fo_inv (n := k) (P := fun s : dj_t => lm_ s.1 1000000 ∧ lm_ s.2 1) di_le (fun i s _ _ h => dg_le hf h) k (Nat.le_refl _)
theorem dc_stop {f : gr_t} {a b : Int} {k : Nat} (hk : k ≤ 8) (h : un_ (dk_ f a k) = -1) : (dk_ f a k).1 b = dc_ f a b := by
  unfold dc_ dk_
  rw [fo_fix (k := k) (fun i _ => ?_) 8 hk]
  show dg_ f (dk_ f a k) = dk_ f a k
  unfold dg_
  rw [if_pos h]
section REP
variable {g : bc_C} {d : Nat} {σ : bc_M} {r : rw_t} {Rr : Option bc_A → bc_M → Prop} {X : Nat → bc_M → Prop} {f : gr_t}
theorem t_X4_isWorthTrying {l : Int} (hS : st_M σ 1 r) (hW : wf_M r) (hl : bc_in l) (h : Rr (some (bc_I (iw_ r l))) σ) : bc_Sem g (d + 2) mX4_isWorthTrying [bc_R 174, bc_R 2, bc_I l] σ Rr X := by
  obtain ⟨q0, q1⟩ := hl
  obtain ⟨c1, c2⟩ := st_M1 hS
  have w1 := hW.1
  refine e_X4_isWorthTrying rfl (fun K hK => ?_)
  have L : ∀ i : Int, ∀ z, 0 ≤ i → i ≤ r 3 → iq_ r l i.toNat = 0 → K 2 ([(0, bc_R 174), (1, bc_R 2), (2, bc_I l), (3, bc_I i)] ++ z) [] σ 0 := by
    refine up_ind (r 3) (fun i hi z h0 h1 h2 => ?_) (fun i hi ih z h0 h1 h2 => ?_)
    · refine hK.2 _ _ [(0, bc_R 174), (1, bc_R 2), (2, bc_I l), (3, bc_I i)] _ _ _ (ls_ _ _) ?_
      refine hK.1 [2] 60 _ _ _ _ _ ?_
      refine bc_ob_i (by omega) ?_
      refine bc_br_i (fun c => by omega) (fun c => ?_)
      have e : i = r 3 := by omega
      rw [e] at h2
      refine bc_ob_i (by decide) ?_
      exact rt_ h h2.symm
    · refine hK.2 _ _ [(0, bc_R 174), (1, bc_R 2), (2, bc_I l), (3, bc_I i)] _ _ _ (ls_ _ _) ?_
      obtain ⟨e1, e2, e3, e4, e5, e6⟩ := c2 i h0 (by omega)
      obtain ⟨g0, g1, g2, g3, g4, g5⟩ := hW.2 i h0 (by omega)
      have hb := br_le hW h0 (by omega)
      have es : iq_ r l (i + 1).toNat = if iq_ r l i.toNat = 1 ∨ (r (18 + 6 * i) = l ∧ r (21 + 6 * i) = 0) ∨ br_ r i = l then 1 else 0 := fo_s h0
      have yes : ((r (18 + 6 * i) = l ∧ r (21 + 6 * i) = 0) ∨ br_ r i = l) → Rr (some (bc_I 1)) σ := fun q => by
        refine rt_ h ?_
        have e : iq_ r l (i + 1).toNat = 1 := by rw [es, if_pos (.inr q)]
        unfold iw_ iq_
        symm
        have step : ∀ n : Nat, (i + 1).toNat ≤ n → fo_ (fun m e => if e = 1 ∨ (r (18 + 6 * m) = l ∧ r (21 + 6 * m) = 0) ∨ br_ r m = l then 1 else 0) 0 n = fo_ (fun m e => if e = 1 ∨ (r (18 + 6 * m) = l ∧ r (21 + 6 * m) = 0) ∨ br_ r m = l then 1 else 0) (0 : Int) (i + 1).toNat := fun n hn => fo_fix (fun m _ => by
          have e' : fo_ (fun m e => if e = 1 ∨ (r (18 + 6 * m) = l ∧ r (21 + 6 * m) = 0) ∨ br_ r m = l then 1 else 0) (0 : Int) (i + 1).toNat = 1 := e
          rw [if_pos (.inl e'), e']) n hn
        rw [step _ (by omega)]
        exact e
      have no : ¬ ((r (18 + 6 * i) = l ∧ r (21 + 6 * i) = 0) ∨ br_ r i = l) → ∀ z, K 2 ([(0, bc_R 174), (1, bc_R 2), (2, bc_I l), (3, bc_I (i + 1))] ++ z) [] σ 0 := fun q z => ih z (by omega) (by omega) (by rw [es, if_neg (by omega)])
      refine hK.1 [2] 60 _ _ _ _ _ ?_
      refine bc_ob_i (by omega) ?_
      refine bc_br_i (fun c => ?_) (fun c => by omega)
      refine bc_ob_i (by omega) ?_
      refine bc_ob_i (by omega) ?_
      refine bc_br_i (fun c => ?_) (fun c => ?_)
      · refine bc_ob_i (by omega) ?_
        refine bc_ob_i (by omega) ?_
        refine bc_br_i (fun c => ?_) (fun c => ?_)
        · refine bc_ob_i (by decide) ?_
          refine bc_br_i (fun c => by omega) (fun c => ?_)
          refine bc_ob_i (by decide) ?_
          exact yes (.inl ⟨by omega, by omega⟩)
        · refine bc_ob_i (by decide) ?_
          refine bc_br_i (fun c => ?_) (fun c => by omega)
          refine t_X2_bearingOf hS hW h0 (by omega) ?_
          refine bc_ob_i (by omega) ?_
          refine bc_br_i (fun c => ?_) (fun c => ?_)
          · refine bc_ob_i (by decide) ?_
            exact yes (.inr c)
          · exact no (by omega) [(4, bc_I 0)]
      · refine bc_ob_i (by decide) ?_
        refine bc_br_i (fun c => ?_) (fun c => by omega)
        refine t_X2_bearingOf hS hW h0 (by omega) ?_
        refine bc_ob_i (by omega) ?_
        refine bc_br_i (fun c => ?_) (fun c => ?_)
        · refine bc_ob_i (by decide) ?_
          exact yes (.inr c)
        · exact no (by omega) [(4, bc_I 0)]
  refine hK.1 [2] 40 _ _ _ _ _ ?_
  exact L 0 [] (by omega) (by omega) rfl
theorem t_X4_priceOf {l m : Int} (hS : st_M σ 1 r) (hW : wf_M r) (hl : bc_in l) (h0 : 0 ≤ m) (h1 : m < 16) (h : Rr (some (bc_I (po_ r l m))) σ) : bc_Sem g (d + 2) mX4_priceOf [bc_R 174, bc_R 2, bc_I m, bc_I l] σ Rr X := by
  obtain ⟨q0, q1⟩ := hl
  obtain ⟨c1, c2⟩ := st_M1 hS
  obtain ⟨e1, e2, e3, e4, e5, e6⟩ := c2 m h0 h1
  obtain ⟨g0, g1, g2, g3, g4, g5⟩ := hW.2 m h0 h1
  have hb := br_le hW h0 h1
  refine e_X4_priceOf rfl (fun K hK => ?_)
  unfold po_ at h
  refine hK.1 [] 60 _ _ _ _ _ ?_
  refine bc_ob_i (by omega) ?_
  refine bc_ob_i (by omega) ?_
  refine bc_br_i (fun c => ?_) (fun c => ?_)
  · refine bc_ob_i (by omega) ?_
    refine bc_ob_i (by omega) ?_
    refine bc_br_i (fun c => ?_) (fun c => ?_)
    · exact rt_ h (by rw [if_pos (by omega)])
    · refine t_X2_bearingOf hS hW h0 h1 ?_
      refine bc_ob_i (by omega) ?_
      refine bc_br_i (fun c => ?_) (fun c => ?_)
      · refine t_X2_costOf hS hW h0 h1 ?_
        exact rt_ h (by rw [if_neg (by omega), if_neg (by omega)])
      · exact rt_ h (by rw [if_neg (by omega), if_pos (by omega)])
  · exact rt_ h (by rw [if_pos (by omega)])
end REP
