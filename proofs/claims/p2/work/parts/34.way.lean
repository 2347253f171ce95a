/-! the shortest of the widest ways, mirrored -/
def sp1_ (f : gr_t) (l : Int) (dd : Int → Int) (a : Int) : Int → Int := fun k => if l ≤ f a k then min (dd k) (dd a + 1) else dd k
def mj_ (f : gr_t) (l c : Int) (dd : Int → Int) (k : Nat) : Int → Int := fo_ (fun j e => if e j = c then sp1_ f l e j else e) dd k
def m0_ (t : Int) : Int → Int := fun j => if j = t then 0 else 8
def mc_ (f : gr_t) (l t : Int) (k : Nat) : Int → Int := fo_ (fun c e => mj_ f l c e 8) (m0_ t) k
def md_ (f : gr_t) (l t : Int) : Int → Int := mc_ f l t 7
def lk_ (f : gr_t) (l : Int) (dd : Int → Int) (a : Int) (k : Nat) : Int := fo_ (fun j e => if e = -1 ∧ l ≤ f a j ∧ dd j < dd a then j else e) (-1) k
def ln_ (f : gr_t) (l : Int) (dd : Int → Int) (a : Int) : Int := if lk_ f l dd a 8 = -1 then a else lk_ f l dd a 8
abbrev jl_t := (Int → Int) × Int
def js_ (f : gr_t) (l b : Int) (dd : Int → Int) (p : Int) (s : jl_t) : jl_t := if s.2 = p - 1 ∧ s.1 (p - 1) ≠ b then (up_ s.1 p (ln_ f l dd (s.1 (p - 1))), p) else s
def jw_ (f : gr_t) (l a b : Int) (dd : Int → Int) (J : Int → Int) (k : Nat) : jl_t := fo_ (fun p s => js_ f l b dd (p + 1) s) (up_ J 0 a, 0) k
/-- the way that was found: its joints, its length -/
def fw_ (f : gr_t) (a b : Int) (J : Int → Int) : jl_t := jw_ f (wb_ f a b) a b (md_ f (wb_ f a b) b) J 7
theorem js_no {f : gr_t} {l b p : Int} {dd : Int → Int} {s : jl_t} (h : ¬ (s.2 = p - 1 ∧ s.1 (p - 1) ≠ b)) : js_ f l b dd p s = s := if_neg h
theorem sp1_le {f : gr_t} {l a : Int} {dd : Int → Int} (h : lm_ dd 8) (a0 : 0 ≤ a) (a1 : a < 8) : lm_ (sp1_ f l dd a) 8 := fun j j0 j1 => by
  have := h j j0 j1
  have := h a a0 a1
  unfold sp1_
  split <;> omega
theorem mj_le {f : gr_t} {l c : Int} {dd : Int → Int} (h : lm_ dd 8) (k : Nat) (hk : k ≤ 8) : lm_ (mj_ f l c dd k) 8 := by
  unfold mj_
  refine fo_inv (n := 8) (P := fun e => lm_ e 8) h (fun i e i0 i1 he => ?_) k hk
  split
  · exact sp1_le he i0 (by omega)
  · exact he
theorem mc_le {f : gr_t} {l t : Int} (k : Nat) : lm_ (mc_ f l t k) 8 := by
  unfold mc_
  refine fo_inv (n := k) (P := fun e => lm_ e 8) (fun j j0 j1 => by unfold m0_; split <;> omega) (fun i e i0 i1 he => mj_le he 8 (Nat.le_refl _)) k (Nat.le_refl _)
theorem lk_le {f : gr_t} {l a : Int} {dd : Int → Int} (k : Nat) (hk : k ≤ 8) : -1 ≤ lk_ f l dd a k ∧ lk_ f l dd a k < 8 := by
  unfold lk_
  refine fo_inv (n := 8) (P := fun e : Int => -1 ≤ e ∧ e < 8) (by decide) (fun i e i0 i1 he => ?_) k hk
  split <;> omega
theorem ln_le {f : gr_t} {l a : Int} {dd : Int → Int} (a0 : 0 ≤ a) (a1 : a < 8) : 0 ≤ ln_ f l dd a ∧ ln_ f l dd a < 8 := by
  have := lk_le (f := f) (l := l) (a := a) (dd := dd) 8 (by decide)
  unfold ln_
  split <;> omega
theorem jw_le {f : gr_t} {l a b : Int} {dd J : Int → Int} (hJ : lm_ J 7) (a0 : 0 ≤ a) (a1 : a < 8) (k : Nat) (hk : k ≤ 7) : lm_ (jw_ f l a b dd J k).1 7 ∧ 0 ≤ (jw_ f l a b dd J k).2 ∧ (jw_ f l a b dd J k).2 ≤ 7 := by
  unfold jw_
  refine fo_inv (n := 7) (P := fun s : jl_t => lm_ s.1 7 ∧ 0 ≤ s.2 ∧ s.2 ≤ 7) ⟨lm_up hJ (by omega), Int.le_refl _, show (0 : Int) ≤ 7 by decide⟩ (fun i s i0 i1 hs => ?_) k hk
  unfold js_
  split
  · have := hs.1 (i + 1 - 1) (by omega) (by omega)
    have := ln_le (f := f) (l := l) (dd := dd) (a := s.1 (i + 1 - 1)) (by omega) (by omega)
    exact ⟨lm_up hs.1 (by omega), by simp only; omega, by simp only; omega⟩
  · exact hs
theorem jw_stop {f : gr_t} {l a b : Int} {dd J : Int → Int} {k : Nat} (hk : k ≤ 7) (h : (jw_ f l a b dd J k).2 < k ∨ (jw_ f l a b dd J k).1 k = b) (h2 : (jw_ f l a b dd J k).2 ≤ k) : jw_ f l a b dd J 7 = jw_ f l a b dd J k := by
  refine fo_fix (f := fun p s => js_ f l b dd (p + 1) s) (a := (up_ J 0 a, 0)) (k := k) (fun i hi => js_no (fun c => ?_)) 7 hk
  obtain ⟨c1, c2⟩ : (jw_ f l a b dd J k).2 = i + 1 - 1 ∧ (jw_ f l a b dd J k).1 (i + 1 - 1) ≠ b := c
  rcases h with h | h
  · omega
  · have e : i = k := by omega
    rw [e] at c2
    exact c2 (by rw [show (k : Int) + 1 - 1 = k by omega]; exact h)
section WAY
variable {g : bc_C} {d : Nat} {σ : bc_M} {r : rw_t} {Rr : Option bc_A → bc_M → Prop} {X : Nat → bc_M → Prop} {f : gr_t}
theorem t_X9_spread {a l : Int} {dd : Int → Int} (hf : sv_ σ 158 f) (lf : gl_ f 99) (hd : ar_ σ 169 dd) (ld : lm_ dd 8) (a0 : 0 ≤ a) (a1 : a < 8) (hl : bc_in l) (h : ∀ σ' : bc_M, ar_ σ' 169 (sp1_ f l dd a) → fr_ (fun k => k = 169) σ σ' → Rr none σ') : bc_Sem g (d + 1) mX9_spread [bc_R 157, bc_I a, bc_I l] σ Rr X := by
  obtain ⟨q0, q1⟩ := hl
  refine e_X9_spread rfl (fun K hK => ?_)
  have L : ∀ i : Int, ∀ σ' : bc_M, 0 ≤ i → i ≤ 8 → ar_ σ' 169 (fun k => if k < i then sp1_ f l dd a k else dd k) → fr_ (fun k => k = 169) σ σ' → K 2 [(0, bc_R 157), (1, bc_I a), (2, bc_I l), (3, bc_I i)] [] σ' 0 := by
    refine up_ind 8 (fun i hi σ' h0 h1 h2 h3 => ?_) (fun i hi ih σ' h0 h1 h2 h3 => ?_)
    · refine hK.1 [2] 60 _ _ _ _ _ ?_
      refine bc_ob_i (by omega) ?_
      refine bc_br_i (fun c => by omega) (fun c => ?_)
      refine h σ' (fun k k0 k1 => ?_) h3
      rw [h2 k k0 k1]
      simp only
      rw [if_pos (by omega)]
    · have e1 := sv_fr hf h3 (by decide) a i a0 a1 h0 hi
      have e2 := h2 i h0 hi
      have e3 := h2 a a0 a1
      have li := ld i h0 hi
      have la := ld a a0 a1
      have lfi := lf a i a0 a1 h0 hi
      simp only at e2 e3
      rw [if_neg (by omega)] at e2
      have e3 : σ'.1 169 a = dd a := by
        rw [e3]
        unfold sp1_
        split
        · split <;> omega
        · rfl
      have hy : bc_in (σ'.1 158 (((8 : Nat) : Int) * a + i)) := by constructor <;> omega
      have nxt : ∀ σ'', ar_ σ'' 169 (up_ (fun k => if k < i then sp1_ f l dd a k else dd k) i (sp1_ f l dd a i)) → fr_ (fun k => k = 169) σ' σ'' → K 2 [(0, bc_R 157), (1, bc_I a), (2, bc_I l), (3, bc_I (i + 1))] [] σ'' 0 := fun σ'' hs hfr => by
        refine ih _ (by omega) (by omega) (fun k k0 k1 => ?_) (fr_trans h3 hfr)
        rw [hs k k0 k1]
        unfold up_
        simp only
        by_cases e : k = i
        · rw [if_pos e, if_pos (by omega), e]
        · rw [if_neg e]
          by_cases e' : k < i
          · rw [if_pos e', if_pos (by omega)]
          · rw [if_neg e', if_neg (by omega)]
      refine hK.1 [2] 60 _ _ _ _ _ ?_
      refine bc_ob_i (by omega) ?_
      refine bc_br_i (fun c => ?_) (fun c => by omega)
      refine bc_ob_i (by omega) ?_
      refine bc_ob_i (by omega) ?_
      refine bc_ob_i ⟨hy, q0, q1⟩ ?_
      refine bc_br_i (fun c => ?_) (fun c => ?_)
      · refine nxt _ ?_ (fr_refl _)
        have c' : σ'.1 158 (((8 : Nat) : Int) * a + i) < l := c
        intro k k0 k1
        rw [h2 k k0 k1]
        unfold up_
        simp only
        by_cases e : k = i
        · rw [if_pos e, if_neg (by omega), e]
          unfold sp1_
          rw [if_neg (by omega)]
        · rw [if_neg e]
      · have c' : ¬ σ'.1 158 (((8 : Nat) : Int) * a + i) < l := c
        refine bc_ob_i (by omega) ?_
        refine bc_ob_i (by omega) ?_
        refine bc_ob_i ⟨by omega, by omega, Nat.le_of_ble_eq_true rfl⟩ ?_
        refine bc_ob_i (by omega) ?_
        refine nxt _ ?_ (fr_wr rfl)
        have e5 : sp1_ f l dd a i = min (σ'.1 169 i) (σ'.1 169 a + 1) := by
          unfold sp1_
          rw [if_pos (by omega), e2, e3]
        rw [e5]
        exact ar_wr h2
  refine hK.1 [2] 40 _ _ _ _ _ ?_
  exact L 0 _ (by omega) (by omega) (fun k k0 k1 => by rw [hd k k0 k1]; simp only; rw [if_neg (by omega)]) (fr_refl _)
theorem t_X9_measureFrom {t l : Int} (hf : sv_ σ 158 f) (lf : gl_ f 99) (t0 : bc_in t) (hl : bc_in l) (h : ∀ σ' : bc_M, ar_ σ' 169 (md_ f l t) → fr_ (fun k => k = 169) σ σ' → Rr none σ') : bc_Sem g (d + 2) mX9_measureFrom [bc_R 157, bc_I t, bc_I l] σ Rr X := by
  obtain ⟨q0, q1⟩ := t0
  refine e_X9_measureFrom rfl (fun K hK => ?_)
  have L : ∀ i : Int, ∀ σ' : bc_M, 0 ≤ i → i ≤ 7 → ar_ σ' 169 (mc_ f l t i.toNat) → fr_ (fun k => k = 169) σ σ' → K 33 [(0, bc_R 157), (1, bc_I t), (2, bc_I l), (3, bc_I i)] [] σ' 0 := by
    refine up_ind 7 (fun i hi σ' h0 h1 h2 h3 => ?_) (fun i hi ih σ' h0 h1 h2 h3 => ?_)
    · refine hK.1 [33] 60 _ _ _ _ _ ?_
      refine bc_ob_i (by omega) ?_
      refine bc_br_i (fun c => by omega) (fun c => ?_)
      have e : i = 7 := by omega
      rw [e] at h2
      exact h σ' h2 h3
    · have es : mc_ f l t (i + 1).toNat = mj_ f l i (mc_ f l t i.toNat) 8 := fo_s h0
      have L0 : ∀ j : Int, ∀ σ' : bc_M, 0 ≤ j → j ≤ 8 → ar_ σ' 169 (mj_ f l i (mc_ f l t i.toNat) j.toNat) → fr_ (fun k => k = 169) σ σ' → K 42 [(0, bc_R 157), (1, bc_I t), (2, bc_I l), (3, bc_I i), (4, bc_I j)] [] σ' 0 := by
        refine up_ind 8 (fun j hj σ' j0 j1 j2 j3 => ?_) (fun j hj jh σ' j0 j1 j2 j3 => ?_)
        · refine hK.1 [33, 42] 60 _ _ _ _ _ ?_
          refine bc_ob_i (by omega) ?_
          refine bc_br_i (fun c => by omega) (fun c => ?_)
          refine hK.2 _ _ [(0, bc_R 157), (1, bc_I t), (2, bc_I l), (3, bc_I (i + 1))] _ _ _ (ls_ _ _) ?_
          refine ih _ (by omega) (by omega) ?_ j3
          have e : j = 8 := by omega
          rw [e] at j2
          rw [es]
          exact j2
        · have ej : mj_ f l i (mc_ f l t i.toNat) (j + 1).toNat = if mj_ f l i (mc_ f l t i.toNat) j.toNat j = i then sp1_ f l (mj_ f l i (mc_ f l t i.toNat) j.toNat) j else mj_ f l i (mc_ f l t i.toNat) j.toNat := fo_s j0
          have lj := mj_le (f := f) (l := l) (c := i) (mc_le (f := f) (l := l) (t := t) i.toNat) j.toNat (by omega)
          have e1 := j2 j j0 hj
          have l1 := lj j j0 hj
          refine hK.1 [33, 42] 60 _ _ _ _ _ ?_
          refine bc_ob_i (by omega) ?_
          refine bc_br_i (fun c => ?_) (fun c => by omega)
          refine bc_ob_i (by omega) ?_
          refine bc_ob_i (by omega) ?_
          refine bc_br_i (fun c => ?_) (fun c => ?_)
          · refine t_X9_spread (sv_fr hf j3 (by decide)) lf j2 lj j0 hj hl (fun σ'' s1 s2 => ?_)
            refine jh _ (by omega) (by omega) ?_ (fr_trans j3 s2)
            rw [ej, if_pos (by omega)]
            exact s1
          · refine jh _ (by omega) (by omega) ?_ j3
            rw [ej, if_neg (by omega)]
            exact j2
      refine hK.1 [33, 42] 60 _ _ _ _ _ ?_
      refine bc_ob_i (by omega) ?_
      refine bc_br_i (fun c => ?_) (fun c => by omega)
      exact L0 0 _ (by omega) (by omega) h2 h3
  have L1 : ∀ i : Int, ∀ σ' : bc_M, 0 ≤ i → i ≤ 8 → (∀ k : Int, 0 ≤ k → k < i → σ'.1 169 k = m0_ t k) → fr_ (fun k => k = 169) σ σ' → K 2 [(0, bc_R 157), (1, bc_I t), (2, bc_I l), (3, bc_I i)] [] σ' 0 := by
    refine up_ind 8 (fun i hi σ' h0 h1 h2 h3 => ?_) (fun i hi ih σ' h0 h1 h2 h3 => ?_)
    · refine hK.1 [2, 33] 60 _ _ _ _ _ ?_
      refine bc_ob_i (by omega) ?_
      refine bc_br_i (fun c => by omega) (fun c => ?_)
      exact L 0 _ (by omega) (by omega) (fun k k0 k1 => h2 k k0 (by omega)) h3
    · have nxt : ∀ v : Int, v = m0_ t i → K 2 [(0, bc_R 157), (1, bc_I t), (2, bc_I l), (3, bc_I (i + 1))] [] (bc_wr σ' 169 i v) 0 := fun v hv => by
        refine ih _ (by omega) (by omega) (fun k k0 k1 => ?_) (fr_trans h3 (fr_wr rfl))
        by_cases e : k = i
        · simp only [bc_wr]
          simp
          rw [if_pos e, e]
          exact hv
        · have := h2 k k0 (by omega)
          simp only [bc_wr]
          simp
          rw [if_neg e]
          exact this
      unfold m0_ at nxt
      refine hK.1 [2, 33] 60 _ _ _ _ _ ?_
      repeat' first | refine bc_br_i (fun _ => ?_) (fun _ => ?_) | refine bc_ob_i (by omega) ?_
      all_goals first | (exfalso; omega) | (refine nxt _ ?_; rw [if_pos (by omega)]; done) | (refine nxt _ ?_; rw [if_neg (by omega)])
  refine hK.1 [2] 40 _ _ _ _ _ ?_
  exact L1 0 _ (by omega) (by omega) (fun k k0 k1 => by omega) (fr_refl _)
theorem t_X9_lowestNearer {a l : Int} {dd : Int → Int} (hf : sv_ σ 158 f) (lf : gl_ f 99) (hd : ar_ σ 169 dd) (ld : lm_ dd 8) (a0 : 0 ≤ a) (a1 : a < 8) (hl : bc_in l) (h : Rr (some (bc_I (ln_ f l dd a))) σ) : bc_Sem g (d + 1) mX9_lowestNearer [bc_R 157, bc_I a, bc_I l] σ Rr X := by
  obtain ⟨q0, q1⟩ := hl
  refine e_X9_lowestNearer rfl (fun K hK => ?_)
  have L : ∀ i : Int, 0 ≤ i → i ≤ 8 → lk_ f l dd a i.toNat = -1 → K 2 [(0, bc_R 157), (1, bc_I a), (2, bc_I l), (3, bc_I i)] [] σ 0 := by
    refine up_ind 8 (fun i hi h0 h1 h2 => ?_) (fun i hi ih h0 h1 h2 => ?_)
    · refine hK.1 [2] 60 _ _ _ _ _ ?_
      refine bc_ob_i (by omega) ?_
      refine bc_br_i (fun c => by omega) (fun c => ?_)
      have e : i = 8 := by omega
      rw [e] at h2
      refine rt_ h ?_
      unfold ln_
      exact (if_pos h2).symm
    · have es : lk_ f l dd a (i + 1).toNat = if lk_ f l dd a i.toNat = -1 ∧ l ≤ f a i ∧ dd i < dd a then i else lk_ f l dd a i.toNat := fo_s h0
      have e1 := hf a i a0 a1 h0 hi
      have e2 := hd i h0 hi
      have e3 := hd a a0 a1
      have li := ld i h0 hi
      have la := ld a a0 a1
      have lfi := lf a i a0 a1 h0 hi
      have hy : bc_in (σ.1 158 (((8 : Nat) : Int) * a + i)) := by constructor <;> omega
      have nxt : ¬ (l ≤ f a i ∧ dd i < dd a) → K 2 [(0, bc_R 157), (1, bc_I a), (2, bc_I l), (3, bc_I (i + 1))] [] σ 0 := fun c => ih (by omega) (by omega) (by rw [es, if_neg (by intro q; exact c q.2), h2])
      refine hK.1 [2] 60 _ _ _ _ _ ?_
      refine bc_ob_i (by omega) ?_
      refine bc_br_i (fun c => ?_) (fun c => by omega)
      refine bc_ob_i (by omega) ?_
      refine bc_ob_i (by omega) ?_
      refine bc_ob_i ⟨hy, q0, q1⟩ ?_
      refine bc_br_i (fun c => ?_) (fun c => ?_)
      · have c' : σ.1 158 (((8 : Nat) : Int) * a + i) < l := c
        exact nxt (by omega)
      · have c' : ¬ σ.1 158 (((8 : Nat) : Int) * a + i) < l := c
        refine bc_ob_i (by omega) ?_
        refine bc_ob_i (by omega) ?_
        refine bc_ob_i (by omega) ?_
        refine bc_br_i (fun c2 => ?_) (fun c2 => ?_)
        · refine rt_ h ?_
          have ek : lk_ f l dd a (i + 1).toNat = i := by rw [es, if_pos ⟨h2, by omega, by omega⟩]
          have e8 : lk_ f l dd a 8 = i := by
            rw [← ek]
            unfold lk_
            refine fo_fix (fun m hm => ?_) 8 (by omega)
            rw [if_neg]
            intro q
            have : lk_ f l dd a (i + 1).toNat = -1 := q.1
            omega
          unfold ln_
          rw [e8, if_neg (by omega)]
        · exact nxt (by omega)
  refine hK.1 [2] 40 _ _ _ _ _ ?_
  exact L 0 (by omega) (by omega) rfl
end WAY
