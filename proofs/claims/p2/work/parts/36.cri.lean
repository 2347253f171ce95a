/-! the search for critical members, mirrored: numbers, lowest, how many were numbered -/
abbrev vs_t := (Int → Int) × (Int → Int) × Int
def vx_ (V : Int → Int → vs_t → vs_t) (f : gr_t) (a c i : Int) (s : vs_t) : vs_t := if i = c ∨ f a i = 0 then s else if s.1 i = 0 then ((V i a s).1, up_ (V i a s).2.1 a (min ((V i a s).2.1 a) ((V i a s).2.1 i)), (V i a s).2.2) else (s.1, up_ s.2.1 a (min (s.2.1 a) (s.1 i)), s.2.2)
def vz_ (a : Int) (s : vs_t) : vs_t := (up_ s.1 a (s.2.2 + 1), up_ s.2.1 a (s.2.2 + 1), s.2.2 + 1)
def vi_ (f : gr_t) : Nat → Int → Int → vs_t → vs_t
  | 0, _, _, s => s
  | n + 1, a, c, s => fo_ (fun i s => vx_ (vi_ f n) f a c i s) (vz_ a s) 8
def vt_ : Nat → Int
  | 0 => 0
  | n + 1 => 1 + 8 * vt_ n
def vo_ (s : vs_t) : Prop := lm_ s.1 s.2.2 ∧ lm_ s.2.1 s.2.2
def cr_ (σ : bc_M) (s : vs_t) : Prop := ar_ σ 172 s.1 ∧ ar_ σ 173 s.2.1 ∧ σ.1 171 ((2 : Nat) : Int) = s.2.2
def se_ (f : gr_t) (a b : Int) : Int := if (vi_ f 8 a (-1) (fun _ => 0, fun _ => 0, 0)).1 a < (vi_ f 8 a (-1) (fun _ => 0, fun _ => 0, 0)).2.1 b then 1 else 0
theorem lm_mono {f : Int → Int} {m n : Int} (h : lm_ f m) (e : m ≤ n) : lm_ f n := fun j a b => by have := h j a b; omega
theorem vt_0 (n : Nat) : 0 ≤ vt_ n := by
  induction n with
  | zero => decide
  | succ n ih => show 0 ≤ 1 + 8 * vt_ n; omega
theorem vt_m (n : Nat) (h : n ≤ 8) : vt_ n ≤ 2396745 := by
  have : n = 0 ∨ n = 1 ∨ n = 2 ∨ n = 3 ∨ n = 4 ∨ n = 5 ∨ n = 6 ∨ n = 7 ∨ n = 8 := by omega
  rcases this with rfl | rfl | rfl | rfl | rfl | rfl | rfl | rfl | rfl <;> decide
theorem vz_le {a : Int} {s : vs_t} (h : vo_ s) (h0 : 0 ≤ s.2.2) : vo_ (vz_ a s) := ⟨lm_up (lm_mono h.1 (by simp only [vz_]; omega)) (by simp only [vz_]; omega), lm_up (lm_mono h.2 (by simp only [vz_]; omega)) (by simp only [vz_]; omega)⟩
theorem vx_le {V : Int → Int → vs_t → vs_t} {f : gr_t} {a c i t : Int} {s : vs_t} (ht : 0 ≤ t) (hV : ∀ i s, 0 ≤ i → i < 8 → vo_ s → 0 ≤ s.2.2 → vo_ (V i a s) ∧ s.2.2 ≤ (V i a s).2.2 ∧ (V i a s).2.2 ≤ s.2.2 + t) (a0 : 0 ≤ a) (a1 : a < 8) (i0 : 0 ≤ i) (i1 : i < 8) (h : vo_ s) (h0 : 0 ≤ s.2.2) : vo_ (vx_ V f a c i s) ∧ s.2.2 ≤ (vx_ V f a c i s).2.2 ∧ (vx_ V f a c i s).2.2 ≤ s.2.2 + t := by
  unfold vx_
  split
  · exact ⟨h, Int.le_refl _, by omega⟩
  · split
    · obtain ⟨q1, q2, q3⟩ := hV i s i0 i1 h h0
      have l1 := q1.2 a a0 a1
      have l2 := q1.2 i i0 i1
      exact ⟨⟨q1.1, lm_up q1.2 (by simp only; omega)⟩, q2, q3⟩
    · have l1 := h.2 a a0 a1
      have l2 := h.1 i i0 i1
      exact ⟨⟨h.1, lm_up h.2 (by simp only; omega)⟩, by simp only; omega, by simp only; omega⟩
theorem vxk_le {V : Int → Int → vs_t → vs_t} {f : gr_t} {a c t : Int} {s : vs_t} (ht : 0 ≤ t) (hV : ∀ i s, 0 ≤ i → i < 8 → vo_ s → 0 ≤ s.2.2 → vo_ (V i a s) ∧ s.2.2 ≤ (V i a s).2.2 ∧ (V i a s).2.2 ≤ s.2.2 + t) (a0 : 0 ≤ a) (a1 : a < 8) (h : vo_ s) (h0 : 0 ≤ s.2.2) : ∀ k : Nat, k ≤ 8 → vo_ (fo_ (fun i s => vx_ V f a c i s) s k) ∧ s.2.2 ≤ (fo_ (fun i s => vx_ V f a c i s) s k).2.2 ∧ (fo_ (fun i s => vx_ V f a c i s) s k).2.2 ≤ s.2.2 + k * t := by
  intro k
  induction k with
  | zero => intro _; exact ⟨h, Int.le_refl _, by show s.2.2 ≤ s.2.2 + (0 : Nat) * t; omega⟩
  | succ k ih =>
    intro hk
    obtain ⟨q1, q2, q3⟩ := ih (by omega)
    obtain ⟨p1, p2, p3⟩ := vx_le (f := f) (c := c) (i := k) ht hV a0 a1 (by omega) (by omega) q1 (by omega)
    have e : ((k + 1 : Nat) : Int) * t = k * t + t := by
      rw [Int.natCast_add, Int.add_mul]
      omega
    refine ⟨p1, ?_, ?_⟩
    · exact Int.le_trans q2 p2
    · rw [e]
      refine Int.le_trans p3 ?_
      omega
theorem vi_le {f : gr_t} : ∀ (n : Nat) {a c : Int} {s : vs_t}, 0 ≤ a → a < 8 → vo_ s → 0 ≤ s.2.2 → vo_ (vi_ f n a c s) ∧ s.2.2 ≤ (vi_ f n a c s).2.2 ∧ (vi_ f n a c s).2.2 ≤ s.2.2 + vt_ n := by
  intro n
  induction n with
  | zero => intro a c s _ _ h h0; exact ⟨h, Int.le_refl _, by show s.2.2 ≤ s.2.2 + 0; omega⟩
  | succ n ih =>
    intro a c s a0 a1 h h0
    have hz := vz_le (a := a) h h0
    have e1 : (vz_ a s).2.2 = s.2.2 + 1 := rfl
    have := vxk_le (V := vi_ f n) (f := f) (c := c) (vt_0 n) (fun i s i0 i1 hs h0 => ih i0 i1 hs h0) a0 a1 hz (by omega) 8 (Nat.le_refl _)
    obtain ⟨q1, q2, q3⟩ := this
    have e2 : vt_ (n + 1) = 1 + 8 * vt_ n := rfl
    refine ⟨q1, ?_, ?_⟩
    · show s.2.2 ≤ (fo_ (fun i s => vx_ (vi_ f n) f a c i s) (vz_ a s) 8).2.2
      omega
    · show (fo_ (fun i s => vx_ (vi_ f n) f a c i s) (vz_ a s) 8).2.2 ≤ _
      rw [e1] at q3
      omega
abbrev cx_ (k : Nat) : Prop := 171 ≤ k ∧ k ≤ 173
section CRI
variable {g : bc_C} {d : Nat} {f : gr_t}
theorem t_X0_visit (lf : gl_ f 99) : ∀ (n : Nat) {a c : Int} {s : vs_t} {σ : bc_M} {Rr : Option bc_A → bc_M → Prop} {X : Nat → bc_M → Prop}, n ≤ 8 → sv_ σ 158 f → 0 ≤ a → a < 8 → bc_in c → cr_ σ s → vo_ s → 0 ≤ s.2.2 → s.2.2 + vt_ n ≤ 2396745 → (∀ σ' : bc_M, cr_ σ' (vi_ f n a c s) → fr_ cx_ σ σ' → Rr none σ') → bc_Sem g (d + n + 1) mX0_visit [bc_R 171, bc_R 158, bc_I a, bc_I c, bc_I (9 - n)] σ Rr X := by
  intro n
  induction n with
  | zero =>
    intro a c s σ Rr X hn hf a0 a1 hc hS ho h0 hm h
    refine e_X0_visit rfl (fun K hK => ?_)
    refine hK.1 [] 60 _ _ _ _ _ ?_
    refine bc_ob_i (by omega) ?_
    refine bc_br_i (fun _ => ?_) (fun c => by omega)
    exact h σ hS (fr_refl _)
  | succ n ih =>
    intro a c s σ Rr X hn hf a0 a1 hc hS ho h0 hm h
    obtain ⟨c0, c1⟩ := hc
    have hz := vz_le (a := a) ho h0
    have e2 : vt_ (n + 1) = 1 + 8 * vt_ n := rfl
    have v0 := vt_0 n
    have hk := fun k hk => vxk_le (V := vi_ f n) (f := f) (c := c) (s := vz_ a s) (vt_0 n) (fun i s i0 i1 hs h0 => vi_le n i0 i1 hs h0) a0 a1 hz (show 0 ≤ s.2.2 + 1 by omega) k hk
    refine e_X0_visit rfl (fun K hK => ?_)
    have L : ∀ i : Int, ∀ σ' : bc_M, 0 ≤ i → i ≤ 8 → cr_ σ' (fo_ (fun i s => vx_ (vi_ f n) f a c i s) (vz_ a s) i.toNat) → fr_ cx_ σ σ' → K 41 [(0, bc_R 171), (1, bc_R 158), (2, bc_I a), (3, bc_I c), (4, bc_I (9 - ((n + 1 : Nat) : Int))), (5, bc_I i)] [] σ' 0 := by
      refine up_ind 8 (fun i hi σ' i0 i1 h2 h3 => ?_) (fun i hi ih2 σ' i0 i1 h2 h3 => ?_)
      · refine hK.1 [41] 60 _ _ _ _ _ ?_
        refine bc_ob_i (by omega) ?_
        refine bc_br_i (fun c => by omega) (fun _ => ?_)
        have e : i = 8 := by omega
        rw [e] at h2
        exact h σ' h2 h3
      · obtain ⟨q1, q2, q3⟩ := hk i.toNat (by omega)
        have es : fo_ (fun i s => vx_ (vi_ f n) f a c i s) (vz_ a s) (i + 1).toNat = vx_ (vi_ f n) f a c i (fo_ (fun i s => vx_ (vi_ f n) f a c i s) (vz_ a s) i.toNat) := fo_s i0
        generalize hs' : fo_ (fun i s => vx_ (vi_ f n) f a c i s) (vz_ a s) i.toNat = s' at *
        have e3 : (vz_ a s).2.2 = s.2.2 + 1 := rfl
        have hit : (i.toNat : Int) * vt_ n ≤ 7 * vt_ n := Int.mul_le_mul_of_nonneg_right (by omega) v0
        have hk2 : s'.2.2 + vt_ n ≤ 2396745 := by omega
        have hk3 : 0 ≤ s'.2.2 := by omega
        have fi := sv_fr hf h3 (by decide) a i a0 a1 i0 hi
        have li := lf a i a0 a1 i0 hi
        have hy : bc_in (σ'.1 158 (((8 : Nat) : Int) * a + i)) := by constructor <;> omega
        obtain ⟨r1, r2, r3⟩ := h2
        have n1 := r1 i i0 hi
        have n2 := r2 a a0 a1
        have m1 := q1.1 i i0 hi
        have m2 := q1.2 a a0 a1
        have skip : (i = c ∨ f a i = 0) → K 41 [(0, bc_R 171), (1, bc_R 158), (2, bc_I a), (3, bc_I c), (4, bc_I (9 - ((n + 1 : Nat) : Int))), (5, bc_I (i + 1))] [] σ' 0 := fun q => ih2 σ' (by omega) (by omega) (by rw [es]; unfold vx_; rw [if_pos q]; exact ⟨r1, r2, r3⟩) h3
        refine hK.1 [41] 60 _ _ _ _ _ ?_
        refine bc_ob_i (by omega) ?_
        refine bc_br_i (fun _ => ?_) (fun c => by omega)
        refine bc_ob_i (by omega) ?_
        refine bc_br_i (fun q => skip (.inl q)) (fun qc => ?_)
        refine bc_ob_i (by omega) ?_
        refine bc_ob_i (by omega) ?_
        refine bc_ob_i hy ?_
        refine bc_br_i (fun q => skip (.inr ?_)) (fun qf => ?_)
        · have q' : σ'.1 158 (((8 : Nat) : Int) * a + i) = 0 := q
          omega
        · have qf' : ¬ σ'.1 158 (((8 : Nat) : Int) * a + i) = 0 := qf
          have nq : ¬ (i = c ∨ f a i = 0) := by omega
          refine bc_ob_i (by omega) ?_
          refine bc_ob_i (by omega) ?_
          refine bc_br_i (fun q => ?_) (fun q => ?_)
          · obtain ⟨p1, p2, p3⟩ := vi_le (f := f) n (c := a) i0 hi q1 hk3
            have ed : 9 - ((n + 1 : Nat) : Int) + 1 = 9 - (n : Int) := by omega
            have go := ih (a := i) (c := a) (s := s') (σ := σ') (Rr := ?_) (X := ?_) (by omega) (sv_fr hf h3 (by decide)) i0 hi (by constructor <;> omega) ⟨r1, r2, r3⟩ q1 hk3 hk2 (fun σ'' t1 t2 => ?_)
            · rw [← ed] at go
              exact go
            · obtain ⟨u1, u2, u3⟩ := t1
              have w1 := u2 a a0 a1
              have w2 := u2 i i0 hi
              have x1 := p1.2 a a0 a1
              have x2 := p1.2 i i0 hi
              refine bc_ob_i (by omega) ?_
              refine bc_ob_i (by omega) ?_
              refine bc_ob_i ⟨by omega, by omega, Nat.le_of_ble_eq_true rfl⟩ ?_
              refine bc_ob_i (by omega) ?_
              refine ih2 _ (by omega) (by omega) ?_ (fr_trans h3 (fr_trans t2 (fr_wr (by omega))))
              rw [es]
              unfold vx_
              rw [if_neg nq, if_pos (by omega)]
              refine ⟨ar_fr u1 (fr_wr (P := fun k => k = 173) rfl) (by decide), ?_, ?_⟩
              · rw [w1, w2]
                exact ar_wr u2
              · rw [(fr_wr (P := fun k => k = 173) rfl).1 171 (by decide)]
                exact u3
          · refine bc_ob_i (by omega) ?_
            refine bc_ob_i (by omega) ?_
            refine bc_ob_i ⟨by omega, by omega, Nat.le_of_ble_eq_true rfl⟩ ?_
            refine bc_ob_i (by omega) ?_
            refine ih2 _ (by omega) (by omega) ?_ (fr_trans h3 (fr_wr (by omega)))
            rw [es]
            unfold vx_
            rw [if_neg nq, if_neg (by omega)]
            refine ⟨ar_fr r1 (fr_wr (P := fun k => k = 173) rfl) (by decide), ?_, ?_⟩
            · rw [n1, n2]
              exact ar_wr r2
            · rw [(fr_wr (P := fun k => k = 173) rfl).1 171 (by decide)]
              exact r3
    obtain ⟨r1, r2, r3⟩ := hS
    refine hK.1 [41] 60 _ _ _ _ _ ?_
    refine bc_ob_i (by omega) ?_
    refine bc_br_i (fun c => by omega) (fun _ => ?_)
    refine bc_ob_i (by omega) ?_
    refine bc_ob_i (by omega) ?_
    refine L 0 _ (by omega) (by omega) ⟨?_, ?_, ?_⟩ (fr_trans (fr_wr (by omega)) (fr_trans (fr_wr (by omega)) (fr_wr (by omega))))
    · have := ar_fr (ar_wr (i := a) (v := s.2.2 + 1) (ar_fr r1 (fr_wr (P := fun k => k = 171) (k := 171) (j := ((2 : Nat) : Int)) (v := σ.1 171 ((2 : Nat) : Int) + 1) rfl) (by decide))) (fr_wr (P := fun k => k = 173) (k := 173) (j := a) (v := s.2.2 + 1) rfl) (by decide)
      rw [r3] at this ⊢
      simp [bc_wr] at this ⊢
      exact this
    · have := ar_wr (i := a) (v := s.2.2 + 1) (ar_fr (ar_fr r2 (fr_wr (P := fun k => k = 171) (k := 171) (j := ((2 : Nat) : Int)) (v := σ.1 171 ((2 : Nat) : Int) + 1) rfl) (by decide)) (fr_wr (P := fun k => k = 172) (k := 172) (j := a) (v := s.2.2 + 1) rfl) (by decide))
      rw [r3] at this ⊢
      simp [bc_wr] at this ⊢
      exact this
    · simp [bc_wr]
      have : σ.1 171 2 = s.2.2 := r3
      rw [this]
      rfl
theorem t_X0_separates {a b : Int} {σ : bc_M} {Rr : Option bc_A → bc_M → Prop} {X : Nat → bc_M → Prop} (lf : gl_ f 99) (hf : sv_ σ 158 f) (a0 : 0 ≤ a) (a1 : a < 8) (b0 : 0 ≤ b) (b1 : b < 8) (h : ∀ σ' : bc_M, fr_ cx_ σ σ' → Rr (some (bc_I (se_ f a b))) σ') : bc_Sem g (d + 8 + 2) mX0_separates [bc_R 171, bc_R 158, bc_I a, bc_I b] σ Rr X := by
  refine e_X0_separates rfl (fun K hK => ?_)
  have hs0 : vo_ (fun _ => 0, fun _ => 0, 0) := ⟨fun j _ _ => ⟨Int.le_refl _, Int.le_refl _⟩, fun j _ _ => ⟨Int.le_refl _, Int.le_refl _⟩⟩
  have L : ∀ i : Int, ∀ σ' : bc_M, 0 ≤ i → i ≤ 8 → (∀ k : Int, 0 ≤ k → k < i → σ'.1 172 k = 0 ∧ σ'.1 173 k = 0) → σ'.1 171 ((2 : Nat) : Int) = 0 → fr_ cx_ σ σ' → K 8 [(0, bc_R 171), (1, bc_R 158), (2, bc_I a), (3, bc_I b), (4, bc_I i)] [] σ' 0 := by
    refine up_ind 8 (fun i hi σ' h0 h1 h2 h3 h4 => ?_) (fun i hi ih σ' h0 h1 h2 h3 h4 => ?_)
    · refine hK.1 [8] 60 _ _ _ _ _ ?_
      refine bc_ob_i (by omega) ?_
      refine bc_br_i (fun c => by omega) (fun _ => ?_)
      refine t_X0_visit lf 8 (s := (fun _ => 0, fun _ => 0, 0)) (by decide) (sv_fr hf h4 (by decide)) a0 a1 (by decide) ⟨fun k k0 k1 => (h2 k k0 (by omega)).1, fun k k0 k1 => (h2 k k0 (by omega)).2, h3⟩ hs0 (by decide) (by decide) (fun σ'' t1 t2 => ?_)
      obtain ⟨u1, u2, u3⟩ := t1
      obtain ⟨p1, p2, p3⟩ := vi_le (f := f) 8 (a := a) (c := -1) a0 a1 hs0 (by decide)
      have e8 : vt_ 8 = 2396745 := by decide
      have e0 : ((fun _ => 0, fun _ => 0, 0) : vs_t).2.2 = 0 := rfl
      have w1 := u1 a a0 a1
      have w2 := u2 b b0 b1
      have x1 := p1.1 a a0 a1
      have x2 := p1.2 b b0 b1
      have fin := h σ'' (fr_trans h4 t2)
      unfold se_ at fin
      refine bc_ob_i (by omega) ?_
      refine bc_ob_i (by omega) ?_
      refine bc_ob_i (by omega) ?_
      refine bc_br_i (fun c => ?_) (fun c => ?_)
      · refine bc_ob_i (by decide) ?_
        exact rt_ fin (by rw [if_pos (by omega)])
      · refine bc_ob_i (by decide) ?_
        exact rt_ fin (by rw [if_neg (by omega)])
    · refine hK.1 [8] 60 _ _ _ _ _ ?_
      refine bc_ob_i (by omega) ?_
      refine bc_br_i (fun _ => ?_) (fun c => by omega)
      refine bc_ob_i (by omega) ?_
      refine bc_ob_i (by omega) ?_
      refine ih _ (by omega) (by omega) (fun k k0 k1 => ?_) ?_ (fr_trans h4 (fr_trans (fr_wr (by omega)) (fr_wr (by omega))))
      · have := h2 k k0
        simp [bc_wr]
        omega
      · simp [bc_wr]
        exact h3
  refine hK.1 [8] 40 _ _ _ _ _ ?_
  exact L 0 _ (by omega) (by omega) (fun k k0 k1 => by omega) (by simp [bc_wr]) (fr_wr (by omega))
end CRI
