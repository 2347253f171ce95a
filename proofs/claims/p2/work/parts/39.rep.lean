/-! prices between all joints; what is affordable -/
def fq_ (k i j : Int) (f : gr_t) : gr_t := ug_ f i j (min (f i j) (f i k + f k j))
def fr1_ (k i : Int) (f : gr_t) (n : Nat) : gr_t := fo_ (fun j f => fq_ k i j f) f n
def fr2_ (k : Int) (f : gr_t) (n : Nat) : gr_t := fo_ (fun i f => fr1_ k i f 8) f n
def fr3_ (f : gr_t) (n : Nat) : gr_t := fo_ (fun k f => fr2_ k f 8) f n
/-- the closed prices -/
def fc_ (f : gr_t) : gr_t := fr3_ f 8
theorem fq_le {k i j : Int} {f : gr_t} (h : gl_ f 1000000) (k0 : 0 ≤ k) (k1 : k < 8) (i0 : 0 ≤ i) (i1 : i < 8) (j0 : 0 ≤ j) (j1 : j < 8) : gl_ (fq_ k i j f) 1000000 := fun a b a0 a1 b0 b1 => by
  have q1 := h a b a0 a1 b0 b1
  have q2 := h i j i0 i1 j0 j1
  have q3 := h i k i0 i1 k0 k1
  have q4 := h k j k0 k1 j0 j1
  unfold fq_ ug_
  split <;> omega
theorem fr1_le {k i : Int} {f : gr_t} (h : gl_ f 1000000) (k0 : 0 ≤ k) (k1 : k < 8) (i0 : 0 ≤ i) (i1 : i < 8) (n : Nat) (hn : n ≤ 8) : gl_ (fr1_ k i f n) 1000000 := by
  unfold fr1_
  exact fo_inv (n := 8) (P := fun f => gl_ f 1000000) h (fun j f j0 j1 hf => fq_le hf k0 k1 i0 i1 j0 (by omega)) n hn
theorem fr2_le {k : Int} {f : gr_t} (h : gl_ f 1000000) (k0 : 0 ≤ k) (k1 : k < 8) (n : Nat) (hn : n ≤ 8) : gl_ (fr2_ k f n) 1000000 := by
  unfold fr2_
  exact fo_inv (n := 8) (P := fun f => gl_ f 1000000) h (fun i f i0 i1 hf => fr1_le hf k0 k1 i0 (by omega) 8 (Nat.le_refl _)) n hn
theorem fr3_le {f : gr_t} (h : gl_ f 1000000) (n : Nat) (hn : n ≤ 8) : gl_ (fr3_ f n) 1000000 := by
  unfold fr3_
  exact fo_inv (n := 8) (P := fun f => gl_ f 1000000) h (fun k f k0 k1 hf => fr2_le hf k0 (by omega) 8 (Nat.le_refl _)) n hn
def nq_ (f : gr_t) (l s i j : Int) (t : gr_t) : gr_t := if t i j = 0 ∧ f i j ≤ s then ug_ t i j l else t
def nr_ (f : gr_t) (l s i : Int) (t : gr_t) (n : Nat) : gr_t := fo_ (fun j t => nq_ f l s i j t) t n
def na_ (f : gr_t) (l s : Int) (t : gr_t) (n : Nat) : gr_t := fo_ (fun i t => nr_ f l s i t 8) t n
theorem nq_le {f t : gr_t} {l s i j : Int} (h : gl_ t 99) (hl : 0 ≤ l ∧ l ≤ 99) : gl_ (nq_ f l s i j t) 99 := fun a b a0 a1 b0 b1 => by
  have q := h a b a0 a1 b0 b1
  unfold nq_ ug_
  split
  · simp only
    split <;> omega
  · exact q
theorem nr_le {f t : gr_t} {l s i : Int} (h : gl_ t 99) (hl : 0 ≤ l ∧ l ≤ 99) (n : Nat) : gl_ (nr_ f l s i t n) 99 := by
  unfold nr_
  exact fo_inv (n := n) (P := fun f => gl_ f 99) h (fun j t _ _ ht => nq_le ht hl) n (Nat.le_refl _)
theorem na_le {f t : gr_t} {l s : Int} (h : gl_ t 99) (hl : 0 ≤ l ∧ l ≤ 99) (n : Nat) : gl_ (na_ f l s t n) 99 := by
  unfold na_
  exact fo_inv (n := n) (P := fun f => gl_ f 99) h (fun j t _ _ ht => nr_le ht hl 8) n (Nat.le_refl _)
/-- the load by ways: from 99 down; n loads were tried -/
def la_ (r : rw_t) (s a b : Int) : Nat → Int
  | 0 => 0
  | n + 1 => if iw_ r (n + 1 : Nat) = 1 ∧ dc_ (pr_ r (n + 1 : Nat)) a b ≤ s then ((n + 1 : Nat) : Int) else la_ r s a b n
/-- the table: the loads n, n - 1, .. 1 come yet -/
def ta1_ (r : rw_t) (s : Int) (l : Int) (t : gr_t) : gr_t := if iw_ r l = 1 then na_ (fc_ (pr_ r l)) l s t 8 else t
def tl_ (r : rw_t) (s : Int) : Nat → gr_t → gr_t
  | 0, t => t
  | n + 1, t => tl_ r s n (ta1_ r s (n + 1 : Nat) t)
/-- the loads of the table -/
def tb_ (r : rw_t) (s : Int) : gr_t := tl_ r s 99 (fun _ _ => 0)
abbrev tx1_ (k : Nat) : Prop := k = 186
abbrev rx_ (k : Nat) : Prop := 175 ≤ k ∧ k ≤ 194
section REP
variable {g : bc_C} {d : Nat} {σ : bc_M} {r : rw_t} {Rr : Option bc_A → bc_M → Prop} {X : Nat → bc_M → Prop} {f : gr_t}
theorem t_X4_closePrices (hf : sv_ σ 175 f) (lf : gl_ f 1000000) (h : ∀ σ' : bc_M, sv_ σ' 175 (fc_ f) → fr_ px_ σ σ' → Rr none σ') : bc_Sem g (d + 1) mX4_closePrices [bc_R 174] σ Rr X := by
  refine e_X4_closePrices rfl (fun K hK => ?_)
  have L : ∀ k : Int, ∀ σ' : bc_M, 0 ≤ k → k ≤ 8 → sv_ σ' 175 (fr3_ f k.toNat) → fr_ px_ σ σ' → K 2 [(0, bc_R 174), (1, bc_I k)] [] σ' 0 := by
    refine up_ind 8 (fun k hk σ' h0 h1 h2 h3 => ?_) (fun k hk ih σ' h0 h1 h2 h3 => ?_)
    · refine hK.1 [2] 60 _ _ _ _ _ ?_
      refine bc_ob_i (by omega) ?_
      refine bc_br_i (fun c => by omega) (fun c => ?_)
      have e : k = 8 := by omega
      rw [e] at h2
      exact h σ' h2 h3
    · have lk := fr3_le lf k.toNat (by omega)
      have es : fr3_ f (k + 1).toNat = fr2_ k (fr3_ f k.toNat) 8 := fo_s h0
      generalize fr3_ f k.toNat = F at *
      have L1 : ∀ i : Int, ∀ σ' : bc_M, 0 ≤ i → i ≤ 8 → sv_ σ' 175 (fr2_ k F i.toNat) → fr_ px_ σ σ' → K 10 [(0, bc_R 174), (1, bc_I k), (2, bc_I i)] [] σ' 0 := by
        refine up_ind 8 (fun i hi σ' i0 i1 i2 i3 => ?_) (fun i hi jh σ' i0 i1 i2 i3 => ?_)
        · refine hK.1 [2, 10] 60 _ _ _ _ _ ?_
          refine bc_ob_i (by omega) ?_
          refine bc_br_i (fun c => by omega) (fun c => ?_)
          refine hK.2 _ _ [(0, bc_R 174), (1, bc_I (k + 1))] _ _ _ (ls_ _ _) ?_
          refine ih _ (by omega) (by omega) ?_ i3
          have e : i = 8 := by omega
          rw [e] at i2
          rw [es]
          exact i2
        · have li := fr2_le lk h0 hk i.toNat (by omega)
          have ei : fr2_ k F (i + 1).toNat = fr1_ k i (fr2_ k F i.toNat) 8 := fo_s i0
          generalize fr2_ k F i.toNat = G at *
          have L2 : ∀ j : Int, ∀ σ' : bc_M, 0 ≤ j → j ≤ 8 → sv_ σ' 175 (fr1_ k i G j.toNat) → fr_ px_ σ σ' → K 18 [(0, bc_R 174), (1, bc_I k), (2, bc_I i), (3, bc_I j)] [] σ' 0 := by
            refine up_ind 8 (fun j hj σ' j0 j1 j2 j3 => ?_) (fun j hj kh σ' j0 j1 j2 j3 => ?_)
            · refine hK.1 [2, 10, 18] 60 _ _ _ _ _ ?_
              refine bc_ob_i (by omega) ?_
              refine bc_br_i (fun c => by omega) (fun c => ?_)
              refine hK.2 _ _ [(0, bc_R 174), (1, bc_I k), (2, bc_I (i + 1))] _ _ _ (ls_ _ _) ?_
              refine jh _ (by omega) (by omega) ?_ j3
              have e : j = 8 := by omega
              rw [e] at j2
              rw [ei]
              exact j2
            · have lj := fr1_le li h0 hk i0 hi j.toNat (by omega)
              have ej : fr1_ k i G (j + 1).toNat = fq_ k i j (fr1_ k i G j.toNat) := fo_s j0
              generalize fr1_ k i G j.toNat = H at *
              have y1 := j2 i j i0 hi j0 hj
              have y2 := j2 i k i0 hi h0 hk
              have y3 := j2 k j h0 hk j0 hj
              have x1 := lj i j i0 hi j0 hj
              have x2 := lj i k i0 hi h0 hk
              have x3 := lj k j h0 hk j0 hj
              have z1 : bc_in (σ'.1 175 (((8 : Nat) : Int) * i + j)) := by constructor <;> omega
              have z2 : bc_in (σ'.1 175 (((8 : Nat) : Int) * i + k) + σ'.1 175 (((8 : Nat) : Int) * k + j)) := by constructor <;> omega
              refine hK.1 [2, 10, 18] 60 _ _ _ _ _ ?_
              refine bc_ob_i (by omega) ?_
              refine bc_br_i (fun c => ?_) (fun c => by omega)
              refine bc_ob_i (by omega) ?_
              refine bc_ob_i (by omega) ?_
              refine bc_ob_i (by omega) ?_
              refine bc_ob_i (by omega) ?_
              refine bc_ob_i (by omega) ?_
              refine bc_ob_i (by omega) ?_
              refine bc_ob_i (by omega) ?_
              refine bc_ob_i ⟨z1, z2, Nat.le_of_ble_eq_true rfl⟩ ?_
              refine bc_ob_i (by omega) ?_
              refine kh _ (by omega) (by omega) ?_ (fr_trans j3 (fr_wr rfl))
              rw [ej]
              have := sv_wr (v := min (H i j) (H i k + H k j)) i0 hi j0 hj j2
              unfold fq_
              rw [← y1, ← y2, ← y3] at this ⊢
              exact this
          refine hK.1 [2, 10, 18] 60 _ _ _ _ _ ?_
          refine bc_ob_i (by omega) ?_
          refine bc_br_i (fun c => ?_) (fun c => by omega)
          exact L2 0 σ' (by omega) (by omega) i2 i3
      refine hK.1 [2, 10] 60 _ _ _ _ _ ?_
      refine bc_ob_i (by omega) ?_
      refine bc_br_i (fun c => ?_) (fun c => by omega)
      exact L1 0 σ' (by omega) (by omega) h2 h3
  refine hK.1 [2] 40 _ _ _ _ _ ?_
  exact L 0 _ (by omega) (by omega) hf (fr_refl _)
theorem t_X4_noteAffordable {l s : Int} {t : gr_t} (hf : sv_ σ 175 f) (lf : gl_ f 1000000) (ht : sv_ σ 186 t) (lt : gl_ t 99) (hl : 0 ≤ l ∧ l ≤ 99) (hs : bc_in s) (h : ∀ σ' : bc_M, sv_ σ' 186 (na_ f l s t 8) → fr_ tx1_ σ σ' → Rr none σ') : bc_Sem g (d + 1) mX4_noteAffordable [bc_R 174, bc_I l, bc_I s] σ Rr X := by
  refine e_X4_noteAffordable rfl (fun K hK => ?_)
  have L : ∀ i : Int, ∀ σ' : bc_M, 0 ≤ i → i ≤ 8 → sv_ σ' 186 (na_ f l s t i.toNat) → fr_ tx1_ σ σ' → K 2 [(0, bc_R 174), (1, bc_I l), (2, bc_I s), (3, bc_I i)] [] σ' 0 := by
    refine up_ind 8 (fun i hi σ' h0 h1 h2 h3 => ?_) (fun i hi ih σ' h0 h1 h2 h3 => ?_)
    · refine hK.1 [2] 60 _ _ _ _ _ ?_
      refine bc_ob_i (by omega) ?_
      refine bc_br_i (fun c => by omega) (fun c => ?_)
      have e : i = 8 := by omega
      rw [e] at h2
      exact h σ' h2 h3
    · have lk := na_le (f := f) (s := s) lt hl i.toNat
      have es : na_ f l s t (i + 1).toNat = nr_ f l s i (na_ f l s t i.toNat) 8 := fo_s h0
      generalize na_ f l s t i.toNat = F at *
      have L1 : ∀ j : Int, ∀ σ' : bc_M, 0 ≤ j → j ≤ 8 → sv_ σ' 186 (nr_ f l s i F j.toNat) → fr_ tx1_ σ σ' → K 11 [(0, bc_R 174), (1, bc_I l), (2, bc_I s), (3, bc_I i), (4, bc_I j)] [] σ' 0 := by
        refine up_ind 8 (fun j hj σ' j0 j1 j2 j3 => ?_) (fun j hj jh σ' j0 j1 j2 j3 => ?_)
        · refine hK.1 [2, 11] 60 _ _ _ _ _ ?_
          refine bc_ob_i (by omega) ?_
          refine bc_br_i (fun c => by omega) (fun c => ?_)
          refine hK.2 _ _ [(0, bc_R 174), (1, bc_I l), (2, bc_I s), (3, bc_I (i + 1))] _ _ _ (ls_ _ _) ?_
          refine ih _ (by omega) (by omega) ?_ j3
          have e : j = 8 := by omega
          rw [e] at j2
          rw [es]
          exact j2
        · have lj := nr_le (f := f) (s := s) (i := i) lk hl j.toNat
          have ej : nr_ f l s i F (j + 1).toNat = nq_ f l s i j (nr_ f l s i F j.toNat) := fo_s j0
          generalize nr_ f l s i F j.toNat = H at *
          have y1 := j2 i j h0 hi j0 hj
          have x1 := lj i j h0 hi j0 hj
          have y2 := sv_fr hf j3 (by decide) i j h0 hi j0 hj
          have x2 := lf i j h0 hi j0 hj
          have z1 : bc_in (σ'.1 186 (((8 : Nat) : Int) * i + j)) := by constructor <;> omega
          have z2 : bc_in (σ'.1 175 (((8 : Nat) : Int) * i + j)) := by constructor <;> omega
          refine hK.1 [2, 11] 60 _ _ _ _ _ ?_
          refine bc_ob_i (by omega) ?_
          refine bc_br_i (fun c => ?_) (fun c => by omega)
          refine bc_ob_i (by omega) ?_
          refine bc_ob_i (by omega) ?_
          refine bc_ob_i z1 ?_
          refine bc_br_i (fun c => ?_) (fun c => ?_)
          · have c' : σ'.1 186 (((8 : Nat) : Int) * i + j) = 0 := c
            refine bc_ob_i (by omega) ?_
            refine bc_ob_i (by omega) ?_
            refine bc_ob_i ⟨z2, hs⟩ ?_
            refine bc_br_i (fun c2 => ?_) (fun c2 => ?_)
            · have c2' : s < σ'.1 175 (((8 : Nat) : Int) * i + j) := c2
              refine jh _ (by omega) (by omega) ?_ j3
              rw [ej]
              unfold nq_
              rw [if_neg (by omega)]
              exact j2
            · have c2' : ¬ s < σ'.1 175 (((8 : Nat) : Int) * i + j) := c2
              refine bc_ob_i (by omega) ?_
              refine bc_ob_i (by omega) ?_
              refine jh _ (by omega) (by omega) ?_ (fr_trans j3 (fr_wr rfl))
              rw [ej]
              unfold nq_
              rw [if_pos (by omega)]
              exact sv_wr h0 hi j0 hj j2
          · have c' : ¬ σ'.1 186 (((8 : Nat) : Int) * i + j) = 0 := c
            refine jh _ (by omega) (by omega) ?_ j3
            rw [ej]
            unfold nq_
            rw [if_neg (by omega)]
            exact j2
      refine hK.1 [2, 11] 60 _ _ _ _ _ ?_
      refine bc_ob_i (by omega) ?_
      refine bc_br_i (fun c => ?_) (fun c => by omega)
      exact L1 0 σ' (by omega) (by omega) h2 h3
  refine hK.1 [2] 40 _ _ _ _ _ ?_
  exact L 0 _ (by omega) (by omega) ht (fr_refl _)
end REP
