/-! the fresh object: its row, what the class's mirror says of it -/
def r0_ : rw_t := fun j => if j = 1 then 30 else if j = 2 then 5 else if j = 11 then 99 else 0
def v0_ : cs_t := (r0_, r0_, r0_, ([], 0), (fun _ => 0, 0), [], (fun _ => 0, fun _ _ => 0), [], 0, -1, -1)
theorem r0_0 : r0_ 0 = 0 := by decide
theorem r0_1 : r0_ 1 = 30 := by decide
theorem r0_2 : r0_ 2 = 5 := by decide
theorem r0_3 : r0_ 3 = 0 := by decide
theorem r0_4 : r0_ 4 = 0 := by decide
theorem r0_z {j : Int} (h : j ≠ 1 ∧ j ≠ 2 ∧ j ≠ 11) : r0_ j = 0 := by unfold r0_; rw [if_neg h.1, if_neg h.2.1, if_neg h.2.2]
theorem r0_M : wf_M r0_ := by
  refine ⟨by rw [r0_3]; decide, fun k k0 k1 => ?_⟩
  rw [r0_z (by omega), r0_z (by omega), r0_z (by omega), r0_z (by omega), r0_z (by omega), r0_z (by omega)]
  decide
theorem r0_N : wf_N r0_ := by
  refine ⟨.inl (by decide), by decide, by decide, by decide, by decide⟩
theorem r0_T : wf_T 0 r0_ := by
  refine ⟨by decide, by decide, by decide, by decide, by decide, by decide, by decide, by decide, by decide, by decide, by decide, by decide, fun k k0 k1 => ?_, fun k k0 k1 => ?_, fun k l k0 k1 l1 => ?_⟩
  · rw [r0_z (by omega), r0_z (by omega), r0_z (by omega)]
    decide
  · rw [r0_4] at k1; omega
  · rw [r0_4] at l1; omega
theorem tw0 : tw_ r0_ = 0 := by decide
theorem sa0 : sa_ r0_ = fun _ _ => 0 := by
  unfold sa_ sb_
  rw [r0_3]
  rfl
theorem wn0 (q : Int → Int) : wn_ (fun _ => 0) q = -1 := by
  unfold wn_ wp_
  have := fo_inv (n := 8) (f := fun j p => wo_ (fun _ => 0) q p j) (a := ((-1 : Int), (0 : Int))) (P := fun p => p = (-1, 0)) rfl (fun i p _ _ hp => by
    subst hp
    unfold wo_
    rw [if_neg (fun h => Int.lt_irrefl 0 h.2)]) 8 (Nat.le_refl _)
  rw [this]
theorem wb0 (a b : Int) : wb_ (fun _ _ => 0) a b = 0 := by
  unfold wb_ wk_
  have := fo_inv (n := 7) (f := fun _ s => wg_ (fun _ _ => 0) s) (a := wi_ (fun _ _ => 0) a) (P := fun s => s = wi_ (fun _ _ => 0) a) rfl (fun i s _ _ hs => by
    subst hs
    unfold wg_ wi_
    rw [if_pos (wn0 _)]) 7 (Nat.le_refl _)
  rw [this]
  rfl
theorem iw0 (l : Int) : iw_ r0_ l = 0 := by
  unfold iw_ iq_
  rw [r0_3]
  rfl
theorem la0 (s a b : Int) : ∀ n : Nat, la_ r0_ s a b n = 0 := by
  intro n
  induction n with
  | zero => rfl
  | succ n ih =>
    unfold la_
    rw [if_neg (fun q => by rw [iw0] at q; exact absurd q.1 (by decide))]
    exact ih
theorem tl0 (s : Int) : ∀ (n : Nat) (t : gr_t), tl_ r0_ s n t = t := by
  intro n
  induction n with
  | zero => intro t; rfl
  | succ n ih =>
    intro t
    unfold tl_
    rw [ih]
    unfold ta1_
    rw [if_neg (fun q => by rw [iw0] at q; exact absurd q (by decide))]
theorem tb0 (s a b : Int) : tb_ r0_ s a b = 0 := by
  unfold tb_
  rw [tl0]
theorem nwb0 (a b l : Int) : ¬ wb1_ r0_ a b l := fun q => by
  obtain ⟨⟨k, k0, k1, -⟩, -⟩ := q
  rw [r0_3] at k1
  omega
theorem wt0 {a b x : Int} (h : wt1_ r0_ a b x) : x = 0 := by
  rcases h with h | h
  · exact h.1
  · exact absurd h.2.1 (nwb0 a b x)
theorem sp0 (a : Int) : sp_ r0_ a = 30 + 5 * a := by
  unfold sp_
  rw [r0_4, r0_0, r0_1, r0_2]
  show 30 + 5 * (a - 0) - 0 = _
  omega
theorem ak0 : ak1_ r0_ := by
  refine ⟨fun a b _ _ _ _ _ => ⟨.inl ⟨by rw [sa0]; exact wb0 a b, fun l _ _ => nwb0 a b l⟩, by rw [la0, tb0]⟩, fun m m0 m1 => by rw [r0_3] at m1; omega, ⟨fun _ k k0 k1 => by rw [r0_4] at k1; omega, fun _ a a0 a1 => by rw [sp0, r0_0]; omega⟩⟩
theorem lf0 : lf_ (sa_ r0_) 8 = 0 := by
  rw [sa0]
  decide +kernel
theorem ps0 : ∀ n : Nat, ps_ r0_ n 4 = 0 ∧ ps_ r0_ n 6 = 0 := by
  intro n
  induction n with
  | zero => decide
  | succ n ih =>
    obtain ⟨i4, i6⟩ := ih
    unfold ps_ pd_ vd_
    have e4 : pi_ (ps_ r0_ n) 4 = 0 := by
      unfold pi_
      rw [up_ne (by decide), up_ne (by decide), up_ne (by decide)]
      exact i4
    rw [e4]
    show up_ (pi_ (ps_ r0_ n)) 4 0 4 = 0 ∧ up_ (pi_ (ps_ r0_ n)) 4 0 6 = 0
    refine ⟨up_at, ?_⟩
    unfold pi_
    rw [up_ne (by decide), up_ne (by decide), up_ne (by decide), up_ne (by decide)]
    exact i6
theorem zp0 : (zp_ v0_).1 = 0 := by
  have e : (qw_ [] 0 10 0).1 = -1 := by decide
  show (qp_ [] (15 + 1) 0 0 _ _).1 = 0
  rw [qp_s, if_pos e]
theorem mq0 {a b s f : Int} (h : mq_ r0_ a b s f) : f = adt_ a b s ∧ (f = 0 ∨ f = 1 ∨ f = 2) := by
  unfold mq_ at h
  unfold adt_
  unfold pf_ at h
  rw [r0_3] at h
  rcases h with ⟨h1, h2⟩ | ⟨h1, h2, h3⟩ | ⟨h1, h2, h3 | ⟨k, k0, k1, -⟩, h4⟩ | ⟨h1, h2, h3, h4, h5⟩
  all_goals first | omega | (revert h1; (repeat' split) <;> intro h1 <;> (try split at h2) <;> (try split at h2) <;> omega)
theorem wq0 (a b n : Int) : wq_ r0_ a b n = (if wat_ a b n = 3 then 4 else wat_ a b n) := by
  unfold wq_ wat_ pf_
  rw [sa0, wb0]
  (repeat' split) <;> first | rfl | omega
theorem vq0 (a u : Int) : vq_ r0_ a u = 2 ∨ vq_ r0_ a u = 0 := by
  unfold vq_
  rw [r0_4]
  (repeat' split) <;> omega
theorem eq0 (m : Int) : eq_ r0_ m = 1 := by
  unfold eq_
  rw [r0_3, if_pos (by omega)]
theorem lq0 (m b : Int) : lq_ r0_ m b = 1 := by
  unfold lq_
  rw [r0_3, if_pos (by omega)]
theorem tq0 (m : Int) : tq_ r0_ m = 1 := by
  unfold tq_
  rw [r0_3, if_pos (by omega)]
theorem ix0 (m : Int) : ix_ r0_ m = 1 := by
  unfold ix_
  rw [r0_3, if_neg (by omega)]
theorem yq0 (a b : Int) : yq_ r0_ a b = (if aw0_ a b = 3 then 4 else aw0_ a b) := by
  have := pf_le a b
  unfold yq_ aw0_
  rw [sa0, wb0]
  (repeat' split) <;> omega
theorem pq0 (p c w : Int) : (pq_ r0_ p c w = 0 ∧ put_ r0_ p c w = 0) ∨ (pq_ r0_ p c w = 1 ∧ put_ r0_ p c w = 1) ∨ (pq_ r0_ p c w = 2 ∧ put_ r0_ p c w = 2) ∨ (pq_ r0_ p c w = 5 ∧ put_ r0_ p c w = 3) := by
  unfold pq_ put_
  by_cases c1 : 0 ≤ p ∧ p ≤ 3
  · have e : r0_ (12 + p) = 0 := r0_z (by omega)
    rw [e]
    (repeat' split) <;> omega
  · rw [if_pos (show p < 0 ∨ 4 ≤ p by omega), if_pos c1]
    omega
theorem rp0 {p w : Int} (h : 0 ≤ p ∧ p ≤ 3) : tw_ (rp_ r0_ p w) = w := by
  have hh : p = 0 ∨ p = 1 ∨ p = 2 ∨ p = 3 := by omega
  have z2 : r0_ 12 = 0 := by decide
  have z3 : r0_ 13 = 0 := by decide
  have z4 : r0_ 14 = 0 := by decide
  have z5 : r0_ 15 = 0 := by decide
  unfold tw_ rp_
  rcases hh with rfl | rfl | rfl | rfl <;> simp [up_, z2, z3, z4, z5]
theorem lg0 (x : Int64) : lg_cmp x x = 0 := by
  unfold lg_cmp
  rw [if_neg (by simp), if_pos rfl]
