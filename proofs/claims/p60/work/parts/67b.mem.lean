/-! what the law computes of the members -/
theorem fcr_ {z : UInt32} (h : vf_n32 z) : (Op.cmpValue (FP.fcmp z z) .l).toInt = 0 := by
  have hn := fd3_ h
  show (Op.cmpValue (FP.Core.order (FP.Core.decode FP.Core.b32 z.toNat) (FP.Core.decode FP.Core.b32 z.toNat)) .l).toInt = 0
  cases hq : FP.Core.decode FP.Core.b32 z.toNat with
  | nan => exact absurd hq hn
  | inf s => cases s <;> decide
  | fin s c q =>
    have e : FP.Core.order (.fin s c q) (.fin s c q) = some .eq := by
      show some (compare (FP.Core.signed s (FP.Core.inUnits c q (min q q))) (FP.Core.signed s (FP.Core.inUnits c q (min q q)))) = _
      rw [cpe_]
    rw [e]
    decide
/-- what is reached without a member -/
theorem rc1_c {q : rw_t} {m k : Int} {x : Nat} : rc1_ q 1 m k x = if 1 ≤ br_ (rl_ q m 1) k ∧ x &&& bo_ q k ≠ 0 then x ||| bo_ q k else x := by
  unfold rc1_
  rw [rl_br]
  by_cases c : k = m
  · rw [if_pos c, if_neg (fun h => h.1 c), if_neg (fun h => by have := h.1; omega)]
  · rw [if_neg c]
    by_cases d : 1 ≤ br_ q k ∧ x &&& bo_ q k ≠ 0
    · rw [if_pos ⟨c, d⟩, if_pos d]
    · rw [if_neg (fun h => d h.2), if_neg d]
theorem bo_bit {q : rw_t} {k : Int} (j : Nat) : (bo_ q k).testBit j = (decide ((q (16 + 6 * k)).toNat = j) || decide ((q (17 + 6 * k)).toNat = j)) := by
  unfold bo_
  rw [Nat.testBit_or, Nat.testBit_two_pow, Nat.testBit_two_pow]
theorem bo_hit {q : rw_t} {k : Int} {x : Nat} : x &&& bo_ q k ≠ 0 ↔ x.testBit (q (16 + 6 * k)).toNat = true ∨ x.testBit (q (17 + 6 * k)).toNat = true := by
  have bb := fun j => bo_bit (q := q) (k := k) j
  generalize bo_ q k = b at bb ⊢
  generalize (q (16 + 6 * k)).toNat = o at bb ⊢
  generalize (q (17 + 6 * k)).toNat = p at bb ⊢
  constructor
  · intro h
    refine Classical.byContradiction (fun no => h ?_)
    refine Nat.eq_of_testBit_eq (fun i => ?_)
    rw [Nat.testBit_and, bb, Nat.zero_testBit]
    have n1 : x.testBit o = false := by
      cases e : x.testBit o with
      | true => exact absurd (.inl e) no
      | false => rfl
    have n2 : x.testBit p = false := by
      cases e : x.testBit p with
      | true => exact absurd (.inr e) no
      | false => rfl
    by_cases e1 : o = i
    · subst e1
      rw [n1, Bool.false_and]
    · by_cases e2 : p = i
      · subst e2
        rw [n2, Bool.false_and]
      · rw [decide_eq_false e1, decide_eq_false e2, Bool.or_false, Bool.and_false]
  · intro h e
    rcases h with h | h
    · have k9 : (x &&& b).testBit o = true := by
        rw [Nat.testBit_and, h, bb]
        simp
      rw [e, Nat.zero_testBit] at k9
      cases k9
    · have k9 : (x &&& b).testBit p = true := by
        rw [Nat.testBit_and, h, bb]
        simp
      rw [e, Nat.zero_testBit] at k9
      cases k9
theorem rc1_mono {q : rw_t} {l w k : Int} {x j : Nat} (h : x.testBit j = true) : (rc1_ q l w k x).testBit j = true := by
  unfold rc1_
  split
  · rw [Nat.testBit_or, h, Bool.true_or]
  · exact h
theorem rc2_mono {q : rw_t} {l w : Int} {x j : Nat} (h : x.testBit j = true) : ∀ n : Nat, (rc2_ q l w x n).testBit j = true
  | 0 => h
  | n + 1 => rc1_mono (rc2_mono h n)
theorem rc1_hit {q : rw_t} {m : Int} {k i j x : Nat} (hb : 1 ≤ br_ (rl_ q m 1) k) (hm : jn_ q k i j) (hi : x.testBit i = true) : (rc1_ q 1 m k x).testBit j = true := by
  rw [rc1_c]
  have hh : x.testBit (q (16 + 6 * (k : Int))).toNat = true ∨ x.testBit (q (17 + 6 * (k : Int))).toNat = true := by
    rcases hm with ⟨h1, h2⟩ | ⟨h1, h2⟩
    · left
      rw [h1, Int.toNat_natCast]
      exact hi
    · right
      rw [h2, Int.toNat_natCast]
      exact hi
  rw [if_pos ⟨hb, bo_hit.mpr hh⟩, Nat.testBit_or, bo_bit]
  rcases hm with ⟨h1, h2⟩ | ⟨h1, h2⟩
  · rw [h2, Int.toNat_natCast]
    simp
  · rw [h1, Int.toNat_natCast]
    simp
theorem rc1_sound {q : rw_t} (hW : wf_M q) {m : Int} {k j x : Nat} (k1 : (k : Int) < q 3) (h : (rc1_ q 1 m k x).testBit j = true) : x.testBit j = true ∨ (1 ≤ br_ (rl_ q m 1) k ∧ ∃ i : Nat, i < 8 ∧ x.testBit i = true ∧ (jn_ q k i j ∨ i = j)) := by
  have w3 := hW.1
  obtain ⟨g0, g1, -⟩ := hW.2 k (by omega) (by omega)
  rw [rc1_c] at h
  split at h
  · rename_i c
    obtain ⟨c1, c2⟩ := c
    rw [Nat.testBit_or, Bool.or_eq_true] at h
    rcases h with h | h
    · exact .inl h
    · refine .inr ⟨c1, ?_⟩
      rw [bo_bit, Bool.or_eq_true, decide_eq_true_eq, decide_eq_true_eq] at h
      rcases bo_hit.mp c2 with k9 | k9 <;> rcases h with h | h
      · exact ⟨_, by omega, k9, .inr h⟩
      · exact ⟨_, by omega, k9, .inl (.inl ⟨by omega, by omega⟩)⟩
      · exact ⟨_, by omega, k9, .inl (.inr ⟨by omega, by omega⟩)⟩
      · exact ⟨_, by omega, k9, .inr h⟩
  · exact .inl h
theorem rc2_hit {q : rw_t} {m : Int} {k i j x : Nat} (hb : 1 ≤ br_ (rl_ q m 1) k) (hm : jn_ q k i j) (hi : x.testBit i = true) : ∀ n : Nat, k < n → (rc2_ q 1 m x n).testBit j = true
  | 0, h => absurd h (Nat.not_lt_zero _)
  | n + 1, h => by
    by_cases e : k = n
    · subst e
      exact rc1_hit hb hm (rc2_mono hi k)
    · exact rc1_mono (rc2_hit hb hm hi n (by omega))
theorem rcv_full {q : rw_t} (hW : wf_M q) (hU : uj_ q) {m : Int} (hm : 0 ≤ m ∧ m < q 3) {a : Nat} (a8 : a < 8) : ∀ (k n j : Nat), n ≤ k → j < 8 → rch_ (sa_ (rl_ q m 1)) 1 a n j → (rc_ q 1 m a k).testBit j = true := by
  have w3 := hW.1
  have U2 := uj_eJ w3.2 (eJ_rl (w := 1) hm.1 (eJ_refl q)) hU
  have n3 := (rl_jn (q := q) hm.1 hm.1).2.2
  intro k
  induction k with
  | zero =>
    intro n j hn j8 h
    have e : n = 0 := by omega
    subst e
    have e2 : (j : Int) = a := h
    show (2 ^ ((a : Int)).toNat).testBit j = true
    rw [Int.toNat_natCast, Nat.testBit_two_pow]
    exact decide_eq_true (by omega)
  | succ k ih =>
    intro n j hn j8 h
    have base : ∀ i : Nat, (rc_ q 1 m a k).testBit i = true → (rc_ q 1 m a (k + 1)).testBit i = true := fun i hi => rc2_mono hi _
    cases n with
    | zero => exact base j (ih 0 j (by omega) j8 h)
    | succ n =>
      rcases h with h | ⟨i, ⟨i0, i1⟩, hi, hl⟩
      · exact base j (ih n j (by omega) j8 h)
      · obtain ⟨i', ei, i8⟩ := nat8 (x := i) ⟨i0, by omega⟩
        subst ei
        obtain ⟨y, m1, hj, hb⟩ := sa_ex U2 (by omega) (Int.le_refl 1) hl
        rw [n3] at m1
        have hj2 : jn_ q y i' j := by
          obtain ⟨r1, r2, -⟩ := rl_jn (q := q) hm.1 (k := (y : Int)) (by omega)
          unfold jn_ at hj ⊢
          rw [r1, r2] at hj
          exact hj
        exact rc2_hit hb hj2 (ih n i' (by omega) i8 hi) (q 3).toNat (by omega)
theorem rcv_sound {q : rw_t} (hW : wf_M q) (hU : uj_ q) {m : Int} (hm : 0 ≤ m ∧ m < q 3) {a : Nat} (a8 : a < 8) : ∀ (k : Nat) (j : Nat), j < 8 → (rc_ q 1 m a k).testBit j = true → ∃ n : Nat, rch_ (sa_ (rl_ q m 1)) 1 a n j := by
  have w3 := hW.1
  have U2 := uj_eJ w3.2 (eJ_rl (w := 1) hm.1 (eJ_refl q)) hU
  have n3 := (rl_jn (q := q) hm.1 hm.1).2.2
  intro k
  induction k with
  | zero =>
    intro j j8 h
    have h : (2 ^ ((a : Int)).toNat).testBit j = true := h
    rw [Int.toNat_natCast, Nat.testBit_two_pow, decide_eq_true_eq] at h
    exact ⟨0, by show (j : Int) = a; omega⟩
  | succ k ih =>
    have key : ∀ n : Nat, (n : Int) ≤ q 3 → ∀ j : Nat, j < 8 → (rc2_ q 1 m (rc_ q 1 m a k) n).testBit j = true → ∃ n : Nat, rch_ (sa_ (rl_ q m 1)) 1 a n j := by
      intro n
      induction n with
      | zero => intro _ j j8 h; exact ih j j8 h
      | succ n ihn =>
        intro hn j j8 h
        rcases rc1_sound hW (by omega) h with h | ⟨hb, i, i8, hi, hj | e⟩
        · exact ihn (by omega) j j8 h
        · obtain ⟨c, hc⟩ := ihn (by omega) i i8 hi
          refine ⟨c + 1, .inr ⟨i, by omega, hc, ?_⟩⟩
          have hj2 : jn_ (rl_ q m 1) n i j := by
            obtain ⟨r1, r2, -⟩ := rl_jn (q := q) hm.1 (k := (n : Int)) (by omega)
            unfold jn_ at hj ⊢
            rw [r1, r2]
            exact hj
          rw [sa_yes U2 (by omega) (by omega) (by omega) hj2]
          exact hb
        · rw [← e]
          exact ihn (by omega) i i8 hi
    intro j j8 h
    exact key (q 3).toNat (by omega) j j8 h
/-- a member is critical if its other joint is not reached without it -/
theorem cq_rc {q : rw_t} (hW : wf_M q) (hU : uj_ q) {m : Int} (hm : 0 ≤ m ∧ m < q 3) : cq_ q m = if 0 < br_ q m ∧ ¬ (rc_ q 1 m (q (16 + 6 * m)) 8).testBit (q (17 + 6 * m)).toNat = true then 1 else 0 := by
  have w3 := hW.1
  have bl := br_le hW (k := m) hm.1 (by omega)
  obtain ⟨g0, g1, -⟩ := hW.2 m hm.1 (by omega)
  rw [cq_acr hW hU hm, acr_cut hW hU hm]
  by_cases z : br_ q m = 0
  · rw [if_pos z, if_neg (fun h => by omega)]
  · rw [if_neg z]
    obtain ⟨a, ea, a8⟩ := nat8 g0
    obtain ⟨b, eb, b8⟩ := nat8 g1
    rw [ea, eb, Int.toNat_natCast]
    by_cases c : rch_ (sa_ (rl_ q m 1)) 1 a 7 b
    · rw [if_pos c, if_neg (fun h => h.2 (rcv_full hW hU hm a8 8 7 b (by omega) b8 c))]
    · have no : ¬ (rc_ q 1 m a 8).testBit b = true := fun h => by
        obtain ⟨n, hn⟩ := rcv_sound hW hU hm a8 8 b b8 h
        exact c (rch_7 (by omega) (by omega) (by omega) (by omega) hn)
      rw [if_neg c, if_pos ⟨by omega, no⟩]
/-- the members come in their order -/
theorem rk_ord {q : rw_t} {s t k : Int} (s0 : 0 ≤ s ∧ s < q 3) (t0 : 0 ≤ t ∧ t < q 3) (hs : rk_ q s = k) (ht : rk_ q t = k + 1) : 0 < br_ q t - br_ q s ∨ (br_ q t - br_ q s = 0 ∧ (0 < q (19 + 6 * s) - q (19 + 6 * t) ∨ (q (19 + 6 * s) - q (19 + 6 * t) = 0 ∧ s < t))) := by
  have n : s ≠ t := fun e => by rw [e] at hs; omega
  have b1 : bb_ q s t = 1 := by
    have h01 := bb_01 q t s
    have : bb_ q t s ≠ 1 := fun h => by
      have := rk_lt t0.1 t0.2 h
      omega
    unfold bb_ at this ⊢
    (repeat' split at this) <;> (repeat' split) <;> omega
  unfold bb_ at b1
  (repeat' split at b1) <;> omega
theorem lg0_ (x : Int64) : lg_cmp x x = 0 := by
  unfold lg_cmp
  rw [if_neg (by simp), if_pos rfl]
theorem ak_w {B : Int} {q : rw_t} (hW : wf_M q) (hT : wf_T B q) (hU : uj_ q) : ak1_ q := by
  refine ⟨fun a b a0 a1 b0 b1 hne => ⟨?_, la_tb hW a0 a1 b0 b1 hne⟩, fun m m0 m1 => (cq_acr hW hU ⟨m0, m1⟩).trans (cr1_acr hW hU ⟨m0, m1⟩).symm, kpa_days hT⟩
  obtain ⟨x, hx⟩ := wt1_ex q a b
  have e := wt1_xw hW hU ⟨a0, a1⟩ ⟨b0, b1⟩ hne hx
  rw [wb_xw hW hU a0 a1 b0 b1 (fun h => hne h.symm) (xw_99 hW a 8 b (fun h => hne h.symm)), ← e]
  exact hx
