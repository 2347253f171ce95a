/-! how far the class measures -/
theorem mj_spec (f : gr_t) (l c : Int) (dd : Int → Int) : ∀ k : Nat, k ≤ 8 → (∀ x : Int, mj_ f l c dd k x ≤ dd x) ∧ (∀ x : Int, dd x ≤ c → mj_ f l c dd k x = dd x) ∧ (∀ i : Int, 0 ≤ i → i < k → dd i = c → ∀ x : Int, l ≤ f i x → mj_ f l c dd k x ≤ c + 1) ∧ ∀ x : Int, mj_ f l c dd k x = dd x ∨ (mj_ f l c dd k x = c + 1 ∧ ∃ i : Int, (0 ≤ i ∧ i < 8) ∧ dd i = c ∧ l ≤ f i x)
  | 0, _ => ⟨fun _ => Int.le_refl _, fun _ _ => rfl, fun i i0 i1 => by omega, fun _ => .inl rfl⟩
  | k + 1, hk => by
    obtain ⟨hA, hB, hC, hD⟩ := mj_spec f l c dd k (by omega)
    have e : mj_ f l c dd (k + 1) = if mj_ f l c dd k (k : Int) = c then sp1_ f l (mj_ f l c dd k) k else mj_ f l c dd k := rfl
    rw [e]
    generalize mj_ f l c dd k = E at *
    by_cases h : E (k : Int) = c
    · rw [if_pos h]
      have dk : dd (k : Int) = c := by
        rcases hD (k : Int) with q | ⟨q, -⟩
        · rw [← q]; exact h
        · omega
      have val : ∀ x, sp1_ f l E (k : Int) x = if l ≤ f (k : Int) x then min (E x) (c + 1) else E x := fun x => by
        unfold sp1_
        rw [h]
      refine ⟨fun x => ?_, fun x hx => ?_, fun i i0 i1 hi x hx => ?_, fun x => ?_⟩
      · rw [val]
        have := hA x
        split <;> omega
      · rw [val, hB x hx]
        split <;> omega
      · rw [val]
        by_cases ei : i = (k : Int)
        · rw [ei] at hx
          rw [if_pos hx]
          omega
        · have := hC i i0 (by omega) hi x hx
          split <;> omega
      · rw [val]
        by_cases hx : l ≤ f (k : Int) x
        · rw [if_pos hx]
          by_cases cc : E x ≤ c + 1
          · rw [show min (E x) (c + 1) = E x by omega]
            exact hD x
          · rw [show min (E x) (c + 1) = c + 1 by omega]
            exact .inr ⟨rfl, (k : Int), by omega, dk, hx⟩
        · rw [if_neg hx]
          exact hD x
    · rw [if_neg h]
      refine ⟨hA, hB, fun i i0 i1 hi x hx => ?_, hD⟩
      by_cases ei : i = (k : Int)
      · rw [ei] at hi
        have := hB (k : Int) (by omega)
        omega
      · exact hC i i0 (by omega) hi x hx
theorem mc_spec (f : gr_t) (l : Int) {t : Int} : ∀ k : Nat, k ≤ 7 → (∀ x : Int, 0 ≤ x → x < 8 → 0 ≤ mc_ f l t k x ∧ mc_ f l t k x ≤ 8 ∧ (mc_ f l t k x ≤ 7 → rch_ f l t (mc_ f l t k x).toNat x)) ∧ ∀ (n : Nat) (x : Int), n ≤ k → 0 ≤ x → x < 8 → rch_ f l t n x → mc_ f l t k x ≤ n
  | 0, _ => by
    refine ⟨fun x x0 x1 => ?_, fun n x hn x0 x1 h => ?_⟩
    · show 0 ≤ m0_ t x ∧ m0_ t x ≤ 8 ∧ (m0_ t x ≤ 7 → rch_ f l t (m0_ t x).toNat x)
      unfold m0_
      split
      · rename_i e
        exact ⟨by decide, by decide, fun _ => e⟩
      · exact ⟨by decide, by decide, fun h => absurd h (by decide)⟩
    · have n0 : n = 0 := by omega
      subst n0
      have e : x = t := h
      show m0_ t x ≤ _
      unfold m0_
      rw [if_pos e]
      decide
  | k + 1, hk => by
    obtain ⟨hS, hF⟩ := mc_spec f l (t := t) k (by omega)
    have e : mc_ f l t (k + 1) = mj_ f l (k : Int) (mc_ f l t k) 8 := rfl
    rw [e]
    obtain ⟨hA, hB, hC, hD⟩ := mj_spec f l (k : Int) (mc_ f l t k) 8 (Nat.le_refl 8)
    generalize mc_ f l t k = D at *
    refine ⟨fun x x0 x1 => ?_, fun n x hn x0 x1 h => ?_⟩
    · rcases hD x with q | ⟨q, i, hi, di, hl⟩
      · rw [q]
        exact hS x x0 x1
      · rw [q]
        refine ⟨by omega, by omega, fun _ => ?_⟩
        have hr := (hS i hi.1 hi.2).2.2 (by omega)
        rw [di] at hr
        rw [show ((k : Int) + 1).toNat = (k : Int).toNat + 1 by omega]
        exact .inr ⟨i, hi, hr, hl⟩
    · by_cases c : n ≤ k
      · exact Int.le_trans (hA x) (hF n x c x0 x1 h)
      · have en : n = k + 1 := by omega
        subst en
        rcases h with h | ⟨i, hi, hr, hl⟩
        · have := hF k x (Nat.le_refl k) x0 x1 h
          have := hA x
          omega
        · have li := hF k i (Nat.le_refl k) hi.1 hi.2 hr
          have si := hS i hi.1 hi.2
          by_cases ci : D i = (k : Int)
          · have := hC i hi.1 (by omega) ci x hl
            omega
          · have h2 : rch_ f l t ((D i).toNat + 1) x := .inr ⟨i, hi, si.2.2 (by omega), hl⟩
            have := hF ((D i).toNat + 1) x (by omega) x0 x1 h2
            have := hA x
            omega
theorem md_iff (f : gr_t) {l t x : Int} (x0 : 0 ≤ x) (x1 : x < 8) {n : Nat} (hn : n ≤ 7) : md_ f l t x ≤ n ↔ rch_ f l t n x := by
  obtain ⟨hS, hF⟩ := mc_spec f l (t := t) 7 (Nat.le_refl 7)
  have h := hS x x0 x1
  exact ⟨fun q => rch_le (h.2.2 (show mc_ f l t 7 x ≤ 7 by have : mc_ f l t 7 x ≤ n := q; omega)) n (by have : mc_ f l t 7 x ≤ n := q; omega), fun q => hF n x hn x0 x1 q⟩
theorem md_le (f : gr_t) {l t x : Int} (x0 : 0 ≤ x) (x1 : x < 8) : 0 ≤ md_ f l t x ∧ md_ f l t x ≤ 8 := by
  obtain ⟨hS, -⟩ := mc_spec f l (t := t) 7 (Nat.le_refl 7)
  exact ⟨(hS x x0 x1).1, (hS x x0 x1).2.1⟩
/-- class and reference: equally far, where it can be reached -/
theorem md_xm {q : rw_t} (hW : wf_M q) (hu : uj_ q) {l t x : Int} (t0 : 0 ≤ t) (t1 : t < 8) (x0 : 0 ≤ x) (x1 : x < 8) (l1 : 1 ≤ l) : (md_ (sa_ q) l t x ≤ 7 ∧ xm_ q l (-1) t 8 x = md_ (sa_ q) l t x) ∨ (md_ (sa_ q) l t x = 8 ∧ 8 < xm_ q l (-1) t 8 x) := by
  have h1 := md_le (sa_ q) (l := l) (t := t) x0 x1
  have h2 := (xm_sound (l := l) (t := t) hW hu 8 x x0 x1).1
  by_cases c : md_ (sa_ q) l t x ≤ 7
  · refine .inl ⟨c, ?_⟩
    have a := (md_iff (sa_ q) (l := l) (t := t) x0 x1 (n := (md_ (sa_ q) l t x).toNat) (by omega)).mp (by omega)
    have b := (xm_iff hW hu x0 x1 l1 (n := (md_ (sa_ q) l t x).toNat) (by omega)).mpr a
    have a2 := (xm_iff hW hu x0 x1 l1 (t := t) (n := (xm_ q l (-1) t 8 x).toNat) (by omega)).mp (by omega)
    have b2 := (md_iff (sa_ q) (l := l) (t := t) x0 x1 (n := (xm_ q l (-1) t 8 x).toNat) (by omega)).mpr a2
    omega
  · refine .inr ⟨by omega, ?_⟩
    refine Classical.byContradiction (fun no => ?_)
    have a := (xm_iff hW hu x0 x1 l1 (t := t) (n := 8) (Nat.le_refl 8)).mp (by omega)
    have b := (md_iff (sa_ q) (l := l) (t := t) x0 x1 (n := 7) (Nat.le_refl 7)).mpr (rch_7 t0 t1 x0 x1 a)
    omega
