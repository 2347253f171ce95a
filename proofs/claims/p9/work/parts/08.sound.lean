/-! THE ABSTRACT MACHINE IS RIGHT: an instruction at a time -/
theorem bc_i_t {x : Int} (h : bc_in x) : (Int32.ofInt x).toInt = x := Int32.toInt_ofInt_of_le (by have := h.1; omega) (by have := h.2; omega)
theorem bc_i_lt {x y : Int} (hx : bc_in x) (hy : bc_in y) : Int32.ofInt x < Int32.ofInt y ↔ x < y := by rw [Int32.lt_iff_toInt_lt, bc_i_t hx, bc_i_t hy]
theorem bc_i_le {x y : Int} (hx : bc_in x) (hy : bc_in y) : Int32.ofInt x ≤ Int32.ofInt y ↔ x ≤ y := by rw [Int32.le_iff_toInt_le, bc_i_t hx, bc_i_t hy]
theorem bc_i_eq {x y : Int} (hx : bc_in x) (hy : bc_in y) : Int32.ofInt x = Int32.ofInt y ↔ x = y := by rw [← Int32.toInt_inj, bc_i_t hx, bc_i_t hy]
theorem bc_in_0 : bc_in 0 := ⟨by decide, by decide⟩
theorem bc_vp {j : Int} {n : Nat} (h0 : 0 ≤ j) (h1 : j < (n : Int)) (hn : n < 2000) : vp_in (Int32.ofInt j) n ∧ (Int32.ofInt j).toNatClampNeg = j.toNat := by
  have ht : (Int32.ofInt j).toInt = j := bc_i_t ⟨by omega, by omega⟩
  refine ⟨vp_in_iff.mpr ⟨by rw [ht]; exact h0, by rw [ht]; exact h1⟩, ?_⟩
  show (Int32.ofInt j).toInt.toNat = _
  rw [ht]
theorem bc_div {x y : Int} (hx : 0 ≤ x ∧ x ≤ 2147483647) (hy : 0 < y ∧ y ≤ 2147483647) : Int32.ofInt x / Int32.ofInt y = Int32.ofInt (x / y) := by
  have tx : (Int32.ofInt x).toInt = x := bc_i_t ⟨by omega, by omega⟩
  have ty : (Int32.ofInt y).toInt = y := bc_i_t ⟨by omega, by omega⟩
  have h0 : 0 ≤ x / y := Int.ediv_nonneg hx.1 (by omega)
  have h1 : x / y ≤ x := Int.ediv_le_self y hx.1
  apply Int32.toInt_inj.mp
  rw [Int32.toInt_div_of_ne_right _ _ (by intro h; have h2 := congrArg Int32.toInt h; rw [ty] at h2; have h3 : (-1 : Int32).toInt = -1 := by decide
                                          rw [h3] at h2; omega), tx, ty, bc_i_t ⟨by omega, by omega⟩, Int.tdiv_eq_ediv_of_nonneg hx.1]
theorem bc_ne0 {y : Int} (hy : 0 < y ∧ y ≤ 2147483647) : ¬ Int32.ofInt y = 0 := by
  intro h
  have ty : (Int32.ofInt y).toInt = y := bc_i_t ⟨by omega, by omega⟩
  have h2 := congrArg Int32.toInt h
  rw [ty] at h2
  have h3 : (0 : Int32).toInt = 0 := by decide
  rw [h3] at h2
  omega
theorem bc_rem {x y : Int} (hx : 0 ≤ x ∧ x ≤ 2147483647) (hy : 0 < y ∧ y ≤ 2147483647) : Int32.ofInt x - Int32.ofInt x / Int32.ofInt y * Int32.ofInt y = Int32.ofInt (x % y) := by
  rw [bc_div hx hy, ← Int32.ofInt_mul, ← Int32.ofInt_sub]
  congr 1
  have := Int.mul_ediv_add_emod x y
  have h2 : x / y * y = y * (x / y) := Int.mul_comm _ _
  omega
section BCS
variable {p : Program} {e : Env} {R : Room} {s : State} {m : MethodId} {args : Array Value} {below : List Frame} {meth : Method} {c : Code} {Q : State → Prop} {g : bc_C} {Y : bc_Y} {pc : Nat} {lv : bc_LV} {st r : List bc_A} {σ : bc_M} {n c0 s0 : Nat}
/-- a store of a local -/
theorem bc_s_store1 {v : bc_A} {k w : Nat} (hw : bc_wide v = false) (row : ∀ (H : Heap) (locs : List Loc) (ls : Array Slot) (rest : List Value), lv_has ls (bc_nL Y) (bc_lv g lv) →
      (∀ ls' : Array Slot, lv_has ls' (bc_nL Y) ((k, bc_v g v) :: (bc_lv g lv).filter (fun q => !(q.1 == k) && !(q.1 + 1 == k && q.2.category == 2))) → W p (bc_l g) e R s m args below meth c H locs (c0 + n) (s0 + 6 * n) Q (F0 m w ls' rest)) → W p (bc_l g) e R s m args below meth c H locs (c0 + n) (s0 + 6 * n) Q (F0 m pc ls (bc_v g v :: rest)))
    (h : bc_T g Y p e R s m args below meth c Q c0 s0 w (bc_lset lv k v) r σ n) : bc_T g Y p e R s m args below meth c Q c0 s0 pc lv (v :: r) σ n :=
  fun H locs ls hn hH hS hl => row H locs ls _ hl (fun ls' hl' => h H locs ls' hn hH hS (bc_lset_has (by rw [hw]; simpa using hl')))
theorem bc_s_store2 {v : bc_A} {k w : Nat} (hw : bc_wide v = true) (row : ∀ (H : Heap) (locs : List Loc) (ls : Array Slot) (rest : List Value), lv_has ls (bc_nL Y) (bc_lv g lv) →
      (∀ ls' : Array Slot, lv_has ls' (bc_nL Y) ((k, bc_v g v) :: (bc_lv g lv).filter (fun q => !(q.1 == k) && (!(q.1 == k + 1) && !(q.1 + 1 == k && q.2.category == 2)))) → W p (bc_l g) e R s m args below meth c H locs (c0 + n) (s0 + 6 * n) Q (F0 m w ls' rest)) → W p (bc_l g) e R s m args below meth c H locs (c0 + n) (s0 + 6 * n) Q (F0 m pc ls (bc_v g v :: rest)))
    (h : bc_T g Y p e R s m args below meth c Q c0 s0 w (bc_lset lv k v) r σ n) : bc_T g Y p e R s m args below meth c Q c0 s0 pc lv (v :: r) σ n := by
  intro H locs ls hn hH hS hl
  refine row H locs ls _ hl (fun ls' hl' => h H locs ls' hn hH hS (bc_lset_has ?_))
  rw [hw]
  refine ⟨hl'.1, hl'.2.1, fun q hq => hl'.2.2 q ?_⟩
  rcases List.mem_cons.mp hq with e | hq
  · exact List.mem_cons.mpr (Or.inl e)
  · obtain ⟨h1, h2⟩ := List.mem_filter.mp hq
    refine List.mem_cons.mpr (Or.inr (List.mem_filter.mpr ⟨h1, ?_⟩))
    simp only [Bool.true_and] at h2
    revert h2
    cases (q.1 == k) <;> cases (q.1 == k + 1) <;> cases (q.1 + 1 == k && q.2.category == 2) <;> decide
/-- the cells that a write of number j of the place (b, j') touches -/
theorem bc_e_obj {k ci : Nat} {fs : List (Option Nat)} (h : bc_sh k = some (.inl (ci, fs))) : bc_e g σ k = .inr (ci, bc_fs g σ k fs) := by unfold bc_e; rw [h]
theorem bc_e_arr {k ty w : Nat} (h : bc_sh k = some (.inr (.inl (ty, w)))) : bc_e g σ k = .inl (bc_cA g ty, w, .inl (fun j => Int32.ofInt (σ.1 k (j : Int)))) := by unfold bc_e; rw [h]
theorem bc_e_row {k b i w : Nat} (h : bc_sh k = some (.inr (.inr (.inl (b, i, w))))) : bc_e g σ k = .inl (bc_cA g 0, w, .inl (fun j => if j < w then Int32.ofInt (σ.1 b ((w : Int) * (i : Int) + (j : Int))) else 0)) := by unfold bc_e; rw [h]
theorem bc_wr_ne {k j : Nat} {a v : Int} (h : j ≠ k) : (bc_wr σ k a v).1 j = σ.1 j := by funext x; simp [bc_wr, h]
theorem bc_wr_at {k : Nat} {a v x : Int} : (bc_wr σ k a v).1 k x = if x = a then v else σ.1 k x := by simp [bc_wr]
/-- a cell that does not hold numbers of σ.1 k is as before -/
theorem bc_e_same {σ' : bc_M} {k j : Nat} (h1 : ∀ i, i ≠ k → σ'.1 i = σ.1 i) (h2 : σ'.2 = σ.2) (hj : j ≠ k) (hr : ∀ b i w, bc_sh j = some (.inr (.inr (.inl (b, i, w)))) → b ≠ k) : bc_e g σ' j = bc_e g σ j := by
  unfold bc_e
  cases hs : bc_sh j with
  | none => rfl
  | some q =>
    obtain ⟨ci, fs⟩ | ⟨ty, w⟩ | ⟨b, i, w⟩ | ⟨w, u⟩ | ⟨w, b, d⟩ | b := q
    · show Sum.inr (ci, bc_fs g σ' j fs) = Sum.inr (ci, bc_fs g σ j fs)
      unfold bc_fs bc_fv
      rw [h1 j hj]
    · show (Sum.inl (_, _, Sum.inl fun x : Nat => Int32.ofInt (σ'.1 j (x : Int))) : va_E) = Sum.inl (_, _, Sum.inl fun x : Nat => Int32.ofInt (σ.1 j (x : Int)))
      rw [h1 j hj]
    · show (Sum.inl (_, _, Sum.inl fun x : Nat => if x < w then Int32.ofInt (σ'.1 b _) else 0) : va_E) = Sum.inl (_, _, Sum.inl fun x : Nat => if x < w then Int32.ofInt (σ.1 b _) else 0)
      rw [h1 b (hr b i w hs)]
    · rfl
    · rfl
    · show (if b = true then _ else _) = (if b = true then _ else _)
      rw [h2]
theorem bc_row_grid {j b i w : Nat} (h : bc_sh j = some (.inr (.inr (.inl (b, i, w))))) : ∃ u : Nat, bc_sh b = some (.inr (.inr (.inr (.inl (u, w))))) ∧ i < u ∧ j = b + 1 + i ∧ w < 2000 := by
  have h1 := bc_sh_ok (bc_sh_lt h)
  unfold bc_shc at h1
  rw [h] at h1
  dsimp only at h1
  split at h1
  · rename_i u w' hb
    simp only [Bool.and_eq_true, decide_eq_true_eq] at h1
    obtain ⟨⟨⟨h2, h3⟩, h4⟩, h5⟩ := h1
    subst h2
    exact ⟨u, hb, h3, h4, h5⟩
  · cases h1
theorem bc_grid_row {b u w i : Nat} (h : bc_sh b = some (.inr (.inr (.inr (.inl (u, w)))))) (hi : i < u) : bc_sh (b + 1 + i) = some (.inr (.inr (.inl (b, i, w)))) ∧ u < 2000 := by
  have h1 := bc_sh_ok (bc_sh_lt h)
  unfold bc_shc at h1
  rw [h] at h1
  simp only [Bool.and_eq_true, decide_eq_true_eq] at h1
  have h2 := List.all_eq_true.mp h1.2 i (List.mem_range.mpr hi)
  refine ⟨?_, h1.1⟩
  split at h2
  · rename_i b' i' w' hb
    simp only [Bool.and_eq_true, decide_eq_true_eq] at h2
    obtain ⟨⟨e1, e2⟩, e3⟩ := h2
    rw [hb, e1, e2, e3]
  · cases h2
/-- an element of a row of numbers: where it lies, what a write makes -/
noncomputable def bc_el (g : bc_C) (σ : bc_M) (v : bc_A) (j : Int) (b : Nat) (j' : Int) (ty : Nat) : Prop :=
  ∃ (k0 w : Nat) (f : Nat → Int32), bc_v g v = .ref (bc_ad g k0) ∧ k0 < 230 ∧ ty < 3 ∧ w < 2000 ∧ 0 ≤ j ∧ j < (w : Int) ∧ bc_e g σ k0 = .inl (bc_cA g ty, w, .inl f) ∧ f j.toNat = Int32.ofInt (σ.1 b j') ∧
    ∀ x : Int, (bc_ws g σ).set k0 (bc_ad g k0, .inl (bc_cA g ty, w, .inl (upd f j.toNat (Int32.ofInt x)))) = bc_ws g (bc_wr σ b j' x)
theorem bc_ix_e {v : bc_A} {j : Int} {f : Nat → Int → Nat → Prop} (h : bc_ix v j f) : ∃ (b : Nat) (j' : Int) (ty : Nat), bc_el g σ v j b j' ty ∧ f b j' ty := by
  unfold bc_ix at h
  split at h
  · rename_i k
    split at h
    · rename_i ty w hs
      obtain ⟨⟨h0, h1⟩, h2⟩ := h
      have hk := bc_sh_lt hs
      have h3 := bc_sh_ok hk
      unfold bc_shc at h3
      rw [hs] at h3
      simp only [Bool.and_eq_true, decide_eq_true_eq] at h3
      refine ⟨k, j, ty, ⟨k, w, _, rfl, hk, h3.1, h3.2, h0, h1, bc_e_arr hs, ?_, fun x => ?_⟩, h2⟩
      · show Int32.ofInt (σ.1 k ((j.toNat : Nat) : Int)) = _
        rw [Int.toNat_of_nonneg h0]
      · refine bc_ws_set hk ?_ (fun i hi hne => bc_e_same (fun i hi => bc_wr_ne hi) rfl hne (fun b i w hr hb => ?_))
        · rw [bc_e_arr hs]
          congr 3
          congr 1
          funext q
          rw [bc_wr_at]
          unfold upd
          by_cases hq : q = j.toNat
          · rw [if_pos hq, if_pos (by rw [hq]; exact Int.toNat_of_nonneg h0)]
          · rw [if_neg hq, if_neg (fun hh => hq (by omega))]
        · obtain ⟨u, h5, -⟩ := bc_row_grid hr
          rw [hb, hs] at h5
          cases h5
    · exact h.elim
  · rename_i k i
    split at h
    · rename_i u w hs
      obtain ⟨⟨⟨hi0, hi1⟩, h0, h1⟩, h2⟩ := h
      obtain ⟨hr, hu⟩ := bc_grid_row hs (i := i.toNat) (by omega)
      obtain ⟨u', h5, h6, h7, h8⟩ := bc_row_grid hr
      have hk := bc_sh_lt hr
      have hii : ((i.toNat : Nat) : Int) = i := Int.toNat_of_nonneg hi0
      refine ⟨k, (w : Int) * i + j, 0, ⟨k + 1 + i.toNat, w, _, rfl, hk, by decide, h8, h0, h1, bc_e_row hr, ?_, fun x => ?_⟩, h2⟩
      · show (if j.toNat < w then Int32.ofInt (σ.1 k ((w : Int) * ((i.toNat : Nat) : Int) + ((j.toNat : Nat) : Int))) else 0) = _
        rw [if_pos (by omega), hii, Int.toNat_of_nonneg h0]
      · refine bc_ws_set hk ?_ (fun y hy hne => ?_)
        · rw [bc_e_row hr]
          congr 3
          congr 1
          funext q
          unfold upd
          dsimp only
          rw [bc_wr_at, hii]
          by_cases hq : q = j.toNat
          · rw [if_pos hq, if_pos (by omega), if_pos (by rw [hq, Int.toNat_of_nonneg h0])]
          · rw [if_neg hq]
            by_cases hqw : q < w
            · rw [if_pos hqw, if_pos hqw, if_neg (fun hh => hq (by omega))]
            · rw [if_neg hqw, if_neg hqw]
        · by_cases hyk : ∃ i2, bc_sh y = some (.inr (.inr (.inl (k, i2, w))))
          · obtain ⟨i2, hy2⟩ := hyk
            obtain ⟨u2, -, -, h9, -⟩ := bc_row_grid hy2
            have hi2 : i2 ≠ i.toNat := fun q => hne (by omega)
            rw [bc_e_row hy2, bc_e_row hy2]
            congr 3
            congr 1
            funext q
            by_cases hqw : q < w
            · rw [if_pos hqw, if_pos hqw, bc_wr_at, if_neg ?_]
              intro hh
              have hlt : i2 < i.toNat ∨ i.toNat < i2 := by omega
              rcases hlt with hlt | hlt
              · have : (w : Int) * (i2 : Int) + (w : Int) ≤ (w : Int) * i := by
                  have h10 : (i2 : Int) + 1 ≤ i := by omega
                  have := Int.mul_le_mul_of_nonneg_left h10 (show (0 : Int) ≤ (w : Int) by omega)
                  rwa [Int.mul_add, Int.mul_one] at this
                omega
              · have : (w : Int) * i + (w : Int) ≤ (w : Int) * (i2 : Int) := by
                  have h10 : i + 1 ≤ (i2 : Int) := by omega
                  have := Int.mul_le_mul_of_nonneg_left h10 (show (0 : Int) ≤ (w : Int) by omega)
                  rwa [Int.mul_add, Int.mul_one] at this
                omega
            · rw [if_neg hqw, if_neg hqw]
          · have hyg : y ≠ k ∨ y = k := by omega
            rcases hyg with hyg | hyg
            · refine bc_e_same (fun z hz => bc_wr_ne hz) rfl hyg (fun b2 i2 w2 hr2 hb => ?_)
              subst hb
              obtain ⟨u2, h11, -⟩ := bc_row_grid hr2
              rw [hs] at h11
              cases h11
              exact hyk ⟨i2, hr2⟩
            · subst hyg
              unfold bc_e
              rw [hs]
    · exact h.elim
  · exact h.elim
end BCS
