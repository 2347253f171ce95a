/-! the fresh object: its row, what the class's mirror says of it -/
def r0_ : rw_t := fun j => if j = 1 then 30 else if j = 2 then 5 else if j = 11 then 99 else 0
def v0_ : cs_t := (r0_, r0_, r0_, ([], 0), (fun _ => 0, 0), [], (fun _ => 0, fun _ _ => 0), [], 0, -1, -1)
theorem r0_0 : r0_ 0 = 0 := by decide
theorem r0_1 : r0_ 1 = 30 := by decide
theorem r0_2 : r0_ 2 = 5 := by decide
theorem r0_3 : r0_ 3 = 0 := by decide
theorem r0_4 : r0_ 4 = 0 := by decide
theorem r0_z {j : Int} (h : j ≠ 1 ∧ j ≠ 2 ∧ j ≠ 11) : r0_ j = 0 := by unfold r0_; rw [if_neg h.1, if_neg h.2.1, if_neg h.2.2]
theorem r0_M : wf_M r0_ := by
  refine ⟨by rw [r0_3]; decide, fun k k0 k1 => ?_⟩
  rw [r0_z (by omega), r0_z (by omega), r0_z (by omega), r0_z (by omega), r0_z (by omega), r0_z (by omega)]
  decide
theorem r0_N : wf_N r0_ := by
  refine ⟨.inl (by decide), by decide, by decide, by decide, by decide⟩
theorem r0_T : wf_T 0 r0_ := by
  refine ⟨by decide, by decide, by decide, by decide, by decide, by decide, by decide, by decide, by decide, by decide, by decide, by decide, fun k k0 k1 => ?_, fun k k0 k1 => ?_, fun k l k0 k1 l1 => ?_⟩
  · rw [r0_z (by omega), r0_z (by omega), r0_z (by omega)]
    decide
  · rw [r0_4] at k1; omega
  · rw [r0_4] at l1; omega
/-! the fresh memory, and that the constructors leave it -/
def s0_ : bc_M := (fun k j => bif Nat.beq k 0 then (if j = 10 then -1 else if j = 11 then -1 else 0) else bif [9, 23, 37, 53, 67, 81, 95, 109, 123, 137, 151].elem k then (if j = 0 then 99 else 0) else bif [11, 25, 39, 55, 69, 83, 97, 111, 125, 139, 153].elem k then (if j = 1 then 30 else if j = 2 then 5 else 0) else 0, 0, 0)
theorem s0_A (b : Nat) (hb : b = 1 ∨ b = 15 ∨ b = 29) : st_A 0 s0_ b r0_ := by
  have kM : ∀ (c : Nat), (c = b + 2 ∨ c = b + 3 ∨ c = b + 4 ∨ c = b + 5 ∨ c = b + 6 ∨ c = b + 7 ∨ c = b + 9 ∨ c = b + 11 ∨ c = b + 12 ∨ c = b + 13) → ∀ j : Int, s0_.1 c j = 0 := by
    intro c hc j
    rcases hb with rfl | rfl | rfl <;> rcases hc with rfl | rfl | rfl | rfl | rfl | rfl | rfl | rfl | rfl | rfl <;> rfl
  refine ⟨⟨⟨?_, fun k k0 k1 => ⟨?_, ?_, ?_, ?_, ?_, ?_⟩⟩, ⟨?_, fun k k0 k1 => ?_⟩, ?_, fun k k0 k1 => ⟨?_, ?_, ?_⟩⟩, r0_M, r0_N, r0_T⟩
  · rcases hb with rfl | rfl | rfl <;> decide
  · rw [kM _ (by omega), r0_z (by omega)]
  · rw [kM _ (by omega), r0_z (by omega)]
  · rw [kM _ (by omega), r0_z (by omega)]
  · rw [kM _ (by omega), r0_z (by omega)]
  · rw [kM _ (by omega), r0_z (by omega)]
  · rw [kM _ (by omega), r0_z (by omega)]
  · rcases hb with rfl | rfl | rfl <;> decide
  · rw [kM _ (by omega), r0_z (by omega)]
  · rcases hb with rfl | rfl | rfl <;> decide
  · rw [kM _ (by omega), r0_z (by omega)]
  · rw [kM _ (by omega), r0_z (by omega)]
  · rw [kM _ (by omega), r0_z (by omega)]
theorem s0_tx (k : Nat) (hk : k = 196 ∨ k = 216) : tx_ s0_ k [] := by
  refine ⟨?_, by decide, fun j hj => absurd hj (by simp), fun c hc => by cases hc⟩
  rcases hk with rfl | rfl <;> decide
theorem s0_fa : fa_ 0 s0_ v0_ := by
  refine ⟨⟨s0_A 1 (.inl rfl), s0_A 15 (.inr (.inl rfl)), s0_A 29 (.inr (.inr rfl)), by decide, by decide, by decide, by decide, fun t ht => absurd ht (Nat.not_lt_zero t)⟩, ⟨fun j _ _ => rfl, fun j _ _ => by show (0 : Int) ≤ 0 ∧ (0 : Int) ≤ 7; decide⟩, ⟨by decide, by decide, by decide⟩, s0_tx 196 (.inl rfl), ⟨fun j _ _ => rfl, fun j _ _ => by show (0 : Int) ≤ 0 ∧ (0 : Int) ≤ 9; decide⟩, ⟨fun i j _ _ _ _ => rfl, fun i j _ _ _ _ => by show (0 : Int) ≤ 0 ∧ (0 : Int) ≤ 999; decide⟩, s0_tx 216 (.inr rfl), ⟨by decide, by decide, by decide⟩, ⟨by decide, by decide, by decide⟩, by decide, by decide, by decide⟩
