/-! the fresh object: its row, what the class's mirror says of it -/
def r0_ : rw_t := fun j => if j = 1 then 30 else if j = 2 then 5 else if j = 11 then 99 else 0
def v0_ : cs_t := (r0_, r0_, r0_, ([], 0), (fun _ => 0, 0), [], (fun _ => 0, fun _ _ => 0), [], 0, -1, -1)
theorem r0_0 : r0_ 0 = 0 := by decide
theorem r0_1 : r0_ 1 = 30 := by decide
theorem r0_2 : r0_ 2 = 5 := by decide
theorem r0_3 : r0_ 3 = 0 := by decide
theorem r0_4 : r0_ 4 = 0 := by decide
theorem r0_z {j : Int} (h : j ≠ 1 ∧ j ≠ 2 ∧ j ≠ 11) : r0_ j = 0 := by unfold r0_; rw [if_neg h.1, if_neg h.2.1, if_neg h.2.2]
theorem r0_M : wf_M r0_ := by
  refine ⟨by rw [r0_3]; decide, fun k k0 k1 => ?_⟩
  rw [r0_z (by omega), r0_z (by omega), r0_z (by omega), r0_z (by omega), r0_z (by omega), r0_z (by omega)]
  decide
theorem r0_N : wf_N r0_ := by
  refine ⟨.inl (by decide), by decide, by decide, by decide, by decide⟩
theorem r0_T : wf_T 0 r0_ := by
  refine ⟨by decide, by decide, by decide, by decide, by decide, by decide, by decide, by decide, by decide, by decide, by decide, by decide, fun k k0 k1 => ?_, fun k k0 k1 => ?_, fun k l k0 k1 l1 => ?_⟩
  · rw [r0_z (by omega), r0_z (by omega), r0_z (by omega)]
    decide
  · rw [r0_4] at k1; omega
  · rw [r0_4] at l1; omega
