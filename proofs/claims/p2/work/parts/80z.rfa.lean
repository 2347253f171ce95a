/-! the faults of put, as class and reference count them -/
theorem pq_put {q : rw_t} (hW : wf_N q) (p c w : Int) : pq_ q p c w = if put_ q p c w = 3 then 5 else if put_ q p c w = 4 then 3 else put_ q p c w := by
  obtain ⟨t1, t2, t3, t4, t5⟩ := hW
  by_cases c1 : 0 ≤ p ∧ p ≤ 3
  · have lp : 0 ≤ q (12 + p) := by
      have hh : p = 0 ∨ p = 1 ∨ p = 2 ∨ p = 3 := by omega
      rcases hh with rfl | rfl | rfl | rfl
      · exact t2.1
      · exact t3.1
      · exact t4.1
      · exact t5.1
    by_cases c2 : (c = 99 ∨ c = 108) ∧ 1 ≤ w ∧ w ≤ 20
    · by_cases c3 : q 11 = c
      · by_cases c4 : q (12 + p) = 0
        · have e1 : pq_ q p c w = 0 := by
            unfold pq_
            rw [if_neg (by omega), if_neg (by omega), if_neg (by omega), if_neg (by omega)]
          have e2 : put_ q p c w = 0 := by
            unfold put_
            rw [if_neg (fun k => k c1), if_neg (fun k => k c2), if_neg (fun k => k c3), if_neg (fun k => k c4)]
          rw [e1, e2]
          rfl
        · have e1 : pq_ q p c w = 3 := by
            unfold pq_
            rw [if_neg (by omega), if_neg (by omega), if_neg (by omega), if_pos (by omega)]
          have e2 : put_ q p c w = 4 := by
            unfold put_
            rw [if_neg (fun k => k c1), if_neg (fun k => k c2), if_neg (fun k => k c3), if_pos c4]
          rw [e1, e2]
          rfl
      · have e1 : pq_ q p c w = 5 := by
          unfold pq_
          rw [if_neg (by omega), if_neg (by omega), if_pos (by omega)]
        have e2 : put_ q p c w = 3 := by
          unfold put_
          rw [if_neg (fun k => k c1), if_neg (fun k => k c2), if_pos c3]
        rw [e1, e2]
        rfl
    · have e1 : pq_ q p c w = 2 := by
        unfold pq_
        rw [if_neg (by omega), if_pos (by omega)]
      have e2 : put_ q p c w = 2 := by
        unfold put_
        rw [if_neg (fun k => k c1), if_pos c2]
      rw [e1, e2]
      rfl
  · have e1 : pq_ q p c w = 1 := by
      unfold pq_
      rw [if_pos (by omega)]
    have e2 : put_ q p c w = 1 := by
      unfold put_
      rw [if_pos c1]
    rw [e1, e2]
    rfl
