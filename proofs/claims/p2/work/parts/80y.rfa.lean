/-! the faults, as class and reference count them -/
theorem eq_er (q : rw_t) (m : Int) : eq_ q m = if er_ q m = 2 then 3 else if er_ q m = 3 then 5 else er_ q m := by
  by_cases c1 : 0 ≤ m ∧ m < q 3
  · by_cases c2 : q (21 + 6 * m) ≠ 0
    · have e1 : eq_ q m = 3 := by
        unfold eq_
        rw [if_neg (fun k => k c1), if_pos c2]
      have e2 : er_ q m = 2 := by
        unfold er_
        rw [if_neg (fun k => k c1), if_pos c2]
      rw [e1, e2]
      rfl
    · by_cases c3 : q 1 < co_ q m
      · have e1 : eq_ q m = 5 := by
          unfold eq_
          rw [if_neg (fun k => k c1), if_neg c2, if_pos c3]
        have e2 : er_ q m = 3 := by
          unfold er_
          rw [if_neg (fun k => k c1), if_neg c2, if_pos c3]
        rw [e1, e2]
        rfl
      · have e1 : eq_ q m = 0 := by
          unfold eq_
          rw [if_neg (fun k => k c1), if_neg c2, if_neg c3]
        have e2 : er_ q m = 0 := by
          unfold er_
          rw [if_neg (fun k => k c1), if_neg c2, if_neg c3]
        rw [e1, e2]
        rfl
  · have e1 : eq_ q m = 1 := by
      unfold eq_
      rw [if_pos c1]
    have e2 : er_ q m = 1 := by
      unfold er_
      rw [if_pos c1]
    rw [e1, e2]
    rfl
theorem mq_adr {q : rw_t} (hu : uj_ q) {x y s f : Int} (h : mq_ q x y s f) : adr_ q x y s f := by
  have p0 : pf_ x y = 0 → ((0 ≤ x ∧ x < 8) ∧ 0 ≤ y ∧ y < 8) ∧ x ≠ y := fun e => by
    unfold pf_ at e
    by_cases c : (0 ≤ x ∧ x < 8) ∧ 0 ≤ y ∧ y < 8
    · rw [if_neg (fun k => k c)] at e
      by_cases c2 : x = y
      · rw [if_pos c2] at e
        exact absurd e (by decide)
      · exact ⟨c, c2⟩
    · rw [if_pos c] at e
      exact absurd e (by decide)
  rcases h with ⟨h1, h2⟩ | ⟨h1, h2, h3⟩ | ⟨h1, h2, h3, h4⟩ | ⟨h1, h2, h3, h4, h5⟩
  · unfold pf_ at h1 h2
    by_cases c : (0 ≤ x ∧ x < 8) ∧ 0 ≤ y ∧ y < 8
    · rw [if_neg (fun k => k c)] at h1 h2
      by_cases c2 : x = y
      · rw [if_pos c2] at h2
        exact .inr (.inl ⟨c, fun k => k.1 c2, h2⟩)
      · rw [if_neg c2] at h1
        exact absurd rfl h1
    · rw [if_pos c] at h2
      exact .inl ⟨c, h2⟩
  · exact .inr (.inl ⟨(p0 h1).1, by omega, h3⟩)
  · refine .inr (.inr (.inl ⟨(p0 h1).1, ⟨(p0 h1).2, h2⟩, ?_, h4⟩))
    rcases h3 with h3 | ⟨k, k0, k1, hk⟩
    · exact .inl h3
    · exact .inr ⟨k, k0, k1, (jn_jr (hu.1 k k0 k1)).mpr hk⟩
  · exact .inr (.inr (.inr ⟨(p0 h1).1, ⟨(p0 h1).2, h2⟩, h3, fun k k0 k1 hk => h4 k k0 k1 ((jn_jr (hu.1 k k0 k1)).mp hk), h5⟩))
theorem adr_eq {q : rw_t} {x y s t t' : Int} (h : adr_ q x y s t) (h' : adr_ q x y s t') : t = t' := by
  rcases h with ⟨a, e⟩ | ⟨a, b, e⟩ | ⟨a, b, c, e⟩ | ⟨a, b, c, c2, e⟩ <;> rcases h' with ⟨a', e'⟩ | ⟨a', b', e'⟩ | ⟨a', b', c', e'⟩ | ⟨a', b', c', c2', e'⟩
  · omega
  · exact absurd a' a
  · exact absurd a' a
  · exact absurd a' a
  · exact absurd a a'
  · omega
  · exact absurd b' b
  · exact absurd b' b
  · exact absurd a a'
  · exact absurd b b'
  · omega
  · rcases c with c | ⟨k, k0, k1, hk⟩
    · omega
    · exact absurd hk (c2' k k0 k1)
  · exact absurd a a'
  · exact absurd b b'
  · rcases c' with c' | ⟨k, k0, k1, hk⟩
    · omega
    · exact absurd hk (c2 k k0 k1)
  · omega
