section
/-! the fresh memory, and that the constructors leave it -/
noncomputable def s0_ : bc_M := (fun k j => bif Nat.beq k 219 then r0_ j else bif Nat.beq k 0 then (if j = 10 then -1 else if j = 11 then -1 else 0) else bif Nat.beq k 218 then (if j = 6 then -1 else if j = 7 then -1 else 0) else bif [9, 23, 37, 53, 67, 81, 95, 109, 123, 137, 151].elem k then (if j = 0 then 99 else 0) else bif [11, 25, 39, 55, 69, 83, 97, 111, 125, 139, 153].elem k then (if j = 1 then 30 else if j = 2 then 5 else 0) else 0, 0, 0)
theorem s0_A (b : Nat) (hb : b = 1 ∨ b = 15 ∨ b = 29) : st_A 0 s0_ b r0_ := by
  have kM : ∀ (c : Nat), (c = b + 2 ∨ c = b + 3 ∨ c = b + 4 ∨ c = b + 5 ∨ c = b + 6 ∨ c = b + 7 ∨ c = b + 9 ∨ c = b + 11 ∨ c = b + 12 ∨ c = b + 13) → ∀ j : Int, s0_.1 c j = 0 := by
    intro c hc j
    rcases hb with rfl | rfl | rfl <;> rcases hc with rfl | rfl | rfl | rfl | rfl | rfl | rfl | rfl | rfl | rfl <;> rfl
  refine ⟨⟨⟨?_, fun k k0 k1 => ⟨?_, ?_, ?_, ?_, ?_, ?_⟩⟩, ⟨?_, fun k k0 k1 => ?_⟩, ?_, fun k k0 k1 => ⟨?_, ?_, ?_⟩⟩, r0_M, r0_N, r0_T⟩
  · rcases hb with rfl | rfl | rfl <;> decide
  · rw [kM _ (by omega), r0_z (by omega)]
  · rw [kM _ (by omega), r0_z (by omega)]
  · rw [kM _ (by omega), r0_z (by omega)]
  · rw [kM _ (by omega), r0_z (by omega)]
  · rw [kM _ (by omega), r0_z (by omega)]
  · rw [kM _ (by omega), r0_z (by omega)]
  · rcases hb with rfl | rfl | rfl <;> decide
  · rw [kM _ (by omega), r0_z (by omega)]
  · rcases hb with rfl | rfl | rfl <;> decide
  · rw [kM _ (by omega), r0_z (by omega)]
  · rw [kM _ (by omega), r0_z (by omega)]
  · rw [kM _ (by omega), r0_z (by omega)]
theorem s0_tx (k : Nat) (hk : k = 196 ∨ k = 216) : tx_ s0_ k [] := by
  refine ⟨?_, by decide, fun j hj => absurd hj (by simp), fun c hc => by cases hc⟩
  rcases hk with rfl | rfl <;> decide
theorem s0_fa : fa_ 0 s0_ v0_ := by
  refine ⟨⟨s0_A 1 (.inl rfl), s0_A 15 (.inr (.inl rfl)), s0_A 29 (.inr (.inr rfl)), by decide, by decide, by decide, by decide, fun t ht => absurd ht (Nat.not_lt_zero t)⟩, ⟨fun j _ _ => rfl, fun j _ _ => by show (0 : Int) ≤ 0 ∧ (0 : Int) ≤ 7; decide⟩, ⟨by decide, by decide, by decide⟩, s0_tx 196 (.inl rfl), ⟨fun j _ _ => rfl, fun j _ _ => by show (0 : Int) ≤ 0 ∧ (0 : Int) ≤ 9; decide⟩, ⟨fun i j _ _ _ _ => rfl, fun i j _ _ _ _ => by show (0 : Int) ≤ 0 ∧ (0 : Int) ≤ 999; decide⟩, s0_tx 216 (.inr rfl), ⟨by decide, by decide, by decide⟩, ⟨by decide, by decide, by decide⟩, by decide, by decide, by decide⟩
theorem s0_jn : jnt_ 0 s0_ v0_ := by
  refine ⟨s0_fa, ⟨⟨fun k k0 k1 => ?_, fun k l k0 k1 k2 => ?_⟩, fun q hq => absurd hq (List.not_mem_nil), fun e => absurd e (by decide)⟩, ⟨fun j _ _ => rfl, by decide, by decide, fun t ht => absurd ht (Nat.not_lt_zero t)⟩, fun e => absurd e (by decide), by decide, by decide, by decide, ⟨by decide, by decide, fun j hj => absurd hj (Nat.not_lt_zero _)⟩, ⟨by decide, lnt_0 _⟩, fun j => ?_⟩
  · have h : k < r0_ 3 := k1
    rw [r0_3] at h
    omega
  · have h : l < r0_ 3 := k2
    rw [r0_3] at h
    omega
  · show (-1 : Int) ≤ 0 ∧ (0 : Int) ≤ 999
    decide
end
section
/-- what is fixed, when the law has its own heap from z on -/
noncomputable def gg_ (l : Launch) (D : va_G) (cA : Nat → ClassId) (b z : Nat) (adK : Nat → Nat) : bc_C := (l, D, cA, fun k => if k < 230 then z + k else if k = 999 then b else adK (k - 1000), z)
noncomputable abbrev EX_ (cA : Nat → ClassId) (z : Nat) : List va_E := E10_ cA (z + 0) ++ E11_ cA (z + 218) ++ [.inl (cA 3, 1, .inr (.inl (fun j => if j = 0 then 0 else 0)))] ++ [.inl (cA 4, 1, .inr (.inr (.inr (.inl (fun j => if j = 0 then 0 else 0)))))]
section FRE
variable (l : Launch) (D : va_G) (cA : Nat → ClassId) (b z : Nat) (adK : Nat → Nat)
theorem gg_ad {k : Nat} (h : k < 230) : bc_ad (gg_ l D cA b z adK) k = z + k := if_pos h
/-- the cells es lie from q on -/
noncomputable def hq_ (D : va_G) (q : Nat) (es : List va_E) (H : Heap) : Prop := ∀ (i : Nat) (x : va_E), es[i]? = some x → va_at D bc_cl (q + i, x) H
theorem hq_cons {D : va_G} {q : Nat} {x : va_E} {es : List va_E} {H : Heap} (h : hq_ D q (x :: es) H) : va_at D bc_cl (q, x) H ∧ hq_ D (q + 1) es H := by
  refine ⟨h 0 x rfl, fun i y hy => ?_⟩
  have := h (i + 1) y (by rw [List.getElem?_cons_succ]; exact hy)
  rwa [show q + (i + 1) = q + 1 + i by omega] at this
theorem hq_app {D : va_G} {q : Nat} {es w : List va_E} {H : Heap} (h : hq_ D q (es ++ w) H) {n : Nat} (hl : es.length = n) : hq_ D q es H ∧ hq_ D (q + n) w H := by
  refine ⟨fun i y hy => h i y ?_, fun i y hy => ?_⟩
  · rw [List.getElem?_append_left (List.getElem?_eq_some_iff.mp hy).1]; exact hy
  · have := h (n + i) y (by rw [List.getElem?_append_right (by omega), hl, show n + i - n = i by omega]; exact hy)
    rwa [show q + (n + i) = q + n + i by omega] at this
theorem hq_nil {D : va_G} {q : Nat} {w : List va_E} {H : Heap} (h : hq_ D q ([] ++ w) H) : hq_ D q w H := h
variable {H : Heap}
theorem E2_fl (q : Nat) : E2_ cA q = [.inr (2, [.int (Int32.ofInt 0), .ref (q + 1), .ref (q + 2), .ref (q + 3), .ref (q + 4), .ref (q + 5), .ref (q + 6)]), .inl (cA 0, 16, .inl (fun _ => Int32.ofInt 0)), .inl (cA 0, 16, .inl (fun _ => Int32.ofInt 0)), .inl (cA 0, 16, .inl (fun _ => Int32.ofInt 0)), .inl (cA 0, 16, .inl (fun _ => Int32.ofInt 0)), .inl (cA 0, 16, .inl (fun _ => Int32.ofInt 0)), .inl (cA 2, 16, .inl (fun _ => Int32.ofInt 0))] := by simp [E2_, List.replicate]
theorem E3_fl (q : Nat) : E3_ cA q = [.inr (3, [.int (Int32.ofInt 99), .ref (q + 1)]), .inl (cA 0, 4, .inl (fun _ => Int32.ofInt 0))] := by simp [E3_, List.replicate]
theorem E8_fl (q : Nat) : E8_ cA q = [.inr (8, [.int (Int32.ofInt 0), .int (Int32.ofInt 30), .int (Int32.ofInt 5), .int (Int32.ofInt 0), .int (Int32.ofInt 0), .int (Int32.ofInt 0), .int (Int32.ofInt 0), .int (Int32.ofInt 0), .int (Int32.ofInt 0), .int (Int32.ofInt 0), .ref (q + 1), .ref (q + 2), .ref (q + 3)]), .inl (cA 0, 8, .inl (fun _ => Int32.ofInt 0)), .inl (cA 0, 8, .inl (fun _ => Int32.ofInt 0)), .inl (cA 0, 8, .inl (fun _ => Int32.ofInt 0))] := by simp [E8_, List.replicate]
theorem E7_fl (q : Nat) : E7_ cA q = [.inr (7, [.ref (q + 1), .int (Int32.ofInt 0)]), .inl (cA 1, 60, .inl (fun _ => Int32.ofInt 0))] := by simp [E7_, List.replicate]
theorem E0_fl (q : Nat) : E0_ cA q = [.inr (0, [.ref (q + 1), .ref (q + 2), .int (Int32.ofInt 0)]), .inl (cA 0, 8, .inl (fun _ => Int32.ofInt 0)), .inl (cA 0, 8, .inl (fun _ => Int32.ofInt 0))] := by simp [E0_, List.replicate]
theorem E9_fl (q : Nat) : E9_ cA q = [.inr (9, [.ref (q + 1), .ref (q + 10), .ref (q + 11), .ref (q + 12), .ref (q + 13), .int (Int32.ofInt 0)]), cg_o (cA 5) 8 (q + 1), cg_r (cA 0) 8, cg_r (cA 0) 8, cg_r (cA 0) 8, cg_r (cA 0) 8, cg_r (cA 0) 8, cg_r (cA 0) 8, cg_r (cA 0) 8, cg_r (cA 0) 8, .inl (cA 0, 8, .inl (fun _ => Int32.ofInt 0)), .inl (cA 2, 8, .inl (fun _ => Int32.ofInt 0)), .inl (cA 0, 8, .inl (fun _ => Int32.ofInt 0)), .inl (cA 0, 8, .inl (fun _ => Int32.ofInt 0))] := by simp [E9_, List.replicate]
theorem E4_fl (q : Nat) : E4_ cA q = [.inr (4, [.ref (q + 1), .ref (q + 10), .ref (q + 11), .ref (q + 12)]), cg_o (cA 5) 8 (q + 1), cg_r (cA 0) 8, cg_r (cA 0) 8, cg_r (cA 0) 8, cg_r (cA 0) 8, cg_r (cA 0) 8, cg_r (cA 0) 8, cg_r (cA 0) 8, cg_r (cA 0) 8, .inl (cA 0, 8, .inl (fun _ => Int32.ofInt 0)), .inl (cA 2, 8, .inl (fun _ => Int32.ofInt 0)), cg_o (cA 5) 8 (q + 12), cg_r (cA 0) 8, cg_r (cA 0) 8, cg_r (cA 0) 8, cg_r (cA 0) 8, cg_r (cA 0) 8, cg_r (cA 0) 8, cg_r (cA 0) 8, cg_r (cA 0) 8] := by simp [E4_, List.replicate]
theorem E11_fl (q : Nat) : E11_ cA q = [.inr (11, [.ref (q + 1), .ref (q + 2), .ref (q + 3), .ref (q + 4), .int (Int32.ofInt 0), .int (Int32.ofInt 0), .int (Int32.ofInt (-1)), .int (Int32.ofInt (-1)), .ref (q + 5), .ref (q + 6), .ref (q + 7), .int (Int32.ofInt 0), .ref (q + 8), .int (Int32.ofInt 0), .int (Int32.ofInt 0), .int (Int32.ofInt 0), .int (Int32.ofInt 0), .int (Int32.ofInt 0), .int (Int32.ofInt 0), .ref (q + 9)]), .inl (cA 0, 136, .inl (upd (upd (upd (fun _ => Int32.ofInt 0) 1 (Int32.ofInt 30)) 2 (Int32.ofInt 5)) 11 (Int32.ofInt 99))), .inl (cA 0, 136, .inl (fun _ => Int32.ofInt 0)), .inl (cA 0, 136, .inl (fun _ => Int32.ofInt 0)), .inl (cA 0, 1088, .inl (fun _ => Int32.ofInt 0)), .inl (cA 0, 8, .inl (fun _ => Int32.ofInt 0)), .inl (cA 0, 9, .inl (fun _ => Int32.ofInt 0)), .inl (cA 0, 60, .inl (fun _ => Int32.ofInt 0)), .inl (cA 0, 60, .inl (fun _ => Int32.ofInt 0)), .inl (cA 0, 120, .inl (fun _ => Int32.ofInt 0))] := by simp [E11_, List.replicate]
theorem fs1 (h : va_at D bc_cl (z + 1, .inr (6, [.ref (z + 1 + 1), .ref (z + 1 + 8), .ref (z + 1 + 10)])) H) : va_at D bc_cl (z + 1, bc_e (gg_ l D cA b z adK) s0_ 1) H := h
theorem fs2 (h : hq_ D (z + 2) (E2_ cA (z + 2)) H) : va_at D bc_cl (z + 2, bc_e (gg_ l D cA b z adK) s0_ 2) H ∧ va_at D bc_cl (z + 3, bc_e (gg_ l D cA b z adK) s0_ 3) H ∧ va_at D bc_cl (z + 4, bc_e (gg_ l D cA b z adK) s0_ 4) H ∧ va_at D bc_cl (z + 5, bc_e (gg_ l D cA b z adK) s0_ 5) H ∧ va_at D bc_cl (z + 6, bc_e (gg_ l D cA b z adK) s0_ 6) H ∧ va_at D bc_cl (z + 7, bc_e (gg_ l D cA b z adK) s0_ 7) H ∧ va_at D bc_cl (z + 8, bc_e (gg_ l D cA b z adK) s0_ 8) H := by
  rw [E2_fl] at h
  refine ⟨?_, ?_, ?_, ?_, ?_, ?_, ?_⟩
  · have := h 0 _ rfl
    exact this
  · have := h 1 _ rfl
    exact this
  · have := h 2 _ rfl
    exact this
  · have := h 3 _ rfl
    exact this
  · have := h 4 _ rfl
    exact this
  · have := h 5 _ rfl
    exact this
  · have := h 6 _ rfl
    exact this
theorem fs9 (h : hq_ D (z + 9) (E3_ cA (z + 9)) H) : va_at D bc_cl (z + 9, bc_e (gg_ l D cA b z adK) s0_ 9) H ∧ va_at D bc_cl (z + 10, bc_e (gg_ l D cA b z adK) s0_ 10) H := by
  rw [E3_fl] at h
  refine ⟨?_, ?_⟩
  · have := h 0 _ rfl
    exact this
  · have := h 1 _ rfl
    exact this
theorem fs11 (h : hq_ D (z + 11) (E8_ cA (z + 11)) H) : va_at D bc_cl (z + 11, bc_e (gg_ l D cA b z adK) s0_ 11) H ∧ va_at D bc_cl (z + 12, bc_e (gg_ l D cA b z adK) s0_ 12) H ∧ va_at D bc_cl (z + 13, bc_e (gg_ l D cA b z adK) s0_ 13) H ∧ va_at D bc_cl (z + 14, bc_e (gg_ l D cA b z adK) s0_ 14) H := by
  rw [E8_fl] at h
  refine ⟨?_, ?_, ?_, ?_⟩
  · have := h 0 _ rfl
    exact this
  · have := h 1 _ rfl
    exact this
  · have := h 2 _ rfl
    exact this
  · have := h 3 _ rfl
    exact this
theorem fs15 (h : va_at D bc_cl (z + 15, .inr (6, [.ref (z + 15 + 1), .ref (z + 15 + 8), .ref (z + 15 + 10)])) H) : va_at D bc_cl (z + 15, bc_e (gg_ l D cA b z adK) s0_ 15) H := h
theorem fs16 (h : hq_ D (z + 16) (E2_ cA (z + 16)) H) : va_at D bc_cl (z + 16, bc_e (gg_ l D cA b z adK) s0_ 16) H ∧ va_at D bc_cl (z + 17, bc_e (gg_ l D cA b z adK) s0_ 17) H ∧ va_at D bc_cl (z + 18, bc_e (gg_ l D cA b z adK) s0_ 18) H ∧ va_at D bc_cl (z + 19, bc_e (gg_ l D cA b z adK) s0_ 19) H ∧ va_at D bc_cl (z + 20, bc_e (gg_ l D cA b z adK) s0_ 20) H ∧ va_at D bc_cl (z + 21, bc_e (gg_ l D cA b z adK) s0_ 21) H ∧ va_at D bc_cl (z + 22, bc_e (gg_ l D cA b z adK) s0_ 22) H := by
  rw [E2_fl] at h
  refine ⟨?_, ?_, ?_, ?_, ?_, ?_, ?_⟩
  · have := h 0 _ rfl
    exact this
  · have := h 1 _ rfl
    exact this
  · have := h 2 _ rfl
    exact this
  · have := h 3 _ rfl
    exact this
  · have := h 4 _ rfl
    exact this
  · have := h 5 _ rfl
    exact this
  · have := h 6 _ rfl
    exact this
theorem fs23 (h : hq_ D (z + 23) (E3_ cA (z + 23)) H) : va_at D bc_cl (z + 23, bc_e (gg_ l D cA b z adK) s0_ 23) H ∧ va_at D bc_cl (z + 24, bc_e (gg_ l D cA b z adK) s0_ 24) H := by
  rw [E3_fl] at h
  refine ⟨?_, ?_⟩
  · have := h 0 _ rfl
    exact this
  · have := h 1 _ rfl
    exact this
theorem fs25 (h : hq_ D (z + 25) (E8_ cA (z + 25)) H) : va_at D bc_cl (z + 25, bc_e (gg_ l D cA b z adK) s0_ 25) H ∧ va_at D bc_cl (z + 26, bc_e (gg_ l D cA b z adK) s0_ 26) H ∧ va_at D bc_cl (z + 27, bc_e (gg_ l D cA b z adK) s0_ 27) H ∧ va_at D bc_cl (z + 28, bc_e (gg_ l D cA b z adK) s0_ 28) H := by
  rw [E8_fl] at h
  refine ⟨?_, ?_, ?_, ?_⟩
  · have := h 0 _ rfl
    exact this
  · have := h 1 _ rfl
    exact this
  · have := h 2 _ rfl
    exact this
  · have := h 3 _ rfl
    exact this
theorem fs29 (h : va_at D bc_cl (z + 29, .inr (6, [.ref (z + 29 + 1), .ref (z + 29 + 8), .ref (z + 29 + 10)])) H) : va_at D bc_cl (z + 29, bc_e (gg_ l D cA b z adK) s0_ 29) H := h
theorem fs30 (h : hq_ D (z + 30) (E2_ cA (z + 30)) H) : va_at D bc_cl (z + 30, bc_e (gg_ l D cA b z adK) s0_ 30) H ∧ va_at D bc_cl (z + 31, bc_e (gg_ l D cA b z adK) s0_ 31) H ∧ va_at D bc_cl (z + 32, bc_e (gg_ l D cA b z adK) s0_ 32) H ∧ va_at D bc_cl (z + 33, bc_e (gg_ l D cA b z adK) s0_ 33) H ∧ va_at D bc_cl (z + 34, bc_e (gg_ l D cA b z adK) s0_ 34) H ∧ va_at D bc_cl (z + 35, bc_e (gg_ l D cA b z adK) s0_ 35) H ∧ va_at D bc_cl (z + 36, bc_e (gg_ l D cA b z adK) s0_ 36) H := by
  rw [E2_fl] at h
  refine ⟨?_, ?_, ?_, ?_, ?_, ?_, ?_⟩
  · have := h 0 _ rfl
    exact this
  · have := h 1 _ rfl
    exact this
  · have := h 2 _ rfl
    exact this
  · have := h 3 _ rfl
    exact this
  · have := h 4 _ rfl
    exact this
  · have := h 5 _ rfl
    exact this
  · have := h 6 _ rfl
    exact this
theorem fs37 (h : hq_ D (z + 37) (E3_ cA (z + 37)) H) : va_at D bc_cl (z + 37, bc_e (gg_ l D cA b z adK) s0_ 37) H ∧ va_at D bc_cl (z + 38, bc_e (gg_ l D cA b z adK) s0_ 38) H := by
  rw [E3_fl] at h
  refine ⟨?_, ?_⟩
  · have := h 0 _ rfl
    exact this
  · have := h 1 _ rfl
    exact this
theorem fs39 (h : hq_ D (z + 39) (E8_ cA (z + 39)) H) : va_at D bc_cl (z + 39, bc_e (gg_ l D cA b z adK) s0_ 39) H ∧ va_at D bc_cl (z + 40, bc_e (gg_ l D cA b z adK) s0_ 40) H ∧ va_at D bc_cl (z + 41, bc_e (gg_ l D cA b z adK) s0_ 41) H ∧ va_at D bc_cl (z + 42, bc_e (gg_ l D cA b z adK) s0_ 42) H := by
  rw [E8_fl] at h
  refine ⟨?_, ?_, ?_, ?_⟩
  · have := h 0 _ rfl
    exact this
  · have := h 1 _ rfl
    exact this
  · have := h 2 _ rfl
    exact this
  · have := h 3 _ rfl
    exact this
theorem fs45 (h : va_at D bc_cl (z + 45, .inr (6, [.ref (z + 45 + 1), .ref (z + 45 + 8), .ref (z + 45 + 10)])) H) : va_at D bc_cl (z + 45, bc_e (gg_ l D cA b z adK) s0_ 45) H := h
theorem fs46 (h : hq_ D (z + 46) (E2_ cA (z + 46)) H) : va_at D bc_cl (z + 46, bc_e (gg_ l D cA b z adK) s0_ 46) H ∧ va_at D bc_cl (z + 47, bc_e (gg_ l D cA b z adK) s0_ 47) H ∧ va_at D bc_cl (z + 48, bc_e (gg_ l D cA b z adK) s0_ 48) H ∧ va_at D bc_cl (z + 49, bc_e (gg_ l D cA b z adK) s0_ 49) H ∧ va_at D bc_cl (z + 50, bc_e (gg_ l D cA b z adK) s0_ 50) H ∧ va_at D bc_cl (z + 51, bc_e (gg_ l D cA b z adK) s0_ 51) H ∧ va_at D bc_cl (z + 52, bc_e (gg_ l D cA b z adK) s0_ 52) H := by
  rw [E2_fl] at h
  refine ⟨?_, ?_, ?_, ?_, ?_, ?_, ?_⟩
  · have := h 0 _ rfl
    exact this
  · have := h 1 _ rfl
    exact this
  · have := h 2 _ rfl
    exact this
  · have := h 3 _ rfl
    exact this
  · have := h 4 _ rfl
    exact this
  · have := h 5 _ rfl
    exact this
  · have := h 6 _ rfl
    exact this
theorem fs53 (h : hq_ D (z + 53) (E3_ cA (z + 53)) H) : va_at D bc_cl (z + 53, bc_e (gg_ l D cA b z adK) s0_ 53) H ∧ va_at D bc_cl (z + 54, bc_e (gg_ l D cA b z adK) s0_ 54) H := by
  rw [E3_fl] at h
  refine ⟨?_, ?_⟩
  · have := h 0 _ rfl
    exact this
  · have := h 1 _ rfl
    exact this
theorem fs55 (h : hq_ D (z + 55) (E8_ cA (z + 55)) H) : va_at D bc_cl (z + 55, bc_e (gg_ l D cA b z adK) s0_ 55) H ∧ va_at D bc_cl (z + 56, bc_e (gg_ l D cA b z adK) s0_ 56) H ∧ va_at D bc_cl (z + 57, bc_e (gg_ l D cA b z adK) s0_ 57) H ∧ va_at D bc_cl (z + 58, bc_e (gg_ l D cA b z adK) s0_ 58) H := by
  rw [E8_fl] at h
  refine ⟨?_, ?_, ?_, ?_⟩
  · have := h 0 _ rfl
    exact this
  · have := h 1 _ rfl
    exact this
  · have := h 2 _ rfl
    exact this
  · have := h 3 _ rfl
    exact this
theorem fs59 (h : va_at D bc_cl (z + 59, .inr (6, [.ref (z + 59 + 1), .ref (z + 59 + 8), .ref (z + 59 + 10)])) H) : va_at D bc_cl (z + 59, bc_e (gg_ l D cA b z adK) s0_ 59) H := h
theorem fs60 (h : hq_ D (z + 60) (E2_ cA (z + 60)) H) : va_at D bc_cl (z + 60, bc_e (gg_ l D cA b z adK) s0_ 60) H ∧ va_at D bc_cl (z + 61, bc_e (gg_ l D cA b z adK) s0_ 61) H ∧ va_at D bc_cl (z + 62, bc_e (gg_ l D cA b z adK) s0_ 62) H ∧ va_at D bc_cl (z + 63, bc_e (gg_ l D cA b z adK) s0_ 63) H ∧ va_at D bc_cl (z + 64, bc_e (gg_ l D cA b z adK) s0_ 64) H ∧ va_at D bc_cl (z + 65, bc_e (gg_ l D cA b z adK) s0_ 65) H ∧ va_at D bc_cl (z + 66, bc_e (gg_ l D cA b z adK) s0_ 66) H := by
  rw [E2_fl] at h
  refine ⟨?_, ?_, ?_, ?_, ?_, ?_, ?_⟩
  · have := h 0 _ rfl
    exact this
  · have := h 1 _ rfl
    exact this
  · have := h 2 _ rfl
    exact this
  · have := h 3 _ rfl
    exact this
  · have := h 4 _ rfl
    exact this
  · have := h 5 _ rfl
    exact this
  · have := h 6 _ rfl
    exact this
theorem fs67 (h : hq_ D (z + 67) (E3_ cA (z + 67)) H) : va_at D bc_cl (z + 67, bc_e (gg_ l D cA b z adK) s0_ 67) H ∧ va_at D bc_cl (z + 68, bc_e (gg_ l D cA b z adK) s0_ 68) H := by
  rw [E3_fl] at h
  refine ⟨?_, ?_⟩
  · have := h 0 _ rfl
    exact this
  · have := h 1 _ rfl
    exact this
theorem fs69 (h : hq_ D (z + 69) (E8_ cA (z + 69)) H) : va_at D bc_cl (z + 69, bc_e (gg_ l D cA b z adK) s0_ 69) H ∧ va_at D bc_cl (z + 70, bc_e (gg_ l D cA b z adK) s0_ 70) H ∧ va_at D bc_cl (z + 71, bc_e (gg_ l D cA b z adK) s0_ 71) H ∧ va_at D bc_cl (z + 72, bc_e (gg_ l D cA b z adK) s0_ 72) H := by
  rw [E8_fl] at h
  refine ⟨?_, ?_, ?_, ?_⟩
  · have := h 0 _ rfl
    exact this
  · have := h 1 _ rfl
    exact this
  · have := h 2 _ rfl
    exact this
  · have := h 3 _ rfl
    exact this
theorem fs73 (h : va_at D bc_cl (z + 73, .inr (6, [.ref (z + 73 + 1), .ref (z + 73 + 8), .ref (z + 73 + 10)])) H) : va_at D bc_cl (z + 73, bc_e (gg_ l D cA b z adK) s0_ 73) H := h
theorem fs74 (h : hq_ D (z + 74) (E2_ cA (z + 74)) H) : va_at D bc_cl (z + 74, bc_e (gg_ l D cA b z adK) s0_ 74) H ∧ va_at D bc_cl (z + 75, bc_e (gg_ l D cA b z adK) s0_ 75) H ∧ va_at D bc_cl (z + 76, bc_e (gg_ l D cA b z adK) s0_ 76) H ∧ va_at D bc_cl (z + 77, bc_e (gg_ l D cA b z adK) s0_ 77) H ∧ va_at D bc_cl (z + 78, bc_e (gg_ l D cA b z adK) s0_ 78) H ∧ va_at D bc_cl (z + 79, bc_e (gg_ l D cA b z adK) s0_ 79) H ∧ va_at D bc_cl (z + 80, bc_e (gg_ l D cA b z adK) s0_ 80) H := by
  rw [E2_fl] at h
  refine ⟨?_, ?_, ?_, ?_, ?_, ?_, ?_⟩
  · have := h 0 _ rfl
    exact this
  · have := h 1 _ rfl
    exact this
  · have := h 2 _ rfl
    exact this
  · have := h 3 _ rfl
    exact this
  · have := h 4 _ rfl
    exact this
  · have := h 5 _ rfl
    exact this
  · have := h 6 _ rfl
    exact this
theorem fs81 (h : hq_ D (z + 81) (E3_ cA (z + 81)) H) : va_at D bc_cl (z + 81, bc_e (gg_ l D cA b z adK) s0_ 81) H ∧ va_at D bc_cl (z + 82, bc_e (gg_ l D cA b z adK) s0_ 82) H := by
  rw [E3_fl] at h
  refine ⟨?_, ?_⟩
  · have := h 0 _ rfl
    exact this
  · have := h 1 _ rfl
    exact this
theorem fs83 (h : hq_ D (z + 83) (E8_ cA (z + 83)) H) : va_at D bc_cl (z + 83, bc_e (gg_ l D cA b z adK) s0_ 83) H ∧ va_at D bc_cl (z + 84, bc_e (gg_ l D cA b z adK) s0_ 84) H ∧ va_at D bc_cl (z + 85, bc_e (gg_ l D cA b z adK) s0_ 85) H ∧ va_at D bc_cl (z + 86, bc_e (gg_ l D cA b z adK) s0_ 86) H := by
  rw [E8_fl] at h
  refine ⟨?_, ?_, ?_, ?_⟩
  · have := h 0 _ rfl
    exact this
  · have := h 1 _ rfl
    exact this
  · have := h 2 _ rfl
    exact this
  · have := h 3 _ rfl
    exact this
theorem fs87 (h : va_at D bc_cl (z + 87, .inr (6, [.ref (z + 87 + 1), .ref (z + 87 + 8), .ref (z + 87 + 10)])) H) : va_at D bc_cl (z + 87, bc_e (gg_ l D cA b z adK) s0_ 87) H := h
theorem fs88 (h : hq_ D (z + 88) (E2_ cA (z + 88)) H) : va_at D bc_cl (z + 88, bc_e (gg_ l D cA b z adK) s0_ 88) H ∧ va_at D bc_cl (z + 89, bc_e (gg_ l D cA b z adK) s0_ 89) H ∧ va_at D bc_cl (z + 90, bc_e (gg_ l D cA b z adK) s0_ 90) H ∧ va_at D bc_cl (z + 91, bc_e (gg_ l D cA b z adK) s0_ 91) H ∧ va_at D bc_cl (z + 92, bc_e (gg_ l D cA b z adK) s0_ 92) H ∧ va_at D bc_cl (z + 93, bc_e (gg_ l D cA b z adK) s0_ 93) H ∧ va_at D bc_cl (z + 94, bc_e (gg_ l D cA b z adK) s0_ 94) H := by
  rw [E2_fl] at h
  refine ⟨?_, ?_, ?_, ?_, ?_, ?_, ?_⟩
  · have := h 0 _ rfl
    exact this
  · have := h 1 _ rfl
    exact this
  · have := h 2 _ rfl
    exact this
  · have := h 3 _ rfl
    exact this
  · have := h 4 _ rfl
    exact this
  · have := h 5 _ rfl
    exact this
  · have := h 6 _ rfl
    exact this
theorem fs95 (h : hq_ D (z + 95) (E3_ cA (z + 95)) H) : va_at D bc_cl (z + 95, bc_e (gg_ l D cA b z adK) s0_ 95) H ∧ va_at D bc_cl (z + 96, bc_e (gg_ l D cA b z adK) s0_ 96) H := by
  rw [E3_fl] at h
  refine ⟨?_, ?_⟩
  · have := h 0 _ rfl
    exact this
  · have := h 1 _ rfl
    exact this
theorem fs97 (h : hq_ D (z + 97) (E8_ cA (z + 97)) H) : va_at D bc_cl (z + 97, bc_e (gg_ l D cA b z adK) s0_ 97) H ∧ va_at D bc_cl (z + 98, bc_e (gg_ l D cA b z adK) s0_ 98) H ∧ va_at D bc_cl (z + 99, bc_e (gg_ l D cA b z adK) s0_ 99) H ∧ va_at D bc_cl (z + 100, bc_e (gg_ l D cA b z adK) s0_ 100) H := by
  rw [E8_fl] at h
  refine ⟨?_, ?_, ?_, ?_⟩
  · have := h 0 _ rfl
    exact this
  · have := h 1 _ rfl
    exact this
  · have := h 2 _ rfl
    exact this
  · have := h 3 _ rfl
    exact this
theorem fs101 (h : va_at D bc_cl (z + 101, .inr (6, [.ref (z + 101 + 1), .ref (z + 101 + 8), .ref (z + 101 + 10)])) H) : va_at D bc_cl (z + 101, bc_e (gg_ l D cA b z adK) s0_ 101) H := h
theorem fs102 (h : hq_ D (z + 102) (E2_ cA (z + 102)) H) : va_at D bc_cl (z + 102, bc_e (gg_ l D cA b z adK) s0_ 102) H ∧ va_at D bc_cl (z + 103, bc_e (gg_ l D cA b z adK) s0_ 103) H ∧ va_at D bc_cl (z + 104, bc_e (gg_ l D cA b z adK) s0_ 104) H ∧ va_at D bc_cl (z + 105, bc_e (gg_ l D cA b z adK) s0_ 105) H ∧ va_at D bc_cl (z + 106, bc_e (gg_ l D cA b z adK) s0_ 106) H ∧ va_at D bc_cl (z + 107, bc_e (gg_ l D cA b z adK) s0_ 107) H ∧ va_at D bc_cl (z + 108, bc_e (gg_ l D cA b z adK) s0_ 108) H := by
  rw [E2_fl] at h
  refine ⟨?_, ?_, ?_, ?_, ?_, ?_, ?_⟩
  · have := h 0 _ rfl
    exact this
  · have := h 1 _ rfl
    exact this
  · have := h 2 _ rfl
    exact this
  · have := h 3 _ rfl
    exact this
  · have := h 4 _ rfl
    exact this
  · have := h 5 _ rfl
    exact this
  · have := h 6 _ rfl
    exact this
theorem fs109 (h : hq_ D (z + 109) (E3_ cA (z + 109)) H) : va_at D bc_cl (z + 109, bc_e (gg_ l D cA b z adK) s0_ 109) H ∧ va_at D bc_cl (z + 110, bc_e (gg_ l D cA b z adK) s0_ 110) H := by
  rw [E3_fl] at h
  refine ⟨?_, ?_⟩
  · have := h 0 _ rfl
    exact this
  · have := h 1 _ rfl
    exact this
theorem fs111 (h : hq_ D (z + 111) (E8_ cA (z + 111)) H) : va_at D bc_cl (z + 111, bc_e (gg_ l D cA b z adK) s0_ 111) H ∧ va_at D bc_cl (z + 112, bc_e (gg_ l D cA b z adK) s0_ 112) H ∧ va_at D bc_cl (z + 113, bc_e (gg_ l D cA b z adK) s0_ 113) H ∧ va_at D bc_cl (z + 114, bc_e (gg_ l D cA b z adK) s0_ 114) H := by
  rw [E8_fl] at h
  refine ⟨?_, ?_, ?_, ?_⟩
  · have := h 0 _ rfl
    exact this
  · have := h 1 _ rfl
    exact this
  · have := h 2 _ rfl
    exact this
  · have := h 3 _ rfl
    exact this
theorem fs115 (h : va_at D bc_cl (z + 115, .inr (6, [.ref (z + 115 + 1), .ref (z + 115 + 8), .ref (z + 115 + 10)])) H) : va_at D bc_cl (z + 115, bc_e (gg_ l D cA b z adK) s0_ 115) H := h
theorem fs116 (h : hq_ D (z + 116) (E2_ cA (z + 116)) H) : va_at D bc_cl (z + 116, bc_e (gg_ l D cA b z adK) s0_ 116) H ∧ va_at D bc_cl (z + 117, bc_e (gg_ l D cA b z adK) s0_ 117) H ∧ va_at D bc_cl (z + 118, bc_e (gg_ l D cA b z adK) s0_ 118) H ∧ va_at D bc_cl (z + 119, bc_e (gg_ l D cA b z adK) s0_ 119) H ∧ va_at D bc_cl (z + 120, bc_e (gg_ l D cA b z adK) s0_ 120) H ∧ va_at D bc_cl (z + 121, bc_e (gg_ l D cA b z adK) s0_ 121) H ∧ va_at D bc_cl (z + 122, bc_e (gg_ l D cA b z adK) s0_ 122) H := by
  rw [E2_fl] at h
  refine ⟨?_, ?_, ?_, ?_, ?_, ?_, ?_⟩
  · have := h 0 _ rfl
    exact this
  · have := h 1 _ rfl
    exact this
  · have := h 2 _ rfl
    exact this
  · have := h 3 _ rfl
    exact this
  · have := h 4 _ rfl
    exact this
  · have := h 5 _ rfl
    exact this
  · have := h 6 _ rfl
    exact this
theorem fs123 (h : hq_ D (z + 123) (E3_ cA (z + 123)) H) : va_at D bc_cl (z + 123, bc_e (gg_ l D cA b z adK) s0_ 123) H ∧ va_at D bc_cl (z + 124, bc_e (gg_ l D cA b z adK) s0_ 124) H := by
  rw [E3_fl] at h
  refine ⟨?_, ?_⟩
  · have := h 0 _ rfl
    exact this
  · have := h 1 _ rfl
    exact this
theorem fs125 (h : hq_ D (z + 125) (E8_ cA (z + 125)) H) : va_at D bc_cl (z + 125, bc_e (gg_ l D cA b z adK) s0_ 125) H ∧ va_at D bc_cl (z + 126, bc_e (gg_ l D cA b z adK) s0_ 126) H ∧ va_at D bc_cl (z + 127, bc_e (gg_ l D cA b z adK) s0_ 127) H ∧ va_at D bc_cl (z + 128, bc_e (gg_ l D cA b z adK) s0_ 128) H := by
  rw [E8_fl] at h
  refine ⟨?_, ?_, ?_, ?_⟩
  · have := h 0 _ rfl
    exact this
  · have := h 1 _ rfl
    exact this
  · have := h 2 _ rfl
    exact this
  · have := h 3 _ rfl
    exact this
theorem fs129 (h : va_at D bc_cl (z + 129, .inr (6, [.ref (z + 129 + 1), .ref (z + 129 + 8), .ref (z + 129 + 10)])) H) : va_at D bc_cl (z + 129, bc_e (gg_ l D cA b z adK) s0_ 129) H := h
theorem fs130 (h : hq_ D (z + 130) (E2_ cA (z + 130)) H) : va_at D bc_cl (z + 130, bc_e (gg_ l D cA b z adK) s0_ 130) H ∧ va_at D bc_cl (z + 131, bc_e (gg_ l D cA b z adK) s0_ 131) H ∧ va_at D bc_cl (z + 132, bc_e (gg_ l D cA b z adK) s0_ 132) H ∧ va_at D bc_cl (z + 133, bc_e (gg_ l D cA b z adK) s0_ 133) H ∧ va_at D bc_cl (z + 134, bc_e (gg_ l D cA b z adK) s0_ 134) H ∧ va_at D bc_cl (z + 135, bc_e (gg_ l D cA b z adK) s0_ 135) H ∧ va_at D bc_cl (z + 136, bc_e (gg_ l D cA b z adK) s0_ 136) H := by
  rw [E2_fl] at h
  refine ⟨?_, ?_, ?_, ?_, ?_, ?_, ?_⟩
  · have := h 0 _ rfl
    exact this
  · have := h 1 _ rfl
    exact this
  · have := h 2 _ rfl
    exact this
  · have := h 3 _ rfl
    exact this
  · have := h 4 _ rfl
    exact this
  · have := h 5 _ rfl
    exact this
  · have := h 6 _ rfl
    exact this
theorem fs137 (h : hq_ D (z + 137) (E3_ cA (z + 137)) H) : va_at D bc_cl (z + 137, bc_e (gg_ l D cA b z adK) s0_ 137) H ∧ va_at D bc_cl (z + 138, bc_e (gg_ l D cA b z adK) s0_ 138) H := by
  rw [E3_fl] at h
  refine ⟨?_, ?_⟩
  · have := h 0 _ rfl
    exact this
  · have := h 1 _ rfl
    exact this
theorem fs139 (h : hq_ D (z + 139) (E8_ cA (z + 139)) H) : va_at D bc_cl (z + 139, bc_e (gg_ l D cA b z adK) s0_ 139) H ∧ va_at D bc_cl (z + 140, bc_e (gg_ l D cA b z adK) s0_ 140) H ∧ va_at D bc_cl (z + 141, bc_e (gg_ l D cA b z adK) s0_ 141) H ∧ va_at D bc_cl (z + 142, bc_e (gg_ l D cA b z adK) s0_ 142) H := by
  rw [E8_fl] at h
  refine ⟨?_, ?_, ?_, ?_⟩
  · have := h 0 _ rfl
    exact this
  · have := h 1 _ rfl
    exact this
  · have := h 2 _ rfl
    exact this
  · have := h 3 _ rfl
    exact this
theorem fs143 (h : va_at D bc_cl (z + 143, .inr (6, [.ref (z + 143 + 1), .ref (z + 143 + 8), .ref (z + 143 + 10)])) H) : va_at D bc_cl (z + 143, bc_e (gg_ l D cA b z adK) s0_ 143) H := h
theorem fs144 (h : hq_ D (z + 144) (E2_ cA (z + 144)) H) : va_at D bc_cl (z + 144, bc_e (gg_ l D cA b z adK) s0_ 144) H ∧ va_at D bc_cl (z + 145, bc_e (gg_ l D cA b z adK) s0_ 145) H ∧ va_at D bc_cl (z + 146, bc_e (gg_ l D cA b z adK) s0_ 146) H ∧ va_at D bc_cl (z + 147, bc_e (gg_ l D cA b z adK) s0_ 147) H ∧ va_at D bc_cl (z + 148, bc_e (gg_ l D cA b z adK) s0_ 148) H ∧ va_at D bc_cl (z + 149, bc_e (gg_ l D cA b z adK) s0_ 149) H ∧ va_at D bc_cl (z + 150, bc_e (gg_ l D cA b z adK) s0_ 150) H := by
  rw [E2_fl] at h
  refine ⟨?_, ?_, ?_, ?_, ?_, ?_, ?_⟩
  · have := h 0 _ rfl
    exact this
  · have := h 1 _ rfl
    exact this
  · have := h 2 _ rfl
    exact this
  · have := h 3 _ rfl
    exact this
  · have := h 4 _ rfl
    exact this
  · have := h 5 _ rfl
    exact this
  · have := h 6 _ rfl
    exact this
theorem fs151 (h : hq_ D (z + 151) (E3_ cA (z + 151)) H) : va_at D bc_cl (z + 151, bc_e (gg_ l D cA b z adK) s0_ 151) H ∧ va_at D bc_cl (z + 152, bc_e (gg_ l D cA b z adK) s0_ 152) H := by
  rw [E3_fl] at h
  refine ⟨?_, ?_⟩
  · have := h 0 _ rfl
    exact this
  · have := h 1 _ rfl
    exact this
theorem fs153 (h : hq_ D (z + 153) (E8_ cA (z + 153)) H) : va_at D bc_cl (z + 153, bc_e (gg_ l D cA b z adK) s0_ 153) H ∧ va_at D bc_cl (z + 154, bc_e (gg_ l D cA b z adK) s0_ 154) H ∧ va_at D bc_cl (z + 155, bc_e (gg_ l D cA b z adK) s0_ 155) H ∧ va_at D bc_cl (z + 156, bc_e (gg_ l D cA b z adK) s0_ 156) H := by
  rw [E8_fl] at h
  refine ⟨?_, ?_, ?_, ?_⟩
  · have := h 0 _ rfl
    exact this
  · have := h 1 _ rfl
    exact this
  · have := h 2 _ rfl
    exact this
  · have := h 3 _ rfl
    exact this
theorem fs0 (h : va_at D bc_cl (z + 0, .inr (10, [.ref (z + 0 + 1), .ref (z + 0 + 15), .ref (z + 0 + 29), .ref (z + 0 + 43), .ref (z + 0 + 157), .ref (z + 0 + 171), .ref (z + 0 + 174), .ref (z + 0 + 195), .ref (z + 0 + 216), .int (Int32.ofInt 0), .int (Int32.ofInt (-1)), .int (Int32.ofInt (-1))])) H) : va_at D bc_cl (z + 0, bc_e (gg_ l D cA b z adK) s0_ 0) H := h
theorem fs43 (h : va_at D bc_cl (z + 43, EO1_ (z + 43)) H) : va_at D bc_cl (z + 43, bc_e (gg_ l D cA b z adK) s0_ 43) H := h
theorem fs44 (h : va_at D bc_cl (z + 44, EA_ cA (z + 43) 8) H) : va_at D bc_cl (z + 44, bc_e (gg_ l D cA b z adK) s0_ 44) H := by
  · have e : EA_ cA (z + 43) 8 = bc_e (gg_ l D cA b z adK) s0_ 44 := by
      refine congrArg (fun f : Nat → Option Nat => (.inl (cA 6, 8, .inr (.inr (.inr (.inr f)))) : va_E)) (funext fun j => ?_)
      by_cases h : j < 8
      · rw [if_pos h, if_pos h, gg_ad l D cA b z adK (by omega)]
        congr 1
        omega
      · rw [if_neg h, if_neg h]
    rw [← e]
    exact h
theorem fs157 (h : hq_ D (z + 157) (E9_ cA (z + 157)) H) : va_at D bc_cl (z + 157, bc_e (gg_ l D cA b z adK) s0_ 157) H ∧ va_at D bc_cl (z + 158, bc_e (gg_ l D cA b z adK) s0_ 158) H ∧ va_at D bc_cl (z + 159, bc_e (gg_ l D cA b z adK) s0_ 159) H ∧ va_at D bc_cl (z + 160, bc_e (gg_ l D cA b z adK) s0_ 160) H ∧ va_at D bc_cl (z + 161, bc_e (gg_ l D cA b z adK) s0_ 161) H ∧ va_at D bc_cl (z + 162, bc_e (gg_ l D cA b z adK) s0_ 162) H ∧ va_at D bc_cl (z + 163, bc_e (gg_ l D cA b z adK) s0_ 163) H ∧ va_at D bc_cl (z + 164, bc_e (gg_ l D cA b z adK) s0_ 164) H ∧ va_at D bc_cl (z + 165, bc_e (gg_ l D cA b z adK) s0_ 165) H ∧ va_at D bc_cl (z + 166, bc_e (gg_ l D cA b z adK) s0_ 166) H ∧ va_at D bc_cl (z + 167, bc_e (gg_ l D cA b z adK) s0_ 167) H ∧ va_at D bc_cl (z + 168, bc_e (gg_ l D cA b z adK) s0_ 168) H ∧ va_at D bc_cl (z + 169, bc_e (gg_ l D cA b z adK) s0_ 169) H ∧ va_at D bc_cl (z + 170, bc_e (gg_ l D cA b z adK) s0_ 170) H := by
  rw [E9_fl] at h
  refine ⟨?_, ?_, ?_, ?_, ?_, ?_, ?_, ?_, ?_, ?_, ?_, ?_, ?_, ?_⟩
  · have := h 0 _ rfl
    exact this
  · have e : (cg_o (cA 5) 8 (z + 158)) = bc_e (gg_ l D cA b z adK) s0_ 158 := by
      refine congrArg (fun f : Nat → Option Nat => (.inl (cA 5, 8, .inr (.inr (.inr (.inr f)))) : va_E)) (funext fun j => ?_)
      by_cases h : j < 8
      · rw [if_pos h, if_pos h, gg_ad l D cA b z adK (by omega)]
        congr 1
        omega
      · rw [if_neg h, if_neg h]
    rw [← e]
    exact h 1 _ rfl
  · have := h 2 _ rfl
    exact this
  · have := h 3 _ rfl
    exact this
  · have := h 4 _ rfl
    exact this
  · have := h 5 _ rfl
    exact this
  · have := h 6 _ rfl
    exact this
  · have := h 7 _ rfl
    exact this
  · have := h 8 _ rfl
    exact this
  · have := h 9 _ rfl
    exact this
  · have := h 10 _ rfl
    exact this
  · have := h 11 _ rfl
    exact this
  · have := h 12 _ rfl
    exact this
  · have := h 13 _ rfl
    exact this
theorem fs171 (h : hq_ D (z + 171) (E0_ cA (z + 171)) H) : va_at D bc_cl (z + 171, bc_e (gg_ l D cA b z adK) s0_ 171) H ∧ va_at D bc_cl (z + 172, bc_e (gg_ l D cA b z adK) s0_ 172) H ∧ va_at D bc_cl (z + 173, bc_e (gg_ l D cA b z adK) s0_ 173) H := by
  rw [E0_fl] at h
  refine ⟨?_, ?_, ?_⟩
  · have := h 0 _ rfl
    exact this
  · have := h 1 _ rfl
    exact this
  · have := h 2 _ rfl
    exact this
theorem fs174 (h : hq_ D (z + 174) (E4_ cA (z + 174)) H) : va_at D bc_cl (z + 174, bc_e (gg_ l D cA b z adK) s0_ 174) H ∧ va_at D bc_cl (z + 175, bc_e (gg_ l D cA b z adK) s0_ 175) H ∧ va_at D bc_cl (z + 176, bc_e (gg_ l D cA b z adK) s0_ 176) H ∧ va_at D bc_cl (z + 177, bc_e (gg_ l D cA b z adK) s0_ 177) H ∧ va_at D bc_cl (z + 178, bc_e (gg_ l D cA b z adK) s0_ 178) H ∧ va_at D bc_cl (z + 179, bc_e (gg_ l D cA b z adK) s0_ 179) H ∧ va_at D bc_cl (z + 180, bc_e (gg_ l D cA b z adK) s0_ 180) H ∧ va_at D bc_cl (z + 181, bc_e (gg_ l D cA b z adK) s0_ 181) H ∧ va_at D bc_cl (z + 182, bc_e (gg_ l D cA b z adK) s0_ 182) H ∧ va_at D bc_cl (z + 183, bc_e (gg_ l D cA b z adK) s0_ 183) H ∧ va_at D bc_cl (z + 184, bc_e (gg_ l D cA b z adK) s0_ 184) H ∧ va_at D bc_cl (z + 185, bc_e (gg_ l D cA b z adK) s0_ 185) H ∧ va_at D bc_cl (z + 186, bc_e (gg_ l D cA b z adK) s0_ 186) H ∧ va_at D bc_cl (z + 187, bc_e (gg_ l D cA b z adK) s0_ 187) H ∧ va_at D bc_cl (z + 188, bc_e (gg_ l D cA b z adK) s0_ 188) H ∧ va_at D bc_cl (z + 189, bc_e (gg_ l D cA b z adK) s0_ 189) H ∧ va_at D bc_cl (z + 190, bc_e (gg_ l D cA b z adK) s0_ 190) H ∧ va_at D bc_cl (z + 191, bc_e (gg_ l D cA b z adK) s0_ 191) H ∧ va_at D bc_cl (z + 192, bc_e (gg_ l D cA b z adK) s0_ 192) H ∧ va_at D bc_cl (z + 193, bc_e (gg_ l D cA b z adK) s0_ 193) H ∧ va_at D bc_cl (z + 194, bc_e (gg_ l D cA b z adK) s0_ 194) H := by
  rw [E4_fl] at h
  refine ⟨?_, ?_, ?_, ?_, ?_, ?_, ?_, ?_, ?_, ?_, ?_, ?_, ?_, ?_, ?_, ?_, ?_, ?_, ?_, ?_, ?_⟩
  · have := h 0 _ rfl
    exact this
  · have e : (cg_o (cA 5) 8 (z + 175)) = bc_e (gg_ l D cA b z adK) s0_ 175 := by
      refine congrArg (fun f : Nat → Option Nat => (.inl (cA 5, 8, .inr (.inr (.inr (.inr f)))) : va_E)) (funext fun j => ?_)
      by_cases h : j < 8
      · rw [if_pos h, if_pos h, gg_ad l D cA b z adK (by omega)]
        congr 1
        omega
      · rw [if_neg h, if_neg h]
    rw [← e]
    exact h 1 _ rfl
  · have := h 2 _ rfl
    exact this
  · have := h 3 _ rfl
    exact this
  · have := h 4 _ rfl
    exact this
  · have := h 5 _ rfl
    exact this
  · have := h 6 _ rfl
    exact this
  · have := h 7 _ rfl
    exact this
  · have := h 8 _ rfl
    exact this
  · have := h 9 _ rfl
    exact this
  · have := h 10 _ rfl
    exact this
  · have := h 11 _ rfl
    exact this
  · have e : (cg_o (cA 5) 8 (z + 186)) = bc_e (gg_ l D cA b z adK) s0_ 186 := by
      refine congrArg (fun f : Nat → Option Nat => (.inl (cA 5, 8, .inr (.inr (.inr (.inr f)))) : va_E)) (funext fun j => ?_)
      by_cases h : j < 8
      · rw [if_pos h, if_pos h, gg_ad l D cA b z adK (by omega)]
        congr 1
        omega
      · rw [if_neg h, if_neg h]
    rw [← e]
    exact h 12 _ rfl
  · have := h 13 _ rfl
    exact this
  · have := h 14 _ rfl
    exact this
  · have := h 15 _ rfl
    exact this
  · have := h 16 _ rfl
    exact this
  · have := h 17 _ rfl
    exact this
  · have := h 18 _ rfl
    exact this
  · have := h 19 _ rfl
    exact this
  · have := h 20 _ rfl
    exact this
theorem fs195 (h : va_at D bc_cl (z + 195, .inr (5, [.ref (z + 195 + 1), .ref (z + 195 + 3), .ref (z + 195 + 4), .int (Int32.ofInt 0), .int (Int32.ofInt 0)])) H) : va_at D bc_cl (z + 195, bc_e (gg_ l D cA b z adK) s0_ 195) H := h
theorem fs196 (h : hq_ D (z + 196) (E7_ cA (z + 196)) H) : va_at D bc_cl (z + 196, bc_e (gg_ l D cA b z adK) s0_ 196) H ∧ va_at D bc_cl (z + 197, bc_e (gg_ l D cA b z adK) s0_ 197) H := by
  rw [E7_fl] at h
  refine ⟨?_, ?_⟩
  · have := h 0 _ rfl
    exact this
  · have := h 1 _ rfl
    exact this
theorem fs198 (h : va_at D bc_cl (z + 198, .inl (cA 0, 16, .inl (fun _ => Int32.ofInt 0))) H) : va_at D bc_cl (z + 198, bc_e (gg_ l D cA b z adK) s0_ 198) H := h
theorem fs199 (h : hq_ D (z + 199) (cg_o (cA 5) 16 (z + 199) :: List.replicate 16 (cg_r (cA 0) 3)) H) : va_at D bc_cl (z + 199, bc_e (gg_ l D cA b z adK) s0_ 199) H ∧ va_at D bc_cl (z + 200, bc_e (gg_ l D cA b z adK) s0_ 200) H ∧ va_at D bc_cl (z + 201, bc_e (gg_ l D cA b z adK) s0_ 201) H ∧ va_at D bc_cl (z + 202, bc_e (gg_ l D cA b z adK) s0_ 202) H ∧ va_at D bc_cl (z + 203, bc_e (gg_ l D cA b z adK) s0_ 203) H ∧ va_at D bc_cl (z + 204, bc_e (gg_ l D cA b z adK) s0_ 204) H ∧ va_at D bc_cl (z + 205, bc_e (gg_ l D cA b z adK) s0_ 205) H ∧ va_at D bc_cl (z + 206, bc_e (gg_ l D cA b z adK) s0_ 206) H ∧ va_at D bc_cl (z + 207, bc_e (gg_ l D cA b z adK) s0_ 207) H ∧ va_at D bc_cl (z + 208, bc_e (gg_ l D cA b z adK) s0_ 208) H ∧ va_at D bc_cl (z + 209, bc_e (gg_ l D cA b z adK) s0_ 209) H ∧ va_at D bc_cl (z + 210, bc_e (gg_ l D cA b z adK) s0_ 210) H ∧ va_at D bc_cl (z + 211, bc_e (gg_ l D cA b z adK) s0_ 211) H ∧ va_at D bc_cl (z + 212, bc_e (gg_ l D cA b z adK) s0_ 212) H ∧ va_at D bc_cl (z + 213, bc_e (gg_ l D cA b z adK) s0_ 213) H ∧ va_at D bc_cl (z + 214, bc_e (gg_ l D cA b z adK) s0_ 214) H ∧ va_at D bc_cl (z + 215, bc_e (gg_ l D cA b z adK) s0_ 215) H := by
  refine ⟨?_, ?_, ?_, ?_, ?_, ?_, ?_, ?_, ?_, ?_, ?_, ?_, ?_, ?_, ?_, ?_, ?_⟩
  · have e : cg_o (cA 5) 16 (z + 199) = bc_e (gg_ l D cA b z adK) s0_ 199 := by
      refine congrArg (fun f : Nat → Option Nat => (.inl (cA 5, 16, .inr (.inr (.inr (.inr f)))) : va_E)) (funext fun j => ?_)
      by_cases h : j < 16
      · rw [if_pos h, if_pos h, gg_ad l D cA b z adK (by omega)]
        congr 1
        omega
      · rw [if_neg h, if_neg h]
    rw [← e]
    exact h 0 _ rfl
  · have := h 1 _ rfl
    exact this
  · have := h 2 _ rfl
    exact this
  · have := h 3 _ rfl
    exact this
  · have := h 4 _ rfl
    exact this
  · have := h 5 _ rfl
    exact this
  · have := h 6 _ rfl
    exact this
  · have := h 7 _ rfl
    exact this
  · have := h 8 _ rfl
    exact this
  · have := h 9 _ rfl
    exact this
  · have := h 10 _ rfl
    exact this
  · have := h 11 _ rfl
    exact this
  · have := h 12 _ rfl
    exact this
  · have := h 13 _ rfl
    exact this
  · have := h 14 _ rfl
    exact this
  · have := h 15 _ rfl
    exact this
  · have := h 16 _ rfl
    exact this
theorem fs216 (h : hq_ D (z + 216) (E7_ cA (z + 216)) H) : va_at D bc_cl (z + 216, bc_e (gg_ l D cA b z adK) s0_ 216) H ∧ va_at D bc_cl (z + 217, bc_e (gg_ l D cA b z adK) s0_ 217) H := by
  rw [E7_fl] at h
  refine ⟨?_, ?_⟩
  · have := h 0 _ rfl
    exact this
  · have := h 1 _ rfl
    exact this
theorem fs218 (h : hq_ D (z + 218) (E11_ cA (z + 218)) H) : va_at D bc_cl (z + 218, bc_e (gg_ l D cA b z adK) s0_ 218) H ∧ va_at D bc_cl (z + 219, bc_e (gg_ l D cA b z adK) s0_ 219) H ∧ va_at D bc_cl (z + 220, bc_e (gg_ l D cA b z adK) s0_ 220) H ∧ va_at D bc_cl (z + 221, bc_e (gg_ l D cA b z adK) s0_ 221) H ∧ va_at D bc_cl (z + 222, bc_e (gg_ l D cA b z adK) s0_ 222) H ∧ va_at D bc_cl (z + 223, bc_e (gg_ l D cA b z adK) s0_ 223) H ∧ va_at D bc_cl (z + 224, bc_e (gg_ l D cA b z adK) s0_ 224) H ∧ va_at D bc_cl (z + 225, bc_e (gg_ l D cA b z adK) s0_ 225) H ∧ va_at D bc_cl (z + 226, bc_e (gg_ l D cA b z adK) s0_ 226) H ∧ va_at D bc_cl (z + 227, bc_e (gg_ l D cA b z adK) s0_ 227) H := by
  rw [E11_fl] at h
  refine ⟨?_, ?_, ?_, ?_, ?_, ?_, ?_, ?_, ?_, ?_⟩
  · have e : bc_e (gg_ l D cA b z adK) s0_ 218 = (.inr (11, bc_fs (gg_ l D cA b z adK) s0_ 218 [some 219, some 220, some 221, some 222, none, none, none, none, some 223, some 224, some 225, none, some 226, none, none, none, none, none, none, some 227]) : va_E) := rfl
    rw [e]
    simp only [bc_fs, List.mapIdx_cons, List.mapIdx_nil]
    have := h 0 _ rfl
    exact this
  · have e : (.inl (cA 0, 136, .inl (upd (upd (upd (fun _ => Int32.ofInt 0) 1 (Int32.ofInt 30)) 2 (Int32.ofInt 5)) 11 (Int32.ofInt 99))) : va_E) = bc_e (gg_ l D cA b z adK) s0_ 219 := by
      refine congrArg (fun f : Nat → Int32 => (.inl (cA 0, 136, .inl f) : va_E)) (funext fun j => ?_)
      show _ = Int32.ofInt (r0_ (j : Int))
      unfold upd r0_
      by_cases h1 : j = 1
      · subst h1; rfl
      by_cases h2 : j = 2
      · subst h2; rfl
      by_cases h3 : j = 11
      · subst h3; rfl
      rw [if_neg (show ¬ (j : Int) = 1 by omega), if_neg (show ¬ (j : Int) = 2 by omega), if_neg (show ¬ (j : Int) = 11 by omega)]
      simp [h1, h2, h3]
    rw [← e]
    exact h 1 _ rfl
  · have := h 2 _ rfl
    exact this
  · have := h 3 _ rfl
    exact this
  · have := h 4 _ rfl
    exact this
  · have := h 5 _ rfl
    exact this
  · have := h 6 _ rfl
    exact this
  · have := h 7 _ rfl
    exact this
  · have := h 8 _ rfl
    exact this
  · have := h 9 _ rfl
    exact this
theorem fs228 (h : va_at D bc_cl (z + 228, .inl (cA 3, 1, .inr (.inl (fun j => if j = 0 then 0 else 0)))) H) : va_at D bc_cl (z + 228, bc_e (gg_ l D cA b z adK) s0_ 228) H := h
theorem fs229 (h : va_at D bc_cl (z + 229, .inl (cA 4, 1, .inr (.inr (.inr (.inl (fun j => if j = 0 then 0 else 0)))))) H) : va_at D bc_cl (z + 229, bc_e (gg_ l D cA b z adK) s0_ 229) H := h
theorem hq_six {q : Nat} (h : hq_ D q (E6_ cA q) H) : va_at D bc_cl (q, .inr (6, [.ref (q + 1), .ref (q + 8), .ref (q + 10)])) H ∧ hq_ D (q + 1) (E2_ cA (q + 1)) H ∧ hq_ D (q + 8) (E3_ cA (q + 8)) H ∧ hq_ D (q + 10) (E8_ cA (q + 10)) H := by
  unfold E6_ at h
  have h1 := hq_cons h
  have h2 := hq_app h1.2 (n := 9) (by simp [E2_len, E3_len])
  have h3 := hq_app h2.1 (n := 7) (by simp [E2_len])
  exact ⟨h1.1, h3.1, h3.2, h2.2⟩
theorem hq_EL (q : Nat) : ∀ n t, t < n → hq_ D (q + 2) (EL_ cA q n) H → hq_ D (q + 2 + 14 * t) (E6_ cA (q + 2 + 14 * t)) H := by
  intro n
  induction n with
  | zero => intro t ht; omega
  | succ n ih =>
    intro t ht h
    unfold EL_ at h
    have h2 := hq_app h (EL_len cA q n)
    by_cases e : t = n
    · subst e
      have := h2.2
      rwa [show q + (2 + 14 * t) = q + 2 + 14 * t by omega] at this
    · exact ih t (by omega) h2.1
theorem fz_all (h : hq_ D z (EX_ cA z) H) : ∀ k, k < 230 → va_at D bc_cl (z + k, bc_e (gg_ l D cA b z adK) s0_ k) H := by
  have h229 := hq_app h (n := 229) (by simp [E10_len, E11_len])
  have h228 := hq_app h229.1 (n := 228) (by simp [E10_len, E11_len])
  have h218 := hq_app h228.1 (n := 218) (E10_len cA _)
  have hx := h218.1
  unfold E10_ at hx
  have c0 := hq_cons hx
  have c216 := hq_app c0.2 (n := 215) (by simp [E0_len, E1_len, E4_len, E5_len, E6_len, E7_len, E9_len])
  have c195 := hq_app c216.1 (n := 194) (by simp [E0_len, E1_len, E4_len, E5_len, E6_len, E7_len, E9_len])
  have c174 := hq_app c195.1 (n := 173) (by simp [E0_len, E1_len, E4_len, E5_len, E6_len, E7_len, E9_len])
  have c171 := hq_app c174.1 (n := 170) (by simp [E0_len, E1_len, E4_len, E5_len, E6_len, E7_len, E9_len])
  have c157 := hq_app c171.1 (n := 156) (by simp [E0_len, E1_len, E4_len, E5_len, E6_len, E7_len, E9_len])
  have c43 := hq_app c157.1 (n := 42) (by simp [E0_len, E1_len, E4_len, E5_len, E6_len, E7_len, E9_len])
  have c29 := hq_app c43.1 (n := 28) (by simp [E0_len, E1_len, E4_len, E5_len, E6_len, E7_len, E9_len])
  have c15 := hq_app c29.1 (n := 14) (by simp [E0_len, E1_len, E4_len, E5_len, E6_len, E7_len, E9_len])
  have p1 : hq_ D (z + 1) (E6_ cA (z + 1)) H := c15.1
  have p15 : hq_ D (z + 15) (E6_ cA (z + 15)) H := c15.2
  have p29 : hq_ D (z + 29) (E6_ cA (z + 29)) H := c29.2
  have p43 : hq_ D (z + 43) (E1_ cA (z + 43)) H := c43.2
  unfold E1_ at p43
  have d43 := hq_cons p43
  have d44 := hq_cons d43.2
  have p195 : hq_ D (z + 195) (E5_ cA (z + 195)) H := c195.2
  unfold E5_ at p195
  have d195 := hq_cons p195
  have d199 := hq_app d195.2 (n := 3) (by simp [E7_len])
  have d198 := hq_app d199.1 (n := 2) (by simp [E7_len])
  have s1 := hq_six D cA p1
  have s15 := hq_six D cA p15
  have s29 := hq_six D cA p29
  have s45 : va_at D bc_cl (z + 45, .inr (6, [.ref (z + 45 + 1), .ref (z + 45 + 8), .ref (z + 45 + 10)])) H ∧ hq_ D (z + 46) (E2_ cA (z + 46)) H ∧ hq_ D (z + 53) (E3_ cA (z + 53)) H ∧ hq_ D (z + 55) (E8_ cA (z + 55)) H := hq_six D cA (q := z + 45) (hq_EL D cA (z + 43) 8 0 (by omega) d44.2)
  have s59 : va_at D bc_cl (z + 59, .inr (6, [.ref (z + 59 + 1), .ref (z + 59 + 8), .ref (z + 59 + 10)])) H ∧ hq_ D (z + 60) (E2_ cA (z + 60)) H ∧ hq_ D (z + 67) (E3_ cA (z + 67)) H ∧ hq_ D (z + 69) (E8_ cA (z + 69)) H := hq_six D cA (q := z + 59) (hq_EL D cA (z + 43) 8 1 (by omega) d44.2)
  have s73 : va_at D bc_cl (z + 73, .inr (6, [.ref (z + 73 + 1), .ref (z + 73 + 8), .ref (z + 73 + 10)])) H ∧ hq_ D (z + 74) (E2_ cA (z + 74)) H ∧ hq_ D (z + 81) (E3_ cA (z + 81)) H ∧ hq_ D (z + 83) (E8_ cA (z + 83)) H := hq_six D cA (q := z + 73) (hq_EL D cA (z + 43) 8 2 (by omega) d44.2)
  have s87 : va_at D bc_cl (z + 87, .inr (6, [.ref (z + 87 + 1), .ref (z + 87 + 8), .ref (z + 87 + 10)])) H ∧ hq_ D (z + 88) (E2_ cA (z + 88)) H ∧ hq_ D (z + 95) (E3_ cA (z + 95)) H ∧ hq_ D (z + 97) (E8_ cA (z + 97)) H := hq_six D cA (q := z + 87) (hq_EL D cA (z + 43) 8 3 (by omega) d44.2)
  have s101 : va_at D bc_cl (z + 101, .inr (6, [.ref (z + 101 + 1), .ref (z + 101 + 8), .ref (z + 101 + 10)])) H ∧ hq_ D (z + 102) (E2_ cA (z + 102)) H ∧ hq_ D (z + 109) (E3_ cA (z + 109)) H ∧ hq_ D (z + 111) (E8_ cA (z + 111)) H := hq_six D cA (q := z + 101) (hq_EL D cA (z + 43) 8 4 (by omega) d44.2)
  have s115 : va_at D bc_cl (z + 115, .inr (6, [.ref (z + 115 + 1), .ref (z + 115 + 8), .ref (z + 115 + 10)])) H ∧ hq_ D (z + 116) (E2_ cA (z + 116)) H ∧ hq_ D (z + 123) (E3_ cA (z + 123)) H ∧ hq_ D (z + 125) (E8_ cA (z + 125)) H := hq_six D cA (q := z + 115) (hq_EL D cA (z + 43) 8 5 (by omega) d44.2)
  have s129 : va_at D bc_cl (z + 129, .inr (6, [.ref (z + 129 + 1), .ref (z + 129 + 8), .ref (z + 129 + 10)])) H ∧ hq_ D (z + 130) (E2_ cA (z + 130)) H ∧ hq_ D (z + 137) (E3_ cA (z + 137)) H ∧ hq_ D (z + 139) (E8_ cA (z + 139)) H := hq_six D cA (q := z + 129) (hq_EL D cA (z + 43) 8 6 (by omega) d44.2)
  have s143 : va_at D bc_cl (z + 143, .inr (6, [.ref (z + 143 + 1), .ref (z + 143 + 8), .ref (z + 143 + 10)])) H ∧ hq_ D (z + 144) (E2_ cA (z + 144)) H ∧ hq_ D (z + 151) (E3_ cA (z + 151)) H ∧ hq_ D (z + 153) (E8_ cA (z + 153)) H := hq_six D cA (q := z + 143) (hq_EL D cA (z + 43) 8 7 (by omega) d44.2)
  have g0 := fs0 l D cA b z adK c0.1
  have g1 := fs1 l D cA b z adK s1.1
  have g2 := fs2 l D cA b z adK s1.2.1
  have g9 := fs9 l D cA b z adK s1.2.2.1
  have g11 := fs11 l D cA b z adK s1.2.2.2
  have g15 := fs15 l D cA b z adK s15.1
  have g16 := fs16 l D cA b z adK s15.2.1
  have g23 := fs23 l D cA b z adK s15.2.2.1
  have g25 := fs25 l D cA b z adK s15.2.2.2
  have g29 := fs29 l D cA b z adK s29.1
  have g30 := fs30 l D cA b z adK s29.2.1
  have g37 := fs37 l D cA b z adK s29.2.2.1
  have g39 := fs39 l D cA b z adK s29.2.2.2
  have g43 := fs43 l D cA b z adK d43.1
  have g44 := fs44 l D cA b z adK d44.1
  have g45 := fs45 l D cA b z adK s45.1
  have g46 := fs46 l D cA b z adK s45.2.1
  have g53 := fs53 l D cA b z adK s45.2.2.1
  have g55 := fs55 l D cA b z adK s45.2.2.2
  have g59 := fs59 l D cA b z adK s59.1
  have g60 := fs60 l D cA b z adK s59.2.1
  have g67 := fs67 l D cA b z adK s59.2.2.1
  have g69 := fs69 l D cA b z adK s59.2.2.2
  have g73 := fs73 l D cA b z adK s73.1
  have g74 := fs74 l D cA b z adK s73.2.1
  have g81 := fs81 l D cA b z adK s73.2.2.1
  have g83 := fs83 l D cA b z adK s73.2.2.2
  have g87 := fs87 l D cA b z adK s87.1
  have g88 := fs88 l D cA b z adK s87.2.1
  have g95 := fs95 l D cA b z adK s87.2.2.1
  have g97 := fs97 l D cA b z adK s87.2.2.2
  have g101 := fs101 l D cA b z adK s101.1
  have g102 := fs102 l D cA b z adK s101.2.1
  have g109 := fs109 l D cA b z adK s101.2.2.1
  have g111 := fs111 l D cA b z adK s101.2.2.2
  have g115 := fs115 l D cA b z adK s115.1
  have g116 := fs116 l D cA b z adK s115.2.1
  have g123 := fs123 l D cA b z adK s115.2.2.1
  have g125 := fs125 l D cA b z adK s115.2.2.2
  have g129 := fs129 l D cA b z adK s129.1
  have g130 := fs130 l D cA b z adK s129.2.1
  have g137 := fs137 l D cA b z adK s129.2.2.1
  have g139 := fs139 l D cA b z adK s129.2.2.2
  have g143 := fs143 l D cA b z adK s143.1
  have g144 := fs144 l D cA b z adK s143.2.1
  have g151 := fs151 l D cA b z adK s143.2.2.1
  have g153 := fs153 l D cA b z adK s143.2.2.2
  have g157 := fs157 l D cA b z adK c157.2
  have g171 := fs171 l D cA b z adK c171.2
  have g174 := fs174 l D cA b z adK c174.2
  have g195 := fs195 l D cA b z adK d195.1
  have g196 := fs196 l D cA b z adK d198.1
  have g198 := fs198 l D cA b z adK (d198.2 0 _ rfl)
  have g199 := fs199 l D cA b z adK d199.2
  have g216 := fs216 l D cA b z adK c216.2
  have g218 := fs218 l D cA b z adK h218.2
  have g228 := fs228 l D cA b z adK (h228.2 0 _ rfl)
  have g229 := fs229 l D cA b z adK (h229.2 0 _ rfl)
  intro k hk
  match k, hk with
  | 0, _ => exact g0
  | 1, _ => exact g1
  | 2, _ => exact g2.1
  | 3, _ => exact g2.2.1
  | 4, _ => exact g2.2.2.1
  | 5, _ => exact g2.2.2.2.1
  | 6, _ => exact g2.2.2.2.2.1
  | 7, _ => exact g2.2.2.2.2.2.1
  | 8, _ => exact g2.2.2.2.2.2.2
  | 9, _ => exact g9.1
  | 10, _ => exact g9.2
  | 11, _ => exact g11.1
  | 12, _ => exact g11.2.1
  | 13, _ => exact g11.2.2.1
  | 14, _ => exact g11.2.2.2
  | 15, _ => exact g15
  | 16, _ => exact g16.1
  | 17, _ => exact g16.2.1
  | 18, _ => exact g16.2.2.1
  | 19, _ => exact g16.2.2.2.1
  | 20, _ => exact g16.2.2.2.2.1
  | 21, _ => exact g16.2.2.2.2.2.1
  | 22, _ => exact g16.2.2.2.2.2.2
  | 23, _ => exact g23.1
  | 24, _ => exact g23.2
  | 25, _ => exact g25.1
  | 26, _ => exact g25.2.1
  | 27, _ => exact g25.2.2.1
  | 28, _ => exact g25.2.2.2
  | 29, _ => exact g29
  | 30, _ => exact g30.1
  | 31, _ => exact g30.2.1
  | 32, _ => exact g30.2.2.1
  | 33, _ => exact g30.2.2.2.1
  | 34, _ => exact g30.2.2.2.2.1
  | 35, _ => exact g30.2.2.2.2.2.1
  | 36, _ => exact g30.2.2.2.2.2.2
  | 37, _ => exact g37.1
  | 38, _ => exact g37.2
  | 39, _ => exact g39.1
  | 40, _ => exact g39.2.1
  | 41, _ => exact g39.2.2.1
  | 42, _ => exact g39.2.2.2
  | 43, _ => exact g43
  | 44, _ => exact g44
  | 45, _ => exact g45
  | 46, _ => exact g46.1
  | 47, _ => exact g46.2.1
  | 48, _ => exact g46.2.2.1
  | 49, _ => exact g46.2.2.2.1
  | 50, _ => exact g46.2.2.2.2.1
  | 51, _ => exact g46.2.2.2.2.2.1
  | 52, _ => exact g46.2.2.2.2.2.2
  | 53, _ => exact g53.1
  | 54, _ => exact g53.2
  | 55, _ => exact g55.1
  | 56, _ => exact g55.2.1
  | 57, _ => exact g55.2.2.1
  | 58, _ => exact g55.2.2.2
  | 59, _ => exact g59
  | 60, _ => exact g60.1
  | 61, _ => exact g60.2.1
  | 62, _ => exact g60.2.2.1
  | 63, _ => exact g60.2.2.2.1
  | 64, _ => exact g60.2.2.2.2.1
  | 65, _ => exact g60.2.2.2.2.2.1
  | 66, _ => exact g60.2.2.2.2.2.2
  | 67, _ => exact g67.1
  | 68, _ => exact g67.2
  | 69, _ => exact g69.1
  | 70, _ => exact g69.2.1
  | 71, _ => exact g69.2.2.1
  | 72, _ => exact g69.2.2.2
  | 73, _ => exact g73
  | 74, _ => exact g74.1
  | 75, _ => exact g74.2.1
  | 76, _ => exact g74.2.2.1
  | 77, _ => exact g74.2.2.2.1
  | 78, _ => exact g74.2.2.2.2.1
  | 79, _ => exact g74.2.2.2.2.2.1
  | 80, _ => exact g74.2.2.2.2.2.2
  | 81, _ => exact g81.1
  | 82, _ => exact g81.2
  | 83, _ => exact g83.1
  | 84, _ => exact g83.2.1
  | 85, _ => exact g83.2.2.1
  | 86, _ => exact g83.2.2.2
  | 87, _ => exact g87
  | 88, _ => exact g88.1
  | 89, _ => exact g88.2.1
  | 90, _ => exact g88.2.2.1
  | 91, _ => exact g88.2.2.2.1
  | 92, _ => exact g88.2.2.2.2.1
  | 93, _ => exact g88.2.2.2.2.2.1
  | 94, _ => exact g88.2.2.2.2.2.2
  | 95, _ => exact g95.1
  | 96, _ => exact g95.2
  | 97, _ => exact g97.1
  | 98, _ => exact g97.2.1
  | 99, _ => exact g97.2.2.1
  | 100, _ => exact g97.2.2.2
  | 101, _ => exact g101
  | 102, _ => exact g102.1
  | 103, _ => exact g102.2.1
  | 104, _ => exact g102.2.2.1
  | 105, _ => exact g102.2.2.2.1
  | 106, _ => exact g102.2.2.2.2.1
  | 107, _ => exact g102.2.2.2.2.2.1
  | 108, _ => exact g102.2.2.2.2.2.2
  | 109, _ => exact g109.1
  | 110, _ => exact g109.2
  | 111, _ => exact g111.1
  | 112, _ => exact g111.2.1
  | 113, _ => exact g111.2.2.1
  | 114, _ => exact g111.2.2.2
  | 115, _ => exact g115
  | 116, _ => exact g116.1
  | 117, _ => exact g116.2.1
  | 118, _ => exact g116.2.2.1
  | 119, _ => exact g116.2.2.2.1
  | 120, _ => exact g116.2.2.2.2.1
  | 121, _ => exact g116.2.2.2.2.2.1
  | 122, _ => exact g116.2.2.2.2.2.2
  | 123, _ => exact g123.1
  | 124, _ => exact g123.2
  | 125, _ => exact g125.1
  | 126, _ => exact g125.2.1
  | 127, _ => exact g125.2.2.1
  | 128, _ => exact g125.2.2.2
  | 129, _ => exact g129
  | 130, _ => exact g130.1
  | 131, _ => exact g130.2.1
  | 132, _ => exact g130.2.2.1
  | 133, _ => exact g130.2.2.2.1
  | 134, _ => exact g130.2.2.2.2.1
  | 135, _ => exact g130.2.2.2.2.2.1
  | 136, _ => exact g130.2.2.2.2.2.2
  | 137, _ => exact g137.1
  | 138, _ => exact g137.2
  | 139, _ => exact g139.1
  | 140, _ => exact g139.2.1
  | 141, _ => exact g139.2.2.1
  | 142, _ => exact g139.2.2.2
  | 143, _ => exact g143
  | 144, _ => exact g144.1
  | 145, _ => exact g144.2.1
  | 146, _ => exact g144.2.2.1
  | 147, _ => exact g144.2.2.2.1
  | 148, _ => exact g144.2.2.2.2.1
  | 149, _ => exact g144.2.2.2.2.2.1
  | 150, _ => exact g144.2.2.2.2.2.2
  | 151, _ => exact g151.1
  | 152, _ => exact g151.2
  | 153, _ => exact g153.1
  | 154, _ => exact g153.2.1
  | 155, _ => exact g153.2.2.1
  | 156, _ => exact g153.2.2.2
  | 157, _ => exact g157.1
  | 158, _ => exact g157.2.1
  | 159, _ => exact g157.2.2.1
  | 160, _ => exact g157.2.2.2.1
  | 161, _ => exact g157.2.2.2.2.1
  | 162, _ => exact g157.2.2.2.2.2.1
  | 163, _ => exact g157.2.2.2.2.2.2.1
  | 164, _ => exact g157.2.2.2.2.2.2.2.1
  | 165, _ => exact g157.2.2.2.2.2.2.2.2.1
  | 166, _ => exact g157.2.2.2.2.2.2.2.2.2.1
  | 167, _ => exact g157.2.2.2.2.2.2.2.2.2.2.1
  | 168, _ => exact g157.2.2.2.2.2.2.2.2.2.2.2.1
  | 169, _ => exact g157.2.2.2.2.2.2.2.2.2.2.2.2.1
  | 170, _ => exact g157.2.2.2.2.2.2.2.2.2.2.2.2.2
  | 171, _ => exact g171.1
  | 172, _ => exact g171.2.1
  | 173, _ => exact g171.2.2
  | 174, _ => exact g174.1
  | 175, _ => exact g174.2.1
  | 176, _ => exact g174.2.2.1
  | 177, _ => exact g174.2.2.2.1
  | 178, _ => exact g174.2.2.2.2.1
  | 179, _ => exact g174.2.2.2.2.2.1
  | 180, _ => exact g174.2.2.2.2.2.2.1
  | 181, _ => exact g174.2.2.2.2.2.2.2.1
  | 182, _ => exact g174.2.2.2.2.2.2.2.2.1
  | 183, _ => exact g174.2.2.2.2.2.2.2.2.2.1
  | 184, _ => exact g174.2.2.2.2.2.2.2.2.2.2.1
  | 185, _ => exact g174.2.2.2.2.2.2.2.2.2.2.2.1
  | 186, _ => exact g174.2.2.2.2.2.2.2.2.2.2.2.2.1
  | 187, _ => exact g174.2.2.2.2.2.2.2.2.2.2.2.2.2.1
  | 188, _ => exact g174.2.2.2.2.2.2.2.2.2.2.2.2.2.2.1
  | 189, _ => exact g174.2.2.2.2.2.2.2.2.2.2.2.2.2.2.2.1
  | 190, _ => exact g174.2.2.2.2.2.2.2.2.2.2.2.2.2.2.2.2.1
  | 191, _ => exact g174.2.2.2.2.2.2.2.2.2.2.2.2.2.2.2.2.2.1
  | 192, _ => exact g174.2.2.2.2.2.2.2.2.2.2.2.2.2.2.2.2.2.2.1
  | 193, _ => exact g174.2.2.2.2.2.2.2.2.2.2.2.2.2.2.2.2.2.2.2.1
  | 194, _ => exact g174.2.2.2.2.2.2.2.2.2.2.2.2.2.2.2.2.2.2.2.2
  | 195, _ => exact g195
  | 196, _ => exact g196.1
  | 197, _ => exact g196.2
  | 198, _ => exact g198
  | 199, _ => exact g199.1
  | 200, _ => exact g199.2.1
  | 201, _ => exact g199.2.2.1
  | 202, _ => exact g199.2.2.2.1
  | 203, _ => exact g199.2.2.2.2.1
  | 204, _ => exact g199.2.2.2.2.2.1
  | 205, _ => exact g199.2.2.2.2.2.2.1
  | 206, _ => exact g199.2.2.2.2.2.2.2.1
  | 207, _ => exact g199.2.2.2.2.2.2.2.2.1
  | 208, _ => exact g199.2.2.2.2.2.2.2.2.2.1
  | 209, _ => exact g199.2.2.2.2.2.2.2.2.2.2.1
  | 210, _ => exact g199.2.2.2.2.2.2.2.2.2.2.2.1
  | 211, _ => exact g199.2.2.2.2.2.2.2.2.2.2.2.2.1
  | 212, _ => exact g199.2.2.2.2.2.2.2.2.2.2.2.2.2.1
  | 213, _ => exact g199.2.2.2.2.2.2.2.2.2.2.2.2.2.2.1
  | 214, _ => exact g199.2.2.2.2.2.2.2.2.2.2.2.2.2.2.2.1
  | 215, _ => exact g199.2.2.2.2.2.2.2.2.2.2.2.2.2.2.2.2
  | 216, _ => exact g216.1
  | 217, _ => exact g216.2
  | 218, _ => exact g218.1
  | 219, _ => exact g218.2.1
  | 220, _ => exact g218.2.2.1
  | 221, _ => exact g218.2.2.2.1
  | 222, _ => exact g218.2.2.2.2.1
  | 223, _ => exact g218.2.2.2.2.2.1
  | 224, _ => exact g218.2.2.2.2.2.2.1
  | 225, _ => exact g218.2.2.2.2.2.2.2.1
  | 226, _ => exact g218.2.2.2.2.2.2.2.2.1
  | 227, _ => exact g218.2.2.2.2.2.2.2.2.2
  | 228, _ => exact g228
  | 229, _ => exact g229
  | k + 230, h => exact absurd h (by omega)
theorem fz_H (h : cqz_ D z (EX_ cA z) H) : bc_H (gg_ l D cA b z adK) s0_ H := by
  intro k q hk
  have hlt : k < 230 := by
    have := (List.getElem?_eq_some_iff.mp hk).1
    rwa [bc_ws_len] at this
  rw [bc_ws_at hlt] at hk
  cases hk
  rw [gg_ad l D cA b z adK hlt]
  exact fz_all l D cA b z adK (fun i x hx => h.2 i x hx) k hlt

theorem gg_ap : bc_ap (gg_ l D cA b z adK) := by
  refine ⟨fun i j hi hj e => ?_, fun i hi => ?_⟩
  · rw [gg_ad l D cA b z adK hi, gg_ad l D cA b z adK hj] at e
    omega
  · rw [gg_ad l D cA b z adK hi]
    exact Nat.le_add_right z i
end FRE
end
section
/-! at the law's entry the world outside is as it must be -/
noncomputable def nar_ : List Cond := flatC (Jvm.Cond.and given_1 narrow_1)
noncomputable def nd_t (i : Nat) : Term := .string (if i < 16 then RX5 else RX11) (if i < 16 then 74 + 2 * i else 248)
noncomputable def nd_l (t : Term) (n : Nat) (bs : List Int32) : List Cond := .exactly t "java/lang/String" :: .eq (.field t "java/lang/String" "coder" "B") (.int 0) :: .arrayOf (.field t "java/lang/String" "value" "[B") .byte :: .eq (.length (.field t "java/lang/String" "value" "[B")) (.int (Int32.ofNat n)) :: (List.range n).map (fun j => .eq (.elem (.field t "java/lang/String" "value" "[B") (.int (Int32.ofNat j))) (.int (bs.getD j 0)))
noncomputable def nd_c (i p q : Nat) : Bool := decide ((nar_.drop p).take (4 + bc_tx_len.getD i 0) = nd_l (nd_t i) (bc_tx_len.getD i 0) (bc_tx_byt.getD i [])) && decide ((nar_.drop q).take i = (List.range i).map (fun j => .not (.eq (nd_t j) (nd_t i))))
theorem nd_0 : nd_c 0 322 0 = true := by decide +kernel
theorem nd_1 : nd_c 1 339 354 = true := by decide +kernel
theorem nd_2 : nd_c 2 355 369 = true := by decide +kernel
theorem nd_3 : nd_c 3 371 387 = true := by decide +kernel
theorem nd_4 : nd_c 4 390 407 = true := by decide +kernel
theorem nd_5 : nd_c 5 411 429 = true := by decide +kernel
theorem nd_6 : nd_c 6 434 451 = true := by decide +kernel
theorem nd_7 : nd_c 7 457 473 = true := by decide +kernel
theorem nd_8 : nd_c 8 480 494 = true := by decide +kernel
theorem nd_9 : nd_c 9 502 515 = true := by decide +kernel
theorem nd_10 : nd_c 10 524 538 = true := by decide +kernel
theorem nd_11 : nd_c 11 548 561 = true := by decide +kernel
theorem nd_12 : nd_c 12 572 583 = true := by decide +kernel
theorem nd_13 : nd_c 13 595 609 = true := by decide +kernel
theorem nd_14 : nd_c 14 622 634 = true := by decide +kernel
theorem nd_15 : nd_c 15 648 659 = true := by decide +kernel
theorem nd_16 : nd_c 16 799 866 = true := by decide +kernel
theorem nd_all (i : Nat) (h : i < 17) : ∃ p q : Nat, nd_c i p q = true := by
  match i, h with
  | 0, _ => exact ⟨_, _, nd_0⟩
  | 1, _ => exact ⟨_, _, nd_1⟩
  | 2, _ => exact ⟨_, _, nd_2⟩
  | 3, _ => exact ⟨_, _, nd_3⟩
  | 4, _ => exact ⟨_, _, nd_4⟩
  | 5, _ => exact ⟨_, _, nd_5⟩
  | 6, _ => exact ⟨_, _, nd_6⟩
  | 7, _ => exact ⟨_, _, nd_7⟩
  | 8, _ => exact ⟨_, _, nd_8⟩
  | 9, _ => exact ⟨_, _, nd_9⟩
  | 10, _ => exact ⟨_, _, nd_10⟩
  | 11, _ => exact ⟨_, _, nd_11⟩
  | 12, _ => exact ⟨_, _, nd_12⟩
  | 13, _ => exact ⟨_, _, nd_13⟩
  | 14, _ => exact ⟨_, _, nd_14⟩
  | 15, _ => exact ⟨_, _, nd_15⟩
  | 16, _ => exact ⟨_, _, nd_16⟩
  | k + 17, h => exact absurd h (by omega)
theorem nd_mem {l l' : List Cond} {p n : Nat} (h : (l.drop p).take n = l') {w : Cond} (hw : w ∈ l') : w ∈ l := by
  rw [← h] at hw
  exact List.mem_of_mem_drop (List.mem_of_mem_take hw)
theorem nd_len : ∀ i, i < 17 → bc_tx_len.getD i 0 < 2 ^ 31 := by decide +kernel
theorem sta_tx {args : Array Value} {s : State} (hn : ∀ w ∈ nar_, w.before args s = true) : ∃ adK adV : Nat → Nat, vk_S 17 bc_tx_len bc_tx_byt adK adV (fun q => s.heap.size ≤ q) s s.heap ∧ ∀ i : Nat, i < 17 → (nd_t i).eval args s none [] s = some (.ref (adK i)) := by
  have key : ∀ i, i < 17 → (∀ w ∈ nd_l (nd_t i) (bc_tx_len.getD i 0) (bc_tx_byt.getD i []), w.before args s = true) ∧ ∀ j, j < i → (Cond.not (.eq (nd_t j) (nd_t i))).before args s = true := by
    intro i hi
    obtain ⟨p, q, h⟩ := nd_all i hi
    unfold nd_c at h
    rw [Bool.and_eq_true, decide_eq_true_eq, decide_eq_true_eq] at h
    exact ⟨fun w hw => hn w (nd_mem h.1 hw), fun j hj => hn _ (nd_mem h.2 (List.mem_map.mpr ⟨j, List.mem_range.mpr hj, rfl⟩))⟩
  refine vk_Sof (tm := nd_t) nd_len (fun i hi => (key i hi).1 _ (by simp [nd_l])) (fun i hi => (key i hi).1 _ (by simp [nd_l])) (fun i hi => (key i hi).1 _ (by simp [nd_l])) (fun i hi => (key i hi).1 _ (by simp [nd_l])) (fun i hi j hj => (key i hi).1 _ ?_) (fun i j hi hj hne => ?_) (fun a h1 h2 => absurd h1 (Nat.not_lt.mpr h2))
  · unfold nd_l
    exact List.mem_cons_of_mem _ (List.mem_cons_of_mem _ (List.mem_cons_of_mem _ (List.mem_cons_of_mem _ (List.mem_map.mpr ⟨j, List.mem_range.mpr hj, rfl⟩))))
  · rcases Nat.lt_or_gt_of_ne hne with h | h
    · exact .inl ((key j hj).2 i h)
    · exact .inr ((key i hi).2 j h)
theorem sta_in {args : Array Value} {s : State} (hts : ∀ w ∈ lw_tbl, w.before args s = true) : ∀ (c : Nat) (q : vw_C), bc_cl[c]? = some q → (Cond.instantiable q.1 q.2.2).before args s = true := by
  intro c q h
  match c, h with
  | 0, h => cases h; exact hts _ (List.mem_of_getElem? (i := 318) (by decide +kernel))
  | 1, h => cases h; exact hts _ (List.mem_of_getElem? (i := 268) (by decide +kernel))
  | 2, h => cases h; exact hts _ (List.mem_of_getElem? (i := 141) (by decide +kernel))
  | 3, h => cases h; exact hts _ (List.mem_of_getElem? (i := 186) (by decide +kernel))
  | 4, h => cases h; exact hts _ (List.mem_of_getElem? (i := 334) (by decide +kernel))
  | 5, h => cases h; exact hts _ (List.mem_of_getElem? (i := 355) (by decide +kernel))
  | 6, h => cases h; exact hts _ (List.mem_of_getElem? (i := 135) (by decide +kernel))
  | 7, h => cases h; exact hts _ (List.mem_of_getElem? (i := 361) (by decide +kernel))
  | 8, h => cases h; exact hts _ (List.mem_of_getElem? (i := 201) (by decide +kernel))
  | 9, h => cases h; exact hts _ (List.mem_of_getElem? (i := 288) (by decide +kernel))
  | 10, h => cases h; exact hts _ (List.mem_of_getElem? (i := 127) (by decide +kernel))
  | 11, h => cases h; exact hts _ (List.mem_of_getElem? (i := 1471) (by decide +kernel))
  | k + 12, h => cases h
theorem sta_D {args : Array Value} {s : State} (hts : ∀ w ∈ lw_tbl, w.before args s = true) : ∃ D : va_G, ∀ (c : Nat) (q : vw_C), bc_cl[c]? = some q → u_Kn s q.1 q.2.1 q.2.2 (D.1 c) (D.2 c) := by
  have h0 : ∀ c : Nat, ∃ x : ClassId × (Nat → Nat), ∀ q : vw_C, bc_cl[c]? = some q → u_Kn s q.1 q.2.1 q.2.2 x.1 x.2 := by
    intro c
    cases hc : bc_cl[c]? with
    | none => exact ⟨(0, fun _ => 0), fun q h => by cases h⟩
    | some q0 =>
      obtain ⟨cC, iS, h⟩ := u_known (T := q0.2.1) (N := q0.2.2) (ws := bc_W) (fun w hw => hts w (List.mem_filter.mp hw).1) (bc_cl_ok c q0 hc).1 (sta_in hts c q0 hc)
      exact ⟨(cC, iS), fun q hq => by cases hq; exact h⟩
  obtain ⟨f, hf⟩ := Classical.axiomOfChoice h0
  exact ⟨(fun c => (f c).1, fun c => (f c).2), fun c q hq => hf c q hq⟩
theorem sta_A {args : Array Value} {s : State} {t : FieldType} (ht : ∀ C, t ≠ .object C) (h : (Cond.arrayClass t).before args s = true) : ∃ c : ClassId, ArrOfT s c t ∧ va_RA s c t := by
  obtain ⟨c, k, comp, h1, h2, h3⟩ := Cond.arrayClass_spec h
  refine ⟨c, fun n z => ⟨fun k h => (by cases h), k, h2, comp, h3⟩, ?_⟩
  cases t with
  | object C => exact absurd rfl (ht C)
  | _ => exact h1
theorem sta_K {args : Array Value} {s : State} (hts : ∀ w ∈ lw_tbl, w.before args s = true) : ∃ (D : va_G) (cA : Nat → ClassId), ck_K D cA s := by
  obtain ⟨D, hD⟩ := sta_D hts
  obtain ⟨c0, a0, b0⟩ := sta_A (by simp) (hts (.arrayClass .int) (List.mem_of_getElem? (i := 183) (by decide +kernel)))
  obtain ⟨c1, a1, b1⟩ := sta_A (by simp) (hts (.arrayClass .char) (List.mem_of_getElem? (i := 375) (by decide +kernel)))
  obtain ⟨c2, a2, b2⟩ := sta_A (by simp) (hts (.arrayClass .boolean) (List.mem_of_getElem? (i := 184) (by decide +kernel)))
  obtain ⟨c3, a3, b3⟩ := sta_A (by simp) (hts (.arrayClass .long) (List.mem_of_getElem? (i := 2007) (by decide +kernel)))
  obtain ⟨c4, a4, b4⟩ := sta_A (by simp) (hts (.arrayClass .double) (List.mem_of_getElem? (i := 2008) (by decide +kernel)))
  have hi := hts (.arrayOver (.array .int)) (List.mem_of_getElem? (i := 294) (by decide +kernel))
  have ho := hts (.arrayOver (.object "BridgeChapel$State")) (List.mem_of_getElem? (i := 274) (by decide +kernel))
  obtain ⟨comp5, c5, k5, d1, d2, d3, d4, d5⟩ := arrayOverA_spec hi
  obtain ⟨comp6, c6, k6, e1, e2, e3, e4, e5⟩ := Cond.arrayOver_spec ho
  have h50 : comp5 = c0 := by
    have : s.vm.findClass ("[" ++ FieldType.int.toString) = some c0 := b0
    exact Option.some.inj (d1.symm.trans this)
  refine ⟨D, fun i => match i with | 0 => c0 | 1 => c1 | 2 => c2 | 3 => c3 | 4 => c4 | 5 => c5 | _ => c6, ⟨hD, fun k q hk => ?_⟩, va_AO.of ho, ⟨k5, d3, (by rw [d4, h50]; rfl)⟩, fun w hw hm => va_Nw.of ?_ (hts w hw)⟩
  · match k, hk with
    | 0, hk => cases hk; exact ⟨a0, b0⟩
    | 1, hk => cases hk; exact ⟨a1, b1⟩
    | 2, hk => cases hk; exact ⟨a2, b2⟩
    | 3, hk => cases hk; exact ⟨a3, b3⟩
    | 4, hk => cases hk; exact ⟨a4, b4⟩
    | 5, hk => cases hk; exact ⟨fun n z => ⟨fun k h => (by cases h), k5, d3, comp5, d4⟩, d5⟩
    | 6, hk => cases hk; exact ⟨fun n z => ⟨fun k h => (by cases h), k6, e3, comp6, e4⟩, k6, comp6, e3, e4, e1, e5⟩
    | k + 7, hk => cases hk
  · unfold ck_M at hm
    split at hm <;> first | rfl | cases hm
theorem sta_r {args : Array Value} {s : State} {own tx : String} {k : Nat} (h : (Cond.stringRef own k tx).before args s = true) : ∃ a : Nat, vk_R own k tx a s := by
  have hcur : ∃ cur, s.vm.findClass own = some cur := by
    have h1 := h
    simp only [Cond.before, Cond.holds, Cond.value] at h1
    cases hc : s.vm.findClass own with
    | none => simp [hc] at h1
    | some cur => exact ⟨cur, rfl⟩
  obtain ⟨cur, hcur⟩ := hcur
  obtain ⟨-, -, -, a, -, -, -, -, -, ha⟩ := Cond.stringRef_spec hcur h
  exact ⟨a, vk_R.of h ha⟩
theorem sta_st {args : Array Value} {s : State} (hts : ∀ w ∈ lw_tbl, w.before args s = true) : ∀ (i : Nat) (q : String × Nat × String), bc_st[i]? = some q → (Cond.stringRef q.1 q.2.1 q.2.2).before args s = true := by
  intro i q h
  match i, h with
  | 0, h => cases h; exact hts _ (List.mem_of_getElem? (i := 754) (by decide +kernel))
  | 1, h => cases h; exact hts _ (List.mem_of_getElem? (i := 767) (by decide +kernel))
  | 2, h => cases h; exact hts _ (List.mem_of_getElem? (i := 783) (by decide +kernel))
  | 3, h => cases h; exact hts _ (List.mem_of_getElem? (i := 799) (by decide +kernel))
  | 4, h => cases h; exact hts _ (List.mem_of_getElem? (i := 815) (by decide +kernel))
  | 5, h => cases h; exact hts _ (List.mem_of_getElem? (i := 831) (by decide +kernel))
  | 6, h => cases h; exact hts _ (List.mem_of_getElem? (i := 1412) (by decide +kernel))
  | 7, h => cases h; exact hts _ (List.mem_of_getElem? (i := 1433) (by decide +kernel))
  | k + 8, h => cases h
theorem sta_ts {args : Array Value} {s : State} (hts : ∀ w ∈ lw_tbl, w.before args s = true) : ∀ (i : Nat) (q : String × Nat × String), bc_ts[i]? = some q → i < 17 ∧ nd_t i = .string q.1 q.2.1 ∧ (Cond.stringRef q.1 q.2.1 q.2.2).before args s = true := by
  intro i q h
  match i, h with
  | 0, h => cases h; exact ⟨by decide, rfl, hts _ (List.mem_of_getElem? (i := 1324) (by decide +kernel))⟩
  | 1, h => cases h; exact ⟨by decide, rfl, hts _ (List.mem_of_getElem? (i := 1325) (by decide +kernel))⟩
  | 2, h => cases h; exact ⟨by decide, rfl, hts _ (List.mem_of_getElem? (i := 1326) (by decide +kernel))⟩
  | 3, h => cases h; exact ⟨by decide, rfl, hts _ (List.mem_of_getElem? (i := 1327) (by decide +kernel))⟩
  | 4, h => cases h; exact ⟨by decide, rfl, hts _ (List.mem_of_getElem? (i := 1328) (by decide +kernel))⟩
  | 5, h => cases h; exact ⟨by decide, rfl, hts _ (List.mem_of_getElem? (i := 1329) (by decide +kernel))⟩
  | 6, h => cases h; exact ⟨by decide, rfl, hts _ (List.mem_of_getElem? (i := 1330) (by decide +kernel))⟩
  | 7, h => cases h; exact ⟨by decide, rfl, hts _ (List.mem_of_getElem? (i := 1331) (by decide +kernel))⟩
  | 8, h => cases h; exact ⟨by decide, rfl, hts _ (List.mem_of_getElem? (i := 1332) (by decide +kernel))⟩
  | 9, h => cases h; exact ⟨by decide, rfl, hts _ (List.mem_of_getElem? (i := 1333) (by decide +kernel))⟩
  | 10, h => cases h; exact ⟨by decide, rfl, hts _ (List.mem_of_getElem? (i := 1395) (by decide +kernel))⟩
  | 11, h => cases h; exact ⟨by decide, rfl, hts _ (List.mem_of_getElem? (i := 1396) (by decide +kernel))⟩
  | 12, h => cases h; exact ⟨by decide, rfl, hts _ (List.mem_of_getElem? (i := 1397) (by decide +kernel))⟩
  | 13, h => cases h; exact ⟨by decide, rfl, hts _ (List.mem_of_getElem? (i := 1398) (by decide +kernel))⟩
  | 14, h => cases h; exact ⟨by decide, rfl, hts _ (List.mem_of_getElem? (i := 1399) (by decide +kernel))⟩
  | 15, h => cases h; exact ⟨by decide, rfl, hts _ (List.mem_of_getElem? (i := 1400) (by decide +kernel))⟩
  | 16, h => cases h; exact ⟨by decide, rfl, hts _ (List.mem_of_getElem? (i := 1969) (by decide +kernel))⟩
  | k + 17, h => cases h
theorem sta_nc {args : Array Value} {s : State} (hn : ∀ w ∈ nar_, w.before args s = true) : ∀ q ∈ bc_ncl, va_Nc (bc_en q.1) (bc_en q.2) s := by
  intro q hq
  simp only [List.mem_cons, List.not_mem_nil, or_false] at hq
  rcases hq with rfl | rfl | rfl | rfl | rfl | rfl | rfl | rfl | rfl | rfl | rfl
  · exact va_Nc.of (hn (.not (.castable "java/lang/IllegalArgumentException" "java/lang/IndexOutOfBoundsException")) (List.mem_of_getElem? (i := 23) (by decide +kernel)))
  · exact va_Nc.of (hn (.not (.castable "java/lang/IllegalStateException" "java/lang/IndexOutOfBoundsException")) (List.mem_of_getElem? (i := 24) (by decide +kernel)))
  · exact va_Nc.of (hn (.not (.castable "java/lang/IllegalStateException" "java/lang/IllegalArgumentException")) (List.mem_of_getElem? (i := 42) (by decide +kernel)))
  · exact va_Nc.of (hn (.not (.castable "java/lang/IllegalStateException" "java/lang/UnsupportedOperationException")) (List.mem_of_getElem? (i := 97) (by decide +kernel)))
  · exact va_Nc.of (hn (.not (.castable "java/util/NoSuchElementException" "java/lang/IndexOutOfBoundsException")) (List.mem_of_getElem? (i := 25) (by decide +kernel)))
  · exact va_Nc.of (hn (.not (.castable "java/util/NoSuchElementException" "java/lang/IllegalArgumentException")) (List.mem_of_getElem? (i := 43) (by decide +kernel)))
  · exact va_Nc.of (hn (.not (.castable "java/lang/UnsupportedOperationException" "java/lang/IndexOutOfBoundsException")) (List.mem_of_getElem? (i := 26) (by decide +kernel)))
  · exact va_Nc.of (hn (.not (.castable "java/lang/UnsupportedOperationException" "java/lang/IllegalArgumentException")) (List.mem_of_getElem? (i := 44) (by decide +kernel)))
  · exact va_Nc.of (hn (.not (.castable "java/lang/UnsupportedOperationException" "java/lang/IllegalStateException")) (List.mem_of_getElem? (i := 62) (by decide +kernel)))
  · exact va_Nc.of (hn (.not (.castable "java/lang/UnsupportedOperationException" "java/util/NoSuchElementException")) (List.mem_of_getElem? (i := 80) (by decide +kernel)))
  · exact va_Nc.of (hn (.not (.castable "java/lang/ArithmeticException" "java/lang/IndexOutOfBoundsException")) (List.mem_of_getElem? (i := 27) (by decide +kernel)))
theorem gg_adK (l : Launch) (D : va_G) (cA : Nat → ClassId) (b z : Nat) (adK : Nat → Nat) (i : Nat) : bc_ad (gg_ l D cA b z adK) (1000 + i) = adK i := by
  show (if 1000 + i < 230 then z + (1000 + i) else if 1000 + i = 999 then b else adK (1000 + i - 1000)) = adK i
  rw [if_neg (by omega), if_neg (by omega), show 1000 + i - 1000 = i by omega]
theorem sta_E {args : Array Value} {s : State} (hts : ∀ w ∈ lw_tbl, w.before args s = true) (hn : ∀ w ∈ nar_, w.before args s = true) : ∃ (D : va_G) (cA : Nat → ClassId) (adK : Nat → Nat), ck_K D cA s ∧ ∀ (l : Launch) (b : Nat), bc_E (gg_ l D cA b s.heap.size adK) s s.heap := by
  obtain ⟨D, cA, hK⟩ := sta_K hts
  obtain ⟨adK, adV, hS, hev⟩ := sta_tx hn
  refine ⟨D, cA, adK, hK, fun l b => ?_⟩
  have hA : ∀ a : Nat, a < s.heap.size → ¬ bc_Z (gg_ l D cA b s.heap.size adK) a := fun a h1 h2 => absurd h1 (Nat.not_lt.mpr h2)
  refine ⟨hK.1, vx_Zqof (hts _ (List.mem_of_getElem? (i := 660) (by decide +kernel))) (hts _ (List.mem_of_getElem? (i := 108) (by decide +kernel))) (hn (.isRef (.static Bundle.tN "UNASSIGNED_STACK" Bundle.steD)) (List.mem_of_getElem? (i := 4) (by decide +kernel))) hA, vx_Zqof (hts _ (List.mem_of_getElem? (i := 662) (by decide +kernel))) (hts _ (List.mem_of_getElem? (i := 108) (by decide +kernel))) (hn (.isRef (.static Bundle.tN "SUPPRESSED_SENTINEL" Bundle.listD)) (List.mem_of_getElem? (i := 5) (by decide +kernel))) hA, fun i q hq => sta_r (sta_st hts i q hq), fun i q hq => ?_, fun w hw hi => va_Nw.of (bc_isN_t hi) (hts w hw), sta_nc hn, ⟨adV, ?_⟩, va_Zof (hts _ (List.mem_of_getElem? (i := 1347) (by decide +kernel))) (hts _ (List.mem_of_getElem? (i := 113) (by decide +kernel))) (va_eqt (hn (.eq (.static "java/lang/String" "COMPACT_STRINGS" "Z") (.int 1)) (List.mem_of_getElem? (i := 6) (by decide +kernel)))) hA, va_Zqof (hts _ (List.mem_of_getElem? (i := 1364) (by decide +kernel))) (hts _ (List.mem_of_getElem? (i := 124) (by decide +kernel))) (hn (.isRef (.static "jdk/internal/util/Preconditions" "SIOOBE_FORMATTER" "Ljava/util/function/BiFunction;")) (List.mem_of_getElem? (i := 7) (by decide +kernel))) hA⟩
  · obtain ⟨h1, h2, h3⟩ := sta_ts hts i q hq
    rw [gg_adK]
    have h4 := hev i h1
    rw [h2] at h4
    exact vk_R.of h3 h4
  · have e : (fun i => bc_ad (gg_ l D cA b s.heap.size adK) (1000 + i)) = adK := funext fun i => gg_adK l D cA b s.heap.size adK i
    rw [e]
    exact hS
end
section
/-! the law makes its objects, and runs -/
theorem st_aL (cA : Nat → ClassId) : vp_cell (cA 3) (1, .inr (.inl (fun j => if j = 0 then 0 else 0))) = arrV (cA 3) 1 (fun _ => defaultValue (newarray.typeOf .long)) := by
  show arrV (cA 3) 1 (fun j => Value.long (if j = 0 then 0 else 0)) = _
  congr 1
  funext j
  by_cases h : j = 0 <;> simp [h] <;> rfl
theorem st_aD (cA : Nat → ClassId) : vp_cell (cA 4) (1, .inr (.inr (.inr (.inl (fun j => if j = 0 then 0 else 0))))) = arrV (cA 4) 1 (fun _ => defaultValue (newarray.typeOf .double)) := by
  show arrV (cA 4) 1 (fun j => Value.double (if j = 0 then 0 else 0)) = _
  congr 1
  funext j
  by_cases h : j = 0 <;> simp [h] <;> rfl
theorem dL_0 : decode code 0 = .ok (.new 8, 3) := (kL_law 0 _ _ _ rfl).1
theorem dL_3 : decode code 3 = .ok (.dup, 1) := (kL_law 3 _ _ _ rfl).1
theorem dL_4 : decode code 4 = .ok (.invokespecial 161, 3) := (kL_law 4 _ _ _ rfl).1
theorem dL_7 : decode code 7 = .ok (.astore_n 1, 1) := (kL_law 7 _ _ _ rfl).1
theorem dL_8 : decode code 8 = .ok (.new 162, 3) := (kL_law 8 _ _ _ rfl).1
theorem dL_11 : decode code 11 = .ok (.dup, 1) := (kL_law 11 _ _ _ rfl).1
theorem dL_12 : decode code 12 = .ok (.invokespecial 164, 3) := (kL_law 12 _ _ _ rfl).1
theorem dL_15 : decode code 15 = .ok (.astore_n 2, 1) := (kL_law 15 _ _ _ rfl).1
theorem dL_16 : decode code 16 = .ok (.iconst 1, 1) := (kL_law 16 _ _ _ rfl).1
theorem dL_17 : decode code 17 = .ok (.newarray .long, 2) := (kL_law 17 _ _ _ rfl).1
theorem dL_19 : decode code 19 = .ok (.astore_n 3, 1) := (kL_law 19 _ _ _ rfl).1
theorem dL_20 : decode code 20 = .ok (.iconst 1, 1) := (kL_law 20 _ _ _ rfl).1
theorem dL_21 : decode code 21 = .ok (.newarray .double, 2) := (kL_law 21 _ _ _ rfl).1
theorem dL_23 : decode code 23 = .ok (.astore 4, 2) := (kL_law 23 _ _ _ rfl).1
theorem dL_25 : decode code 25 = .ok (.iconst 0, 1) := (kL_law 25 _ _ _ rfl).1
theorem dL_26 : decode code 26 = .ok (.istore 5, 2) := (kL_law 26 _ _ _ rfl).1
theorem whole_start {p : Program} {e : Env} {s : State} {m : MethodId} {below : List Frame} {meth : Method} {c : Code} (l : Launch) (hflags : l.flags = flags0) {b L : Nat} {xs : Nat → Int32} (hL : L ≤ 2048) (C0 : lw_At p s m meth c b L xs) : W p l e room_1 s m #[Value.ref b] below meth c s.heap [] 0 0 (lw_Z below #[Value.ref b] s) (entryFrame m ([Value.ref b] : List Value).toArray 9) := by
  obtain ⟨hx, hb, hret, hml, hown, hts0, hX, hbl, hlocks, hgv⟩ := C0
  have hn : ∀ w ∈ nar_, w.before #[Value.ref b] s = true := flat_of_before _ hgv
  obtain ⟨D, cA, adK, hK, hE⟩ := sta_E hts0 hn
  have hts : ∀ w ∈ bc_W, w.before #[Value.ref b] s = true := fun w hw => hts0 w (List.mem_filter.mp hw).1
  have hS : va_S (fun a => s.heap.size ≤ a) s.heap s.heap [] := va_S.rf
  have hq : cqz_ D s.heap.size [] s.heap := ⟨rfl, fun i x h => by cases h⟩
  have hl := lv_entry ([.ref b]) (n := 9) (Nat.le_of_ble_eq_true rfl)
  rw [lg_entry_eq]
  generalize (lg_sl ([.ref b]) ++ List.replicate (9 - (lg_sl ([.ref b])).length) Slot.unset).toArray = ls at hl ⊢
  have hl : lv_has ls 9 [(0, .ref b)] := hl
  generalize hzz : s.heap.size = z at hq hS hE
  refine cr_new (ci := 10) (fs := [.null, .null, .null, .null, .null, .null, .null, .null, .null, .int (Int32.ofInt 0), .int (Int32.ofInt 0), .int (Int32.ofInt 0)]) (C := RX10) (T := TX10) (N := 12) (k9 := 0) rfl hx hb hts (bc_cl_ok 10 _ rfl).1 tyX10 tyX10_ok hown (hts (.classLink R_law 8 RX10) (bc_wat_ok (pos := 126) (by decide +kernel))) (hts (.instantiable RX10 12) (bc_wat_ok (pos := 127) (by decide +kernel))) (hts (.initialized RX10) (bc_wat_ok (pos := 96) (by decide +kernel))) hK hq hS rfl (fun j hj => by rcases (show j = 0 ∨ j = 1 ∨ j = 2 ∨ j = 3 ∨ j = 4 ∨ j = 5 ∨ j = 6 ∨ j = 7 ∨ j = 8 ∨ j = 9 ∨ j = 10 ∨ j = 11 by omega) with rfl | rfl | rfl | rfl | rfl | rfl | rfl | rfl | rfl | rfl | rfl | rfl <;> rfl) (Nat.le_of_ble_eq_true rfl) (Nat.le_of_ble_eq_true rfl) dL_0 (fun H hq hS => ?_)
  refine lv_dup hx hb dL_3 rfl ?_
  refine cr_callI (Y := mX10_init) (rm := { frames := 10, cells := 217, slots := 2152, locals := 200 }) (es := []) (k9 := 0) rfl hx hb hml hown hts (ctX10 l D cA) (bc_mem_W (bc_tk1 (List.mem_of_getElem? (i := 35) rfl)) rfl) (bc_wat_ok (pos := 128) (by decide +kernel)) (bc_wat_ok (pos := 96) (by decide +kernel)) (bc_wat_ok (pos := 129) (by decide +kernel)) rfl (by decide +kernel) rfl rfl ⟨Nat.le_of_ble_eq_true rfl, Nat.le_of_ble_eq_true rfl⟩ hK hq hS hl.1 (Nat.le_of_ble_eq_true rfl) dL_4 ⟨Nat.le_of_ble_eq_true rfl, Nat.le_of_ble_eq_true rfl⟩ (fun H locs hq hS => ?_)
  have hq : cqz_ D z (E10_ cA (z + 0)) H := hq
  refine lv_astore_n (lv' := [(1, .ref (z + 0)), (0, .ref b)]) hx hb dL_7 rfl hl (by decide) rfl (fun ls hl => ?_)
  refine cr_new (ci := 11) (fs := [.null, .null, .null, .null, .int (Int32.ofInt 0), .int (Int32.ofInt 0), .int (Int32.ofInt 0), .int (Int32.ofInt 0), .null, .null, .null, .int (Int32.ofInt 0), .null, .int (Int32.ofInt 0), .int (Int32.ofInt 0), .int (Int32.ofInt 0), .int (Int32.ofInt 0), .int (Int32.ofInt 0), .int (Int32.ofInt 0), .null]) (C := RX11) (T := TX11) (N := 20) (k9 := 218) (E10_len cA _) hx hb hts (bc_cl_ok 11 _ rfl).1 tyX11 tyX11_ok hown (hts (.classLink R_law 162 RX11) (bc_wat_ok (pos := 1470) (by decide +kernel))) (hts (.instantiable RX11 20) (bc_wat_ok (pos := 1471) (by decide +kernel))) (hts (.initialized RX11) (bc_wat_ok (pos := 107) (by decide +kernel))) hK hq hS rfl (fun j hj => by rcases (show j = 0 ∨ j = 1 ∨ j = 2 ∨ j = 3 ∨ j = 4 ∨ j = 5 ∨ j = 6 ∨ j = 7 ∨ j = 8 ∨ j = 9 ∨ j = 10 ∨ j = 11 ∨ j = 12 ∨ j = 13 ∨ j = 14 ∨ j = 15 ∨ j = 16 ∨ j = 17 ∨ j = 18 ∨ j = 19 by omega) with rfl | rfl | rfl | rfl | rfl | rfl | rfl | rfl | rfl | rfl | rfl | rfl | rfl | rfl | rfl | rfl | rfl | rfl | rfl | rfl <;> rfl) (Nat.le_of_ble_eq_true rfl) (Nat.le_of_ble_eq_true rfl) dL_8 (fun H hq hS => ?_)
  refine lv_dup hx hb dL_11 rfl ?_
  refine cr_callI (Y := mX11_init) (rm := { frames := 2, cells := 9, slots := 1753, locals := 20 }) (es := E10_ cA (z + 0)) (k9 := 218) (E10_len cA _) hx hb hml hown hts (ctX11 l D cA) (bc_mem_W (bc_tk6 (List.mem_of_getElem? (i := 179) rfl)) rfl) (bc_wat_ok (pos := 1472) (by decide +kernel)) (bc_wat_ok (pos := 107) (by decide +kernel)) (bc_wat_ok (pos := 1473) (by decide +kernel)) rfl (by decide +kernel) rfl rfl ⟨Nat.le_of_ble_eq_true rfl, Nat.le_of_ble_eq_true rfl⟩ hK hq hS hl.1 (Nat.le_of_ble_eq_true rfl) dL_12 ⟨Nat.le_of_ble_eq_true rfl, Nat.le_of_ble_eq_true rfl⟩ (fun H locs hq hS => ?_)
  refine lv_astore_n (lv' := [(2, .ref (z + 218)), (1, .ref (z + 0)), (0, .ref b)]) hx hb dL_15 rfl hl (by decide) rfl (fun ls hl => ?_)
  refine lv_iconst (v := Int32.ofInt 1) hx hb dL_16 (by decide) ?_
  refine cr_newa (atype := .long) (cI := cA 3) (n := Int32.ofInt 1) (N' := 1) (a0 := (1, .inr (.inl (fun j => if j = 0 then 0 else 0)))) (k9 := 228) (by simp [E10_len, E11_len]) hx hb (hts (.arrayClass .long) (bc_wat_ok (pos := 2007) (by decide +kernel))) (hK.1.2 3 _ rfl).2 hq hS (st_aL cA) (by decide) (by decide) (Nat.le_of_ble_eq_true rfl) (Nat.le_of_ble_eq_true rfl) (Nat.le_of_ble_eq_true rfl) dL_17 (fun H hq hS => ?_)
  refine lv_astore_n (lv' := [(3, .ref (z + 228)), (2, .ref (z + 218)), (1, .ref (z + 0)), (0, .ref b)]) hx hb dL_19 rfl hl (by decide) rfl (fun ls hl => ?_)
  refine lv_iconst (v := Int32.ofInt 1) hx hb dL_20 (by decide) ?_
  refine cr_newa (atype := .double) (cI := cA 4) (n := Int32.ofInt 1) (N' := 1) (a0 := (1, .inr (.inr (.inr (.inl (fun j => if j = 0 then 0 else 0)))))) (k9 := 229) (by simp [E10_len, E11_len]) hx hb (hts (.arrayClass .double) (bc_wat_ok (pos := 2008) (by decide +kernel))) (hK.1.2 4 _ rfl).2 hq hS (st_aD cA) (by decide) (by decide) (Nat.le_of_ble_eq_true rfl) (Nat.le_of_ble_eq_true rfl) (Nat.le_of_ble_eq_true rfl) dL_21 (fun H hq hS => ?_)
  refine lv_astore (lv' := [(4, .ref (z + 229)), (3, .ref (z + 228)), (2, .ref (z + 218)), (1, .ref (z + 0)), (0, .ref b)]) hx hb dL_23 hl (by decide) rfl (fun ls hl => ?_)
  refine lv_iconst (v := Int32.ofInt 0) hx hb dL_25 (by decide) ?_
  refine lv_istore (lv' := [(5, .int (Int32.ofInt 0)), (4, .ref (z + 229)), (3, .ref (z + 228)), (2, .ref (z + 218)), (1, .ref (z + 0)), (0, .ref b)]) hx hb dL_26 hl (by decide) rfl (fun ls hl => ?_)
  have hq : cqz_ D z (EX_ cA z) H := hq
  subst hzz
  have hH := fz_H l D cA b s.heap.size adK hq
  have hF : bc_Fx (gg_ l D cA b s.heap.size adK) mL_law 20 p room_1 s m #[Value.ref b] meth c 230 3939 := ⟨hx, hb, hml, hts, hown, hlocks, gg_ap l D cA b s.heap.size adK, (by show l.stackTraces = false; unfold Launch.stackTraces; rw [hflags]; rfl), hE l b, Nat.le_refl _, kL_law, Nat.le_of_ble_eq_true rfl, Nat.le_of_ble_eq_true rfl, Nat.le_of_ble_eq_true rfl, Nat.le_of_ble_eq_true rfl, hret⟩
  have hB := lw_loop (e := e) (below := below) hF rfl rfl hX hbl hL 513 0 230 3939 s0_ v0_ (by decide) (by decide) (by decide) s0_jn
  exact hB H _ ls (Nat.zero_le _) hH hS (lv_sub hl [5, 4, 3, 2, 1, 0] rfl)
end
