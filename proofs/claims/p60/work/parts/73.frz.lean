/-- what is fixed, when the law has its own heap from z on -/
def gg_ (l : Launch) (D : va_G) (cA : Nat → ClassId) (b z : Nat) (adK : Nat → Nat) : bc_C := (l, D, cA, fun k => if k < 218 then z + k else if k = 999 then b else adK (k - 1000), (fun q => z ≤ q), fun _ => True)
abbrev EX_ (cA : Nat → ClassId) (z : Nat) : List va_E := E10_ cA (z + 0)
section FRE
variable (l : Launch) (D : va_G) (cA : Nat → ClassId) (b z : Nat) (adK : Nat → Nat)
theorem gg_ad {k : Nat} (h : k < 218) : bc_ad (gg_ l D cA b z adK) k = z + k := if_pos h
/-- the cells es lie from q on -/
def hq_ (D : va_G) (q : Nat) (es : List va_E) (H : Heap) : Prop := ∀ (i : Nat) (x : va_E), es[i]? = some x → va_at D bc_cl (q + i, x) H
theorem hq_cons {D : va_G} {q : Nat} {x : va_E} {es : List va_E} {H : Heap} (h : hq_ D q (x :: es) H) : va_at D bc_cl (q, x) H ∧ hq_ D (q + 1) es H := by
  refine ⟨h 0 x rfl, fun i y hy => ?_⟩
  have := h (i + 1) y (by rw [List.getElem?_cons_succ]; exact hy)
  rwa [show q + (i + 1) = q + 1 + i by omega] at this
theorem hq_app {D : va_G} {q : Nat} {es w : List va_E} {H : Heap} (h : hq_ D q (es ++ w) H) {n : Nat} (hl : es.length = n) : hq_ D q es H ∧ hq_ D (q + n) w H := by
  refine ⟨fun i y hy => h i y ?_, fun i y hy => ?_⟩
  · rw [List.getElem?_append_left (List.getElem?_eq_some_iff.mp hy).1]; exact hy
  · have := h (n + i) y (by rw [List.getElem?_append_right (by omega), hl, show n + i - n = i by omega]; exact hy)
    rwa [show q + (n + i) = q + n + i by omega] at this
theorem hq_nil {D : va_G} {q : Nat} {w : List va_E} {H : Heap} (h : hq_ D q ([] ++ w) H) : hq_ D q w H := h
variable {H : Heap}
theorem E2_fl (q : Nat) : E2_ cA q = [.inr (2, [.int (Int32.ofInt 0), .ref (q + 1), .ref (q + 2), .ref (q + 3), .ref (q + 4), .ref (q + 5), .ref (q + 6)]), .inl (cA 0, 16, .inl (fun _ => Int32.ofInt 0)), .inl (cA 0, 16, .inl (fun _ => Int32.ofInt 0)), .inl (cA 0, 16, .inl (fun _ => Int32.ofInt 0)), .inl (cA 0, 16, .inl (fun _ => Int32.ofInt 0)), .inl (cA 0, 16, .inl (fun _ => Int32.ofInt 0)), .inl (cA 2, 16, .inl (fun _ => Int32.ofInt 0))] := by simp [E2_, List.replicate]
theorem E3_fl (q : Nat) : E3_ cA q = [.inr (3, [.int (Int32.ofInt 99), .ref (q + 1)]), .inl (cA 0, 4, .inl (fun _ => Int32.ofInt 0))] := by simp [E3_, List.replicate]
theorem E8_fl (q : Nat) : E8_ cA q = [.inr (8, [.int (Int32.ofInt 0), .int (Int32.ofInt 30), .int (Int32.ofInt 5), .int (Int32.ofInt 0), .int (Int32.ofInt 0), .int (Int32.ofInt 0), .int (Int32.ofInt 0), .int (Int32.ofInt 0), .int (Int32.ofInt 0), .int (Int32.ofInt 0), .ref (q + 1), .ref (q + 2), .ref (q + 3)]), .inl (cA 0, 8, .inl (fun _ => Int32.ofInt 0)), .inl (cA 0, 8, .inl (fun _ => Int32.ofInt 0)), .inl (cA 0, 8, .inl (fun _ => Int32.ofInt 0))] := by simp [E8_, List.replicate]
theorem E7_fl (q : Nat) : E7_ cA q = [.inr (7, [.ref (q + 1), .int (Int32.ofInt 0)]), .inl (cA 1, 60, .inl (fun _ => Int32.ofInt 0))] := by simp [E7_, List.replicate]
theorem E0_fl (q : Nat) : E0_ cA q = [.inr (0, [.ref (q + 1), .ref (q + 2), .int (Int32.ofInt 0)]), .inl (cA 0, 8, .inl (fun _ => Int32.ofInt 0)), .inl (cA 0, 8, .inl (fun _ => Int32.ofInt 0))] := by simp [E0_, List.replicate]
theorem E9_fl (q : Nat) : E9_ cA q = [.inr (9, [.ref (q + 1), .ref (q + 10), .ref (q + 11), .ref (q + 12), .ref (q + 13), .int (Int32.ofInt 0)]), cg_o (cA 5) 8 (q + 1), cg_r (cA 0) 8, cg_r (cA 0) 8, cg_r (cA 0) 8, cg_r (cA 0) 8, cg_r (cA 0) 8, cg_r (cA 0) 8, cg_r (cA 0) 8, cg_r (cA 0) 8, .inl (cA 0, 8, .inl (fun _ => Int32.ofInt 0)), .inl (cA 2, 8, .inl (fun _ => Int32.ofInt 0)), .inl (cA 0, 8, .inl (fun _ => Int32.ofInt 0)), .inl (cA 0, 8, .inl (fun _ => Int32.ofInt 0))] := by simp [E9_, List.replicate]
theorem E4_fl (q : Nat) : E4_ cA q = [.inr (4, [.ref (q + 1), .ref (q + 10), .ref (q + 11), .ref (q + 12)]), cg_o (cA 5) 8 (q + 1), cg_r (cA 0) 8, cg_r (cA 0) 8, cg_r (cA 0) 8, cg_r (cA 0) 8, cg_r (cA 0) 8, cg_r (cA 0) 8, cg_r (cA 0) 8, cg_r (cA 0) 8, .inl (cA 0, 8, .inl (fun _ => Int32.ofInt 0)), .inl (cA 2, 8, .inl (fun _ => Int32.ofInt 0)), cg_o (cA 5) 8 (q + 12), cg_r (cA 0) 8, cg_r (cA 0) 8, cg_r (cA 0) 8, cg_r (cA 0) 8, cg_r (cA 0) 8, cg_r (cA 0) 8, cg_r (cA 0) 8, cg_r (cA 0) 8] := by simp [E4_, List.replicate]
theorem fs1 (h : va_at D bc_cl (z + 1, .inr (6, [.ref (z + 1 + 1), .ref (z + 1 + 8), .ref (z + 1 + 10)])) H) : va_at D bc_cl (z + 1, bc_e (gg_ l D cA b z adK) s0_ 1) H := h
theorem fs2 (h : hq_ D (z + 2) (E2_ cA (z + 2)) H) : va_at D bc_cl (z + 2, bc_e (gg_ l D cA b z adK) s0_ 2) H ∧ va_at D bc_cl (z + 3, bc_e (gg_ l D cA b z adK) s0_ 3) H ∧ va_at D bc_cl (z + 4, bc_e (gg_ l D cA b z adK) s0_ 4) H ∧ va_at D bc_cl (z + 5, bc_e (gg_ l D cA b z adK) s0_ 5) H ∧ va_at D bc_cl (z + 6, bc_e (gg_ l D cA b z adK) s0_ 6) H ∧ va_at D bc_cl (z + 7, bc_e (gg_ l D cA b z adK) s0_ 7) H ∧ va_at D bc_cl (z + 8, bc_e (gg_ l D cA b z adK) s0_ 8) H := by
  rw [E2_fl] at h
  refine ⟨?_, ?_, ?_, ?_, ?_, ?_, ?_⟩
  · have := h 0 _ rfl
    exact this
  · have := h 1 _ rfl
    exact this
  · have := h 2 _ rfl
    exact this
  · have := h 3 _ rfl
    exact this
  · have := h 4 _ rfl
    exact this
  · have := h 5 _ rfl
    exact this
  · have := h 6 _ rfl
    exact this
theorem fs9 (h : hq_ D (z + 9) (E3_ cA (z + 9)) H) : va_at D bc_cl (z + 9, bc_e (gg_ l D cA b z adK) s0_ 9) H ∧ va_at D bc_cl (z + 10, bc_e (gg_ l D cA b z adK) s0_ 10) H := by
  rw [E3_fl] at h
  refine ⟨?_, ?_⟩
  · have := h 0 _ rfl
    exact this
  · have := h 1 _ rfl
    exact this
theorem fs11 (h : hq_ D (z + 11) (E8_ cA (z + 11)) H) : va_at D bc_cl (z + 11, bc_e (gg_ l D cA b z adK) s0_ 11) H ∧ va_at D bc_cl (z + 12, bc_e (gg_ l D cA b z adK) s0_ 12) H ∧ va_at D bc_cl (z + 13, bc_e (gg_ l D cA b z adK) s0_ 13) H ∧ va_at D bc_cl (z + 14, bc_e (gg_ l D cA b z adK) s0_ 14) H := by
  rw [E8_fl] at h
  refine ⟨?_, ?_, ?_, ?_⟩
  · have := h 0 _ rfl
    exact this
  · have := h 1 _ rfl
    exact this
  · have := h 2 _ rfl
    exact this
  · have := h 3 _ rfl
    exact this
theorem fs15 (h : va_at D bc_cl (z + 15, .inr (6, [.ref (z + 15 + 1), .ref (z + 15 + 8), .ref (z + 15 + 10)])) H) : va_at D bc_cl (z + 15, bc_e (gg_ l D cA b z adK) s0_ 15) H := h
theorem fs16 (h : hq_ D (z + 16) (E2_ cA (z + 16)) H) : va_at D bc_cl (z + 16, bc_e (gg_ l D cA b z adK) s0_ 16) H ∧ va_at D bc_cl (z + 17, bc_e (gg_ l D cA b z adK) s0_ 17) H ∧ va_at D bc_cl (z + 18, bc_e (gg_ l D cA b z adK) s0_ 18) H ∧ va_at D bc_cl (z + 19, bc_e (gg_ l D cA b z adK) s0_ 19) H ∧ va_at D bc_cl (z + 20, bc_e (gg_ l D cA b z adK) s0_ 20) H ∧ va_at D bc_cl (z + 21, bc_e (gg_ l D cA b z adK) s0_ 21) H ∧ va_at D bc_cl (z + 22, bc_e (gg_ l D cA b z adK) s0_ 22) H := by
  rw [E2_fl] at h
  refine ⟨?_, ?_, ?_, ?_, ?_, ?_, ?_⟩
  · have := h 0 _ rfl
    exact this
  · have := h 1 _ rfl
    exact this
  · have := h 2 _ rfl
    exact this
  · have := h 3 _ rfl
    exact this
  · have := h 4 _ rfl
    exact this
  · have := h 5 _ rfl
    exact this
  · have := h 6 _ rfl
    exact this
theorem fs23 (h : hq_ D (z + 23) (E3_ cA (z + 23)) H) : va_at D bc_cl (z + 23, bc_e (gg_ l D cA b z adK) s0_ 23) H ∧ va_at D bc_cl (z + 24, bc_e (gg_ l D cA b z adK) s0_ 24) H := by
  rw [E3_fl] at h
  refine ⟨?_, ?_⟩
  · have := h 0 _ rfl
    exact this
  · have := h 1 _ rfl
    exact this
theorem fs25 (h : hq_ D (z + 25) (E8_ cA (z + 25)) H) : va_at D bc_cl (z + 25, bc_e (gg_ l D cA b z adK) s0_ 25) H ∧ va_at D bc_cl (z + 26, bc_e (gg_ l D cA b z adK) s0_ 26) H ∧ va_at D bc_cl (z + 27, bc_e (gg_ l D cA b z adK) s0_ 27) H ∧ va_at D bc_cl (z + 28, bc_e (gg_ l D cA b z adK) s0_ 28) H := by
  rw [E8_fl] at h
  refine ⟨?_, ?_, ?_, ?_⟩
  · have := h 0 _ rfl
    exact this
  · have := h 1 _ rfl
    exact this
  · have := h 2 _ rfl
    exact this
  · have := h 3 _ rfl
    exact this
theorem fs29 (h : va_at D bc_cl (z + 29, .inr (6, [.ref (z + 29 + 1), .ref (z + 29 + 8), .ref (z + 29 + 10)])) H) : va_at D bc_cl (z + 29, bc_e (gg_ l D cA b z adK) s0_ 29) H := h
theorem fs30 (h : hq_ D (z + 30) (E2_ cA (z + 30)) H) : va_at D bc_cl (z + 30, bc_e (gg_ l D cA b z adK) s0_ 30) H ∧ va_at D bc_cl (z + 31, bc_e (gg_ l D cA b z adK) s0_ 31) H ∧ va_at D bc_cl (z + 32, bc_e (gg_ l D cA b z adK) s0_ 32) H ∧ va_at D bc_cl (z + 33, bc_e (gg_ l D cA b z adK) s0_ 33) H ∧ va_at D bc_cl (z + 34, bc_e (gg_ l D cA b z adK) s0_ 34) H ∧ va_at D bc_cl (z + 35, bc_e (gg_ l D cA b z adK) s0_ 35) H ∧ va_at D bc_cl (z + 36, bc_e (gg_ l D cA b z adK) s0_ 36) H := by
  rw [E2_fl] at h
  refine ⟨?_, ?_, ?_, ?_, ?_, ?_, ?_⟩
  · have := h 0 _ rfl
    exact this
  · have := h 1 _ rfl
    exact this
  · have := h 2 _ rfl
    exact this
  · have := h 3 _ rfl
    exact this
  · have := h 4 _ rfl
    exact this
  · have := h 5 _ rfl
    exact this
  · have := h 6 _ rfl
    exact this
theorem fs37 (h : hq_ D (z + 37) (E3_ cA (z + 37)) H) : va_at D bc_cl (z + 37, bc_e (gg_ l D cA b z adK) s0_ 37) H ∧ va_at D bc_cl (z + 38, bc_e (gg_ l D cA b z adK) s0_ 38) H := by
  rw [E3_fl] at h
  refine ⟨?_, ?_⟩
  · have := h 0 _ rfl
    exact this
  · have := h 1 _ rfl
    exact this
theorem fs39 (h : hq_ D (z + 39) (E8_ cA (z + 39)) H) : va_at D bc_cl (z + 39, bc_e (gg_ l D cA b z adK) s0_ 39) H ∧ va_at D bc_cl (z + 40, bc_e (gg_ l D cA b z adK) s0_ 40) H ∧ va_at D bc_cl (z + 41, bc_e (gg_ l D cA b z adK) s0_ 41) H ∧ va_at D bc_cl (z + 42, bc_e (gg_ l D cA b z adK) s0_ 42) H := by
  rw [E8_fl] at h
  refine ⟨?_, ?_, ?_, ?_⟩
  · have := h 0 _ rfl
    exact this
  · have := h 1 _ rfl
    exact this
  · have := h 2 _ rfl
    exact this
  · have := h 3 _ rfl
    exact this
theorem fs45 (h : va_at D bc_cl (z + 45, .inr (6, [.ref (z + 45 + 1), .ref (z + 45 + 8), .ref (z + 45 + 10)])) H) : va_at D bc_cl (z + 45, bc_e (gg_ l D cA b z adK) s0_ 45) H := h
theorem fs46 (h : hq_ D (z + 46) (E2_ cA (z + 46)) H) : va_at D bc_cl (z + 46, bc_e (gg_ l D cA b z adK) s0_ 46) H ∧ va_at D bc_cl (z + 47, bc_e (gg_ l D cA b z adK) s0_ 47) H ∧ va_at D bc_cl (z + 48, bc_e (gg_ l D cA b z adK) s0_ 48) H ∧ va_at D bc_cl (z + 49, bc_e (gg_ l D cA b z adK) s0_ 49) H ∧ va_at D bc_cl (z + 50, bc_e (gg_ l D cA b z adK) s0_ 50) H ∧ va_at D bc_cl (z + 51, bc_e (gg_ l D cA b z adK) s0_ 51) H ∧ va_at D bc_cl (z + 52, bc_e (gg_ l D cA b z adK) s0_ 52) H := by
  rw [E2_fl] at h
  refine ⟨?_, ?_, ?_, ?_, ?_, ?_, ?_⟩
  · have := h 0 _ rfl
    exact this
  · have := h 1 _ rfl
    exact this
  · have := h 2 _ rfl
    exact this
  · have := h 3 _ rfl
    exact this
  · have := h 4 _ rfl
    exact this
  · have := h 5 _ rfl
    exact this
  · have := h 6 _ rfl
    exact this
theorem fs53 (h : hq_ D (z + 53) (E3_ cA (z + 53)) H) : va_at D bc_cl (z + 53, bc_e (gg_ l D cA b z adK) s0_ 53) H ∧ va_at D bc_cl (z + 54, bc_e (gg_ l D cA b z adK) s0_ 54) H := by
  rw [E3_fl] at h
  refine ⟨?_, ?_⟩
  · have := h 0 _ rfl
    exact this
  · have := h 1 _ rfl
    exact this
theorem fs55 (h : hq_ D (z + 55) (E8_ cA (z + 55)) H) : va_at D bc_cl (z + 55, bc_e (gg_ l D cA b z adK) s0_ 55) H ∧ va_at D bc_cl (z + 56, bc_e (gg_ l D cA b z adK) s0_ 56) H ∧ va_at D bc_cl (z + 57, bc_e (gg_ l D cA b z adK) s0_ 57) H ∧ va_at D bc_cl (z + 58, bc_e (gg_ l D cA b z adK) s0_ 58) H := by
  rw [E8_fl] at h
  refine ⟨?_, ?_, ?_, ?_⟩
  · have := h 0 _ rfl
    exact this
  · have := h 1 _ rfl
    exact this
  · have := h 2 _ rfl
    exact this
  · have := h 3 _ rfl
    exact this
theorem fs59 (h : va_at D bc_cl (z + 59, .inr (6, [.ref (z + 59 + 1), .ref (z + 59 + 8), .ref (z + 59 + 10)])) H) : va_at D bc_cl (z + 59, bc_e (gg_ l D cA b z adK) s0_ 59) H := h
theorem fs60 (h : hq_ D (z + 60) (E2_ cA (z + 60)) H) : va_at D bc_cl (z + 60, bc_e (gg_ l D cA b z adK) s0_ 60) H ∧ va_at D bc_cl (z + 61, bc_e (gg_ l D cA b z adK) s0_ 61) H ∧ va_at D bc_cl (z + 62, bc_e (gg_ l D cA b z adK) s0_ 62) H ∧ va_at D bc_cl (z + 63, bc_e (gg_ l D cA b z adK) s0_ 63) H ∧ va_at D bc_cl (z + 64, bc_e (gg_ l D cA b z adK) s0_ 64) H ∧ va_at D bc_cl (z + 65, bc_e (gg_ l D cA b z adK) s0_ 65) H ∧ va_at D bc_cl (z + 66, bc_e (gg_ l D cA b z adK) s0_ 66) H := by
  rw [E2_fl] at h
  refine ⟨?_, ?_, ?_, ?_, ?_, ?_, ?_⟩
  · have := h 0 _ rfl
    exact this
  · have := h 1 _ rfl
    exact this
  · have := h 2 _ rfl
    exact this
  · have := h 3 _ rfl
    exact this
  · have := h 4 _ rfl
    exact this
  · have := h 5 _ rfl
    exact this
  · have := h 6 _ rfl
    exact this
theorem fs67 (h : hq_ D (z + 67) (E3_ cA (z + 67)) H) : va_at D bc_cl (z + 67, bc_e (gg_ l D cA b z adK) s0_ 67) H ∧ va_at D bc_cl (z + 68, bc_e (gg_ l D cA b z adK) s0_ 68) H := by
  rw [E3_fl] at h
  refine ⟨?_, ?_⟩
  · have := h 0 _ rfl
    exact this
  · have := h 1 _ rfl
    exact this
theorem fs69 (h : hq_ D (z + 69) (E8_ cA (z + 69)) H) : va_at D bc_cl (z + 69, bc_e (gg_ l D cA b z adK) s0_ 69) H ∧ va_at D bc_cl (z + 70, bc_e (gg_ l D cA b z adK) s0_ 70) H ∧ va_at D bc_cl (z + 71, bc_e (gg_ l D cA b z adK) s0_ 71) H ∧ va_at D bc_cl (z + 72, bc_e (gg_ l D cA b z adK) s0_ 72) H := by
  rw [E8_fl] at h
  refine ⟨?_, ?_, ?_, ?_⟩
  · have := h 0 _ rfl
    exact this
  · have := h 1 _ rfl
    exact this
  · have := h 2 _ rfl
    exact this
  · have := h 3 _ rfl
    exact this
theorem fs73 (h : va_at D bc_cl (z + 73, .inr (6, [.ref (z + 73 + 1), .ref (z + 73 + 8), .ref (z + 73 + 10)])) H) : va_at D bc_cl (z + 73, bc_e (gg_ l D cA b z adK) s0_ 73) H := h
theorem fs74 (h : hq_ D (z + 74) (E2_ cA (z + 74)) H) : va_at D bc_cl (z + 74, bc_e (gg_ l D cA b z adK) s0_ 74) H ∧ va_at D bc_cl (z + 75, bc_e (gg_ l D cA b z adK) s0_ 75) H ∧ va_at D bc_cl (z + 76, bc_e (gg_ l D cA b z adK) s0_ 76) H ∧ va_at D bc_cl (z + 77, bc_e (gg_ l D cA b z adK) s0_ 77) H ∧ va_at D bc_cl (z + 78, bc_e (gg_ l D cA b z adK) s0_ 78) H ∧ va_at D bc_cl (z + 79, bc_e (gg_ l D cA b z adK) s0_ 79) H ∧ va_at D bc_cl (z + 80, bc_e (gg_ l D cA b z adK) s0_ 80) H := by
  rw [E2_fl] at h
  refine ⟨?_, ?_, ?_, ?_, ?_, ?_, ?_⟩
  · have := h 0 _ rfl
    exact this
  · have := h 1 _ rfl
    exact this
  · have := h 2 _ rfl
    exact this
  · have := h 3 _ rfl
    exact this
  · have := h 4 _ rfl
    exact this
  · have := h 5 _ rfl
    exact this
  · have := h 6 _ rfl
    exact this
theorem fs81 (h : hq_ D (z + 81) (E3_ cA (z + 81)) H) : va_at D bc_cl (z + 81, bc_e (gg_ l D cA b z adK) s0_ 81) H ∧ va_at D bc_cl (z + 82, bc_e (gg_ l D cA b z adK) s0_ 82) H := by
  rw [E3_fl] at h
  refine ⟨?_, ?_⟩
  · have := h 0 _ rfl
    exact this
  · have := h 1 _ rfl
    exact this
theorem fs83 (h : hq_ D (z + 83) (E8_ cA (z + 83)) H) : va_at D bc_cl (z + 83, bc_e (gg_ l D cA b z adK) s0_ 83) H ∧ va_at D bc_cl (z + 84, bc_e (gg_ l D cA b z adK) s0_ 84) H ∧ va_at D bc_cl (z + 85, bc_e (gg_ l D cA b z adK) s0_ 85) H ∧ va_at D bc_cl (z + 86, bc_e (gg_ l D cA b z adK) s0_ 86) H := by
  rw [E8_fl] at h
  refine ⟨?_, ?_, ?_, ?_⟩
  · have := h 0 _ rfl
    exact this
  · have := h 1 _ rfl
    exact this
  · have := h 2 _ rfl
    exact this
  · have := h 3 _ rfl
    exact this
theorem fs87 (h : va_at D bc_cl (z + 87, .inr (6, [.ref (z + 87 + 1), .ref (z + 87 + 8), .ref (z + 87 + 10)])) H) : va_at D bc_cl (z + 87, bc_e (gg_ l D cA b z adK) s0_ 87) H := h
theorem fs88 (h : hq_ D (z + 88) (E2_ cA (z + 88)) H) : va_at D bc_cl (z + 88, bc_e (gg_ l D cA b z adK) s0_ 88) H ∧ va_at D bc_cl (z + 89, bc_e (gg_ l D cA b z adK) s0_ 89) H ∧ va_at D bc_cl (z + 90, bc_e (gg_ l D cA b z adK) s0_ 90) H ∧ va_at D bc_cl (z + 91, bc_e (gg_ l D cA b z adK) s0_ 91) H ∧ va_at D bc_cl (z + 92, bc_e (gg_ l D cA b z adK) s0_ 92) H ∧ va_at D bc_cl (z + 93, bc_e (gg_ l D cA b z adK) s0_ 93) H ∧ va_at D bc_cl (z + 94, bc_e (gg_ l D cA b z adK) s0_ 94) H := by
  rw [E2_fl] at h
  refine ⟨?_, ?_, ?_, ?_, ?_, ?_, ?_⟩
  · have := h 0 _ rfl
    exact this
  · have := h 1 _ rfl
    exact this
  · have := h 2 _ rfl
    exact this
  · have := h 3 _ rfl
    exact this
  · have := h 4 _ rfl
    exact this
  · have := h 5 _ rfl
    exact this
  · have := h 6 _ rfl
    exact this
theorem fs95 (h : hq_ D (z + 95) (E3_ cA (z + 95)) H) : va_at D bc_cl (z + 95, bc_e (gg_ l D cA b z adK) s0_ 95) H ∧ va_at D bc_cl (z + 96, bc_e (gg_ l D cA b z adK) s0_ 96) H := by
  rw [E3_fl] at h
  refine ⟨?_, ?_⟩
  · have := h 0 _ rfl
    exact this
  · have := h 1 _ rfl
    exact this
theorem fs97 (h : hq_ D (z + 97) (E8_ cA (z + 97)) H) : va_at D bc_cl (z + 97, bc_e (gg_ l D cA b z adK) s0_ 97) H ∧ va_at D bc_cl (z + 98, bc_e (gg_ l D cA b z adK) s0_ 98) H ∧ va_at D bc_cl (z + 99, bc_e (gg_ l D cA b z adK) s0_ 99) H ∧ va_at D bc_cl (z + 100, bc_e (gg_ l D cA b z adK) s0_ 100) H := by
  rw [E8_fl] at h
  refine ⟨?_, ?_, ?_, ?_⟩
  · have := h 0 _ rfl
    exact this
  · have := h 1 _ rfl
    exact this
  · have := h 2 _ rfl
    exact this
  · have := h 3 _ rfl
    exact this
theorem fs101 (h : va_at D bc_cl (z + 101, .inr (6, [.ref (z + 101 + 1), .ref (z + 101 + 8), .ref (z + 101 + 10)])) H) : va_at D bc_cl (z + 101, bc_e (gg_ l D cA b z adK) s0_ 101) H := h
theorem fs102 (h : hq_ D (z + 102) (E2_ cA (z + 102)) H) : va_at D bc_cl (z + 102, bc_e (gg_ l D cA b z adK) s0_ 102) H ∧ va_at D bc_cl (z + 103, bc_e (gg_ l D cA b z adK) s0_ 103) H ∧ va_at D bc_cl (z + 104, bc_e (gg_ l D cA b z adK) s0_ 104) H ∧ va_at D bc_cl (z + 105, bc_e (gg_ l D cA b z adK) s0_ 105) H ∧ va_at D bc_cl (z + 106, bc_e (gg_ l D cA b z adK) s0_ 106) H ∧ va_at D bc_cl (z + 107, bc_e (gg_ l D cA b z adK) s0_ 107) H ∧ va_at D bc_cl (z + 108, bc_e (gg_ l D cA b z adK) s0_ 108) H := by
  rw [E2_fl] at h
  refine ⟨?_, ?_, ?_, ?_, ?_, ?_, ?_⟩
  · have := h 0 _ rfl
    exact this
  · have := h 1 _ rfl
    exact this
  · have := h 2 _ rfl
    exact this
  · have := h 3 _ rfl
    exact this
  · have := h 4 _ rfl
    exact this
  · have := h 5 _ rfl
    exact this
  · have := h 6 _ rfl
    exact this
theorem fs109 (h : hq_ D (z + 109) (E3_ cA (z + 109)) H) : va_at D bc_cl (z + 109, bc_e (gg_ l D cA b z adK) s0_ 109) H ∧ va_at D bc_cl (z + 110, bc_e (gg_ l D cA b z adK) s0_ 110) H := by
  rw [E3_fl] at h
  refine ⟨?_, ?_⟩
  · have := h 0 _ rfl
    exact this
  · have := h 1 _ rfl
    exact this
theorem fs111 (h : hq_ D (z + 111) (E8_ cA (z + 111)) H) : va_at D bc_cl (z + 111, bc_e (gg_ l D cA b z adK) s0_ 111) H ∧ va_at D bc_cl (z + 112, bc_e (gg_ l D cA b z adK) s0_ 112) H ∧ va_at D bc_cl (z + 113, bc_e (gg_ l D cA b z adK) s0_ 113) H ∧ va_at D bc_cl (z + 114, bc_e (gg_ l D cA b z adK) s0_ 114) H := by
  rw [E8_fl] at h
  refine ⟨?_, ?_, ?_, ?_⟩
  · have := h 0 _ rfl
    exact this
  · have := h 1 _ rfl
    exact this
  · have := h 2 _ rfl
    exact this
  · have := h 3 _ rfl
    exact this
theorem fs115 (h : va_at D bc_cl (z + 115, .inr (6, [.ref (z + 115 + 1), .ref (z + 115 + 8), .ref (z + 115 + 10)])) H) : va_at D bc_cl (z + 115, bc_e (gg_ l D cA b z adK) s0_ 115) H := h
theorem fs116 (h : hq_ D (z + 116) (E2_ cA (z + 116)) H) : va_at D bc_cl (z + 116, bc_e (gg_ l D cA b z adK) s0_ 116) H ∧ va_at D bc_cl (z + 117, bc_e (gg_ l D cA b z adK) s0_ 117) H ∧ va_at D bc_cl (z + 118, bc_e (gg_ l D cA b z adK) s0_ 118) H ∧ va_at D bc_cl (z + 119, bc_e (gg_ l D cA b z adK) s0_ 119) H ∧ va_at D bc_cl (z + 120, bc_e (gg_ l D cA b z adK) s0_ 120) H ∧ va_at D bc_cl (z + 121, bc_e (gg_ l D cA b z adK) s0_ 121) H ∧ va_at D bc_cl (z + 122, bc_e (gg_ l D cA b z adK) s0_ 122) H := by
  rw [E2_fl] at h
  refine ⟨?_, ?_, ?_, ?_, ?_, ?_, ?_⟩
  · have := h 0 _ rfl
    exact this
  · have := h 1 _ rfl
    exact this
  · have := h 2 _ rfl
    exact this
  · have := h 3 _ rfl
    exact this
  · have := h 4 _ rfl
    exact this
  · have := h 5 _ rfl
    exact this
  · have := h 6 _ rfl
    exact this
theorem fs123 (h : hq_ D (z + 123) (E3_ cA (z + 123)) H) : va_at D bc_cl (z + 123, bc_e (gg_ l D cA b z adK) s0_ 123) H ∧ va_at D bc_cl (z + 124, bc_e (gg_ l D cA b z adK) s0_ 124) H := by
  rw [E3_fl] at h
  refine ⟨?_, ?_⟩
  · have := h 0 _ rfl
    exact this
  · have := h 1 _ rfl
    exact this
theorem fs125 (h : hq_ D (z + 125) (E8_ cA (z + 125)) H) : va_at D bc_cl (z + 125, bc_e (gg_ l D cA b z adK) s0_ 125) H ∧ va_at D bc_cl (z + 126, bc_e (gg_ l D cA b z adK) s0_ 126) H ∧ va_at D bc_cl (z + 127, bc_e (gg_ l D cA b z adK) s0_ 127) H ∧ va_at D bc_cl (z + 128, bc_e (gg_ l D cA b z adK) s0_ 128) H := by
  rw [E8_fl] at h
  refine ⟨?_, ?_, ?_, ?_⟩
  · have := h 0 _ rfl
    exact this
  · have := h 1 _ rfl
    exact this
  · have := h 2 _ rfl
    exact this
  · have := h 3 _ rfl
    exact this
theorem fs129 (h : va_at D bc_cl (z + 129, .inr (6, [.ref (z + 129 + 1), .ref (z + 129 + 8), .ref (z + 129 + 10)])) H) : va_at D bc_cl (z + 129, bc_e (gg_ l D cA b z adK) s0_ 129) H := h
theorem fs130 (h : hq_ D (z + 130) (E2_ cA (z + 130)) H) : va_at D bc_cl (z + 130, bc_e (gg_ l D cA b z adK) s0_ 130) H ∧ va_at D bc_cl (z + 131, bc_e (gg_ l D cA b z adK) s0_ 131) H ∧ va_at D bc_cl (z + 132, bc_e (gg_ l D cA b z adK) s0_ 132) H ∧ va_at D bc_cl (z + 133, bc_e (gg_ l D cA b z adK) s0_ 133) H ∧ va_at D bc_cl (z + 134, bc_e (gg_ l D cA b z adK) s0_ 134) H ∧ va_at D bc_cl (z + 135, bc_e (gg_ l D cA b z adK) s0_ 135) H ∧ va_at D bc_cl (z + 136, bc_e (gg_ l D cA b z adK) s0_ 136) H := by
  rw [E2_fl] at h
  refine ⟨?_, ?_, ?_, ?_, ?_, ?_, ?_⟩
  · have := h 0 _ rfl
    exact this
  · have := h 1 _ rfl
    exact this
  · have := h 2 _ rfl
    exact this
  · have := h 3 _ rfl
    exact this
  · have := h 4 _ rfl
    exact this
  · have := h 5 _ rfl
    exact this
  · have := h 6 _ rfl
    exact this
theorem fs137 (h : hq_ D (z + 137) (E3_ cA (z + 137)) H) : va_at D bc_cl (z + 137, bc_e (gg_ l D cA b z adK) s0_ 137) H ∧ va_at D bc_cl (z + 138, bc_e (gg_ l D cA b z adK) s0_ 138) H := by
  rw [E3_fl] at h
  refine ⟨?_, ?_⟩
  · have := h 0 _ rfl
    exact this
  · have := h 1 _ rfl
    exact this
theorem fs139 (h : hq_ D (z + 139) (E8_ cA (z + 139)) H) : va_at D bc_cl (z + 139, bc_e (gg_ l D cA b z adK) s0_ 139) H ∧ va_at D bc_cl (z + 140, bc_e (gg_ l D cA b z adK) s0_ 140) H ∧ va_at D bc_cl (z + 141, bc_e (gg_ l D cA b z adK) s0_ 141) H ∧ va_at D bc_cl (z + 142, bc_e (gg_ l D cA b z adK) s0_ 142) H := by
  rw [E8_fl] at h
  refine ⟨?_, ?_, ?_, ?_⟩
  · have := h 0 _ rfl
    exact this
  · have := h 1 _ rfl
    exact this
  · have := h 2 _ rfl
    exact this
  · have := h 3 _ rfl
    exact this
theorem fs143 (h : va_at D bc_cl (z + 143, .inr (6, [.ref (z + 143 + 1), .ref (z + 143 + 8), .ref (z + 143 + 10)])) H) : va_at D bc_cl (z + 143, bc_e (gg_ l D cA b z adK) s0_ 143) H := h
theorem fs144 (h : hq_ D (z + 144) (E2_ cA (z + 144)) H) : va_at D bc_cl (z + 144, bc_e (gg_ l D cA b z adK) s0_ 144) H ∧ va_at D bc_cl (z + 145, bc_e (gg_ l D cA b z adK) s0_ 145) H ∧ va_at D bc_cl (z + 146, bc_e (gg_ l D cA b z adK) s0_ 146) H ∧ va_at D bc_cl (z + 147, bc_e (gg_ l D cA b z adK) s0_ 147) H ∧ va_at D bc_cl (z + 148, bc_e (gg_ l D cA b z adK) s0_ 148) H ∧ va_at D bc_cl (z + 149, bc_e (gg_ l D cA b z adK) s0_ 149) H ∧ va_at D bc_cl (z + 150, bc_e (gg_ l D cA b z adK) s0_ 150) H := by
  rw [E2_fl] at h
  refine ⟨?_, ?_, ?_, ?_, ?_, ?_, ?_⟩
  · have := h 0 _ rfl
    exact this
  · have := h 1 _ rfl
    exact this
  · have := h 2 _ rfl
    exact this
  · have := h 3 _ rfl
    exact this
  · have := h 4 _ rfl
    exact this
  · have := h 5 _ rfl
    exact this
  · have := h 6 _ rfl
    exact this
theorem fs151 (h : hq_ D (z + 151) (E3_ cA (z + 151)) H) : va_at D bc_cl (z + 151, bc_e (gg_ l D cA b z adK) s0_ 151) H ∧ va_at D bc_cl (z + 152, bc_e (gg_ l D cA b z adK) s0_ 152) H := by
  rw [E3_fl] at h
  refine ⟨?_, ?_⟩
  · have := h 0 _ rfl
    exact this
  · have := h 1 _ rfl
    exact this
theorem fs153 (h : hq_ D (z + 153) (E8_ cA (z + 153)) H) : va_at D bc_cl (z + 153, bc_e (gg_ l D cA b z adK) s0_ 153) H ∧ va_at D bc_cl (z + 154, bc_e (gg_ l D cA b z adK) s0_ 154) H ∧ va_at D bc_cl (z + 155, bc_e (gg_ l D cA b z adK) s0_ 155) H ∧ va_at D bc_cl (z + 156, bc_e (gg_ l D cA b z adK) s0_ 156) H := by
  rw [E8_fl] at h
  refine ⟨?_, ?_, ?_, ?_⟩
  · have := h 0 _ rfl
    exact this
  · have := h 1 _ rfl
    exact this
  · have := h 2 _ rfl
    exact this
  · have := h 3 _ rfl
    exact this
theorem fs0 (h : va_at D bc_cl (z + 0, .inr (10, [.ref (z + 0 + 1), .ref (z + 0 + 15), .ref (z + 0 + 29), .ref (z + 0 + 43), .ref (z + 0 + 157), .ref (z + 0 + 171), .ref (z + 0 + 174), .ref (z + 0 + 195), .ref (z + 0 + 216), .int (Int32.ofInt 0), .int (Int32.ofInt (-1)), .int (Int32.ofInt (-1))])) H) : va_at D bc_cl (z + 0, bc_e (gg_ l D cA b z adK) s0_ 0) H := h
theorem fs43 (h : va_at D bc_cl (z + 43, EO1_ (z + 43)) H) : va_at D bc_cl (z + 43, bc_e (gg_ l D cA b z adK) s0_ 43) H := h
theorem fs44 (h : va_at D bc_cl (z + 44, EA_ cA (z + 43) 8) H) : va_at D bc_cl (z + 44, bc_e (gg_ l D cA b z adK) s0_ 44) H := by
  · have e : EA_ cA (z + 43) 8 = bc_e (gg_ l D cA b z adK) s0_ 44 := by
      refine congrArg (fun f : Nat → Option Nat => (.inl (cA 6, 8, .inr (.inr (.inr (.inr f)))) : va_E)) (funext fun j => ?_)
      by_cases h : j < 8
      · rw [if_pos h, if_pos h, gg_ad l D cA b z adK (by omega)]
        congr 1
        omega
      · rw [if_neg h, if_neg h]
    rw [← e]
    exact h
theorem fs157 (h : hq_ D (z + 157) (E9_ cA (z + 157)) H) : va_at D bc_cl (z + 157, bc_e (gg_ l D cA b z adK) s0_ 157) H ∧ va_at D bc_cl (z + 158, bc_e (gg_ l D cA b z adK) s0_ 158) H ∧ va_at D bc_cl (z + 159, bc_e (gg_ l D cA b z adK) s0_ 159) H ∧ va_at D bc_cl (z + 160, bc_e (gg_ l D cA b z adK) s0_ 160) H ∧ va_at D bc_cl (z + 161, bc_e (gg_ l D cA b z adK) s0_ 161) H ∧ va_at D bc_cl (z + 162, bc_e (gg_ l D cA b z adK) s0_ 162) H ∧ va_at D bc_cl (z + 163, bc_e (gg_ l D cA b z adK) s0_ 163) H ∧ va_at D bc_cl (z + 164, bc_e (gg_ l D cA b z adK) s0_ 164) H ∧ va_at D bc_cl (z + 165, bc_e (gg_ l D cA b z adK) s0_ 165) H ∧ va_at D bc_cl (z + 166, bc_e (gg_ l D cA b z adK) s0_ 166) H ∧ va_at D bc_cl (z + 167, bc_e (gg_ l D cA b z adK) s0_ 167) H ∧ va_at D bc_cl (z + 168, bc_e (gg_ l D cA b z adK) s0_ 168) H ∧ va_at D bc_cl (z + 169, bc_e (gg_ l D cA b z adK) s0_ 169) H ∧ va_at D bc_cl (z + 170, bc_e (gg_ l D cA b z adK) s0_ 170) H := by
  rw [E9_fl] at h
  refine ⟨?_, ?_, ?_, ?_, ?_, ?_, ?_, ?_, ?_, ?_, ?_, ?_, ?_, ?_⟩
  · have := h 0 _ rfl
    exact this
  · have e : (cg_o (cA 5) 8 (z + 158)) = bc_e (gg_ l D cA b z adK) s0_ 158 := by
      refine congrArg (fun f : Nat → Option Nat => (.inl (cA 5, 8, .inr (.inr (.inr (.inr f)))) : va_E)) (funext fun j => ?_)
      by_cases h : j < 8
      · rw [if_pos h, if_pos h, gg_ad l D cA b z adK (by omega)]
        congr 1
        omega
      · rw [if_neg h, if_neg h]
    rw [← e]
    exact h 1 _ rfl
  · have := h 2 _ rfl
    exact this
  · have := h 3 _ rfl
    exact this
  · have := h 4 _ rfl
    exact this
  · have := h 5 _ rfl
    exact this
  · have := h 6 _ rfl
    exact this
  · have := h 7 _ rfl
    exact this
  · have := h 8 _ rfl
    exact this
  · have := h 9 _ rfl
    exact this
  · have := h 10 _ rfl
    exact this
  · have := h 11 _ rfl
    exact this
  · have := h 12 _ rfl
    exact this
  · have := h 13 _ rfl
    exact this
theorem fs171 (h : hq_ D (z + 171) (E0_ cA (z + 171)) H) : va_at D bc_cl (z + 171, bc_e (gg_ l D cA b z adK) s0_ 171) H ∧ va_at D bc_cl (z + 172, bc_e (gg_ l D cA b z adK) s0_ 172) H ∧ va_at D bc_cl (z + 173, bc_e (gg_ l D cA b z adK) s0_ 173) H := by
  rw [E0_fl] at h
  refine ⟨?_, ?_, ?_⟩
  · have := h 0 _ rfl
    exact this
  · have := h 1 _ rfl
    exact this
  · have := h 2 _ rfl
    exact this
theorem fs174 (h : hq_ D (z + 174) (E4_ cA (z + 174)) H) : va_at D bc_cl (z + 174, bc_e (gg_ l D cA b z adK) s0_ 174) H ∧ va_at D bc_cl (z + 175, bc_e (gg_ l D cA b z adK) s0_ 175) H ∧ va_at D bc_cl (z + 176, bc_e (gg_ l D cA b z adK) s0_ 176) H ∧ va_at D bc_cl (z + 177, bc_e (gg_ l D cA b z adK) s0_ 177) H ∧ va_at D bc_cl (z + 178, bc_e (gg_ l D cA b z adK) s0_ 178) H ∧ va_at D bc_cl (z + 179, bc_e (gg_ l D cA b z adK) s0_ 179) H ∧ va_at D bc_cl (z + 180, bc_e (gg_ l D cA b z adK) s0_ 180) H ∧ va_at D bc_cl (z + 181, bc_e (gg_ l D cA b z adK) s0_ 181) H ∧ va_at D bc_cl (z + 182, bc_e (gg_ l D cA b z adK) s0_ 182) H ∧ va_at D bc_cl (z + 183, bc_e (gg_ l D cA b z adK) s0_ 183) H ∧ va_at D bc_cl (z + 184, bc_e (gg_ l D cA b z adK) s0_ 184) H ∧ va_at D bc_cl (z + 185, bc_e (gg_ l D cA b z adK) s0_ 185) H ∧ va_at D bc_cl (z + 186, bc_e (gg_ l D cA b z adK) s0_ 186) H ∧ va_at D bc_cl (z + 187, bc_e (gg_ l D cA b z adK) s0_ 187) H ∧ va_at D bc_cl (z + 188, bc_e (gg_ l D cA b z adK) s0_ 188) H ∧ va_at D bc_cl (z + 189, bc_e (gg_ l D cA b z adK) s0_ 189) H ∧ va_at D bc_cl (z + 190, bc_e (gg_ l D cA b z adK) s0_ 190) H ∧ va_at D bc_cl (z + 191, bc_e (gg_ l D cA b z adK) s0_ 191) H ∧ va_at D bc_cl (z + 192, bc_e (gg_ l D cA b z adK) s0_ 192) H ∧ va_at D bc_cl (z + 193, bc_e (gg_ l D cA b z adK) s0_ 193) H ∧ va_at D bc_cl (z + 194, bc_e (gg_ l D cA b z adK) s0_ 194) H := by
  rw [E4_fl] at h
  refine ⟨?_, ?_, ?_, ?_, ?_, ?_, ?_, ?_, ?_, ?_, ?_, ?_, ?_, ?_, ?_, ?_, ?_, ?_, ?_, ?_, ?_⟩
  · have := h 0 _ rfl
    exact this
  · have e : (cg_o (cA 5) 8 (z + 175)) = bc_e (gg_ l D cA b z adK) s0_ 175 := by
      refine congrArg (fun f : Nat → Option Nat => (.inl (cA 5, 8, .inr (.inr (.inr (.inr f)))) : va_E)) (funext fun j => ?_)
      by_cases h : j < 8
      · rw [if_pos h, if_pos h, gg_ad l D cA b z adK (by omega)]
        congr 1
        omega
      · rw [if_neg h, if_neg h]
    rw [← e]
    exact h 1 _ rfl
  · have := h 2 _ rfl
    exact this
  · have := h 3 _ rfl
    exact this
  · have := h 4 _ rfl
    exact this
  · have := h 5 _ rfl
    exact this
  · have := h 6 _ rfl
    exact this
  · have := h 7 _ rfl
    exact this
  · have := h 8 _ rfl
    exact this
  · have := h 9 _ rfl
    exact this
  · have := h 10 _ rfl
    exact this
  · have := h 11 _ rfl
    exact this
  · have e : (cg_o (cA 5) 8 (z + 186)) = bc_e (gg_ l D cA b z adK) s0_ 186 := by
      refine congrArg (fun f : Nat → Option Nat => (.inl (cA 5, 8, .inr (.inr (.inr (.inr f)))) : va_E)) (funext fun j => ?_)
      by_cases h : j < 8
      · rw [if_pos h, if_pos h, gg_ad l D cA b z adK (by omega)]
        congr 1
        omega
      · rw [if_neg h, if_neg h]
    rw [← e]
    exact h 12 _ rfl
  · have := h 13 _ rfl
    exact this
  · have := h 14 _ rfl
    exact this
  · have := h 15 _ rfl
    exact this
  · have := h 16 _ rfl
    exact this
  · have := h 17 _ rfl
    exact this
  · have := h 18 _ rfl
    exact this
  · have := h 19 _ rfl
    exact this
  · have := h 20 _ rfl
    exact this
theorem fs195 (h : va_at D bc_cl (z + 195, .inr (5, [.ref (z + 195 + 1), .ref (z + 195 + 3), .ref (z + 195 + 4), .int (Int32.ofInt 0), .int (Int32.ofInt 0)])) H) : va_at D bc_cl (z + 195, bc_e (gg_ l D cA b z adK) s0_ 195) H := h
theorem fs196 (h : hq_ D (z + 196) (E7_ cA (z + 196)) H) : va_at D bc_cl (z + 196, bc_e (gg_ l D cA b z adK) s0_ 196) H ∧ va_at D bc_cl (z + 197, bc_e (gg_ l D cA b z adK) s0_ 197) H := by
  rw [E7_fl] at h
  refine ⟨?_, ?_⟩
  · have := h 0 _ rfl
    exact this
  · have := h 1 _ rfl
    exact this
theorem fs198 (h : va_at D bc_cl (z + 198, .inl (cA 0, 16, .inl (fun _ => Int32.ofInt 0))) H) : va_at D bc_cl (z + 198, bc_e (gg_ l D cA b z adK) s0_ 198) H := h
theorem fs199 (h : hq_ D (z + 199) (cg_o (cA 5) 16 (z + 199) :: List.replicate 16 (cg_r (cA 0) 3)) H) : va_at D bc_cl (z + 199, bc_e (gg_ l D cA b z adK) s0_ 199) H ∧ va_at D bc_cl (z + 200, bc_e (gg_ l D cA b z adK) s0_ 200) H ∧ va_at D bc_cl (z + 201, bc_e (gg_ l D cA b z adK) s0_ 201) H ∧ va_at D bc_cl (z + 202, bc_e (gg_ l D cA b z adK) s0_ 202) H ∧ va_at D bc_cl (z + 203, bc_e (gg_ l D cA b z adK) s0_ 203) H ∧ va_at D bc_cl (z + 204, bc_e (gg_ l D cA b z adK) s0_ 204) H ∧ va_at D bc_cl (z + 205, bc_e (gg_ l D cA b z adK) s0_ 205) H ∧ va_at D bc_cl (z + 206, bc_e (gg_ l D cA b z adK) s0_ 206) H ∧ va_at D bc_cl (z + 207, bc_e (gg_ l D cA b z adK) s0_ 207) H ∧ va_at D bc_cl (z + 208, bc_e (gg_ l D cA b z adK) s0_ 208) H ∧ va_at D bc_cl (z + 209, bc_e (gg_ l D cA b z adK) s0_ 209) H ∧ va_at D bc_cl (z + 210, bc_e (gg_ l D cA b z adK) s0_ 210) H ∧ va_at D bc_cl (z + 211, bc_e (gg_ l D cA b z adK) s0_ 211) H ∧ va_at D bc_cl (z + 212, bc_e (gg_ l D cA b z adK) s0_ 212) H ∧ va_at D bc_cl (z + 213, bc_e (gg_ l D cA b z adK) s0_ 213) H ∧ va_at D bc_cl (z + 214, bc_e (gg_ l D cA b z adK) s0_ 214) H ∧ va_at D bc_cl (z + 215, bc_e (gg_ l D cA b z adK) s0_ 215) H := by
  refine ⟨?_, ?_, ?_, ?_, ?_, ?_, ?_, ?_, ?_, ?_, ?_, ?_, ?_, ?_, ?_, ?_, ?_⟩
  · have e : cg_o (cA 5) 16 (z + 199) = bc_e (gg_ l D cA b z adK) s0_ 199 := by
      refine congrArg (fun f : Nat → Option Nat => (.inl (cA 5, 16, .inr (.inr (.inr (.inr f)))) : va_E)) (funext fun j => ?_)
      by_cases h : j < 16
      · rw [if_pos h, if_pos h, gg_ad l D cA b z adK (by omega)]
        congr 1
        omega
      · rw [if_neg h, if_neg h]
    rw [← e]
    exact h 0 _ rfl
  · have := h 1 _ rfl
    exact this
  · have := h 2 _ rfl
    exact this
  · have := h 3 _ rfl
    exact this
  · have := h 4 _ rfl
    exact this
  · have := h 5 _ rfl
    exact this
  · have := h 6 _ rfl
    exact this
  · have := h 7 _ rfl
    exact this
  · have := h 8 _ rfl
    exact this
  · have := h 9 _ rfl
    exact this
  · have := h 10 _ rfl
    exact this
  · have := h 11 _ rfl
    exact this
  · have := h 12 _ rfl
    exact this
  · have := h 13 _ rfl
    exact this
  · have := h 14 _ rfl
    exact this
  · have := h 15 _ rfl
    exact this
  · have := h 16 _ rfl
    exact this
theorem fs216 (h : hq_ D (z + 216) (E7_ cA (z + 216)) H) : va_at D bc_cl (z + 216, bc_e (gg_ l D cA b z adK) s0_ 216) H ∧ va_at D bc_cl (z + 217, bc_e (gg_ l D cA b z adK) s0_ 217) H := by
  rw [E7_fl] at h
  refine ⟨?_, ?_⟩
  · have := h 0 _ rfl
    exact this
  · have := h 1 _ rfl
    exact this
theorem hq_six {q : Nat} (h : hq_ D q (E6_ cA q) H) : va_at D bc_cl (q, .inr (6, [.ref (q + 1), .ref (q + 8), .ref (q + 10)])) H ∧ hq_ D (q + 1) (E2_ cA (q + 1)) H ∧ hq_ D (q + 8) (E3_ cA (q + 8)) H ∧ hq_ D (q + 10) (E8_ cA (q + 10)) H := by
  unfold E6_ at h
  have h1 := hq_cons h
  have h2 := hq_app h1.2 (n := 9) (by simp [E2_len, E3_len])
  have h3 := hq_app h2.1 (n := 7) (by simp [E2_len])
  exact ⟨h1.1, h3.1, h3.2, h2.2⟩
theorem hq_EL (q : Nat) : ∀ n t, t < n → hq_ D (q + 2) (EL_ cA q n) H → hq_ D (q + 2 + 14 * t) (E6_ cA (q + 2 + 14 * t)) H := by
  intro n
  induction n with
  | zero => intro t ht; omega
  | succ n ih =>
    intro t ht h
    unfold EL_ at h
    have h2 := hq_app h (EL_len cA q n)
    by_cases e : t = n
    · subst e
      have := h2.2
      rwa [show q + (2 + 14 * t) = q + 2 + 14 * t by omega] at this
    · exact ih t (by omega) h2.1
theorem fz_all (h : hq_ D z (EX_ cA z) H) : ∀ k, k < 218 → va_at D bc_cl (z + k, bc_e (gg_ l D cA b z adK) s0_ k) H := by
  have hx : hq_ D (z + 0) (E10_ cA (z + 0)) H := h
  unfold E10_ at hx
  have c0 := hq_cons hx
  have c216 := hq_app c0.2 (n := 215) (by simp [E0_len, E1_len, E4_len, E5_len, E6_len, E7_len, E9_len])
  have c195 := hq_app c216.1 (n := 194) (by simp [E0_len, E1_len, E4_len, E5_len, E6_len, E7_len, E9_len])
  have c174 := hq_app c195.1 (n := 173) (by simp [E0_len, E1_len, E4_len, E5_len, E6_len, E7_len, E9_len])
  have c171 := hq_app c174.1 (n := 170) (by simp [E0_len, E1_len, E4_len, E5_len, E6_len, E7_len, E9_len])
  have c157 := hq_app c171.1 (n := 156) (by simp [E0_len, E1_len, E4_len, E5_len, E6_len, E7_len, E9_len])
  have c43 := hq_app c157.1 (n := 42) (by simp [E0_len, E1_len, E4_len, E5_len, E6_len, E7_len, E9_len])
  have c29 := hq_app c43.1 (n := 28) (by simp [E0_len, E1_len, E4_len, E5_len, E6_len, E7_len, E9_len])
  have c15 := hq_app c29.1 (n := 14) (by simp [E0_len, E1_len, E4_len, E5_len, E6_len, E7_len, E9_len])
  have p1 : hq_ D (z + 1) (E6_ cA (z + 1)) H := c15.1
  have p15 : hq_ D (z + 15) (E6_ cA (z + 15)) H := c15.2
  have p29 : hq_ D (z + 29) (E6_ cA (z + 29)) H := c29.2
  have p43 : hq_ D (z + 43) (E1_ cA (z + 43)) H := c43.2
  unfold E1_ at p43
  have d43 := hq_cons p43
  have d44 := hq_cons d43.2
  have p195 : hq_ D (z + 195) (E5_ cA (z + 195)) H := c195.2
  unfold E5_ at p195
  have d195 := hq_cons p195
  have d199 := hq_app d195.2 (n := 3) (by simp [E7_len])
  have d198 := hq_app d199.1 (n := 2) (by simp [E7_len])
  have s1 := hq_six D cA p1
  have s15 := hq_six D cA p15
  have s29 := hq_six D cA p29
  have s45 : va_at D bc_cl (z + 45, .inr (6, [.ref (z + 45 + 1), .ref (z + 45 + 8), .ref (z + 45 + 10)])) H ∧ hq_ D (z + 46) (E2_ cA (z + 46)) H ∧ hq_ D (z + 53) (E3_ cA (z + 53)) H ∧ hq_ D (z + 55) (E8_ cA (z + 55)) H := hq_six D cA (q := z + 45) (hq_EL D cA (z + 43) 8 0 (by omega) d44.2)
  have s59 : va_at D bc_cl (z + 59, .inr (6, [.ref (z + 59 + 1), .ref (z + 59 + 8), .ref (z + 59 + 10)])) H ∧ hq_ D (z + 60) (E2_ cA (z + 60)) H ∧ hq_ D (z + 67) (E3_ cA (z + 67)) H ∧ hq_ D (z + 69) (E8_ cA (z + 69)) H := hq_six D cA (q := z + 59) (hq_EL D cA (z + 43) 8 1 (by omega) d44.2)
  have s73 : va_at D bc_cl (z + 73, .inr (6, [.ref (z + 73 + 1), .ref (z + 73 + 8), .ref (z + 73 + 10)])) H ∧ hq_ D (z + 74) (E2_ cA (z + 74)) H ∧ hq_ D (z + 81) (E3_ cA (z + 81)) H ∧ hq_ D (z + 83) (E8_ cA (z + 83)) H := hq_six D cA (q := z + 73) (hq_EL D cA (z + 43) 8 2 (by omega) d44.2)
  have s87 : va_at D bc_cl (z + 87, .inr (6, [.ref (z + 87 + 1), .ref (z + 87 + 8), .ref (z + 87 + 10)])) H ∧ hq_ D (z + 88) (E2_ cA (z + 88)) H ∧ hq_ D (z + 95) (E3_ cA (z + 95)) H ∧ hq_ D (z + 97) (E8_ cA (z + 97)) H := hq_six D cA (q := z + 87) (hq_EL D cA (z + 43) 8 3 (by omega) d44.2)
  have s101 : va_at D bc_cl (z + 101, .inr (6, [.ref (z + 101 + 1), .ref (z + 101 + 8), .ref (z + 101 + 10)])) H ∧ hq_ D (z + 102) (E2_ cA (z + 102)) H ∧ hq_ D (z + 109) (E3_ cA (z + 109)) H ∧ hq_ D (z + 111) (E8_ cA (z + 111)) H := hq_six D cA (q := z + 101) (hq_EL D cA (z + 43) 8 4 (by omega) d44.2)
  have s115 : va_at D bc_cl (z + 115, .inr (6, [.ref (z + 115 + 1), .ref (z + 115 + 8), .ref (z + 115 + 10)])) H ∧ hq_ D (z + 116) (E2_ cA (z + 116)) H ∧ hq_ D (z + 123) (E3_ cA (z + 123)) H ∧ hq_ D (z + 125) (E8_ cA (z + 125)) H := hq_six D cA (q := z + 115) (hq_EL D cA (z + 43) 8 5 (by omega) d44.2)
  have s129 : va_at D bc_cl (z + 129, .inr (6, [.ref (z + 129 + 1), .ref (z + 129 + 8), .ref (z + 129 + 10)])) H ∧ hq_ D (z + 130) (E2_ cA (z + 130)) H ∧ hq_ D (z + 137) (E3_ cA (z + 137)) H ∧ hq_ D (z + 139) (E8_ cA (z + 139)) H := hq_six D cA (q := z + 129) (hq_EL D cA (z + 43) 8 6 (by omega) d44.2)
  have s143 : va_at D bc_cl (z + 143, .inr (6, [.ref (z + 143 + 1), .ref (z + 143 + 8), .ref (z + 143 + 10)])) H ∧ hq_ D (z + 144) (E2_ cA (z + 144)) H ∧ hq_ D (z + 151) (E3_ cA (z + 151)) H ∧ hq_ D (z + 153) (E8_ cA (z + 153)) H := hq_six D cA (q := z + 143) (hq_EL D cA (z + 43) 8 7 (by omega) d44.2)
  have g0 := fs0 l D cA b z adK c0.1
  have g1 := fs1 l D cA b z adK s1.1
  have g2 := fs2 l D cA b z adK s1.2.1
  have g9 := fs9 l D cA b z adK s1.2.2.1
  have g11 := fs11 l D cA b z adK s1.2.2.2
  have g15 := fs15 l D cA b z adK s15.1
  have g16 := fs16 l D cA b z adK s15.2.1
  have g23 := fs23 l D cA b z adK s15.2.2.1
  have g25 := fs25 l D cA b z adK s15.2.2.2
  have g29 := fs29 l D cA b z adK s29.1
  have g30 := fs30 l D cA b z adK s29.2.1
  have g37 := fs37 l D cA b z adK s29.2.2.1
  have g39 := fs39 l D cA b z adK s29.2.2.2
  have g43 := fs43 l D cA b z adK d43.1
  have g44 := fs44 l D cA b z adK d44.1
  have g45 := fs45 l D cA b z adK s45.1
  have g46 := fs46 l D cA b z adK s45.2.1
  have g53 := fs53 l D cA b z adK s45.2.2.1
  have g55 := fs55 l D cA b z adK s45.2.2.2
  have g59 := fs59 l D cA b z adK s59.1
  have g60 := fs60 l D cA b z adK s59.2.1
  have g67 := fs67 l D cA b z adK s59.2.2.1
  have g69 := fs69 l D cA b z adK s59.2.2.2
  have g73 := fs73 l D cA b z adK s73.1
  have g74 := fs74 l D cA b z adK s73.2.1
  have g81 := fs81 l D cA b z adK s73.2.2.1
  have g83 := fs83 l D cA b z adK s73.2.2.2
  have g87 := fs87 l D cA b z adK s87.1
  have g88 := fs88 l D cA b z adK s87.2.1
  have g95 := fs95 l D cA b z adK s87.2.2.1
  have g97 := fs97 l D cA b z adK s87.2.2.2
  have g101 := fs101 l D cA b z adK s101.1
  have g102 := fs102 l D cA b z adK s101.2.1
  have g109 := fs109 l D cA b z adK s101.2.2.1
  have g111 := fs111 l D cA b z adK s101.2.2.2
  have g115 := fs115 l D cA b z adK s115.1
  have g116 := fs116 l D cA b z adK s115.2.1
  have g123 := fs123 l D cA b z adK s115.2.2.1
  have g125 := fs125 l D cA b z adK s115.2.2.2
  have g129 := fs129 l D cA b z adK s129.1
  have g130 := fs130 l D cA b z adK s129.2.1
  have g137 := fs137 l D cA b z adK s129.2.2.1
  have g139 := fs139 l D cA b z adK s129.2.2.2
  have g143 := fs143 l D cA b z adK s143.1
  have g144 := fs144 l D cA b z adK s143.2.1
  have g151 := fs151 l D cA b z adK s143.2.2.1
  have g153 := fs153 l D cA b z adK s143.2.2.2
  have g157 := fs157 l D cA b z adK c157.2
  have g171 := fs171 l D cA b z adK c171.2
  have g174 := fs174 l D cA b z adK c174.2
  have g195 := fs195 l D cA b z adK d195.1
  have g196 := fs196 l D cA b z adK d198.1
  have g198 := fs198 l D cA b z adK (d198.2 0 _ rfl)
  have g199 := fs199 l D cA b z adK d199.2
  have g216 := fs216 l D cA b z adK c216.2
  intro k hk
  match k, hk with
  | 0, _ => exact g0
  | 1, _ => exact g1
  | 2, _ => exact g2.1
  | 3, _ => exact g2.2.1
  | 4, _ => exact g2.2.2.1
  | 5, _ => exact g2.2.2.2.1
  | 6, _ => exact g2.2.2.2.2.1
  | 7, _ => exact g2.2.2.2.2.2.1
  | 8, _ => exact g2.2.2.2.2.2.2
  | 9, _ => exact g9.1
  | 10, _ => exact g9.2
  | 11, _ => exact g11.1
  | 12, _ => exact g11.2.1
  | 13, _ => exact g11.2.2.1
  | 14, _ => exact g11.2.2.2
  | 15, _ => exact g15
  | 16, _ => exact g16.1
  | 17, _ => exact g16.2.1
  | 18, _ => exact g16.2.2.1
  | 19, _ => exact g16.2.2.2.1
  | 20, _ => exact g16.2.2.2.2.1
  | 21, _ => exact g16.2.2.2.2.2.1
  | 22, _ => exact g16.2.2.2.2.2.2
  | 23, _ => exact g23.1
  | 24, _ => exact g23.2
  | 25, _ => exact g25.1
  | 26, _ => exact g25.2.1
  | 27, _ => exact g25.2.2.1
  | 28, _ => exact g25.2.2.2
  | 29, _ => exact g29
  | 30, _ => exact g30.1
  | 31, _ => exact g30.2.1
  | 32, _ => exact g30.2.2.1
  | 33, _ => exact g30.2.2.2.1
  | 34, _ => exact g30.2.2.2.2.1
  | 35, _ => exact g30.2.2.2.2.2.1
  | 36, _ => exact g30.2.2.2.2.2.2
  | 37, _ => exact g37.1
  | 38, _ => exact g37.2
  | 39, _ => exact g39.1
  | 40, _ => exact g39.2.1
  | 41, _ => exact g39.2.2.1
  | 42, _ => exact g39.2.2.2
  | 43, _ => exact g43
  | 44, _ => exact g44
  | 45, _ => exact g45
  | 46, _ => exact g46.1
  | 47, _ => exact g46.2.1
  | 48, _ => exact g46.2.2.1
  | 49, _ => exact g46.2.2.2.1
  | 50, _ => exact g46.2.2.2.2.1
  | 51, _ => exact g46.2.2.2.2.2.1
  | 52, _ => exact g46.2.2.2.2.2.2
  | 53, _ => exact g53.1
  | 54, _ => exact g53.2
  | 55, _ => exact g55.1
  | 56, _ => exact g55.2.1
  | 57, _ => exact g55.2.2.1
  | 58, _ => exact g55.2.2.2
  | 59, _ => exact g59
  | 60, _ => exact g60.1
  | 61, _ => exact g60.2.1
  | 62, _ => exact g60.2.2.1
  | 63, _ => exact g60.2.2.2.1
  | 64, _ => exact g60.2.2.2.2.1
  | 65, _ => exact g60.2.2.2.2.2.1
  | 66, _ => exact g60.2.2.2.2.2.2
  | 67, _ => exact g67.1
  | 68, _ => exact g67.2
  | 69, _ => exact g69.1
  | 70, _ => exact g69.2.1
  | 71, _ => exact g69.2.2.1
  | 72, _ => exact g69.2.2.2
  | 73, _ => exact g73
  | 74, _ => exact g74.1
  | 75, _ => exact g74.2.1
  | 76, _ => exact g74.2.2.1
  | 77, _ => exact g74.2.2.2.1
  | 78, _ => exact g74.2.2.2.2.1
  | 79, _ => exact g74.2.2.2.2.2.1
  | 80, _ => exact g74.2.2.2.2.2.2
  | 81, _ => exact g81.1
  | 82, _ => exact g81.2
  | 83, _ => exact g83.1
  | 84, _ => exact g83.2.1
  | 85, _ => exact g83.2.2.1
  | 86, _ => exact g83.2.2.2
  | 87, _ => exact g87
  | 88, _ => exact g88.1
  | 89, _ => exact g88.2.1
  | 90, _ => exact g88.2.2.1
  | 91, _ => exact g88.2.2.2.1
  | 92, _ => exact g88.2.2.2.2.1
  | 93, _ => exact g88.2.2.2.2.2.1
  | 94, _ => exact g88.2.2.2.2.2.2
  | 95, _ => exact g95.1
  | 96, _ => exact g95.2
  | 97, _ => exact g97.1
  | 98, _ => exact g97.2.1
  | 99, _ => exact g97.2.2.1
  | 100, _ => exact g97.2.2.2
  | 101, _ => exact g101
  | 102, _ => exact g102.1
  | 103, _ => exact g102.2.1
  | 104, _ => exact g102.2.2.1
  | 105, _ => exact g102.2.2.2.1
  | 106, _ => exact g102.2.2.2.2.1
  | 107, _ => exact g102.2.2.2.2.2.1
  | 108, _ => exact g102.2.2.2.2.2.2
  | 109, _ => exact g109.1
  | 110, _ => exact g109.2
  | 111, _ => exact g111.1
  | 112, _ => exact g111.2.1
  | 113, _ => exact g111.2.2.1
  | 114, _ => exact g111.2.2.2
  | 115, _ => exact g115
  | 116, _ => exact g116.1
  | 117, _ => exact g116.2.1
  | 118, _ => exact g116.2.2.1
  | 119, _ => exact g116.2.2.2.1
  | 120, _ => exact g116.2.2.2.2.1
  | 121, _ => exact g116.2.2.2.2.2.1
  | 122, _ => exact g116.2.2.2.2.2.2
  | 123, _ => exact g123.1
  | 124, _ => exact g123.2
  | 125, _ => exact g125.1
  | 126, _ => exact g125.2.1
  | 127, _ => exact g125.2.2.1
  | 128, _ => exact g125.2.2.2
  | 129, _ => exact g129
  | 130, _ => exact g130.1
  | 131, _ => exact g130.2.1
  | 132, _ => exact g130.2.2.1
  | 133, _ => exact g130.2.2.2.1
  | 134, _ => exact g130.2.2.2.2.1
  | 135, _ => exact g130.2.2.2.2.2.1
  | 136, _ => exact g130.2.2.2.2.2.2
  | 137, _ => exact g137.1
  | 138, _ => exact g137.2
  | 139, _ => exact g139.1
  | 140, _ => exact g139.2.1
  | 141, _ => exact g139.2.2.1
  | 142, _ => exact g139.2.2.2
  | 143, _ => exact g143
  | 144, _ => exact g144.1
  | 145, _ => exact g144.2.1
  | 146, _ => exact g144.2.2.1
  | 147, _ => exact g144.2.2.2.1
  | 148, _ => exact g144.2.2.2.2.1
  | 149, _ => exact g144.2.2.2.2.2.1
  | 150, _ => exact g144.2.2.2.2.2.2
  | 151, _ => exact g151.1
  | 152, _ => exact g151.2
  | 153, _ => exact g153.1
  | 154, _ => exact g153.2.1
  | 155, _ => exact g153.2.2.1
  | 156, _ => exact g153.2.2.2
  | 157, _ => exact g157.1
  | 158, _ => exact g157.2.1
  | 159, _ => exact g157.2.2.1
  | 160, _ => exact g157.2.2.2.1
  | 161, _ => exact g157.2.2.2.2.1
  | 162, _ => exact g157.2.2.2.2.2.1
  | 163, _ => exact g157.2.2.2.2.2.2.1
  | 164, _ => exact g157.2.2.2.2.2.2.2.1
  | 165, _ => exact g157.2.2.2.2.2.2.2.2.1
  | 166, _ => exact g157.2.2.2.2.2.2.2.2.2.1
  | 167, _ => exact g157.2.2.2.2.2.2.2.2.2.2.1
  | 168, _ => exact g157.2.2.2.2.2.2.2.2.2.2.2.1
  | 169, _ => exact g157.2.2.2.2.2.2.2.2.2.2.2.2.1
  | 170, _ => exact g157.2.2.2.2.2.2.2.2.2.2.2.2.2
  | 171, _ => exact g171.1
  | 172, _ => exact g171.2.1
  | 173, _ => exact g171.2.2
  | 174, _ => exact g174.1
  | 175, _ => exact g174.2.1
  | 176, _ => exact g174.2.2.1
  | 177, _ => exact g174.2.2.2.1
  | 178, _ => exact g174.2.2.2.2.1
  | 179, _ => exact g174.2.2.2.2.2.1
  | 180, _ => exact g174.2.2.2.2.2.2.1
  | 181, _ => exact g174.2.2.2.2.2.2.2.1
  | 182, _ => exact g174.2.2.2.2.2.2.2.2.1
  | 183, _ => exact g174.2.2.2.2.2.2.2.2.2.1
  | 184, _ => exact g174.2.2.2.2.2.2.2.2.2.2.1
  | 185, _ => exact g174.2.2.2.2.2.2.2.2.2.2.2.1
  | 186, _ => exact g174.2.2.2.2.2.2.2.2.2.2.2.2.1
  | 187, _ => exact g174.2.2.2.2.2.2.2.2.2.2.2.2.2.1
  | 188, _ => exact g174.2.2.2.2.2.2.2.2.2.2.2.2.2.2.1
  | 189, _ => exact g174.2.2.2.2.2.2.2.2.2.2.2.2.2.2.2.1
  | 190, _ => exact g174.2.2.2.2.2.2.2.2.2.2.2.2.2.2.2.2.1
  | 191, _ => exact g174.2.2.2.2.2.2.2.2.2.2.2.2.2.2.2.2.2.1
  | 192, _ => exact g174.2.2.2.2.2.2.2.2.2.2.2.2.2.2.2.2.2.2.1
  | 193, _ => exact g174.2.2.2.2.2.2.2.2.2.2.2.2.2.2.2.2.2.2.2.1
  | 194, _ => exact g174.2.2.2.2.2.2.2.2.2.2.2.2.2.2.2.2.2.2.2.2
  | 195, _ => exact g195
  | 196, _ => exact g196.1
  | 197, _ => exact g196.2
  | 198, _ => exact g198
  | 199, _ => exact g199.1
  | 200, _ => exact g199.2.1
  | 201, _ => exact g199.2.2.1
  | 202, _ => exact g199.2.2.2.1
  | 203, _ => exact g199.2.2.2.2.1
  | 204, _ => exact g199.2.2.2.2.2.1
  | 205, _ => exact g199.2.2.2.2.2.2.1
  | 206, _ => exact g199.2.2.2.2.2.2.2.1
  | 207, _ => exact g199.2.2.2.2.2.2.2.2.1
  | 208, _ => exact g199.2.2.2.2.2.2.2.2.2.1
  | 209, _ => exact g199.2.2.2.2.2.2.2.2.2.2.1
  | 210, _ => exact g199.2.2.2.2.2.2.2.2.2.2.2.1
  | 211, _ => exact g199.2.2.2.2.2.2.2.2.2.2.2.2.1
  | 212, _ => exact g199.2.2.2.2.2.2.2.2.2.2.2.2.2.1
  | 213, _ => exact g199.2.2.2.2.2.2.2.2.2.2.2.2.2.2.1
  | 214, _ => exact g199.2.2.2.2.2.2.2.2.2.2.2.2.2.2.2.1
  | 215, _ => exact g199.2.2.2.2.2.2.2.2.2.2.2.2.2.2.2.2
  | 216, _ => exact g216.1
  | 217, _ => exact g216.2
  | k + 218, h => exact absurd h (by omega)
theorem fz_H (h : cqz_ D z (EX_ cA z) H) : va_P D bc_cl (bc_ws (gg_ l D cA b z adK) s0_) H := by
  intro k q hk
  have hlt : k < 218 := by
    have := (List.getElem?_eq_some_iff.mp hk).1
    rwa [bc_ws_len] at this
  rw [bc_ws_at hlt] at hk
  cases hk
  rw [gg_ad l D cA b z adK hlt]
  exact fz_all l D cA b z adK (fun i x hx => h.2 i x hx) k hlt

theorem gg_ap : bc_ap (gg_ l D cA b z adK) := by
  refine ⟨fun i j hi hj e => ?_, fun i hi => ?_⟩
  · rw [gg_ad l D cA b z adK hi, gg_ad l D cA b z adK hj] at e
    omega
  · rw [gg_ad l D cA b z adK hi]
    exact Nat.le_add_right z i
end FRE
