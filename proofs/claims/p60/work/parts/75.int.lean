/-! the builders' and texts' world at the entry -/
theorem sta_sel {args : Array Value} {s : State} (hts : ∀ w ∈ lw_tbl, w.before args s = true) {c : ClassId} (hc : s.vm.findClass "java/lang/StringBuilder" = some c) : ∀ y ∈ sj_ps, va_Nw (.selects "java/lang/StringBuilder" y y) s := by
  intro y hy
  simp only [sj_ps, List.mem_cons, List.not_mem_nil, or_false] at hy
  have h3 := hts (.sameMethod "java/lang/AbstractStringBuilder" "java/lang/AbstractStringBuilder" "length" "()I") (List.mem_of_getElem? (i := 1366) (by decide +kernel))
  have h4 := hts (.instanceMethod ⟨"java/lang/AbstractStringBuilder", "length", "()I"⟩) (List.mem_of_getElem? (i := 1365) (by decide +kernel))
  rcases hy with rfl | rfl | rfl
  · exact va_Nw.of rfl (sw_priv ⟨by decide, by decide⟩ hc (hts _ (List.mem_of_getElem? (i := 1228) (by decide +kernel))) (hts _ (List.mem_of_getElem? (i := 1227) (by decide +kernel))) h3 h4)
  · exact va_Nw.of rfl (sw_priv ⟨by decide, by decide⟩ hc (hts _ (List.mem_of_getElem? (i := 1309) (by decide +kernel))) (hts _ (List.mem_of_getElem? (i := 1308) (by decide +kernel))) h3 h4)
  · exact va_Nw.of rfl (sw_priv ⟨by decide, by decide⟩ hc (hts _ (List.mem_of_getElem? (i := 1305) (by decide +kernel))) (hts _ (List.mem_of_getElem? (i := 1304) (by decide +kernel))) h3 h4)
theorem sta_I {args : Array Value} {s : State} (hts : ∀ w ∈ lw_tbl, w.before args s = true) (hn : ∀ w ∈ nar_, w.before args s = true) : ∃ (E : va_G) (cB : ClassId) (d1 d2 : Nat), sj_I (E, cB, d1, d2, fun q => s.heap.size ≤ q) [] s s.heap := by
  have hW : ∀ w ∈ bc_W, w.before args s = true := fun w hw => hts w (List.mem_filter.mp hw).1
  obtain ⟨c0, i0, h0⟩ := u_known (T := sj_T0) (N := 4) (ws := bc_W) hW sj_w0 (hts (.instantiable "java/lang/StringBuilder" 4) (List.mem_of_getElem? (i := 1187) (by decide +kernel)))
  obtain ⟨c1, i1, h1⟩ := u_known (T := sj_T1) (N := 4) (ws := bc_W) hW sj_w1 (hts (.instantiable "java/lang/String" 4) (List.mem_of_getElem? (i := 474) (by decide +kernel)))
  obtain ⟨cB, a0, b0⟩ := sta_A (t := .byte) (by simp) (hts (.arrayClass .byte) (List.mem_of_getElem? (i := 475) (by decide +kernel)))
  have hA : ∀ a : Nat, a < s.heap.size → ¬ (s.heap.size ≤ a) := fun a h1 h2 => absurd h1 (Nat.not_lt.mpr h2)
  obtain ⟨d1, z1, t1⟩ := ng_go (args := args) (s := s) (n := "DigitOnes") (f := ng_1) (fun w hw => hn w (nd_mem ng_c1 hw)) (hts _ (List.mem_of_getElem? (i := 1264) (by decide +kernel))) (hts _ (List.mem_of_getElem? (i := 74) (by decide +kernel)))
  obtain ⟨d2, z2, t2⟩ := ng_go (args := args) (s := s) (n := "DigitTens") (f := ng_2) (fun w hw => hn w (nd_mem ng_c2 hw)) (hts _ (List.mem_of_getElem? (i := 1266) (by decide +kernel))) (hts _ (List.mem_of_getElem? (i := 74) (by decide +kernel)))
  refine ⟨(fun c => match c with | 0 => c0 | _ => c1, fun c => match c with | 0 => i0 | _ => i1), cB, d1, d2, ⟨fun c q hq => ?_, fun k q hk => ?_⟩, ⟨va_Zof (hts _ (List.mem_of_getElem? (i := 847) (by decide +kernel))) (hts _ (List.mem_of_getElem? (i := 60) (by decide +kernel))) (va_eqt (hn (.eq (.static "java/lang/String" "COMPACT_STRINGS" "Z") (.int 1)) (List.mem_of_getElem? (i := 6) (by decide +kernel)))) hA, va_Zqof (hts _ (List.mem_of_getElem? (i := 871) (by decide +kernel))) (hts _ (List.mem_of_getElem? (i := 69) (by decide +kernel))) (hn (.isRef (.static "jdk/internal/util/Preconditions" "SIOOBE_FORMATTER" "Ljava/util/function/BiFunction;")) (List.mem_of_getElem? (i := 7) (by decide +kernel))) hA⟩, ⟨z1, t1⟩, ⟨z2, t2⟩, fun q hq => hq, sta_sel hts h0.2.1, fun q hq => absurd hq List.not_mem_nil⟩
  · match c, hq with
    | 0, hq => cases hq; exact h0
    | 1, hq => cases hq; exact h1
    | k + 2, hq => cases hq
  · match k, hk with
    | 0, hk => cases hk; exact ⟨a0, b0⟩
    | k + 1, hk => cases hk
