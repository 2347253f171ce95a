def bc_tsl : List Cond := (lw_tbl.drop 95).take 60 ++ (lw_tbl.drop 642).take 441
theorem bc_tsl_ok {w : Cond} (h : w ∈ bc_tsl) : w ∈ lw_tbl := by
  rcases List.mem_append.mp h with h | h
  · exact List.mem_of_mem_drop (List.mem_of_mem_take h)
  · exact List.mem_of_mem_drop (List.mem_of_mem_take h)
abbrev bc_nms : List String := ["java/lang/RuntimeException", "java/lang/Exception"]
section BCSITE
variable {p : Program} {e : Env} {R : Room} {s : State} {m : MethodId} {args : Array Value} {below : List Frame} {meth : Method} {c : Code} {g : bc_C} {Y : bc_Y} {d : Nat} {pc : Nat} {lv : bc_LV} {st : List bc_A} {σ : bc_M} {n : Nat}
theorem bc_nms_fit : ∀ z ∈ bc_nms, Bundle.fit z = true := by decide +kernel
set_option maxRecDepth 20000 in
theorem bc_rl3 {L d z : Nat} (h : 60 * d + 460 ≤ L) (hz : z ≤ 8) : z + (13 * (2 + 1) + 43) ≤ L := by omega
theorem bc_site {Rr : Option bc_A → bc_M → Prop} {X : Nat → bc_M → Prop} {ik is ic x i l0 : Nat} {t0 t3 t4 t7 t10 : List Nat} {cls text : String} (F : bc_Fx g Y d p R s m args meth c 0 0) (hnt : ∀ x ∈ c.exceptionTable.toList, False) (how : bc_own Y = 10) (h0 : bc_code Y pc = some (.new ik, l0, t0))
    (h3 : bc_code Y (pc + 3) = some (.dup, 1, t3)) (h4 : bc_code Y (pc + 4) = some (.ldc_w is, 3, t4)) (h7 : bc_code Y (pc + 7) = some (.invokespecial ic, 3, t7)) (h10 : bc_code Y (pc + 10) = some (.athrow, 1, t10))
    (hcx : bc_en x = cls) (hx6 : x < 6) (hi : bc_st[i]? = some (RX10, is, text)) (hcls : Bundle.fit cls = true) (hk : Cond.classLink RX10 ik cls ∈ bc_W) (hini : Cond.initialized cls ∈ bc_W)
    (hat : ∀ w ∈ vx_atS RX10 ic cls bc_nms, w ∈ lw_tbl ∧ (goodWord w = true ∨ bc_isN w = true)) (hgood : ∀ w ∈ Cond.classLink RX10 ik cls :: Cond.initialized cls :: vx_atS RX10 ic cls bc_nms, vx_ot w = true)
    (hst : st.length ≤ 4) (hn1 : n + 1 ≤ bc_cost Y) (h : X ([x].getD 0 0) σ) : bc_T g Y p e R s m args below meth c (vx_MQ below (bc_Qc g Rr) (bc_Xc g X) args s (bc_cost Y) (6 * bc_cost Y) (bc_Z g)) 0 0 pc lv st σ n := by
  obtain ⟨hx, hb, hml, hts, hown, hlocks, hap, htr, hE, hz, hok, hRf, hRl, hRc, hRs, hret⟩ := F
  obtain ⟨d0, -, q0⟩ := hok _ _ _ _ h0
  have hl0 : l0 = 3 := by simpa [bc_ln] using q0
  subst hl0
  obtain ⟨d3, -, -⟩ := hok _ _ _ _ h3
  obtain ⟨d4, -, -⟩ := hok _ _ _ _ h4
  obtain ⟨d7, -, -⟩ := hok _ _ _ _ h7
  obtain ⟨d10, -, -⟩ := hok _ _ _ _ h10
  rw [how] at hown
  intro H locs ls hn hH hS hl
  obtain ⟨sa, hsa⟩ := hE.2.2.2.1 i _ hi
  refine vx_throwSW (A := bc_Z g) (names := bc_nms) hx hb htr (own := RX10) hown hcls bc_nms_fit (hts _ hk) (hts _ hini) hsa (fun w hw => ?_) hgood hE.2.1 hE.2.2.1 hS (hl.1.trans hml.symm) d0 d3 d4 d7 d10 (fun z hz => (hnt z hz).elim) (by show 2 + 3 < R.frames; omega) (bc_rl3 hRl (bc_cat hst)) (by omega) (by omega) hlocks (fun t ht hsz hkp => ?_) hS.2.2 (by omega) (by omega)
  · obtain ⟨q1, q2⟩ := hat w hw
    rcases q2 with q2 | q2
    · exact hts _ (bc_mem_W q1 q2)
    · exact va_Nw.use (A := args) (bc_isN_t q2) (hE.2.2.2.2.2.1 w q1 q2)
  · refine ⟨x, σ, hcx.symm, hx6, h, fun k q hk => (hH k q hk).kept (hkp q.1 ((hH k q hk).lt)), ⟨Nat.le_trans hS.1 hsz, fun q h1 h2 => ?_⟩⟩
    rw [hkp q (Nat.lt_of_lt_of_le h1 hS.1)]
    exact hS.2.1 q h1 h2
end BCSITE
theorem bc_sw_373 : (∀ w ∈ vx_atS RX10 377 "java/lang/IndexOutOfBoundsException" bc_nms, w ∈ bc_tsl ∧ (goodWord w = true ∨ bc_isN w = true)) := by decide +kernel
theorem bc_sg_373 : (∀ w ∈ Cond.classLink RX10 373 "java/lang/IndexOutOfBoundsException" :: Cond.initialized "java/lang/IndexOutOfBoundsException" :: vx_atS RX10 377 "java/lang/IndexOutOfBoundsException" bc_nms, vx_ot w = true) := by decide +kernel
theorem bc_sw_357 : (∀ w ∈ vx_atS RX10 361 "java/lang/IllegalArgumentException" bc_nms, w ∈ bc_tsl ∧ (goodWord w = true ∨ bc_isN w = true)) := by decide +kernel
theorem bc_sg_357 : (∀ w ∈ Cond.classLink RX10 357 "java/lang/IllegalArgumentException" :: Cond.initialized "java/lang/IllegalArgumentException" :: vx_atS RX10 361 "java/lang/IllegalArgumentException" bc_nms, vx_ot w = true) := by decide +kernel
theorem bc_sw_367 : (∀ w ∈ vx_atS RX10 371 "java/lang/IllegalStateException" bc_nms, w ∈ bc_tsl ∧ (goodWord w = true ∨ bc_isN w = true)) := by decide +kernel
theorem bc_sg_367 : (∀ w ∈ Cond.classLink RX10 367 "java/lang/IllegalStateException" :: Cond.initialized "java/lang/IllegalStateException" :: vx_atS RX10 371 "java/lang/IllegalStateException" bc_nms, vx_ot w = true) := by decide +kernel
theorem bc_sw_382 : (∀ w ∈ vx_atS RX10 386 "java/util/NoSuchElementException" bc_nms, w ∈ bc_tsl ∧ (goodWord w = true ∨ bc_isN w = true)) := by decide +kernel
theorem bc_sg_382 : (∀ w ∈ Cond.classLink RX10 382 "java/util/NoSuchElementException" :: Cond.initialized "java/util/NoSuchElementException" :: vx_atS RX10 386 "java/util/NoSuchElementException" bc_nms, vx_ot w = true) := by decide +kernel
theorem bc_sw_387 : (∀ w ∈ vx_atS RX10 391 "java/lang/UnsupportedOperationException" bc_nms, w ∈ bc_tsl ∧ (goodWord w = true ∨ bc_isN w = true)) := by decide +kernel
theorem bc_sg_387 : (∀ w ∈ Cond.classLink RX10 387 "java/lang/UnsupportedOperationException" :: Cond.initialized "java/lang/UnsupportedOperationException" :: vx_atS RX10 391 "java/lang/UnsupportedOperationException" bc_nms, vx_ot w = true) := by decide +kernel
theorem bc_sw_392 : (∀ w ∈ vx_atS RX10 396 "java/lang/ArithmeticException" bc_nms, w ∈ bc_tsl ∧ (goodWord w = true ∨ bc_isN w = true)) := by decide +kernel
theorem bc_sg_392 : (∀ w ∈ Cond.classLink RX10 392 "java/lang/ArithmeticException" :: Cond.initialized "java/lang/ArithmeticException" :: vx_atS RX10 396 "java/lang/ArithmeticException" bc_nms, vx_ot w = true) := by decide +kernel
theorem bc_st_refuse : (List.range 107).all (fun pc => match pX10_refuse pc with | some (.new ix, _, ts) => (Nat.beq pc 40 && Nat.beq ix 373 && decide (ts = [0])) || (Nat.beq pc 51 && Nat.beq ix 357 && decide (ts = [1])) || (Nat.beq pc 62 && Nat.beq ix 367 && decide (ts = [2])) || (Nat.beq pc 73 && Nat.beq ix 382 && decide (ts = [3])) || (Nat.beq pc 84 && Nat.beq ix 387 && decide (ts = [4])) || (Nat.beq pc 95 && Nat.beq ix 392 && decide (ts = [5])) | _ => true) = true := by decide +kernel
theorem bc_NW_refuse (g : bc_C) (d : Nat) : bc_NW g mX10_refuse d := by
  intro p e R s m args below meth c Rr X F hnt pc ix len ts lv st σ n hc hn hts1 hst hX
  have hlt : pc < 107 := by
    rcases Nat.lt_or_ge pc 107 with q | q
    · exact q
    · have h9 : pX10_refuse pc = none := by unfold pX10_refuse; exact bc_cut_none q
      rw [show bc_code mX10_refuse pc = none from h9] at hc; cases hc
  have hk := List.all_eq_true.mp bc_st_refuse pc (List.mem_range.mpr hlt)
  rw [show pX10_refuse pc = some (.new ix, len, ts) from hc] at hk
  simp only [Bool.or_eq_true, Bool.and_eq_true, decide_eq_true_eq] at hk
  rcases hk with (((((⟨⟨h1, h2⟩, rfl⟩ | ⟨⟨h1, h2⟩, rfl⟩) | ⟨⟨h1, h2⟩, rfl⟩) | ⟨⟨h1, h2⟩, rfl⟩) | ⟨⟨h1, h2⟩, rfl⟩) | ⟨⟨h1, h2⟩, rfl⟩)
  · obtain rfl := Nat.eq_of_beq_eq_true h1
    obtain rfl := Nat.eq_of_beq_eq_true h2
    exact bc_site (x := 0) (cls := "java/lang/IndexOutOfBoundsException") (i := 0) (is := 375) (ic := 377) F hnt rfl hc rfl rfl rfl rfl rfl (by decide) rfl (by decide +kernel) (bc_wat_ok (pos := 745) (by decide +kernel)) (bc_wat_ok (pos := 111) (by decide +kernel)) (fun w hw => ⟨bc_tsl_ok (bc_sw_373 w hw).1, (bc_sw_373 w hw).2⟩) bc_sg_373 hst hn hX
  · obtain rfl := Nat.eq_of_beq_eq_true h1
    obtain rfl := Nat.eq_of_beq_eq_true h2
    exact bc_site (x := 1) (cls := "java/lang/IllegalArgumentException") (i := 1) (is := 378) (ic := 361) F hnt rfl hc rfl rfl rfl rfl rfl (by decide) rfl (by decide +kernel) (bc_wat_ok (pos := 758) (by decide +kernel)) (bc_wat_ok (pos := 114) (by decide +kernel)) (fun w hw => ⟨bc_tsl_ok (bc_sw_357 w hw).1, (bc_sw_357 w hw).2⟩) bc_sg_357 hst hn hX
  · obtain rfl := Nat.eq_of_beq_eq_true h1
    obtain rfl := Nat.eq_of_beq_eq_true h2
    exact bc_site (x := 2) (cls := "java/lang/IllegalStateException") (i := 2) (is := 380) (ic := 371) F hnt rfl hc rfl rfl rfl rfl rfl (by decide) rfl (by decide +kernel) (bc_wat_ok (pos := 774) (by decide +kernel)) (bc_wat_ok (pos := 115) (by decide +kernel)) (fun w hw => ⟨bc_tsl_ok (bc_sw_367 w hw).1, (bc_sw_367 w hw).2⟩) bc_sg_367 hst hn hX
  · obtain rfl := Nat.eq_of_beq_eq_true h1
    obtain rfl := Nat.eq_of_beq_eq_true h2
    exact bc_site (x := 3) (cls := "java/util/NoSuchElementException") (i := 3) (is := 384) (ic := 386) F hnt rfl hc rfl rfl rfl rfl rfl (by decide) rfl (by decide +kernel) (bc_wat_ok (pos := 790) (by decide +kernel)) (bc_wat_ok (pos := 116) (by decide +kernel)) (fun w hw => ⟨bc_tsl_ok (bc_sw_382 w hw).1, (bc_sw_382 w hw).2⟩) bc_sg_382 hst hn hX
  · obtain rfl := Nat.eq_of_beq_eq_true h1
    obtain rfl := Nat.eq_of_beq_eq_true h2
    exact bc_site (x := 4) (cls := "java/lang/UnsupportedOperationException") (i := 4) (is := 389) (ic := 391) F hnt rfl hc rfl rfl rfl rfl rfl (by decide) rfl (by decide +kernel) (bc_wat_ok (pos := 806) (by decide +kernel)) (bc_wat_ok (pos := 117) (by decide +kernel)) (fun w hw => ⟨bc_tsl_ok (bc_sw_387 w hw).1, (bc_sw_387 w hw).2⟩) bc_sg_387 hst hn hX
  · obtain rfl := Nat.eq_of_beq_eq_true h1
    obtain rfl := Nat.eq_of_beq_eq_true h2
    exact bc_site (x := 5) (cls := "java/lang/ArithmeticException") (i := 5) (is := 394) (ic := 396) F hnt rfl hc rfl rfl rfl rfl rfl (by decide) rfl (by decide +kernel) (bc_wat_ok (pos := 822) (by decide +kernel)) (bc_wat_ok (pos := 118) (by decide +kernel)) (fun w hw => ⟨bc_tsl_ok (bc_sw_392 w hw).1, (bc_sw_392 w hw).2⟩) bc_sg_392 hst hn hX
theorem bc_st_runScript : (List.range 78).all (fun pc => match pX10_runScript pc with | some (.new ix, _, ts) => (Nat.beq pc 33 && Nat.beq ix 357 && decide (ts = [1])) || (Nat.beq pc 59 && Nat.beq ix 367 && decide (ts = [2])) | _ => true) = true := by decide +kernel
theorem bc_NW_runScript (g : bc_C) (d : Nat) : bc_NW g mX10_runScript d := by
  intro p e R s m args below meth c Rr X F hnt pc ix len ts lv st σ n hc hn hts1 hst hX
  have hlt : pc < 78 := by
    rcases Nat.lt_or_ge pc 78 with q | q
    · exact q
    · have h9 : pX10_runScript pc = none := by unfold pX10_runScript; exact bc_cut_none q
      rw [show bc_code mX10_runScript pc = none from h9] at hc; cases hc
  have hk := List.all_eq_true.mp bc_st_runScript pc (List.mem_range.mpr hlt)
  rw [show pX10_runScript pc = some (.new ix, len, ts) from hc] at hk
  simp only [Bool.or_eq_true, Bool.and_eq_true, decide_eq_true_eq] at hk
  rcases hk with ⟨⟨h1, h2⟩, rfl⟩ | ⟨⟨h1, h2⟩, rfl⟩
  · obtain rfl := Nat.eq_of_beq_eq_true h1
    obtain rfl := Nat.eq_of_beq_eq_true h2
    exact bc_site (x := 1) (cls := "java/lang/IllegalArgumentException") (i := 6) (is := 359) (ic := 361) F hnt rfl hc rfl rfl rfl rfl rfl (by decide) rfl (by decide +kernel) (bc_wat_ok (pos := 758) (by decide +kernel)) (bc_wat_ok (pos := 114) (by decide +kernel)) (fun w hw => ⟨bc_tsl_ok (bc_sw_357 w hw).1, (bc_sw_357 w hw).2⟩) bc_sg_357 hst hn hX
  · obtain rfl := Nat.eq_of_beq_eq_true h1
    obtain rfl := Nat.eq_of_beq_eq_true h2
    exact bc_site (x := 2) (cls := "java/lang/IllegalStateException") (i := 7) (is := 369) (ic := 371) F hnt rfl hc rfl rfl rfl rfl rfl (by decide) rfl (by decide +kernel) (bc_wat_ok (pos := 774) (by decide +kernel)) (bc_wat_ok (pos := 115) (by decide +kernel)) (fun w hw => ⟨bc_tsl_ok (bc_sw_367 w hw).1, (bc_sw_367 w hw).2⟩) bc_sg_367 hst hn hX
