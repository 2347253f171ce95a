section
theorem bc_tk1 {w : Cond} (h : w ∈ tables_1_1) : w ∈ lw_tbl := List.mem_append_right _ (List.mem_append_left _ h)
theorem bc_tk2 {w : Cond} (h : w ∈ tables_1_2) : w ∈ lw_tbl := List.mem_append_right _ (List.mem_append_right _ (List.mem_append_left _ h))
theorem bc_tk3 {w : Cond} (h : w ∈ tables_1_3) : w ∈ lw_tbl := List.mem_append_right _ (List.mem_append_right _ (List.mem_append_right _ (List.mem_append_left _ h)))
theorem bc_tk4 {w : Cond} (h : w ∈ tables_1_4) : w ∈ lw_tbl := List.mem_append_right _ (List.mem_append_right _ (List.mem_append_right _ (List.mem_append_right _ (List.mem_append_left _ h))))
theorem bc_tk5 {w : Cond} (h : w ∈ tables_1_5) : w ∈ lw_tbl := List.mem_append_right _ (List.mem_append_right _ (List.mem_append_right _ (List.mem_append_right _ (List.mem_append_right _ (List.mem_append_left _ h)))))
theorem bc_tk6 {w : Cond} (h : w ∈ tables_1_6) : w ∈ lw_tbl := List.mem_append_right _ (List.mem_append_right _ (List.mem_append_right _ (List.mem_append_right _ (List.mem_append_right _ (List.mem_append_right _ (List.mem_append_left _ h))))))
theorem bc_tk7 {w : Cond} (h : w ∈ tables_1_7) : w ∈ lw_tbl := List.mem_append_right _ (List.mem_append_right _ (List.mem_append_right _ (List.mem_append_right _ (List.mem_append_right _ (List.mem_append_right _ (List.mem_append_right _ (List.mem_append_left _ h)))))))
theorem bc_tk8 {w : Cond} (h : w ∈ tables_1_8) : w ∈ lw_tbl := List.mem_append_right _ (List.mem_append_right _ (List.mem_append_right _ (List.mem_append_right _ (List.mem_append_right _ (List.mem_append_right _ (List.mem_append_right _ (List.mem_append_right _ (List.mem_append_left _ h))))))))
noncomputable abbrev jd_y_length : MethodName := ⟨"java/lang/String", "length", "()I"⟩
noncomputable abbrev jd_c_length : ByteArray := prog_27_method_54_code
theorem jd_w_length : Cond.code jd_y_length jd_c_length 1 (some .int) ∈ bc_W := (bc_mem_W (bc_tk6 (List.mem_of_getElem? (i := 46) rfl)) rfl)
noncomputable abbrev jd_y_coder : MethodName := ⟨"java/lang/String", "coder", "()B"⟩
noncomputable abbrev jd_c_coder : ByteArray := prog_27_method_152_code
theorem jd_w_coder : Cond.code jd_y_coder jd_c_coder 1 (some .byte) ∈ bc_W := (bc_mem_W (bc_tk6 (List.mem_of_getElem? (i := 50) rfl)) rfl)
noncomputable abbrev jd_y_charAt : MethodName := ⟨"java/lang/String", "charAt", "(I)C"⟩
noncomputable abbrev jd_c_charAt : ByteArray := prog_27_method_56_code
theorem jd_w_charAt : Cond.code jd_y_charAt jd_c_charAt 2 (some .char) ∈ bc_W := (bc_mem_W (bc_tk6 (List.mem_of_getElem? (i := 57) rfl)) rfl)
noncomputable abbrev jd_y_isLatin1 : MethodName := ⟨"java/lang/String", "isLatin1", "()Z"⟩
noncomputable abbrev jd_c_isLatin1 : ByteArray := prog_27_method_154_code
theorem jd_w_isLatin1 : Cond.code jd_y_isLatin1 jd_c_isLatin1 1 (some .boolean) ∈ bc_W := (bc_mem_W (bc_tk6 (List.mem_of_getElem? (i := 61) rfl)) rfl)
noncomputable abbrev jd_y_lat : MethodName := ⟨"java/lang/StringLatin1", "charAt", "([BI)C"⟩
noncomputable abbrev jd_c_lat : ByteArray := prog_28_method_2_code
theorem jd_w_lat : Cond.code jd_y_lat jd_c_lat 2 (some .char) ∈ bc_W := (bc_mem_W (bc_tk6 (List.mem_of_getElem? (i := 64) rfl)) rfl)
noncomputable abbrev jd_y_chk : MethodName := ⟨"java/lang/String", "checkIndex", "(II)V"⟩
noncomputable abbrev jd_c_chk : ByteArray := prog_27_method_155_code
theorem jd_w_chk : Cond.code jd_y_chk jd_c_chk 2 (none) ∈ bc_W := (bc_mem_W (bc_tk6 (List.mem_of_getElem? (i := 67) rfl)) rfl)
noncomputable abbrev jd_y_pchk : MethodName := ⟨"jdk/internal/util/Preconditions", "checkIndex", "(IILjava/util/function/BiFunction;)I"⟩
noncomputable abbrev jd_c_pchk : ByteArray := prog_36_method_11_code
theorem jd_w_pchk : Cond.code jd_y_pchk jd_c_pchk 3 (some .int) ∈ bc_W := (bc_mem_W (bc_tk6 (List.mem_of_getElem? (i := 72) rfl)) rfl)
noncomputable abbrev jd_y_f2i : MethodName := ⟨"java/lang/Float", "floatToIntBits", "(F)I"⟩
noncomputable abbrev jd_c_f2i : ByteArray := prog_20_method_24_code
theorem jd_w_f2i : Cond.code jd_y_f2i jd_c_f2i 1 (some .int) ∈ bc_W := (bc_mem_W (bc_tk8 (List.mem_of_getElem? (i := 3) rfl)) rfl)
noncomputable abbrev jd_y_isNaN : MethodName := ⟨"java/lang/Float", "isNaN", "(F)Z"⟩
noncomputable abbrev jd_c_isNaN : ByteArray := prog_20_method_6_code
theorem jd_w_isNaN : Cond.code jd_y_isNaN jd_c_isNaN 1 (some .boolean) ∈ bc_W := (bc_mem_W (bc_tk8 (List.mem_of_getElem? (i := 6) rfl)) rfl)
noncomputable abbrev jd_y_max : MethodName := ⟨"java/lang/Math", "max", "(II)I"⟩
noncomputable abbrev jd_c_max : ByteArray := prog_24_method_65_code
theorem jd_w_max : Cond.code jd_y_max jd_c_max 2 (some .int) ∈ bc_W := (bc_mem_W (bc_tk2 (List.mem_of_getElem? (i := 232) rfl)) rfl)
noncomputable abbrev jd_y_min : MethodName := ⟨"java/lang/Math", "min", "(II)I"⟩
noncomputable abbrev jd_c_min : ByteArray := prog_24_method_69_code
theorem jd_w_min : Cond.code jd_y_min jd_c_min 2 (some .int) ∈ bc_W := (bc_mem_W (bc_tk2 (List.mem_of_getElem? (i := 216) rfl)) rfl)
noncomputable abbrev jd_y_arr : MethodName := ⟨"java/lang/System", "arraycopy", "(Ljava/lang/Object;ILjava/lang/Object;II)V"⟩
theorem jd_d_length_0 : decode jd_c_length 0 = .ok (.aload_n 0, 1) := by decide +kernel
theorem jd_d_length_1 : decode jd_c_length 1 = .ok (.getfield 9, 3) := by decide +kernel
theorem jd_d_length_4 : decode jd_c_length 4 = .ok (.arraylength, 1) := by decide +kernel
theorem jd_d_length_5 : decode jd_c_length 5 = .ok (.aload_n 0, 1) := by decide +kernel
theorem jd_d_length_6 : decode jd_c_length 6 = .ok (.invokevirtual 335, 3) := by decide +kernel
theorem jd_d_length_9 : decode jd_c_length 9 = .ok (.ishr, 1) := by decide +kernel
theorem jd_d_length_10 : decode jd_c_length 10 = .ok (.ireturn, 1) := by decide +kernel
theorem jd_d_coder_0 : decode jd_c_coder 0 = .ok (.getstatic 38, 3) := by decide +kernel
theorem jd_d_coder_3 : decode jd_c_coder 3 = .ok (.ifCond .eq 10, 3) := by decide +kernel
theorem jd_d_coder_6 : decode jd_c_coder 6 = .ok (.aload_n 0, 1) := by decide +kernel
theorem jd_d_coder_7 : decode jd_c_coder 7 = .ok (.getfield 15, 3) := by decide +kernel
theorem jd_d_coder_10 : decode jd_c_coder 10 = .ok (.goto 4, 3) := by decide +kernel
theorem jd_d_coder_14 : decode jd_c_coder 14 = .ok (.ireturn, 1) := by decide +kernel
theorem jd_d_isLatin1_0 : decode jd_c_isLatin1 0 = .ok (.getstatic 38, 3) := by decide +kernel
theorem jd_d_isLatin1_3 : decode jd_c_isLatin1 3 = .ok (.ifCond .eq 14, 3) := by decide +kernel
theorem jd_d_isLatin1_6 : decode jd_c_isLatin1 6 = .ok (.aload_n 0, 1) := by decide +kernel
theorem jd_d_isLatin1_7 : decode jd_c_isLatin1 7 = .ok (.getfield 15, 3) := by decide +kernel
theorem jd_d_isLatin1_10 : decode jd_c_isLatin1 10 = .ok (.ifCond .ne 7, 3) := by decide +kernel
theorem jd_d_isLatin1_13 : decode jd_c_isLatin1 13 = .ok (.iconst 1, 1) := by decide +kernel
theorem jd_d_isLatin1_14 : decode jd_c_isLatin1 14 = .ok (.goto 4, 3) := by decide +kernel
theorem jd_d_isLatin1_18 : decode jd_c_isLatin1 18 = .ok (.ireturn, 1) := by decide +kernel
theorem jd_d_charAt_0 : decode jd_c_charAt 0 = .ok (.aload_n 0, 1) := by decide +kernel
theorem jd_d_charAt_1 : decode jd_c_charAt 1 = .ok (.invokevirtual 492, 3) := by decide +kernel
theorem jd_d_charAt_4 : decode jd_c_charAt 4 = .ok (.ifCond .eq 12, 3) := by decide +kernel
theorem jd_d_charAt_7 : decode jd_c_charAt 7 = .ok (.aload_n 0, 1) := by decide +kernel
theorem jd_d_charAt_8 : decode jd_c_charAt 8 = .ok (.getfield 9, 3) := by decide +kernel
theorem jd_d_charAt_11 : decode jd_c_charAt 11 = .ok (.iload_n 1, 1) := by decide +kernel
theorem jd_d_charAt_12 : decode jd_c_charAt 12 = .ok (.invokestatic 495, 3) := by decide +kernel
theorem jd_d_charAt_15 : decode jd_c_charAt 15 = .ok (.ireturn, 1) := by decide +kernel
theorem jd_d_lat_0 : decode jd_c_lat 0 = .ok (.iload_n 1, 1) := by decide +kernel
theorem jd_d_lat_1 : decode jd_c_lat 1 = .ok (.aload_n 0, 1) := by decide +kernel
theorem jd_d_lat_2 : decode jd_c_lat 2 = .ok (.arraylength, 1) := by decide +kernel
theorem jd_d_lat_3 : decode jd_c_lat 3 = .ok (.invokestatic 9, 3) := by decide +kernel
theorem jd_d_lat_6 : decode jd_c_lat 6 = .ok (.aload_n 0, 1) := by decide +kernel
theorem jd_d_lat_7 : decode jd_c_lat 7 = .ok (.iload_n 1, 1) := by decide +kernel
theorem jd_d_lat_8 : decode jd_c_lat 8 = .ok (.baload, 1) := by decide +kernel
theorem jd_d_lat_9 : decode jd_c_lat 9 = .ok (.sipush 255, 3) := by decide +kernel
theorem jd_d_lat_12 : decode jd_c_lat 12 = .ok (.iand, 1) := by decide +kernel
theorem jd_d_lat_13 : decode jd_c_lat 13 = .ok (.i2c, 1) := by decide +kernel
theorem jd_d_lat_14 : decode jd_c_lat 14 = .ok (.ireturn, 1) := by decide +kernel
theorem jd_d_chk_0 : decode jd_c_chk 0 = .ok (.iload_n 0, 1) := by decide +kernel
theorem jd_d_chk_1 : decode jd_c_chk 1 = .ok (.iload_n 1, 1) := by decide +kernel
theorem jd_d_chk_2 : decode jd_c_chk 2 = .ok (.getstatic 1053, 3) := by decide +kernel
theorem jd_d_chk_5 : decode jd_c_chk 5 = .ok (.invokestatic 1059, 3) := by decide +kernel
theorem jd_d_chk_8 : decode jd_c_chk 8 = .ok (.pop, 1) := by decide +kernel
theorem jd_d_chk_9 : decode jd_c_chk 9 = .ok (.return_, 1) := by decide +kernel
theorem jd_d_pchk_0 : decode jd_c_pchk 0 = .ok (.iload_n 0, 1) := by decide +kernel
theorem jd_d_pchk_1 : decode jd_c_pchk 1 = .ok (.ifCond .lt 8, 3) := by decide +kernel
theorem jd_d_pchk_4 : decode jd_c_pchk 4 = .ok (.iload_n 0, 1) := by decide +kernel
theorem jd_d_pchk_5 : decode jd_c_pchk 5 = .ok (.iload_n 1, 1) := by decide +kernel
theorem jd_d_pchk_6 : decode jd_c_pchk 6 = .ok (.if_icmp .lt 10, 3) := by decide +kernel
theorem jd_d_pchk_16 : decode jd_c_pchk 16 = .ok (.iload_n 0, 1) := by decide +kernel
theorem jd_d_pchk_17 : decode jd_c_pchk 17 = .ok (.ireturn, 1) := by decide +kernel
theorem jd_d_f2i_0 : decode jd_c_f2i 0 = .ok (.fload_n 0, 1) := by decide +kernel
theorem jd_d_f2i_1 : decode jd_c_f2i 1 = .ok (.invokestatic 59, 3) := by decide +kernel
theorem jd_d_f2i_4 : decode jd_c_f2i 4 = .ok (.ifCond .ne 8, 3) := by decide +kernel
theorem jd_d_f2i_7 : decode jd_c_f2i 7 = .ok (.fload_n 0, 1) := by decide +kernel
theorem jd_d_f2i_8 : decode jd_c_f2i 8 = .ok (.invokestatic 74, 3) := by decide +kernel
theorem jd_d_f2i_11 : decode jd_c_f2i 11 = .ok (.ireturn, 1) := by decide +kernel
theorem jd_d_isNaN_0 : decode jd_c_isNaN 0 = .ok (.fload_n 0, 1) := by decide +kernel
theorem jd_d_isNaN_1 : decode jd_c_isNaN 1 = .ok (.fload_n 0, 1) := by decide +kernel
theorem jd_d_isNaN_2 : decode jd_c_isNaN 2 = .ok (.fcmp .l, 1) := by decide +kernel
theorem jd_d_isNaN_3 : decode jd_c_isNaN 3 = .ok (.ifCond .eq 7, 3) := by decide +kernel
theorem jd_d_isNaN_10 : decode jd_c_isNaN 10 = .ok (.iconst 0, 1) := by decide +kernel
theorem jd_d_isNaN_11 : decode jd_c_isNaN 11 = .ok (.ireturn, 1) := by decide +kernel
section JDK
variable {g : bc_C} {adV : Nat → Nat}
/-- what the JDK's own texts rest on -/
noncomputable def jd_I (g : bc_C) (adV : Nat → Nat) (U : State) (H : Heap) : Prop := vk_S 17 bc_tx_len bc_tx_byt (fun i => bc_ad g (1000 + i)) adV (bc_Z g) U H ∧ va_Z "java/lang/String" "COMPACT_STRINGS" "Z" (.int 1) (bc_Z g) U H ∧ va_Zq "jdk/internal/util/Preconditions" "SIOOBE_FORMATTER" "Ljava/util/function/BiFunction;" (bc_Z g) U H
theorem jd_I.go {u U : State} {H H1 : Heap} (hvm : u.vm.Alike U.vm) (hq : ∀ a : Nat, a < H.size → ¬ bc_Z g a → H1[a]? = H[a]?) (h : jd_I g adV u H) : jd_I g adV U H1 :=
  ⟨(h.1.moved hvm).kept hq, (h.2.1.moved hvm).kept hq, (h.2.2.moved hvm).kept hq⟩
noncomputable def jd_rm (k : Nat) : Room := { frames := k, cells := 0, slots := 0, locals := 40 * k }
noncomputable def jd_Q (g : bc_C) (H : Heap) (r : Option Value) : Array Value → State → Outcome → State → Prop := fun _ st o t => (o = .returned r ∧ t.heap = H) ∧ va_F (bc_Z g) st t
noncomputable def jd_Pc (g : bc_C) (adV : Nat → Nat) (as : List Value) (H : Heap) : Array Value → State → Prop := fun v U => v = as.toArray ∧ U.heap = H ∧ jd_I g adV U H
noncomputable def jd_M (g : bc_C) (adV : Nat → Nat) (y : MethodName) (cc : ByteArray) (mL : Nat) (ret : Option FieldType) (k : Nat) (as : List Value) (H : Heap) (r : Option Value) : Prop := Met (bc_l g) y (Cond.code y cc mL ret :: bc_W) (jd_rm k) (jd_Pc g adV as H) (jd_Q g H r) 0 0 (bc_Z g)
theorem jd_blind {as : List Value} {H : Heap} : FrameBlind (jd_Pc g adV as H) := by
  intro a U gg mk h
  obtain ⟨h1, h2, h3⟩ := h
  exact ⟨h1, h2, jd_I.go (u := U) (U := U.calling gg mk a) (Vm.Alike.refl U.vm) (fun _ _ _ => rfl) h3⟩
noncomputable def jd_Fx (g : bc_C) (adV : Nat → Nat) (y : MethodName) (cc : ByteArray) (mL : Nat) (ret : Option FieldType) (k : Nat) (p : Program) (R : Room) (s : State) (m : MethodId) (args : Array Value) (meth : Method) (c : Code) : Prop :=
  p.tables.exec = Jvm.exec ∧ c.code = cc ∧ c.maxLocals = mL ∧ (∀ w ∈ bc_W, w.before args s = true) ∧ s.vm.findClass y.cls = some m.cls ∧ meth.locks = false ∧ jd_I g adV s s.heap ∧ R.frames = k ∧ R.locals = 40 * k ∧ meth.sig.returnType = ret
theorem jd_ofW {y : MethodName} {cc : ByteArray} {mL : Nat} {ret : Option FieldType} {k : Nat} {as : List Value} {H : Heap} {r : Option Value} (hy : plainFor y = true) (hlen : (lg_sl as).length ≤ mL)
    (body : ∀ (p : Program) (e : Env) (R : Room) (s : State) (m : MethodId) (args : Array Value) (below : List Frame) (meth : Method) (c : Code) (ls : Array Slot), jd_Fx g adV y cc mL ret k p R s m args meth c → s.heap = H → lv_has ls mL (lv_args 0 as) → W p (bc_l g) e R s m args below meth c s.heap [] 0 0 (MQ below (jd_Q g H r) args s 0 0 (bc_Z g)) (F0 m 0 ls [])) : jd_M g adV y cc mL ret k as H r := by
  unfold jd_M Met
  refine MetFree.of_bodySF (code := cc) (maxLocals := mL) (ret := ret) hy ?_ ?_
  · intro args s m h hn
    obtain ⟨meth, c, h1, h2, h3, h4, h5, h6, -, -⟩ := Cond.code_spec hn (atoms_spec (ws := Cond.code y cc mL ret :: bc_W) h _ List.mem_cons_self)
    exact ⟨meth, c, h1, h2, h3, h4, h5, h6⟩
  · intro p e s m args below meth c s₁ B hml hv _
    have hh0 : s₁.heap = s.heap := by rw [B.state]; rfl
    obtain ⟨rfl, hH, hI⟩ := hv
    have hts := atoms_spec (ws := Cond.code y cc mL ret :: bc_W) B.pre
    have hl := lv_entry as (n := mL) hlen
    have key : W p (bc_l g) e (headSpec (Cond.code y cc mL ret :: bc_W) (jd_rm k)).room s m as.toArray below meth c s.heap [] 0 0 (MQ below (jd_Q g H r) as.toArray s 0 0 (bc_Z g)) (entryFrame m as.toArray mL) := by
      rw [lg_entry_eq]
      exact body p e _ s m _ below meth c _ ⟨B.exec, B.bytes, hml, fun w h => hts w (List.mem_cons_of_mem _ h), findClass_of_methodNamed B.named, B.notSynchronized, by rw [hH]; exact hI, rfl, rfl, B.returns⟩ hH hl
    obtain ⟨t, a1, o, b1, b2, b3⟩ := key s₁ hh0 (Stand.of_body B)
    exact ⟨t, o, a1, b1, b2, ⟨b3.1, b3.2⟩⟩
section JDC
variable {p : Program} {e : Env} {R : Room} {s : State} {m : MethodId} {args : Array Value} {below : List Frame} {meth : Method} {c : Code} {Q : State → Prop} {H : Heap} {locs : List Loc} {cells slots : Nat} {pc : Nat} {ls : Array Slot} {st0 rest : List Value} {cc : ByteArray}
theorem jd_go {r : Option Value} (hr : va_Run p (bc_l g) e R s m args below meth c H locs cells slots 0 0 (F0 m pc ls st0) rest (fun st o t => (o = .returned r ∧ t.heap = H) ∧ va_F (bc_Z g) st t) (bc_Z g)) (hS : va_S (bc_Z g) s.heap H locs)
    (kk : ∀ locs1 : List Loc, va_S (bc_Z g) s.heap H locs1 → W p (bc_l g) e R s m args below meth c H locs1 cells slots Q (F0 m (pc + 3) ls (r.toList ++ rest))) : W p (bc_l g) e R s m args below meth c H locs cells slots Q (F0 m pc ls st0) := by
  intro T hT X
  obtain ⟨v, st₀, t, T', L, h0, X', hL, e1, e2, ⟨⟨hv, hh⟩, hF⟩, st⟩ := hr T hT X
  cases hv
  obtain ⟨t2, a1, b1⟩ := kk (locs ++ L) ⟨hS.1, hS.2.1, fun q hq => by
    rcases List.mem_append.mp hq with h | h
    · exact hS.2.2 q h
    · exact hL q h⟩ T' (by rw [e1, hh]) X'
  exact ⟨t2, st t2 a1, b1⟩
theorem jd_good {y : MethodName} {bytes : ByteArray} {mL : Nat} {ret : Option FieldType} (hcw : Cond.code y bytes mL ret ∈ bc_W) : GoodIn bc_W (Cond.code y bytes mL ret :: bc_W) := by
  intro w hw
  rcases List.mem_cons.mp hw with e | hw
  · subst e
    exact ⟨hcw, bc_W_good _ hcw⟩
  · exact ⟨hw, bc_W_good _ hw⟩
theorem jd_cS {y : MethodName} {bytes : ByteArray} {mL : Nat} {ret : Option FieldType} {k n ix : Nat} {own : String} {As : List Value} {r : Option Value} (hx : p.tables.exec = Jvm.exec) (hb : c.code = cc) (hml : c.maxLocals = ls.size) (hown : s.vm.findClass own = some m.cls) (hts : ∀ w ∈ bc_W, w.before args s = true) (hI : jd_I g adV s s.heap) (hS : va_S (bc_Z g) s.heap H locs)
    (hM : jd_M g adV y bytes mL ret k As H r) (hcw : Cond.code y bytes mL ret ∈ bc_W) (hini : Cond.initialized y.cls ∈ bc_W) (hl : Cond.methodLink own ix y ∈ bc_W) (hst : Cond.static y ∈ bc_W)
    (hd : y.cls ≠ "java/lang/invoke/MethodHandle" ∧ y.cls ≠ "java/lang/invoke/VarHandle" ∧ (parseMethodDescriptor y.desc).map (fun d => d.parameters.length) = some n) (hR : k + 1 ≤ R.frames ∧ 8 + (mL + 11) + 40 * k ≤ R.locals) (hf : cells ≤ R.cells ∧ slots ≤ R.slots) (hn : As.length = n) (hs0 : st0 = As.reverse ++ rest) (hW : (rest.map fun v => v.category).sum ≤ 8) (hdg : decode cc pc = .ok (.invokestatic ix, 3))
    (kk : ∀ locs1 : List Loc, va_S (bc_Z g) s.heap H locs1 → W p (bc_l g) e R s m args below meth c H locs1 cells slots Q (F0 m (pc + 3) ls (r.toList ++ rest))) : W p (bc_l g) e R s m args below meth c H locs cells slots Q (F0 m pc ls st0) :=
  jd_go (va_runS (As := As) (rest := rest) (Ts := bc_W) (cc := cc) (nL := ls.size) ⟨hx, hb, hml, hown, hts⟩ hM ⟨callB_of n hts (jd_good hcw) rfl rfl rfl (hts _ hini) (hts _ hl) hd hR, hts _ hst⟩ ⟨jd_blind, fun U hU hWm => ⟨rfl, hU, jd_I.go hWm.alike (fun a ha hna => hS.2.1 a ha hna) hI⟩⟩ rfl hn rfl hs0 (lv_room hW) hdg hf) hS kk
theorem jd_cV {y : MethodName} {bytes : ByteArray} {mL : Nat} {ret : Option FieldType} {k n ix b : Nat} {own : String} {As : List Value} {r : Option Value} (hx : p.tables.exec = Jvm.exec) (hb : c.code = cc) (hml : c.maxLocals = ls.size) (hown : s.vm.findClass own = some m.cls) (hts : ∀ w ∈ bc_W, w.before args s = true) (hI : jd_I g adV s s.heap) (hS : va_S (bc_Z g) s.heap H locs)
    (hM : jd_M g adV y bytes mL ret k (.ref b :: As) H r) (hcw : Cond.code y bytes mL ret ∈ bc_W) (hini : Cond.initialized y.cls ∈ bc_W) (hl : Cond.methodLink own ix y ∈ bc_W) (hin : Cond.instanceMethod y ∈ bc_W) (hse : Cond.selects y.cls y y ∈ bc_W) (hrc : ∃ cellB : Cell, H[b]? = some cellB ∧ cellB.vm.isStatics = false ∧ s.vm.findClass y.cls = some cellB.cls)
    (hd : y.cls ≠ "java/lang/invoke/MethodHandle" ∧ y.cls ≠ "java/lang/invoke/VarHandle" ∧ (parseMethodDescriptor y.desc).map (fun d => d.parameters.length) = some n) (hR : k + 1 ≤ R.frames ∧ 8 + (mL + 11) + 40 * k ≤ R.locals) (hf : cells ≤ R.cells ∧ slots ≤ R.slots) (hn : As.length = n) (hs0 : st0 = As.reverse ++ .ref b :: rest) (hW : (rest.map fun v => v.category).sum ≤ 8) (hdg : decode cc pc = .ok (.invokevirtual ix, 3))
    (kk : ∀ locs1 : List Loc, va_S (bc_Z g) s.heap H locs1 → W p (bc_l g) e R s m args below meth c H locs1 cells slots Q (F0 m (pc + 3) ls (r.toList ++ rest))) : W p (bc_l g) e R s m args below meth c H locs cells slots Q (F0 m pc ls st0) :=
  jd_go (va_runV (C := y.cls) (b := b) (As := As) (rest := rest) (Ts := bc_W) (cc := cc) (nL := ls.size) ⟨hx, hb, hml, hown, hts⟩ hM ⟨callB_of n hts (jd_good hcw) rfl rfl rfl (hts _ hini) (hts _ hl) hd hR, hts _ hin, hts _ hse⟩ ⟨jd_blind, hrc, fun U hU hWm => ⟨rfl, hU, jd_I.go hWm.alike (fun a ha hna => hS.2.1 a ha hna) hI⟩⟩ rfl hn rfl hs0 (lv_room hW) hdg hf) hS kk
end JDC
theorem jd_dS : ("java/lang/String" : String) ≠ "java/lang/invoke/MethodHandle" ∧ ("java/lang/String" : String) ≠ "java/lang/invoke/VarHandle" := ⟨by decide +kernel, by decide +kernel⟩
theorem jd_coder {H : Heap} {i : Nat} (hi : i < 17) : jd_M g adV jd_y_coder jd_c_coder 1 (some .byte) 0 [.ref (bc_ad g (1000 + i))] H (some (.int 0)) := by
  refine jd_ofW (by decide +kernel) (Nat.le_of_ble_eq_true rfl) (fun p e R s m args below meth c ls F hH hl => ?_)
  obtain ⟨hx, hb, hml, hts, hown, hlocks, hI, hRf, hRl, hr⟩ := F
  have hl : lv_has ls 1 [(0, .ref (bc_ad g (1000 + i)))] := hl
  have hS : va_S (bc_Z g) s.heap s.heap [] := va_S.rf
  obtain ⟨kO, kC, kV, kT⟩ := hI.1.1 i hi
  refine va_gets hx hb hI.2.1 hS hown (hts _ (bc_wat_ok (pos := 1346) (by decide +kernel))) (fun _ h => h) jd_d_coder_0 ?_
  refine lv_if_eq (tgt := 13) hx hb jd_d_coder_3 (by decide) (fun h => absurd h (by decide)) (fun _ => ?_)
  refine lv_aload_n hx hb jd_d_coder_6 rfl (lv_at hl 0 rfl) ?_
  refine vk_getf hx hb kC hS hown (hts _ (bc_wat_ok (pos := 2033) (by decide +kernel))) (fun _ h => h) jd_d_coder_7 ?_
  refine lv_goto (tgt := 14) hx hb jd_d_coder_10 (by decide) ?_
  exact bc_iret hx hb hr (by decide) (fun t ht hW => ⟨⟨rfl, by rw [ht]; exact hH⟩, hS.F ht⟩) hS.2.2 jd_d_coder_14 hlocks
theorem jd_isLatin1 {H : Heap} {i : Nat} (hi : i < 17) : jd_M g adV jd_y_isLatin1 jd_c_isLatin1 1 (some .boolean) 0 [.ref (bc_ad g (1000 + i))] H (some (.int 1)) := by
  refine jd_ofW (by decide +kernel) (Nat.le_of_ble_eq_true rfl) (fun p e R s m args below meth c ls F hH hl => ?_)
  obtain ⟨hx, hb, hml, hts, hown, hlocks, hI, hRf, hRl, hr⟩ := F
  have hl : lv_has ls 1 [(0, .ref (bc_ad g (1000 + i)))] := hl
  have hS : va_S (bc_Z g) s.heap s.heap [] := va_S.rf
  obtain ⟨kO, kC, kV, kT⟩ := hI.1.1 i hi
  refine va_gets hx hb hI.2.1 hS hown (hts _ (bc_wat_ok (pos := 1346) (by decide +kernel))) (fun _ h => h) jd_d_isLatin1_0 ?_
  refine lv_if_eq (tgt := 17) hx hb jd_d_isLatin1_3 (by decide) (fun h => absurd h (by decide)) (fun _ => ?_)
  refine lv_aload_n hx hb jd_d_isLatin1_6 rfl (lv_at hl 0 rfl) ?_
  refine vk_getf hx hb kC hS hown (hts _ (bc_wat_ok (pos := 2033) (by decide +kernel))) (fun _ h => h) jd_d_isLatin1_7 ?_
  refine lv_if_ne (tgt := 17) hx hb jd_d_isLatin1_10 (by decide) (fun h => absurd rfl h) (fun _ => ?_)
  refine lv_iconst (v := 1) hx hb jd_d_isLatin1_13 (by decide) ?_
  refine lv_goto (tgt := 18) hx hb jd_d_isLatin1_14 (by decide) ?_
  exact bc_iret hx hb hr (by decide) (fun t ht hW => ⟨⟨rfl, by rw [ht]; exact hH⟩, hS.F ht⟩) hS.2.2 jd_d_isLatin1_18 hlocks
theorem jd_tab : ∀ i, i < 17 → bc_tx_len.getD i 0 = (bc_tx i).length ∧ (bc_tx i).length < 2000 ∧ ∀ j, j < (bc_tx i).length → (((bc_tx_byt.getD i []).getD j 0 &&& 255).toUInt32 % 65536).toInt32 = Int32.ofInt (((bc_tx i).getD j 0 : Nat) : Int) ∧ (bc_tx i).getD j 0 ≤ 65535 := by decide +kernel
theorem jd_length {H : Heap} {i : Nat} (hi : i < 17) : jd_M g adV jd_y_length jd_c_length 1 (some .int) 1 [.ref (bc_ad g (1000 + i))] H (some (.int (Int32.ofInt ((bc_tx i).length : Int)))) := by
  refine jd_ofW (by decide +kernel) (Nat.le_of_ble_eq_true rfl) (fun p e R s m args below meth c ls F hH hl => ?_)
  obtain ⟨hx, hb, hml, hts, hown, hlocks, hI, hRf, hRl, hr⟩ := F
  have hl : lv_has ls 1 [(0, .ref (bc_ad g (1000 + i)))] := hl
  have hS : va_S (bc_Z g) s.heap s.heap [] := va_S.rf
  obtain ⟨kO, kC, kV, kT⟩ := hI.1.1 i hi
  obtain ⟨t1, t2, -⟩ := jd_tab i hi
  refine lv_aload_n hx hb jd_d_length_0 rfl (lv_at hl 0 rfl) ?_
  refine vk_getf hx hb kV hS hown (hts _ (bc_wat_ok (pos := 2032) (by decide +kernel))) (fun _ h => h) jd_d_length_1 ?_
  refine va_tlen hx hb kT hS rfl jd_d_length_4 ?_
  refine lv_aload_n hx hb jd_d_length_5 rfl (lv_at hl 0 rfl) ?_
  refine jd_cV (n := 0) (As := []) (rest := [.int _]) hx hb (hml.trans hl.1.symm) hown hts hI hS (jd_coder hi) jd_w_coder (bc_wat_ok (pos := 113) (by decide +kernel)) (bc_wat_ok (pos := 1342) (by decide +kernel)) (bc_wat_ok (pos := 1343) (by decide +kernel)) (bc_wat_ok (pos := 1344) (by decide +kernel)) (vk_recv (i := i) hI.1 hi hS) ⟨jd_dS.1, jd_dS.2, by decide +kernel⟩ ⟨by rw [hRf]; exact Nat.le_refl _, by rw [hRl]; exact Nat.le_of_ble_eq_true rfl⟩ ⟨Nat.zero_le _, Nat.zero_le _⟩ rfl rfl (Nat.le_of_ble_eq_true rfl) jd_d_length_6 (fun locs1 hS => ?_)
  refine lv_ishr hx hb jd_d_length_9 ?_
  refine bc_iret hx hb hr rfl (fun t ht hW => ⟨⟨?_, by rw [ht]; exact hH⟩, hS.F ht⟩) hS.2.2 jd_d_length_10 hlocks
  rw [t1, Int32.ofInt_eq_ofNat]
  have e0 : ∀ x : Int32, x >>> ((0 : Int32) &&& 31) = x := fun x => by
    show x >>> (0 : Int32) = x
    simp
  rw [e0]
theorem jd_pchk {H : Heap} {j n : Int} {v : Value} (hv : v = .null ∨ ∃ t : Nat, v = .ref t) (h0 : 0 ≤ j) (h1 : j < n) (h2 : n < 2000) : jd_M g adV jd_y_pchk jd_c_pchk 3 (some .int) 0 [.int (Int32.ofInt j), .int (Int32.ofInt n), v] H (some (.int (Int32.ofInt j))) := by
  have hcat : v.category = 1 := by rcases hv with rfl | ⟨t, rfl⟩ <;> rfl
  have hsl : (lg_sl [.int (Int32.ofInt j), .int (Int32.ofInt n), v]).length = 3 := by rcases hv with rfl | ⟨t, rfl⟩ <;> rfl
  refine jd_ofW (by decide +kernel) (by rw [hsl]; exact Nat.le_refl _) (fun p e R s m args below meth c ls F hH hl => ?_)
  obtain ⟨hx, hb, hml, hts, hown, hlocks, hI, hRf, hRl, hr⟩ := F
  have hl : lv_has ls 3 [(0, .int (Int32.ofInt j)), (1, .int (Int32.ofInt n)), (2, v)] := by rcases hv with rfl | ⟨t, rfl⟩ <;> exact hl
  have hS : va_S (bc_Z g) s.heap s.heap [] := va_S.rf
  refine lv_iload_n hx hb jd_d_pchk_0 rfl (lv_at hl 0 rfl) ?_
  refine lv_if_lt (tgt := 9) hx hb jd_d_pchk_1 (by decide) (fun h => absurd ((bc_i_lt (y := 0) ⟨by omega, by omega⟩ bc_in_0).mp h) (by omega)) (fun _ => ?_)
  refine lv_iload_n hx hb jd_d_pchk_4 rfl (lv_at hl 0 rfl) ?_
  refine lv_iload_n hx hb jd_d_pchk_5 rfl (lv_at hl 1 rfl) ?_
  refine lv_icmp_lt (tgt := 16) hx hb jd_d_pchk_6 (by decide) (fun _ => ?_) (fun h => absurd ((bc_i_lt ⟨by omega, by omega⟩ ⟨by omega, by omega⟩).mpr h1) h)
  refine lv_iload_n hx hb jd_d_pchk_16 rfl (lv_at hl 0 rfl) ?_
  exact bc_iret hx hb hr rfl (fun t ht hW => ⟨⟨rfl, by rw [ht]; exact hH⟩, hS.F ht⟩) hS.2.2 jd_d_pchk_17 hlocks
theorem jd_chk {H : Heap} {j n : Int} (h0 : 0 ≤ j) (h1 : j < n) (h2 : n < 2000) : jd_M g adV jd_y_chk jd_c_chk 2 none 1 [.int (Int32.ofInt j), .int (Int32.ofInt n)] H none := by
  refine jd_ofW (by decide +kernel) (Nat.le_of_ble_eq_true rfl) (fun p e R s m args below meth c ls F hH hl => ?_)
  obtain ⟨hx, hb, hml, hts, hown, hlocks, hI, hRf, hRl, hr⟩ := F
  have hl : lv_has ls 2 [(0, .int (Int32.ofInt j)), (1, .int (Int32.ofInt n))] := hl
  have hS : va_S (bc_Z g) s.heap s.heap [] := va_S.rf
  refine lv_iload_n hx hb jd_d_chk_0 rfl (lv_at hl 0 rfl) ?_
  refine lv_iload_n hx hb jd_d_chk_1 rfl (lv_at hl 1 rfl) ?_
  have go : ∀ v : Value, (v = .null ∨ ∃ t : Nat, v = .ref t) → W p (bc_l g) e R s m args below meth c s.heap [] 0 0 (MQ below (jd_Q g H none) args s 0 0 (bc_Z g)) (F0 m 5 ls [v, .int (Int32.ofInt n), .int (Int32.ofInt j)]) := by
    intro v hv
    refine jd_cS (n := 3) (As := [.int (Int32.ofInt j), .int (Int32.ofInt n), v]) (rest := []) hx hb (hml.trans hl.1.symm) hown hts hI hS (jd_pchk hv h0 h1 h2) jd_w_pchk (bc_wat_ok (pos := 124) (by decide +kernel)) (bc_wat_ok (pos := 1365) (by decide +kernel)) (bc_wat_ok (pos := 1366) (by decide +kernel)) ⟨by decide +kernel, by decide +kernel, by decide +kernel⟩ ⟨by rw [hRf]; exact Nat.le_refl _, by rw [hRl]; exact Nat.le_of_ble_eq_true rfl⟩ ⟨Nat.zero_le _, Nat.zero_le _⟩ rfl rfl (Nat.le_of_ble_eq_true rfl) jd_d_chk_5 (fun locs1 hS => ?_)
    refine lv_pop hx hb jd_d_chk_8 rfl ?_
    exact W.vret hx hb hr (fun t ht hW => ⟨⟨rfl, by rw [ht]; exact hH⟩, hS.F ht⟩) hS.2.2 jd_d_chk_9 hlocks
  rcases hI.2.2 with hz | ⟨t, hz⟩
  · exact va_gets hx hb hz hS hown (hts _ (bc_wat_ok (pos := 1363) (by decide +kernel))) (fun _ h => h) jd_d_chk_2 (go _ (Or.inl rfl))
  · exact va_gets hx hb hz hS hown (hts _ (bc_wat_ok (pos := 1363) (by decide +kernel))) (fun _ h => h) jd_d_chk_2 (go _ (Or.inr ⟨t, rfl⟩))
theorem jd_lat {H : Heap} {i : Nat} (hi : i < 17) {j : Int} (h0 : 0 ≤ j) (h1 : j < ((bc_tx i).length : Int)) : jd_M g adV jd_y_lat jd_c_lat 2 (some .char) 2 [.ref (adV i), .int (Int32.ofInt j)] H (some (.int (Int32.ofInt (((bc_tx i).getD j.toNat 0 : Nat) : Int)))) := by
  refine jd_ofW (by decide +kernel) (Nat.le_of_ble_eq_true rfl) (fun p e R s m args below meth c ls F hH hl => ?_)
  obtain ⟨hx, hb, hml, hts, hown, hlocks, hI, hRf, hRl, hr⟩ := F
  have hl : lv_has ls 2 [(0, .ref (adV i)), (1, .int (Int32.ofInt j))] := hl
  have hS : va_S (bc_Z g) s.heap s.heap [] := va_S.rf
  obtain ⟨kO, kC, kV, kT⟩ := hI.1.1 i hi
  obtain ⟨t1, t2, t3⟩ := jd_tab i hi
  obtain ⟨t4, t5⟩ := t3 j.toNat (by omega)
  rw [t1] at kT
  obtain ⟨hin, hcl⟩ := bc_vp h0 h1 t2
  refine lv_iload_n hx hb jd_d_lat_0 rfl (lv_at hl 1 rfl) ?_
  refine lv_aload_n hx hb jd_d_lat_1 rfl (lv_at hl 0 rfl) ?_
  refine va_tlen hx hb kT hS (v := Int32.ofInt ((bc_tx i).length : Int)) Int32.ofInt_eq_ofNat.symm jd_d_lat_2 ?_
  refine jd_cS (n := 2) (As := [.int (Int32.ofInt j), .int (Int32.ofInt ((bc_tx i).length : Int))]) (rest := []) hx hb (hml.trans hl.1.symm) hown hts hI hS (jd_chk h0 h1 (by omega)) jd_w_chk (bc_wat_ok (pos := 113) (by decide +kernel)) (bc_wat_ok (pos := 1360) (by decide +kernel)) (bc_wat_ok (pos := 1361) (by decide +kernel)) ⟨jd_dS.1, jd_dS.2, by decide +kernel⟩ ⟨by rw [hRf]; exact Nat.le_refl _, by rw [hRl]; exact Nat.le_of_ble_eq_true rfl⟩ ⟨Nat.zero_le _, Nat.zero_le _⟩ rfl rfl (Nat.le_of_ble_eq_true rfl) jd_d_lat_3 (fun locs1 hS => ?_)
  refine lv_aload_n hx hb jd_d_lat_6 rfl (lv_at hl 0 rfl) ?_
  refine lv_iload_n hx hb jd_d_lat_7 rfl (lv_at hl 1 rfl) ?_
  refine va_tb hx hb kT hS hin rfl jd_d_lat_8 ?_
  rw [hcl]
  refine lv_sipush (v := 255) hx hb jd_d_lat_9 (by decide) ?_
  refine lv_iand hx hb jd_d_lat_12 ?_
  refine lv_i2c hx hb jd_d_lat_13 t4 ?_
  exact bc_iret hx hb hr (bc_fit_e (ty := 1) (A := True) ⟨⟨by omega, by omega⟩, trivial⟩).2.2.1 (fun t ht hW => ⟨⟨rfl, by rw [ht]; exact hH⟩, hS.F ht⟩) hS.2.2 jd_d_lat_14 hlocks
theorem jd_charAt {H : Heap} {i : Nat} (hi : i < 17) {j : Int} (h0 : 0 ≤ j) (h1 : j < ((bc_tx i).length : Int)) : jd_M g adV jd_y_charAt jd_c_charAt 2 (some .char) 3 [.ref (bc_ad g (1000 + i)), .int (Int32.ofInt j)] H (some (.int (Int32.ofInt (((bc_tx i).getD j.toNat 0 : Nat) : Int)))) := by
  refine jd_ofW (by decide +kernel) (Nat.le_of_ble_eq_true rfl) (fun p e R s m args below meth c ls F hH hl => ?_)
  obtain ⟨hx, hb, hml, hts, hown, hlocks, hI, hRf, hRl, hr⟩ := F
  have hl : lv_has ls 2 [(0, .ref (bc_ad g (1000 + i))), (1, .int (Int32.ofInt j))] := hl
  have hS : va_S (bc_Z g) s.heap s.heap [] := va_S.rf
  obtain ⟨kO, kC, kV, kT⟩ := hI.1.1 i hi
  obtain ⟨t1, t2, t3⟩ := jd_tab i hi
  obtain ⟨-, t5⟩ := t3 j.toNat (by omega)
  refine lv_aload_n hx hb jd_d_charAt_0 rfl (lv_at hl 0 rfl) ?_
  refine jd_cV (n := 0) (As := []) (rest := []) hx hb (hml.trans hl.1.symm) hown hts hI hS (jd_isLatin1 hi) jd_w_isLatin1 (bc_wat_ok (pos := 113) (by decide +kernel)) (bc_wat_ok (pos := 1353) (by decide +kernel)) (bc_wat_ok (pos := 1354) (by decide +kernel)) (bc_wat_ok (pos := 1355) (by decide +kernel)) (vk_recv (i := i) hI.1 hi hS) ⟨jd_dS.1, jd_dS.2, by decide +kernel⟩ ⟨by rw [hRf]; exact Nat.le_of_ble_eq_true rfl, by rw [hRl]; exact Nat.le_of_ble_eq_true rfl⟩ ⟨Nat.zero_le _, Nat.zero_le _⟩ rfl rfl (Nat.le_of_ble_eq_true rfl) jd_d_charAt_1 (fun locs1 hS => ?_)
  refine lv_if_eq (tgt := 16) hx hb jd_d_charAt_4 (by decide) (fun h => absurd h (by decide)) (fun _ => ?_)
  refine lv_aload_n hx hb jd_d_charAt_7 rfl (lv_at hl 0 rfl) ?_
  refine vk_getf hx hb kV hS hown (hts _ (bc_wat_ok (pos := 2032) (by decide +kernel))) (fun _ h => h) jd_d_charAt_8 ?_
  refine lv_iload_n hx hb jd_d_charAt_11 rfl (lv_at hl 1 rfl) ?_
  refine jd_cS (n := 2) (As := [.ref (adV i), .int (Int32.ofInt j)]) (rest := []) hx hb (hml.trans hl.1.symm) hown hts hI hS (jd_lat hi h0 h1) jd_w_lat (bc_wat_ok (pos := 123) (by decide +kernel)) (bc_wat_ok (pos := 1357) (by decide +kernel)) (bc_wat_ok (pos := 1358) (by decide +kernel)) ⟨by decide +kernel, by decide +kernel, by decide +kernel⟩ ⟨by rw [hRf]; exact Nat.le_refl _, by rw [hRl]; exact Nat.le_of_ble_eq_true rfl⟩ ⟨Nat.zero_le _, Nat.zero_le _⟩ rfl rfl (Nat.le_of_ble_eq_true rfl) jd_d_charAt_12 (fun locs1 hS => ?_)
  exact bc_iret hx hb hr (bc_fit_e (ty := 1) (A := True) ⟨⟨by omega, by omega⟩, trivial⟩).2.2.1 (fun t ht hW => ⟨⟨rfl, by rw [ht]; exact hH⟩, hS.F ht⟩) hS.2.2 jd_d_charAt_15 hlocks
theorem jd_cmp0 (a : Int) : compare a a = .eq := by simp [compare, compareOfLessAndEq]
theorem jd_n31 {x : UInt32} (h : vf_n32 x) : x.toNat % 2147483648 ≤ 2139095040 := by
  have h2 : (x &&& 0x7fffffff).toNat ≤ (0x7f800000 : UInt32).toNat := UInt32.le_iff_toNat_le.mp h
  rw [UInt32.toNat_and] at h2
  have h3 : x.toNat &&& (2 ^ 31 - 1) = x.toNat % 2 ^ 31 := Nat.and_two_pow_sub_one_eq_mod _ _
  have h4 : (0x7fffffff : UInt32).toNat = 2 ^ 31 - 1 := by decide
  rw [h4, h3] at h2
  exact h2
theorem jd_nn {x : UInt32} (h : vf_n32 x) : FP.fcmp x x = some .eq := by
  have hb := jd_n31 h
  show FP.Core.order (FP.Core.decode FP.Core.b32 x.toNat) (FP.Core.decode FP.Core.b32 x.toNat) = some .eq
  have hd : FP.Core.decode FP.Core.b32 x.toNat ≠ .nan := by
    unfold FP.Core.decode
    split
    · rename_i hE
      have e1 : x.toNat / 8388608 % 256 = 255 := hE
      have e2 : FP.Core.fieldT FP.Core.b32 x.toNat = 0 := by
        show x.toNat % 8388608 = 0
        omega
      rw [if_pos e2]
      intro q
      cases q
    · split <;> (intro q; cases q)
  cases hq : FP.Core.decode FP.Core.b32 x.toNat with
  | nan => exact absurd hq hd
  | inf s => exact congrArg some (jd_cmp0 _)
  | fin s c q => exact congrArg some (jd_cmp0 _)
theorem jd_isNaN {H : Heap} {x : UInt32} (hn : vf_n32 x) : jd_M g adV jd_y_isNaN jd_c_isNaN 1 (some .boolean) 0 [.float x] H (some (.int 0)) := by
  refine jd_ofW (by decide +kernel) (Nat.le_of_ble_eq_true rfl) (fun p e R s m args below meth c ls F hH hl => ?_)
  obtain ⟨hx, hb, hml, hts, hown, hlocks, hI, hRf, hRl, hr⟩ := F
  have hl : lv_has ls 1 [(0, .float x)] := hl
  have hS : va_S (bc_Z g) s.heap s.heap [] := va_S.rf
  refine lv_fload_n hx hb jd_d_isNaN_0 rfl (lv_at hl 0 rfl) ?_
  refine lv_fload_n hx hb jd_d_isNaN_1 rfl (lv_at hl 0 rfl) ?_
  refine lv_fcmp hx hb jd_d_isNaN_2 ?_
  rw [jd_nn hn]
  refine lv_if_eq (tgt := 10) hx hb jd_d_isNaN_3 (by decide) (fun _ => ?_) (fun h => absurd rfl h)
  refine lv_iconst (v := 0) hx hb jd_d_isNaN_10 (by decide) ?_
  exact bc_iret hx hb hr (by decide) (fun t ht hW => ⟨⟨rfl, by rw [ht]; exact hH⟩, hS.F ht⟩) hS.2.2 jd_d_isNaN_11 hlocks
theorem jd_f2i {H : Heap} {x : UInt32} (hn : vf_n32 x) : jd_M g adV jd_y_f2i jd_c_f2i 1 (some .int) 1 [.float x] H (some (.int x.toInt32)) := by
  refine jd_ofW (by decide +kernel) (Nat.le_of_ble_eq_true rfl) (fun p e R s m args below meth c ls F hH hl => ?_)
  obtain ⟨hx, hb, hml, hts, hown, hlocks, hI, hRf, hRl, hr⟩ := F
  have hl : lv_has ls 1 [(0, .float x)] := hl
  have hS : va_S (bc_Z g) s.heap s.heap [] := va_S.rf
  refine lv_fload_n hx hb jd_d_f2i_0 rfl (lv_at hl 0 rfl) ?_
  refine jd_cS (n := 1) (As := [.float x]) (rest := []) hx hb (hml.trans hl.1.symm) hown hts hI hS (jd_isNaN hn) jd_w_isNaN (bc_wat_ok (pos := 122) (by decide +kernel)) (bc_wat_ok (pos := 1779) (by decide +kernel)) (bc_wat_ok (pos := 1780) (by decide +kernel)) ⟨by decide +kernel, by decide +kernel, by decide +kernel⟩ ⟨by rw [hRf]; exact Nat.le_refl _, by rw [hRl]; exact Nat.le_of_ble_eq_true rfl⟩ ⟨Nat.zero_le _, Nat.zero_le _⟩ rfl rfl (Nat.le_of_ble_eq_true rfl) jd_d_f2i_1 (fun locs1 hS => ?_)
  refine lv_if_ne (tgt := 12) hx hb jd_d_f2i_4 (by decide) (fun h => absurd rfl h) (fun _ => ?_)
  refine lv_fload_n hx hb jd_d_f2i_7 rfl (lv_at hl 0 rfl) ?_
  refine vn_f2i hx hb (hml.trans hl.1.symm) hown (hts _ (bc_wat_ok (pos := 1782) (by decide +kernel))) (hts _ (bc_wat_ok (pos := 1784) (by decide +kernel))) (hts _ (bc_wat_ok (pos := 1783) (by decide +kernel))) (hts _ (bc_wat_ok (pos := 122) (by decide +kernel))) (by rw [hRf]; exact Nat.le_refl _) (by rw [hRl]; exact Nat.le_of_ble_eq_true rfl) jd_d_f2i_8 ?_
  exact bc_iret hx hb hr rfl (fun t ht hW => ⟨⟨rfl, by rw [ht]; exact hH⟩, hS.F ht⟩) hS.2.2 jd_d_f2i_11 hlocks
end JDK
end
section
/-- the places of the links to the JDK's methods -/
noncomputable def bc_jp (ow k : Nat) : Nat := match ow with
  | 0 => (bif Nat.beq k 26 then 609 else 0)
  | 1 => (bif Nat.beq k 29 then 843 else 0)
  | 2 => (bif Nat.blt k 41 then (bif Nat.beq k 35 then 626 else 0) else (bif Nat.blt k 47 then (bif Nat.beq k 41 then 848 else 0) else (bif Nat.beq k 47 then 849 else 0)))
  | 3 => (bif Nat.beq k 19 then 633 else 0)
  | 4 => (bif Nat.beq k 80 then 549 else 0)
  | 5 => (bif Nat.blt k 61 then (bif Nat.beq k 57 then 1338 else 0) else (bif Nat.blt k 71 then (bif Nat.beq k 61 then 1387 else 0) else (bif Nat.beq k 71 then 1349 else 0)))
  | 8 => (bif Nat.blt k 72 then (bif Nat.beq k 52 then 638 else 0) else (bif Nat.beq k 72 then 1233 else 0))
  | 9 => (bif Nat.blt k 59 then (bif Nat.beq k 53 then 564 else 0) else (bif Nat.beq k 59 then 565 else 0))
  | 11 => (bif Nat.blt k 187 then (bif Nat.blt k 89 then (bif Nat.beq k 84 then 1598 else 0) else (bif Nat.beq k 89 then 1599 else 0)) else (bif Nat.blt k 250 then (bif Nat.beq k 187 then 1776 else 0) else (bif Nat.beq k 250 then 1970 else 0)))
  | _ => 0
noncomputable def bc_jn (k : Nat) : MethodName := match k with
  | 0 => jd_y_max
  | 1 => jd_y_min
  | 2 => jd_y_arr
  | 3 => jd_y_f2i
  | 4 => jd_y_length
  | _ => jd_y_charAt
noncomputable def bc_jc (ow ix : Nat) : Bool := match bc_ml ow ix with
  | some (.inr k) => bc_wat (bc_jp ow ix) (.methodLink (bc_rn ow) ix (bc_jn k)) && Nat.blt k 6
  | _ => true
theorem bc_jk0 : (List.range 10).all (fun ow => (List.range 512).all (fun ix => bc_jc ow ix)) = true := by decide +kernel
theorem bc_jk1 : (List.range 512).all (fun ix => bc_jc 10 ix) = true := by decide +kernel
theorem bc_jk2 : (List.range 512).all (fun ix => bc_jc 11 ix) = true := by decide +kernel
theorem bc_jk3 : (List.range 512).all (fun ix => bc_jc 12 ix) = true := by decide +kernel
theorem bc_j_ok {ow ix k : Nat} (h : bc_ml ow ix = some (.inr k)) : Cond.methodLink (bc_rn ow) ix (bc_jn k) ∈ bc_W ∧ k < 6 := by
  obtain ⟨h1, h2⟩ := bc_ml_lt h
  have h3 := List.mem_range.mpr h2
  have key : bc_jc ow ix = true := by
    by_cases h4 : ow < 10
    · exact List.all_eq_true.mp (List.all_eq_true.mp bc_jk0 ow (List.mem_range.mpr h4)) ix h3
    · have h5 : ow = 10 ∨ ow = 11 ∨ ow = 12 := by omega
      rcases h5 with h5 | h5 | h5
      · rw [h5]; exact List.all_eq_true.mp bc_jk1 ix h3
      · rw [h5]; exact List.all_eq_true.mp bc_jk2 ix h3
      · rw [h5]; exact List.all_eq_true.mp bc_jk3 ix h3
  unfold bc_jc at key
  rw [h] at key
  simp only [Bool.and_eq_true] at key
  exact ⟨bc_wat_ok key.1, Nat.le_of_ble_eq_true key.2⟩
theorem bc_nng {x : Int} (h0 : 0 ≤ x) (h1 : x < 2000) : ¬ Int32.ofInt x < 0 ∧ (Int32.ofInt x).toNatClampNeg = x.toNat := by
  have ht : (Int32.ofInt x).toInt = x := bc_i_t ⟨by omega, by omega⟩
  refine ⟨fun h => ?_, ?_⟩
  · have := (bc_i_lt (y := 0) ⟨by omega, by omega⟩ bc_in_0).mp h
    omega
  · show (Int32.ofInt x).toInt.toNat = _
    rw [ht]
section BCJ
variable {p : Program} {e : Env} {R : Room} {s : State} {m : MethodId} {args : Array Value} {below : List Frame} {meth : Method} {c : Code} {Q : State → Prop} {g : bc_C} {Y : bc_Y} {d : Nat} {pc : Nat} {lv : bc_LV} {st r : List bc_A} {σ : bc_M} {n c0 s0 : Nat}
theorem bc_cat8 {r : List bc_A} (h : r.length ≤ 8) : ((r.map (bc_v g)).map fun v => v.category).sum ≤ 16 := by
  have h1 : ∀ l : List bc_A, ((l.map (bc_v g)).map fun v => v.category).sum ≤ 2 * l.length := by
    intro l
    induction l with
    | nil => simp
    | cons a l ih =>
      simp only [List.map_cons, List.sum_cons, List.length_cons]
      have : (bc_v g a).category ≤ 2 := by rw [bc_v_wide]; split <;> omega
      omega
  have := h1 r
  omega
set_option maxRecDepth 20000 in
theorem bc_rl {L d z k : Nat} (h : 60 * d + 460 ≤ L) (hz : z ≤ 16) (hk : k ≤ 40) : z + k ≤ L := by omega
set_option maxRecDepth 20000 in
theorem bc_rl2 {L d z k : Nat} (h : 60 * d + 460 ≤ L) (hz : z ≤ 2) (hk : k ≤ 3) : 8 + (z + 11) + 40 * k ≤ L := by omega
theorem bc_max {x y : Int} (hx : bc_in x) (hy : bc_in y) : (if Int32.ofInt x < Int32.ofInt y then Int32.ofInt y else Int32.ofInt x) = Int32.ofInt (max x y) := by
  by_cases h : x < y
  · rw [if_pos ((bc_i_lt hx hy).mpr h), Int.max_eq_right (by omega)]
  · rw [if_neg (fun q => h ((bc_i_lt hx hy).mp q)), Int.max_eq_left (by omega)]
theorem bc_min {x y : Int} (hx : bc_in x) (hy : bc_in y) : (if Int32.ofInt y < Int32.ofInt x then Int32.ofInt y else Int32.ofInt x) = Int32.ofInt (min x y) := by
  by_cases h : y < x
  · rw [if_pos ((bc_i_lt hy hx).mpr h), Int.min_eq_right (by omega)]
  · rw [if_neg (fun q => h ((bc_i_lt hy hx).mp q)), Int.min_eq_left (by omega)]
theorem bc_jdI (h : bc_E g s s.heap) : ∃ adV, jd_I g adV s s.heap := by
  obtain ⟨h1, h2, h3, h4, h5, h7, h9, ⟨adV, h6⟩, h10, h11⟩ := h
  exact ⟨adV, h6, h10, h11⟩
theorem bc_sh_arr0 {k w : Nat} (hs : bc_sh k = some (.inr (.inl (0, w)))) : w < 2000 := by
  have h3 := bc_sh_ok (bc_sh_lt hs)
  unfold bc_shc at h3
  rw [hs] at h3
  simp only [Bool.and_eq_true, decide_eq_true_eq] at h3
  exact h3.2
/-- what a copy makes -/
theorem bc_ws_cy {ks kd n0 n1 : Nat} {sp dp z : Int} (hs0 : bc_sh ks = some (.inr (.inl (0, n0)))) (hs1 : bc_sh kd = some (.inr (.inl (0, n1)))) (h0 : 0 ≤ sp) (h1 : 0 ≤ dp) (h2 : 0 ≤ z) :
    (bc_ws g σ).set kd (bc_ad g kd, .inl (bc_cA g 0, n1, .inl (va_cpy (fun j : Nat => Int32.ofInt (σ.1 ks (j : Int))) (fun j : Nat => Int32.ofInt (σ.1 kd (j : Int))) sp.toNat dp.toNat z.toNat))) = bc_ws g (bc_cy σ ks kd sp dp z) := by
  refine bc_ws_set (bc_sh_lt hs1) ?_ (fun i hi hne => bc_e_same (fun i hi => by funext x; simp [bc_cy, hi]) rfl hne (fun b i w hr hb => ?_))
  · rw [bc_e_arr hs1]
    congr 3
    congr 1
    funext q
    unfold va_cpy bc_cy
    dsimp only
    rw [if_pos rfl]
    by_cases hq : dp ≤ (q : Int) ∧ (q : Int) < dp + z
    · have e9 : ((sp.toNat + (q - dp.toNat) : Nat) : Int) = sp + ((q : Int) - dp) := by omega
      rw [if_pos hq, if_pos (by omega), e9]
    · rw [if_neg hq, if_neg (by omega)]
  · obtain ⟨u, h5, -⟩ := bc_row_grid hr
    rw [hb, hs1] at h5
    cases h5
theorem bc_jdk_all (g : bc_C) (Y : bc_Y) (d : Nat) : bc_JDK g Y d := by
  intro p e R s m args below meth c Q c0 s0 F k i ix pc lv st σ n hml hi hd h
  obtain ⟨hx, hb, hmL, hts, hown, hlocks, hap, htr, hE, hz, hok, hRf, hRl, hRc, hRs, -⟩ := F
  obtain ⟨hlink, hk6⟩ := bc_j_ok hml
  obtain ⟨adV, hI⟩ := bc_jdI hE
  have hfr : 1 ≤ R.frames := by omega
  intro H locs ls hn hH hS hl
  have hcell : c0 + n ≤ R.cells ∧ s0 + 6 * n ≤ R.slots := ⟨by omega, by omega⟩
  have hls : c.maxLocals = ls.size := hmL.trans hl.1.symm
  have hh : k = 0 ∨ k = 1 ∨ k = 2 ∨ k = 3 ∨ k = 4 ∨ k = 5 := by omega
  rcases hh with rfl | rfl | rfl | rfl | rfl | rfl
  · obtain ⟨-, rfl⟩ : (0 : Nat) < 4 ∧ i = .invokestatic ix := by rcases hi with q | q; exact q; omega
    obtain ⟨y, r1, rfl, hA⟩ := bc_pI_e (show bc_pI st _ from h)
    obtain ⟨x, r2, rfl, ⟨hx1, hy1, hr8⟩, hB⟩ := bc_pI_e hA
    refine va_mmax hx hb hls hown (hts _ hlink) (hts _ (bc_wat_ok (pos := 566) (by decide +kernel))) (hts _ (bc_wat_ok (pos := 120) (by decide +kernel))) (hts _ jd_w_max) hfr (bc_rl hRl (bc_cat8 hr8) (by decide)) hcell.1 hcell.2 hd ?_
    rw [bc_max hx1 hy1]
    exact hB H locs ls hn hH hS hl
  · obtain ⟨-, rfl⟩ : (1 : Nat) < 4 ∧ i = .invokestatic ix := by rcases hi with q | q; exact q; omega
    obtain ⟨y, r1, rfl, hA⟩ := bc_pI_e (show bc_pI st _ from h)
    obtain ⟨x, r2, rfl, ⟨hx1, hy1, hr8⟩, hB⟩ := bc_pI_e hA
    refine va_mmin hx hb hls hown (hts _ hlink) (hts _ (bc_wat_ok (pos := 550) (by decide +kernel))) (hts _ (bc_wat_ok (pos := 120) (by decide +kernel))) (hts _ jd_w_min) hfr (bc_rl hRl (bc_cat8 hr8) (by decide)) hcell.1 hcell.2 hd ?_
    rw [bc_min hx1 hy1]
    exact hB H locs ls hn hH hS hl
  · obtain ⟨-, rfl⟩ : (2 : Nat) < 4 ∧ i = .invokestatic ix := by rcases hi with q | q; exact q; omega
    obtain ⟨z, r1, rfl, hA⟩ := bc_pI_e (show bc_pI st _ from h)
    obtain ⟨dp, r2, rfl, hA2⟩ := bc_pI_e hA
    obtain ⟨kd, r3, rfl, hA3⟩ := bc_pR_e hA2
    obtain ⟨sp, r4, rfl, hA4⟩ := bc_pI_e hA3
    obtain ⟨ks, r5, rfl, hA5⟩ := bc_pR_e hA4
    clear h hA hA2 hA3 hA4
    split at hA5
    · rename_i n0 n1 hs0 hs1
      obtain ⟨⟨⟨h0, h1, h2⟩, ⟨h3, h4⟩, hr8⟩, hB⟩ := hA5
      have w0 := bc_sh_arr0 hs0
      have w1 := bc_sh_arr0 hs1
      obtain ⟨a1, a2⟩ := bc_nng h0 (by omega)
      obtain ⟨b1, b2⟩ := bc_nng h1 (by omega)
      obtain ⟨c1, c2⟩ := bc_nng h2 (by omega)
      refine va_copyi (D := bc_Dd g) (cl := bc_cl) (ws := bc_ws g σ) (tys := bc_tys g) (A := bc_Z g) hx hb hls hown (hts _ hlink) (hts _ (bc_wat_ok (pos := 628) (by decide +kernel))) (hts _ (bc_wat_ok (pos := 627) (by decide +kernel))) (hts _ (bc_wat_ok (pos := 119) (by decide +kernel))) hE.1 hH (bc_ap_D hap σ) hS ks kd 0 0 (by rw [bc_ws_at (bc_sh_lt hs0), bc_e_arr hs0]) (by rw [bc_ws_at (bc_sh_lt hs1), bc_e_arr hs1]) rfl rfl rfl a1 b1 c1 (by rw [a2, c2]; omega) (by rw [b2, c2]; omega) (fun _ _ => rfl) hfr ?_ hd (fun H1 locs1 q1 _ q3 => ?_)
      · exact bc_rl hRl (bc_cat8 hr8) (by decide)
      · rw [a2, b2, c2, bc_ws_cy hs0 hs1 h0 h1 h2] at q1
        exact hB H1 locs1 ls hn q1 q3 hl
    · exact hA5.elim
  · obtain ⟨-, rfl⟩ : (3 : Nat) < 4 ∧ i = .invokestatic ix := by rcases hi with q | q; exact q; omega
    obtain ⟨x, r1, rfl, ⟨hx1, hr4⟩, hB⟩ := bc_pF_e (show bc_pF st _ from h)
    refine jd_cS (n := 1) (As := [.float x]) (rest := r1.map (bc_v g)) hx hb hls hown hts hI hS (jd_f2i hx1) jd_w_f2i (bc_wat_ok (pos := 122) (by decide +kernel)) hlink (bc_wat_ok (pos := 1777) (by decide +kernel)) ⟨by decide +kernel, by decide +kernel, by decide +kernel⟩ ⟨by omega, bc_rl2 hRl (by decide) (by decide)⟩ hcell rfl rfl ?_ hd (fun locs1 hS1 => ?_)
    · exact bc_cat hr4
    · have := hB H locs1 ls hn hH hS1 hl
      rw [List.map_cons, bc_v_I, Int32.ofInt_toInt] at this
      exact this
  · obtain ⟨-, rfl⟩ : 4 ≤ (4 : Nat) ∧ i = .invokevirtual ix := by rcases hi with q | q; omega; exact q
    obtain ⟨kk, r1, rfl, ⟨⟨hk0, hk1⟩, hr4⟩, hB⟩ := bc_pR_e (show bc_pR st _ from h)
    obtain ⟨j, rfl⟩ : ∃ j, kk = 1000 + j := ⟨kk - 1000, by omega⟩
    have hj : j < 17 := by omega
    rw [show 1000 + j - 1000 = j by omega] at hB
    refine jd_cV (n := 0) (As := []) (rest := r1.map (bc_v g)) hx hb hls hown hts hI hS (jd_length hj) jd_w_length (bc_wat_ok (pos := 113) (by decide +kernel)) hlink (bc_wat_ok (pos := 1339) (by decide +kernel)) (bc_wat_ok (pos := 1340) (by decide +kernel)) (vk_recv (i := j) hI.1 hj hS) ⟨jd_dS.1, jd_dS.2, by decide +kernel⟩ ⟨by omega, bc_rl2 hRl (by decide) (by decide)⟩ hcell rfl rfl ?_ hd (fun locs1 hS1 => ?_)
    · exact bc_cat hr4
    · exact hB H locs1 ls hn hH hS1 hl
  · obtain ⟨-, rfl⟩ : 4 ≤ (5 : Nat) ∧ i = .invokevirtual ix := by rcases hi with q | q; omega; exact q
    obtain ⟨jj, r1, rfl, hA⟩ := bc_pI_e (show bc_pI st _ from h)
    obtain ⟨kk, r2, rfl, ⟨⟨⟨hk0, hk1⟩, hr4⟩, h0, h1⟩, hB⟩ := bc_pR_e hA
    obtain ⟨j, rfl⟩ : ∃ j, kk = 1000 + j := ⟨kk - 1000, by omega⟩
    have hj : j < 17 := by omega
    rw [show 1000 + j - 1000 = j by omega] at hB h1
    refine jd_cV (n := 1) (As := [.int (Int32.ofInt jj)]) (rest := r2.map (bc_v g)) hx hb hls hown hts hI hS (jd_charAt hj h0 h1) jd_w_charAt (bc_wat_ok (pos := 113) (by decide +kernel)) hlink (bc_wat_ok (pos := 1350) (by decide +kernel)) (bc_wat_ok (pos := 1351) (by decide +kernel)) (vk_recv (i := j) hI.1 hj hS) ⟨jd_dS.1, jd_dS.2, by decide +kernel⟩ ⟨by omega, bc_rl2 hRl (by decide) (by decide)⟩ hcell rfl rfl ?_ hd (fun locs1 hS1 => ?_)
    · exact bc_cat hr4
    · exact hB H locs1 ls hn hH hS1 hl
end BCJ
end
