theorem bc_tk1 {w : Cond} (h : w ∈ tables_1_1) : w ∈ lw_tbl := List.mem_append_right _ (List.mem_append_left _ h)
theorem bc_tk2 {w : Cond} (h : w ∈ tables_1_2) : w ∈ lw_tbl := List.mem_append_right _ (List.mem_append_right _ (List.mem_append_left _ h))
theorem bc_tk3 {w : Cond} (h : w ∈ tables_1_3) : w ∈ lw_tbl := List.mem_append_right _ (List.mem_append_right _ (List.mem_append_right _ (List.mem_append_left _ h)))
theorem bc_tk4 {w : Cond} (h : w ∈ tables_1_4) : w ∈ lw_tbl := List.mem_append_right _ (List.mem_append_right _ (List.mem_append_right _ (List.mem_append_right _ (List.mem_append_left _ h))))
theorem bc_tk5 {w : Cond} (h : w ∈ tables_1_5) : w ∈ lw_tbl := List.mem_append_right _ (List.mem_append_right _ (List.mem_append_right _ (List.mem_append_right _ (List.mem_append_right _ (List.mem_append_left _ h)))))
theorem bc_tk6 {w : Cond} (h : w ∈ tables_1_6) : w ∈ lw_tbl := List.mem_append_right _ (List.mem_append_right _ (List.mem_append_right _ (List.mem_append_right _ (List.mem_append_right _ (List.mem_append_right _ (List.mem_append_left _ h))))))
theorem bc_tk7 {w : Cond} (h : w ∈ tables_1_7) : w ∈ lw_tbl := List.mem_append_right _ (List.mem_append_right _ (List.mem_append_right _ (List.mem_append_right _ (List.mem_append_right _ (List.mem_append_right _ (List.mem_append_right _ (List.mem_append_left _ h)))))))
theorem bc_tk8 {w : Cond} (h : w ∈ tables_1_8) : w ∈ lw_tbl := List.mem_append_right _ (List.mem_append_right _ (List.mem_append_right _ (List.mem_append_right _ (List.mem_append_right _ (List.mem_append_right _ (List.mem_append_right _ (List.mem_append_right _ (List.mem_append_left _ h))))))))
theorem bc_tk9 {w : Cond} (h : w ∈ tables_1_9) : w ∈ lw_tbl := List.mem_append_right _ (List.mem_append_right _ (List.mem_append_right _ (List.mem_append_right _ (List.mem_append_right _ (List.mem_append_right _ (List.mem_append_right _ (List.mem_append_right _ (List.mem_append_right _ (h)))))))))
abbrev jd_y_length : MethodName := ⟨"java/lang/String", "length", "()I"⟩
abbrev jd_c_length : ByteArray := prog_27_method_54_code
theorem jd_w_length : Cond.code jd_y_length jd_c_length 1 (some .int) ∈ bc_W := (bc_mem_W (bc_tk6 (List.mem_of_getElem? (i := 46) rfl)) rfl)
abbrev jd_y_coder : MethodName := ⟨"java/lang/String", "coder", "()B"⟩
abbrev jd_c_coder : ByteArray := prog_27_method_152_code
theorem jd_w_coder : Cond.code jd_y_coder jd_c_coder 1 (some .byte) ∈ bc_W := (bc_mem_W (bc_tk6 (List.mem_of_getElem? (i := 50) rfl)) rfl)
abbrev jd_y_charAt : MethodName := ⟨"java/lang/String", "charAt", "(I)C"⟩
abbrev jd_c_charAt : ByteArray := prog_27_method_56_code
theorem jd_w_charAt : Cond.code jd_y_charAt jd_c_charAt 2 (some .char) ∈ bc_W := (bc_mem_W (bc_tk6 (List.mem_of_getElem? (i := 57) rfl)) rfl)
abbrev jd_y_isLatin1 : MethodName := ⟨"java/lang/String", "isLatin1", "()Z"⟩
abbrev jd_c_isLatin1 : ByteArray := prog_27_method_154_code
theorem jd_w_isLatin1 : Cond.code jd_y_isLatin1 jd_c_isLatin1 1 (some .boolean) ∈ bc_W := (bc_mem_W (bc_tk6 (List.mem_of_getElem? (i := 61) rfl)) rfl)
abbrev jd_y_lat : MethodName := ⟨"java/lang/StringLatin1", "charAt", "([BI)C"⟩
abbrev jd_c_lat : ByteArray := prog_28_method_2_code
theorem jd_w_lat : Cond.code jd_y_lat jd_c_lat 2 (some .char) ∈ bc_W := (bc_mem_W (bc_tk6 (List.mem_of_getElem? (i := 64) rfl)) rfl)
abbrev jd_y_chk : MethodName := ⟨"java/lang/String", "checkIndex", "(II)V"⟩
abbrev jd_c_chk : ByteArray := prog_27_method_155_code
theorem jd_w_chk : Cond.code jd_y_chk jd_c_chk 2 (none) ∈ bc_W := (bc_mem_W (bc_tk6 (List.mem_of_getElem? (i := 67) rfl)) rfl)
abbrev jd_y_pchk : MethodName := ⟨"jdk/internal/util/Preconditions", "checkIndex", "(IILjava/util/function/BiFunction;)I"⟩
abbrev jd_c_pchk : ByteArray := prog_36_method_11_code
theorem jd_w_pchk : Cond.code jd_y_pchk jd_c_pchk 3 (some .int) ∈ bc_W := (bc_mem_W (bc_tk6 (List.mem_of_getElem? (i := 72) rfl)) rfl)
abbrev jd_y_f2i : MethodName := ⟨"java/lang/Float", "floatToIntBits", "(F)I"⟩
abbrev jd_c_f2i : ByteArray := prog_20_method_24_code
theorem jd_w_f2i : Cond.code jd_y_f2i jd_c_f2i 1 (some .int) ∈ bc_W := (bc_mem_W (bc_tk8 (List.mem_of_getElem? (i := 3) rfl)) rfl)
abbrev jd_y_isNaN : MethodName := ⟨"java/lang/Float", "isNaN", "(F)Z"⟩
abbrev jd_c_isNaN : ByteArray := prog_20_method_6_code
theorem jd_w_isNaN : Cond.code jd_y_isNaN jd_c_isNaN 1 (some .boolean) ∈ bc_W := (bc_mem_W (bc_tk8 (List.mem_of_getElem? (i := 6) rfl)) rfl)
abbrev jd_y_max : MethodName := ⟨"java/lang/Math", "max", "(II)I"⟩
abbrev jd_c_max : ByteArray := prog_24_method_65_code
theorem jd_w_max : Cond.code jd_y_max jd_c_max 2 (some .int) ∈ bc_W := (bc_mem_W (bc_tk2 (List.mem_of_getElem? (i := 232) rfl)) rfl)
abbrev jd_y_min : MethodName := ⟨"java/lang/Math", "min", "(II)I"⟩
abbrev jd_c_min : ByteArray := prog_24_method_69_code
theorem jd_w_min : Cond.code jd_y_min jd_c_min 2 (some .int) ∈ bc_W := (bc_mem_W (bc_tk2 (List.mem_of_getElem? (i := 216) rfl)) rfl)
abbrev jd_y_arr : MethodName := ⟨"java/lang/System", "arraycopy", "(Ljava/lang/Object;ILjava/lang/Object;II)V"⟩
abbrev jd_y_raw : MethodName := ⟨"java/lang/Float", "floatToRawIntBits", "(F)I"⟩
theorem jd_d_length_0 : decode jd_c_length 0 = .ok (.aload_n 0, 1) := by decide +kernel
theorem jd_d_length_1 : decode jd_c_length 1 = .ok (.getfield 9, 3) := by decide +kernel
theorem jd_d_length_4 : decode jd_c_length 4 = .ok (.arraylength, 1) := by decide +kernel
theorem jd_d_length_5 : decode jd_c_length 5 = .ok (.aload_n 0, 1) := by decide +kernel
theorem jd_d_length_6 : decode jd_c_length 6 = .ok (.invokevirtual 335, 3) := by decide +kernel
theorem jd_d_length_9 : decode jd_c_length 9 = .ok (.ishr, 1) := by decide +kernel
theorem jd_d_length_10 : decode jd_c_length 10 = .ok (.ireturn, 1) := by decide +kernel
theorem jd_d_coder_0 : decode jd_c_coder 0 = .ok (.getstatic 38, 3) := by decide +kernel
theorem jd_d_coder_3 : decode jd_c_coder 3 = .ok (.ifCond .eq 10, 3) := by decide +kernel
theorem jd_d_coder_6 : decode jd_c_coder 6 = .ok (.aload_n 0, 1) := by decide +kernel
theorem jd_d_coder_7 : decode jd_c_coder 7 = .ok (.getfield 15, 3) := by decide +kernel
theorem jd_d_coder_10 : decode jd_c_coder 10 = .ok (.goto 4, 3) := by decide +kernel
theorem jd_d_coder_14 : decode jd_c_coder 14 = .ok (.ireturn, 1) := by decide +kernel
theorem jd_d_isLatin1_0 : decode jd_c_isLatin1 0 = .ok (.getstatic 38, 3) := by decide +kernel
theorem jd_d_isLatin1_3 : decode jd_c_isLatin1 3 = .ok (.ifCond .eq 14, 3) := by decide +kernel
theorem jd_d_isLatin1_6 : decode jd_c_isLatin1 6 = .ok (.aload_n 0, 1) := by decide +kernel
theorem jd_d_isLatin1_7 : decode jd_c_isLatin1 7 = .ok (.getfield 15, 3) := by decide +kernel
theorem jd_d_isLatin1_10 : decode jd_c_isLatin1 10 = .ok (.ifCond .ne 7, 3) := by decide +kernel
theorem jd_d_isLatin1_13 : decode jd_c_isLatin1 13 = .ok (.iconst 1, 1) := by decide +kernel
theorem jd_d_isLatin1_14 : decode jd_c_isLatin1 14 = .ok (.goto 4, 3) := by decide +kernel
theorem jd_d_isLatin1_18 : decode jd_c_isLatin1 18 = .ok (.ireturn, 1) := by decide +kernel
theorem jd_d_charAt_0 : decode jd_c_charAt 0 = .ok (.aload_n 0, 1) := by decide +kernel
theorem jd_d_charAt_1 : decode jd_c_charAt 1 = .ok (.invokevirtual 492, 3) := by decide +kernel
theorem jd_d_charAt_4 : decode jd_c_charAt 4 = .ok (.ifCond .eq 12, 3) := by decide +kernel
theorem jd_d_charAt_7 : decode jd_c_charAt 7 = .ok (.aload_n 0, 1) := by decide +kernel
theorem jd_d_charAt_8 : decode jd_c_charAt 8 = .ok (.getfield 9, 3) := by decide +kernel
theorem jd_d_charAt_11 : decode jd_c_charAt 11 = .ok (.iload_n 1, 1) := by decide +kernel
theorem jd_d_charAt_12 : decode jd_c_charAt 12 = .ok (.invokestatic 495, 3) := by decide +kernel
theorem jd_d_charAt_15 : decode jd_c_charAt 15 = .ok (.ireturn, 1) := by decide +kernel
theorem jd_d_lat_0 : decode jd_c_lat 0 = .ok (.iload_n 1, 1) := by decide +kernel
theorem jd_d_lat_1 : decode jd_c_lat 1 = .ok (.aload_n 0, 1) := by decide +kernel
theorem jd_d_lat_2 : decode jd_c_lat 2 = .ok (.arraylength, 1) := by decide +kernel
theorem jd_d_lat_3 : decode jd_c_lat 3 = .ok (.invokestatic 9, 3) := by decide +kernel
theorem jd_d_lat_6 : decode jd_c_lat 6 = .ok (.aload_n 0, 1) := by decide +kernel
theorem jd_d_lat_7 : decode jd_c_lat 7 = .ok (.iload_n 1, 1) := by decide +kernel
theorem jd_d_lat_8 : decode jd_c_lat 8 = .ok (.baload, 1) := by decide +kernel
theorem jd_d_lat_9 : decode jd_c_lat 9 = .ok (.sipush 255, 3) := by decide +kernel
theorem jd_d_lat_12 : decode jd_c_lat 12 = .ok (.iand, 1) := by decide +kernel
theorem jd_d_lat_13 : decode jd_c_lat 13 = .ok (.i2c, 1) := by decide +kernel
theorem jd_d_lat_14 : decode jd_c_lat 14 = .ok (.ireturn, 1) := by decide +kernel
theorem jd_d_chk_0 : decode jd_c_chk 0 = .ok (.iload_n 0, 1) := by decide +kernel
theorem jd_d_chk_1 : decode jd_c_chk 1 = .ok (.iload_n 1, 1) := by decide +kernel
theorem jd_d_chk_2 : decode jd_c_chk 2 = .ok (.getstatic 1053, 3) := by decide +kernel
theorem jd_d_chk_5 : decode jd_c_chk 5 = .ok (.invokestatic 1059, 3) := by decide +kernel
theorem jd_d_chk_8 : decode jd_c_chk 8 = .ok (.pop, 1) := by decide +kernel
theorem jd_d_chk_9 : decode jd_c_chk 9 = .ok (.return_, 1) := by decide +kernel
theorem jd_d_pchk_0 : decode jd_c_pchk 0 = .ok (.iload_n 0, 1) := by decide +kernel
theorem jd_d_pchk_1 : decode jd_c_pchk 1 = .ok (.ifCond .lt 8, 3) := by decide +kernel
theorem jd_d_pchk_4 : decode jd_c_pchk 4 = .ok (.iload_n 0, 1) := by decide +kernel
theorem jd_d_pchk_5 : decode jd_c_pchk 5 = .ok (.iload_n 1, 1) := by decide +kernel
theorem jd_d_pchk_6 : decode jd_c_pchk 6 = .ok (.if_icmp .lt 10, 3) := by decide +kernel
theorem jd_d_pchk_16 : decode jd_c_pchk 16 = .ok (.iload_n 0, 1) := by decide +kernel
theorem jd_d_pchk_17 : decode jd_c_pchk 17 = .ok (.ireturn, 1) := by decide +kernel
theorem jd_d_f2i_0 : decode jd_c_f2i 0 = .ok (.fload_n 0, 1) := by decide +kernel
theorem jd_d_f2i_1 : decode jd_c_f2i 1 = .ok (.invokestatic 59, 3) := by decide +kernel
theorem jd_d_f2i_4 : decode jd_c_f2i 4 = .ok (.ifCond .ne 8, 3) := by decide +kernel
theorem jd_d_f2i_7 : decode jd_c_f2i 7 = .ok (.fload_n 0, 1) := by decide +kernel
theorem jd_d_f2i_8 : decode jd_c_f2i 8 = .ok (.invokestatic 74, 3) := by decide +kernel
theorem jd_d_f2i_11 : decode jd_c_f2i 11 = .ok (.ireturn, 1) := by decide +kernel
theorem jd_d_isNaN_0 : decode jd_c_isNaN 0 = .ok (.fload_n 0, 1) := by decide +kernel
theorem jd_d_isNaN_1 : decode jd_c_isNaN 1 = .ok (.fload_n 0, 1) := by decide +kernel
theorem jd_d_isNaN_2 : decode jd_c_isNaN 2 = .ok (.fcmp .l, 1) := by decide +kernel
theorem jd_d_isNaN_3 : decode jd_c_isNaN 3 = .ok (.ifCond .eq 7, 3) := by decide +kernel
theorem jd_d_isNaN_10 : decode jd_c_isNaN 10 = .ok (.iconst 0, 1) := by decide +kernel
theorem jd_d_isNaN_11 : decode jd_c_isNaN 11 = .ok (.ireturn, 1) := by decide +kernel
section JDK
variable {g : bc_C} {adV : Nat → Nat}
/-- what the JDK's own texts rest on -/
def jd_I (g : bc_C) (adV : Nat → Nat) (U : State) (H : Heap) : Prop := vk_S 17 bc_tx_len bc_tx_byt (fun i => bc_ad g (1000 + i)) adV (bc_Z g) U H ∧ va_Z "java/lang/String" "COMPACT_STRINGS" "Z" (.int 1) (bc_Z g) U H ∧ va_Zq "jdk/internal/util/Preconditions" "SIOOBE_FORMATTER" "Ljava/util/function/BiFunction;" (bc_Z g) U H
theorem jd_I.go {u U : State} {H H1 : Heap} (hvm : u.vm.Alike U.vm) (hq : ∀ a : Nat, a < H.size → ¬ bc_Z g a → H1[a]? = H[a]?) (h : jd_I g adV u H) : jd_I g adV U H1 :=
  ⟨(h.1.moved hvm).kept hq, (h.2.1.moved hvm).kept hq, (h.2.2.moved hvm).kept hq⟩
def jd_rm (k : Nat) : Room := { frames := k, cells := 0, slots := 0, locals := 40 * k }
def jd_Q (g : bc_C) (H : Heap) (r : Option Value) : Array Value → State → Outcome → State → Prop := fun _ st o t => (o = .returned r ∧ t.heap = H) ∧ va_F (bc_Z g) st t
def jd_Pc (g : bc_C) (adV : Nat → Nat) (as : List Value) (H : Heap) : Array Value → State → Prop := fun v U => v = as.toArray ∧ U.heap = H ∧ jd_I g adV U H
def jd_M (g : bc_C) (adV : Nat → Nat) (y : MethodName) (cc : ByteArray) (mL : Nat) (ret : Option FieldType) (k : Nat) (as : List Value) (H : Heap) (r : Option Value) : Prop := Met (bc_l g) y (Cond.code y cc mL ret :: bc_W) (jd_rm k) (jd_Pc g adV as H) (jd_Q g H r) 0 0 (bc_Z g)
theorem jd_blind {as : List Value} {H : Heap} : FrameBlind (jd_Pc g adV as H) := by
  intro a U gg mk h
  obtain ⟨h1, h2, h3⟩ := h
  exact ⟨h1, h2, jd_I.go (u := U) (U := U.calling gg mk a) (Vm.Alike.refl U.vm) (fun _ _ _ => rfl) h3⟩
def jd_Fx (g : bc_C) (adV : Nat → Nat) (y : MethodName) (cc : ByteArray) (mL : Nat) (ret : Option FieldType) (k : Nat) (p : Program) (R : Room) (s : State) (m : MethodId) (args : Array Value) (meth : Method) (c : Code) : Prop :=
  p.tables.exec = Jvm.exec ∧ c.code = cc ∧ c.maxLocals = mL ∧ (∀ w ∈ bc_W, w.before args s = true) ∧ s.vm.findClass y.cls = some m.cls ∧ meth.locks = false ∧ jd_I g adV s s.heap ∧ R.frames = k ∧ R.locals = 40 * k ∧ meth.sig.returnType = ret
theorem jd_ofW {y : MethodName} {cc : ByteArray} {mL : Nat} {ret : Option FieldType} {k : Nat} {as : List Value} {H : Heap} {r : Option Value} (hy : plainFor y = true) (hlen : (lg_sl as).length ≤ mL)
    (body : ∀ (p : Program) (e : Env) (R : Room) (s : State) (m : MethodId) (args : Array Value) (below : List Frame) (meth : Method) (c : Code) (ls : Array Slot), jd_Fx g adV y cc mL ret k p R s m args meth c → s.heap = H → lv_has ls mL (lv_args 0 as) → W p (bc_l g) e R s m args below meth c s.heap [] 0 0 (MQ below (jd_Q g H r) args s 0 0 (bc_Z g)) (F0 m 0 ls [])) : jd_M g adV y cc mL ret k as H r := by
  unfold jd_M Met
  refine MetFree.of_bodySF (code := cc) (maxLocals := mL) (ret := ret) hy ?_ ?_
  · intro args s m h hn
    obtain ⟨meth, c, h1, h2, h3, h4, h5, h6, -, -⟩ := Cond.code_spec hn (atoms_spec (ws := Cond.code y cc mL ret :: bc_W) h _ List.mem_cons_self)
    exact ⟨meth, c, h1, h2, h3, h4, h5, h6⟩
  · intro p e s m args below meth c s₁ B hml hv _
    have hh0 : s₁.heap = s.heap := by rw [B.state]; rfl
    obtain ⟨rfl, hH, hI⟩ := hv
    have hts := atoms_spec (ws := Cond.code y cc mL ret :: bc_W) B.pre
    have hl := lv_entry as (n := mL) hlen
    have key : W p (bc_l g) e (headSpec (Cond.code y cc mL ret :: bc_W) (jd_rm k)).room s m as.toArray below meth c s.heap [] 0 0 (MQ below (jd_Q g H r) as.toArray s 0 0 (bc_Z g)) (entryFrame m as.toArray mL) := by
      rw [lg_entry_eq]
      exact body p e _ s m _ below meth c _ ⟨B.exec, B.bytes, hml, fun w h => hts w (List.mem_cons_of_mem _ h), findClass_of_methodNamed B.named, B.notSynchronized, by rw [hH]; exact hI, rfl, rfl, B.returns⟩ hH hl
    obtain ⟨t, a1, o, b1, b2, b3⟩ := key s₁ hh0 (Stand.of_body B)
    exact ⟨t, o, a1, b1, b2, ⟨b3.1, b3.2⟩⟩
section JDC
variable {p : Program} {e : Env} {R : Room} {s : State} {m : MethodId} {args : Array Value} {below : List Frame} {meth : Method} {c : Code} {Q : State → Prop} {H : Heap} {locs : List Loc} {cells slots : Nat} {pc : Nat} {ls : Array Slot} {st0 rest : List Value} {cc : ByteArray}
theorem jd_go {r : Option Value} (hr : va_Run p (bc_l g) e R s m args below meth c H locs cells slots 0 0 (F0 m pc ls st0) rest (fun st o t => (o = .returned r ∧ t.heap = H) ∧ va_F (bc_Z g) st t) (bc_Z g)) (hS : va_S (bc_Z g) s.heap H locs)
    (kk : ∀ locs1 : List Loc, va_S (bc_Z g) s.heap H locs1 → W p (bc_l g) e R s m args below meth c H locs1 cells slots Q (F0 m (pc + 3) ls (r.toList ++ rest))) : W p (bc_l g) e R s m args below meth c H locs cells slots Q (F0 m pc ls st0) := by
  intro T hT X
  obtain ⟨v, st₀, t, T', L, h0, X', hL, e1, e2, ⟨⟨hv, hh⟩, hF⟩, st⟩ := hr T hT X
  cases hv
  obtain ⟨t2, a1, b1⟩ := kk (locs ++ L) ⟨hS.1, hS.2.1, fun q hq => by
    rcases List.mem_append.mp hq with h | h
    · exact hS.2.2 q h
    · exact hL q h⟩ T' (by rw [e1, hh]) X'
  exact ⟨t2, st t2 a1, b1⟩
theorem jd_good {y : MethodName} {bytes : ByteArray} {mL : Nat} {ret : Option FieldType} (hcw : Cond.code y bytes mL ret ∈ bc_W) : GoodIn bc_W (Cond.code y bytes mL ret :: bc_W) := by
  intro w hw
  rcases List.mem_cons.mp hw with e | hw
  · subst e
    exact ⟨hcw, bc_W_good _ hcw⟩
  · exact ⟨hw, bc_W_good _ hw⟩
theorem jd_cS {y : MethodName} {bytes : ByteArray} {mL : Nat} {ret : Option FieldType} {k n ix : Nat} {own : String} {As : List Value} {r : Option Value} (hx : p.tables.exec = Jvm.exec) (hb : c.code = cc) (hml : c.maxLocals = ls.size) (hown : s.vm.findClass own = some m.cls) (hts : ∀ w ∈ bc_W, w.before args s = true) (hI : jd_I g adV s s.heap) (hS : va_S (bc_Z g) s.heap H locs)
    (hM : jd_M g adV y bytes mL ret k As H r) (hcw : Cond.code y bytes mL ret ∈ bc_W) (hini : Cond.initialized y.cls ∈ bc_W) (hl : Cond.methodLink own ix y ∈ bc_W) (hst : Cond.static y ∈ bc_W)
    (hd : y.cls ≠ "java/lang/invoke/MethodHandle" ∧ y.cls ≠ "java/lang/invoke/VarHandle" ∧ (parseMethodDescriptor y.desc).map (fun d => d.parameters.length) = some n) (hR : k + 1 ≤ R.frames ∧ 8 + (mL + 11) + 40 * k ≤ R.locals) (hf : cells ≤ R.cells ∧ slots ≤ R.slots) (hn : As.length = n) (hs0 : st0 = As.reverse ++ rest) (hW : (rest.map fun v => v.category).sum ≤ 8) (hdg : decode cc pc = .ok (.invokestatic ix, 3))
    (kk : ∀ locs1 : List Loc, va_S (bc_Z g) s.heap H locs1 → W p (bc_l g) e R s m args below meth c H locs1 cells slots Q (F0 m (pc + 3) ls (r.toList ++ rest))) : W p (bc_l g) e R s m args below meth c H locs cells slots Q (F0 m pc ls st0) :=
  jd_go (va_runS (As := As) (rest := rest) (Ts := bc_W) (cc := cc) (nL := ls.size) ⟨hx, hb, hml, hown, hts⟩ hM ⟨callB_of n hts (jd_good hcw) rfl rfl rfl (hts _ hini) (hts _ hl) hd hR, hts _ hst⟩ ⟨jd_blind, fun U hU hWm => ⟨rfl, hU, jd_I.go hWm.alike (fun a ha hna => hS.2.1 a ha hna) hI⟩⟩ rfl hn rfl hs0 (lv_room hW) hdg hf) hS kk
theorem jd_cV {y : MethodName} {bytes : ByteArray} {mL : Nat} {ret : Option FieldType} {k n ix b : Nat} {own : String} {As : List Value} {r : Option Value} (hx : p.tables.exec = Jvm.exec) (hb : c.code = cc) (hml : c.maxLocals = ls.size) (hown : s.vm.findClass own = some m.cls) (hts : ∀ w ∈ bc_W, w.before args s = true) (hI : jd_I g adV s s.heap) (hS : va_S (bc_Z g) s.heap H locs)
    (hM : jd_M g adV y bytes mL ret k (.ref b :: As) H r) (hcw : Cond.code y bytes mL ret ∈ bc_W) (hini : Cond.initialized y.cls ∈ bc_W) (hl : Cond.methodLink own ix y ∈ bc_W) (hin : Cond.instanceMethod y ∈ bc_W) (hse : Cond.selects y.cls y y ∈ bc_W) (hrc : ∃ cellB : Cell, H[b]? = some cellB ∧ cellB.vm.isStatics = false ∧ s.vm.findClass y.cls = some cellB.cls)
    (hd : y.cls ≠ "java/lang/invoke/MethodHandle" ∧ y.cls ≠ "java/lang/invoke/VarHandle" ∧ (parseMethodDescriptor y.desc).map (fun d => d.parameters.length) = some n) (hR : k + 1 ≤ R.frames ∧ 8 + (mL + 11) + 40 * k ≤ R.locals) (hf : cells ≤ R.cells ∧ slots ≤ R.slots) (hn : As.length = n) (hs0 : st0 = As.reverse ++ .ref b :: rest) (hW : (rest.map fun v => v.category).sum ≤ 8) (hdg : decode cc pc = .ok (.invokevirtual ix, 3))
    (kk : ∀ locs1 : List Loc, va_S (bc_Z g) s.heap H locs1 → W p (bc_l g) e R s m args below meth c H locs1 cells slots Q (F0 m (pc + 3) ls (r.toList ++ rest))) : W p (bc_l g) e R s m args below meth c H locs cells slots Q (F0 m pc ls st0) :=
  jd_go (va_runV (C := y.cls) (b := b) (As := As) (rest := rest) (Ts := bc_W) (cc := cc) (nL := ls.size) ⟨hx, hb, hml, hown, hts⟩ hM ⟨callB_of n hts (jd_good hcw) rfl rfl rfl (hts _ hini) (hts _ hl) hd hR, hts _ hin, hts _ hse⟩ ⟨jd_blind, hrc, fun U hU hWm => ⟨rfl, hU, jd_I.go hWm.alike (fun a ha hna => hS.2.1 a ha hna) hI⟩⟩ rfl hn rfl hs0 (lv_room hW) hdg hf) hS kk
end JDC
theorem jd_dS : ("java/lang/String" : String) ≠ "java/lang/invoke/MethodHandle" ∧ ("java/lang/String" : String) ≠ "java/lang/invoke/VarHandle" := ⟨by decide +kernel, by decide +kernel⟩
theorem jd_coder {H : Heap} {i : Nat} (hi : i < 17) : jd_M g adV jd_y_coder jd_c_coder 1 (some .byte) 0 [.ref (bc_ad g (1000 + i))] H (some (.int 0)) := by
  refine jd_ofW (by decide +kernel) (Nat.le_of_ble_eq_true rfl) (fun p e R s m args below meth c ls F hH hl => ?_)
  obtain ⟨hx, hb, hml, hts, hown, hlocks, hI, hRf, hRl, hr⟩ := F
  have hl : lv_has ls 1 [(0, .ref (bc_ad g (1000 + i)))] := hl
  have hS : va_S (bc_Z g) s.heap s.heap [] := va_S.rf
  obtain ⟨kO, kC, kV, kT⟩ := hI.1.1 i hi
  refine va_gets hx hb hI.2.1 hS hown (hts _ (bc_wat_ok (pos := 1346) (by decide +kernel))) (fun _ h => h) jd_d_coder_0 ?_
  refine lv_if_eq (tgt := 13) hx hb jd_d_coder_3 (by decide) (fun h => absurd h (by decide)) (fun _ => ?_)
  refine lv_aload_n hx hb jd_d_coder_6 rfl (lv_at hl 0 rfl) ?_
  refine vk_getf hx hb kC hS hown (hts _ (bc_wat_ok (pos := 2033) (by decide +kernel))) (fun _ h => h) jd_d_coder_7 ?_
  refine lv_goto (tgt := 14) hx hb jd_d_coder_10 (by decide) ?_
  exact bc_iret hx hb hr (by decide) (fun t ht hW => ⟨⟨rfl, by rw [ht]; exact hH⟩, hS.F ht⟩) hS.2.2 jd_d_coder_14 hlocks
theorem jd_isLatin1 {H : Heap} {i : Nat} (hi : i < 17) : jd_M g adV jd_y_isLatin1 jd_c_isLatin1 1 (some .boolean) 0 [.ref (bc_ad g (1000 + i))] H (some (.int 1)) := by
  refine jd_ofW (by decide +kernel) (Nat.le_of_ble_eq_true rfl) (fun p e R s m args below meth c ls F hH hl => ?_)
  obtain ⟨hx, hb, hml, hts, hown, hlocks, hI, hRf, hRl, hr⟩ := F
  have hl : lv_has ls 1 [(0, .ref (bc_ad g (1000 + i)))] := hl
  have hS : va_S (bc_Z g) s.heap s.heap [] := va_S.rf
  obtain ⟨kO, kC, kV, kT⟩ := hI.1.1 i hi
  refine va_gets hx hb hI.2.1 hS hown (hts _ (bc_wat_ok (pos := 1346) (by decide +kernel))) (fun _ h => h) jd_d_isLatin1_0 ?_
  refine lv_if_eq (tgt := 17) hx hb jd_d_isLatin1_3 (by decide) (fun h => absurd h (by decide)) (fun _ => ?_)
  refine lv_aload_n hx hb jd_d_isLatin1_6 rfl (lv_at hl 0 rfl) ?_
  refine vk_getf hx hb kC hS hown (hts _ (bc_wat_ok (pos := 2033) (by decide +kernel))) (fun _ h => h) jd_d_isLatin1_7 ?_
  refine lv_if_ne (tgt := 17) hx hb jd_d_isLatin1_10 (by decide) (fun h => absurd rfl h) (fun _ => ?_)
  refine lv_iconst (v := 1) hx hb jd_d_isLatin1_13 (by decide) ?_
  refine lv_goto (tgt := 18) hx hb jd_d_isLatin1_14 (by decide) ?_
  exact bc_iret hx hb hr (by decide) (fun t ht hW => ⟨⟨rfl, by rw [ht]; exact hH⟩, hS.F ht⟩) hS.2.2 jd_d_isLatin1_18 hlocks
theorem jd_tab : ∀ i, i < 17 → bc_tx_len.getD i 0 = (bc_tx i).length ∧ (bc_tx i).length < 2000 ∧ ∀ j, j < (bc_tx i).length → (((bc_tx_byt.getD i []).getD j 0 &&& 255).toUInt32 % 65536).toInt32 = Int32.ofInt (((bc_tx i).getD j 0 : Nat) : Int) ∧ (bc_tx i).getD j 0 ≤ 65535 := by decide +kernel
theorem jd_length {H : Heap} {i : Nat} (hi : i < 17) : jd_M g adV jd_y_length jd_c_length 1 (some .int) 1 [.ref (bc_ad g (1000 + i))] H (some (.int (Int32.ofInt ((bc_tx i).length : Int)))) := by
  refine jd_ofW (by decide +kernel) (Nat.le_of_ble_eq_true rfl) (fun p e R s m args below meth c ls F hH hl => ?_)
  obtain ⟨hx, hb, hml, hts, hown, hlocks, hI, hRf, hRl, hr⟩ := F
  have hl : lv_has ls 1 [(0, .ref (bc_ad g (1000 + i)))] := hl
  have hS : va_S (bc_Z g) s.heap s.heap [] := va_S.rf
  obtain ⟨kO, kC, kV, kT⟩ := hI.1.1 i hi
  obtain ⟨t1, t2, -⟩ := jd_tab i hi
  refine lv_aload_n hx hb jd_d_length_0 rfl (lv_at hl 0 rfl) ?_
  refine vk_getf hx hb kV hS hown (hts _ (bc_wat_ok (pos := 2032) (by decide +kernel))) (fun _ h => h) jd_d_length_1 ?_
  refine va_tlen hx hb kT hS rfl jd_d_length_4 ?_
  refine lv_aload_n hx hb jd_d_length_5 rfl (lv_at hl 0 rfl) ?_
  refine jd_cV (n := 0) (As := []) (rest := [.int _]) hx hb (hml.trans hl.1.symm) hown hts hI hS (jd_coder hi) jd_w_coder (bc_wat_ok (pos := 113) (by decide +kernel)) (bc_wat_ok (pos := 1342) (by decide +kernel)) (bc_wat_ok (pos := 1343) (by decide +kernel)) (bc_wat_ok (pos := 1344) (by decide +kernel)) (vk_recv (i := i) hI.1 hi hS) ⟨jd_dS.1, jd_dS.2, by decide +kernel⟩ ⟨by rw [hRf]; exact Nat.le_refl _, by rw [hRl]; exact Nat.le_of_ble_eq_true rfl⟩ ⟨Nat.zero_le _, Nat.zero_le _⟩ rfl rfl (Nat.le_of_ble_eq_true rfl) jd_d_length_6 (fun locs1 hS => ?_)
  refine lv_ishr hx hb jd_d_length_9 ?_
  refine bc_iret hx hb hr rfl (fun t ht hW => ⟨⟨?_, by rw [ht]; exact hH⟩, hS.F ht⟩) hS.2.2 jd_d_length_10 hlocks
  rw [t1, Int32.ofInt_eq_ofNat]
  have e0 : ∀ x : Int32, x >>> ((0 : Int32) &&& 31) = x := fun x => by
    show x >>> (0 : Int32) = x
    simp
  rw [e0]
theorem jd_pchk {H : Heap} {j n : Int} {v : Value} (hv : v = .null ∨ ∃ t : Nat, v = .ref t) (h0 : 0 ≤ j) (h1 : j < n) (h2 : n < 2000) : jd_M g adV jd_y_pchk jd_c_pchk 3 (some .int) 0 [.int (Int32.ofInt j), .int (Int32.ofInt n), v] H (some (.int (Int32.ofInt j))) := by
  have hcat : v.category = 1 := by rcases hv with rfl | ⟨t, rfl⟩ <;> rfl
  have hsl : (lg_sl [.int (Int32.ofInt j), .int (Int32.ofInt n), v]).length = 3 := by rcases hv with rfl | ⟨t, rfl⟩ <;> rfl
  refine jd_ofW (by decide +kernel) (by rw [hsl]; exact Nat.le_refl _) (fun p e R s m args below meth c ls F hH hl => ?_)
  obtain ⟨hx, hb, hml, hts, hown, hlocks, hI, hRf, hRl, hr⟩ := F
  have hl : lv_has ls 3 [(0, .int (Int32.ofInt j)), (1, .int (Int32.ofInt n)), (2, v)] := by rcases hv with rfl | ⟨t, rfl⟩ <;> exact hl
  have hS : va_S (bc_Z g) s.heap s.heap [] := va_S.rf
  refine lv_iload_n hx hb jd_d_pchk_0 rfl (lv_at hl 0 rfl) ?_
  refine lv_if_lt (tgt := 9) hx hb jd_d_pchk_1 (by decide) (fun h => absurd ((bc_i_lt (y := 0) ⟨by omega, by omega⟩ bc_in_0).mp h) (by omega)) (fun _ => ?_)
  refine lv_iload_n hx hb jd_d_pchk_4 rfl (lv_at hl 0 rfl) ?_
  refine lv_iload_n hx hb jd_d_pchk_5 rfl (lv_at hl 1 rfl) ?_
  refine lv_icmp_lt (tgt := 16) hx hb jd_d_pchk_6 (by decide) (fun _ => ?_) (fun h => absurd ((bc_i_lt ⟨by omega, by omega⟩ ⟨by omega, by omega⟩).mpr h1) h)
  refine lv_iload_n hx hb jd_d_pchk_16 rfl (lv_at hl 0 rfl) ?_
  exact bc_iret hx hb hr rfl (fun t ht hW => ⟨⟨rfl, by rw [ht]; exact hH⟩, hS.F ht⟩) hS.2.2 jd_d_pchk_17 hlocks
theorem jd_chk {H : Heap} {j n : Int} (h0 : 0 ≤ j) (h1 : j < n) (h2 : n < 2000) : jd_M g adV jd_y_chk jd_c_chk 2 none 1 [.int (Int32.ofInt j), .int (Int32.ofInt n)] H none := by
  refine jd_ofW (by decide +kernel) (Nat.le_of_ble_eq_true rfl) (fun p e R s m args below meth c ls F hH hl => ?_)
  obtain ⟨hx, hb, hml, hts, hown, hlocks, hI, hRf, hRl, hr⟩ := F
  have hl : lv_has ls 2 [(0, .int (Int32.ofInt j)), (1, .int (Int32.ofInt n))] := hl
  have hS : va_S (bc_Z g) s.heap s.heap [] := va_S.rf
  refine lv_iload_n hx hb jd_d_chk_0 rfl (lv_at hl 0 rfl) ?_
  refine lv_iload_n hx hb jd_d_chk_1 rfl (lv_at hl 1 rfl) ?_
  have go : ∀ v : Value, (v = .null ∨ ∃ t : Nat, v = .ref t) → W p (bc_l g) e R s m args below meth c s.heap [] 0 0 (MQ below (jd_Q g H none) args s 0 0 (bc_Z g)) (F0 m 5 ls [v, .int (Int32.ofInt n), .int (Int32.ofInt j)]) := by
    intro v hv
    refine jd_cS (n := 3) (As := [.int (Int32.ofInt j), .int (Int32.ofInt n), v]) (rest := []) hx hb (hml.trans hl.1.symm) hown hts hI hS (jd_pchk hv h0 h1 h2) jd_w_pchk (bc_wat_ok (pos := 124) (by decide +kernel)) (bc_wat_ok (pos := 1365) (by decide +kernel)) (bc_wat_ok (pos := 1366) (by decide +kernel)) ⟨by decide +kernel, by decide +kernel, by decide +kernel⟩ ⟨by rw [hRf]; exact Nat.le_refl _, by rw [hRl]; exact Nat.le_of_ble_eq_true rfl⟩ ⟨Nat.zero_le _, Nat.zero_le _⟩ rfl rfl (Nat.le_of_ble_eq_true rfl) jd_d_chk_5 (fun locs1 hS => ?_)
    refine lv_pop hx hb jd_d_chk_8 rfl ?_
    exact W.vret hx hb hr (fun t ht hW => ⟨⟨rfl, by rw [ht]; exact hH⟩, hS.F ht⟩) hS.2.2 jd_d_chk_9 hlocks
  rcases hI.2.2 with hz | ⟨t, hz⟩
  · exact va_gets hx hb hz hS hown (hts _ (bc_wat_ok (pos := 1363) (by decide +kernel))) (fun _ h => h) jd_d_chk_2 (go _ (Or.inl rfl))
  · exact va_gets hx hb hz hS hown (hts _ (bc_wat_ok (pos := 1363) (by decide +kernel))) (fun _ h => h) jd_d_chk_2 (go _ (Or.inr ⟨t, rfl⟩))
theorem jd_lat {H : Heap} {i : Nat} (hi : i < 17) {j : Int} (h0 : 0 ≤ j) (h1 : j < ((bc_tx i).length : Int)) : jd_M g adV jd_y_lat jd_c_lat 2 (some .char) 2 [.ref (adV i), .int (Int32.ofInt j)] H (some (.int (Int32.ofInt (((bc_tx i).getD j.toNat 0 : Nat) : Int)))) := by
  refine jd_ofW (by decide +kernel) (Nat.le_of_ble_eq_true rfl) (fun p e R s m args below meth c ls F hH hl => ?_)
  obtain ⟨hx, hb, hml, hts, hown, hlocks, hI, hRf, hRl, hr⟩ := F
  have hl : lv_has ls 2 [(0, .ref (adV i)), (1, .int (Int32.ofInt j))] := hl
  have hS : va_S (bc_Z g) s.heap s.heap [] := va_S.rf
  obtain ⟨kO, kC, kV, kT⟩ := hI.1.1 i hi
  obtain ⟨t1, t2, t3⟩ := jd_tab i hi
  obtain ⟨t4, t5⟩ := t3 j.toNat (by omega)
  rw [t1] at kT
  obtain ⟨hin, hcl⟩ := bc_vp h0 h1 t2
  refine lv_iload_n hx hb jd_d_lat_0 rfl (lv_at hl 1 rfl) ?_
  refine lv_aload_n hx hb jd_d_lat_1 rfl (lv_at hl 0 rfl) ?_
  refine va_tlen hx hb kT hS (v := Int32.ofInt ((bc_tx i).length : Int)) Int32.ofInt_eq_ofNat.symm jd_d_lat_2 ?_
  refine jd_cS (n := 2) (As := [.int (Int32.ofInt j), .int (Int32.ofInt ((bc_tx i).length : Int))]) (rest := []) hx hb (hml.trans hl.1.symm) hown hts hI hS (jd_chk h0 h1 (by omega)) jd_w_chk (bc_wat_ok (pos := 113) (by decide +kernel)) (bc_wat_ok (pos := 1360) (by decide +kernel)) (bc_wat_ok (pos := 1361) (by decide +kernel)) ⟨jd_dS.1, jd_dS.2, by decide +kernel⟩ ⟨by rw [hRf]; exact Nat.le_refl _, by rw [hRl]; exact Nat.le_of_ble_eq_true rfl⟩ ⟨Nat.zero_le _, Nat.zero_le _⟩ rfl rfl (Nat.le_of_ble_eq_true rfl) jd_d_lat_3 (fun locs1 hS => ?_)
  refine lv_aload_n hx hb jd_d_lat_6 rfl (lv_at hl 0 rfl) ?_
  refine lv_iload_n hx hb jd_d_lat_7 rfl (lv_at hl 1 rfl) ?_
  refine va_tb hx hb kT hS hin rfl jd_d_lat_8 ?_
  rw [hcl]
  refine lv_sipush (v := 255) hx hb jd_d_lat_9 (by decide) ?_
  refine lv_iand hx hb jd_d_lat_12 ?_
  refine lv_i2c hx hb jd_d_lat_13 t4 ?_
  exact bc_iret hx hb hr (bc_fit_e (ty := 1) (A := True) ⟨⟨by omega, by omega⟩, trivial⟩).2.2.1 (fun t ht hW => ⟨⟨rfl, by rw [ht]; exact hH⟩, hS.F ht⟩) hS.2.2 jd_d_lat_14 hlocks
theorem jd_charAt {H : Heap} {i : Nat} (hi : i < 17) {j : Int} (h0 : 0 ≤ j) (h1 : j < ((bc_tx i).length : Int)) : jd_M g adV jd_y_charAt jd_c_charAt 2 (some .char) 3 [.ref (bc_ad g (1000 + i)), .int (Int32.ofInt j)] H (some (.int (Int32.ofInt (((bc_tx i).getD j.toNat 0 : Nat) : Int)))) := by
  refine jd_ofW (by decide +kernel) (Nat.le_of_ble_eq_true rfl) (fun p e R s m args below meth c ls F hH hl => ?_)
  obtain ⟨hx, hb, hml, hts, hown, hlocks, hI, hRf, hRl, hr⟩ := F
  have hl : lv_has ls 2 [(0, .ref (bc_ad g (1000 + i))), (1, .int (Int32.ofInt j))] := hl
  have hS : va_S (bc_Z g) s.heap s.heap [] := va_S.rf
  obtain ⟨kO, kC, kV, kT⟩ := hI.1.1 i hi
  obtain ⟨t1, t2, t3⟩ := jd_tab i hi
  obtain ⟨-, t5⟩ := t3 j.toNat (by omega)
  refine lv_aload_n hx hb jd_d_charAt_0 rfl (lv_at hl 0 rfl) ?_
  refine jd_cV (n := 0) (As := []) (rest := []) hx hb (hml.trans hl.1.symm) hown hts hI hS (jd_isLatin1 hi) jd_w_isLatin1 (bc_wat_ok (pos := 113) (by decide +kernel)) (bc_wat_ok (pos := 1353) (by decide +kernel)) (bc_wat_ok (pos := 1354) (by decide +kernel)) (bc_wat_ok (pos := 1355) (by decide +kernel)) (vk_recv (i := i) hI.1 hi hS) ⟨jd_dS.1, jd_dS.2, by decide +kernel⟩ ⟨by rw [hRf]; exact Nat.le_of_ble_eq_true rfl, by rw [hRl]; exact Nat.le_of_ble_eq_true rfl⟩ ⟨Nat.zero_le _, Nat.zero_le _⟩ rfl rfl (Nat.le_of_ble_eq_true rfl) jd_d_charAt_1 (fun locs1 hS => ?_)
  refine lv_if_eq (tgt := 16) hx hb jd_d_charAt_4 (by decide) (fun h => absurd h (by decide)) (fun _ => ?_)
  refine lv_aload_n hx hb jd_d_charAt_7 rfl (lv_at hl 0 rfl) ?_
  refine vk_getf hx hb kV hS hown (hts _ (bc_wat_ok (pos := 2032) (by decide +kernel))) (fun _ h => h) jd_d_charAt_8 ?_
  refine lv_iload_n hx hb jd_d_charAt_11 rfl (lv_at hl 1 rfl) ?_
  refine jd_cS (n := 2) (As := [.ref (adV i), .int (Int32.ofInt j)]) (rest := []) hx hb (hml.trans hl.1.symm) hown hts hI hS (jd_lat hi h0 h1) jd_w_lat (bc_wat_ok (pos := 123) (by decide +kernel)) (bc_wat_ok (pos := 1357) (by decide +kernel)) (bc_wat_ok (pos := 1358) (by decide +kernel)) ⟨by decide +kernel, by decide +kernel, by decide +kernel⟩ ⟨by rw [hRf]; exact Nat.le_refl _, by rw [hRl]; exact Nat.le_of_ble_eq_true rfl⟩ ⟨Nat.zero_le _, Nat.zero_le _⟩ rfl rfl (Nat.le_of_ble_eq_true rfl) jd_d_charAt_12 (fun locs1 hS => ?_)
  exact bc_iret hx hb hr (bc_fit_e (ty := 1) (A := True) ⟨⟨by omega, by omega⟩, trivial⟩).2.2.1 (fun t ht hW => ⟨⟨rfl, by rw [ht]; exact hH⟩, hS.F ht⟩) hS.2.2 jd_d_charAt_15 hlocks
theorem jd_cmp0 (a : Int) : compare a a = .eq := by simp [compare, compareOfLessAndEq]
theorem jd_n31 {x : UInt32} (h : vf_n32 x) : x.toNat % 2147483648 ≤ 2139095040 := by
  have h2 : (x &&& 0x7fffffff).toNat ≤ (0x7f800000 : UInt32).toNat := UInt32.le_iff_toNat_le.mp h
  rw [UInt32.toNat_and] at h2
  have h3 : x.toNat &&& (2 ^ 31 - 1) = x.toNat % 2 ^ 31 := Nat.and_two_pow_sub_one_eq_mod _ _
  have h4 : (0x7fffffff : UInt32).toNat = 2 ^ 31 - 1 := by decide
  rw [h4, h3] at h2
  exact h2
theorem jd_nn {x : UInt32} (h : vf_n32 x) : FP.fcmp x x = some .eq := by
  have hb := jd_n31 h
  show FP.Core.order (FP.Core.decode FP.Core.b32 x.toNat) (FP.Core.decode FP.Core.b32 x.toNat) = some .eq
  have hd : FP.Core.decode FP.Core.b32 x.toNat ≠ .nan := by
    unfold FP.Core.decode
    split
    · rename_i hE
      have e1 : x.toNat / 8388608 % 256 = 255 := hE
      have e2 : FP.Core.fieldT FP.Core.b32 x.toNat = 0 := by
        show x.toNat % 8388608 = 0
        omega
      rw [if_pos e2]
      intro q
      cases q
    · split <;> (intro q; cases q)
  cases hq : FP.Core.decode FP.Core.b32 x.toNat with
  | nan => exact absurd hq hd
  | inf s => exact congrArg some (jd_cmp0 _)
  | fin s c q => exact congrArg some (jd_cmp0 _)
theorem jd_isNaN {H : Heap} {x : UInt32} (hn : vf_n32 x) : jd_M g adV jd_y_isNaN jd_c_isNaN 1 (some .boolean) 0 [.float x] H (some (.int 0)) := by
  refine jd_ofW (by decide +kernel) (Nat.le_of_ble_eq_true rfl) (fun p e R s m args below meth c ls F hH hl => ?_)
  obtain ⟨hx, hb, hml, hts, hown, hlocks, hI, hRf, hRl, hr⟩ := F
  have hl : lv_has ls 1 [(0, .float x)] := hl
  have hS : va_S (bc_Z g) s.heap s.heap [] := va_S.rf
  refine lv_fload_n hx hb jd_d_isNaN_0 rfl (lv_at hl 0 rfl) ?_
  refine lv_fload_n hx hb jd_d_isNaN_1 rfl (lv_at hl 0 rfl) ?_
  refine lv_fcmp hx hb jd_d_isNaN_2 ?_
  rw [jd_nn hn]
  refine lv_if_eq (tgt := 10) hx hb jd_d_isNaN_3 (by decide) (fun _ => ?_) (fun h => absurd rfl h)
  refine lv_iconst (v := 0) hx hb jd_d_isNaN_10 (by decide) ?_
  exact bc_iret hx hb hr (by decide) (fun t ht hW => ⟨⟨rfl, by rw [ht]; exact hH⟩, hS.F ht⟩) hS.2.2 jd_d_isNaN_11 hlocks
theorem jd_f2i {H : Heap} {x : UInt32} (hn : vf_n32 x) : jd_M g adV jd_y_f2i jd_c_f2i 1 (some .int) 1 [.float x] H (some (.int x.toInt32)) := by
  refine jd_ofW (by decide +kernel) (Nat.le_of_ble_eq_true rfl) (fun p e R s m args below meth c ls F hH hl => ?_)
  obtain ⟨hx, hb, hml, hts, hown, hlocks, hI, hRf, hRl, hr⟩ := F
  have hl : lv_has ls 1 [(0, .float x)] := hl
  have hS : va_S (bc_Z g) s.heap s.heap [] := va_S.rf
  refine lv_fload_n hx hb jd_d_f2i_0 rfl (lv_at hl 0 rfl) ?_
  refine jd_cS (n := 1) (As := [.float x]) (rest := []) hx hb (hml.trans hl.1.symm) hown hts hI hS (jd_isNaN hn) jd_w_isNaN (bc_wat_ok (pos := 122) (by decide +kernel)) (bc_wat_ok (pos := 1779) (by decide +kernel)) (bc_wat_ok (pos := 1780) (by decide +kernel)) ⟨by decide +kernel, by decide +kernel, by decide +kernel⟩ ⟨by rw [hRf]; exact Nat.le_refl _, by rw [hRl]; exact Nat.le_of_ble_eq_true rfl⟩ ⟨Nat.zero_le _, Nat.zero_le _⟩ rfl rfl (Nat.le_of_ble_eq_true rfl) jd_d_f2i_1 (fun locs1 hS => ?_)
  refine lv_if_ne (tgt := 12) hx hb jd_d_f2i_4 (by decide) (fun h => absurd rfl h) (fun _ => ?_)
  refine lv_fload_n hx hb jd_d_f2i_7 rfl (lv_at hl 0 rfl) ?_
  refine vn_f2i hx hb (hml.trans hl.1.symm) hown (hts _ (bc_wat_ok (pos := 1782) (by decide +kernel))) (hts _ (bc_wat_ok (pos := 1784) (by decide +kernel))) (hts _ (bc_wat_ok (pos := 1783) (by decide +kernel))) (hts _ (bc_wat_ok (pos := 122) (by decide +kernel))) (by rw [hRf]; exact Nat.le_refl _) (by rw [hRl]; exact Nat.le_of_ble_eq_true rfl) jd_d_f2i_8 ?_
  exact bc_iret hx hb hr rfl (fun t ht hW => ⟨⟨rfl, by rw [ht]; exact hH⟩, hS.F ht⟩) hS.2.2 jd_d_f2i_11 hlocks
end JDK
