/-! THE JDK'S BUILDERS AND TEXTS, walked by their own code: a builder is a cell and her 16 bytes, that no text of the law outgrows -/
def sj_T0 : u_T := fun k => match k with
  | 0 => ("java/lang/AbstractStringBuilder", "value", "[B", false)
  | 1 => ("java/lang/AbstractStringBuilder", "coder", "B", false)
  | 2 => ("java/lang/AbstractStringBuilder", "maybeLatin1", "Z", false)
  | _ => ("java/lang/AbstractStringBuilder", "count", "I", false)
def sj_T1 : u_T := fun k => match k with
  | 0 => ("java/lang/String", "value", "[B", true)
  | 1 => ("java/lang/String", "coder", "B", true)
  | 2 => ("java/lang/String", "hash", "I", false)
  | _ => ("java/lang/String", "hashIsZero", "Z", false)
def sj_y0 : Nat → FieldType := fun k => match k with
  | 0 => .array .byte
  | 1 => .byte
  | 2 => .boolean
  | _ => .int
def sj_y1 : Nat → FieldType := fun k => match k with
  | 0 => .array .byte
  | 1 => .byte
  | 2 => .int
  | _ => .boolean
abbrev sj_cl : List vw_C := [("java/lang/StringBuilder", sj_T0, 4), ("java/lang/String", sj_T1, 4)]
def sj_wq : List Nat → List Cond → Bool
  | p :: ps, w :: ws => bc_wat p w && sj_wq ps ws
  | [], [] => true
  | _, _ => false
theorem sj_wl : ∀ {ps : List Nat} {ws : List Cond}, sj_wq ps ws = true → ∀ w ∈ ws, w ∈ bc_W
  | p :: ps, w :: ws, h, v, hv => by
    have h : (bc_wat p w && sj_wq ps ws) = true := h
    rw [Bool.and_eq_true] at h
    rcases List.mem_cons.mp hv with e | hv
    · rw [e]; exact bc_wat_ok h.1
    · exact sj_wl h.2 v hv
  | [], [], _, v, hv => absurd hv List.not_mem_nil
  | _ :: _, [], _, v, hv => absurd hv List.not_mem_nil
  | [], _ :: _, h, _, _ => absurd h Bool.false_ne_true
theorem sj_w0 : ∀ w ∈ u_ws "java/lang/StringBuilder" sj_T0 4, w ∈ bc_W := sj_wl (ps := [1207, 1209, 1211, 1213]) (by decide +kernel)
theorem sj_w1 : ∀ w ∈ u_ws "java/lang/String" sj_T1 4, w ∈ bc_W := sj_wl (ps := [476, 478, 1402, 1404]) (by decide +kernel)
theorem sj_n0 : ∀ a, a < 4 → ∀ b, b < 4 → a ≠ b → (sj_T0 a).2.1 ≠ (sj_T0 b).2.1 := by decide +kernel
theorem sj_n1 : ∀ a, a < 4 → ∀ b, b < 4 → a ≠ b → (sj_T1 a).2.1 ≠ (sj_T1 b).2.1 := by decide +kernel
theorem sj_t0 : ∀ k, k < 4 → parseFieldDescriptor (sj_T0 k).2.2.1 = some (sj_y0 k) := by decide +kernel
theorem sj_t1 : ∀ k, k < 4 → parseFieldDescriptor (sj_T1 k).2.2.1 = some (sj_y1 k) := by decide +kernel
section SWD
variable {args : Array Value} {s : State} {x : MethodName}
/-- a method is declared whose code is told -/
theorem sw_decl {bytes : ByteArray} {mL : Nat} {ret : Option FieldType} (h1 : (Cond.code x bytes mL ret).before args s = true) (h2 : (Cond.instanceMethod x).before args s = true) : (Cond.declares x).before args s = true := by
  obtain ⟨m, r, hn, hm, hst, -⟩ := Cond.instanceMethod_spec h2
  obtain ⟨meth, c, h3, -, -, -, -, -, -, h4⟩ := Cond.code_spec hn h1
  cases hm.symm.trans h3
  simp [Cond.before, Cond.holds, Cond.value, hn, hm, hst, h4]
/-- a private method is the one that is selected, whatever the receiver's class -/
theorem sw_priv {C nm ds : String} {c : ClassId} (hx : x.cls ≠ "java/lang/invoke/MethodHandle" ∧ x.cls ≠ "java/lang/invoke/VarHandle") (hc : s.vm.findClass C = some c) (h1 : (Cond.instanceMethod x).before args s = true) (h2 : (Cond.privateMethod x).before args s = true) (h3 : (Cond.sameMethod x.cls x.cls nm ds).before args s = true) (h4 : (Cond.instanceMethod ⟨x.cls, nm, ds⟩).before args s = true) : (Cond.selects C x x).before args s = true := by
  obtain ⟨m, r, hn, hm, hst, -⟩ := Cond.instanceMethod_spec h1
  have hf := State.methodFound?_of_named hn hx
  have hcl : s.vm.findClass x.cls = some m.cls := findClass_of_methodNamed hn
  obtain ⟨m4, r4, hn4, hm4, -, -⟩ := Cond.instanceMethod_spec h4
  have hf4 : s.methodFound? x.cls nm ds = some m4 := State.methodFound?_of_named (x := ⟨x.cls, nm, ds⟩) hn4 hx
  obtain ⟨-, k, hk, hni⟩ := Cond.sameMethod_spec hcl hf4 h3
  have hsel : selectMethod {} s.vm c m = .method m := selectMethod_private hm (Cond.privateMethod_at h2 m r hn hm)
  simp only [Cond.before, Cond.holds, Cond.value, hc, hf, hn, hsel, hk]
  simp [hni]
end SWD
/-- a text: her cell, her bytes' cell, her length, her bytes -/
abbrev sj_s : Type := Nat × Nat × Nat × (Nat → Int32)
/-- the world of builders and texts: where the classes' fields lie, the byte rows' class, the digits' two tables, what may change -/
abbrev sj_w : Type := va_G × ClassId × Nat × Nat × (Nat → Prop)
def sj_S (θ : sj_w) (q : sj_s) (U : State) (H : Heap) : Prop := va_O "java/lang/String" q.1 θ.2.2.2.2 U H ∧ va_OF "java/lang/String" "coder" "B" (.int 0) q.1 θ.2.2.2.2 U H ∧ va_OF "java/lang/String" "value" "[B" (.ref q.2.1) q.1 θ.2.2.2.2 U H ∧ va_T .byte q.2.1 q.2.2.1 (fun j => .int (q.2.2.2 j)) θ.2.2.2.2 U H ∧ q.2.2.1 ≤ 16 ∧ ∀ j : Nat, j < q.2.2.1 → fits .byte (.int (q.2.2.2 j)) = true
/-- the builders' private methods -/
def sj_ps : List MethodName := [⟨"java/lang/AbstractStringBuilder", "ensureCapacityInternal", "(I)V"⟩, ⟨"java/lang/AbstractStringBuilder", "inflateIfNeededFor", "(Ljava/lang/String;)V"⟩, ⟨"java/lang/AbstractStringBuilder", "putStringAt", "(ILjava/lang/String;)V"⟩]
theorem sj_psd : ∀ y ∈ sj_ps, y.cls ≠ "java/lang/invoke/MethodHandle" ∧ y.cls ≠ "java/lang/invoke/VarHandle" := by decide +kernel
theorem sj_sel {y : MethodName} {u U : State} (hy : y ∈ sj_ps) (hvm : u.vm.Alike U.vm) (h : va_Nw (.selects "java/lang/StringBuilder" y y) u) : va_Nw (.selects "java/lang/StringBuilder" y y) U := by
  obtain ⟨c, r, m, h1, h2, h3, -, -⟩ := Cond.selects_spec h
  exact va_tabs rfl (rfl : (u.setVm U.vm).vm = U.vm) (by rw [Cond.selects_setVm hvm h3 (sj_psd y hy)]; exact h)
def sj_I (θ : sj_w) (ss : List sj_s) (U : State) (H : Heap) : Prop := va_K θ.1 sj_cl [(θ.2.1, .byte)] U ∧ (va_Z "java/lang/String" "COMPACT_STRINGS" "Z" (.int 1) θ.2.2.2.2 U H ∧ va_Zq "jdk/internal/util/Preconditions" "SIOOBE_FORMATTER" "Ljava/util/function/BiFunction;" θ.2.2.2.2 U H) ∧ (va_Z "java/lang/Integer" "DigitOnes" "[B" (.ref θ.2.2.1) θ.2.2.2.2 U H ∧ va_T .byte θ.2.2.1 100 (fun j => .int (Int32.ofInt (48 + (j : Int) % 10))) θ.2.2.2.2 U H) ∧ (va_Z "java/lang/Integer" "DigitTens" "[B" (.ref θ.2.2.2.1) θ.2.2.2.2 U H ∧ va_T .byte θ.2.2.2.1 100 (fun j => .int (Int32.ofInt (48 + (j : Int) / 10))) θ.2.2.2.2 U H) ∧ (∀ q : Nat, H.size ≤ q → θ.2.2.2.2 q) ∧ (∀ y ∈ sj_ps, va_Nw (.selects "java/lang/StringBuilder" y y) U) ∧ ∀ q ∈ ss, sj_S θ q U H
theorem sj_S.go {θ : sj_w} {q : sj_s} {u U : State} {H H1 : Heap} (hvm : u.vm.Alike U.vm) (hq : ∀ a : Nat, a < H.size → ¬ θ.2.2.2.2 a → H1[a]? = H[a]?) (h : sj_S θ q u H) : sj_S θ q U H1 :=
  ⟨(h.1.moved hvm).kept hq, (h.2.1.moved hvm).kept hq, (h.2.2.1.moved hvm).kept hq, (h.2.2.2.1.moved hvm).kept hq, h.2.2.2.2⟩
theorem sj_I.go {θ : sj_w} {ss : List sj_s} {u U : State} {H H1 : Heap} (hvm : u.vm.Alike U.vm) (hz : H.size ≤ H1.size) (hq : ∀ a : Nat, a < H.size → ¬ θ.2.2.2.2 a → H1[a]? = H[a]?) (h : sj_I θ ss u H) : sj_I θ ss U H1 :=
  ⟨va_K.moved hvm h.1, ⟨(h.2.1.1.moved hvm).kept hq, (h.2.1.2.moved hvm).kept hq⟩, ⟨(h.2.2.1.1.moved hvm).kept hq, (h.2.2.1.2.moved hvm).kept hq⟩, ⟨(h.2.2.2.1.1.moved hvm).kept hq, (h.2.2.2.1.2.moved hvm).kept hq⟩, fun q hh => h.2.2.2.2.1 q (Nat.le_trans hz hh), fun y hy => sj_sel hy hvm (h.2.2.2.2.2.1 y hy), fun q hh => (h.2.2.2.2.2.2 q hh).go hvm hq⟩
theorem sj_I.sub {θ : sj_w} {ss ss1 : List sj_s} {U : State} {H : Heap} (hs : ∀ q ∈ ss1, q ∈ ss) (h : sj_I θ ss U H) : sj_I θ ss1 U H := ⟨h.1, h.2.1, h.2.2.1, h.2.2.2.1, h.2.2.2.2.1, h.2.2.2.2.2.1, fun q hq => h.2.2.2.2.2.2 q (hs q hq)⟩
def sj_rm (k mc ms : Nat) : Room := { frames := k, cells := mc, slots := ms, locals := 50 * k }
def sj_Q (Z : Nat → Prop) (post : Option Value → Heap → Prop) : Array Value → State → Outcome → State → Prop := fun _ st o t => (∃ r : Option Value, o = .returned r ∧ post r t.heap) ∧ va_F Z st t
def sj_Pc (θ : sj_w) (ss : List sj_s) (as : List Value) (ws : va_W) (H : Heap) : Array Value → State → Prop := fun v U => v = as.toArray ∧ U.heap = H ∧ va_P θ.1 sj_cl ws H ∧ sj_I θ ss U H
def sj_M (l : Launch) (θ : sj_w) (ss : List sj_s) (y : MethodName) (cc : ByteArray) (mL : Nat) (ret : Option FieldType) (k mc ms : Nat) (as : List Value) (ws : va_W) (H : Heap) (post : Option Value → Heap → Prop) : Prop := Met l y (Cond.code y cc mL ret :: bc_W) (sj_rm k mc ms) (sj_Pc θ ss as ws H) (sj_Q θ.2.2.2.2 post) mc ms θ.2.2.2.2
theorem sj_blind {θ : sj_w} {ss : List sj_s} {as : List Value} {ws : va_W} {H : Heap} : FrameBlind (sj_Pc θ ss as ws H) := fun a U gg mk h => ⟨h.1, h.2.1, h.2.2.1, sj_I.go (u := U) (U := U.calling gg mk a) (Vm.Alike.refl U.vm) (Nat.le_refl _) (fun _ _ _ => rfl) h.2.2.2⟩
def sj_Fx (θ : sj_w) (ss : List sj_s) (y : MethodName) (cc : ByteArray) (mL : Nat) (ret : Option FieldType) (k mc ms : Nat) (p : Program) (R : Room) (s : State) (m : MethodId) (args : Array Value) (meth : Method) (c : Code) : Prop :=
  p.tables.exec = Jvm.exec ∧ c.code = cc ∧ c.maxLocals = mL ∧ (∀ w ∈ bc_W, w.before args s = true) ∧ s.vm.findClass y.cls = some m.cls ∧ meth.locks = false ∧ sj_I θ ss s s.heap ∧ R.frames = k ∧ R.locals = 50 * k ∧ R.cells = mc ∧ R.slots = ms ∧ meth.sig.returnType = ret ∧ meth.name = y.name
theorem sj_ofW {l : Launch} {θ : sj_w} {ss : List sj_s} {y : MethodName} {cc : ByteArray} {mL : Nat} {ret : Option FieldType} {k mc ms : Nat} {as : List Value} {ws : va_W} {H : Heap} {post : Option Value → Heap → Prop} (hy : plainName y.cls = true) (hlen : (lg_sl as).length ≤ mL)
    (body : ∀ (p : Program) (e : Env) (R : Room) (s : State) (m : MethodId) (args : Array Value) (below : List Frame) (meth : Method) (c : Code) (ls : Array Slot), sj_Fx θ ss y cc mL ret k mc ms p R s m args meth c → s.heap = H → va_P θ.1 sj_cl ws s.heap → lv_has ls mL (lv_args 0 as) → W p l e R s m args below meth c s.heap [] 0 0 (MQ below (sj_Q θ.2.2.2.2 post) args s mc ms θ.2.2.2.2) (F0 m 0 ls [])) : sj_M l θ ss y cc mL ret k mc ms as ws H post := by
  unfold sj_M
  refine Met.ofW (cc := cc) (maxL := mL) (ret := ret) hy rfl ?_
  intro p e s m args below meth c s₁ B hml hv
  obtain ⟨rfl, hH, hP, hI⟩ := hv
  have hts := atoms_spec (ws := Cond.code y cc mL ret :: bc_W) B.pre
  have hl := lv_entry as (n := mL) hlen
  rw [lg_entry_eq]
  exact body p e _ s m _ below meth c _ ⟨B.exec, B.bytes, hml, fun w h => hts w (List.mem_cons_of_mem _ h), findClass_of_methodNamed B.named, B.notSynchronized, by rw [hH]; exact hI, rfl, rfl, rfl, rfl, B.returns, (name_of_methodNamed B.named B.method).1⟩ hH (by rw [hH]; exact hP) hl
theorem sj_shr (x : Int32) : x >>> ((0 : Int32) &&& 31) = x := by
  show x >>> (0 : Int32) = x
  simp
theorem sj_shl (x : Int32) : x <<< ((0 : Int32) &&& 31) = x := by
  show x <<< (0 : Int32) = x
  simp
theorem sj_len0 : ∀ sig, parseMethodDescriptor "()I" = some sig → 0 = sig.parameters.length := fun sig h => by
  have h2 : (parseMethodDescriptor "()I").map (fun d => d.parameters.length) = some 0 := by decide +kernel
  rw [h] at h2
  exact (Option.some.inj h2).symm
section SJC
variable {l : Launch} {θ : sj_w} {ss ss1 : List sj_s} {ws : va_W} {post : Option Value → Heap → Prop} {mc ms : Nat}
variable {p : Program} {e : Env} {R : Room} {s : State} {m : MethodId} {args : Array Value} {below : List Frame} {meth : Method} {c : Code} {Q : State → Prop} {H : Heap} {locs : List Loc} {cells slots : Nat} {pc : Nat} {ls : Array Slot} {st0 rest : List Value} {cc : ByteArray}
theorem sj_go {a : Array Value} (hr : va_Run p l e R s m args below meth c H locs cells slots mc ms (F0 m pc ls st0) rest (sj_Q θ.2.2.2.2 post a) θ.2.2.2.2) (hS : va_S θ.2.2.2.2 s.heap H locs)
    (kk : ∀ (r : Option Value) (H1 : Heap) (locs1 : List Loc), post r H1 → (∀ q : Nat, q < H.size → ¬ θ.2.2.2.2 q → H1[q]? = H[q]?) → H.size ≤ H1.size → va_S θ.2.2.2.2 s.heap H1 locs1 → W p l e R s m args below meth c H1 locs1 (cells + mc) (slots + ms) Q (F0 m (pc + 3) ls (r.toList ++ rest))) : W p l e R s m args below meth c H locs cells slots Q (F0 m pc ls st0) := by
  intro T hT X
  obtain ⟨v, st₀, t, T', L, h0, X', hL, e1, e2, ⟨⟨r, hv, hp⟩, hF⟩, st⟩ := hr T hT X
  cases hv
  obtain ⟨k1, k2, k3⟩ := vx_keep h0 e1 hS (fun q _ h => h) (fun q h => h) hL hF
  obtain ⟨t2, a1, b1⟩ := kk _ T'.heap (locs ++ L) (by rw [e1]; exact hp) k2 k1 k3 T' rfl X'
  exact ⟨t2, st t2 a1, b1⟩
theorem sj_pre {as : List Value} (hI : sj_I θ ss s s.heap) (hss : ∀ q ∈ ss1, q ∈ ss) (hS : va_S θ.2.2.2.2 s.heap H locs) (hP : va_P θ.1 sj_cl ws H) : ∀ U : State, U.heap = H → s.WarmedH U.vm → sj_Pc θ ss1 as ws H as.toArray U := fun U hU hW => ⟨rfl, hU, hP, sj_I.sub hss (sj_I.go hW.alike hS.1 (fun a ha hna => hS.2.1 a ha hna) hI)⟩
/-- a static method -/
theorem sj_cS {y : MethodName} {bytes : ByteArray} {mL : Nat} {ret : Option FieldType} {k n ix : Nat} {own : String} {As : List Value} (hx : p.tables.exec = Jvm.exec) (hb : c.code = cc) (hml : c.maxLocals = ls.size) (hown : s.vm.findClass own = some m.cls) (hts : ∀ w ∈ bc_W, w.before args s = true) (hI : sj_I θ ss s s.heap) (hS : va_S θ.2.2.2.2 s.heap H locs) (hP : va_P θ.1 sj_cl ws H) (hss : ∀ q ∈ ss1, q ∈ ss)
    (hM : sj_M l θ ss1 y bytes mL ret k mc ms As ws H post) (hcw : Cond.code y bytes mL ret ∈ bc_W) (hini : Cond.initialized y.cls ∈ bc_W) (hl : Cond.methodLink own ix y ∈ bc_W) (hst : Cond.static y ∈ bc_W)
    (hd : y.cls ≠ "java/lang/invoke/MethodHandle" ∧ y.cls ≠ "java/lang/invoke/VarHandle" ∧ (parseMethodDescriptor y.desc).map (fun d => d.parameters.length) = some n) (hR : k + 1 ≤ R.frames ∧ 8 + (mL + 11) + 50 * k ≤ R.locals) (hf : cells + mc ≤ R.cells ∧ slots + ms ≤ R.slots) (hn : As.length = n) (hs0 : st0 = As.reverse ++ rest) (hW : (rest.map fun v => v.category).sum ≤ 8) (hdg : decode cc pc = .ok (.invokestatic ix, 3))
    (kk : ∀ (r : Option Value) (H1 : Heap) (locs1 : List Loc), post r H1 → (∀ q : Nat, q < H.size → ¬ θ.2.2.2.2 q → H1[q]? = H[q]?) → H.size ≤ H1.size → va_S θ.2.2.2.2 s.heap H1 locs1 → W p l e R s m args below meth c H1 locs1 (cells + mc) (slots + ms) Q (F0 m (pc + 3) ls (r.toList ++ rest))) : W p l e R s m args below meth c H locs cells slots Q (F0 m pc ls st0) :=
  sj_go (va_runS (As := As) (rest := rest) (Ts := bc_W) (cc := cc) (nL := ls.size) ⟨hx, hb, hml, hown, hts⟩ hM ⟨callB_of n hts (jd_good hcw) rfl rfl rfl (hts _ hini) (hts _ hl) hd hR, hts _ hst⟩ ⟨sj_blind, sj_pre hI hss hS hP⟩ rfl hn rfl hs0 (lv_room hW) hdg hf) hS kk
/-- a method of an object of class C -/
theorem sj_cV {C : String} {y : MethodName} {bytes : ByteArray} {mL : Nat} {ret : Option FieldType} {k n ix b : Nat} {own : String} {As : List Value} (hx : p.tables.exec = Jvm.exec) (hb : c.code = cc) (hml : c.maxLocals = ls.size) (hown : s.vm.findClass own = some m.cls) (hts : ∀ w ∈ bc_W, w.before args s = true) (hI : sj_I θ ss s s.heap) (hS : va_S θ.2.2.2.2 s.heap H locs) (hP : va_P θ.1 sj_cl ws H) (hss : ∀ q ∈ ss1, q ∈ ss)
    (hM : sj_M l θ ss1 y bytes mL ret k mc ms (.ref b :: As) ws H post) (hcw : Cond.code y bytes mL ret ∈ bc_W) (hini : Cond.initialized y.cls ∈ bc_W) (hl : Cond.methodLink own ix y ∈ bc_W) (hin : Cond.instanceMethod y ∈ bc_W) (hse : (Cond.selects C y y).before args s = true) (hrc : ∃ cellB : Cell, H[b]? = some cellB ∧ cellB.vm.isStatics = false ∧ s.vm.findClass C = some cellB.cls)
    (hd : y.cls ≠ "java/lang/invoke/MethodHandle" ∧ y.cls ≠ "java/lang/invoke/VarHandle" ∧ (parseMethodDescriptor y.desc).map (fun d => d.parameters.length) = some n) (hR : k + 1 ≤ R.frames ∧ 8 + (mL + 11) + 50 * k ≤ R.locals) (hf : cells + mc ≤ R.cells ∧ slots + ms ≤ R.slots) (hn : As.length = n) (hs0 : st0 = As.reverse ++ .ref b :: rest) (hW : (rest.map fun v => v.category).sum ≤ 8) (hdg : decode cc pc = .ok (.invokevirtual ix, 3))
    (kk : ∀ (r : Option Value) (H1 : Heap) (locs1 : List Loc), post r H1 → (∀ q : Nat, q < H.size → ¬ θ.2.2.2.2 q → H1[q]? = H[q]?) → H.size ≤ H1.size → va_S θ.2.2.2.2 s.heap H1 locs1 → W p l e R s m args below meth c H1 locs1 (cells + mc) (slots + ms) Q (F0 m (pc + 3) ls (r.toList ++ rest))) : W p l e R s m args below meth c H locs cells slots Q (F0 m pc ls st0) :=
  sj_go (va_runV (C := C) (b := b) (As := As) (rest := rest) (Ts := bc_W) (cc := cc) (nL := ls.size) ⟨hx, hb, hml, hown, hts⟩ hM ⟨callB_of n hts (jd_good hcw) rfl rfl rfl (hts _ hini) (hts _ hl) hd hR, hts _ hin, hse⟩ ⟨sj_blind, hrc, sj_pre hI hss hS hP⟩ rfl hn rfl hs0 (lv_room hW) hdg hf) hS kk
/-- a constructor -/
theorem sj_cI {y : MethodName} {bytes : ByteArray} {mL : Nat} {k n ix b : Nat} {own : String} {As : List Value} (hx : p.tables.exec = Jvm.exec) (hb : c.code = cc) (hml : c.maxLocals = ls.size) (hown : s.vm.findClass own = some m.cls) (hts : ∀ w ∈ bc_W, w.before args s = true) (hI : sj_I θ ss s s.heap) (hS : va_S θ.2.2.2.2 s.heap H locs) (hP : va_P θ.1 sj_cl ws H) (hss : ∀ q ∈ ss1, q ∈ ss)
    (hM : sj_M l θ ss1 y bytes mL none k mc ms (.ref b :: As) ws H post) (hcw : Cond.code y bytes mL none ∈ bc_W) (hini : Cond.initialized y.cls ∈ bc_W) (hl : Cond.methodLink own ix y ∈ bc_W) (hin : Cond.instanceMethod y ∈ bc_W) (hy1 : y.name = "<init>")
    (hd : y.cls ≠ "java/lang/invoke/MethodHandle" ∧ y.cls ≠ "java/lang/invoke/VarHandle" ∧ (parseMethodDescriptor y.desc).map (fun d => d.parameters.length) = some n) (hR : k + 1 ≤ R.frames ∧ 8 + (mL + 11) + 50 * k ≤ R.locals) (hf : cells + mc ≤ R.cells ∧ slots + ms ≤ R.slots) (hn : As.length = n) (hs0 : st0 = As.reverse ++ .ref b :: rest) (hW : (rest.map fun v => v.category).sum ≤ 8) (hdg : decode cc pc = .ok (.invokespecial ix, 3))
    (kk : ∀ (r : Option Value) (H1 : Heap) (locs1 : List Loc), post r H1 → (∀ q : Nat, q < H.size → ¬ θ.2.2.2.2 q → H1[q]? = H[q]?) → H.size ≤ H1.size → va_S θ.2.2.2.2 s.heap H1 locs1 → W p l e R s m args below meth c H1 locs1 (cells + mc) (slots + ms) Q (F0 m (pc + 3) ls (r.toList ++ rest))) : W p l e R s m args below meth c H locs cells slots Q (F0 m pc ls st0) :=
  sj_go (va_runI (b := b) (As := As) (rest := rest) (Ts := bc_W) (cc := cc) (nL := ls.size) ⟨hx, hb, hml, hown, hts⟩ hM (cwI n hts (jd_good hcw) rfl rfl rfl (hts _ hini) (hts _ hl) (hts _ hin) hy1 hd hR) ⟨sj_blind, sj_pre hI hss hS hP⟩ rfl hn rfl hs0 (lv_room hW) hdg hf) hS kk
/-- the method of the class above -/
theorem sj_cU {y : MethodName} {bytes : ByteArray} {mL : Nat} {ret : Option FieldType} {k n ix b : Nat} {fs : List Value} {q0 : Nat} {As : List Value} (hx : p.tables.exec = Jvm.exec) (hb : c.code = cc) (hml : c.maxLocals = ls.size) (hown : s.vm.findClass "java/lang/StringBuilder" = some m.cls) (hts : ∀ w ∈ bc_W, w.before args s = true) (hI : sj_I θ ss s s.heap) (hS : va_S θ.2.2.2.2 s.heap H locs) (hP : va_P θ.1 sj_cl ws H) (hss : ∀ q ∈ ss1, q ∈ ss)
    (hM : sj_M l θ ss1 y bytes mL ret k mc ms (.ref b :: As) ws H post) (hcw : Cond.code y bytes mL ret ∈ bc_W) (hini : Cond.initialized y.cls ∈ bc_W) (hl : Cond.methodLink "java/lang/StringBuilder" ix y ∈ bc_W) (hsm : Cond.sameMethod y.cls y.cls y.name y.desc ∈ bc_W) (hsu : Cond.superclass "java/lang/StringBuilder" y.cls ∈ bc_W) (hin : Cond.instanceMethod y ∈ bc_W) (he : ws[q0]? = some (b, .inr (0, fs)))
    (hd : y.name ≠ "<init>" ∧ (parseMethodDescriptor y.desc).map (fun d => d.parameters.length) = some n) (hR : k + 1 ≤ R.frames ∧ 8 + (mL + 11) + 50 * k ≤ R.locals) (hf : cells + mc ≤ R.cells ∧ slots + ms ≤ R.slots) (hn : As.length = n) (hs0 : st0 = As.reverse ++ .ref b :: rest) (hW : (rest.map fun v => v.category).sum ≤ 8) (hdg : decode cc pc = .ok (.invokespecial ix, 3))
    (kk : ∀ (r : Option Value) (H1 : Heap) (locs1 : List Loc), post r H1 → (∀ q : Nat, q < H.size → ¬ θ.2.2.2.2 q → H1[q]? = H[q]?) → H.size ≤ H1.size → va_S θ.2.2.2.2 s.heap H1 locs1 → W p l e R s m args below meth c H1 locs1 (cells + mc) (slots + ms) Q (F0 m (pc + 3) ls (r.toList ++ rest))) : W p l e R s m args below meth c H locs cells slots Q (F0 m pc ls st0) :=
  sj_go (va_runSU (C := "java/lang/StringBuilder") (b := b) (As := As) (rest := rest) (Ts := bc_W) (cc := cc) (nL := ls.size) (hI.1.1 0 _ rfl).2 ⟨hx, hb, hml, hown, hts⟩ hM ⟨⟨rfl, rfl, hR.1, hR.2, pay_in hts (jd_good hcw), List.mem_cons_self⟩, hts _ hl, hts _ hsm, hts _ hsu, hts _ hin, hts _ hini, hts _ hcw, hd.1, fun sig h => by have h2 := hd.2; rw [h] at h2; exact (Option.some.inj h2).symm⟩ ⟨sj_blind, va_recv (q := ("java/lang/StringBuilder", sj_T0, 4)) hI.1 hP rfl he, sj_pre hI hss hS hP⟩ rfl hn rfl hs0 (lv_room hW) hdg hf) hS kk
/-- a row of bytes is made -/
theorem sj_newa {n : Nat} (hx : p.tables.exec = Jvm.exec) (hb : c.code = cc) (hts : ∀ w ∈ bc_W, w.before args s = true) (hI : sj_I θ ss s s.heap) (hP : va_P θ.1 sj_cl ws H) (hD : va_D θ.2.2.2.2 ws) (hS : va_S θ.2.2.2.2 s.heap H locs) (hn : n ≤ 16) (hcells : cells + 1 ≤ R.cells) (hslots : slots + 16 ≤ R.slots) (hdg : decode cc pc = .ok (.newarray .byte, 2))
    (kk : ∀ H1 : Heap, H1.size = H.size + 1 → (∀ q : Nat, q < H.size → H1[q]? = H[q]?) → va_P θ.1 sj_cl (ws ++ [(H.size, .inl (θ.2.1, n, .inl (fun _ => 0)))]) H1 → va_D θ.2.2.2.2 (ws ++ [(H.size, .inl (θ.2.1, n, .inl (fun _ => 0)))]) → va_S θ.2.2.2.2 s.heap H1 locs → W p l e R s m args below meth c H1 locs (cells + 1) (slots + 16) Q (F0 m (pc + 2) ls (.ref H.size :: rest))) : W p l e R s m args below meth c H locs cells slots Q (F0 m pc ls (.int (Int32.ofInt (n : Int)) :: rest)) := by
  obtain ⟨a1, a2⟩ := bc_nng (x := (n : Int)) (by omega) (by omega)
  refine va_newaK (atype := .byte) (N := n) (h := H.size) hx hb (hts _ (bc_wat_ok (pos := 475) (by decide +kernel))) rfl hdg rfl a1 a2 (by show n * 1 ≤ 536870912; omega) hcells (by omega) rfl (fun H1 cA e1 z1 k1 hAr hNm => ?_)
  have hcA : cA = θ.2.1 := by
    have h9 : s.vm.findClass ("[" ++ FieldType.byte.toString) = some θ.2.1 := (hI.1.2 0 _ rfl).2
    exact Option.some.inj (hNm.symm.trans h9)
  rw [hcA] at e1
  refine W.widen (k := cells + 1) (n := slots + 16) (Nat.le_refl _) (by omega) (kk H1 z1 k1 ?_ ?_ ?_)
  · refine (hP.kept (fun k x hx => k1 x.1 ((hP k x hx).lt))).app (fun k x hk => ?_)
    match k, hk with
    | 0, hk =>
      cases hk
      show H1[H.size]? = some (vp_cell _ _)
      rw [e1]
      rfl
    | k + 1, hk => cases hk
  · exact hD.push hP rfl (hI.2.2.2.2.1 _ hS.1)
  · exact ⟨Nat.le_trans hS.1 (by omega), fun q h1 h2 => (k1 q (Nat.lt_of_lt_of_le h1 hS.1)).trans (hS.2.1 q h1 h2), hS.2.2⟩
/-- an object is made -/
theorem sj_newo {own C : String} {TT : u_T} {ty : Nat → FieldType} {ci index : Nat} (hc : sj_cl[ci]? = some (C, TT, 4)) (hin : ∀ w ∈ u_ws C TT 4, w ∈ bc_W) (hty : ∀ k, k < 4 → parseFieldDescriptor (TT k).2.2.1 = some (ty k)) (hfs : ∀ j, j < 4 → defaultValue (ty j) = vp_V [.null, .int 0, .int 0, .int 0] j) (hx : p.tables.exec = Jvm.exec) (hb : c.code = cc) (hown : s.vm.findClass own = some m.cls) (hts : ∀ w ∈ bc_W, w.before args s = true) (hcl : Cond.classLink own index C ∈ bc_W) (hinst : Cond.instantiable C 4 ∈ bc_W) (hini : Cond.initialized C ∈ bc_W) (hI : sj_I θ ss s s.heap) (hP : va_P θ.1 sj_cl ws H) (hD : va_D θ.2.2.2.2 ws) (hS : va_S θ.2.2.2.2 s.heap H locs) (hcells : cells + 1 ≤ R.cells) (hslots : slots + 4 ≤ R.slots) (hdg : decode cc pc = .ok (.new index, 3))
    (kk : ∀ H1 : Heap, H1.size = H.size + 1 → (∀ q : Nat, q < H.size → H1[q]? = H[q]?) → va_P θ.1 sj_cl (ws ++ [(H.size, .inr (ci, [.null, .int 0, .int 0, .int 0]))]) H1 → va_D θ.2.2.2.2 (ws ++ [(H.size, .inr (ci, [.null, .int 0, .int 0, .int 0]))]) → va_S θ.2.2.2.2 s.heap H1 locs → W p l e R s m args below meth c H1 locs (cells + 1) (slots + 4) Q (F0 m (pc + 3) ls (.ref H.size :: rest))) : W p l e R s m args below meth c H locs cells slots Q (F0 m pc ls rest) := by
  have hKn := hI.1.1 ci _ hc
  refine W.newcK (h := H.size) hx hb hown (hts _ hcl) (hts _ hinst) (hts _ hini) rfl hdg hcells hslots hKn.2.1 rfl (fun H1 kC hkC e1 z1 k1 => ?_)
  refine kk H1 z1 k1 ?_ ?_ ?_
  · refine (hP.kept (fun k x hx => k1 x.1 ((hP k x hx).lt))).app (fun k x hk => ?_)
    match k, hk with
    | 0, hk =>
      cases hk
      exact ⟨_, hc, (u_born ty hts hin hKn hkC e1 hty).to hfs⟩
    | k + 1, hk => cases hk
  · exact hD.push hP rfl (hI.2.2.2.2.1 _ hS.1)
  · exact ⟨Nat.le_trans hS.1 (by omega), fun q h1 h2 => (k1 q (Nat.lt_of_lt_of_le h1 hS.1)).trans (hS.2.1 q h1 h2), hS.2.2⟩
/-- the length of a builder, asked of the class above -/
theorem sj_cO {k b : Nat} {fs : List Value} {own : String} {ix : Nat} (hx : p.tables.exec = Jvm.exec) (hb : c.code = cc) (hml : c.maxLocals = ls.size) (hown : s.vm.findClass own = some m.cls) (hts : ∀ w ∈ bc_W, w.before args s = true) (hI : sj_I θ ss s s.heap) (hS : va_S θ.2.2.2.2 s.heap H locs) (hP : va_P θ.1 sj_cl ws H) (hss : ∀ q ∈ ss1, q ∈ ss) {bytes b0 : ByteArray}
    (hM : sj_M l θ ss1 ⟨"java/lang/StringBuilder", "length", "()I"⟩ bytes 1 (some .int) k mc ms [.ref b] ws H post) (hcw : Cond.code ⟨"java/lang/StringBuilder", "length", "()I"⟩ bytes 1 (some .int) ∈ bc_W) (hc0 : Cond.code ⟨"java/lang/AbstractStringBuilder", "length", "()I"⟩ b0 1 (some .int) ∈ bc_W) (hl : Cond.methodLink own ix ⟨"java/lang/AbstractStringBuilder", "length", "()I"⟩ ∈ bc_W) (he : ws[0]? = some (b, .inr (0, fs)))
    (hR : k + 1 ≤ R.frames ∧ 8 + (1 + 11) + 50 * k ≤ R.locals) (hf : cells + mc ≤ R.cells ∧ slots + ms ≤ R.slots) (hW : (rest.map fun v => v.category).sum ≤ 8) (hdg : decode cc pc = .ok (.invokevirtual ix, 3))
    (kk : ∀ (r : Option Value) (H1 : Heap) (locs1 : List Loc), post r H1 → (∀ q : Nat, q < H.size → ¬ θ.2.2.2.2 q → H1[q]? = H[q]?) → H.size ≤ H1.size → va_S θ.2.2.2.2 s.heap H1 locs1 → W p l e R s m args below meth c H1 locs1 (cells + mc) (slots + ms) Q (F0 m (pc + 3) ls (r.toList ++ rest))) : W p l e R s m args below meth c H locs cells slots Q (F0 m pc ls (.ref b :: rest)) :=
  sj_go (va_runU (C := "java/lang/StringBuilder") (owner := "java/lang/AbstractStringBuilder") (b := b) (As := []) (rest := rest) (Ts := bc_W) (cc := cc) (nL := ls.size) (n := 0) (x := ⟨"java/lang/AbstractStringBuilder", "length", "()I"⟩) ⟨hx, hb, hml, hown, hts⟩ hM ⟨⟨rfl, rfl, hR.1, hR.2, pay_in hts (jd_good hcw), List.mem_cons_self⟩, hts _ hcw, hts _ (bc_wat_ok (pos := 72) (by decide +kernel)), ⟨by decide +kernel, by decide +kernel⟩, sj_len0, hts _ hl, hts _ (bc_wat_ok (pos := 1366) (by decide +kernel)), va_Decl.of (hts _ (bc_wat_ok (pos := 1365) (by decide +kernel))) (hts _ hc0), hts _ (bc_wat_ok (pos := 1367) (by decide +kernel)), hts _ (bc_wat_ok (pos := 1368) (by decide +kernel))⟩ ⟨sj_blind, va_recv (q := ("java/lang/StringBuilder", sj_T0, 4)) hI.1 hP rfl he, sj_pre hI hss hS hP⟩ rfl rfl rfl rfl (lv_room hW) hdg hf) hS kk
end SJC
