section
noncomputable def bc_tsl : List Cond := (lw_tbl.drop 95).take 60 ++ (lw_tbl.drop 642).take 441
theorem bc_tsl_ok {w : Cond} (h : w ∈ bc_tsl) : w ∈ lw_tbl := by
  rcases List.mem_append.mp h with h | h
  · exact List.mem_of_mem_drop (List.mem_of_mem_take h)
  · exact List.mem_of_mem_drop (List.mem_of_mem_take h)
noncomputable abbrev bc_nms : List String := ["java/lang/RuntimeException", "java/lang/Exception"]
/-! NoSuchElementException: its own constructor names RuntimeException's by entry 13, so its chain is laid here; of the cell that is thrown only the class is said -/
noncomputable def bx_rx : ByteArray := ⟨#[0x2a, 0x2b, 0xb7, 0x00, 0x0d, 0xb1]⟩
theorem bx_r0 : decode bx_rx 0 = .ok (.aload_n 0, 1) := by decide +kernel
theorem bx_r1 : decode bx_rx 1 = .ok (.aload_n 1, 1) := by decide +kernel
theorem bx_r2 : decode bx_rx 2 = .ok (.invokespecial 13, 3) := by decide +kernel
theorem bx_r5 : decode bx_rx 5 = .ok (.return_, 1) := by decide +kernel
noncomputable abbrev bx_R : String := "java/lang/RuntimeException"
noncomputable abbrev bx_N : String := "java/util/NoSuchElementException"
noncomputable def bx_base : List Cond := Bundle.throwableAtoms ++ Bundle.throwableSAtoms
noncomputable def bx_chain : List Cond := Bundle.passSAtoms bx_N bx_R 13 bx_rx ++ Bundle.chainSAtoms bx_R ["java/lang/Exception"]
noncomputable def bx_rest (own : String) (ic : Nat) : List Cond :=
  [.methodLink own ic (Bundle.initS bx_N), .instantiable bx_N 6, .castable bx_N bx_N, .selects bx_N Bundle.tFill0 Bundle.tFill0, .selects bx_N Bundle.tFill Bundle.tFill,
   .lays bx_N Bundle.tN "cause" "Ljava/lang/Throwable;", .lays bx_N Bundle.tN "stackTrace" Bundle.steD, .lays bx_N Bundle.tN "suppressedExceptions" Bundle.listD, .lays bx_N Bundle.tN "detailMessage" "Ljava/lang/String;",
   .fieldLink Bundle.tN 198 Bundle.tN "backtrace" "Ljava/lang/Object;", .lays Bundle.tN Bundle.tN "backtrace" "Ljava/lang/Object;", .lays bx_N Bundle.tN "backtrace" "Ljava/lang/Object;"]
noncomputable def bx_all (own : String) (ic : Nat) : List Cond := bx_base ++ bx_chain ++ bx_rest own ic
noncomputable def bx_words (own : String) (ic : Nat) : List Cond := (bx_all own ic).filter vx_no
section BXN
variable {p : Program} {l : Launch} {e : Env} {R : Room} {s : State} {m₀ : MethodId} {args : Array Value} {below : List Frame} {meth : Method} {c : Code} {W : State} {locs : List Loc} {cells slots : Nat}
theorem bx_links {pl : Platform} (hpl : pl.magicAccessors = ({} : Platform).magicAccessors) {top : MethodId} (htop : s.methodNamed? (Bundle.initS Bundle.tN) = some top) (h : ∀ x ∈ bx_chain, x.before args s = true) :
    ∃ (P1 : PassC) (Ps : List PassC), Ps.length = 2 ∧ P1.LinksS pl s ∧ (∀ P, P ∈ Ps → P.LinksS pl s) ∧ s.methodNamed? (Bundle.initS bx_N) = some P1.m ∧ P1.sup = firstOf top (Ps.map (·.toPassT)) ∧ PassesOn top (Ps.map (·.toPassT)) := by
  obtain ⟨P, L, hm, hs⟩ := PassC.ofS_atoms (args := args) (s := s) hpl (X := bx_N) (Y := bx_R) (by decide +kernel) ⟨by decide +kernel, by decide +kernel⟩ bx_r0 bx_r1 bx_r2 bx_r5 (fun x hx => h x (List.mem_append_left _ hx))
  obtain ⟨P', Ps, hlen, L', hL, hm', hsup, hpass⟩ := Bundle.chainS (args := args) hpl htop ["java/lang/Exception"] bx_R (by decide +kernel) (by decide +kernel) (fun x hx => h x (List.mem_append_right _ hx))
  refine ⟨P, P' :: Ps, by rw [List.length_cons, hlen]; rfl, L, fun z hz => ?_, hm, Option.some.inj (hs.symm.trans hm'), hsup, hpass⟩
  rcases List.mem_cons.mp hz with rfl | hz
  · exact L'
  · exact hL z hz
set_option maxHeartbeats 1000000 in
theorem bx_ctor (X : Stand p l e R s m₀ args below meth c W locs cells slots) (hexec : p.tables.exec = Jvm.exec) (htr : e.platform.stackTraces = false) {own : String} {ic : Nat} (hown : s.vm.findClass own = some m₀.cls)
    (h : ∀ a ∈ bx_all own ic, a.before args s = true) (hU : (Cond.isRef (.static Bundle.tN "UNASSIGNED_STACK" Bundle.steD)).before args s = true) (hV : (Cond.isRef (.static Bundle.tN "SUPPRESSED_SENTINEL" Bundle.listD)).before args s = true)
    (hlocs : ∀ x ∈ locs, ∀ cell, s.heap[x.base]? = some cell → cell.vm.isStatics = false)
    {a : Addr} {cX : ClassId} {kX : Class} (hfoundX : s.vm.findClass bx_N = some cX) (hkX : s.vm.classes[cX]? = some kX) (hcell : W.heap[a]? = some (freshCell cX kX)) (hnew : s.heap.size ≤ a) {msg : Value} (hmsg : msg.isRef = true)
    {g : JFrame} (hg : g.method = m₀) (hsize : g.locals.size = c.maxLocals) (hlocked : g.locked = none) (hentered : g.entered = []) {rest : List Value} (hstack : g.stack = msg :: .ref a :: .ref a :: rest)
    (hd6 : decode c.code g.pc = .ok (.invokespecial ic, 3)) (hd9 : decode c.code (g.pc + 3) = .ok (.athrow, 1)) (hout : ∀ x ∈ c.exceptionTable.toList, covers x (g.pc + 3) = false)
    (hRframes : 5 < R.frames) (hRlocals : 2 * g.monitorRoom + ((Value.ref a :: rest).map fun v => v.category).sum + 81 ≤ R.locals) (hlocks : meth.locks = false) :
    ∃ U : State, Steps p.tables e below (W.setTop g) U ∧ U.status = .running ∧ Ended U below (.threw a) ∧ s.WarmedH U.vm ∧ s.sameButNew ({ U with vm := s.vm } : State) locs cells slots ∧ ∃ ce, U.heap[a]? = some ce ∧ ce.vm = .none ∧ s.vm.findClass bx_N = some ce.cls := by
  have howns : e.platform.frameOwnsMonitors = true := by rw [X.admits.platform]
  have hfin : e.platform.finalization = false := by rw [X.admits.platform]
  have hpl : e.platform.magicAccessors = ({} : Platform).magicAccessors := by rw [X.admits.platform]
  have hB : ∀ x ∈ bx_base, x.before args s = true := fun x hx => h x (List.mem_append_left _ (List.mem_append_left _ hx))
  have hC : ∀ x ∈ bx_chain, x.before args s = true := fun x hx => h x (List.mem_append_left _ (List.mem_append_right _ hx))
  have hR : ∀ x ∈ bx_rest own ic, x.before args s = true := fun x hx => h x (List.mem_append_right _ hx)
  have qR : ∀ x, x ∈ bx_rest own ic → x.holds args s none s [] = true := hR
  obtain ⟨T, Z0, L, -, Y⟩ := ThrowableC.of_atoms (args := args) howns hfin hpl (fun x hx => hB x (List.mem_append_left _ hx))
  obtain ⟨Z, M, LZ, LM, hnZ⟩ := Init0T.ofS_atoms (args := args) hpl L Y (fun x hx => hB x (List.mem_append_right _ hx))
  obtain ⟨P1, Ps, hlen, L1, hL, hP1m, hlink1, hlink⟩ := bx_links (args := args) hpl hnZ hC
  have hfound : s.vm.findClass bx_N = some P1.m.cls := findClass_of_methodNamed hP1m
  cases Option.some.inj (hfoundX.symm.trans hfound)
  obtain ⟨c1, kX', hc1, hk, hord, -, -, hn6⟩ := Cond.instantiable_spec (qR (.instantiable bx_N 6) (by simp [bx_rest]))
  cases Option.some.inj (hc1.symm.trans hfound)
  cases Option.some.inj (hkX.symm.trans hk)
  have hsel0 : selectMethod e.platform s.vm P1.m.cls T.fill0 = .method T.fill0 := by
    obtain ⟨c2, r2, m2, q1, q2, q3, q4, -⟩ := Cond.selects_spec (qR (.selects bx_N Bundle.tFill0 Bundle.tFill0) (by simp [bx_rest]))
    cases Option.some.inj (q1.symm.trans hfound)
    cases Option.some.inj (q2.symm.trans (State.methodFound?_of_named Y.fill0 (by decide)))
    cases Option.some.inj (q3.symm.trans Y.fill0)
    rw [Launch.admits_selectMethod X.admits]; exact q4
  have hselF : selectMethod e.platform s.vm P1.m.cls T.fill = .method T.fill := by
    obtain ⟨c2, r2, m2, q1, q2, q3, q4, -⟩ := Cond.selects_spec (qR (.selects bx_N Bundle.tFill Bundle.tFill) (by simp [bx_rest]))
    cases Option.some.inj (q1.symm.trans hfound)
    cases Option.some.inj (q2.symm.trans (State.methodFound?_of_named Y.fill (by decide)))
    cases Option.some.inj (q3.symm.trans Y.fill)
    rw [Launch.admits_selectMethod X.admits]; exact q4
  obtain ⟨cellS0, hcS0, hiss⟩ := Y.statics
  obtain ⟨u0, hu0⟩ := Cond.staticRefV Y.unassigned L.unassignedStatic L.statics hcS0 hiss hU
  obtain ⟨sen, hsen⟩ := Cond.staticRefV Y.sentinel L.sentinelStatic L.statics hcS0 hiss hV
  obtain ⟨ci198, i198, fB, hk198, hg198, ha198, hsB, -, hnB, htB, hffB⟩ := Cond.ownField (t := .object "java/lang/Object") Y.found L.cls (by decide +kernel) (qR (.fieldLink Bundle.tN 198 Bundle.tN "backtrace" "Ljava/lang/Object;") (by simp [bx_rest])) (qR (.lays Bundle.tN Bundle.tN "backtrace" "Ljava/lang/Object;") (by simp [bx_rest])) e.platform hpl
  obtain ⟨cellS, hcS', heS, -, hkeep⟩ := X.same.2.2.2.2.2 T.aS cellS0 hcS0
  have hcellS : W.heap[T.aS]? = some cellS := hcS'
  have hout' : ∀ i, (⟨T.aS, i⟩ : Loc) ∉ locs := fun i hmem => by
    have := hlocs _ hmem cellS0 hcS0
    rw [hiss] at this; cases this
  have hknownS : cellS.vm ≠ .unknown := by
    rw [heS]; intro hu
    rw [show cellS0.vm = .unknown from hu] at hiss
    cases hiss
  have hneS : T.aS ≠ a := Nat.ne_of_lt (Nat.lt_of_lt_of_le (Array.getElem?_eq_some_iff.mp hcS0).1 hnew)
  obtain ⟨iM, hffM⟩ := Y.msg
  obtain ⟨tyC, dC, hdC, hdnC⟩ := Cond.laysAt hfound hk Y.cause (qR (.lays bx_N Bundle.tN "cause" "Ljava/lang/Throwable;") (by simp [bx_rest]))
  obtain ⟨tyS, dS, hdS, hdnS⟩ := Cond.laysAt hfound hk Y.stack (qR (.lays bx_N Bundle.tN "stackTrace" Bundle.steD) (by simp [bx_rest]))
  obtain ⟨tyP, dP, hdP, hdnP⟩ := Cond.laysAt hfound hk Y.supp (qR (.lays bx_N Bundle.tN "suppressedExceptions" Bundle.listD) (by simp [bx_rest]))
  obtain ⟨tyM, dM, hdM, hdnM⟩ := Cond.laysAt hfound hk hffM (qR (.lays bx_N Bundle.tN "detailMessage" "Ljava/lang/String;") (by simp [bx_rest]))
  obtain ⟨tyB, dB, hdB, hdnB⟩ := Cond.laysAt hfound hk hffB (qR (.lays bx_N Bundle.tN "backtrace" "Ljava/lang/Object;") (by simp [bx_rest]))
  have bC := Cond.laysApart hdB hdC hdnB hdnC (by rw [hnB, Y.causeName]; decide)
  have bS := Cond.laysApart hdB hdS hdnB hdnS (by rw [hnB, Y.stackName]; decide)
  have bP := Cond.laysApart hdB hdP hdnB hdnP (by rw [hnB, Y.suppName]; decide)
  have hskip : SkipFacts T e.platform s (fun u => u) u0 ((preparedCellV T.toThrowableT (freshCell P1.m.cls kX) a u0 sen).withEntry W.cur) :=
    ⟨{ ci198 := ci198, i198 := i198, fBack := fB }, ⟨hk198, hg198, ha198, hsB⟩, by
      have := fresh_default (c := P1.m.cls) tyB
      rw [htB] at this
      simpa [preparedCellV, Cell.setSlot, Cell.withEntry, Array.getElem?_setIfInBounds, bC, bS, bP, bC.symm, bS.symm, bP.symm, defaultValue] using this, fun _ _ => rfl⟩
  obtain ⟨tm, methC, cdC, kC, vm₁, hnC, -, -, -, -, -, -, -, hW₁, st1⟩ := Steps.initColdS (tb := p.tables) (e := e) (below := below) (s := s) (U := W) X.here hexec X.warmed hpl hown (t := Bundle.initS bx_N) rfl rfl ⟨by decide +kernel, by decide +kernel⟩
    (qR (.methodLink own ic (Bundle.initS bx_N)) (by simp [bx_rest])) (hC (.instanceMethod (Bundle.initS bx_N)) (by simp [bx_chain, Bundle.passSAtoms])) (bytes := bx_rx) (maxL := 2) (hC (.code (Bundle.initS bx_N) bx_rx 2 none) (by simp [bx_chain, Bundle.passSAtoms]))
    (f := g) hg (a := a) (msg := msg) (rest := .ref a :: rest) hstack hd6
  cases Option.some.inj (hnC.symm.trans hP1m)
  have X₁ := X.noted hW₁
  obtain ⟨vm₂, X₂, st2⟩ := X₁.ctorMessageOffV hexec (g := { g with stack := .ref a :: rest }) hg hsize T L Z LZ M LM (P1 :: Ps)
    (fun P hP => by rcases List.mem_cons.mp hP with rfl | hP; exact L1; exact hL P hP) ⟨hlink1, hlink⟩ (u0 := u0) (sen := sen) (self := a) hmsg (cell := freshCell P1.m.cls kX) (cellS := cellS)
    hcell (fun _ => by simp) (by simp) rfl rfl hsel0 hselF hcellS hneS hknownS (by rw [hkeep _ (hout' _)]; exact hu0) (by rw [hkeep _ (hout' _)]; exact hsen)
    (Takes.of_laid hk hord tyC (by rw [Y.causeType]; rfl)) (Takes.of_laid hk hord tyS (by rw [Y.stackType]; exact fits_refV_array _ u0)) (Takes.of_laid hk hord tyP (by rw [Y.suppType]; exact fits_refV_object _ sen))
    (Takes.of_laid hk hord tyM (by rw [Y.msgType]; exact fits_refV_object _ ⟨msg, hmsg⟩)) Y.objLocals hskip htr [] hd6
    (by simp only [List.length_cons, hlen]; omega) (by simp only [List.length_cons, hlen]; exact hRlocals)
  obtain ⟨hwalk, hrun, hended, hWU, hsame⟩ := X₂.athrowLeaves hexec (g := { g with stack := .ref a :: rest, pc := g.pc + 3 }) hg hlocked hentered hout (a := a) (rest := rest) rfl hd9
  have hlt : a < ((W.setVm vm₁).setVm vm₂).heap.size := (Array.getElem?_eq_some_iff.mp hcell).1
  have hU9 := heapAt_setCell_self (s := (W.setVm vm₁).setVm vm₂) (plainBareV T.toThrowableT (freshCell P1.m.cls kX) a u0 sen msg) hlt
  refine ⟨_, st1 _ (fun acts => ?_), hrun, hended, hWU, hsame.weaken (fun y hy hlt' => ?_) (Nat.le_refl _) (Nat.le_refl _), _, hU9, rfl, hfound⟩
  · rw [doInvoke_state]
    exact st2 _ hwalk
  · rcases List.mem_append.mp hy with h1 | h1
    · exact h1
    · exfalso
      have hb : y.base = a := by
        simp only [List.mem_cons, List.not_mem_nil, or_false] at h1
        rcases h1 with rfl | rfl | rfl | rfl | rfl <;> rfl
      rw [hb] at hlt'
      exact Nat.not_lt.mpr hnew hlt'
end BXN
section BXT
variable {p : Program} {l : Launch} {e : Env} {R : Room} {s : State} {m : MethodId} {args : Array Value} {below : List Frame} {meth : Method} {c : Code} {H : Heap} {locs : List Loc} {cells slots : Nat}
variable {free : Addr → Prop} {ls : Array Slot} {rest : List Value} {Qc : Array Value → State → Outcome → State → Prop} {XC : String → State → State → Prop}
/-- 'throw new NoSuchElementException("text")', the text by a wide index -/
theorem bx_throw {cc : ByteArray} {pc : Nat} (hexec : p.tables.exec = Jvm.exec) (hb : c.code = cc) (hl : l.stackTraces = false) {own text : String} {ik is ic mc ms sa : Nat} {A : Nat → Prop}
    (hown : s.vm.findClass own = some m.cls) (hk : (Cond.classLink own ik bx_N).before args s = true) (hini : (Cond.initialized bx_N).before args s = true) (hstr : vk_R own is text sa s) (hat : ∀ w ∈ bx_words own ic, w.before args s = true)
    (hgood : ∀ w ∈ Cond.classLink own ik bx_N :: Cond.initialized bx_N :: bx_words own ic, vx_ot w = true)
    (hU : vx_Zq Bundle.tN "UNASSIGNED_STACK" Bundle.steD A s s.heap) (hN : vx_Zq Bundle.tN "SUPPRESSED_SENTINEL" Bundle.listD A s s.heap) (hS : va_S A s.heap H locs) (hsize : ls.size = c.maxLocals)
    (d0 : decode cc pc = .ok (.new ik, 3)) (d3 : decode cc (pc + 3) = .ok (.dup, 1)) (d4 : decode cc (pc + 4) = .ok (.ldc_w is, 3)) (d7 : decode cc (pc + 7) = .ok (.invokespecial ic, 3)) (d10 : decode cc (pc + 10) = .ok (.athrow, 1))
    (hout : ∀ x ∈ c.exceptionTable.toList, covers x (pc + 10) = false)
    (hRframes : 5 < R.frames) (hRlocals : (rest.map fun v => v.category).sum + 82 ≤ R.locals) (hRcells : cells + 1 ≤ R.cells) (hRslots : slots + 6 ≤ R.slots) (hlocks : meth.locks = false)
    (hx : ∀ t : State, s.vm.Alike t.vm → H.size ≤ t.heap.size → (∀ q : Nat, q < H.size → t.heap[q]? = H[q]?) → XC bx_N s t)
    (hf : ∀ z ∈ locs, free z.base) (hc : cells + 1 ≤ mc) (hs : slots + 6 ≤ ms) :
    W p l e R s m args below meth c H locs cells slots (vx_MQ below Qc XC args s mc ms free) (F0 m pc ls rest) := by
  intro T hT X
  have htr : e.platform.stackTraces = false := (show e.platform.stackTraces = l.stackTraces by rw [X.admits.platform]).trans hl
  have Y := vx_rebase X (R' := { frames := R.frames, locals := R.locals, cells := 1, slots := 6 }) (Nat.le_refl _) (Nat.le_refl _) hRcells hRslots
  obtain ⟨s', hA⟩ : ∃ z, z = (T.setVm s.vm).setFrames (.invoking m args :: below) := ⟨_, rfl⟩
  rw [← hA] at Y
  have hvm : s'.vm = s.vm := by rw [hA]; rfl
  have hhp : s'.heap = H := by rw [hA]; exact hT
  have hW0 : s.WarmedH s'.vm := by rw [hvm]; exact State.WarmedH.refl s
  have hat' : ∀ w ∈ bx_words own ic, w.before args s' = true := fun w hw => vx_ot_at hW0 hvm.symm (hgood w (List.mem_cons_of_mem _ (List.mem_cons_of_mem _ hw))) (hat w hw)
  have hk' : (Cond.classLink own ik bx_N).before args s' = true := vx_ot_at hW0 hvm.symm (hgood _ List.mem_cons_self) hk
  have hini' : (Cond.initialized bx_N).before args s' = true := vx_ot_at hW0 hvm.symm (hgood _ (List.mem_cons_of_mem _ List.mem_cons_self)) hini
  have hU' : vx_Zq Bundle.tN "UNASSIGNED_STACK" Bundle.steD A s' s'.heap := by rw [hhp]; exact vx_Zq.moved hW0.alike (hU.kept hS.2.1)
  have hN' : vx_Zq Bundle.tN "SUPPRESSED_SENTINEL" Bundle.listD A s' s'.heap := by rw [hhp]; exact vx_Zq.moved hW0.alike (hN.kept hS.2.1)
  have h : ∀ w ∈ bx_all own ic, w.before args s' = true := vx_own hat' (vx_isRefq hU'.1) (vx_isRefq hN'.1) hU'.2.word hN'.2.word
  have hown' : s'.vm.findClass own = some m.cls := by rw [hvm]; exact hown
  have hins : (Cond.instantiable bx_N 6).before args s' = true := h _ (List.mem_append_right _ (by simp [bx_rest]))
  obtain ⟨vm₁, cX, kX, hfX, hkX, -, -, X₁, st1⟩ := Y.newCold hexec (own := own) (C := bx_N) (index := ik) (n := 6) hown' hk' hins hini'
    (g := F0 m pc ls rest) rfl (by rw [hb]; exact d0) (Nat.le_refl _) (Nat.le_refl _)
  generalize hT1 : (T.setVm vm₁).pushCell { cls := cX, slots := kX.instanceTypes.map defaultValue, vm := .none } = T1 at X₁ st1
  have hcat : (Value.ref T.heap.size).category = 1 := rfl
  have hcellA : T1.heap[T.heap.size]? = some (freshCell cX kX) := by rw [← hT1]; exact State.heap_pushCell_size _ _
  have d3' : decode c.code (pc + 3) = .ok (.dup, 1) := by rw [hb]; exact d3
  have d4' : decode c.code (pc + 4) = .ok (.ldc_w is, 3) := by rw [hb]; exact d4
  have hstr' : vk_R own is text sa s' := vk_R.warm hW0 hstr
  obtain ⟨U, hsteps, hrun, hend, hW, hsame, ce, hce, hcv, hcn⟩ := bx_ctor X₁ hexec htr (own := own) (ic := ic) hown' h (vx_isRefq hU'.1) (vx_isRefq hN'.1) (fun x hx => nomatch hx) hfX hkX hcellA (by rw [hhp, hT]; exact Nat.le_refl _) (msg := .ref sa) rfl
    (g := { method := m, pc := pc + 7, locals := ls, stack := .ref sa :: .ref T.heap.size :: .ref T.heap.size :: rest, locked := none }) rfl hsize rfl rfl (rest := rest) rfl
    (by rw [hb]; exact d7) (by rw [hb]; exact d10) hout hRframes (by simp only [List.map_cons, List.sum_cons, hcat]; show 2 * 0 + _ + 81 ≤ R.locals; omega) hlocks
  obtain ⟨f1, f2⟩ := vx_frame hsame
  rw [hhp] at f1 f2
  have hWs : s.WarmedH U.vm := State.WarmedH.trans hW0 hW
  have hcl : s.vm.findClass bx_N = some ce.cls := by rw [hvm] at hcn; exact hcn
  have hall : s.sameButNew ({ U with vm := s.vm } : State) locs mc ms := by
    subst hA
    obtain ⟨e1, e2⟩ := hsame
    rw [State.setFrames_setFrames] at e1
    have h2 : (T.setVm s.vm).sameButNew ({ U with vm := s.vm } : State) [] (0 + 1) (0 + 6) := ⟨e1, e2⟩
    have h3 := X.same.trans h2
    rw [List.append_nil] at h3
    exact h3.mono hc hs
  refine ⟨U, ?_, .threw T.heap.size, hrun, hend, Or.inr ⟨T.heap.size, rfl, bx_N, ce, locs, hx U hWs.alike f1 (fun q hq => f2 q hq (fun z hz => nomatch hz)), hce, hcv, hcl, hWs, hall, hf⟩⟩
  refine st1 _ ?_
  show Steps p.tables e below (T1.setTop { method := m, pc := pc + 3, locals := ls, stack := .ref T.heap.size :: rest, locked := none }) _
  jvm_step X₁.here [X₁.here.top, hexec, d3', Value.category]
  exact X₁.ldcStringW hexec (own := own) (text := text) (index := is) (a := sa) hown' hstr'.1 hstr'.2
    (g := { method := m, pc := pc + 4, locals := ls, stack := .ref T.heap.size :: .ref T.heap.size :: rest, locked := none }) rfl d4' _ hsteps
end BXT
section BCSITE
variable {p : Program} {e : Env} {R : Room} {s : State} {m : MethodId} {args : Array Value} {below : List Frame} {meth : Method} {c : Code} {g : bc_C} {Y : bc_Y} {d : Nat} {pc : Nat} {lv : bc_LV} {st : List bc_A} {σ : bc_M} {n : Nat}
theorem bc_nms_fit : ∀ z ∈ bc_nms, Bundle.fit z = true := by decide +kernel
set_option maxRecDepth 20000 in
theorem bc_rl3 {L d z : Nat} (h : 60 * d + 460 ≤ L) (hz : z ≤ 8) : z + (13 * (2 + 1) + 43) ≤ L := by omega
theorem bc_site {Rr : Option bc_A → bc_M → Prop} {X : Nat → bc_M → Prop} {ik is ic x i l0 : Nat} {t0 t3 t4 t7 t10 : List Nat} {cls text : String} (F : bc_Fx g Y d p R s m args meth c 0 0) (hnt : ∀ x ∈ c.exceptionTable.toList, False) (how : bc_own Y = 10) (h0 : bc_code Y pc = some (.new ik, l0, t0))
    (h3 : bc_code Y (pc + 3) = some (.dup, 1, t3)) (h4 : bc_code Y (pc + 4) = some (.ldc_w is, 3, t4)) (h7 : bc_code Y (pc + 7) = some (.invokespecial ic, 3, t7)) (h10 : bc_code Y (pc + 10) = some (.athrow, 1, t10))
    (hcx : bc_en x = cls) (hx6 : x < 6) (hi : bc_st[i]? = some (RX10, is, text)) (hcls : Bundle.fit cls = true) (hk : Cond.classLink RX10 ik cls ∈ bc_W) (hini : Cond.initialized cls ∈ bc_W)
    (hat : ∀ w ∈ vx_atS RX10 ic cls bc_nms, w ∈ lw_tbl ∧ (goodWord w = true ∨ bc_isN w = true)) (hgood : ∀ w ∈ Cond.classLink RX10 ik cls :: Cond.initialized cls :: vx_atS RX10 ic cls bc_nms, vx_ot w = true)
    (hst : st.length ≤ 4) (hn1 : n + 1 ≤ bc_cost Y) (h : X ([x].getD 0 0) σ) : bc_T g Y p e R s m args below meth c (vx_MQ below (bc_Qc g Rr) (bc_Xc g X) args s (bc_cost Y) (6 * bc_cost Y) (bc_Z g)) 0 0 pc lv st σ n := by
  obtain ⟨hx, hb, hml, hts, hown, hlocks, hap, htr, hE, hz, hok, hRf, hRl, hRc, hRs, hret⟩ := F
  obtain ⟨d0, -, q0⟩ := hok _ _ _ _ h0
  have hl0 : l0 = 3 := by simpa [bc_ln] using q0
  subst hl0
  obtain ⟨d3, -, -⟩ := hok _ _ _ _ h3
  obtain ⟨d4, -, -⟩ := hok _ _ _ _ h4
  obtain ⟨d7, -, -⟩ := hok _ _ _ _ h7
  obtain ⟨d10, -, -⟩ := hok _ _ _ _ h10
  rw [how] at hown
  intro H locs ls hn hH hS hl
  obtain ⟨sa, hsa⟩ := hE.2.2.2.1 i _ hi
  refine vx_throwSW (A := bc_Z g) (names := bc_nms) hx hb htr (own := RX10) hown hcls bc_nms_fit (hts _ hk) (hts _ hini) hsa (fun w hw => ?_) hgood hE.2.1 hE.2.2.1 hS (hl.1.trans hml.symm) d0 d3 d4 d7 d10 (fun z hz => (hnt z hz).elim) (by show 2 + 3 < R.frames; omega) (bc_rl3 hRl (bc_cat hst)) (by omega) (by omega) hlocks (fun t ht hsz hkp => ?_) hS.2.2 (by omega) (by omega)
  · obtain ⟨q1, q2⟩ := hat w hw
    rcases q2 with q2 | q2
    · exact hts _ (bc_mem_W q1 q2)
    · exact va_Nw.use (A := args) (bc_isN_t q2) (hE.2.2.2.2.2.1 w q1 q2)
  · refine ⟨x, σ, hcx.symm, hx6, h, fun k q hk => (hH k q hk).kept (hkp q.1 ((hH k q hk).lt)), ⟨Nat.le_trans hS.1 hsz, fun q h1 h2 => ?_⟩⟩
    rw [hkp q (Nat.lt_of_lt_of_le h1 hS.1)]
    exact hS.2.1 q h1 h2
theorem bc_siteN {Rr : Option bc_A → bc_M → Prop} {X : Nat → bc_M → Prop} {ik is ic i l0 : Nat} {t0 t3 t4 t7 t10 : List Nat} {text : String} (F : bc_Fx g Y d p R s m args meth c 0 0) (hnt : ∀ x ∈ c.exceptionTable.toList, False) (how : bc_own Y = 10) (h0 : bc_code Y pc = some (.new ik, l0, t0))
    (h3 : bc_code Y (pc + 3) = some (.dup, 1, t3)) (h4 : bc_code Y (pc + 4) = some (.ldc_w is, 3, t4)) (h7 : bc_code Y (pc + 7) = some (.invokespecial ic, 3, t7)) (h10 : bc_code Y (pc + 10) = some (.athrow, 1, t10))
    (hi : bc_st[i]? = some (RX10, is, text)) (hk : Cond.classLink RX10 ik bx_N ∈ bc_W) (hini : Cond.initialized bx_N ∈ bc_W)
    (hat : ∀ w ∈ bx_words RX10 ic, w ∈ lw_tbl ∧ (goodWord w = true ∨ bc_isN w = true)) (hgood : ∀ w ∈ Cond.classLink RX10 ik bx_N :: Cond.initialized bx_N :: bx_words RX10 ic, vx_ot w = true)
    (hst : st.length ≤ 4) (hn1 : n + 1 ≤ bc_cost Y) (h : X ([3].getD 0 0) σ) : bc_T g Y p e R s m args below meth c (vx_MQ below (bc_Qc g Rr) (bc_Xc g X) args s (bc_cost Y) (6 * bc_cost Y) (bc_Z g)) 0 0 pc lv st σ n := by
  obtain ⟨hx, hb, hml, hts, hown, hlocks, hap, htr, hE, hz, hok, hRf, hRl, hRc, hRs, hret⟩ := F
  obtain ⟨d0, -, q0⟩ := hok _ _ _ _ h0
  have hl0 : l0 = 3 := by simpa [bc_ln] using q0
  subst hl0
  obtain ⟨d3, -, -⟩ := hok _ _ _ _ h3
  obtain ⟨d4, -, -⟩ := hok _ _ _ _ h4
  obtain ⟨d7, -, -⟩ := hok _ _ _ _ h7
  obtain ⟨d10, -, -⟩ := hok _ _ _ _ h10
  rw [how] at hown
  intro H locs ls hn hH hS hl
  obtain ⟨sa, hsa⟩ := hE.2.2.2.1 i _ hi
  refine bx_throw (A := bc_Z g) hx hb htr (own := RX10) hown (hts _ hk) (hts _ hini) hsa (fun w hw => ?_) hgood hE.2.1 hE.2.2.1 hS (hl.1.trans hml.symm) d0 d3 d4 d7 d10 (fun z hz => (hnt z hz).elim) (by omega) (bc_rl3 hRl (bc_cat hst)) (by omega) (by omega) hlocks (fun t ht hsz hkp => ?_) hS.2.2 (by omega) (by omega)
  · obtain ⟨q1, q2⟩ := hat w hw
    rcases q2 with q2 | q2
    · exact hts _ (bc_mem_W q1 q2)
    · exact va_Nw.use (A := args) (bc_isN_t q2) (hE.2.2.2.2.2.1 w q1 q2)
  · refine ⟨3, σ, rfl, by decide, h, fun k q hk => (hH k q hk).kept (hkp q.1 ((hH k q hk).lt)), ⟨Nat.le_trans hS.1 hsz, fun q h1 h2 => ?_⟩⟩
    rw [hkp q (Nat.lt_of_lt_of_le h1 hS.1)]
    exact hS.2.1 q h1 h2
end BCSITE
theorem bc_sw_373 : (∀ w ∈ vx_atS RX10 377 "java/lang/IndexOutOfBoundsException" bc_nms, w ∈ bc_tsl ∧ (goodWord w = true ∨ bc_isN w = true)) := by decide +kernel
theorem bc_sg_373 : (∀ w ∈ Cond.classLink RX10 373 "java/lang/IndexOutOfBoundsException" :: Cond.initialized "java/lang/IndexOutOfBoundsException" :: vx_atS RX10 377 "java/lang/IndexOutOfBoundsException" bc_nms, vx_ot w = true) := by decide +kernel
theorem bc_sw_357 : (∀ w ∈ vx_atS RX10 361 "java/lang/IllegalArgumentException" bc_nms, w ∈ bc_tsl ∧ (goodWord w = true ∨ bc_isN w = true)) := by decide +kernel
theorem bc_sg_357 : (∀ w ∈ Cond.classLink RX10 357 "java/lang/IllegalArgumentException" :: Cond.initialized "java/lang/IllegalArgumentException" :: vx_atS RX10 361 "java/lang/IllegalArgumentException" bc_nms, vx_ot w = true) := by decide +kernel
theorem bc_sw_367 : (∀ w ∈ vx_atS RX10 371 "java/lang/IllegalStateException" bc_nms, w ∈ bc_tsl ∧ (goodWord w = true ∨ bc_isN w = true)) := by decide +kernel
theorem bc_sg_367 : (∀ w ∈ Cond.classLink RX10 367 "java/lang/IllegalStateException" :: Cond.initialized "java/lang/IllegalStateException" :: vx_atS RX10 371 "java/lang/IllegalStateException" bc_nms, vx_ot w = true) := by decide +kernel
theorem bc_sw_382 : (∀ w ∈ bx_words RX10 386, w ∈ bc_tsl ∧ (goodWord w = true ∨ bc_isN w = true)) := by decide +kernel
theorem bc_sg_382 : (∀ w ∈ Cond.classLink RX10 382 bx_N :: Cond.initialized bx_N :: bx_words RX10 386, vx_ot w = true) := by decide +kernel
theorem bc_sw_387 : (∀ w ∈ vx_atS RX10 391 "java/lang/UnsupportedOperationException" bc_nms, w ∈ bc_tsl ∧ (goodWord w = true ∨ bc_isN w = true)) := by decide +kernel
theorem bc_sg_387 : (∀ w ∈ Cond.classLink RX10 387 "java/lang/UnsupportedOperationException" :: Cond.initialized "java/lang/UnsupportedOperationException" :: vx_atS RX10 391 "java/lang/UnsupportedOperationException" bc_nms, vx_ot w = true) := by decide +kernel
theorem bc_sw_392 : (∀ w ∈ vx_atS RX10 396 "java/lang/ArithmeticException" bc_nms, w ∈ bc_tsl ∧ (goodWord w = true ∨ bc_isN w = true)) := by decide +kernel
theorem bc_sg_392 : (∀ w ∈ Cond.classLink RX10 392 "java/lang/ArithmeticException" :: Cond.initialized "java/lang/ArithmeticException" :: vx_atS RX10 396 "java/lang/ArithmeticException" bc_nms, vx_ot w = true) := by decide +kernel
theorem bc_st_refuse : (List.range 107).all (fun pc => match pX10_refuse pc with | some (.new ix, _, ts) => (Nat.beq pc 40 && Nat.beq ix 373 && decide (ts = [0])) || (Nat.beq pc 51 && Nat.beq ix 357 && decide (ts = [1])) || (Nat.beq pc 62 && Nat.beq ix 367 && decide (ts = [2])) || (Nat.beq pc 73 && Nat.beq ix 382 && decide (ts = [3])) || (Nat.beq pc 84 && Nat.beq ix 387 && decide (ts = [4])) || (Nat.beq pc 95 && Nat.beq ix 392 && decide (ts = [5])) | _ => true) = true := by decide +kernel
theorem bc_NW_refuse (g : bc_C) (d : Nat) : bc_NW g mX10_refuse d := by
  intro p e R s m args below meth c Rr X F hnt pc ix len ts lv st σ n hc hn hts1 hst hX
  have hlt : pc < 107 := by
    rcases Nat.lt_or_ge pc 107 with q | q
    · exact q
    · have h9 : pX10_refuse pc = none := by unfold pX10_refuse; exact bc_cut_none q
      rw [show bc_code mX10_refuse pc = none from h9] at hc; cases hc
  have hk := List.all_eq_true.mp bc_st_refuse pc (List.mem_range.mpr hlt)
  rw [show pX10_refuse pc = some (.new ix, len, ts) from hc] at hk
  simp only [Bool.or_eq_true, Bool.and_eq_true, decide_eq_true_eq] at hk
  rcases hk with (((((⟨⟨h1, h2⟩, rfl⟩ | ⟨⟨h1, h2⟩, rfl⟩) | ⟨⟨h1, h2⟩, rfl⟩) | ⟨⟨h1, h2⟩, rfl⟩) | ⟨⟨h1, h2⟩, rfl⟩) | ⟨⟨h1, h2⟩, rfl⟩)
  · obtain rfl := Nat.eq_of_beq_eq_true h1
    obtain rfl := Nat.eq_of_beq_eq_true h2
    exact bc_site (x := 0) (cls := "java/lang/IndexOutOfBoundsException") (i := 0) (is := 375) (ic := 377) F hnt rfl hc rfl rfl rfl rfl rfl (by decide) rfl (by decide +kernel) (bc_wat_ok (pos := 745) (by decide +kernel)) (bc_wat_ok (pos := 111) (by decide +kernel)) (fun w hw => ⟨bc_tsl_ok (bc_sw_373 w hw).1, (bc_sw_373 w hw).2⟩) bc_sg_373 hst hn hX
  · obtain rfl := Nat.eq_of_beq_eq_true h1
    obtain rfl := Nat.eq_of_beq_eq_true h2
    exact bc_site (x := 1) (cls := "java/lang/IllegalArgumentException") (i := 1) (is := 378) (ic := 361) F hnt rfl hc rfl rfl rfl rfl rfl (by decide) rfl (by decide +kernel) (bc_wat_ok (pos := 758) (by decide +kernel)) (bc_wat_ok (pos := 114) (by decide +kernel)) (fun w hw => ⟨bc_tsl_ok (bc_sw_357 w hw).1, (bc_sw_357 w hw).2⟩) bc_sg_357 hst hn hX
  · obtain rfl := Nat.eq_of_beq_eq_true h1
    obtain rfl := Nat.eq_of_beq_eq_true h2
    exact bc_site (x := 2) (cls := "java/lang/IllegalStateException") (i := 2) (is := 380) (ic := 371) F hnt rfl hc rfl rfl rfl rfl rfl (by decide) rfl (by decide +kernel) (bc_wat_ok (pos := 774) (by decide +kernel)) (bc_wat_ok (pos := 115) (by decide +kernel)) (fun w hw => ⟨bc_tsl_ok (bc_sw_367 w hw).1, (bc_sw_367 w hw).2⟩) bc_sg_367 hst hn hX
  · obtain rfl := Nat.eq_of_beq_eq_true h1
    obtain rfl := Nat.eq_of_beq_eq_true h2
    exact bc_siteN (i := 3) (is := 384) (ic := 386) F hnt rfl hc rfl rfl rfl rfl rfl (bc_wat_ok (pos := 790) (by decide +kernel)) (bc_wat_ok (pos := 116) (by decide +kernel)) (fun w hw => ⟨bc_tsl_ok (bc_sw_382 w hw).1, (bc_sw_382 w hw).2⟩) bc_sg_382 hst hn hX
  · obtain rfl := Nat.eq_of_beq_eq_true h1
    obtain rfl := Nat.eq_of_beq_eq_true h2
    exact bc_site (x := 4) (cls := "java/lang/UnsupportedOperationException") (i := 4) (is := 389) (ic := 391) F hnt rfl hc rfl rfl rfl rfl rfl (by decide) rfl (by decide +kernel) (bc_wat_ok (pos := 806) (by decide +kernel)) (bc_wat_ok (pos := 117) (by decide +kernel)) (fun w hw => ⟨bc_tsl_ok (bc_sw_387 w hw).1, (bc_sw_387 w hw).2⟩) bc_sg_387 hst hn hX
  · obtain rfl := Nat.eq_of_beq_eq_true h1
    obtain rfl := Nat.eq_of_beq_eq_true h2
    exact bc_site (x := 5) (cls := "java/lang/ArithmeticException") (i := 5) (is := 394) (ic := 396) F hnt rfl hc rfl rfl rfl rfl rfl (by decide) rfl (by decide +kernel) (bc_wat_ok (pos := 822) (by decide +kernel)) (bc_wat_ok (pos := 118) (by decide +kernel)) (fun w hw => ⟨bc_tsl_ok (bc_sw_392 w hw).1, (bc_sw_392 w hw).2⟩) bc_sg_392 hst hn hX
theorem bc_st_runScript : (List.range 78).all (fun pc => match pX10_runScript pc with | some (.new ix, _, ts) => (Nat.beq pc 33 && Nat.beq ix 357 && decide (ts = [1])) || (Nat.beq pc 59 && Nat.beq ix 367 && decide (ts = [2])) | _ => true) = true := by decide +kernel
theorem bc_NW_runScript (g : bc_C) (d : Nat) : bc_NW g mX10_runScript d := by
  intro p e R s m args below meth c Rr X F hnt pc ix len ts lv st σ n hc hn hts1 hst hX
  have hlt : pc < 78 := by
    rcases Nat.lt_or_ge pc 78 with q | q
    · exact q
    · have h9 : pX10_runScript pc = none := by unfold pX10_runScript; exact bc_cut_none q
      rw [show bc_code mX10_runScript pc = none from h9] at hc; cases hc
  have hk := List.all_eq_true.mp bc_st_runScript pc (List.mem_range.mpr hlt)
  rw [show pX10_runScript pc = some (.new ix, len, ts) from hc] at hk
  simp only [Bool.or_eq_true, Bool.and_eq_true, decide_eq_true_eq] at hk
  rcases hk with ⟨⟨h1, h2⟩, rfl⟩ | ⟨⟨h1, h2⟩, rfl⟩
  · obtain rfl := Nat.eq_of_beq_eq_true h1
    obtain rfl := Nat.eq_of_beq_eq_true h2
    exact bc_site (x := 1) (cls := "java/lang/IllegalArgumentException") (i := 6) (is := 359) (ic := 361) F hnt rfl hc rfl rfl rfl rfl rfl (by decide) rfl (by decide +kernel) (bc_wat_ok (pos := 758) (by decide +kernel)) (bc_wat_ok (pos := 114) (by decide +kernel)) (fun w hw => ⟨bc_tsl_ok (bc_sw_357 w hw).1, (bc_sw_357 w hw).2⟩) bc_sg_357 hst hn hX
  · obtain rfl := Nat.eq_of_beq_eq_true h1
    obtain rfl := Nat.eq_of_beq_eq_true h2
    exact bc_site (x := 2) (cls := "java/lang/IllegalStateException") (i := 7) (is := 369) (ic := 371) F hnt rfl hc rfl rfl rfl rfl rfl (by decide) rfl (by decide +kernel) (bc_wat_ok (pos := 774) (by decide +kernel)) (bc_wat_ok (pos := 115) (by decide +kernel)) (fun w hw => ⟨bc_tsl_ok (bc_sw_367 w hw).1, (bc_sw_367 w hw).2⟩) bc_sg_367 hst hn hX
end
section
/-! methods with handlers: the law's wrappers -/
/-- the rows of a table: entries that the law has, and one that stands ahead names no class of a later one -/
noncomputable def bc_hok : bc_HH → Bool
  | [] => true
  | (_, _, _, t) :: r => bc_hts.contains t && r.all (fun q => bc_ncl.contains (bc_ct q.2.2.2, bc_ct t)) && bc_hok r
theorem bc_hts_ok : ∀ t, t ∈ bc_hts → Cond.classLink RL t (bc_en (bc_ct t)) ∈ bc_W ∧ Cond.castable (bc_en (bc_ct t)) (bc_en (bc_ct t)) ∈ lw_tbl ∧ bc_ct t < 6 ∧ t ≠ 0 := by
  intro t ht
  simp only [bc_hts, List.mem_cons, List.not_mem_nil, or_false] at ht
  rcases ht with rfl | rfl | rfl | rfl | rfl | rfl
  · exact ⟨bc_wat_ok (pos := 642) (by decide +kernel), bc_watN_ok (pos := 747) (by decide +kernel), by decide, by decide⟩
  · exact ⟨bc_wat_ok (pos := 722) (by decide +kernel), bc_watN_ok (pos := 760) (by decide +kernel), by decide, by decide⟩
  · exact ⟨bc_wat_ok (pos := 723) (by decide +kernel), bc_watN_ok (pos := 776) (by decide +kernel), by decide, by decide⟩
  · exact ⟨bc_wat_ok (pos := 853) (by decide +kernel), bc_watN_ok (pos := 792) (by decide +kernel), by decide, by decide⟩
  · exact ⟨bc_wat_ok (pos := 854) (by decide +kernel), bc_watN_ok (pos := 808) (by decide +kernel), by decide, by decide⟩
  · exact ⟨bc_wat_ok (pos := 1082) (by decide +kernel), bc_watN_ok (pos := 824) (by decide +kernel), by decide, by decide⟩
theorem bc_find_e : ∀ {hh : bc_HH} {pc e h : Nat}, bc_hok hh = true → bc_find hh pc e = some h → ∃ (pre suf : bc_HH) (a b t : Nat), hh = pre ++ (a, b, h, t) :: suf ∧ a ≤ pc ∧ pc < b ∧ bc_ct t = e ∧ t ∈ bc_hts ∧ ∀ q ∈ pre, (¬ (q.1 ≤ pc ∧ pc < q.2.1)) ∨ (q.2.2.2 ∈ bc_hts ∧ (e, bc_ct q.2.2.2) ∈ bc_ncl)
  | [], pc, e, h, _, hf => by cases hf
  | (a, b, h', t) :: r, pc, e, h, hok, hf => by
    unfold bc_hok at hok
    simp only [Bool.and_eq_true] at hok
    obtain ⟨⟨h1, h2⟩, h3⟩ := hok
    have h1 : t ∈ bc_hts := by simpa using h1
    unfold bc_find at hf
    cases hc : (Nat.ble a pc && Nat.blt pc b && Nat.beq (bc_ct t) e) with
    | true =>
      rw [hc] at hf
      simp only [Bool.and_eq_true] at hc
      cases hf
      exact ⟨[], r, a, b, t, rfl, Nat.le_of_ble_eq_true hc.1.1, Nat.le_of_ble_eq_true hc.1.2, Nat.eq_of_beq_eq_true hc.2, h1, fun q hq => by cases hq⟩
    | false =>
      rw [hc] at hf
      obtain ⟨pre, suf, a2, b2, t2, e1, e2, e3, e4, e5, e6⟩ := bc_find_e (hh := r) h3 hf
      refine ⟨(a, b, h', t) :: pre, suf, a2, b2, t2, by rw [e1]; rfl, e2, e3, e4, e5, fun q hq => ?_⟩
      rcases List.mem_cons.mp hq with rfl | hq
      · refine Or.inr ⟨h1, ?_⟩
        have h4 := List.all_eq_true.mp h2 (a2, b2, h, t2) (by rw [e1]; exact List.mem_append_right _ List.mem_cons_self)
        rw [e4] at h4
        simpa using h4
      · exact e6 q hq
section BCHAND
variable {p : Program} {e : Env} {R : Room} {s : State} {m : MethodId} {args : Array Value} {below : List Frame} {meth : Method} {c : Code} {Q : State → Prop} {g : bc_C} {Y : bc_Y} {d : Nat} {pc : Nat} {lv : bc_LV} {st r : List bc_A} {σ : bc_M} {n c0 s0 : Nat}
theorem bc_s_catch {K : bc_KT} {x : Nat} (F : bc_Fx g Y d p R s m args meth c c0 s0) (how : bc_own Y = 12) (hhok : bc_hok (bc_hh Y) = true) (htab : c.exceptionTable.toList.map (fun h => (h.startPc, h.endPc, h.handlerPc, h.catchType)) = bc_hh Y)
    (hK : ∀ pc lv st σ n, K pc lv st σ n → bc_T g Y p e R s m args below meth c Q c0 s0 pc lv st σ n) (h : bc_thr Y K (fun _ _ => False) pc lv n x σ) : bc_TX g Y p e R s m args below meth c Q c0 s0 pc lv n x σ := by
  obtain ⟨hx, hb, hml, hts, hown, hlocks, hap, htr, hE, hz, hok, -⟩ := F
  rw [how] at hown
  unfold bc_thr at h
  cases hf : bc_find (bc_hh Y) pc x with
  | none => rw [hf] at h; exact h.elim
  | some hd =>
  rw [hf] at h
  dsimp only at h
  obtain ⟨pre, suf, a, b, t, e1, e2, e3, e4, e5, e6⟩ := bc_find_e hhok hf
  rw [e1] at htab
  obtain ⟨l1, l2, f1, f2, f3⟩ := List.map_eq_append_iff.mp htab
  obtain ⟨y, l3, rfl, g2, g3⟩ := List.map_eq_cons_iff.mp f3
  simp only [Prod.mk.injEq] at g2
  obtain ⟨k1, k2, k3, k4⟩ := g2
  obtain ⟨w1, w2, w3, w4⟩ := bc_hts_ok t e5
  intro H locs ls rest q ce hn hH hS hl hq hv hcl
  refine vx_catch (own := RL) (name := bc_en (bc_ct t)) (E := bc_en x) hown l1 y l3 f1 (fun z hz => ?_) (by unfold covers; rw [k1, k2]; simp [e2, e3]) (by rw [k4]; exact w4) (by rw [k4]; exact hts _ w1) (by rw [← e4]; exact va_Nw.use (A := args) rfl (hE.2.2.2.2.2.1 _ w2 rfl)) hq hv hcl ?_
  · have hzm : (z.startPc, z.endPc, z.handlerPc, z.catchType) ∈ pre := by rw [← f2]; exact List.mem_map.mpr ⟨z, hz, rfl⟩
    rcases e6 _ hzm with h9 | ⟨h9, h10⟩
    · refine Or.inl ?_
      unfold covers
      cases hc : (decide (z.startPc ≤ pc) && decide (pc < z.endPc)) with
      | false => rfl
      | true =>
        simp only [Bool.and_eq_true, decide_eq_true_eq] at hc
        exact absurd hc h9
    · obtain ⟨u1, u2, u3, u4⟩ := bc_hts_ok _ h9
      exact Or.inr ⟨u4, _, hts _ u1, hE.2.2.2.2.2.2.1 _ h10⟩
  · rw [k3]
    split at h
    · rename_i k len ts hcode
      obtain ⟨d1, -, q1⟩ := hok _ _ _ _ hcode
      have hl2 : len = 2 := by simpa [bc_ln] using q1
      subst hl2
      cases hbk : Nat.blt k (bc_nL Y) with
      | false => rw [hbk] at h; exact h.elim
      | true =>
        rw [hbk] at h
        dsimp only [cond] at h
        rw [bc_force_eq] at h
        refine lv_astore hx hb d1 hl (Nat.le_of_ble_eq_true hbk) rfl (fun ls' hl' => ?_)
        exact hK _ _ _ _ _ h H locs ls' hn hH hS (bc_keep_has (w := false) (v := .ref q) rfl (fun z hz => hz) (by simpa using hl'))
    · rename_i k len ts hcode
      obtain ⟨d1, -, q1⟩ := hok _ _ _ _ hcode
      have hl2 : len = 1 := by simpa [bc_ln] using q1
      subst hl2
      cases hbk : Nat.blt k.val (bc_nL Y) with
      | false => rw [hbk] at h; exact h.elim
      | true =>
        rw [hbk] at h
        dsimp only [cond] at h
        rw [bc_force_eq] at h
        refine lv_astore_n hx hb d1 rfl hl (Nat.le_of_ble_eq_true hbk) rfl (fun ls' hl' => ?_)
        exact hK _ _ _ _ _ h H locs ls' hn hH hS (bc_keep_has (w := false) (v := .ref q) rfl (fun z hz => hz) (by simpa using hl'))
    · exact h.elim
end BCHAND
/-- A METHOD WITH HANDLERS, from its entry: nothing goes out of it -/
theorem bc_enterH {g : bc_C} {Y : bc_Y} {fg : Bool} {d : Nat} {as : List bc_A} {σ : bc_M} {Rr : Option bc_A → bc_M → Prop} (hv : bc_vP Y fg) (hh : bc_hh Y ≠ []) (how : bc_own Y = 12) (hhok : bc_hok (bc_hh Y) = true) (hcv : bc_cv (bc_own Y)) (hnn : bc_nn Y)
    (ha : (as.all (fun v => !bc_wide v) && Nat.ble as.length (bc_nL Y)) = true) (body : ∀ K : bc_KT, bc_Good g Y d Rr (fun _ _ => False) K → K 0 (bc_lv0 0 as) [] σ 0) : bc_Sem g (d + 1) Y as σ Rr (fun _ _ => False) := by
  rw [Bool.and_eq_true] at ha
  have has : ∀ v ∈ as, bc_wide v = false := fun v hvm => by simpa using List.all_eq_true.mp ha.1 v hvm
  have hlen := Nat.le_of_ble_eq_true ha.2
  obtain ⟨w1, w2, w3, w4, w5, w6, w7, w8, w9, w10⟩ := hv
  obtain ⟨q1, q2⟩ := bc_wsm_hdW hh
  refine ⟨trivial, vx_ofWH (cc := Y.2.1) (maxL := bc_nL Y) (ret := bc_ret Y) (hh := bc_hh Y) w3 q1 ?_⟩
  intro p e s m args below meth c s₁ B hml hP
  obtain ⟨rfl, hap, htr, hH, hE, hz⟩ := hP
  have hx := B.exec
  have hb := B.bytes
  have hr := B.returns
  have hts := atoms_spec (ws := bc_wsm Y) B.pre
  have hown := findClass_of_methodNamed B.named
  have hlocks := B.notSynchronized
  have htW : ∀ w ∈ bc_W, w.before (as.map (bc_v g)).toArray s = true := fun w hw => hts w (by rw [q1]; exact List.mem_cons_of_mem _ hw)
  have htab : c.exceptionTable.toList.map (fun h => (h.startPc, h.endPc, h.handlerPc, h.catchType)) = bc_hh Y := by
    obtain ⟨m9, meth9, c9, hn9, hm9, hc9, -, -, ht9, -⟩ := Cond.codeWith_spec (hts _ (by rw [q1]; exact List.mem_cons_self))
    cases B.named.symm.trans hn9
    cases B.method.symm.trans hm9
    cases (Stand.of_body B).code.symm.trans hc9
    exact ht9
  obtain ⟨e1, e2⟩ := bc_lv0_args g as 0 has
  have hl := lv_entry (as.map (bc_v g)) (n := bc_nL Y) (by rw [e2]; exact hlen)
  rw [e1] at hl
  rw [lg_entry_eq]
  have F : bc_Fx g Y d p (headSpec (bc_wsm Y) (bc_rm (d + 1) (bc_cost Y))).room s m (as.map (bc_v g)).toArray meth c 0 0 := by
    refine ⟨hx, hb, hml, htW, by rw [← w7]; exact hown, hlocks, hap, htr, hE, hz, w9, ?_, ?_, ?_, ?_, hr⟩
    · exact Nat.le_refl _
    · exact bc_loc d
    · exact Nat.le_of_eq (Nat.zero_add _)
    · exact Nat.le_of_eq (Nat.zero_add _)
  have G : bc_Good g Y d Rr (fun _ _ => False) (bc_T g Y p e (headSpec (bc_wsm Y) (bc_rm (d + 1) (bc_cost Y))).room s m (as.map (bc_v g)).toArray below meth c (vx_MQ below (bc_Qc g Rr) (bc_Xc g (fun _ _ => False)) (as.map (bc_v g)).toArray s (bc_cost Y) (6 * bc_cost Y) (bc_Z g)) 0 0) := by
    refine ⟨fun cuts f pc lv st σ n h => ?_, fun pc lv lv' st σ n hs h => bc_T_sub hs h⟩
    exact bc_run_ok F hcv (fun _ _ _ _ _ h => h) (fun pc i len ts lv st σ n r hc hr h => bc_s_ret F hc hr h) (fun K hK pc lv n x σ h hx6 => bc_s_catch F how hhok htab hK h) (fun pc ix len ts lv st σ n hc h1 h2 h3 h4 => (hnn pc ix len ts hc).elim) (bc_jdk_all g Y d p e _ s m _ below meth c _ 0 0 F) f pc lv st σ n h
  have := body _ G s.heap [] _ (Nat.zero_le _) hH va_S.rf hl
  exact this
end
