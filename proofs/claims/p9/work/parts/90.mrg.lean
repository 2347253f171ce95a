section
/-! a grid of numbers is made: the outer row, then the inner rows one behind another -/
noncomputable abbrev mg_ (c : ClassId) (N h0 i : Nat) : Cell := arrV c N (fun j => if j < i then .ref (h0 + 1 + j) else .null)
noncomputable abbrev mi_ (c : ClassId) (M : Nat) : Cell := arrV c M (fun _ => .int 0)
noncomputable def mt_ (s : State) (c comp : ClassId) (N M : Nat) : Nat → State
  | 0 => s.pushCell (mg_ c N s.heap.size 0)
  | i + 1 => ((mt_ s c comp N M i).pushCell (mi_ comp M)).setCell s.heap.size (mg_ c N s.heap.size (i + 1))
theorem mg_s (c : ClassId) (N h0 i : Nat) : (mg_ c N h0 i).setSlot i (.ref (h0 + 1 + i)) = mg_ c N h0 (i + 1) := by
  unfold mg_
  rw [arrV_store]
  congr 1
  funext j
  unfold updV
  by_cases e : j = i
  · rw [if_pos e, if_pos (by omega), e]
  · rw [if_neg e]
    show (if j < i then Value.ref (h0 + 1 + j) else Value.null) = _
    by_cases e2 : j < i
    · rw [if_pos e2, if_pos (by omega)]
    · rw [if_neg e2, if_neg (by omega)]
theorem mg_0 (c : ClassId) (N h0 : Nat) : ({ cls := c, slots := Array.replicate N .null, vm := .none } : Cell) = mg_ c N h0 0 := by
  rw [arrV_new]
  unfold mg_
  congr 1
/-- what the state holds behind i rows -/
noncomputable def mf_ (s T : State) (c comp : ClassId) (N M i : Nat) : Prop := T.heap.size = s.heap.size + 1 + i ∧ T.heap[s.heap.size]? = some (mg_ c N s.heap.size i) ∧ T.vm = s.vm ∧ T.slotsUsed = s.slotsUsed + N + i * M ∧ (∀ a, a < s.heap.size → T.heap[a]? = s.heap[a]?) ∧ ∀ j, j < i → T.heap[s.heap.size + 1 + j]? = some (mi_ comp M)
theorem mt_f (s : State) (c comp : ClassId) (N M : Nat) : ∀ i, mf_ s (mt_ s c comp N M i) c comp N M i := by
  intro i
  induction i with
  | zero =>
    refine ⟨by simp [mt_], by simp [mt_], rfl, by simp [mt_, arrV_size], fun a ha => State.heap_pushCell_of_lt _ _ ha, fun j hj => absurd hj (Nat.not_lt_zero _)⟩
  | succ i ih =>
    obtain ⟨a1, a2, a3, a4, a5, a6⟩ := ih
    have lt0 : s.heap.size < (mt_ s c comp N M i).heap.size := by omega
    have b2 : ((mt_ s c comp N M i).pushCell (mi_ comp M)).heap[s.heap.size]? = some (mg_ c N s.heap.size i) := by rw [State.heap_pushCell_of_lt (h := lt0)]; exact a2
    refine ⟨by simp [mt_, State.setCell, a1]; omega, State.heap_setCell_self b2, by simp [mt_, a3], ?_, fun a ha => ?_, fun j hj => ?_⟩
    · have e : (mi_ comp M).slots.size = M := arrV_size _ _ _
      simp [mt_, a4, e, Nat.succ_mul]
      omega
    · show (((mt_ s c comp N M i).pushCell (mi_ comp M)).setCell s.heap.size _).heap[a]? = _
      have la : a < (mt_ s c comp N M i).heap.size := by omega
      rw [State.heap_setCell_other (Nat.ne_of_gt ha), State.heap_pushCell_of_lt (h := la)]
      exact a5 a ha
    · show (((mt_ s c comp N M i).pushCell (mi_ comp M)).setCell s.heap.size _).heap[s.heap.size + 1 + j]? = _
      rw [State.heap_setCell_other (show s.heap.size ≠ s.heap.size + 1 + j by omega)]
      by_cases e : j = i
      · rw [e, ← a1]
        exact State.heap_pushCell_size _ _
      · have la : s.heap.size + 1 + j < (mt_ s c comp N M i).heap.size := by omega
        rw [State.heap_pushCell_of_lt (h := la)]
        exact a6 j (by omega)
theorem mt_top (s : State) (f : JFrame) (c comp : ClassId) (N M : Nat) : ∀ i, mt_ (s.setTop f) c comp N M i = (mt_ s c comp N M i).setTop f := by
  intro i
  induction i with
  | zero => rfl
  | succ i ih => simp only [mt_, ih, State.heap_setTop, State.pushCell_setTop, State.setCell_setTop]
section MUL
variable {E : CtlPost} {e : Env} {d : Bool} {acts : List Action} {s : State}
theorem mt_wp {c comp cc : ClassId} {k kc : Class} {n m : Int32} {N M : Nat} (hk : s.vm.classes[c]? = some k) (hkind : k.kind = .array comp (.array .int)) (hkc : s.vm.classes[comp]? = some kc) (hkindc : kc.kind = .array cc .int)
    (hn : ¬ n < 0) (hn0 : (n == 0) = false) (hm : ¬ m < 0) (hN : n.toNatClampNeg = N) (hM : m.toNatClampNeg = M)
    (hl1 : ¬ N > e.platform.arrayLengthLimit) (hh1 : ¬ N * componentBytes (.array .int) > e.platform.maxHeapBytes) (hl2 : ¬ M > e.platform.arrayLengthLimit) (hh2 : ¬ M * componentBytes .int > e.platform.maxHeapBytes)
    (hc : s.heap.size + 1 + N ≤ e.platform.maxCells) (hs : s.slotsUsed + N + N * M ≤ e.platform.maxSlots)
    {Q : Addr → Pre} (hq : ∀ d' acts', Q s.heap.size d' acts' (mt_ s c comp N M N)) : wp (multianewarray.make c [n, m]) Q E e d acts s := by
  rw [multianewarray.make]
  simp only [wp_bind', W.ite, hn, if_false, wp_pure', W.theClass, hk, hkind, Option.some.injEq, exists_eq_left', hN]
  refine W.newArray_of hk hkind hl1 hh1 (by omega) (by omega) rfl (fun acts1 => ?_)
  simp only [hn0, Bool.false_eq_true, if_false, wp_pure', wp_bind', Std.Legacy.Range.forIn_eq_forIn_range']
  rw [show ([:N] : Std.Legacy.Range).size = N by simp [Std.Legacy.Range.size]]
  show wp (forIn (List.range' 0 N 1) PUnit.unit _) _ E e d acts1 _
  refine wp_forIn_inv (fun rest s' => ∃ i, i ≤ N ∧ rest = List.range' i (N - i) ∧ s' = mt_ s c comp N M i) _ _ ⟨0, Nat.zero_le _, rfl, ?_⟩ ?_ ?_
  · show s.pushCell _ = s.pushCell _
    rw [← mg_0]
  · rintro x rest s' d' acts' Q' ⟨i, hi, hl, rfl⟩ hnext
    have hlt : i < N := by
      refine Classical.byContradiction (fun h => ?_)
      rw [show N - i = 0 by omega] at hl
      cases hl
    rw [show N - i = (N - (i + 1)) + 1 by omega, List.range'_succ] at hl
    obtain ⟨rfl, hrest⟩ := List.cons.inj hl
    obtain ⟨f1, f2, f3, f4, f5, f6⟩ := mt_f s c comp N M x
    have hmul : x * M + M ≤ N * M := by
      have := Nat.mul_le_mul_right M (show x + 1 ≤ N from hlt)
      rw [Nat.succ_mul] at this
      exact this
    simp only [wp_bind']
    rw [multianewarray.make]
    simp only [wp_bind', W.ite, hm, if_false, wp_pure', W.theClass, f3, hkc, hkindc, Option.some.injEq, exists_eq_left', hM]
    refine W.newArray_of (by rw [f3]; exact hkc) hkindc hl2 hh2 (by omega) (by omega) rfl (fun acts2 => ?_)
    have e0 : ({ cls := comp, slots := Array.replicate M (defaultValue .int) } : Cell) = mi_ comp M := arrV_new comp M (.int 0)
    rw [e0]
    have lt0 : s.heap.size < (mt_ s c comp N M x).heap.size := by omega
    simp only [wp_bind', W.writeLoc, wp_pure']
    refine ⟨mg_ c N s.heap.size x, by rw [State.heap_pushCell_of_lt (h := lt0)]; exact f2, (fun q => by cases q), by rw [arrV_size]; exact hlt, ?_, hnext _ _ _ ⟨x + 1, hlt, hrest, ?_⟩⟩
    · show State.fitsSlot _ c .none x _ = true
      simp [State.fitsSlot, State.slotType?, f3, hk, hkind, fits]
    · rw [f1, mg_s]
      rfl
  · rintro s' d' acts' ⟨i, hi, hl, rfl⟩
    have hiN : i = N := by
      refine Classical.byContradiction (fun h => ?_)
      rw [show N - i = (N - (i + 1)) + 1 by omega, List.range'_succ] at hl
      cases hl
    subst hiN
    simp only [wp_pure']
    exact hq _ _
end MUL
end
section
/-! CONSTRUCTORS: cells one behind another, from q on -/
noncomputable def cz_ : Nat → List va_E → va_W
  | _, [] => []
  | q, x :: l => (q, x) :: cz_ (q + 1) l
theorem cz_at : ∀ (es : List va_E) (q i : Nat), (cz_ q es)[i]? = (es[i]?).map (fun x => (q + i, x))
  | [], q, i => by simp [cz_]
  | x :: l, q, 0 => by simp [cz_]
  | x :: l, q, i + 1 => by
    show (cz_ (q + 1) l)[i]? = _
    rw [cz_at l (q + 1) i, show q + 1 + i = q + (i + 1) by omega]
    simp only [List.getElem?_cons_succ]
noncomputable def cqz_ (D : va_G) (q : Nat) (es : List va_E) (H : Heap) : Prop := H.size = q + es.length ∧ ∀ (i : Nat) (x : va_E), es[i]? = some x → va_at D bc_cl (q + i, x) H
theorem cqz_P {D : va_G} {q : Nat} {es : List va_E} {H : Heap} (h : cqz_ D q es H) : va_P D bc_cl (cz_ q es) H := fun k r hk => by
  rw [cz_at] at hk
  obtain ⟨x, hx, rfl⟩ := Option.map_eq_some_iff.mp hk
  exact h.2 k x hx
theorem cz_D (es : List va_E) (q : Nat) : va_D (fun a => q ≤ a) (cz_ q es) := by
  refine ⟨fun i j p r hi hj e => ?_, fun k r hk => ?_⟩
  · rw [cz_at] at hi hj
    obtain ⟨x, hx, rfl⟩ := Option.map_eq_some_iff.mp hi
    obtain ⟨y, hy, rfl⟩ := Option.map_eq_some_iff.mp hj
    have e : q + i = q + j := e
    omega
  · rw [cz_at] at hk
    obtain ⟨x, hx, rfl⟩ := Option.map_eq_some_iff.mp hk
    exact Nat.le_add_right q k
theorem cqz_lt {D : va_G} {q : Nat} {es : List va_E} {H : Heap} (h : cqz_ D q es H) {i : Nat} {x : va_E} (hx : es[i]? = some x) : q + i < H.size := by
  have := (List.getElem?_eq_some_iff.mp hx).1
  rw [h.1]
  omega
/-- more cells behind -/
theorem cqz_app {D : va_G} {q : Nat} {es w : List va_E} {H H1 : Heap} (h : cqz_ D q es H) (hw : cqz_ D (q + es.length) w H1) (o1 : ∀ a, a < q + es.length → H1[a]? = H[a]?) : cqz_ D q (es ++ w) H1 := by
  refine ⟨by rw [hw.1, List.length_append]; omega, fun i x hx => ?_⟩
  by_cases c : i < es.length
  · rw [List.getElem?_append_left c] at hx
    exact (h.2 i x hx).kept (o1 (q + i) (by omega))
  · rw [List.getElem?_append_right (by omega)] at hx
    have := hw.2 (i - es.length) x hx
    rw [show q + es.length + (i - es.length) = q + i by omega] at this
    exact this
/-- the last cell gives way to more -/
theorem cqz_last {D : va_G} {q : Nat} {es w : List va_E} {e0 : va_E} {H H1 : Heap} (h : cqz_ D q (es ++ [e0]) H) (hw : cqz_ D (q + es.length) w H1) (o1 : ∀ a, a < q + es.length → H1[a]? = H[a]?) : cqz_ D q (es ++ w) H1 := by
  refine ⟨by rw [hw.1, List.length_append]; omega, fun i x hx => ?_⟩
  by_cases c : i < es.length
  · rw [List.getElem?_append_left c] at hx
    exact (h.2 i x (by rw [List.getElem?_append_left c]; exact hx)).kept (o1 (q + i) (by omega))
  · rw [List.getElem?_append_right (by omega)] at hx
    have := hw.2 (i - es.length) x hx
    rw [show q + es.length + (i - es.length) = q + i by omega] at this
    exact this
theorem cqz_push {D : va_G} {q : Nat} {es : List va_E} {e0 : va_E} {H H1 : Heap} (h : cqz_ D q es H) (hz : H1.size = q + es.length + 1) (o1 : ∀ a, a < q + es.length → H1[a]? = H[a]?) (hn : va_at D bc_cl (q + es.length, e0) H1) : cqz_ D q (es ++ [e0]) H1 := by
  refine cqz_app h ⟨by rw [hz]; rfl, fun i x hx => ?_⟩ o1
  cases i with
  | zero => cases hx; exact hn
  | succ i => cases hx
theorem cqz_put {D : va_G} {q : Nat} {es : List va_E} {e0 e1 : va_E} {H H1 : Heap} (h : cqz_ D q (e0 :: es) H) (hz : H1.size = H.size) (o1 : ∀ a, a ≠ q → H1[a]? = H[a]?) (hn : va_at D bc_cl (q, e1) H1) : cqz_ D q (e1 :: es) H1 := by
  refine ⟨by rw [hz, h.1]; rfl, fun i x hx => ?_⟩
  cases i with
  | zero => cases hx; exact hn
  | succ i => exact (h.2 (i + 1) x hx).kept (o1 (q + (i + 1)) (by omega))
theorem cqz_split {D : va_G} {q : Nat} {es w : List va_E} {H : Heap} (h : cqz_ D q (es ++ w) H) : cqz_ D (q + es.length) w H := by
  refine ⟨by rw [h.1, List.length_append]; omega, fun i x hx => ?_⟩
  have := h.2 (es.length + i) x (by rw [List.getElem?_append_right (by omega), show es.length + i - es.length = i by omega]; exact hx)
  rw [← Nat.add_assoc] at this
  exact this
noncomputable abbrev ty7_ (cA : Nat → ClassId) : List (ClassId × FieldType) := [(cA 0, .int), (cA 1, .char), (cA 2, .boolean), (cA 3, .long), (cA 4, .double), (cA 5, .array .int), (cA 6, .object "BridgeChapel$State")]
noncomputable def ck_M (w : Cond) : Bool := match w with
  | .methodLinkNest _ _ _ _ => true
  | _ => false
/-- what the tables say that no word says: the classes, and who may call whose constructor -/
noncomputable def ck_K (D : va_G) (cA : Nat → ClassId) (U : State) : Prop := va_K D bc_cl (ty7_ cA) U ∧ va_AO "BridgeChapel$State" U ∧ (∃ kA : Class, U.vm.classes[cA 5]? = some kA ∧ kA.kind = .array (cA 0) (.array .int)) ∧ ∀ w ∈ lw_tbl, ck_M w = true → va_Nw w U
theorem ck_warm {D : va_G} {cA : Nat → ClassId} {s U : State} (hW : s.WarmedH U.vm) (h : ck_K D cA s) : ck_K D cA U := by
  obtain ⟨h1, h2, ⟨kA, h3, h4⟩, h5⟩ := h
  refine ⟨va_K.moved hW.alike h1, h2.moved hW.alike, ?_, fun w hw hm => ?_⟩
  · obtain ⟨k', hk', he⟩ := hW.alike.2.2 _ _ h3
    exact ⟨k', hk', by rw [he]; exact h4⟩
  · have h8 := h5 w hw hm
    unfold ck_M at hm
    split at hm
    · exact va_Nw.warmM hW h8
    · cases hm
theorem ck_same {D : va_G} {cA : Nat → ClassId} {u U : State} (hv : U.vm = u.vm) (h : ck_K D cA u) : ck_K D cA U := by
  obtain ⟨h1, h2, h3, h5⟩ := h
  have ha : u.vm.Alike U.vm := by rw [hv]; exact Vm.Alike.refl u.vm
  refine ⟨va_K.moved ha h1, h2.moved ha, by rw [hv]; exact h3, fun w hw hm => ?_⟩
  have h8 := h5 w hw hm
  unfold ck_M at hm
  split at hm
  · exact va_Nw.same rfl hv.symm h8
  · cases hm
section CTR
variable {p : Program} {l : Launch} {e : Env} {R : Room} {s : State} {m : MethodId} {args : Array Value} {below : List Frame} {meth : Method} {c : Code} {H : Heap} {locs : List Loc} {cells slots : Nat} {Q : State → Prop} {cc : ByteArray} {pc : Nat} {ls : Array Slot} {rest : List Value} {D : va_G} {cA : Nat → ClassId} {q : Nat} {es : List va_E}
theorem cs_grow (hS : va_S (fun a => q ≤ a) s.heap H locs) (hz : q ≤ H.size) {H1 : Heap} (z1 : H.size ≤ H1.size) (o1 : ∀ a, a < H.size → H1[a]? = H[a]?) : va_S (fun a => q ≤ a) s.heap H1 locs :=
  ⟨Nat.le_trans hS.1 z1, fun x h1 h2 => (o1 x (Nat.lt_of_lt_of_le h1 hS.1)).trans (hS.2.1 x h1 h2), hS.2.2⟩
theorem cr_new {k9 : Nat} (hlen : es.length = k9) (hexec : p.tables.exec = Jvm.exec) (hb : c.code = cc) {own C : String} {T : u_T} {N ci index : Nat} (hts : ∀ w ∈ bc_W, w.before args s = true) (hin : ∀ w ∈ u_ws C T N, w ∈ bc_W) (ty : Nat → FieldType) (hty : ∀ k, k < N → parseFieldDescriptor (T k).2.2.1 = some (ty k)) (hown : s.vm.findClass own = some m.cls) (hcl : (Cond.classLink own index C).before args s = true) (hinst : (Cond.instantiable C N).before args s = true) (hini : (Cond.initialized C).before args s = true) (hK : ck_K D cA s) (hq : cqz_ D q es H) (hS : va_S (fun a => q ≤ a) s.heap H locs) (hc : bc_cl[ci]? = some (C, T, N)) {fs : List Value} (hfs : ∀ j, j < N → defaultValue (ty j) = vp_V fs j) (hcells : cells + 1 ≤ R.cells) (hslots : slots + N ≤ R.slots) (hdg : decode cc pc = .ok (.new index, 3))
    (kk : ∀ H1 : Heap, cqz_ D q (es ++ [.inr (ci, fs)]) H1 → va_S (fun a => q ≤ a) s.heap H1 locs → W p l e R s m args below meth c H1 locs (cells + 1) (slots + N) Q (F0 m (pc + 3) ls (.ref (q + k9) :: rest))) : W p l e R s m args below meth c H locs cells slots Q (F0 m pc ls rest) := by
  subst hlen
  have hKn := hK.1.1 ci _ hc
  have hz := hq.1
  refine W.newcK hexec hb hown hcl hinst hini rfl hdg hcells hslots hKn.2.1 hz fun H1 kC hkC e1 z1 o1 => ?_
  refine kk H1 (cqz_push hq z1 o1 ?_) (cs_grow hS (by omega) (by omega) (fun a ha => o1 a (by omega)))
  exact ⟨_, hc, (u_born ty hts hin hKn hkC e1 hty).to hfs⟩
theorem cr_newa {k9 : Nat} (hlen : es.length = k9) (hexec : p.tables.exec = Jvm.exec) (hb : c.code = cc) {atype : ArrayType} (harr : (Cond.arrayClass (newarray.typeOf atype)).before args s = true) {cI : ClassId} (hnm : s.vm.findClass ("[" ++ (newarray.typeOf atype).toString) = some cI) (hq : cqz_ D q es H) (hS : va_S (fun a => q ≤ a) s.heap H locs) {n : Int32} {N' : Nat} {a0 : vp_A} (ha : vp_cell cI a0 = arrV cI N' (fun _ => defaultValue (newarray.typeOf atype))) (hn : ¬ n < 0) (hN : n.toNatClampNeg = N') (hbytes : N' * componentBytes (newarray.typeOf atype) ≤ 536870912) (hcells : cells + 1 ≤ R.cells) (hslots : slots + N' ≤ R.slots) (hdg : decode cc pc = .ok (.newarray atype, 2))
    (kk : ∀ H1 : Heap, cqz_ D q (es ++ [.inl (cI, a0)]) H1 → va_S (fun a => q ≤ a) s.heap H1 locs → W p l e R s m args below meth c H1 locs (cells + 1) (slots + N') Q (F0 m (pc + 2) ls (.ref (q + k9) :: rest))) : W p l e R s m args below meth c H locs cells slots Q (F0 m pc ls (.int n :: rest)) := by
  subst hlen
  have hz := hq.1
  refine va_newaK hexec hb harr rfl hdg rfl hn hN hbytes hcells hslots hz fun H1 cI' e1 z1 o1 _ hNm => ?_
  have e9 : cI' = cI := Option.some.inj (hNm.symm.trans hnm)
  rw [e9] at e1
  refine kk H1 (cqz_push hq z1 o1 ?_) (cs_grow hS (by omega) (by omega) (fun a ha => o1 a (by omega)))
  show H1[q + es.length]? = some (vp_cell cI a0)
  rw [ha]
  exact e1
theorem cr_newq {k9 : Nat} (hlen : es.length = k9) (hexec : p.tables.exec = Jvm.exec) (hb : c.code = cc) {own C : String} {index : Nat} (hown : s.vm.findClass own = some m.cls) (hclink : (Cond.classLink own index C).before args s = true) (hover : va_AO C s) {cI : ClassId} (hnm : s.vm.findClass ("[" ++ (FieldType.object C).toString) = some cI) (hq : cqz_ D q es H) (hS : va_S (fun a => q ≤ a) s.heap H locs) {n : Int32} {N' : Nat} (hn : ¬ n < 0) (hN : n.toNatClampNeg = N') (hbytes : N' * 4 ≤ 536870912) (hcells : cells + 1 ≤ R.cells) (hslots : slots + N' ≤ R.slots) (hdg : decode cc pc = .ok (.anewarray index, 3))
    (kk : ∀ H1 : Heap, cqz_ D q (es ++ [.inl (cI, N', .inr (.inr (.inr (.inr (fun _ => none)))))]) H1 → va_S (fun a => q ≤ a) s.heap H1 locs → W p l e R s m args below meth c H1 locs (cells + 1) (slots + N') Q (F0 m (pc + 3) ls (.ref (q + k9) :: rest))) : W p l e R s m args below meth c H locs cells slots Q (F0 m pc ls (.int n :: rest)) := by
  subst hlen
  have hz := hq.1
  subst hN
  refine W.anew hexec hb hown hclink (va_AO.use hover) rfl hdg rfl hn hbytes hcells hslots fun cI' kA comp f1 f2 f3 f4 => ?_
  have e9 : cI' = cI := Option.some.inj (f1.symm.trans hnm)
  subst e9
  generalize hH1 : H.push ({ cls := cI', slots := Array.replicate n.toNatClampNeg .null, vm := .none } : Cell) = H1
  have z1 : H1.size = H.size + 1 := by rw [← hH1, Array.size_push]
  have e1 : H1[H.size]? = some (arrV cI' n.toNatClampNeg (fun _ => .null)) := by rw [← hH1, Array.getElem?_push_size, ← arrV_new]
  have o1 : ∀ a : Nat, a < H.size → H1[a]? = H[a]? := fun a ha => by rw [← hH1, Array.getElem?_push, if_neg (Nat.ne_of_lt ha)]
  rw [hz] at e1 ⊢
  refine kk H1 (cqz_push hq (by omega) (fun a ha => o1 a (by omega)) ?_) (cs_grow hS (by omega) (by omega) o1)
  show H1[q + es.length]? = some (vp_cell _ _)
  rw [vp_cell_q]
  exact e1
/-- a grid of ints -/
noncomputable abbrev cg_r (cI : ClassId) (M : Nat) : va_E := .inl (cI, M, .inl (fun j => if j < M then Int32.ofInt 0 else 0))
noncomputable abbrev cg_o (cG : ClassId) (N h : Nat) : va_E := .inl (cG, N, .inr (.inr (.inr (.inr (fun j => if j < N then some (h + 1 + j) else none)))))
theorem mt_stand {T : State} {cI comp : ClassId} {N M : Nat} (X : Stand p l e R s m args below meth c T locs cells slots) : ∀ i, ∃ L : List Loc, (∀ x ∈ L, x.base = T.heap.size) ∧ Stand p l e R s m args below meth c (mt_ T cI comp N M i) (locs ++ L) (cells + 1 + i) (slots + N + i * M) := by
  intro i
  induction i with
  | zero =>
    refine ⟨[], (fun x hx => by cases hx), ?_⟩
    have h := X.pushed (mg_ cI N T.heap.size 0)
    rw [arrV_size] at h
    simpa [mt_] using h
  | succ i ih =>
    obtain ⟨L, hL, Xi⟩ := ih
    obtain ⟨f1, f2, f3, f4, f5, f6⟩ := mt_f T cI comp N M i
    have lt0 : T.heap.size < (mt_ T cI comp N M i).heap.size := by omega
    have hcell : ((mt_ T cI comp N M i).pushCell (mi_ comp M)).heap[T.heap.size]? = some (mg_ cI N T.heap.size i) := by rw [State.heap_pushCell_of_lt (h := lt0)]; exact f2
    have h := (Xi.pushed (mi_ comp M)).stored hcell i (.ref (T.heap.size + 1 + i))
    rw [mg_s, arrV_size, List.append_assoc] at h
    refine ⟨L ++ [⟨T.heap.size, i⟩], fun x hx => ?_, ?_⟩
    · rcases List.mem_append.mp hx with hx | hx
      · exact hL x hx
      · rw [List.mem_singleton.mp hx]
    · rw [show slots + N + (i + 1) * M = slots + N + i * M + M by rw [Nat.succ_mul]; omega]
      exact h
theorem cr_multi {k9 : Nat} (hlen : es.length = k9) (hexec : p.tables.exec = Jvm.exec) (hb : c.code = cc) {own : String} {index : Nat} (hown : s.vm.findClass own = some m.cls) (hclink : (Cond.classLink own index "[[I").before args s = true) (hK : ck_K D cA s) (hq : cqz_ D q es H) (hS : va_S (fun a => q ≤ a) s.heap H locs) {n k : Int32} {N M : Nat} (hn : ¬ n < 0) (hn0 : (n == 0) = false) (hk : ¬ k < 0) (hN : n.toNatClampNeg = N) (hM : k.toNatClampNeg = M) (hb1 : N ≤ 1000) (hb2 : M ≤ 1000) (hcells : cells + (1 + N) ≤ R.cells) (hslots : slots + (N + N * M) ≤ R.slots) (hdg : decode cc pc = .ok (.multianewarray index 2, 4))
    (kk : ∀ (H1 : Heap) (locs1 : List Loc), cqz_ D q (es ++ (cg_o (cA 5) N (q + k9) :: List.replicate N (cg_r (cA 0) M))) H1 → va_S (fun a => q ≤ a) s.heap H1 locs1 → W p l e R s m args below meth c H1 locs1 (cells + (1 + N)) (slots + (N + N * M)) Q (F0 m (pc + 4) ls (.ref (q + k9) :: rest))) : W p l e R s m args below meth c H locs cells slots Q (F0 m pc ls (.int k :: .int n :: rest)) := by
  subst hlen
  obtain ⟨hKv, -, ⟨kA, hkA, hkindA⟩, -⟩ := hK
  have hnA : s.vm.findClass "[[I" = some (cA 5) := (hKv.2 5 _ rfl).2
  obtain ⟨-, kC, hkC, cc1, hkindC⟩ := (hKv.2 0 _ rfl).1 0 (fun _ => .null)
  have hkC : s.vm.classes[cA 0]? = some kC := hkC
  have hkindC : kC.kind = .array cc1 .int := hkindC
  intro T hT X
  subst hb
  have hpl : e.platform.magicAccessors = ({} : Platform).magicAccessors := by rw [X.admits.platform]
  obtain ⟨c0, hfc0, hcl⟩ := Cond.classLink_spec hown hclink e.platform hpl
  have ec : cA 5 = c0 := Option.some.inj (hnA.symm.trans hfc0)
  rw [← ec] at hcl
  obtain ⟨hg1, hw1, hr1⟩ := State.classEntry (e := e) X.warmed hcl
  generalize T.vm.noted m.cls index (.cls (cA 5)) = vm1 at hg1 hw1 hr1
  obtain ⟨kA1, hkA1, heA⟩ := hw1.alike.2.2 _ _ hkA
  obtain ⟨kC1, hkC1, heC⟩ := hw1.alike.2.2 _ _ hkC
  have X1 := X.noted hw1
  obtain ⟨r1, r2⟩ := X.roomAbove hcells hslots
  obtain ⟨L, hL, XF⟩ := mt_stand (cI := cA 5) (comp := cA 0) (N := N) (M := M) X1 N
  obtain ⟨f1, f2, f3, f4, f5, f6⟩ := mt_f (T.setVm vm1) (cA 5) (cA 0) N M N
  have hTs : (T.setVm vm1).heap = H := hT
  rw [hTs] at f1 f2 f5 f6 hL
  have hz := hq.1
  rw [hz] at f1 f2 f5 f6 hL
  have hw : cqz_ D (q + es.length) (cg_o (cA 5) N (q + es.length) :: List.replicate N (cg_r (cA 0) M)) (mt_ (T.setVm vm1) (cA 5) (cA 0) N M N).heap := by
    refine ⟨by rw [f1, List.length_cons, List.length_replicate]; omega, fun i x hx => ?_⟩
    cases i with
    | zero =>
      cases hx
      show (mt_ (T.setVm vm1) (cA 5) (cA 0) N M N).heap[q + es.length]? = some (vp_cell _ _)
      rw [f2, vp_cell_q]
      refine congrArg some (congrArg (arrV (cA 5) N) (funext fun j => ?_))
      by_cases h : j < N
      · rw [if_pos h, if_pos h]; rfl
      · rw [if_neg h, if_neg h]; rfl
    | succ i =>
      rw [List.getElem?_cons_succ, List.getElem?_replicate] at hx
      by_cases h : i < N
      · rw [if_pos h] at hx
        cases hx
        have := f6 i h
        show (mt_ (T.setVm vm1) (cA 5) (cA 0) N M N).heap[q + es.length + (i + 1)]? = some (vp_cell _ _)
        rw [show q + es.length + (i + 1) = q + es.length + 1 + i by omega, this]
        have e0 : (fun j : Nat => if j < M then (Int32.ofInt 0) else 0) = fun _ => 0 := by
          funext j
          split <;> rfl
        rw [e0]
        rfl
      · rw [if_neg h] at hx
        cases hx
  have hq1 := cqz_app hq hw (fun a ha => f5 a ha)
  have hS1 : va_S (fun a => q ≤ a) s.heap (mt_ (T.setVm vm1) (cA 5) (cA 0) N M N).heap (locs ++ L) := by
    have h0 := cs_grow (H1 := (mt_ (T.setVm vm1) (cA 5) (cA 0) N M N).heap) hS (by omega) (by omega) (fun a ha => f5 a (by omega))
    refine ⟨h0.1, h0.2.1, fun x hx => ?_⟩
    rcases List.mem_append.mp hx with hx | hx
    · exact hS.2.2 x hx
    · rw [hL x hx]
      exact Nat.le_add_right _ _
  rw [show cells + 1 + N = cells + (1 + N) by omega, show slots + N + N * M = slots + (N + N * M) by omega] at XF
  obtain ⟨t, a1, b1⟩ := kk _ _ hq1 hS1 (mt_ (T.setVm vm1) (cA 5) (cA 0) N M N) rfl XF
  refine ⟨t, ?_, b1⟩
  have l1 : ¬ N > e.platform.arrayLengthLimit := by rw [Launch.admits_arrayLengthLimit X.admits]; omega
  have h1 : ¬ N * componentBytes (.array .int) > e.platform.maxHeapBytes := by rw [Launch.admits_maxHeapBytes X.admits]; show ¬ N * 4 > 536870912; omega
  have l2 : ¬ M > e.platform.arrayLengthLimit := by rw [Launch.admits_arrayLengthLimit X.admits]; omega
  have h2 : ¬ M * componentBytes .int > e.platform.maxHeapBytes := by rw [Launch.admits_maxHeapBytes X.admits]; show ¬ M * 4 > 536870912; omega
  jvm_step X.here [hexec, hdg]
  simp only [multianewarray.sem, wp_bind', W.resolveClassAt_links (State.method?_setTop (F0 m pc ls (.int k :: .int n :: rest)) X.here.top) hg1]
  rw [W.popN, if_neg (by decide)]
  refine ⟨F0 m pc ls (.int k :: .int n :: rest), State.topJava?_setTop' (s := T.setVm vm1) (F0 m pc ls (.int k :: .int n :: rest)) X.here.top, [.int n, .int k], rest, rfl, rfl, ?_⟩
  simp only [List.mapM_cons, List.mapM_nil, wp_bind', wp_pure']
  refine mt_wp (k := kA1) (kc := kC1) (comp := cA 0) (cc := cc1) hkA1 (by rw [heA]; exact hkindA) hkC1 (by rw [heC]; exact hkindC) hn hn0 hk hN hM l1 h1 l2 h2 (by show T.heap.size + 1 + _ ≤ _; omega) (by show T.slotsUsed + _ + _ ≤ _; omega) (fun d' acts' => ?_)
  have eS : ∀ g g' : JFrame, ((T.setTop g).setVm vm1).setTop g' = (T.setVm vm1).setTop g' := fun g g' => by
    show ((T.setVm vm1).setTop g).setTop _ = _
    rw [State.setTop_setTop]
  rw [eS, mt_top]
  simp only [wp_bind', W.mark, W.pushRef, State.topJava?_setTop' _ XF.here.top, Option.some.injEq, exists_eq_left', State.setTop_setTop, State.heap_setTop]
  intro acts
  simp [jvm, XF.here.top]
  have eH : T.heap.size = q + es.length := by rw [hT]; exact hz
  rw [eH]
  exact a1
end CTR
end
section
/-! constructors: fields of the new object, calls of constructors, an object laid into a row -/
noncomputable abbrev ctW_ (Y : bc_Y) : List Cond := .code Y.1 Y.2.1 (bc_nL Y) none :: bc_W
theorem ctW_good {Y : bc_Y} (h : Cond.code Y.1 Y.2.1 (bc_nL Y) none ∈ bc_W) : GoodIn bc_W (ctW_ Y) := fun w hw => by
  rcases List.mem_cons.mp hw with rfl | hw
  · exact ⟨h, bc_W_good _ h⟩
  · exact ⟨hw, bc_W_good _ hw⟩
/-- a constructor, called on the last cell: cells come behind it, what lies before stays -/
noncomputable def ctc_ (l : Launch) (D : va_G) (cA : Nat → ClassId) (Y : bc_Y) (rm : Room) (e0 : va_E) (E : Nat → List va_E) (mc ms : Nat) : Prop := ∀ q : Nat, Met l Y.1 (ctW_ Y) rm (va_Pc [.ref q] (fun U => cqz_ D q [e0] U.heap ∧ ck_K D cA U)) (va_Qv (fun _ : Unit => True) (fun _ t => cqz_ D q (E q) t.heap) (fun a => q ≤ a)) mc ms (fun a => q ≤ a)
section CTP
variable {p : Program} {l : Launch} {e : Env} {R : Room} {s : State} {m : MethodId} {args : Array Value} {below : List Frame} {meth : Method} {c : Code} {H : Heap} {locs : List Loc} {cells slots : Nat} {Q : State → Prop} {cc : ByteArray} {pc : Nat} {ls : Array Slot} {rest : List Value} {D : va_G} {cA : Nat → ClassId} {q : Nat} {es : List va_E}
theorem cr_put (hexec : p.tables.exec = Jvm.exec) (hb : c.code = cc) {own ref C : String} {T : u_T} {N ci index : Nat} (hts : ∀ w ∈ bc_W, w.before args s = true) (hin : ∀ w ∈ u_ws C T N, w ∈ bc_W) (ty0 : Nat → FieldType) (hty : ∀ k, k < N → parseFieldDescriptor (T k).2.2.1 = some (ty0 k)) (hnm : ∀ a, a < N → ∀ b, b < N → a ≠ b → (T a).2.1 ≠ (T b).2.1) (hown : s.vm.findClass own = some m.cls) (hK : ck_K D cA s) {fs : List Value} (hq : cqz_ D q (.inr (ci, fs) :: es) H) (hS : va_S (fun a => q ≤ a) s.heap H locs) (hc : bc_cl[ci]? = some (C, T, N)) (k : Nat) (hk : k < N) (hlink : (Cond.fieldLink own index ref (T k).2.1 (T k).2.2.1).before args s = true) (hsame : ∀ x, s.fieldFound? (T k).1 (T k).2.1 (T k).2.2.1 = some x → s.fieldFound? ref (T k).2.1 (T k).2.2.1 = some x) (hfin : (T k).2.2.2 = false) {ty : FieldType} {v : Value} (hd : parseFieldDescriptor (T k).2.2.1 = some ty) (hn : narrow ty v = v) (hfit : fits ty v = true) (hl : k < fs.length)
    (hdg : decode cc pc = .ok (.putfield index, 3)) (kk : ∀ (H1 : Heap) (locs1 : List Loc), cqz_ D q (.inr (ci, fs.set k v) :: es) H1 → va_S (fun a => q ≤ a) s.heap H1 locs1 → W p l e R s m args below meth c H1 locs1 cells slots Q (F0 m (pc + 3) ls rest)) : W p l e R s m args below meth c H locs cells slots Q (F0 m pc ls (v :: .ref q :: rest)) := by
  have hap := va_apart (own := own) hts hin ty0 hty hnm hK.1 hc
  obtain ⟨r, h1, cell, q1, q2, q3, q4⟩ := (hq.2 0 _ rfl : va_at D bc_cl (q, .inr (ci, fs)) H)
  have hr : r = (C, T, N) := Option.some.inj (h1.symm.trans hc)
  subst hr
  obtain ⟨hSs, hfc, kC, hkC, hkind⟩ := hK.1.1 ci _ hc
  obtain ⟨cf, kf, fi, f, hi, hsl⟩ := hSs k hk
  have hlay := hts _ (hin _ (u_in_lay hk))
  unfold u_lay at hlay
  rw [if_neg (by rw [hfin]; decide)] at hlay
  have hst := (u_facts hfc hkC (u_lays hts hin hk) hi).1
  have h6 := u_store hfc hkC hkind hlay hi hd hn hfit
  refine W.putK hexec hb (f := f) ⟨hown, hlink, ⟨_, _, _, hsame _ hi⟩, hst⟩ (by rw [q2]; exact h6) q1 q3 (by rw [hsl]; exact k2_hasslot (q4 k hk)) rfl rfl hdg fun H' e1 e2 e3 => ?_
  rw [hsl] at e1 ⊢
  exact kk H' _ (cqz_put hq e2 e3 ⟨_, hc, t_OB.to (V := updV (vp_V fs) k v) ⟨_, e1, q2, q3, t_set q4 hap hk v⟩ (fun j _ => vp_updV_set hl v j)⟩) (hS.put e2 e3 (Nat.le_refl q))
theorem cr_putF (hexec : p.tables.exec = Jvm.exec) (hb : c.code = cc) {own ref C : String} {T : u_T} {N ci index : Nat} (hts : ∀ w ∈ bc_W, w.before args s = true) (hin : ∀ w ∈ u_ws C T N, w ∈ bc_W) (ty0 : Nat → FieldType) (hty : ∀ k, k < N → parseFieldDescriptor (T k).2.2.1 = some (ty0 k)) (hnm : ∀ a, a < N → ∀ b, b < N → a ≠ b → (T a).2.1 ≠ (T b).2.1) (hown : s.vm.findClass own = some m.cls) (hK : ck_K D cA s) {fs : List Value} (hq : cqz_ D q (.inr (ci, fs) :: es) H) (hS : va_S (fun a => q ≤ a) s.heap H locs) (hc : bc_cl[ci]? = some (C, T, N)) (k : Nat) (hk : k < N) (hlink : (Cond.fieldLink own index ref (T k).2.1 (T k).2.2.1).before args s = true) (hsame : ∀ x, s.fieldFound? (T k).1 (T k).2.1 (T k).2.2.1 = some x → s.fieldFound? ref (T k).2.1 (T k).2.2.1 = some x) (hfin : (T k).2.2.2 = true) (hin2 : meth.name = "<init>") (hdecl : (T k).1 = own) {ty : FieldType} {v : Value} (hd : parseFieldDescriptor (T k).2.2.1 = some ty) (hn : narrow ty v = v) (hfit : fits ty v = true) (hl : k < fs.length)
    (hdg : decode cc pc = .ok (.putfield index, 3)) (kk : ∀ (H1 : Heap) (locs1 : List Loc), cqz_ D q (.inr (ci, fs.set k v) :: es) H1 → va_S (fun a => q ≤ a) s.heap H1 locs1 → W p l e R s m args below meth c H1 locs1 cells slots Q (F0 m (pc + 3) ls rest)) : W p l e R s m args below meth c H locs cells slots Q (F0 m pc ls (v :: .ref q :: rest)) := by
  have hap := va_apart (own := own) hts hin ty0 hty hnm hK.1 hc
  obtain ⟨r, h1, cell, q1, q2, q3, q4⟩ := (hq.2 0 _ rfl : va_at D bc_cl (q, .inr (ci, fs)) H)
  have hr : r = (C, T, N) := Option.some.inj (h1.symm.trans hc)
  subst hr
  obtain ⟨hSs, hfc, kC, hkC, hkind⟩ := hK.1.1 ci _ hc
  obtain ⟨cf, kf, fi, f, hi, hsl⟩ := hSs k hk
  have hlay := hts _ (hin _ (u_in_lay hk))
  unfold u_lay at hlay
  rw [if_pos hfin] at hlay
  have hst := (u_facts hfc hkC (u_lays hts hin hk) hi).1
  have hcf : m.cls = cf := by
    obtain ⟨_, _, c', _, _, _, -, -, hf', -, -, -, hown2, -⟩ := Cond.laysFinal_spec hlay
    have e1 : c' = cf := by have := hi.symm.trans hf'; simp at this; exact this.1.symm
    rw [hdecl] at hown2
    rw [← e1]; exact Option.some.inj (hown.symm.trans hown2)
  have h6 := u_fits hfc hkC hkind (Or.inr hlay) hi hd hn hfit
  refine W.putFinK hexec hb hown hlink (hsame _ hi) hst hcf hin2 (by rw [q2]; exact h6) q1 q3 (by rw [hsl]; exact k2_hasslot (q4 k hk)) rfl rfl hdg fun H' e1 e2 e3 => ?_
  rw [hsl] at e1 ⊢
  exact kk H' _ (cqz_put hq e2 e3 ⟨_, hc, t_OB.to (V := updV (vp_V fs) k v) ⟨_, e1, q2, q3, t_set q4 hap hk v⟩ (fun j _ => vp_updV_set hl v j)⟩) (hS.put e2 e3 (Nat.le_refl q))
theorem ctc_blind {q : Nat} {e0 : va_E} : FrameBlind (va_Pc [.ref q] (fun U => cqz_ D q [e0] U.heap ∧ ck_K D cA U)) := fun a U g mk h => ⟨h.1, h.2.1, ck_same (u := U) (U := U.calling g mk a) rfl h.2.2⟩
theorem cr_callN {k9 : Nat} (hlen : es.length = k9) {Y : bc_Y} {rm : Room} {e0 : va_E} {E : Nat → List va_E} {mc ms nL index : Nat} {own host : String} (hexec : p.tables.exec = Jvm.exec) (hb : c.code = cc) (hml : c.maxLocals = nL) (hown : s.vm.findClass own = some m.cls) (hts : ∀ w ∈ bc_W, w.before args s = true) (hC : ctc_ l D cA Y rm e0 E mc ms) (hcode : Cond.code Y.1 Y.2.1 (bc_nL Y) none ∈ bc_W) (hlk : Cond.methodLinkNest own index Y.1 host ∈ lw_tbl) (hini : Cond.initialized Y.1.cls ∈ bc_W) (hinst : Cond.instanceMethod Y.1 ∈ bc_W) (hy1 : Y.1.name = "<init>") (hd : Y.1.cls ≠ "java/lang/invoke/MethodHandle" ∧ Y.1.cls ≠ "java/lang/invoke/VarHandle" ∧ (parseMethodDescriptor Y.1.desc).map (fun d => d.parameters.length) = some 0) (hrc : rm.cells = mc) (hrs : rm.slots = ms) (hR : rm.frames + 1 ≤ R.frames ∧ 8 + (bc_nL Y + 11) + rm.locals ≤ R.locals)
    (hK : ck_K D cA s) (hq : cqz_ D q (es ++ [e0]) H) (hS : va_S (fun a => q ≤ a) s.heap H locs) (hls : ls.size = nL) (hrm : (rest.map fun v => v.category).sum ≤ 8) (hdg : decode cc pc = .ok (.invokespecial index, 3)) (hf : cells + mc ≤ R.cells ∧ slots + ms ≤ R.slots)
    (kk : ∀ (H1 : Heap) (locs1 : List Loc), cqz_ D q (es ++ E (q + k9)) H1 → va_S (fun a => q ≤ a) s.heap H1 locs1 → W p l e R s m args below meth c H1 locs1 (cells + mc) (slots + ms) Q (F0 m (pc + 3) ls rest)) : W p l e R s m args below meth c H locs cells slots Q (F0 m pc ls (.ref (q + k9) :: rest)) := by
  subst hlen
  have hz := hq.1
  rw [List.length_append, List.length_singleton] at hz
  refine va_callv (A0 := fun a => q ≤ a) (A1 := fun a => q + es.length ≤ a) (va_runIN (As := []) (rest := rest) (Ts := bc_W) ⟨hexec, hb, hml, hown, hts⟩ (hC (q + es.length)) ⟨va_cnB 0 hts (ctW_good hcode) rfl hrc hrs (hK.2.2.2 _ hlk rfl) (hts _ hini) hd hR, hy1, hts _ hinst⟩ ⟨ctc_blind, fun U hU hW => ⟨rfl, by rw [hU]; exact cqz_split hq, ck_warm hW hK⟩⟩ rfl rfl hls rfl (lv_room hrm) hdg hf) hS (fun a _ h => Nat.le_trans (Nat.le_add_right _ _) h) (fun a h => Nat.le_trans (Nat.le_add_right _ _) h) (fun u t H1 locs1 ht hvm _ hB hz1 hk1 hS1 => ?_)
  exact kk H1 locs1 (cqz_last hq (by rw [← ht]; exact hB) (fun a ha => hk1 a (by omega) (by omega))) hS1
theorem cr_callI {k9 : Nat} (hlen : es.length = k9) {Y : bc_Y} {rm : Room} {e0 : va_E} {E : Nat → List va_E} {mc ms nL index : Nat} {own : String} (hexec : p.tables.exec = Jvm.exec) (hb : c.code = cc) (hml : c.maxLocals = nL) (hown : s.vm.findClass own = some m.cls) (hts : ∀ w ∈ bc_W, w.before args s = true) (hC : ctc_ l D cA Y rm e0 E mc ms) (hcode : Cond.code Y.1 Y.2.1 (bc_nL Y) none ∈ bc_W) (hlk : Cond.methodLink own index Y.1 ∈ bc_W) (hini : Cond.initialized Y.1.cls ∈ bc_W) (hinst : Cond.instanceMethod Y.1 ∈ bc_W) (hy1 : Y.1.name = "<init>") (hd : Y.1.cls ≠ "java/lang/invoke/MethodHandle" ∧ Y.1.cls ≠ "java/lang/invoke/VarHandle" ∧ (parseMethodDescriptor Y.1.desc).map (fun d => d.parameters.length) = some 0) (hrc : rm.cells = mc) (hrs : rm.slots = ms) (hR : rm.frames + 1 ≤ R.frames ∧ 8 + (bc_nL Y + 11) + rm.locals ≤ R.locals)
    (hK : ck_K D cA s) (hq : cqz_ D q (es ++ [e0]) H) (hS : va_S (fun a => q ≤ a) s.heap H locs) (hls : ls.size = nL) (hrm : (rest.map fun v => v.category).sum ≤ 8) (hdg : decode cc pc = .ok (.invokespecial index, 3)) (hf : cells + mc ≤ R.cells ∧ slots + ms ≤ R.slots)
    (kk : ∀ (H1 : Heap) (locs1 : List Loc), cqz_ D q (es ++ E (q + k9)) H1 → va_S (fun a => q ≤ a) s.heap H1 locs1 → W p l e R s m args below meth c H1 locs1 (cells + mc) (slots + ms) Q (F0 m (pc + 3) ls rest)) : W p l e R s m args below meth c H locs cells slots Q (F0 m pc ls (.ref (q + k9) :: rest)) := by
  subst hlen
  have hz := hq.1
  rw [List.length_append, List.length_singleton] at hz
  refine va_callv (A0 := fun a => q ≤ a) (A1 := fun a => q + es.length ≤ a) (va_runI (As := []) (rest := rest) (Ts := bc_W) ⟨hexec, hb, hml, hown, hts⟩ (hC (q + es.length)) (cwI 0 hts (ctW_good hcode) rfl hrc hrs (hts _ hini) (hts _ hlk) (hts _ hinst) hy1 hd hR) ⟨ctc_blind, fun U hU hW => ⟨rfl, by rw [hU]; exact cqz_split hq, ck_warm hW hK⟩⟩ rfl rfl hls rfl (lv_room hrm) hdg hf) hS (fun a _ h => Nat.le_trans (Nat.le_add_right _ _) h) (fun a h => Nat.le_trans (Nat.le_add_right _ _) h) (fun u t H1 locs1 ht hvm _ hB hz1 hk1 hS1 => ?_)
  exact kk H1 locs1 (cqz_last hq (by rw [← ht]; exact hB) (fun a ha => hk1 a (by omega) (by omega))) hS1
theorem cqz_set {es : List va_E} {e1 : va_E} {k0 : Nat} {H H1 : Heap} (h : cqz_ D q es H) (hk : k0 < es.length) (hz : H1.size = H.size) (o1 : ∀ a, a ≠ q + k0 → H1[a]? = H[a]?) (hn : va_at D bc_cl (q + k0, e1) H1) : cqz_ D q (es.set k0 e1) H1 := by
  refine ⟨by rw [hz, h.1, List.length_set], fun i x hx => ?_⟩
  by_cases c : i = k0
  · subst c
    rw [List.getElem?_set_self hk] at hx
    cases hx
    exact hn
  · rw [List.getElem?_set_ne (fun q => c q.symm)] at hx
    exact (h.2 i x hx).kept (o1 (q + i) (by omega))
theorem cr_ast (hexec : p.tables.exec = Jvm.exec) (hb : c.code = cc) (hK : ck_K D cA s) (hq : cqz_ D q es H) (hS : va_S (fun a => q ≤ a) s.heap H locs) {k0 kv N : Nat} {f : Nat → Option Nat} {fs : List Value} (ha : es[k0]? = some (.inl (cA 6, N, .inr (.inr (.inr (.inr f)))))) (hv : es[kv]? = some (.inr (6, fs))) {i : Int32} (hin : vp_in i N) (hdg : decode cc pc = .ok (.aastore, 1))
    (kk : ∀ (H1 : Heap) (locs1 : List Loc), cqz_ D q (es.set k0 (.inl (cA 6, N, .inr (.inr (.inr (.inr (va_up f i.toNatClampNeg (some (q + kv))))))))) H1 → va_S (fun a => q ≤ a) s.heap H1 locs1 → W p l e R s m args below meth c H1 locs1 cells slots Q (F0 m (pc + 1) ls rest)) : W p l e R s m args below meth c H locs cells slots Q (F0 m pc ls (.ref (q + kv) :: .int i :: .ref (q + k0) :: rest)) := by
  have hlt : i.toNatClampNeg < N := Nat.not_le.mp fun q => hin (Or.inr q)
  have h0 : ¬ i < 0 := fun q => hin (Or.inl q)
  obtain ⟨r', hr', cellV, g1, g2, g3, -⟩ := (hq.2 kv _ hv : va_at D bc_cl (q + kv, .inr (6, fs)) H)
  have hcls := (hK.1.1 6 _ rfl).2
  obtain ⟨kA, comp, k1, k2, k3, -⟩ := (hK.1.2 6 _ rfl).2
  have hcomp : comp = D.1 6 := Option.some.inj (k3.symm.trans hcls.1)
  subst hcomp
  obtain ⟨kC, hkC, -⟩ := hcls.2
  have hat : H[q + k0]? = some (vp_cell (cA 6) (N, .inr (.inr (.inr (.inr f))))) := hq.2 k0 _ ha
  refine W.aast hexec hb hat (fun q h => by cases h) (fun h => by cases h) k1 k2 rfl hkC ⟨h0, by show _ < (arrV _ _ _).slots.size; rw [arrV_size]; exact hlt⟩ g1 (fun q h => by rw [g3] at h; cases h) (by rw [g2]; exact hkC) (by rw [g2]; exact va_assign hcls) rfl rfl hdg fun H1 e1 z oq => ?_
  refine kk H1 _ (cqz_set hq (List.getElem?_eq_some_iff.mp ha).1 z oq ?_) (hS.put z oq (Nat.le_add_right _ _))
  show H1[q + k0]? = some (vp_cell _ _)
  rw [e1]
  rw [vp_cell_q, vp_cell_q, arrV_store]
  congr 2
  funext j
  by_cases hj : j = i.toNatClampNeg
  · subst hj
    simp [updV, va_up, va_rf]
  · simp [updV, va_up, hj]
theorem cr_iast (hexec : p.tables.exec = Jvm.exec) (hb : c.code = cc) (hK : ck_K D cA s) (hq : cqz_ D q es H) (hS : va_S (fun a => q ≤ a) s.heap H locs) {k0 N : Nat} {f : Nat → Int32} (ha : es[k0]? = some (.inl (cA 0, N, .inl f))) {i x : Int32} (hin : vp_in i N) (hdg : decode cc pc = .ok (.iastore, 1))
    (kk : ∀ (H1 : Heap) (locs1 : List Loc), cqz_ D q (es.set k0 (.inl (cA 0, N, .inl (upd f i.toNatClampNeg x)))) H1 → va_S (fun a => q ≤ a) s.heap H1 locs1 → W p l e R s m args below meth c H1 locs1 cells slots Q (F0 m (pc + 1) ls rest)) : W p l e R s m args below meth c H locs cells slots Q (F0 m pc ls (.int x :: .int i :: .ref (q + k0) :: rest)) := by
  have hat : H[q + k0]? = some (vp_cell (cA 0) (N, .inl f)) := hq.2 k0 _ ha
  refine W.iast hexec hb hat ((hK.1.2 0 _ rfl).1 N (fun j => .int (f j))) (fun q => by cases q) (by show ¬ (i < 0 ∨ (arrV _ _ _).slots.size ≤ _); rw [arrV_size]; exact hin) rfl rfl hdg fun H1 e1 z oq => ?_
  refine kk H1 _ (cqz_set hq (List.getElem?_eq_some_iff.mp ha).1 z oq ?_) (hS.put z oq (Nat.le_add_right _ _))
  show H1[q + k0]? = some (vp_cell _ _)
  rw [e1]
  rw [vp_cell_i, vp_cell_i, arrV_store]
  congr 2
  funext j
  by_cases hj : j = i.toNatClampNeg
  · subst hj
    simp [updV, upd]
  · simp [updV, upd, hj]
end CTP
end
section
/-! the constructors, by program -/
theorem zX2_in : ∀ pc, 58 ≤ pc → pX2_init pc = none := fun _ h => by unfold pX2_init; exact bc_cut_none h
theorem dX2_0 : decode cX2_init 0 = .ok (.aload_n 0, 1) := ((bc_dec_ok kX2_init zX2_in) 0 _ _ _ rfl).1
theorem dX2_1 : decode cX2_init 1 = .ok (.invokespecial 3, 3) := ((bc_dec_ok kX2_init zX2_in) 1 _ _ _ rfl).1
theorem dX2_4 : decode cX2_init 4 = .ok (.aload_n 0, 1) := ((bc_dec_ok kX2_init zX2_in) 4 _ _ _ rfl).1
theorem dX2_5 : decode cX2_init 5 = .ok (.iconst 0, 1) := ((bc_dec_ok kX2_init zX2_in) 5 _ _ _ rfl).1
theorem dX2_6 : decode cX2_init 6 = .ok (.putfield 9, 3) := ((bc_dec_ok kX2_init zX2_in) 6 _ _ _ rfl).1
theorem dX2_9 : decode cX2_init 9 = .ok (.aload_n 0, 1) := ((bc_dec_ok kX2_init zX2_in) 9 _ _ _ rfl).1
theorem dX2_10 : decode cX2_init 10 = .ok (.bipush 16, 2) := ((bc_dec_ok kX2_init zX2_in) 10 _ _ _ rfl).1
theorem dX2_12 : decode cX2_init 12 = .ok (.newarray .int, 2) := ((bc_dec_ok kX2_init zX2_in) 12 _ _ _ rfl).1
theorem dX2_14 : decode cX2_init 14 = .ok (.putfield 15, 3) := ((bc_dec_ok kX2_init zX2_in) 14 _ _ _ rfl).1
theorem dX2_17 : decode cX2_init 17 = .ok (.aload_n 0, 1) := ((bc_dec_ok kX2_init zX2_in) 17 _ _ _ rfl).1
theorem dX2_18 : decode cX2_init 18 = .ok (.bipush 16, 2) := ((bc_dec_ok kX2_init zX2_in) 18 _ _ _ rfl).1
theorem dX2_20 : decode cX2_init 20 = .ok (.newarray .int, 2) := ((bc_dec_ok kX2_init zX2_in) 20 _ _ _ rfl).1
theorem dX2_22 : decode cX2_init 22 = .ok (.putfield 19, 3) := ((bc_dec_ok kX2_init zX2_in) 22 _ _ _ rfl).1
theorem dX2_25 : decode cX2_init 25 = .ok (.aload_n 0, 1) := ((bc_dec_ok kX2_init zX2_in) 25 _ _ _ rfl).1
theorem dX2_26 : decode cX2_init 26 = .ok (.bipush 16, 2) := ((bc_dec_ok kX2_init zX2_in) 26 _ _ _ rfl).1
theorem dX2_28 : decode cX2_init 28 = .ok (.newarray .int, 2) := ((bc_dec_ok kX2_init zX2_in) 28 _ _ _ rfl).1
theorem dX2_30 : decode cX2_init 30 = .ok (.putfield 22, 3) := ((bc_dec_ok kX2_init zX2_in) 30 _ _ _ rfl).1
theorem dX2_33 : decode cX2_init 33 = .ok (.aload_n 0, 1) := ((bc_dec_ok kX2_init zX2_in) 33 _ _ _ rfl).1
theorem dX2_34 : decode cX2_init 34 = .ok (.bipush 16, 2) := ((bc_dec_ok kX2_init zX2_in) 34 _ _ _ rfl).1
theorem dX2_36 : decode cX2_init 36 = .ok (.newarray .int, 2) := ((bc_dec_ok kX2_init zX2_in) 36 _ _ _ rfl).1
theorem dX2_38 : decode cX2_init 38 = .ok (.putfield 25, 3) := ((bc_dec_ok kX2_init zX2_in) 38 _ _ _ rfl).1
theorem dX2_41 : decode cX2_init 41 = .ok (.aload_n 0, 1) := ((bc_dec_ok kX2_init zX2_in) 41 _ _ _ rfl).1
theorem dX2_42 : decode cX2_init 42 = .ok (.bipush 16, 2) := ((bc_dec_ok kX2_init zX2_in) 42 _ _ _ rfl).1
theorem dX2_44 : decode cX2_init 44 = .ok (.newarray .int, 2) := ((bc_dec_ok kX2_init zX2_in) 44 _ _ _ rfl).1
theorem dX2_46 : decode cX2_init 46 = .ok (.putfield 28, 3) := ((bc_dec_ok kX2_init zX2_in) 46 _ _ _ rfl).1
theorem dX2_49 : decode cX2_init 49 = .ok (.aload_n 0, 1) := ((bc_dec_ok kX2_init zX2_in) 49 _ _ _ rfl).1
theorem dX2_50 : decode cX2_init 50 = .ok (.bipush 16, 2) := ((bc_dec_ok kX2_init zX2_in) 50 _ _ _ rfl).1
theorem dX2_52 : decode cX2_init 52 = .ok (.newarray .boolean, 2) := ((bc_dec_ok kX2_init zX2_in) 52 _ _ _ rfl).1
theorem dX2_54 : decode cX2_init 54 = .ok (.putfield 31, 3) := ((bc_dec_ok kX2_init zX2_in) 54 _ _ _ rfl).1
theorem dX2_57 : decode cX2_init 57 = .ok (.return_, 1) := ((bc_dec_ok kX2_init zX2_in) 57 _ _ _ rfl).1
noncomputable def E2_ (cA : Nat → ClassId) (q : Nat) : List va_E := .inr (2, [.int (Int32.ofInt 0), .ref (q + 1), .ref (q + 2), .ref (q + 3), .ref (q + 4), .ref (q + 5), .ref (q + 6)]) :: ([] ++ [.inl (cA 0, 16, .inl (fun _ => Int32.ofInt 0))] ++ [.inl (cA 0, 16, .inl (fun _ => Int32.ofInt 0))] ++ [.inl (cA 0, 16, .inl (fun _ => Int32.ofInt 0))] ++ [.inl (cA 0, 16, .inl (fun _ => Int32.ofInt 0))] ++ [.inl (cA 0, 16, .inl (fun _ => Int32.ofInt 0))] ++ [.inl (cA 2, 16, .inl (fun _ => Int32.ofInt 0))])
theorem E2_len (cA : Nat → ClassId) (q : Nat) : (E2_ cA q).length = 7 := by simp [E2_]
set_option maxHeartbeats 4000000 in
set_option maxRecDepth 100000 in
theorem ctX2 (l : Launch) (D : va_G) (cA : Nat → ClassId) : ctc_ l D cA mX2_init { frames := 2, cells := 6, slots := 96, locals := 20 } (.inr (2, [.int (Int32.ofInt 0), .null, .null, .null, .null, .null, .null])) (fun q => E2_ cA q) 6 96 := by
  intro q
  refine Met.ofW (cc := cX2_init) (maxL := 1) (ret := none) (by decide) rfl ?_
  intro p e s m args below meth c s₁ B hml hv
  obtain ⟨rfl, hq, hK⟩ := hv
  have hx := B.exec
  have hb := B.bytes
  have hr := B.returns
  have hts0 := atoms_spec (ws := ctW_ mX2_init) B.pre
  have hts : ∀ w ∈ bc_W, w.before [Value.ref q].toArray s = true := fun w hw => hts0 w (List.mem_cons_of_mem _ hw)
  have hown : s.vm.findClass RX2 = some m.cls := findClass_of_methodNamed B.named
  have hlocks := B.notSynchronized
  have hin : meth.name = "<init>" := (name_of_methodNamed B.named B.method).1
  have hS : va_S (fun a => q ≤ a) s.heap s.heap [] := va_S.rf
  have hl := lv_entry ([.ref q]) (n := 1) (Nat.le_of_ble_eq_true rfl)
  rw [lg_entry_eq]
  generalize (lg_sl ([.ref q]) ++ List.replicate (1 - (lg_sl ([.ref q])).length) Slot.unset).toArray = ls at hl ⊢
  have hl : lv_has ls 1 [(0, .ref q)] := hl
  have hq : cqz_ D q (.inr (2, [.int (Int32.ofInt 0), .null, .null, .null, .null, .null, .null]) :: []) s.heap := hq
  refine lv_aload_n hx hb dX2_0 rfl (lv_at hl 0 rfl) ?_
  refine W.objInit hx hb hown (hts (.methodLink RX2 3 objectInit) (bc_wat_ok (pos := 145) (by decide +kernel))) (hts (.instanceMethod objectInit) (bc_wat_ok (pos := 132) (by decide +kernel))) (hts _ (bc_wat_ok (pos := 133) (by decide +kernel))) rfl (by rw [hml]; exact hl.1) rfl dX2_1 (Nat.le_of_ble_eq_true rfl) (Nat.le_of_ble_eq_true rfl) ?_
  refine W.eq (g2 := F0 m 4 ls []) rfl ?_
  refine lv_aload_n hx hb dX2_4 rfl (lv_at hl 0 rfl) ?_
  refine lv_iconst (v := Int32.ofInt 0) hx hb dX2_5 (by decide) ?_
  refine cr_put (ci := 2) (C := RX2) (T := TX2) (N := 7) hx hb hts (bc_cl_ok 2 _ rfl).1 tyX2 tyX2_ok nmX2 hown hK hq hS rfl 0 (by decide) (hts (.fieldLink RX2 9 RX2 "count" "I") (bc_wat_ok (pos := 146) (by decide +kernel))) (fun _ h9 => h9) rfl (ty := .int) (by decide +kernel) rfl rfl (Nat.le_of_ble_eq_true rfl) dX2_6 (fun H locs hq hS => ?_)
  have hq : cqz_ D q (.inr (2, [.int (Int32.ofInt 0), .null, .null, .null, .null, .null, .null]) :: ([])) H := hq
  refine lv_aload_n hx hb dX2_9 rfl (lv_at hl 0 rfl) ?_
  refine lv_bipush (v := Int32.ofInt 16) hx hb dX2_10 (by decide) ?_
  refine cr_newa (atype := .int) (cI := cA 0) (n := Int32.ofInt 16) (N' := 16) (a0 := (16, .inl (fun _ => Int32.ofInt 0))) (k9 := 1) rfl hx hb (hts (.arrayClass .int) (bc_wat_ok (pos := 183) (by decide +kernel))) (hK.1.2 0 _ rfl).2 hq hS rfl (by decide) (by decide) (Nat.le_of_ble_eq_true rfl) (Nat.le_of_ble_eq_true rfl) (Nat.le_of_ble_eq_true rfl) dX2_12 (fun H hq hS => ?_)
  have hq : cqz_ D q (.inr (2, [.int (Int32.ofInt 0), .null, .null, .null, .null, .null, .null]) :: ([] ++ [.inl (cA 0, 16, .inl (fun _ => Int32.ofInt 0))])) H := hq
  refine cr_putF (ci := 2) (C := RX2) (T := TX2) (N := 7) hx hb hts (bc_cl_ok 2 _ rfl).1 tyX2 tyX2_ok nmX2 hown hK hq hS rfl 1 (by decide) (hts (.fieldLink RX2 15 RX2 "first" "[I") (bc_wat_ok (pos := 150) (by decide +kernel))) (fun _ h9 => h9) rfl hin rfl (ty := .array .int) (by decide +kernel) rfl rfl (Nat.le_of_ble_eq_true rfl) dX2_14 (fun H locs hq hS => ?_)
  have hq : cqz_ D q (.inr (2, [.int (Int32.ofInt 0), .ref (q + 1), .null, .null, .null, .null, .null]) :: ([] ++ [.inl (cA 0, 16, .inl (fun _ => Int32.ofInt 0))])) H := hq
  refine lv_aload_n hx hb dX2_17 rfl (lv_at hl 0 rfl) ?_
  refine lv_bipush (v := Int32.ofInt 16) hx hb dX2_18 (by decide) ?_
  refine cr_newa (atype := .int) (cI := cA 0) (n := Int32.ofInt 16) (N' := 16) (a0 := (16, .inl (fun _ => Int32.ofInt 0))) (k9 := 2) rfl hx hb (hts (.arrayClass .int) (bc_wat_ok (pos := 183) (by decide +kernel))) (hK.1.2 0 _ rfl).2 hq hS rfl (by decide) (by decide) (Nat.le_of_ble_eq_true rfl) (Nat.le_of_ble_eq_true rfl) (Nat.le_of_ble_eq_true rfl) dX2_20 (fun H hq hS => ?_)
  have hq : cqz_ D q (.inr (2, [.int (Int32.ofInt 0), .ref (q + 1), .null, .null, .null, .null, .null]) :: ([] ++ [.inl (cA 0, 16, .inl (fun _ => Int32.ofInt 0))] ++ [.inl (cA 0, 16, .inl (fun _ => Int32.ofInt 0))])) H := hq
  refine cr_putF (ci := 2) (C := RX2) (T := TX2) (N := 7) hx hb hts (bc_cl_ok 2 _ rfl).1 tyX2 tyX2_ok nmX2 hown hK hq hS rfl 2 (by decide) (hts (.fieldLink RX2 19 RX2 "second" "[I") (bc_wat_ok (pos := 154) (by decide +kernel))) (fun _ h9 => h9) rfl hin rfl (ty := .array .int) (by decide +kernel) rfl rfl (Nat.le_of_ble_eq_true rfl) dX2_22 (fun H locs hq hS => ?_)
  have hq : cqz_ D q (.inr (2, [.int (Int32.ofInt 0), .ref (q + 1), .ref (q + 2), .null, .null, .null, .null]) :: ([] ++ [.inl (cA 0, 16, .inl (fun _ => Int32.ofInt 0))] ++ [.inl (cA 0, 16, .inl (fun _ => Int32.ofInt 0))])) H := hq
  refine lv_aload_n hx hb dX2_25 rfl (lv_at hl 0 rfl) ?_
  refine lv_bipush (v := Int32.ofInt 16) hx hb dX2_26 (by decide) ?_
  refine cr_newa (atype := .int) (cI := cA 0) (n := Int32.ofInt 16) (N' := 16) (a0 := (16, .inl (fun _ => Int32.ofInt 0))) (k9 := 3) rfl hx hb (hts (.arrayClass .int) (bc_wat_ok (pos := 183) (by decide +kernel))) (hK.1.2 0 _ rfl).2 hq hS rfl (by decide) (by decide) (Nat.le_of_ble_eq_true rfl) (Nat.le_of_ble_eq_true rfl) (Nat.le_of_ble_eq_true rfl) dX2_28 (fun H hq hS => ?_)
  have hq : cqz_ D q (.inr (2, [.int (Int32.ofInt 0), .ref (q + 1), .ref (q + 2), .null, .null, .null, .null]) :: ([] ++ [.inl (cA 0, 16, .inl (fun _ => Int32.ofInt 0))] ++ [.inl (cA 0, 16, .inl (fun _ => Int32.ofInt 0))] ++ [.inl (cA 0, 16, .inl (fun _ => Int32.ofInt 0))])) H := hq
  refine cr_putF (ci := 2) (C := RX2) (T := TX2) (N := 7) hx hb hts (bc_cl_ok 2 _ rfl).1 tyX2 tyX2_ok nmX2 hown hK hq hS rfl 3 (by decide) (hts (.fieldLink RX2 22 RX2 "strength" "[I") (bc_wat_ok (pos := 158) (by decide +kernel))) (fun _ h9 => h9) rfl hin rfl (ty := .array .int) (by decide +kernel) rfl rfl (Nat.le_of_ble_eq_true rfl) dX2_30 (fun H locs hq hS => ?_)
  have hq : cqz_ D q (.inr (2, [.int (Int32.ofInt 0), .ref (q + 1), .ref (q + 2), .ref (q + 3), .null, .null, .null]) :: ([] ++ [.inl (cA 0, 16, .inl (fun _ => Int32.ofInt 0))] ++ [.inl (cA 0, 16, .inl (fun _ => Int32.ofInt 0))] ++ [.inl (cA 0, 16, .inl (fun _ => Int32.ofInt 0))])) H := hq
  refine lv_aload_n hx hb dX2_33 rfl (lv_at hl 0 rfl) ?_
  refine lv_bipush (v := Int32.ofInt 16) hx hb dX2_34 (by decide) ?_
  refine cr_newa (atype := .int) (cI := cA 0) (n := Int32.ofInt 16) (N' := 16) (a0 := (16, .inl (fun _ => Int32.ofInt 0))) (k9 := 4) rfl hx hb (hts (.arrayClass .int) (bc_wat_ok (pos := 183) (by decide +kernel))) (hK.1.2 0 _ rfl).2 hq hS rfl (by decide) (by decide) (Nat.le_of_ble_eq_true rfl) (Nat.le_of_ble_eq_true rfl) (Nat.le_of_ble_eq_true rfl) dX2_36 (fun H hq hS => ?_)
  have hq : cqz_ D q (.inr (2, [.int (Int32.ofInt 0), .ref (q + 1), .ref (q + 2), .ref (q + 3), .null, .null, .null]) :: ([] ++ [.inl (cA 0, 16, .inl (fun _ => Int32.ofInt 0))] ++ [.inl (cA 0, 16, .inl (fun _ => Int32.ofInt 0))] ++ [.inl (cA 0, 16, .inl (fun _ => Int32.ofInt 0))] ++ [.inl (cA 0, 16, .inl (fun _ => Int32.ofInt 0))])) H := hq
  refine cr_putF (ci := 2) (C := RX2) (T := TX2) (N := 7) hx hb hts (bc_cl_ok 2 _ rfl).1 tyX2 tyX2_ok nmX2 hown hK hq hS rfl 4 (by decide) (hts (.fieldLink RX2 25 RX2 "crack" "[I") (bc_wat_ok (pos := 161) (by decide +kernel))) (fun _ h9 => h9) rfl hin rfl (ty := .array .int) (by decide +kernel) rfl rfl (Nat.le_of_ble_eq_true rfl) dX2_38 (fun H locs hq hS => ?_)
  have hq : cqz_ D q (.inr (2, [.int (Int32.ofInt 0), .ref (q + 1), .ref (q + 2), .ref (q + 3), .ref (q + 4), .null, .null]) :: ([] ++ [.inl (cA 0, 16, .inl (fun _ => Int32.ofInt 0))] ++ [.inl (cA 0, 16, .inl (fun _ => Int32.ofInt 0))] ++ [.inl (cA 0, 16, .inl (fun _ => Int32.ofInt 0))] ++ [.inl (cA 0, 16, .inl (fun _ => Int32.ofInt 0))])) H := hq
  refine lv_aload_n hx hb dX2_41 rfl (lv_at hl 0 rfl) ?_
  refine lv_bipush (v := Int32.ofInt 16) hx hb dX2_42 (by decide) ?_
  refine cr_newa (atype := .int) (cI := cA 0) (n := Int32.ofInt 16) (N' := 16) (a0 := (16, .inl (fun _ => Int32.ofInt 0))) (k9 := 5) rfl hx hb (hts (.arrayClass .int) (bc_wat_ok (pos := 183) (by decide +kernel))) (hK.1.2 0 _ rfl).2 hq hS rfl (by decide) (by decide) (Nat.le_of_ble_eq_true rfl) (Nat.le_of_ble_eq_true rfl) (Nat.le_of_ble_eq_true rfl) dX2_44 (fun H hq hS => ?_)
  have hq : cqz_ D q (.inr (2, [.int (Int32.ofInt 0), .ref (q + 1), .ref (q + 2), .ref (q + 3), .ref (q + 4), .null, .null]) :: ([] ++ [.inl (cA 0, 16, .inl (fun _ => Int32.ofInt 0))] ++ [.inl (cA 0, 16, .inl (fun _ => Int32.ofInt 0))] ++ [.inl (cA 0, 16, .inl (fun _ => Int32.ofInt 0))] ++ [.inl (cA 0, 16, .inl (fun _ => Int32.ofInt 0))] ++ [.inl (cA 0, 16, .inl (fun _ => Int32.ofInt 0))])) H := hq
  refine cr_putF (ci := 2) (C := RX2) (T := TX2) (N := 7) hx hb hts (bc_cl_ok 2 _ rfl).1 tyX2 tyX2_ok nmX2 hown hK hq hS rfl 5 (by decide) (hts (.fieldLink RX2 28 RX2 "wear" "[I") (bc_wat_ok (pos := 163) (by decide +kernel))) (fun _ h9 => h9) rfl hin rfl (ty := .array .int) (by decide +kernel) rfl rfl (Nat.le_of_ble_eq_true rfl) dX2_46 (fun H locs hq hS => ?_)
  have hq : cqz_ D q (.inr (2, [.int (Int32.ofInt 0), .ref (q + 1), .ref (q + 2), .ref (q + 3), .ref (q + 4), .ref (q + 5), .null]) :: ([] ++ [.inl (cA 0, 16, .inl (fun _ => Int32.ofInt 0))] ++ [.inl (cA 0, 16, .inl (fun _ => Int32.ofInt 0))] ++ [.inl (cA 0, 16, .inl (fun _ => Int32.ofInt 0))] ++ [.inl (cA 0, 16, .inl (fun _ => Int32.ofInt 0))] ++ [.inl (cA 0, 16, .inl (fun _ => Int32.ofInt 0))])) H := hq
  refine lv_aload_n hx hb dX2_49 rfl (lv_at hl 0 rfl) ?_
  refine lv_bipush (v := Int32.ofInt 16) hx hb dX2_50 (by decide) ?_
  refine cr_newa (atype := .boolean) (cI := cA 2) (n := Int32.ofInt 16) (N' := 16) (a0 := (16, .inl (fun _ => Int32.ofInt 0))) (k9 := 6) rfl hx hb (hts (.arrayClass .boolean) (bc_wat_ok (pos := 184) (by decide +kernel))) (hK.1.2 2 _ rfl).2 hq hS rfl (by decide) (by decide) (Nat.le_of_ble_eq_true rfl) (Nat.le_of_ble_eq_true rfl) (Nat.le_of_ble_eq_true rfl) dX2_52 (fun H hq hS => ?_)
  have hq : cqz_ D q (.inr (2, [.int (Int32.ofInt 0), .ref (q + 1), .ref (q + 2), .ref (q + 3), .ref (q + 4), .ref (q + 5), .null]) :: ([] ++ [.inl (cA 0, 16, .inl (fun _ => Int32.ofInt 0))] ++ [.inl (cA 0, 16, .inl (fun _ => Int32.ofInt 0))] ++ [.inl (cA 0, 16, .inl (fun _ => Int32.ofInt 0))] ++ [.inl (cA 0, 16, .inl (fun _ => Int32.ofInt 0))] ++ [.inl (cA 0, 16, .inl (fun _ => Int32.ofInt 0))] ++ [.inl (cA 2, 16, .inl (fun _ => Int32.ofInt 0))])) H := hq
  refine cr_putF (ci := 2) (C := RX2) (T := TX2) (N := 7) hx hb hts (bc_cl_ok 2 _ rfl).1 tyX2 tyX2_ok nmX2 hown hK hq hS rfl 6 (by decide) (hts (.fieldLink RX2 31 RX2 "abandoned" "[Z") (bc_wat_ok (pos := 165) (by decide +kernel))) (fun _ h9 => h9) rfl hin rfl (ty := .array .boolean) (by decide +kernel) rfl rfl (Nat.le_of_ble_eq_true rfl) dX2_54 (fun H locs hq hS => ?_)
  have hq : cqz_ D q (.inr (2, [.int (Int32.ofInt 0), .ref (q + 1), .ref (q + 2), .ref (q + 3), .ref (q + 4), .ref (q + 5), .ref (q + 6)]) :: ([] ++ [.inl (cA 0, 16, .inl (fun _ => Int32.ofInt 0))] ++ [.inl (cA 0, 16, .inl (fun _ => Int32.ofInt 0))] ++ [.inl (cA 0, 16, .inl (fun _ => Int32.ofInt 0))] ++ [.inl (cA 0, 16, .inl (fun _ => Int32.ofInt 0))] ++ [.inl (cA 0, 16, .inl (fun _ => Int32.ofInt 0))] ++ [.inl (cA 2, 16, .inl (fun _ => Int32.ofInt 0))])) H := hq
  refine W.widen (k := 6) (n := 96) (Nat.le_of_ble_eq_true rfl) (Nat.le_of_ble_eq_true rfl) ?_
  exact W.vret hx hb hr (fun t ht hW => ⟨⟨(), rfl, trivial, by show cqz_ D q (E2_ cA q) t.heap; rw [ht]; exact hq⟩, hS.F ht⟩) hS.2.2 dX2_57
theorem zX3_in : ∀ pc, 18 ≤ pc → pX3_init pc = none := fun _ h => by unfold pX3_init; exact bc_cut_none h
theorem dX3_0 : decode cX3_init 0 = .ok (.aload_n 0, 1) := ((bc_dec_ok kX3_init zX3_in) 0 _ _ _ rfl).1
theorem dX3_1 : decode cX3_init 1 = .ok (.invokespecial 3, 3) := ((bc_dec_ok kX3_init zX3_in) 1 _ _ _ rfl).1
theorem dX3_4 : decode cX3_init 4 = .ok (.aload_n 0, 1) := ((bc_dec_ok kX3_init zX3_in) 4 _ _ _ rfl).1
theorem dX3_5 : decode cX3_init 5 = .ok (.bipush 99, 2) := ((bc_dec_ok kX3_init zX3_in) 5 _ _ _ rfl).1
theorem dX3_7 : decode cX3_init 7 = .ok (.putfield 9, 3) := ((bc_dec_ok kX3_init zX3_in) 7 _ _ _ rfl).1
theorem dX3_10 : decode cX3_init 10 = .ok (.aload_n 0, 1) := ((bc_dec_ok kX3_init zX3_in) 10 _ _ _ rfl).1
theorem dX3_11 : decode cX3_init 11 = .ok (.iconst 4, 1) := ((bc_dec_ok kX3_init zX3_in) 11 _ _ _ rfl).1
theorem dX3_12 : decode cX3_init 12 = .ok (.newarray .int, 2) := ((bc_dec_ok kX3_init zX3_in) 12 _ _ _ rfl).1
theorem dX3_14 : decode cX3_init 14 = .ok (.putfield 15, 3) := ((bc_dec_ok kX3_init zX3_in) 14 _ _ _ rfl).1
theorem dX3_17 : decode cX3_init 17 = .ok (.return_, 1) := ((bc_dec_ok kX3_init zX3_in) 17 _ _ _ rfl).1
noncomputable def E3_ (cA : Nat → ClassId) (q : Nat) : List va_E := .inr (3, [.int (Int32.ofInt 99), .ref (q + 1)]) :: ([] ++ [.inl (cA 0, 4, .inl (fun _ => Int32.ofInt 0))])
theorem E3_len (cA : Nat → ClassId) (q : Nat) : (E3_ cA q).length = 2 := by simp [E3_]
set_option maxHeartbeats 4000000 in
set_option maxRecDepth 100000 in
theorem ctX3 (l : Launch) (D : va_G) (cA : Nat → ClassId) : ctc_ l D cA mX3_init { frames := 2, cells := 1, slots := 4, locals := 20 } (.inr (3, [.int (Int32.ofInt 0), .null])) (fun q => E3_ cA q) 1 4 := by
  intro q
  refine Met.ofW (cc := cX3_init) (maxL := 1) (ret := none) (by decide) rfl ?_
  intro p e s m args below meth c s₁ B hml hv
  obtain ⟨rfl, hq, hK⟩ := hv
  have hx := B.exec
  have hb := B.bytes
  have hr := B.returns
  have hts0 := atoms_spec (ws := ctW_ mX3_init) B.pre
  have hts : ∀ w ∈ bc_W, w.before [Value.ref q].toArray s = true := fun w hw => hts0 w (List.mem_cons_of_mem _ hw)
  have hown : s.vm.findClass RX3 = some m.cls := findClass_of_methodNamed B.named
  have hlocks := B.notSynchronized
  have hin : meth.name = "<init>" := (name_of_methodNamed B.named B.method).1
  have hS : va_S (fun a => q ≤ a) s.heap s.heap [] := va_S.rf
  have hl := lv_entry ([.ref q]) (n := 1) (Nat.le_of_ble_eq_true rfl)
  rw [lg_entry_eq]
  generalize (lg_sl ([.ref q]) ++ List.replicate (1 - (lg_sl ([.ref q])).length) Slot.unset).toArray = ls at hl ⊢
  have hl : lv_has ls 1 [(0, .ref q)] := hl
  have hq : cqz_ D q (.inr (3, [.int (Int32.ofInt 0), .null]) :: []) s.heap := hq
  refine lv_aload_n hx hb dX3_0 rfl (lv_at hl 0 rfl) ?_
  refine W.objInit hx hb hown (hts (.methodLink RX3 3 objectInit) (bc_wat_ok (pos := 190) (by decide +kernel))) (hts (.instanceMethod objectInit) (bc_wat_ok (pos := 132) (by decide +kernel))) (hts _ (bc_wat_ok (pos := 133) (by decide +kernel))) rfl (by rw [hml]; exact hl.1) rfl dX3_1 (Nat.le_of_ble_eq_true rfl) (Nat.le_of_ble_eq_true rfl) ?_
  refine W.eq (g2 := F0 m 4 ls []) rfl ?_
  refine lv_aload_n hx hb dX3_4 rfl (lv_at hl 0 rfl) ?_
  refine lv_bipush (v := Int32.ofInt 99) hx hb dX3_5 (by decide) ?_
  refine cr_put (ci := 3) (C := RX3) (T := TX3) (N := 2) hx hb hts (bc_cl_ok 3 _ rfl).1 tyX3 tyX3_ok nmX3 hown hK hq hS rfl 0 (by decide) (hts (.fieldLink RX3 9 RX3 "kind" "C") (bc_wat_ok (pos := 191) (by decide +kernel))) (fun _ h9 => h9) rfl (ty := .char) (by decide +kernel) rfl rfl (Nat.le_of_ble_eq_true rfl) dX3_7 (fun H locs hq hS => ?_)
  have hq : cqz_ D q (.inr (3, [.int (Int32.ofInt 99), .null]) :: ([])) H := hq
  refine lv_aload_n hx hb dX3_10 rfl (lv_at hl 0 rfl) ?_
  refine lv_iconst (v := Int32.ofInt 4) hx hb dX3_11 (by decide) ?_
  refine cr_newa (atype := .int) (cI := cA 0) (n := Int32.ofInt 4) (N' := 4) (a0 := (4, .inl (fun _ => Int32.ofInt 0))) (k9 := 1) rfl hx hb (hts (.arrayClass .int) (bc_wat_ok (pos := 183) (by decide +kernel))) (hK.1.2 0 _ rfl).2 hq hS rfl (by decide) (by decide) (Nat.le_of_ble_eq_true rfl) (Nat.le_of_ble_eq_true rfl) (Nat.le_of_ble_eq_true rfl) dX3_12 (fun H hq hS => ?_)
  have hq : cqz_ D q (.inr (3, [.int (Int32.ofInt 99), .null]) :: ([] ++ [.inl (cA 0, 4, .inl (fun _ => Int32.ofInt 0))])) H := hq
  refine cr_putF (ci := 3) (C := RX3) (T := TX3) (N := 2) hx hb hts (bc_cl_ok 3 _ rfl).1 tyX3 tyX3_ok nmX3 hown hK hq hS rfl 1 (by decide) (hts (.fieldLink RX3 15 RX3 "weights" "[I") (bc_wat_ok (pos := 193) (by decide +kernel))) (fun _ h9 => h9) rfl hin rfl (ty := .array .int) (by decide +kernel) rfl rfl (Nat.le_of_ble_eq_true rfl) dX3_14 (fun H locs hq hS => ?_)
  have hq : cqz_ D q (.inr (3, [.int (Int32.ofInt 99), .ref (q + 1)]) :: ([] ++ [.inl (cA 0, 4, .inl (fun _ => Int32.ofInt 0))])) H := hq
  refine W.widen (k := 1) (n := 4) (Nat.le_of_ble_eq_true rfl) (Nat.le_of_ble_eq_true rfl) ?_
  exact W.vret hx hb hr (fun t ht hW => ⟨⟨(), rfl, trivial, by show cqz_ D q (E3_ cA q) t.heap; rw [ht]; exact hq⟩, hS.F ht⟩) hS.2.2 dX3_17
theorem zX8_in : ∀ pc, 80 ≤ pc → pX8_init pc = none := fun _ h => by unfold pX8_init; exact bc_cut_none h
theorem dX8_0 : decode cX8_init 0 = .ok (.aload_n 0, 1) := ((bc_dec_ok kX8_init zX8_in) 0 _ _ _ rfl).1
theorem dX8_1 : decode cX8_init 1 = .ok (.invokespecial 3, 3) := ((bc_dec_ok kX8_init zX8_in) 1 _ _ _ rfl).1
theorem dX8_4 : decode cX8_init 4 = .ok (.aload_n 0, 1) := ((bc_dec_ok kX8_init zX8_in) 4 _ _ _ rfl).1
theorem dX8_5 : decode cX8_init 5 = .ok (.iconst 0, 1) := ((bc_dec_ok kX8_init zX8_in) 5 _ _ _ rfl).1
theorem dX8_6 : decode cX8_init 6 = .ok (.putfield 9, 3) := ((bc_dec_ok kX8_init zX8_in) 6 _ _ _ rfl).1
theorem dX8_9 : decode cX8_init 9 = .ok (.aload_n 0, 1) := ((bc_dec_ok kX8_init zX8_in) 9 _ _ _ rfl).1
theorem dX8_10 : decode cX8_init 10 = .ok (.bipush 30, 2) := ((bc_dec_ok kX8_init zX8_in) 10 _ _ _ rfl).1
theorem dX8_12 : decode cX8_init 12 = .ok (.putfield 15, 3) := ((bc_dec_ok kX8_init zX8_in) 12 _ _ _ rfl).1
theorem dX8_15 : decode cX8_init 15 = .ok (.aload_n 0, 1) := ((bc_dec_ok kX8_init zX8_in) 15 _ _ _ rfl).1
theorem dX8_16 : decode cX8_init 16 = .ok (.iconst 5, 1) := ((bc_dec_ok kX8_init zX8_in) 16 _ _ _ rfl).1
theorem dX8_17 : decode cX8_init 17 = .ok (.putfield 18, 3) := ((bc_dec_ok kX8_init zX8_in) 17 _ _ _ rfl).1
theorem dX8_20 : decode cX8_init 20 = .ok (.aload_n 0, 1) := ((bc_dec_ok kX8_init zX8_in) 20 _ _ _ rfl).1
theorem dX8_21 : decode cX8_init 21 = .ok (.iconst 0, 1) := ((bc_dec_ok kX8_init zX8_in) 21 _ _ _ rfl).1
theorem dX8_22 : decode cX8_init 22 = .ok (.putfield 21, 3) := ((bc_dec_ok kX8_init zX8_in) 22 _ _ _ rfl).1
theorem dX8_25 : decode cX8_init 25 = .ok (.aload_n 0, 1) := ((bc_dec_ok kX8_init zX8_in) 25 _ _ _ rfl).1
theorem dX8_26 : decode cX8_init 26 = .ok (.iconst 0, 1) := ((bc_dec_ok kX8_init zX8_in) 26 _ _ _ rfl).1
theorem dX8_27 : decode cX8_init 27 = .ok (.putfield 24, 3) := ((bc_dec_ok kX8_init zX8_in) 27 _ _ _ rfl).1
theorem dX8_30 : decode cX8_init 30 = .ok (.aload_n 0, 1) := ((bc_dec_ok kX8_init zX8_in) 30 _ _ _ rfl).1
theorem dX8_31 : decode cX8_init 31 = .ok (.iconst 0, 1) := ((bc_dec_ok kX8_init zX8_in) 31 _ _ _ rfl).1
theorem dX8_32 : decode cX8_init 32 = .ok (.putfield 27, 3) := ((bc_dec_ok kX8_init zX8_in) 32 _ _ _ rfl).1
theorem dX8_35 : decode cX8_init 35 = .ok (.aload_n 0, 1) := ((bc_dec_ok kX8_init zX8_in) 35 _ _ _ rfl).1
theorem dX8_36 : decode cX8_init 36 = .ok (.iconst 0, 1) := ((bc_dec_ok kX8_init zX8_in) 36 _ _ _ rfl).1
theorem dX8_37 : decode cX8_init 37 = .ok (.putfield 30, 3) := ((bc_dec_ok kX8_init zX8_in) 37 _ _ _ rfl).1
theorem dX8_40 : decode cX8_init 40 = .ok (.aload_n 0, 1) := ((bc_dec_ok kX8_init zX8_in) 40 _ _ _ rfl).1
theorem dX8_41 : decode cX8_init 41 = .ok (.iconst 0, 1) := ((bc_dec_ok kX8_init zX8_in) 41 _ _ _ rfl).1
theorem dX8_42 : decode cX8_init 42 = .ok (.putfield 33, 3) := ((bc_dec_ok kX8_init zX8_in) 42 _ _ _ rfl).1
theorem dX8_45 : decode cX8_init 45 = .ok (.aload_n 0, 1) := ((bc_dec_ok kX8_init zX8_in) 45 _ _ _ rfl).1
theorem dX8_46 : decode cX8_init 46 = .ok (.iconst 0, 1) := ((bc_dec_ok kX8_init zX8_in) 46 _ _ _ rfl).1
theorem dX8_47 : decode cX8_init 47 = .ok (.putfield 36, 3) := ((bc_dec_ok kX8_init zX8_in) 47 _ _ _ rfl).1
theorem dX8_50 : decode cX8_init 50 = .ok (.aload_n 0, 1) := ((bc_dec_ok kX8_init zX8_in) 50 _ _ _ rfl).1
theorem dX8_51 : decode cX8_init 51 = .ok (.iconst 0, 1) := ((bc_dec_ok kX8_init zX8_in) 51 _ _ _ rfl).1
theorem dX8_52 : decode cX8_init 52 = .ok (.putfield 39, 3) := ((bc_dec_ok kX8_init zX8_in) 52 _ _ _ rfl).1
theorem dX8_55 : decode cX8_init 55 = .ok (.aload_n 0, 1) := ((bc_dec_ok kX8_init zX8_in) 55 _ _ _ rfl).1
theorem dX8_56 : decode cX8_init 56 = .ok (.bipush 8, 2) := ((bc_dec_ok kX8_init zX8_in) 56 _ _ _ rfl).1
theorem dX8_58 : decode cX8_init 58 = .ok (.newarray .int, 2) := ((bc_dec_ok kX8_init zX8_in) 58 _ _ _ rfl).1
theorem dX8_60 : decode cX8_init 60 = .ok (.putfield 42, 3) := ((bc_dec_ok kX8_init zX8_in) 60 _ _ _ rfl).1
theorem dX8_63 : decode cX8_init 63 = .ok (.aload_n 0, 1) := ((bc_dec_ok kX8_init zX8_in) 63 _ _ _ rfl).1
theorem dX8_64 : decode cX8_init 64 = .ok (.bipush 8, 2) := ((bc_dec_ok kX8_init zX8_in) 64 _ _ _ rfl).1
theorem dX8_66 : decode cX8_init 66 = .ok (.newarray .int, 2) := ((bc_dec_ok kX8_init zX8_in) 66 _ _ _ rfl).1
theorem dX8_68 : decode cX8_init 68 = .ok (.putfield 46, 3) := ((bc_dec_ok kX8_init zX8_in) 68 _ _ _ rfl).1
theorem dX8_71 : decode cX8_init 71 = .ok (.aload_n 0, 1) := ((bc_dec_ok kX8_init zX8_in) 71 _ _ _ rfl).1
theorem dX8_72 : decode cX8_init 72 = .ok (.bipush 8, 2) := ((bc_dec_ok kX8_init zX8_in) 72 _ _ _ rfl).1
theorem dX8_74 : decode cX8_init 74 = .ok (.newarray .int, 2) := ((bc_dec_ok kX8_init zX8_in) 74 _ _ _ rfl).1
theorem dX8_76 : decode cX8_init 76 = .ok (.putfield 49, 3) := ((bc_dec_ok kX8_init zX8_in) 76 _ _ _ rfl).1
theorem dX8_79 : decode cX8_init 79 = .ok (.return_, 1) := ((bc_dec_ok kX8_init zX8_in) 79 _ _ _ rfl).1
noncomputable def E8_ (cA : Nat → ClassId) (q : Nat) : List va_E := .inr (8, [.int (Int32.ofInt 0), .int (Int32.ofInt 30), .int (Int32.ofInt 5), .int (Int32.ofInt 0), .int (Int32.ofInt 0), .int (Int32.ofInt 0), .int (Int32.ofInt 0), .int (Int32.ofInt 0), .int (Int32.ofInt 0), .int (Int32.ofInt 0), .ref (q + 1), .ref (q + 2), .ref (q + 3)]) :: ([] ++ [.inl (cA 0, 8, .inl (fun _ => Int32.ofInt 0))] ++ [.inl (cA 0, 8, .inl (fun _ => Int32.ofInt 0))] ++ [.inl (cA 0, 8, .inl (fun _ => Int32.ofInt 0))])
theorem E8_len (cA : Nat → ClassId) (q : Nat) : (E8_ cA q).length = 4 := by simp [E8_]
set_option maxHeartbeats 4000000 in
set_option maxRecDepth 100000 in
theorem ctX8 (l : Launch) (D : va_G) (cA : Nat → ClassId) : ctc_ l D cA mX8_init { frames := 2, cells := 3, slots := 24, locals := 20 } (.inr (8, [.int (Int32.ofInt 0), .int (Int32.ofInt 0), .int (Int32.ofInt 0), .int (Int32.ofInt 0), .int (Int32.ofInt 0), .int (Int32.ofInt 0), .int (Int32.ofInt 0), .int (Int32.ofInt 0), .int (Int32.ofInt 0), .int (Int32.ofInt 0), .null, .null, .null])) (fun q => E8_ cA q) 3 24 := by
  intro q
  refine Met.ofW (cc := cX8_init) (maxL := 1) (ret := none) (by decide) rfl ?_
  intro p e s m args below meth c s₁ B hml hv
  obtain ⟨rfl, hq, hK⟩ := hv
  have hx := B.exec
  have hb := B.bytes
  have hr := B.returns
  have hts0 := atoms_spec (ws := ctW_ mX8_init) B.pre
  have hts : ∀ w ∈ bc_W, w.before [Value.ref q].toArray s = true := fun w hw => hts0 w (List.mem_cons_of_mem _ hw)
  have hown : s.vm.findClass RX8 = some m.cls := findClass_of_methodNamed B.named
  have hlocks := B.notSynchronized
  have hin : meth.name = "<init>" := (name_of_methodNamed B.named B.method).1
  have hS : va_S (fun a => q ≤ a) s.heap s.heap [] := va_S.rf
  have hl := lv_entry ([.ref q]) (n := 1) (Nat.le_of_ble_eq_true rfl)
  rw [lg_entry_eq]
  generalize (lg_sl ([.ref q]) ++ List.replicate (1 - (lg_sl ([.ref q])).length) Slot.unset).toArray = ls at hl ⊢
  have hl : lv_has ls 1 [(0, .ref q)] := hl
  have hq : cqz_ D q (.inr (8, [.int (Int32.ofInt 0), .int (Int32.ofInt 0), .int (Int32.ofInt 0), .int (Int32.ofInt 0), .int (Int32.ofInt 0), .int (Int32.ofInt 0), .int (Int32.ofInt 0), .int (Int32.ofInt 0), .int (Int32.ofInt 0), .int (Int32.ofInt 0), .null, .null, .null]) :: []) s.heap := hq
  refine lv_aload_n hx hb dX8_0 rfl (lv_at hl 0 rfl) ?_
  refine W.objInit hx hb hown (hts (.methodLink RX8 3 objectInit) (bc_wat_ok (pos := 205) (by decide +kernel))) (hts (.instanceMethod objectInit) (bc_wat_ok (pos := 132) (by decide +kernel))) (hts _ (bc_wat_ok (pos := 133) (by decide +kernel))) rfl (by rw [hml]; exact hl.1) rfl dX8_1 (Nat.le_of_ble_eq_true rfl) (Nat.le_of_ble_eq_true rfl) ?_
  refine W.eq (g2 := F0 m 4 ls []) rfl ?_
  refine lv_aload_n hx hb dX8_4 rfl (lv_at hl 0 rfl) ?_
  refine lv_iconst (v := Int32.ofInt 0) hx hb dX8_5 (by decide) ?_
  refine cr_put (ci := 8) (C := RX8) (T := TX8) (N := 13) hx hb hts (bc_cl_ok 8 _ rfl).1 tyX8 tyX8_ok nmX8 hown hK hq hS rfl 0 (by decide) (hts (.fieldLink RX8 9 RX8 "today" "I") (bc_wat_ok (pos := 206) (by decide +kernel))) (fun _ h9 => h9) rfl (ty := .int) (by decide +kernel) rfl rfl (Nat.le_of_ble_eq_true rfl) dX8_6 (fun H locs hq hS => ?_)
  have hq : cqz_ D q (.inr (8, [.int (Int32.ofInt 0), .int (Int32.ofInt 0), .int (Int32.ofInt 0), .int (Int32.ofInt 0), .int (Int32.ofInt 0), .int (Int32.ofInt 0), .int (Int32.ofInt 0), .int (Int32.ofInt 0), .int (Int32.ofInt 0), .int (Int32.ofInt 0), .null, .null, .null]) :: ([])) H := hq
  refine lv_aload_n hx hb dX8_9 rfl (lv_at hl 0 rfl) ?_
  refine lv_bipush (v := Int32.ofInt 30) hx hb dX8_10 (by decide) ?_
  refine cr_put (ci := 8) (C := RX8) (T := TX8) (N := 13) hx hb hts (bc_cl_ok 8 _ rfl).1 tyX8 tyX8_ok nmX8 hown hK hq hS rfl 1 (by decide) (hts (.fieldLink RX8 15 RX8 "steel" "I") (bc_wat_ok (pos := 208) (by decide +kernel))) (fun _ h9 => h9) rfl (ty := .int) (by decide +kernel) rfl rfl (Nat.le_of_ble_eq_true rfl) dX8_12 (fun H locs hq hS => ?_)
  have hq : cqz_ D q (.inr (8, [.int (Int32.ofInt 0), .int (Int32.ofInt 30), .int (Int32.ofInt 0), .int (Int32.ofInt 0), .int (Int32.ofInt 0), .int (Int32.ofInt 0), .int (Int32.ofInt 0), .int (Int32.ofInt 0), .int (Int32.ofInt 0), .int (Int32.ofInt 0), .null, .null, .null]) :: ([])) H := hq
  refine lv_aload_n hx hb dX8_15 rfl (lv_at hl 0 rfl) ?_
  refine lv_iconst (v := Int32.ofInt 5) hx hb dX8_16 (by decide) ?_
  refine cr_put (ci := 8) (C := RX8) (T := TX8) (N := 13) hx hb hts (bc_cl_ok 8 _ rfl).1 tyX8 tyX8_ok nmX8 hown hK hq hS rfl 2 (by decide) (hts (.fieldLink RX8 18 RX8 "forge" "I") (bc_wat_ok (pos := 210) (by decide +kernel))) (fun _ h9 => h9) rfl (ty := .int) (by decide +kernel) rfl rfl (Nat.le_of_ble_eq_true rfl) dX8_17 (fun H locs hq hS => ?_)
  have hq : cqz_ D q (.inr (8, [.int (Int32.ofInt 0), .int (Int32.ofInt 30), .int (Int32.ofInt 5), .int (Int32.ofInt 0), .int (Int32.ofInt 0), .int (Int32.ofInt 0), .int (Int32.ofInt 0), .int (Int32.ofInt 0), .int (Int32.ofInt 0), .int (Int32.ofInt 0), .null, .null, .null]) :: ([])) H := hq
  refine lv_aload_n hx hb dX8_20 rfl (lv_at hl 0 rfl) ?_
  refine lv_iconst (v := Int32.ofInt 0) hx hb dX8_21 (by decide) ?_
  refine cr_put (ci := 8) (C := RX8) (T := TX8) (N := 13) hx hb hts (bc_cl_ok 8 _ rfl).1 tyX8 tyX8_ok nmX8 hown hK hq hS rfl 3 (by decide) (hts (.fieldLink RX8 21 RX8 "forged" "I") (bc_wat_ok (pos := 211) (by decide +kernel))) (fun _ h9 => h9) rfl (ty := .int) (by decide +kernel) rfl rfl (Nat.le_of_ble_eq_true rfl) dX8_22 (fun H locs hq hS => ?_)
  have hq : cqz_ D q (.inr (8, [.int (Int32.ofInt 0), .int (Int32.ofInt 30), .int (Int32.ofInt 5), .int (Int32.ofInt 0), .int (Int32.ofInt 0), .int (Int32.ofInt 0), .int (Int32.ofInt 0), .int (Int32.ofInt 0), .int (Int32.ofInt 0), .int (Int32.ofInt 0), .null, .null, .null]) :: ([])) H := hq
  refine lv_aload_n hx hb dX8_25 rfl (lv_at hl 0 rfl) ?_
  refine lv_iconst (v := Int32.ofInt 0) hx hb dX8_26 (by decide) ?_
  refine cr_put (ci := 8) (C := RX8) (T := TX8) (N := 13) hx hb hts (bc_cl_ok 8 _ rfl).1 tyX8 tyX8_ok nmX8 hown hK hq hS rfl 4 (by decide) (hts (.fieldLink RX8 24 RX8 "givenForVows" "I") (bc_wat_ok (pos := 212) (by decide +kernel))) (fun _ h9 => h9) rfl (ty := .int) (by decide +kernel) rfl rfl (Nat.le_of_ble_eq_true rfl) dX8_27 (fun H locs hq hS => ?_)
  have hq : cqz_ D q (.inr (8, [.int (Int32.ofInt 0), .int (Int32.ofInt 30), .int (Int32.ofInt 5), .int (Int32.ofInt 0), .int (Int32.ofInt 0), .int (Int32.ofInt 0), .int (Int32.ofInt 0), .int (Int32.ofInt 0), .int (Int32.ofInt 0), .int (Int32.ofInt 0), .null, .null, .null]) :: ([])) H := hq
  refine lv_aload_n hx hb dX8_30 rfl (lv_at hl 0 rfl) ?_
  refine lv_iconst (v := Int32.ofInt 0) hx hb dX8_31 (by decide) ?_
  refine cr_put (ci := 8) (C := RX8) (T := TX8) (N := 13) hx hb hts (bc_cl_ok 8 _ rfl).1 tyX8 tyX8_ok nmX8 hown hK hq hS rfl 5 (by decide) (hts (.fieldLink RX8 27 RX8 "givenForRepairs" "I") (bc_wat_ok (pos := 213) (by decide +kernel))) (fun _ h9 => h9) rfl (ty := .int) (by decide +kernel) rfl rfl (Nat.le_of_ble_eq_true rfl) dX8_32 (fun H locs hq hS => ?_)
  have hq : cqz_ D q (.inr (8, [.int (Int32.ofInt 0), .int (Int32.ofInt 30), .int (Int32.ofInt 5), .int (Int32.ofInt 0), .int (Int32.ofInt 0), .int (Int32.ofInt 0), .int (Int32.ofInt 0), .int (Int32.ofInt 0), .int (Int32.ofInt 0), .int (Int32.ofInt 0), .null, .null, .null]) :: ([])) H := hq
  refine lv_aload_n hx hb dX8_35 rfl (lv_at hl 0 rfl) ?_
  refine lv_iconst (v := Int32.ofInt 0) hx hb dX8_36 (by decide) ?_
  refine cr_put (ci := 8) (C := RX8) (T := TX8) (N := 13) hx hb hts (bc_cl_ok 8 _ rfl).1 tyX8 tyX8_ok nmX8 hown hK hq hS rfl 6 (by decide) (hts (.fieldLink RX8 30 RX8 "kept" "I") (bc_wat_ok (pos := 214) (by decide +kernel))) (fun _ h9 => h9) rfl (ty := .int) (by decide +kernel) rfl rfl (Nat.le_of_ble_eq_true rfl) dX8_37 (fun H locs hq hS => ?_)
  have hq : cqz_ D q (.inr (8, [.int (Int32.ofInt 0), .int (Int32.ofInt 30), .int (Int32.ofInt 5), .int (Int32.ofInt 0), .int (Int32.ofInt 0), .int (Int32.ofInt 0), .int (Int32.ofInt 0), .int (Int32.ofInt 0), .int (Int32.ofInt 0), .int (Int32.ofInt 0), .null, .null, .null]) :: ([])) H := hq
  refine lv_aload_n hx hb dX8_40 rfl (lv_at hl 0 rfl) ?_
  refine lv_iconst (v := Int32.ofInt 0) hx hb dX8_41 (by decide) ?_
  refine cr_put (ci := 8) (C := RX8) (T := TX8) (N := 13) hx hb hts (bc_cl_ok 8 _ rfl).1 tyX8 tyX8_ok nmX8 hown hK hq hS rfl 7 (by decide) (hts (.fieldLink RX8 33 RX8 "broken" "I") (bc_wat_ok (pos := 216) (by decide +kernel))) (fun _ h9 => h9) rfl (ty := .int) (by decide +kernel) rfl rfl (Nat.le_of_ble_eq_true rfl) dX8_42 (fun H locs hq hS => ?_)
  have hq : cqz_ D q (.inr (8, [.int (Int32.ofInt 0), .int (Int32.ofInt 30), .int (Int32.ofInt 5), .int (Int32.ofInt 0), .int (Int32.ofInt 0), .int (Int32.ofInt 0), .int (Int32.ofInt 0), .int (Int32.ofInt 0), .int (Int32.ofInt 0), .int (Int32.ofInt 0), .null, .null, .null]) :: ([])) H := hq
  refine lv_aload_n hx hb dX8_45 rfl (lv_at hl 0 rfl) ?_
  refine lv_iconst (v := Int32.ofInt 0) hx hb dX8_46 (by decide) ?_
  refine cr_put (ci := 8) (C := RX8) (T := TX8) (N := 13) hx hb hts (bc_cl_ok 8 _ rfl).1 tyX8 tyX8_ok nmX8 hown hK hq hS rfl 8 (by decide) (hts (.fieldLink RX8 36 RX8 "nextId" "I") (bc_wat_ok (pos := 218) (by decide +kernel))) (fun _ h9 => h9) rfl (ty := .int) (by decide +kernel) rfl rfl (Nat.le_of_ble_eq_true rfl) dX8_47 (fun H locs hq hS => ?_)
  have hq : cqz_ D q (.inr (8, [.int (Int32.ofInt 0), .int (Int32.ofInt 30), .int (Int32.ofInt 5), .int (Int32.ofInt 0), .int (Int32.ofInt 0), .int (Int32.ofInt 0), .int (Int32.ofInt 0), .int (Int32.ofInt 0), .int (Int32.ofInt 0), .int (Int32.ofInt 0), .null, .null, .null]) :: ([])) H := hq
  refine lv_aload_n hx hb dX8_50 rfl (lv_at hl 0 rfl) ?_
  refine lv_iconst (v := Int32.ofInt 0) hx hb dX8_51 (by decide) ?_
  refine cr_put (ci := 8) (C := RX8) (T := TX8) (N := 13) hx hb hts (bc_cl_ok 8 _ rfl).1 tyX8 tyX8_ok nmX8 hown hK hq hS rfl 9 (by decide) (hts (.fieldLink RX8 39 RX8 "waiting" "I") (bc_wat_ok (pos := 219) (by decide +kernel))) (fun _ h9 => h9) rfl (ty := .int) (by decide +kernel) rfl rfl (Nat.le_of_ble_eq_true rfl) dX8_52 (fun H locs hq hS => ?_)
  have hq : cqz_ D q (.inr (8, [.int (Int32.ofInt 0), .int (Int32.ofInt 30), .int (Int32.ofInt 5), .int (Int32.ofInt 0), .int (Int32.ofInt 0), .int (Int32.ofInt 0), .int (Int32.ofInt 0), .int (Int32.ofInt 0), .int (Int32.ofInt 0), .int (Int32.ofInt 0), .null, .null, .null]) :: ([])) H := hq
  refine lv_aload_n hx hb dX8_55 rfl (lv_at hl 0 rfl) ?_
  refine lv_bipush (v := Int32.ofInt 8) hx hb dX8_56 (by decide) ?_
  refine cr_newa (atype := .int) (cI := cA 0) (n := Int32.ofInt 8) (N' := 8) (a0 := (8, .inl (fun _ => Int32.ofInt 0))) (k9 := 1) rfl hx hb (hts (.arrayClass .int) (bc_wat_ok (pos := 183) (by decide +kernel))) (hK.1.2 0 _ rfl).2 hq hS rfl (by decide) (by decide) (Nat.le_of_ble_eq_true rfl) (Nat.le_of_ble_eq_true rfl) (Nat.le_of_ble_eq_true rfl) dX8_58 (fun H hq hS => ?_)
  have hq : cqz_ D q (.inr (8, [.int (Int32.ofInt 0), .int (Int32.ofInt 30), .int (Int32.ofInt 5), .int (Int32.ofInt 0), .int (Int32.ofInt 0), .int (Int32.ofInt 0), .int (Int32.ofInt 0), .int (Int32.ofInt 0), .int (Int32.ofInt 0), .int (Int32.ofInt 0), .null, .null, .null]) :: ([] ++ [.inl (cA 0, 8, .inl (fun _ => Int32.ofInt 0))])) H := hq
  refine cr_putF (ci := 8) (C := RX8) (T := TX8) (N := 13) hx hb hts (bc_cl_ok 8 _ rfl).1 tyX8 tyX8_ok nmX8 hown hK hq hS rfl 10 (by decide) (hts (.fieldLink RX8 42 RX8 "ids" "[I") (bc_wat_ok (pos := 221) (by decide +kernel))) (fun _ h9 => h9) rfl hin rfl (ty := .array .int) (by decide +kernel) rfl rfl (Nat.le_of_ble_eq_true rfl) dX8_60 (fun H locs hq hS => ?_)
  have hq : cqz_ D q (.inr (8, [.int (Int32.ofInt 0), .int (Int32.ofInt 30), .int (Int32.ofInt 5), .int (Int32.ofInt 0), .int (Int32.ofInt 0), .int (Int32.ofInt 0), .int (Int32.ofInt 0), .int (Int32.ofInt 0), .int (Int32.ofInt 0), .int (Int32.ofInt 0), .ref (q + 1), .null, .null]) :: ([] ++ [.inl (cA 0, 8, .inl (fun _ => Int32.ofInt 0))])) H := hq
  refine lv_aload_n hx hb dX8_63 rfl (lv_at hl 0 rfl) ?_
  refine lv_bipush (v := Int32.ofInt 8) hx hb dX8_64 (by decide) ?_
  refine cr_newa (atype := .int) (cI := cA 0) (n := Int32.ofInt 8) (N' := 8) (a0 := (8, .inl (fun _ => Int32.ofInt 0))) (k9 := 2) rfl hx hb (hts (.arrayClass .int) (bc_wat_ok (pos := 183) (by decide +kernel))) (hK.1.2 0 _ rfl).2 hq hS rfl (by decide) (by decide) (Nat.le_of_ble_eq_true rfl) (Nat.le_of_ble_eq_true rfl) (Nat.le_of_ble_eq_true rfl) dX8_66 (fun H hq hS => ?_)
  have hq : cqz_ D q (.inr (8, [.int (Int32.ofInt 0), .int (Int32.ofInt 30), .int (Int32.ofInt 5), .int (Int32.ofInt 0), .int (Int32.ofInt 0), .int (Int32.ofInt 0), .int (Int32.ofInt 0), .int (Int32.ofInt 0), .int (Int32.ofInt 0), .int (Int32.ofInt 0), .ref (q + 1), .null, .null]) :: ([] ++ [.inl (cA 0, 8, .inl (fun _ => Int32.ofInt 0))] ++ [.inl (cA 0, 8, .inl (fun _ => Int32.ofInt 0))])) H := hq
  refine cr_putF (ci := 8) (C := RX8) (T := TX8) (N := 13) hx hb hts (bc_cl_ok 8 _ rfl).1 tyX8 tyX8_ok nmX8 hown hK hq hS rfl 11 (by decide) (hts (.fieldLink RX8 46 RX8 "dueDays" "[I") (bc_wat_ok (pos := 223) (by decide +kernel))) (fun _ h9 => h9) rfl hin rfl (ty := .array .int) (by decide +kernel) rfl rfl (Nat.le_of_ble_eq_true rfl) dX8_68 (fun H locs hq hS => ?_)
  have hq : cqz_ D q (.inr (8, [.int (Int32.ofInt 0), .int (Int32.ofInt 30), .int (Int32.ofInt 5), .int (Int32.ofInt 0), .int (Int32.ofInt 0), .int (Int32.ofInt 0), .int (Int32.ofInt 0), .int (Int32.ofInt 0), .int (Int32.ofInt 0), .int (Int32.ofInt 0), .ref (q + 1), .ref (q + 2), .null]) :: ([] ++ [.inl (cA 0, 8, .inl (fun _ => Int32.ofInt 0))] ++ [.inl (cA 0, 8, .inl (fun _ => Int32.ofInt 0))])) H := hq
  refine lv_aload_n hx hb dX8_71 rfl (lv_at hl 0 rfl) ?_
  refine lv_bipush (v := Int32.ofInt 8) hx hb dX8_72 (by decide) ?_
  refine cr_newa (atype := .int) (cI := cA 0) (n := Int32.ofInt 8) (N' := 8) (a0 := (8, .inl (fun _ => Int32.ofInt 0))) (k9 := 3) rfl hx hb (hts (.arrayClass .int) (bc_wat_ok (pos := 183) (by decide +kernel))) (hK.1.2 0 _ rfl).2 hq hS rfl (by decide) (by decide) (Nat.le_of_ble_eq_true rfl) (Nat.le_of_ble_eq_true rfl) (Nat.le_of_ble_eq_true rfl) dX8_74 (fun H hq hS => ?_)
  have hq : cqz_ D q (.inr (8, [.int (Int32.ofInt 0), .int (Int32.ofInt 30), .int (Int32.ofInt 5), .int (Int32.ofInt 0), .int (Int32.ofInt 0), .int (Int32.ofInt 0), .int (Int32.ofInt 0), .int (Int32.ofInt 0), .int (Int32.ofInt 0), .int (Int32.ofInt 0), .ref (q + 1), .ref (q + 2), .null]) :: ([] ++ [.inl (cA 0, 8, .inl (fun _ => Int32.ofInt 0))] ++ [.inl (cA 0, 8, .inl (fun _ => Int32.ofInt 0))] ++ [.inl (cA 0, 8, .inl (fun _ => Int32.ofInt 0))])) H := hq
  refine cr_putF (ci := 8) (C := RX8) (T := TX8) (N := 13) hx hb hts (bc_cl_ok 8 _ rfl).1 tyX8 tyX8_ok nmX8 hown hK hq hS rfl 12 (by decide) (hts (.fieldLink RX8 49 RX8 "amounts" "[I") (bc_wat_ok (pos := 225) (by decide +kernel))) (fun _ h9 => h9) rfl hin rfl (ty := .array .int) (by decide +kernel) rfl rfl (Nat.le_of_ble_eq_true rfl) dX8_76 (fun H locs hq hS => ?_)
  have hq : cqz_ D q (.inr (8, [.int (Int32.ofInt 0), .int (Int32.ofInt 30), .int (Int32.ofInt 5), .int (Int32.ofInt 0), .int (Int32.ofInt 0), .int (Int32.ofInt 0), .int (Int32.ofInt 0), .int (Int32.ofInt 0), .int (Int32.ofInt 0), .int (Int32.ofInt 0), .ref (q + 1), .ref (q + 2), .ref (q + 3)]) :: ([] ++ [.inl (cA 0, 8, .inl (fun _ => Int32.ofInt 0))] ++ [.inl (cA 0, 8, .inl (fun _ => Int32.ofInt 0))] ++ [.inl (cA 0, 8, .inl (fun _ => Int32.ofInt 0))])) H := hq
  refine W.widen (k := 3) (n := 24) (Nat.le_of_ble_eq_true rfl) (Nat.le_of_ble_eq_true rfl) ?_
  exact W.vret hx hb hr (fun t ht hW => ⟨⟨(), rfl, trivial, by show cqz_ D q (E8_ cA q) t.heap; rw [ht]; exact hq⟩, hS.F ht⟩) hS.2.2 dX8_79
theorem zX6_in : ∀ pc, 38 ≤ pc → pX6_init pc = none := fun _ h => by unfold pX6_init; exact bc_cut_none h
theorem dX6_0 : decode cX6_init 0 = .ok (.aload_n 0, 1) := ((bc_dec_ok kX6_init zX6_in) 0 _ _ _ rfl).1
theorem dX6_1 : decode cX6_init 1 = .ok (.invokespecial 1, 3) := ((bc_dec_ok kX6_init zX6_in) 1 _ _ _ rfl).1
theorem dX6_4 : decode cX6_init 4 = .ok (.aload_n 0, 1) := ((bc_dec_ok kX6_init zX6_in) 4 _ _ _ rfl).1
theorem dX6_5 : decode cX6_init 5 = .ok (.new 7, 3) := ((bc_dec_ok kX6_init zX6_in) 5 _ _ _ rfl).1
theorem dX6_8 : decode cX6_init 8 = .ok (.dup, 1) := ((bc_dec_ok kX6_init zX6_in) 8 _ _ _ rfl).1
theorem dX6_9 : decode cX6_init 9 = .ok (.invokespecial 9, 3) := ((bc_dec_ok kX6_init zX6_in) 9 _ _ _ rfl).1
theorem dX6_12 : decode cX6_init 12 = .ok (.putfield 10, 3) := ((bc_dec_ok kX6_init zX6_in) 12 _ _ _ rfl).1
theorem dX6_15 : decode cX6_init 15 = .ok (.aload_n 0, 1) := ((bc_dec_ok kX6_init zX6_in) 15 _ _ _ rfl).1
theorem dX6_16 : decode cX6_init 16 = .ok (.new 16, 3) := ((bc_dec_ok kX6_init zX6_in) 16 _ _ _ rfl).1
theorem dX6_19 : decode cX6_init 19 = .ok (.dup, 1) := ((bc_dec_ok kX6_init zX6_in) 19 _ _ _ rfl).1
theorem dX6_20 : decode cX6_init 20 = .ok (.invokespecial 18, 3) := ((bc_dec_ok kX6_init zX6_in) 20 _ _ _ rfl).1
theorem dX6_23 : decode cX6_init 23 = .ok (.putfield 19, 3) := ((bc_dec_ok kX6_init zX6_in) 23 _ _ _ rfl).1
theorem dX6_26 : decode cX6_init 26 = .ok (.aload_n 0, 1) := ((bc_dec_ok kX6_init zX6_in) 26 _ _ _ rfl).1
theorem dX6_27 : decode cX6_init 27 = .ok (.new 23, 3) := ((bc_dec_ok kX6_init zX6_in) 27 _ _ _ rfl).1
theorem dX6_30 : decode cX6_init 30 = .ok (.dup, 1) := ((bc_dec_ok kX6_init zX6_in) 30 _ _ _ rfl).1
theorem dX6_31 : decode cX6_init 31 = .ok (.invokespecial 25, 3) := ((bc_dec_ok kX6_init zX6_in) 31 _ _ _ rfl).1
theorem dX6_34 : decode cX6_init 34 = .ok (.putfield 26, 3) := ((bc_dec_ok kX6_init zX6_in) 34 _ _ _ rfl).1
theorem dX6_37 : decode cX6_init 37 = .ok (.return_, 1) := ((bc_dec_ok kX6_init zX6_in) 37 _ _ _ rfl).1
noncomputable def E6_ (cA : Nat → ClassId) (q : Nat) : List va_E := .inr (6, [.ref (q + 1), .ref (q + 8), .ref (q + 10)]) :: ([] ++ E2_ cA (q + 1) ++ E3_ cA (q + 8) ++ E8_ cA (q + 10))
theorem E6_len (cA : Nat → ClassId) (q : Nat) : (E6_ cA q).length = 14 := by simp [E6_, E2_len, E3_len, E8_len]
set_option maxHeartbeats 4000000 in
set_option maxRecDepth 100000 in
theorem ctX6 (l : Launch) (D : va_G) (cA : Nat → ClassId) : ctc_ l D cA mX6_init { frames := 4, cells := 13, slots := 146, locals := 60 } (.inr (6, [.null, .null, .null])) (fun q => E6_ cA q) 13 146 := by
  intro q
  refine Met.ofW (cc := cX6_init) (maxL := 1) (ret := none) (by decide) rfl ?_
  intro p e s m args below meth c s₁ B hml hv
  obtain ⟨rfl, hq, hK⟩ := hv
  have hx := B.exec
  have hb := B.bytes
  have hr := B.returns
  have hts0 := atoms_spec (ws := ctW_ mX6_init) B.pre
  have hts : ∀ w ∈ bc_W, w.before [Value.ref q].toArray s = true := fun w hw => hts0 w (List.mem_cons_of_mem _ hw)
  have hown : s.vm.findClass RX6 = some m.cls := findClass_of_methodNamed B.named
  have hlocks := B.notSynchronized
  have hin : meth.name = "<init>" := (name_of_methodNamed B.named B.method).1
  have hS : va_S (fun a => q ≤ a) s.heap s.heap [] := va_S.rf
  have hl := lv_entry ([.ref q]) (n := 1) (Nat.le_of_ble_eq_true rfl)
  rw [lg_entry_eq]
  generalize (lg_sl ([.ref q]) ++ List.replicate (1 - (lg_sl ([.ref q])).length) Slot.unset).toArray = ls at hl ⊢
  have hl : lv_has ls 1 [(0, .ref q)] := hl
  have hq : cqz_ D q (.inr (6, [.null, .null, .null]) :: []) s.heap := hq
  refine lv_aload_n hx hb dX6_0 rfl (lv_at hl 0 rfl) ?_
  refine W.objInit hx hb hown (hts (.methodLink RX6 1 objectInit) (bc_wat_ok (pos := 139) (by decide +kernel))) (hts (.instanceMethod objectInit) (bc_wat_ok (pos := 132) (by decide +kernel))) (hts _ (bc_wat_ok (pos := 133) (by decide +kernel))) rfl (by rw [hml]; exact hl.1) rfl dX6_1 (Nat.le_of_ble_eq_true rfl) (Nat.le_of_ble_eq_true rfl) ?_
  refine W.eq (g2 := F0 m 4 ls []) rfl ?_
  refine lv_aload_n hx hb dX6_4 rfl (lv_at hl 0 rfl) ?_
  refine cr_new (ci := 2) (fs := [.int (Int32.ofInt 0), .null, .null, .null, .null, .null, .null]) (C := RX2) (T := TX2) (N := 7) (k9 := 1) rfl hx hb hts (bc_cl_ok 2 _ rfl).1 tyX2 tyX2_ok hown (hts (.classLink RX6 7 RX2) (bc_wat_ok (pos := 140) (by decide +kernel))) (hts (.instantiable RX2 7) (bc_wat_ok (pos := 141) (by decide +kernel))) (hts (.initialized RX2) (bc_wat_ok (pos := 98) (by decide +kernel))) hK hq hS rfl (fun j hj => by rcases (show j = 0 ∨ j = 1 ∨ j = 2 ∨ j = 3 ∨ j = 4 ∨ j = 5 ∨ j = 6 by omega) with rfl | rfl | rfl | rfl | rfl | rfl | rfl <;> rfl) (Nat.le_of_ble_eq_true rfl) (Nat.le_of_ble_eq_true rfl) dX6_5 (fun H hq hS => ?_)
  refine lv_dup hx hb dX6_8 rfl ?_
  refine cr_callN (host := "BridgeChapel") (Y := mX2_init) (rm := { frames := 2, cells := 6, slots := 96, locals := 20 }) (es := .inr (6, [.null, .null, .null]) :: ([])) (k9 := 1) rfl hx hb hml hown hts (ctX2 l D cA) (bc_mem_W (bc_tk1 (List.mem_of_getElem? (i := 49) rfl)) rfl) (bc_watN_ok (pos := 142) (by decide +kernel)) (bc_wat_ok (pos := 98) (by decide +kernel)) (bc_wat_ok (pos := 143) (by decide +kernel)) rfl (by decide +kernel) rfl rfl ⟨Nat.le_of_ble_eq_true rfl, Nat.le_of_ble_eq_true rfl⟩ hK hq hS hl.1 (Nat.le_of_ble_eq_true rfl) dX6_9 ⟨Nat.le_of_ble_eq_true rfl, Nat.le_of_ble_eq_true rfl⟩ (fun H locs hq hS => ?_)
  have hq : cqz_ D q (.inr (6, [.null, .null, .null]) :: ([] ++ E2_ cA (q + 1))) H := hq
  refine cr_putF (ci := 6) (C := RX6) (T := TX6) (N := 3) hx hb hts (bc_cl_ok 6 _ rfl).1 tyX6 tyX6_ok nmX6 hown hK hq hS rfl 0 (by decide) (hts (.fieldLink RX6 10 RX6 "members" "LBridgeChapel$Members;") (bc_wat_ok (pos := 254) (by decide +kernel))) (fun _ h9 => h9) rfl hin rfl (ty := .object "BridgeChapel$Members") (by decide +kernel) rfl rfl (Nat.le_of_ble_eq_true rfl) dX6_12 (fun H locs hq hS => ?_)
  have hq : cqz_ D q (.inr (6, [.ref (q + 1), .null, .null]) :: ([] ++ E2_ cA (q + 1))) H := hq
  refine lv_aload_n hx hb dX6_15 rfl (lv_at hl 0 rfl) ?_
  refine cr_new (ci := 3) (fs := [.int (Int32.ofInt 0), .null]) (C := RX3) (T := TX3) (N := 2) (k9 := 8) (by simp [E2_len]) hx hb hts (bc_cl_ok 3 _ rfl).1 tyX3 tyX3_ok hown (hts (.classLink RX6 16 RX3) (bc_wat_ok (pos := 185) (by decide +kernel))) (hts (.instantiable RX3 2) (bc_wat_ok (pos := 186) (by decide +kernel))) (hts (.initialized RX3) (bc_wat_ok (pos := 99) (by decide +kernel))) hK hq hS rfl (fun j hj => by rcases (show j = 0 ∨ j = 1 by omega) with rfl | rfl <;> rfl) (Nat.le_of_ble_eq_true rfl) (Nat.le_of_ble_eq_true rfl) dX6_16 (fun H hq hS => ?_)
  refine lv_dup hx hb dX6_19 rfl ?_
  refine cr_callN (host := "BridgeChapel") (Y := mX3_init) (rm := { frames := 2, cells := 1, slots := 4, locals := 20 }) (es := .inr (6, [.ref (q + 1), .null, .null]) :: ([] ++ E2_ cA (q + 1))) (k9 := 8) (by simp [E2_len]) hx hb hml hown hts (ctX3 l D cA) (bc_mem_W (bc_tk1 (List.mem_of_getElem? (i := 94) rfl)) rfl) (bc_watN_ok (pos := 187) (by decide +kernel)) (bc_wat_ok (pos := 99) (by decide +kernel)) (bc_wat_ok (pos := 188) (by decide +kernel)) rfl (by decide +kernel) rfl rfl ⟨Nat.le_of_ble_eq_true rfl, Nat.le_of_ble_eq_true rfl⟩ hK hq hS hl.1 (Nat.le_of_ble_eq_true rfl) dX6_20 ⟨Nat.le_of_ble_eq_true rfl, Nat.le_of_ble_eq_true rfl⟩ (fun H locs hq hS => ?_)
  have hq : cqz_ D q (.inr (6, [.ref (q + 1), .null, .null]) :: ([] ++ E2_ cA (q + 1) ++ E3_ cA (q + 8))) H := hq
  refine cr_putF (ci := 6) (C := RX6) (T := TX6) (N := 3) hx hb hts (bc_cl_ok 6 _ rfl).1 tyX6 tyX6_ok nmX6 hown hK hq hS rfl 1 (by decide) (hts (.fieldLink RX6 19 RX6 "niche" "LBridgeChapel$Niche;") (bc_wat_ok (pos := 256) (by decide +kernel))) (fun _ h9 => h9) rfl hin rfl (ty := .object "BridgeChapel$Niche") (by decide +kernel) rfl rfl (Nat.le_of_ble_eq_true rfl) dX6_23 (fun H locs hq hS => ?_)
  have hq : cqz_ D q (.inr (6, [.ref (q + 1), .ref (q + 8), .null]) :: ([] ++ E2_ cA (q + 1) ++ E3_ cA (q + 8))) H := hq
  refine lv_aload_n hx hb dX6_26 rfl (lv_at hl 0 rfl) ?_
  refine cr_new (ci := 8) (fs := [.int (Int32.ofInt 0), .int (Int32.ofInt 0), .int (Int32.ofInt 0), .int (Int32.ofInt 0), .int (Int32.ofInt 0), .int (Int32.ofInt 0), .int (Int32.ofInt 0), .int (Int32.ofInt 0), .int (Int32.ofInt 0), .int (Int32.ofInt 0), .null, .null, .null]) (C := RX8) (T := TX8) (N := 13) (k9 := 10) (by simp [E2_len, E3_len]) hx hb hts (bc_cl_ok 8 _ rfl).1 tyX8 tyX8_ok hown (hts (.classLink RX6 23 RX8) (bc_wat_ok (pos := 200) (by decide +kernel))) (hts (.instantiable RX8 13) (bc_wat_ok (pos := 201) (by decide +kernel))) (hts (.initialized RX8) (bc_wat_ok (pos := 100) (by decide +kernel))) hK hq hS rfl (fun j hj => by rcases (show j = 0 ∨ j = 1 ∨ j = 2 ∨ j = 3 ∨ j = 4 ∨ j = 5 ∨ j = 6 ∨ j = 7 ∨ j = 8 ∨ j = 9 ∨ j = 10 ∨ j = 11 ∨ j = 12 by omega) with rfl | rfl | rfl | rfl | rfl | rfl | rfl | rfl | rfl | rfl | rfl | rfl | rfl <;> rfl) (Nat.le_of_ble_eq_true rfl) (Nat.le_of_ble_eq_true rfl) dX6_27 (fun H hq hS => ?_)
  refine lv_dup hx hb dX6_30 rfl ?_
  refine cr_callN (host := "BridgeChapel") (Y := mX8_init) (rm := { frames := 2, cells := 3, slots := 24, locals := 20 }) (es := .inr (6, [.ref (q + 1), .ref (q + 8), .null]) :: ([] ++ E2_ cA (q + 1) ++ E3_ cA (q + 8))) (k9 := 10) (by simp [E2_len, E3_len]) hx hb hml hown hts (ctX8 l D cA) (bc_mem_W (bc_tk1 (List.mem_of_getElem? (i := 109) rfl)) rfl) (bc_watN_ok (pos := 202) (by decide +kernel)) (bc_wat_ok (pos := 100) (by decide +kernel)) (bc_wat_ok (pos := 203) (by decide +kernel)) rfl (by decide +kernel) rfl rfl ⟨Nat.le_of_ble_eq_true rfl, Nat.le_of_ble_eq_true rfl⟩ hK hq hS hl.1 (Nat.le_of_ble_eq_true rfl) dX6_31 ⟨Nat.le_of_ble_eq_true rfl, Nat.le_of_ble_eq_true rfl⟩ (fun H locs hq hS => ?_)
  have hq : cqz_ D q (.inr (6, [.ref (q + 1), .ref (q + 8), .null]) :: ([] ++ E2_ cA (q + 1) ++ E3_ cA (q + 8) ++ E8_ cA (q + 10))) H := hq
  refine cr_putF (ci := 6) (C := RX6) (T := TX6) (N := 3) hx hb hts (bc_cl_ok 6 _ rfl).1 tyX6 tyX6_ok nmX6 hown hK hq hS rfl 2 (by decide) (hts (.fieldLink RX6 26 RX6 "treasury" "LBridgeChapel$Treasury;") (bc_wat_ok (pos := 258) (by decide +kernel))) (fun _ h9 => h9) rfl hin rfl (ty := .object "BridgeChapel$Treasury") (by decide +kernel) rfl rfl (Nat.le_of_ble_eq_true rfl) dX6_34 (fun H locs hq hS => ?_)
  have hq : cqz_ D q (.inr (6, [.ref (q + 1), .ref (q + 8), .ref (q + 10)]) :: ([] ++ E2_ cA (q + 1) ++ E3_ cA (q + 8) ++ E8_ cA (q + 10))) H := hq
  refine W.widen (k := 13) (n := 146) (Nat.le_of_ble_eq_true rfl) (Nat.le_of_ble_eq_true rfl) ?_
  exact W.vret hx hb hr (fun t ht hW => ⟨⟨(), rfl, trivial, by show cqz_ D q (E6_ cA q) t.heap; rw [ht]; exact hq⟩, hS.F ht⟩) hS.2.2 dX6_37
theorem zX7_in : ∀ pc, 18 ≤ pc → pX7_init pc = none := fun _ h => by unfold pX7_init; exact bc_cut_none h
theorem dX7_0 : decode cX7_init 0 = .ok (.aload_n 0, 1) := ((bc_dec_ok kX7_init zX7_in) 0 _ _ _ rfl).1
theorem dX7_1 : decode cX7_init 1 = .ok (.invokespecial 3, 3) := ((bc_dec_ok kX7_init zX7_in) 1 _ _ _ rfl).1
theorem dX7_4 : decode cX7_init 4 = .ok (.aload_n 0, 1) := ((bc_dec_ok kX7_init zX7_in) 4 _ _ _ rfl).1
theorem dX7_5 : decode cX7_init 5 = .ok (.bipush 60, 2) := ((bc_dec_ok kX7_init zX7_in) 5 _ _ _ rfl).1
theorem dX7_7 : decode cX7_init 7 = .ok (.newarray .char, 2) := ((bc_dec_ok kX7_init zX7_in) 7 _ _ _ rfl).1
theorem dX7_9 : decode cX7_init 9 = .ok (.putfield 9, 3) := ((bc_dec_ok kX7_init zX7_in) 9 _ _ _ rfl).1
theorem dX7_12 : decode cX7_init 12 = .ok (.aload_n 0, 1) := ((bc_dec_ok kX7_init zX7_in) 12 _ _ _ rfl).1
theorem dX7_13 : decode cX7_init 13 = .ok (.iconst 0, 1) := ((bc_dec_ok kX7_init zX7_in) 13 _ _ _ rfl).1
theorem dX7_14 : decode cX7_init 14 = .ok (.putfield 15, 3) := ((bc_dec_ok kX7_init zX7_in) 14 _ _ _ rfl).1
theorem dX7_17 : decode cX7_init 17 = .ok (.return_, 1) := ((bc_dec_ok kX7_init zX7_in) 17 _ _ _ rfl).1
noncomputable def E7_ (cA : Nat → ClassId) (q : Nat) : List va_E := .inr (7, [.ref (q + 1), .int (Int32.ofInt 0)]) :: ([] ++ [.inl (cA 1, 60, .inl (fun _ => Int32.ofInt 0))])
theorem E7_len (cA : Nat → ClassId) (q : Nat) : (E7_ cA q).length = 2 := by simp [E7_]
set_option maxHeartbeats 4000000 in
set_option maxRecDepth 100000 in
theorem ctX7 (l : Launch) (D : va_G) (cA : Nat → ClassId) : ctc_ l D cA mX7_init { frames := 2, cells := 1, slots := 60, locals := 20 } (.inr (7, [.null, .int (Int32.ofInt 0)])) (fun q => E7_ cA q) 1 60 := by
  intro q
  refine Met.ofW (cc := cX7_init) (maxL := 1) (ret := none) (by decide) rfl ?_
  intro p e s m args below meth c s₁ B hml hv
  obtain ⟨rfl, hq, hK⟩ := hv
  have hx := B.exec
  have hb := B.bytes
  have hr := B.returns
  have hts0 := atoms_spec (ws := ctW_ mX7_init) B.pre
  have hts : ∀ w ∈ bc_W, w.before [Value.ref q].toArray s = true := fun w hw => hts0 w (List.mem_cons_of_mem _ hw)
  have hown : s.vm.findClass RX7 = some m.cls := findClass_of_methodNamed B.named
  have hlocks := B.notSynchronized
  have hin : meth.name = "<init>" := (name_of_methodNamed B.named B.method).1
  have hS : va_S (fun a => q ≤ a) s.heap s.heap [] := va_S.rf
  have hl := lv_entry ([.ref q]) (n := 1) (Nat.le_of_ble_eq_true rfl)
  rw [lg_entry_eq]
  generalize (lg_sl ([.ref q]) ++ List.replicate (1 - (lg_sl ([.ref q])).length) Slot.unset).toArray = ls at hl ⊢
  have hl : lv_has ls 1 [(0, .ref q)] := hl
  have hq : cqz_ D q (.inr (7, [.null, .int (Int32.ofInt 0)]) :: []) s.heap := hq
  refine lv_aload_n hx hb dX7_0 rfl (lv_at hl 0 rfl) ?_
  refine W.objInit hx hb hown (hts (.methodLink RX7 3 objectInit) (bc_wat_ok (pos := 365) (by decide +kernel))) (hts (.instanceMethod objectInit) (bc_wat_ok (pos := 132) (by decide +kernel))) (hts _ (bc_wat_ok (pos := 133) (by decide +kernel))) rfl (by rw [hml]; exact hl.1) rfl dX7_1 (Nat.le_of_ble_eq_true rfl) (Nat.le_of_ble_eq_true rfl) ?_
  refine W.eq (g2 := F0 m 4 ls []) rfl ?_
  refine lv_aload_n hx hb dX7_4 rfl (lv_at hl 0 rfl) ?_
  refine lv_bipush (v := Int32.ofInt 60) hx hb dX7_5 (by decide) ?_
  refine cr_newa (atype := .char) (cI := cA 1) (n := Int32.ofInt 60) (N' := 60) (a0 := (60, .inl (fun _ => Int32.ofInt 0))) (k9 := 1) rfl hx hb (hts (.arrayClass .char) (bc_wat_ok (pos := 375) (by decide +kernel))) (hK.1.2 1 _ rfl).2 hq hS rfl (by decide) (by decide) (Nat.le_of_ble_eq_true rfl) (Nat.le_of_ble_eq_true rfl) (Nat.le_of_ble_eq_true rfl) dX7_7 (fun H hq hS => ?_)
  have hq : cqz_ D q (.inr (7, [.null, .int (Int32.ofInt 0)]) :: ([] ++ [.inl (cA 1, 60, .inl (fun _ => Int32.ofInt 0))])) H := hq
  refine cr_putF (ci := 7) (C := RX7) (T := TX7) (N := 2) hx hb hts (bc_cl_ok 7 _ rfl).1 tyX7 tyX7_ok nmX7 hown hK hq hS rfl 0 (by decide) (hts (.fieldLink RX7 9 RX7 "characters" "[C") (bc_wat_ok (pos := 366) (by decide +kernel))) (fun _ h9 => h9) rfl hin rfl (ty := .array .char) (by decide +kernel) rfl rfl (Nat.le_of_ble_eq_true rfl) dX7_9 (fun H locs hq hS => ?_)
  have hq : cqz_ D q (.inr (7, [.ref (q + 1), .int (Int32.ofInt 0)]) :: ([] ++ [.inl (cA 1, 60, .inl (fun _ => Int32.ofInt 0))])) H := hq
  refine lv_aload_n hx hb dX7_12 rfl (lv_at hl 0 rfl) ?_
  refine lv_iconst (v := Int32.ofInt 0) hx hb dX7_13 (by decide) ?_
  refine cr_put (ci := 7) (C := RX7) (T := TX7) (N := 2) hx hb hts (bc_cl_ok 7 _ rfl).1 tyX7 tyX7_ok nmX7 hown hK hq hS rfl 1 (by decide) (hts (.fieldLink RX7 15 RX7 "length" "I") (bc_wat_ok (pos := 367) (by decide +kernel))) (fun _ h9 => h9) rfl (ty := .int) (by decide +kernel) rfl rfl (Nat.le_of_ble_eq_true rfl) dX7_14 (fun H locs hq hS => ?_)
  have hq : cqz_ D q (.inr (7, [.ref (q + 1), .int (Int32.ofInt 0)]) :: ([] ++ [.inl (cA 1, 60, .inl (fun _ => Int32.ofInt 0))])) H := hq
  refine W.widen (k := 1) (n := 60) (Nat.le_of_ble_eq_true rfl) (Nat.le_of_ble_eq_true rfl) ?_
  exact W.vret hx hb hr (fun t ht hW => ⟨⟨(), rfl, trivial, by show cqz_ D q (E7_ cA q) t.heap; rw [ht]; exact hq⟩, hS.F ht⟩) hS.2.2 dX7_17
theorem zX0_in : ∀ pc, 26 ≤ pc → pX0_init pc = none := fun _ h => by unfold pX0_init; exact bc_cut_none h
theorem dX0_0 : decode cX0_init 0 = .ok (.aload_n 0, 1) := ((bc_dec_ok kX0_init zX0_in) 0 _ _ _ rfl).1
theorem dX0_1 : decode cX0_init 1 = .ok (.invokespecial 3, 3) := ((bc_dec_ok kX0_init zX0_in) 1 _ _ _ rfl).1
theorem dX0_4 : decode cX0_init 4 = .ok (.aload_n 0, 1) := ((bc_dec_ok kX0_init zX0_in) 4 _ _ _ rfl).1
theorem dX0_5 : decode cX0_init 5 = .ok (.bipush 8, 2) := ((bc_dec_ok kX0_init zX0_in) 5 _ _ _ rfl).1
theorem dX0_7 : decode cX0_init 7 = .ok (.newarray .int, 2) := ((bc_dec_ok kX0_init zX0_in) 7 _ _ _ rfl).1
theorem dX0_9 : decode cX0_init 9 = .ok (.putfield 9, 3) := ((bc_dec_ok kX0_init zX0_in) 9 _ _ _ rfl).1
theorem dX0_12 : decode cX0_init 12 = .ok (.aload_n 0, 1) := ((bc_dec_ok kX0_init zX0_in) 12 _ _ _ rfl).1
theorem dX0_13 : decode cX0_init 13 = .ok (.bipush 8, 2) := ((bc_dec_ok kX0_init zX0_in) 13 _ _ _ rfl).1
theorem dX0_15 : decode cX0_init 15 = .ok (.newarray .int, 2) := ((bc_dec_ok kX0_init zX0_in) 15 _ _ _ rfl).1
theorem dX0_17 : decode cX0_init 17 = .ok (.putfield 15, 3) := ((bc_dec_ok kX0_init zX0_in) 17 _ _ _ rfl).1
theorem dX0_20 : decode cX0_init 20 = .ok (.aload_n 0, 1) := ((bc_dec_ok kX0_init zX0_in) 20 _ _ _ rfl).1
theorem dX0_21 : decode cX0_init 21 = .ok (.iconst 0, 1) := ((bc_dec_ok kX0_init zX0_in) 21 _ _ _ rfl).1
theorem dX0_22 : decode cX0_init 22 = .ok (.putfield 18, 3) := ((bc_dec_ok kX0_init zX0_in) 22 _ _ _ rfl).1
theorem dX0_25 : decode cX0_init 25 = .ok (.return_, 1) := ((bc_dec_ok kX0_init zX0_in) 25 _ _ _ rfl).1
noncomputable def E0_ (cA : Nat → ClassId) (q : Nat) : List va_E := .inr (0, [.ref (q + 1), .ref (q + 2), .int (Int32.ofInt 0)]) :: ([] ++ [.inl (cA 0, 8, .inl (fun _ => Int32.ofInt 0))] ++ [.inl (cA 0, 8, .inl (fun _ => Int32.ofInt 0))])
theorem E0_len (cA : Nat → ClassId) (q : Nat) : (E0_ cA q).length = 3 := by simp [E0_]
set_option maxHeartbeats 4000000 in
set_option maxRecDepth 100000 in
theorem ctX0 (l : Launch) (D : va_G) (cA : Nat → ClassId) : ctc_ l D cA mX0_init { frames := 2, cells := 2, slots := 16, locals := 20 } (.inr (0, [.null, .null, .int (Int32.ofInt 0)])) (fun q => E0_ cA q) 2 16 := by
  intro q
  refine Met.ofW (cc := cX0_init) (maxL := 1) (ret := none) (by decide) rfl ?_
  intro p e s m args below meth c s₁ B hml hv
  obtain ⟨rfl, hq, hK⟩ := hv
  have hx := B.exec
  have hb := B.bytes
  have hr := B.returns
  have hts0 := atoms_spec (ws := ctW_ mX0_init) B.pre
  have hts : ∀ w ∈ bc_W, w.before [Value.ref q].toArray s = true := fun w hw => hts0 w (List.mem_cons_of_mem _ hw)
  have hown : s.vm.findClass RX0 = some m.cls := findClass_of_methodNamed B.named
  have hlocks := B.notSynchronized
  have hin : meth.name = "<init>" := (name_of_methodNamed B.named B.method).1
  have hS : va_S (fun a => q ≤ a) s.heap s.heap [] := va_S.rf
  have hl := lv_entry ([.ref q]) (n := 1) (Nat.le_of_ble_eq_true rfl)
  rw [lg_entry_eq]
  generalize (lg_sl ([.ref q]) ++ List.replicate (1 - (lg_sl ([.ref q])).length) Slot.unset).toArray = ls at hl ⊢
  have hl : lv_has ls 1 [(0, .ref q)] := hl
  have hq : cqz_ D q (.inr (0, [.null, .null, .int (Int32.ofInt 0)]) :: []) s.heap := hq
  refine lv_aload_n hx hb dX0_0 rfl (lv_at hl 0 rfl) ?_
  refine W.objInit hx hb hown (hts (.methodLink RX0 3 objectInit) (bc_wat_ok (pos := 322) (by decide +kernel))) (hts (.instanceMethod objectInit) (bc_wat_ok (pos := 132) (by decide +kernel))) (hts _ (bc_wat_ok (pos := 133) (by decide +kernel))) rfl (by rw [hml]; exact hl.1) rfl dX0_1 (Nat.le_of_ble_eq_true rfl) (Nat.le_of_ble_eq_true rfl) ?_
  refine W.eq (g2 := F0 m 4 ls []) rfl ?_
  refine lv_aload_n hx hb dX0_4 rfl (lv_at hl 0 rfl) ?_
  refine lv_bipush (v := Int32.ofInt 8) hx hb dX0_5 (by decide) ?_
  refine cr_newa (atype := .int) (cI := cA 0) (n := Int32.ofInt 8) (N' := 8) (a0 := (8, .inl (fun _ => Int32.ofInt 0))) (k9 := 1) rfl hx hb (hts (.arrayClass .int) (bc_wat_ok (pos := 183) (by decide +kernel))) (hK.1.2 0 _ rfl).2 hq hS rfl (by decide) (by decide) (Nat.le_of_ble_eq_true rfl) (Nat.le_of_ble_eq_true rfl) (Nat.le_of_ble_eq_true rfl) dX0_7 (fun H hq hS => ?_)
  have hq : cqz_ D q (.inr (0, [.null, .null, .int (Int32.ofInt 0)]) :: ([] ++ [.inl (cA 0, 8, .inl (fun _ => Int32.ofInt 0))])) H := hq
  refine cr_putF (ci := 0) (C := RX0) (T := TX0) (N := 3) hx hb hts (bc_cl_ok 0 _ rfl).1 tyX0 tyX0_ok nmX0 hown hK hq hS rfl 0 (by decide) (hts (.fieldLink RX0 9 RX0 "number" "[I") (bc_wat_ok (pos := 323) (by decide +kernel))) (fun _ h9 => h9) rfl hin rfl (ty := .array .int) (by decide +kernel) rfl rfl (Nat.le_of_ble_eq_true rfl) dX0_9 (fun H locs hq hS => ?_)
  have hq : cqz_ D q (.inr (0, [.ref (q + 1), .null, .int (Int32.ofInt 0)]) :: ([] ++ [.inl (cA 0, 8, .inl (fun _ => Int32.ofInt 0))])) H := hq
  refine lv_aload_n hx hb dX0_12 rfl (lv_at hl 0 rfl) ?_
  refine lv_bipush (v := Int32.ofInt 8) hx hb dX0_13 (by decide) ?_
  refine cr_newa (atype := .int) (cI := cA 0) (n := Int32.ofInt 8) (N' := 8) (a0 := (8, .inl (fun _ => Int32.ofInt 0))) (k9 := 2) rfl hx hb (hts (.arrayClass .int) (bc_wat_ok (pos := 183) (by decide +kernel))) (hK.1.2 0 _ rfl).2 hq hS rfl (by decide) (by decide) (Nat.le_of_ble_eq_true rfl) (Nat.le_of_ble_eq_true rfl) (Nat.le_of_ble_eq_true rfl) dX0_15 (fun H hq hS => ?_)
  have hq : cqz_ D q (.inr (0, [.ref (q + 1), .null, .int (Int32.ofInt 0)]) :: ([] ++ [.inl (cA 0, 8, .inl (fun _ => Int32.ofInt 0))] ++ [.inl (cA 0, 8, .inl (fun _ => Int32.ofInt 0))])) H := hq
  refine cr_putF (ci := 0) (C := RX0) (T := TX0) (N := 3) hx hb hts (bc_cl_ok 0 _ rfl).1 tyX0 tyX0_ok nmX0 hown hK hq hS rfl 1 (by decide) (hts (.fieldLink RX0 15 RX0 "lowest" "[I") (bc_wat_ok (pos := 324) (by decide +kernel))) (fun _ h9 => h9) rfl hin rfl (ty := .array .int) (by decide +kernel) rfl rfl (Nat.le_of_ble_eq_true rfl) dX0_17 (fun H locs hq hS => ?_)
  have hq : cqz_ D q (.inr (0, [.ref (q + 1), .ref (q + 2), .int (Int32.ofInt 0)]) :: ([] ++ [.inl (cA 0, 8, .inl (fun _ => Int32.ofInt 0))] ++ [.inl (cA 0, 8, .inl (fun _ => Int32.ofInt 0))])) H := hq
  refine lv_aload_n hx hb dX0_20 rfl (lv_at hl 0 rfl) ?_
  refine lv_iconst (v := Int32.ofInt 0) hx hb dX0_21 (by decide) ?_
  refine cr_put (ci := 0) (C := RX0) (T := TX0) (N := 3) hx hb hts (bc_cl_ok 0 _ rfl).1 tyX0 tyX0_ok nmX0 hown hK hq hS rfl 2 (by decide) (hts (.fieldLink RX0 18 RX0 "numbered" "I") (bc_wat_ok (pos := 325) (by decide +kernel))) (fun _ h9 => h9) rfl (ty := .int) (by decide +kernel) rfl rfl (Nat.le_of_ble_eq_true rfl) dX0_22 (fun H locs hq hS => ?_)
  have hq : cqz_ D q (.inr (0, [.ref (q + 1), .ref (q + 2), .int (Int32.ofInt 0)]) :: ([] ++ [.inl (cA 0, 8, .inl (fun _ => Int32.ofInt 0))] ++ [.inl (cA 0, 8, .inl (fun _ => Int32.ofInt 0))])) H := hq
  refine W.widen (k := 2) (n := 16) (Nat.le_of_ble_eq_true rfl) (Nat.le_of_ble_eq_true rfl) ?_
  exact W.vret hx hb hr (fun t ht hW => ⟨⟨(), rfl, trivial, by show cqz_ D q (E0_ cA q) t.heap; rw [ht]; exact hq⟩, hS.F ht⟩) hS.2.2 dX0_25
theorem zX9_in : ∀ pc, 54 ≤ pc → pX9_init pc = none := fun _ h => by unfold pX9_init; exact bc_cut_none h
theorem dX9_0 : decode cX9_init 0 = .ok (.aload_n 0, 1) := ((bc_dec_ok kX9_init zX9_in) 0 _ _ _ rfl).1
theorem dX9_1 : decode cX9_init 1 = .ok (.invokespecial 3, 3) := ((bc_dec_ok kX9_init zX9_in) 1 _ _ _ rfl).1
theorem dX9_4 : decode cX9_init 4 = .ok (.aload_n 0, 1) := ((bc_dec_ok kX9_init zX9_in) 4 _ _ _ rfl).1
theorem dX9_5 : decode cX9_init 5 = .ok (.bipush 8, 2) := ((bc_dec_ok kX9_init zX9_in) 5 _ _ _ rfl).1
theorem dX9_7 : decode cX9_init 7 = .ok (.bipush 8, 2) := ((bc_dec_ok kX9_init zX9_in) 7 _ _ _ rfl).1
theorem dX9_9 : decode cX9_init 9 = .ok (.multianewarray 9 2, 4) := ((bc_dec_ok kX9_init zX9_in) 9 _ _ _ rfl).1
theorem dX9_13 : decode cX9_init 13 = .ok (.putfield 11, 3) := ((bc_dec_ok kX9_init zX9_in) 13 _ _ _ rfl).1
theorem dX9_16 : decode cX9_init 16 = .ok (.aload_n 0, 1) := ((bc_dec_ok kX9_init zX9_in) 16 _ _ _ rfl).1
theorem dX9_17 : decode cX9_init 17 = .ok (.bipush 8, 2) := ((bc_dec_ok kX9_init zX9_in) 17 _ _ _ rfl).1
theorem dX9_19 : decode cX9_init 19 = .ok (.newarray .int, 2) := ((bc_dec_ok kX9_init zX9_in) 19 _ _ _ rfl).1
theorem dX9_21 : decode cX9_init 21 = .ok (.putfield 16, 3) := ((bc_dec_ok kX9_init zX9_in) 21 _ _ _ rfl).1
theorem dX9_24 : decode cX9_init 24 = .ok (.aload_n 0, 1) := ((bc_dec_ok kX9_init zX9_in) 24 _ _ _ rfl).1
theorem dX9_25 : decode cX9_init 25 = .ok (.bipush 8, 2) := ((bc_dec_ok kX9_init zX9_in) 25 _ _ _ rfl).1
theorem dX9_27 : decode cX9_init 27 = .ok (.newarray .boolean, 2) := ((bc_dec_ok kX9_init zX9_in) 27 _ _ _ rfl).1
theorem dX9_29 : decode cX9_init 29 = .ok (.putfield 20, 3) := ((bc_dec_ok kX9_init zX9_in) 29 _ _ _ rfl).1
theorem dX9_32 : decode cX9_init 32 = .ok (.aload_n 0, 1) := ((bc_dec_ok kX9_init zX9_in) 32 _ _ _ rfl).1
theorem dX9_33 : decode cX9_init 33 = .ok (.bipush 8, 2) := ((bc_dec_ok kX9_init zX9_in) 33 _ _ _ rfl).1
theorem dX9_35 : decode cX9_init 35 = .ok (.newarray .int, 2) := ((bc_dec_ok kX9_init zX9_in) 35 _ _ _ rfl).1
theorem dX9_37 : decode cX9_init 37 = .ok (.putfield 24, 3) := ((bc_dec_ok kX9_init zX9_in) 37 _ _ _ rfl).1
theorem dX9_40 : decode cX9_init 40 = .ok (.aload_n 0, 1) := ((bc_dec_ok kX9_init zX9_in) 40 _ _ _ rfl).1
theorem dX9_41 : decode cX9_init 41 = .ok (.bipush 8, 2) := ((bc_dec_ok kX9_init zX9_in) 41 _ _ _ rfl).1
theorem dX9_43 : decode cX9_init 43 = .ok (.newarray .int, 2) := ((bc_dec_ok kX9_init zX9_in) 43 _ _ _ rfl).1
theorem dX9_45 : decode cX9_init 45 = .ok (.putfield 27, 3) := ((bc_dec_ok kX9_init zX9_in) 45 _ _ _ rfl).1
theorem dX9_48 : decode cX9_init 48 = .ok (.aload_n 0, 1) := ((bc_dec_ok kX9_init zX9_in) 48 _ _ _ rfl).1
theorem dX9_49 : decode cX9_init 49 = .ok (.iconst 0, 1) := ((bc_dec_ok kX9_init zX9_in) 49 _ _ _ rfl).1
theorem dX9_50 : decode cX9_init 50 = .ok (.putfield 30, 3) := ((bc_dec_ok kX9_init zX9_in) 50 _ _ _ rfl).1
theorem dX9_53 : decode cX9_init 53 = .ok (.return_, 1) := ((bc_dec_ok kX9_init zX9_in) 53 _ _ _ rfl).1
noncomputable def E9_ (cA : Nat → ClassId) (q : Nat) : List va_E := .inr (9, [.ref (q + 1), .ref (q + 10), .ref (q + 11), .ref (q + 12), .ref (q + 13), .int (Int32.ofInt 0)]) :: ([] ++ (cg_o (cA 5) 8 (q + 1) :: List.replicate 8 (cg_r (cA 0) 8)) ++ [.inl (cA 0, 8, .inl (fun _ => Int32.ofInt 0))] ++ [.inl (cA 2, 8, .inl (fun _ => Int32.ofInt 0))] ++ [.inl (cA 0, 8, .inl (fun _ => Int32.ofInt 0))] ++ [.inl (cA 0, 8, .inl (fun _ => Int32.ofInt 0))])
theorem E9_len (cA : Nat → ClassId) (q : Nat) : (E9_ cA q).length = 14 := by simp [E9_]
set_option maxHeartbeats 4000000 in
set_option maxRecDepth 100000 in
theorem ctX9 (l : Launch) (D : va_G) (cA : Nat → ClassId) : ctc_ l D cA mX9_init { frames := 2, cells := 13, slots := 104, locals := 20 } (.inr (9, [.null, .null, .null, .null, .null, .int (Int32.ofInt 0)])) (fun q => E9_ cA q) 13 104 := by
  intro q
  refine Met.ofW (cc := cX9_init) (maxL := 1) (ret := none) (by decide) rfl ?_
  intro p e s m args below meth c s₁ B hml hv
  obtain ⟨rfl, hq, hK⟩ := hv
  have hx := B.exec
  have hb := B.bytes
  have hr := B.returns
  have hts0 := atoms_spec (ws := ctW_ mX9_init) B.pre
  have hts : ∀ w ∈ bc_W, w.before [Value.ref q].toArray s = true := fun w hw => hts0 w (List.mem_cons_of_mem _ hw)
  have hown : s.vm.findClass RX9 = some m.cls := findClass_of_methodNamed B.named
  have hlocks := B.notSynchronized
  have hin : meth.name = "<init>" := (name_of_methodNamed B.named B.method).1
  have hS : va_S (fun a => q ≤ a) s.heap s.heap [] := va_S.rf
  have hl := lv_entry ([.ref q]) (n := 1) (Nat.le_of_ble_eq_true rfl)
  rw [lg_entry_eq]
  generalize (lg_sl ([.ref q]) ++ List.replicate (1 - (lg_sl ([.ref q])).length) Slot.unset).toArray = ls at hl ⊢
  have hl : lv_has ls 1 [(0, .ref q)] := hl
  have hq : cqz_ D q (.inr (9, [.null, .null, .null, .null, .null, .int (Int32.ofInt 0)]) :: []) s.heap := hq
  refine lv_aload_n hx hb dX9_0 rfl (lv_at hl 0 rfl) ?_
  refine W.objInit hx hb hown (hts (.methodLink RX9 3 objectInit) (bc_wat_ok (pos := 292) (by decide +kernel))) (hts (.instanceMethod objectInit) (bc_wat_ok (pos := 132) (by decide +kernel))) (hts _ (bc_wat_ok (pos := 133) (by decide +kernel))) rfl (by rw [hml]; exact hl.1) rfl dX9_1 (Nat.le_of_ble_eq_true rfl) (Nat.le_of_ble_eq_true rfl) ?_
  refine W.eq (g2 := F0 m 4 ls []) rfl ?_
  refine lv_aload_n hx hb dX9_4 rfl (lv_at hl 0 rfl) ?_
  refine lv_bipush (v := Int32.ofInt 8) hx hb dX9_5 (by decide) ?_
  refine lv_bipush (v := Int32.ofInt 8) hx hb dX9_7 (by decide) ?_
  refine cr_multi (N := 8) (M := 8) (k9 := 1) rfl hx hb hown (hts (.classLink RX9 9 "[[I") (bc_wat_ok (pos := 293) (by decide +kernel))) hK hq hS (by decide) (by decide) (by decide) (by decide) (by decide) (Nat.le_of_ble_eq_true rfl) (Nat.le_of_ble_eq_true rfl) (Nat.le_of_ble_eq_true rfl) (Nat.le_of_ble_eq_true rfl) dX9_9 (fun H locs hq hS => ?_)
  have hq : cqz_ D q (.inr (9, [.null, .null, .null, .null, .null, .int (Int32.ofInt 0)]) :: ([] ++ (cg_o (cA 5) 8 (q + 1) :: List.replicate 8 (cg_r (cA 0) 8)))) H := hq
  refine cr_putF (ci := 9) (C := RX9) (T := TX9) (N := 6) hx hb hts (bc_cl_ok 9 _ rfl).1 tyX9 tyX9_ok nmX9 hown hK hq hS rfl 0 (by decide) (hts (.fieldLink RX9 11 RX9 "bearing" "[[I") (bc_wat_ok (pos := 295) (by decide +kernel))) (fun _ h9 => h9) rfl hin rfl (ty := .array (.array .int)) (by decide +kernel) rfl rfl (Nat.le_of_ble_eq_true rfl) dX9_13 (fun H locs hq hS => ?_)
  have hq : cqz_ D q (.inr (9, [.ref (q + 1), .null, .null, .null, .null, .int (Int32.ofInt 0)]) :: ([] ++ (cg_o (cA 5) 8 (q + 1) :: List.replicate 8 (cg_r (cA 0) 8)))) H := hq
  refine lv_aload_n hx hb dX9_16 rfl (lv_at hl 0 rfl) ?_
  refine lv_bipush (v := Int32.ofInt 8) hx hb dX9_17 (by decide) ?_
  refine cr_newa (atype := .int) (cI := cA 0) (n := Int32.ofInt 8) (N' := 8) (a0 := (8, .inl (fun _ => Int32.ofInt 0))) (k9 := 10) rfl hx hb (hts (.arrayClass .int) (bc_wat_ok (pos := 183) (by decide +kernel))) (hK.1.2 0 _ rfl).2 hq hS rfl (by decide) (by decide) (Nat.le_of_ble_eq_true rfl) (Nat.le_of_ble_eq_true rfl) (Nat.le_of_ble_eq_true rfl) dX9_19 (fun H hq hS => ?_)
  have hq : cqz_ D q (.inr (9, [.ref (q + 1), .null, .null, .null, .null, .int (Int32.ofInt 0)]) :: ([] ++ (cg_o (cA 5) 8 (q + 1) :: List.replicate 8 (cg_r (cA 0) 8)) ++ [.inl (cA 0, 8, .inl (fun _ => Int32.ofInt 0))])) H := hq
  refine cr_putF (ci := 9) (C := RX9) (T := TX9) (N := 6) hx hb hts (bc_cl_ok 9 _ rfl).1 tyX9 tyX9_ok nmX9 hown hK hq hS rfl 1 (by decide) (hts (.fieldLink RX9 16 RX9 "width" "[I") (bc_wat_ok (pos := 297) (by decide +kernel))) (fun _ h9 => h9) rfl hin rfl (ty := .array .int) (by decide +kernel) rfl rfl (Nat.le_of_ble_eq_true rfl) dX9_21 (fun H locs hq hS => ?_)
  have hq : cqz_ D q (.inr (9, [.ref (q + 1), .ref (q + 10), .null, .null, .null, .int (Int32.ofInt 0)]) :: ([] ++ (cg_o (cA 5) 8 (q + 1) :: List.replicate 8 (cg_r (cA 0) 8)) ++ [.inl (cA 0, 8, .inl (fun _ => Int32.ofInt 0))])) H := hq
  refine lv_aload_n hx hb dX9_24 rfl (lv_at hl 0 rfl) ?_
  refine lv_bipush (v := Int32.ofInt 8) hx hb dX9_25 (by decide) ?_
  refine cr_newa (atype := .boolean) (cI := cA 2) (n := Int32.ofInt 8) (N' := 8) (a0 := (8, .inl (fun _ => Int32.ofInt 0))) (k9 := 11) rfl hx hb (hts (.arrayClass .boolean) (bc_wat_ok (pos := 184) (by decide +kernel))) (hK.1.2 2 _ rfl).2 hq hS rfl (by decide) (by decide) (Nat.le_of_ble_eq_true rfl) (Nat.le_of_ble_eq_true rfl) (Nat.le_of_ble_eq_true rfl) dX9_27 (fun H hq hS => ?_)
  have hq : cqz_ D q (.inr (9, [.ref (q + 1), .ref (q + 10), .null, .null, .null, .int (Int32.ofInt 0)]) :: ([] ++ (cg_o (cA 5) 8 (q + 1) :: List.replicate 8 (cg_r (cA 0) 8)) ++ [.inl (cA 0, 8, .inl (fun _ => Int32.ofInt 0))] ++ [.inl (cA 2, 8, .inl (fun _ => Int32.ofInt 0))])) H := hq
  refine cr_putF (ci := 9) (C := RX9) (T := TX9) (N := 6) hx hb hts (bc_cl_ok 9 _ rfl).1 tyX9 tyX9_ok nmX9 hown hK hq hS rfl 2 (by decide) (hts (.fieldLink RX9 20 RX9 "grown" "[Z") (bc_wat_ok (pos := 298) (by decide +kernel))) (fun _ h9 => h9) rfl hin rfl (ty := .array .boolean) (by decide +kernel) rfl rfl (Nat.le_of_ble_eq_true rfl) dX9_29 (fun H locs hq hS => ?_)
  have hq : cqz_ D q (.inr (9, [.ref (q + 1), .ref (q + 10), .ref (q + 11), .null, .null, .int (Int32.ofInt 0)]) :: ([] ++ (cg_o (cA 5) 8 (q + 1) :: List.replicate 8 (cg_r (cA 0) 8)) ++ [.inl (cA 0, 8, .inl (fun _ => Int32.ofInt 0))] ++ [.inl (cA 2, 8, .inl (fun _ => Int32.ofInt 0))])) H := hq
  refine lv_aload_n hx hb dX9_32 rfl (lv_at hl 0 rfl) ?_
  refine lv_bipush (v := Int32.ofInt 8) hx hb dX9_33 (by decide) ?_
  refine cr_newa (atype := .int) (cI := cA 0) (n := Int32.ofInt 8) (N' := 8) (a0 := (8, .inl (fun _ => Int32.ofInt 0))) (k9 := 12) rfl hx hb (hts (.arrayClass .int) (bc_wat_ok (pos := 183) (by decide +kernel))) (hK.1.2 0 _ rfl).2 hq hS rfl (by decide) (by decide) (Nat.le_of_ble_eq_true rfl) (Nat.le_of_ble_eq_true rfl) (Nat.le_of_ble_eq_true rfl) dX9_35 (fun H hq hS => ?_)
  have hq : cqz_ D q (.inr (9, [.ref (q + 1), .ref (q + 10), .ref (q + 11), .null, .null, .int (Int32.ofInt 0)]) :: ([] ++ (cg_o (cA 5) 8 (q + 1) :: List.replicate 8 (cg_r (cA 0) 8)) ++ [.inl (cA 0, 8, .inl (fun _ => Int32.ofInt 0))] ++ [.inl (cA 2, 8, .inl (fun _ => Int32.ofInt 0))] ++ [.inl (cA 0, 8, .inl (fun _ => Int32.ofInt 0))])) H := hq
  refine cr_putF (ci := 9) (C := RX9) (T := TX9) (N := 6) hx hb hts (bc_cl_ok 9 _ rfl).1 tyX9 tyX9_ok nmX9 hown hK hq hS rfl 3 (by decide) (hts (.fieldLink RX9 24 RX9 "distance" "[I") (bc_wat_ok (pos := 299) (by decide +kernel))) (fun _ h9 => h9) rfl hin rfl (ty := .array .int) (by decide +kernel) rfl rfl (Nat.le_of_ble_eq_true rfl) dX9_37 (fun H locs hq hS => ?_)
  have hq : cqz_ D q (.inr (9, [.ref (q + 1), .ref (q + 10), .ref (q + 11), .ref (q + 12), .null, .int (Int32.ofInt 0)]) :: ([] ++ (cg_o (cA 5) 8 (q + 1) :: List.replicate 8 (cg_r (cA 0) 8)) ++ [.inl (cA 0, 8, .inl (fun _ => Int32.ofInt 0))] ++ [.inl (cA 2, 8, .inl (fun _ => Int32.ofInt 0))] ++ [.inl (cA 0, 8, .inl (fun _ => Int32.ofInt 0))])) H := hq
  refine lv_aload_n hx hb dX9_40 rfl (lv_at hl 0 rfl) ?_
  refine lv_bipush (v := Int32.ofInt 8) hx hb dX9_41 (by decide) ?_
  refine cr_newa (atype := .int) (cI := cA 0) (n := Int32.ofInt 8) (N' := 8) (a0 := (8, .inl (fun _ => Int32.ofInt 0))) (k9 := 13) rfl hx hb (hts (.arrayClass .int) (bc_wat_ok (pos := 183) (by decide +kernel))) (hK.1.2 0 _ rfl).2 hq hS rfl (by decide) (by decide) (Nat.le_of_ble_eq_true rfl) (Nat.le_of_ble_eq_true rfl) (Nat.le_of_ble_eq_true rfl) dX9_43 (fun H hq hS => ?_)
  have hq : cqz_ D q (.inr (9, [.ref (q + 1), .ref (q + 10), .ref (q + 11), .ref (q + 12), .null, .int (Int32.ofInt 0)]) :: ([] ++ (cg_o (cA 5) 8 (q + 1) :: List.replicate 8 (cg_r (cA 0) 8)) ++ [.inl (cA 0, 8, .inl (fun _ => Int32.ofInt 0))] ++ [.inl (cA 2, 8, .inl (fun _ => Int32.ofInt 0))] ++ [.inl (cA 0, 8, .inl (fun _ => Int32.ofInt 0))] ++ [.inl (cA 0, 8, .inl (fun _ => Int32.ofInt 0))])) H := hq
  refine cr_putF (ci := 9) (C := RX9) (T := TX9) (N := 6) hx hb hts (bc_cl_ok 9 _ rfl).1 tyX9 tyX9_ok nmX9 hown hK hq hS rfl 4 (by decide) (hts (.fieldLink RX9 27 RX9 "joints" "[I") (bc_wat_ok (pos := 300) (by decide +kernel))) (fun _ h9 => h9) rfl hin rfl (ty := .array .int) (by decide +kernel) rfl rfl (Nat.le_of_ble_eq_true rfl) dX9_45 (fun H locs hq hS => ?_)
  have hq : cqz_ D q (.inr (9, [.ref (q + 1), .ref (q + 10), .ref (q + 11), .ref (q + 12), .ref (q + 13), .int (Int32.ofInt 0)]) :: ([] ++ (cg_o (cA 5) 8 (q + 1) :: List.replicate 8 (cg_r (cA 0) 8)) ++ [.inl (cA 0, 8, .inl (fun _ => Int32.ofInt 0))] ++ [.inl (cA 2, 8, .inl (fun _ => Int32.ofInt 0))] ++ [.inl (cA 0, 8, .inl (fun _ => Int32.ofInt 0))] ++ [.inl (cA 0, 8, .inl (fun _ => Int32.ofInt 0))])) H := hq
  refine lv_aload_n hx hb dX9_48 rfl (lv_at hl 0 rfl) ?_
  refine lv_iconst (v := Int32.ofInt 0) hx hb dX9_49 (by decide) ?_
  refine cr_put (ci := 9) (C := RX9) (T := TX9) (N := 6) hx hb hts (bc_cl_ok 9 _ rfl).1 tyX9 tyX9_ok nmX9 hown hK hq hS rfl 5 (by decide) (hts (.fieldLink RX9 30 RX9 "length" "I") (bc_wat_ok (pos := 302) (by decide +kernel))) (fun _ h9 => h9) rfl (ty := .int) (by decide +kernel) rfl rfl (Nat.le_of_ble_eq_true rfl) dX9_50 (fun H locs hq hS => ?_)
  have hq : cqz_ D q (.inr (9, [.ref (q + 1), .ref (q + 10), .ref (q + 11), .ref (q + 12), .ref (q + 13), .int (Int32.ofInt 0)]) :: ([] ++ (cg_o (cA 5) 8 (q + 1) :: List.replicate 8 (cg_r (cA 0) 8)) ++ [.inl (cA 0, 8, .inl (fun _ => Int32.ofInt 0))] ++ [.inl (cA 2, 8, .inl (fun _ => Int32.ofInt 0))] ++ [.inl (cA 0, 8, .inl (fun _ => Int32.ofInt 0))] ++ [.inl (cA 0, 8, .inl (fun _ => Int32.ofInt 0))])) H := hq
  refine W.widen (k := 13) (n := 104) (Nat.le_of_ble_eq_true rfl) (Nat.le_of_ble_eq_true rfl) ?_
  exact W.vret hx hb hr (fun t ht hW => ⟨⟨(), rfl, trivial, by show cqz_ D q (E9_ cA q) t.heap; rw [ht]; exact hq⟩, hS.F ht⟩) hS.2.2 dX9_53
theorem zX4_in : ∀ pc, 45 ≤ pc → pX4_init pc = none := fun _ h => by unfold pX4_init; exact bc_cut_none h
theorem dX4_0 : decode cX4_init 0 = .ok (.aload_n 0, 1) := ((bc_dec_ok kX4_init zX4_in) 0 _ _ _ rfl).1
theorem dX4_1 : decode cX4_init 1 = .ok (.invokespecial 3, 3) := ((bc_dec_ok kX4_init zX4_in) 1 _ _ _ rfl).1
theorem dX4_4 : decode cX4_init 4 = .ok (.aload_n 0, 1) := ((bc_dec_ok kX4_init zX4_in) 4 _ _ _ rfl).1
theorem dX4_5 : decode cX4_init 5 = .ok (.bipush 8, 2) := ((bc_dec_ok kX4_init zX4_in) 5 _ _ _ rfl).1
theorem dX4_7 : decode cX4_init 7 = .ok (.bipush 8, 2) := ((bc_dec_ok kX4_init zX4_in) 7 _ _ _ rfl).1
theorem dX4_9 : decode cX4_init 9 = .ok (.multianewarray 9 2, 4) := ((bc_dec_ok kX4_init zX4_in) 9 _ _ _ rfl).1
theorem dX4_13 : decode cX4_init 13 = .ok (.putfield 11, 3) := ((bc_dec_ok kX4_init zX4_in) 13 _ _ _ rfl).1
theorem dX4_16 : decode cX4_init 16 = .ok (.aload_n 0, 1) := ((bc_dec_ok kX4_init zX4_in) 16 _ _ _ rfl).1
theorem dX4_17 : decode cX4_init 17 = .ok (.bipush 8, 2) := ((bc_dec_ok kX4_init zX4_in) 17 _ _ _ rfl).1
theorem dX4_19 : decode cX4_init 19 = .ok (.newarray .int, 2) := ((bc_dec_ok kX4_init zX4_in) 19 _ _ _ rfl).1
theorem dX4_21 : decode cX4_init 21 = .ok (.putfield 16, 3) := ((bc_dec_ok kX4_init zX4_in) 21 _ _ _ rfl).1
theorem dX4_24 : decode cX4_init 24 = .ok (.aload_n 0, 1) := ((bc_dec_ok kX4_init zX4_in) 24 _ _ _ rfl).1
theorem dX4_25 : decode cX4_init 25 = .ok (.bipush 8, 2) := ((bc_dec_ok kX4_init zX4_in) 25 _ _ _ rfl).1
theorem dX4_27 : decode cX4_init 27 = .ok (.newarray .boolean, 2) := ((bc_dec_ok kX4_init zX4_in) 27 _ _ _ rfl).1
theorem dX4_29 : decode cX4_init 29 = .ok (.putfield 20, 3) := ((bc_dec_ok kX4_init zX4_in) 29 _ _ _ rfl).1
theorem dX4_32 : decode cX4_init 32 = .ok (.aload_n 0, 1) := ((bc_dec_ok kX4_init zX4_in) 32 _ _ _ rfl).1
theorem dX4_33 : decode cX4_init 33 = .ok (.bipush 8, 2) := ((bc_dec_ok kX4_init zX4_in) 33 _ _ _ rfl).1
theorem dX4_35 : decode cX4_init 35 = .ok (.bipush 8, 2) := ((bc_dec_ok kX4_init zX4_in) 35 _ _ _ rfl).1
theorem dX4_37 : decode cX4_init 37 = .ok (.multianewarray 9 2, 4) := ((bc_dec_ok kX4_init zX4_in) 37 _ _ _ rfl).1
theorem dX4_41 : decode cX4_init 41 = .ok (.putfield 24, 3) := ((bc_dec_ok kX4_init zX4_in) 41 _ _ _ rfl).1
theorem dX4_44 : decode cX4_init 44 = .ok (.return_, 1) := ((bc_dec_ok kX4_init zX4_in) 44 _ _ _ rfl).1
noncomputable def E4_ (cA : Nat → ClassId) (q : Nat) : List va_E := .inr (4, [.ref (q + 1), .ref (q + 10), .ref (q + 11), .ref (q + 12)]) :: ([] ++ (cg_o (cA 5) 8 (q + 1) :: List.replicate 8 (cg_r (cA 0) 8)) ++ [.inl (cA 0, 8, .inl (fun _ => Int32.ofInt 0))] ++ [.inl (cA 2, 8, .inl (fun _ => Int32.ofInt 0))] ++ (cg_o (cA 5) 8 (q + 12) :: List.replicate 8 (cg_r (cA 0) 8)))
theorem E4_len (cA : Nat → ClassId) (q : Nat) : (E4_ cA q).length = 21 := by simp [E4_]
set_option maxHeartbeats 4000000 in
set_option maxRecDepth 100000 in
theorem ctX4 (l : Launch) (D : va_G) (cA : Nat → ClassId) : ctc_ l D cA mX4_init { frames := 2, cells := 20, slots := 160, locals := 20 } (.inr (4, [.null, .null, .null, .null])) (fun q => E4_ cA q) 20 160 := by
  intro q
  refine Met.ofW (cc := cX4_init) (maxL := 1) (ret := none) (by decide) rfl ?_
  intro p e s m args below meth c s₁ B hml hv
  obtain ⟨rfl, hq, hK⟩ := hv
  have hx := B.exec
  have hb := B.bytes
  have hr := B.returns
  have hts0 := atoms_spec (ws := ctW_ mX4_init) B.pre
  have hts : ∀ w ∈ bc_W, w.before [Value.ref q].toArray s = true := fun w hw => hts0 w (List.mem_cons_of_mem _ hw)
  have hown : s.vm.findClass RX4 = some m.cls := findClass_of_methodNamed B.named
  have hlocks := B.notSynchronized
  have hin : meth.name = "<init>" := (name_of_methodNamed B.named B.method).1
  have hS : va_S (fun a => q ≤ a) s.heap s.heap [] := va_S.rf
  have hl := lv_entry ([.ref q]) (n := 1) (Nat.le_of_ble_eq_true rfl)
  rw [lg_entry_eq]
  generalize (lg_sl ([.ref q]) ++ List.replicate (1 - (lg_sl ([.ref q])).length) Slot.unset).toArray = ls at hl ⊢
  have hl : lv_has ls 1 [(0, .ref q)] := hl
  have hq : cqz_ D q (.inr (4, [.null, .null, .null, .null]) :: []) s.heap := hq
  refine lv_aload_n hx hb dX4_0 rfl (lv_at hl 0 rfl) ?_
  refine W.objInit hx hb hown (hts (.methodLink RX4 3 objectInit) (bc_wat_ok (pos := 338) (by decide +kernel))) (hts (.instanceMethod objectInit) (bc_wat_ok (pos := 132) (by decide +kernel))) (hts _ (bc_wat_ok (pos := 133) (by decide +kernel))) rfl (by rw [hml]; exact hl.1) rfl dX4_1 (Nat.le_of_ble_eq_true rfl) (Nat.le_of_ble_eq_true rfl) ?_
  refine W.eq (g2 := F0 m 4 ls []) rfl ?_
  refine lv_aload_n hx hb dX4_4 rfl (lv_at hl 0 rfl) ?_
  refine lv_bipush (v := Int32.ofInt 8) hx hb dX4_5 (by decide) ?_
  refine lv_bipush (v := Int32.ofInt 8) hx hb dX4_7 (by decide) ?_
  refine cr_multi (N := 8) (M := 8) (k9 := 1) rfl hx hb hown (hts (.classLink RX4 9 "[[I") (bc_wat_ok (pos := 339) (by decide +kernel))) hK hq hS (by decide) (by decide) (by decide) (by decide) (by decide) (Nat.le_of_ble_eq_true rfl) (Nat.le_of_ble_eq_true rfl) (Nat.le_of_ble_eq_true rfl) (Nat.le_of_ble_eq_true rfl) dX4_9 (fun H locs hq hS => ?_)
  have hq : cqz_ D q (.inr (4, [.null, .null, .null, .null]) :: ([] ++ (cg_o (cA 5) 8 (q + 1) :: List.replicate 8 (cg_r (cA 0) 8)))) H := hq
  refine cr_putF (ci := 4) (C := RX4) (T := TX4) (N := 4) hx hb hts (bc_cl_ok 4 _ rfl).1 tyX4 tyX4_ok nmX4 hown hK hq hS rfl 0 (by decide) (hts (.fieldLink RX4 11 RX4 "price" "[[I") (bc_wat_ok (pos := 340) (by decide +kernel))) (fun _ h9 => h9) rfl hin rfl (ty := .array (.array .int)) (by decide +kernel) rfl rfl (Nat.le_of_ble_eq_true rfl) dX4_13 (fun H locs hq hS => ?_)
  have hq : cqz_ D q (.inr (4, [.ref (q + 1), .null, .null, .null]) :: ([] ++ (cg_o (cA 5) 8 (q + 1) :: List.replicate 8 (cg_r (cA 0) 8)))) H := hq
  refine lv_aload_n hx hb dX4_16 rfl (lv_at hl 0 rfl) ?_
  refine lv_bipush (v := Int32.ofInt 8) hx hb dX4_17 (by decide) ?_
  refine cr_newa (atype := .int) (cI := cA 0) (n := Int32.ofInt 8) (N' := 8) (a0 := (8, .inl (fun _ => Int32.ofInt 0))) (k9 := 10) rfl hx hb (hts (.arrayClass .int) (bc_wat_ok (pos := 183) (by decide +kernel))) (hK.1.2 0 _ rfl).2 hq hS rfl (by decide) (by decide) (Nat.le_of_ble_eq_true rfl) (Nat.le_of_ble_eq_true rfl) (Nat.le_of_ble_eq_true rfl) dX4_19 (fun H hq hS => ?_)
  have hq : cqz_ D q (.inr (4, [.ref (q + 1), .null, .null, .null]) :: ([] ++ (cg_o (cA 5) 8 (q + 1) :: List.replicate 8 (cg_r (cA 0) 8)) ++ [.inl (cA 0, 8, .inl (fun _ => Int32.ofInt 0))])) H := hq
  refine cr_putF (ci := 4) (C := RX4) (T := TX4) (N := 4) hx hb hts (bc_cl_ok 4 _ rfl).1 tyX4 tyX4_ok nmX4 hown hK hq hS rfl 1 (by decide) (hts (.fieldLink RX4 16 RX4 "cost" "[I") (bc_wat_ok (pos := 341) (by decide +kernel))) (fun _ h9 => h9) rfl hin rfl (ty := .array .int) (by decide +kernel) rfl rfl (Nat.le_of_ble_eq_true rfl) dX4_21 (fun H locs hq hS => ?_)
  have hq : cqz_ D q (.inr (4, [.ref (q + 1), .ref (q + 10), .null, .null]) :: ([] ++ (cg_o (cA 5) 8 (q + 1) :: List.replicate 8 (cg_r (cA 0) 8)) ++ [.inl (cA 0, 8, .inl (fun _ => Int32.ofInt 0))])) H := hq
  refine lv_aload_n hx hb dX4_24 rfl (lv_at hl 0 rfl) ?_
  refine lv_bipush (v := Int32.ofInt 8) hx hb dX4_25 (by decide) ?_
  refine cr_newa (atype := .boolean) (cI := cA 2) (n := Int32.ofInt 8) (N' := 8) (a0 := (8, .inl (fun _ => Int32.ofInt 0))) (k9 := 11) rfl hx hb (hts (.arrayClass .boolean) (bc_wat_ok (pos := 184) (by decide +kernel))) (hK.1.2 2 _ rfl).2 hq hS rfl (by decide) (by decide) (Nat.le_of_ble_eq_true rfl) (Nat.le_of_ble_eq_true rfl) (Nat.le_of_ble_eq_true rfl) dX4_27 (fun H hq hS => ?_)
  have hq : cqz_ D q (.inr (4, [.ref (q + 1), .ref (q + 10), .null, .null]) :: ([] ++ (cg_o (cA 5) 8 (q + 1) :: List.replicate 8 (cg_r (cA 0) 8)) ++ [.inl (cA 0, 8, .inl (fun _ => Int32.ofInt 0))] ++ [.inl (cA 2, 8, .inl (fun _ => Int32.ofInt 0))])) H := hq
  refine cr_putF (ci := 4) (C := RX4) (T := TX4) (N := 4) hx hb hts (bc_cl_ok 4 _ rfl).1 tyX4 tyX4_ok nmX4 hown hK hq hS rfl 2 (by decide) (hts (.fieldLink RX4 20 RX4 "settled" "[Z") (bc_wat_ok (pos := 342) (by decide +kernel))) (fun _ h9 => h9) rfl hin rfl (ty := .array .boolean) (by decide +kernel) rfl rfl (Nat.le_of_ble_eq_true rfl) dX4_29 (fun H locs hq hS => ?_)
  have hq : cqz_ D q (.inr (4, [.ref (q + 1), .ref (q + 10), .ref (q + 11), .null]) :: ([] ++ (cg_o (cA 5) 8 (q + 1) :: List.replicate 8 (cg_r (cA 0) 8)) ++ [.inl (cA 0, 8, .inl (fun _ => Int32.ofInt 0))] ++ [.inl (cA 2, 8, .inl (fun _ => Int32.ofInt 0))])) H := hq
  refine lv_aload_n hx hb dX4_32 rfl (lv_at hl 0 rfl) ?_
  refine lv_bipush (v := Int32.ofInt 8) hx hb dX4_33 (by decide) ?_
  refine lv_bipush (v := Int32.ofInt 8) hx hb dX4_35 (by decide) ?_
  refine cr_multi (N := 8) (M := 8) (k9 := 12) rfl hx hb hown (hts (.classLink RX4 9 "[[I") (bc_wat_ok (pos := 339) (by decide +kernel))) hK hq hS (by decide) (by decide) (by decide) (by decide) (by decide) (Nat.le_of_ble_eq_true rfl) (Nat.le_of_ble_eq_true rfl) (Nat.le_of_ble_eq_true rfl) (Nat.le_of_ble_eq_true rfl) dX4_37 (fun H locs hq hS => ?_)
  have hq : cqz_ D q (.inr (4, [.ref (q + 1), .ref (q + 10), .ref (q + 11), .null]) :: ([] ++ (cg_o (cA 5) 8 (q + 1) :: List.replicate 8 (cg_r (cA 0) 8)) ++ [.inl (cA 0, 8, .inl (fun _ => Int32.ofInt 0))] ++ [.inl (cA 2, 8, .inl (fun _ => Int32.ofInt 0))] ++ (cg_o (cA 5) 8 (q + 12) :: List.replicate 8 (cg_r (cA 0) 8)))) H := hq
  refine cr_putF (ci := 4) (C := RX4) (T := TX4) (N := 4) hx hb hts (bc_cl_ok 4 _ rfl).1 tyX4 tyX4_ok nmX4 hown hK hq hS rfl 3 (by decide) (hts (.fieldLink RX4 24 RX4 "tableLoad" "[[I") (bc_wat_ok (pos := 343) (by decide +kernel))) (fun _ h9 => h9) rfl hin rfl (ty := .array (.array .int)) (by decide +kernel) rfl rfl (Nat.le_of_ble_eq_true rfl) dX4_41 (fun H locs hq hS => ?_)
  have hq : cqz_ D q (.inr (4, [.ref (q + 1), .ref (q + 10), .ref (q + 11), .ref (q + 12)]) :: ([] ++ (cg_o (cA 5) 8 (q + 1) :: List.replicate 8 (cg_r (cA 0) 8)) ++ [.inl (cA 0, 8, .inl (fun _ => Int32.ofInt 0))] ++ [.inl (cA 2, 8, .inl (fun _ => Int32.ofInt 0))] ++ (cg_o (cA 5) 8 (q + 12) :: List.replicate 8 (cg_r (cA 0) 8)))) H := hq
  refine W.widen (k := 20) (n := 160) (Nat.le_of_ble_eq_true rfl) (Nat.le_of_ble_eq_true rfl) ?_
  exact W.vret hx hb hr (fun t ht hW => ⟨⟨(), rfl, trivial, by show cqz_ D q (E4_ cA q) t.heap; rw [ht]; exact hq⟩, hS.F ht⟩) hS.2.2 dX4_44
theorem zX5_in : ∀ pc, 45 ≤ pc → pX5_init pc = none := fun _ h => by unfold pX5_init; exact bc_cut_none h
theorem dX5_0 : decode cX5_init 0 = .ok (.aload_n 0, 1) := ((bc_dec_ok kX5_init zX5_in) 0 _ _ _ rfl).1
theorem dX5_1 : decode cX5_init 1 = .ok (.invokespecial 3, 3) := ((bc_dec_ok kX5_init zX5_in) 1 _ _ _ rfl).1
theorem dX5_4 : decode cX5_init 4 = .ok (.aload_n 0, 1) := ((bc_dec_ok kX5_init zX5_in) 4 _ _ _ rfl).1
theorem dX5_5 : decode cX5_init 5 = .ok (.new 9, 3) := ((bc_dec_ok kX5_init zX5_in) 5 _ _ _ rfl).1
theorem dX5_8 : decode cX5_init 8 = .ok (.dup, 1) := ((bc_dec_ok kX5_init zX5_in) 8 _ _ _ rfl).1
theorem dX5_9 : decode cX5_init 9 = .ok (.invokespecial 11, 3) := ((bc_dec_ok kX5_init zX5_in) 9 _ _ _ rfl).1
theorem dX5_12 : decode cX5_init 12 = .ok (.putfield 12, 3) := ((bc_dec_ok kX5_init zX5_in) 12 _ _ _ rfl).1
theorem dX5_15 : decode cX5_init 15 = .ok (.aload_n 0, 1) := ((bc_dec_ok kX5_init zX5_in) 15 _ _ _ rfl).1
theorem dX5_16 : decode cX5_init 16 = .ok (.bipush 16, 2) := ((bc_dec_ok kX5_init zX5_in) 16 _ _ _ rfl).1
theorem dX5_18 : decode cX5_init 18 = .ok (.newarray .int, 2) := ((bc_dec_ok kX5_init zX5_in) 18 _ _ _ rfl).1
theorem dX5_20 : decode cX5_init 20 = .ok (.putfield 18, 3) := ((bc_dec_ok kX5_init zX5_in) 20 _ _ _ rfl).1
theorem dX5_23 : decode cX5_init 23 = .ok (.aload_n 0, 1) := ((bc_dec_ok kX5_init zX5_in) 23 _ _ _ rfl).1
theorem dX5_24 : decode cX5_init 24 = .ok (.bipush 16, 2) := ((bc_dec_ok kX5_init zX5_in) 24 _ _ _ rfl).1
theorem dX5_26 : decode cX5_init 26 = .ok (.iconst 3, 1) := ((bc_dec_ok kX5_init zX5_in) 26 _ _ _ rfl).1
theorem dX5_27 : decode cX5_init 27 = .ok (.multianewarray 22 2, 4) := ((bc_dec_ok kX5_init zX5_in) 27 _ _ _ rfl).1
theorem dX5_31 : decode cX5_init 31 = .ok (.putfield 24, 3) := ((bc_dec_ok kX5_init zX5_in) 31 _ _ _ rfl).1
theorem dX5_34 : decode cX5_init 34 = .ok (.aload_n 0, 1) := ((bc_dec_ok kX5_init zX5_in) 34 _ _ _ rfl).1
theorem dX5_35 : decode cX5_init 35 = .ok (.iconst 0, 1) := ((bc_dec_ok kX5_init zX5_in) 35 _ _ _ rfl).1
theorem dX5_36 : decode cX5_init 36 = .ok (.putfield 27, 3) := ((bc_dec_ok kX5_init zX5_in) 36 _ _ _ rfl).1
theorem dX5_39 : decode cX5_init 39 = .ok (.aload_n 0, 1) := ((bc_dec_ok kX5_init zX5_in) 39 _ _ _ rfl).1
theorem dX5_40 : decode cX5_init 40 = .ok (.iconst 0, 1) := ((bc_dec_ok kX5_init zX5_in) 40 _ _ _ rfl).1
theorem dX5_41 : decode cX5_init 41 = .ok (.putfield 31, 3) := ((bc_dec_ok kX5_init zX5_in) 41 _ _ _ rfl).1
theorem dX5_44 : decode cX5_init 44 = .ok (.return_, 1) := ((bc_dec_ok kX5_init zX5_in) 44 _ _ _ rfl).1
noncomputable def E5_ (cA : Nat → ClassId) (q : Nat) : List va_E := .inr (5, [.ref (q + 1), .ref (q + 3), .ref (q + 4), .int (Int32.ofInt 0), .int (Int32.ofInt 0)]) :: ([] ++ E7_ cA (q + 1) ++ [.inl (cA 0, 16, .inl (fun _ => Int32.ofInt 0))] ++ (cg_o (cA 5) 16 (q + 4) :: List.replicate 16 (cg_r (cA 0) 3)))
theorem E5_len (cA : Nat → ClassId) (q : Nat) : (E5_ cA q).length = 21 := by simp [E5_, E7_len]
set_option maxHeartbeats 4000000 in
set_option maxRecDepth 100000 in
theorem ctX5 (l : Launch) (D : va_G) (cA : Nat → ClassId) : ctc_ l D cA mX5_init { frames := 4, cells := 20, slots := 142, locals := 60 } (.inr (5, [.null, .null, .null, .int (Int32.ofInt 0), .int (Int32.ofInt 0)])) (fun q => E5_ cA q) 20 142 := by
  intro q
  refine Met.ofW (cc := cX5_init) (maxL := 1) (ret := none) (by decide) rfl ?_
  intro p e s m args below meth c s₁ B hml hv
  obtain ⟨rfl, hq, hK⟩ := hv
  have hx := B.exec
  have hb := B.bytes
  have hr := B.returns
  have hts0 := atoms_spec (ws := ctW_ mX5_init) B.pre
  have hts : ∀ w ∈ bc_W, w.before [Value.ref q].toArray s = true := fun w hw => hts0 w (List.mem_cons_of_mem _ hw)
  have hown : s.vm.findClass RX5 = some m.cls := findClass_of_methodNamed B.named
  have hlocks := B.notSynchronized
  have hin : meth.name = "<init>" := (name_of_methodNamed B.named B.method).1
  have hS : va_S (fun a => q ≤ a) s.heap s.heap [] := va_S.rf
  have hl := lv_entry ([.ref q]) (n := 1) (Nat.le_of_ble_eq_true rfl)
  rw [lg_entry_eq]
  generalize (lg_sl ([.ref q]) ++ List.replicate (1 - (lg_sl ([.ref q])).length) Slot.unset).toArray = ls at hl ⊢
  have hl : lv_has ls 1 [(0, .ref q)] := hl
  have hq : cqz_ D q (.inr (5, [.null, .null, .null, .int (Int32.ofInt 0), .int (Int32.ofInt 0)]) :: []) s.heap := hq
  refine lv_aload_n hx hb dX5_0 rfl (lv_at hl 0 rfl) ?_
  refine W.objInit hx hb hown (hts (.methodLink RX5 3 objectInit) (bc_wat_ok (pos := 359) (by decide +kernel))) (hts (.instanceMethod objectInit) (bc_wat_ok (pos := 132) (by decide +kernel))) (hts _ (bc_wat_ok (pos := 133) (by decide +kernel))) rfl (by rw [hml]; exact hl.1) rfl dX5_1 (Nat.le_of_ble_eq_true rfl) (Nat.le_of_ble_eq_true rfl) ?_
  refine W.eq (g2 := F0 m 4 ls []) rfl ?_
  refine lv_aload_n hx hb dX5_4 rfl (lv_at hl 0 rfl) ?_
  refine cr_new (ci := 7) (fs := [.null, .int (Int32.ofInt 0)]) (C := RX7) (T := TX7) (N := 2) (k9 := 1) rfl hx hb hts (bc_cl_ok 7 _ rfl).1 tyX7 tyX7_ok hown (hts (.classLink RX5 9 RX7) (bc_wat_ok (pos := 360) (by decide +kernel))) (hts (.instantiable RX7 2) (bc_wat_ok (pos := 361) (by decide +kernel))) (hts (.initialized RX7) (bc_wat_ok (pos := 106) (by decide +kernel))) hK hq hS rfl (fun j hj => by rcases (show j = 0 ∨ j = 1 by omega) with rfl | rfl <;> rfl) (Nat.le_of_ble_eq_true rfl) (Nat.le_of_ble_eq_true rfl) dX5_5 (fun H hq hS => ?_)
  refine lv_dup hx hb dX5_8 rfl ?_
  refine cr_callN (host := "BridgeChapel") (Y := mX7_init) (rm := { frames := 2, cells := 1, slots := 60, locals := 20 }) (es := .inr (5, [.null, .null, .null, .int (Int32.ofInt 0), .int (Int32.ofInt 0)]) :: ([])) (k9 := 1) rfl hx hb hml hown hts (ctX7 l D cA) (bc_mem_W (bc_tk2 (List.mem_of_getElem? (i := 29) rfl)) rfl) (bc_watN_ok (pos := 362) (by decide +kernel)) (bc_wat_ok (pos := 106) (by decide +kernel)) (bc_wat_ok (pos := 363) (by decide +kernel)) rfl (by decide +kernel) rfl rfl ⟨Nat.le_of_ble_eq_true rfl, Nat.le_of_ble_eq_true rfl⟩ hK hq hS hl.1 (Nat.le_of_ble_eq_true rfl) dX5_9 ⟨Nat.le_of_ble_eq_true rfl, Nat.le_of_ble_eq_true rfl⟩ (fun H locs hq hS => ?_)
  have hq : cqz_ D q (.inr (5, [.null, .null, .null, .int (Int32.ofInt 0), .int (Int32.ofInt 0)]) :: ([] ++ E7_ cA (q + 1))) H := hq
  refine cr_putF (ci := 5) (C := RX5) (T := TX5) (N := 5) hx hb hts (bc_cl_ok 5 _ rfl).1 tyX5 tyX5_ok nmX5 hown hK hq hS rfl 0 (by decide) (hts (.fieldLink RX5 12 RX5 "text" "LBridgeChapel$Text;") (bc_wat_ok (pos := 377) (by decide +kernel))) (fun _ h9 => h9) rfl hin rfl (ty := .object "BridgeChapel$Text") (by decide +kernel) rfl rfl (Nat.le_of_ble_eq_true rfl) dX5_12 (fun H locs hq hS => ?_)
  have hq : cqz_ D q (.inr (5, [.ref (q + 1), .null, .null, .int (Int32.ofInt 0), .int (Int32.ofInt 0)]) :: ([] ++ E7_ cA (q + 1))) H := hq
  refine lv_aload_n hx hb dX5_15 rfl (lv_at hl 0 rfl) ?_
  refine lv_bipush (v := Int32.ofInt 16) hx hb dX5_16 (by decide) ?_
  refine cr_newa (atype := .int) (cI := cA 0) (n := Int32.ofInt 16) (N' := 16) (a0 := (16, .inl (fun _ => Int32.ofInt 0))) (k9 := 3) (by simp [E7_len]) hx hb (hts (.arrayClass .int) (bc_wat_ok (pos := 183) (by decide +kernel))) (hK.1.2 0 _ rfl).2 hq hS rfl (by decide) (by decide) (Nat.le_of_ble_eq_true rfl) (Nat.le_of_ble_eq_true rfl) (Nat.le_of_ble_eq_true rfl) dX5_18 (fun H hq hS => ?_)
  have hq : cqz_ D q (.inr (5, [.ref (q + 1), .null, .null, .int (Int32.ofInt 0), .int (Int32.ofInt 0)]) :: ([] ++ E7_ cA (q + 1) ++ [.inl (cA 0, 16, .inl (fun _ => Int32.ofInt 0))])) H := hq
  refine cr_putF (ci := 5) (C := RX5) (T := TX5) (N := 5) hx hb hts (bc_cl_ok 5 _ rfl).1 tyX5 tyX5_ok nmX5 hown hK hq hS rfl 1 (by decide) (hts (.fieldLink RX5 18 RX5 "kinds" "[I") (bc_wat_ok (pos := 379) (by decide +kernel))) (fun _ h9 => h9) rfl hin rfl (ty := .array .int) (by decide +kernel) rfl rfl (Nat.le_of_ble_eq_true rfl) dX5_20 (fun H locs hq hS => ?_)
  have hq : cqz_ D q (.inr (5, [.ref (q + 1), .ref (q + 3), .null, .int (Int32.ofInt 0), .int (Int32.ofInt 0)]) :: ([] ++ E7_ cA (q + 1) ++ [.inl (cA 0, 16, .inl (fun _ => Int32.ofInt 0))])) H := hq
  refine lv_aload_n hx hb dX5_23 rfl (lv_at hl 0 rfl) ?_
  refine lv_bipush (v := Int32.ofInt 16) hx hb dX5_24 (by decide) ?_
  refine lv_iconst (v := Int32.ofInt 3) hx hb dX5_26 (by decide) ?_
  refine cr_multi (N := 16) (M := 3) (k9 := 4) (by simp [E7_len]) hx hb hown (hts (.classLink RX5 22 "[[I") (bc_wat_ok (pos := 376) (by decide +kernel))) hK hq hS (by decide) (by decide) (by decide) (by decide) (by decide) (Nat.le_of_ble_eq_true rfl) (Nat.le_of_ble_eq_true rfl) (Nat.le_of_ble_eq_true rfl) (Nat.le_of_ble_eq_true rfl) dX5_27 (fun H locs hq hS => ?_)
  have hq : cqz_ D q (.inr (5, [.ref (q + 1), .ref (q + 3), .null, .int (Int32.ofInt 0), .int (Int32.ofInt 0)]) :: ([] ++ E7_ cA (q + 1) ++ [.inl (cA 0, 16, .inl (fun _ => Int32.ofInt 0))] ++ (cg_o (cA 5) 16 (q + 4) :: List.replicate 16 (cg_r (cA 0) 3)))) H := hq
  refine cr_putF (ci := 5) (C := RX5) (T := TX5) (N := 5) hx hb hts (bc_cl_ok 5 _ rfl).1 tyX5 tyX5_ok nmX5 hown hK hq hS rfl 2 (by decide) (hts (.fieldLink RX5 24 RX5 "arguments" "[[I") (bc_wat_ok (pos := 380) (by decide +kernel))) (fun _ h9 => h9) rfl hin rfl (ty := .array (.array .int)) (by decide +kernel) rfl rfl (Nat.le_of_ble_eq_true rfl) dX5_31 (fun H locs hq hS => ?_)
  have hq : cqz_ D q (.inr (5, [.ref (q + 1), .ref (q + 3), .ref (q + 4), .int (Int32.ofInt 0), .int (Int32.ofInt 0)]) :: ([] ++ E7_ cA (q + 1) ++ [.inl (cA 0, 16, .inl (fun _ => Int32.ofInt 0))] ++ (cg_o (cA 5) 16 (q + 4) :: List.replicate 16 (cg_r (cA 0) 3)))) H := hq
  refine lv_aload_n hx hb dX5_34 rfl (lv_at hl 0 rfl) ?_
  refine lv_iconst (v := Int32.ofInt 0) hx hb dX5_35 (by decide) ?_
  refine cr_put (ci := 5) (C := RX5) (T := TX5) (N := 5) hx hb hts (bc_cl_ok 5 _ rfl).1 tyX5 tyX5_ok nmX5 hown hK hq hS rfl 3 (by decide) (hts (.fieldLink RX5 27 RX5 "count" "I") (bc_wat_ok (pos := 381) (by decide +kernel))) (fun _ h9 => h9) rfl (ty := .int) (by decide +kernel) rfl rfl (Nat.le_of_ble_eq_true rfl) dX5_36 (fun H locs hq hS => ?_)
  have hq : cqz_ D q (.inr (5, [.ref (q + 1), .ref (q + 3), .ref (q + 4), .int (Int32.ofInt 0), .int (Int32.ofInt 0)]) :: ([] ++ E7_ cA (q + 1) ++ [.inl (cA 0, 16, .inl (fun _ => Int32.ofInt 0))] ++ (cg_o (cA 5) 16 (q + 4) :: List.replicate 16 (cg_r (cA 0) 3)))) H := hq
  refine lv_aload_n hx hb dX5_39 rfl (lv_at hl 0 rfl) ?_
  refine lv_iconst (v := Int32.ofInt 0) hx hb dX5_40 (by decide) ?_
  refine cr_put (ci := 5) (C := RX5) (T := TX5) (N := 5) hx hb hts (bc_cl_ok 5 _ rfl).1 tyX5 tyX5_ok nmX5 hown hK hq hS rfl 4 (by decide) (hts (.fieldLink RX5 31 RX5 "position" "I") (bc_wat_ok (pos := 383) (by decide +kernel))) (fun _ h9 => h9) rfl (ty := .int) (by decide +kernel) rfl rfl (Nat.le_of_ble_eq_true rfl) dX5_41 (fun H locs hq hS => ?_)
  have hq : cqz_ D q (.inr (5, [.ref (q + 1), .ref (q + 3), .ref (q + 4), .int (Int32.ofInt 0), .int (Int32.ofInt 0)]) :: ([] ++ E7_ cA (q + 1) ++ [.inl (cA 0, 16, .inl (fun _ => Int32.ofInt 0))] ++ (cg_o (cA 5) 16 (q + 4) :: List.replicate 16 (cg_r (cA 0) 3)))) H := hq
  refine W.widen (k := 20) (n := 142) (Nat.le_of_ble_eq_true rfl) (Nat.le_of_ble_eq_true rfl) ?_
  exact W.vret hx hb hr (fun t ht hW => ⟨⟨(), rfl, trivial, by show cqz_ D q (E5_ cA q) t.heap; rw [ht]; exact hq⟩, hS.F ht⟩) hS.2.2 dX5_44
theorem zX1_in : ∀ pc, 51 ≤ pc → pX1_init pc = none := fun _ h => by unfold pX1_init; exact bc_cut_none h
theorem dX1_0 : decode cX1_init 0 = .ok (.aload_n 0, 1) := ((bc_dec_ok kX1_init zX1_in) 0 _ _ _ rfl).1
theorem dX1_1 : decode cX1_init 1 = .ok (.invokespecial 3, 3) := ((bc_dec_ok kX1_init zX1_in) 1 _ _ _ rfl).1
theorem dX1_4 : decode cX1_init 4 = .ok (.aload_n 0, 1) := ((bc_dec_ok kX1_init zX1_in) 4 _ _ _ rfl).1
theorem dX1_5 : decode cX1_init 5 = .ok (.bipush 8, 2) := ((bc_dec_ok kX1_init zX1_in) 5 _ _ _ rfl).1
theorem dX1_7 : decode cX1_init 7 = .ok (.anewarray 9, 3) := ((bc_dec_ok kX1_init zX1_in) 7 _ _ _ rfl).1
theorem dX1_10 : decode cX1_init 10 = .ok (.putfield 11, 3) := ((bc_dec_ok kX1_init zX1_in) 10 _ _ _ rfl).1
theorem dX1_13 : decode cX1_init 13 = .ok (.aload_n 0, 1) := ((bc_dec_ok kX1_init zX1_in) 13 _ _ _ rfl).1
theorem dX1_14 : decode cX1_init 14 = .ok (.iconst 0, 1) := ((bc_dec_ok kX1_init zX1_in) 14 _ _ _ rfl).1
theorem dX1_15 : decode cX1_init 15 = .ok (.putfield 17, 3) := ((bc_dec_ok kX1_init zX1_in) 15 _ _ _ rfl).1
theorem dX1_18 : decode cX1_init 18 = .ok (.aload_n 0, 1) := ((bc_dec_ok kX1_init zX1_in) 18 _ _ _ rfl).1
theorem dX1_19 : decode cX1_init 19 = .ok (.iconst 0, 1) := ((bc_dec_ok kX1_init zX1_in) 19 _ _ _ rfl).1
theorem dX1_20 : decode cX1_init 20 = .ok (.putfield 21, 3) := ((bc_dec_ok kX1_init zX1_in) 20 _ _ _ rfl).1
theorem dX1_23 : decode cX1_init 23 = .ok (.iconst 0, 1) := ((bc_dec_ok kX1_init zX1_in) 23 _ _ _ rfl).1
theorem dX1_24 : decode cX1_init 24 = .ok (.istore_n 1, 1) := ((bc_dec_ok kX1_init zX1_in) 24 _ _ _ rfl).1
theorem dX1_25 : decode cX1_init 25 = .ok (.iload_n 1, 1) := ((bc_dec_ok kX1_init zX1_in) 25 _ _ _ rfl).1
theorem dX1_26 : decode cX1_init 26 = .ok (.bipush 8, 2) := ((bc_dec_ok kX1_init zX1_in) 26 _ _ _ rfl).1
theorem dX1_28 : decode cX1_init 28 = .ok (.if_icmp .ge 22, 3) := ((bc_dec_ok kX1_init zX1_in) 28 _ _ _ rfl).1
theorem dX1_31 : decode cX1_init 31 = .ok (.aload_n 0, 1) := ((bc_dec_ok kX1_init zX1_in) 31 _ _ _ rfl).1
theorem dX1_32 : decode cX1_init 32 = .ok (.getfield 11, 3) := ((bc_dec_ok kX1_init zX1_in) 32 _ _ _ rfl).1
theorem dX1_35 : decode cX1_init 35 = .ok (.iload_n 1, 1) := ((bc_dec_ok kX1_init zX1_in) 35 _ _ _ rfl).1
theorem dX1_36 : decode cX1_init 36 = .ok (.new 9, 3) := ((bc_dec_ok kX1_init zX1_in) 36 _ _ _ rfl).1
theorem dX1_39 : decode cX1_init 39 = .ok (.dup, 1) := ((bc_dec_ok kX1_init zX1_in) 39 _ _ _ rfl).1
theorem dX1_40 : decode cX1_init 40 = .ok (.invokespecial 24, 3) := ((bc_dec_ok kX1_init zX1_in) 40 _ _ _ rfl).1
theorem dX1_43 : decode cX1_init 43 = .ok (.aastore, 1) := ((bc_dec_ok kX1_init zX1_in) 43 _ _ _ rfl).1
theorem dX1_44 : decode cX1_init 44 = .ok (.iinc 1 1, 3) := ((bc_dec_ok kX1_init zX1_in) 44 _ _ _ rfl).1
theorem dX1_47 : decode cX1_init 47 = .ok (.goto (-22), 3) := ((bc_dec_ok kX1_init zX1_in) 47 _ _ _ rfl).1
theorem dX1_50 : decode cX1_init 50 = .ok (.return_, 1) := ((bc_dec_ok kX1_init zX1_in) 50 _ _ _ rfl).1
/-- the states behind one another -/
noncomputable def EL_ (cA : Nat → ClassId) (q : Nat) : Nat → List va_E
  | 0 => []
  | t + 1 => EL_ cA q t ++ E6_ cA (q + (2 + 14 * t))
theorem EL_len (cA : Nat → ClassId) (q : Nat) : ∀ t, (EL_ cA q t).length = 14 * t := by
  intro t
  induction t with
  | zero => rfl
  | succ t ih =>
    show (EL_ cA q t ++ E6_ cA (q + (2 + 14 * t))).length = _
    rw [List.length_append, ih, E6_len]
    omega
noncomputable abbrev EO1_ (q : Nat) : va_E := .inr (1, [.ref (q + 1), .int (Int32.ofInt 0), .int (Int32.ofInt 0)])
noncomputable abbrev EA_ (cA : Nat → ClassId) (q t : Nat) : va_E := .inl (cA 6, 8, .inr (.inr (.inr (.inr (fun j => if j < t then some (q + (2 + 14 * j)) else none)))))
noncomputable def E1_ (cA : Nat → ClassId) (q : Nat) : List va_E := EO1_ q :: EA_ cA q 8 :: EL_ cA q 8
theorem E1_len (cA : Nat → ClassId) (q : Nat) : (E1_ cA q).length = 114 := by simp [E1_, EL_len]
theorem EA_0 (cA : Nat → ClassId) (q : Nat) : (.inl (cA 6, 8, .inr (.inr (.inr (.inr (fun _ => none))))) : va_E) = EA_ cA q 0 := by
  unfold EA_
  congr 7
theorem EA_s (cA : Nat → ClassId) (q t : Nat) : (.inl (cA 6, 8, .inr (.inr (.inr (.inr (va_up (fun j => if j < t then some (q + (2 + 14 * j)) else none) t (some (q + (2 + 14 * t)))))))) : va_E) = EA_ cA q (t + 1) := by
  unfold EA_
  refine congrArg (fun f : Nat → Option Nat => (.inl (cA 6, 8, .inr (.inr (.inr (.inr f)))) : va_E)) (funext fun j => ?_)
  unfold va_up
  by_cases e : j = t
  · rw [if_pos e, if_pos (by omega), e]
  · rw [if_neg e]
    show (if j < t then some (q + (2 + 14 * j)) else none) = _
    by_cases e2 : j < t
    · rw [if_pos e2, if_pos (by omega)]
    · rw [if_neg e2, if_neg (by omega)]
set_option maxHeartbeats 4000000 in
set_option maxRecDepth 100000 in
theorem ctX1 (l : Launch) (D : va_G) (cA : Nat → ClassId) : ctc_ l D cA mX1_init { frames := 6, cells := 113, slots := 1200, locals := 120 } (.inr (1, [.null, .int (Int32.ofInt 0), .int (Int32.ofInt 0)])) (fun q => E1_ cA q) 113 1200 := by
  intro q
  refine Met.ofW (cc := cX1_init) (maxL := 2) (ret := none) (by decide) rfl ?_
  intro p e s m args below meth c s₁ B hml hv
  obtain ⟨rfl, hq, hK⟩ := hv
  have hx := B.exec
  have hb := B.bytes
  have hr := B.returns
  have hts0 := atoms_spec (ws := ctW_ mX1_init) B.pre
  have hts : ∀ w ∈ bc_W, w.before [Value.ref q].toArray s = true := fun w hw => hts0 w (List.mem_cons_of_mem _ hw)
  have hown : s.vm.findClass RX1 = some m.cls := findClass_of_methodNamed B.named
  have hlocks := B.notSynchronized
  have hin : meth.name = "<init>" := (name_of_methodNamed B.named B.method).1
  have hS : va_S (fun a => q ≤ a) s.heap s.heap [] := va_S.rf
  have hl := lv_entry ([.ref q]) (n := 2) (Nat.le_of_ble_eq_true rfl)
  rw [lg_entry_eq]
  generalize (lg_sl ([.ref q]) ++ List.replicate (2 - (lg_sl ([.ref q])).length) Slot.unset).toArray = ls at hl ⊢
  have hl : lv_has ls 2 [(0, .ref q)] := hl
  have hq : cqz_ D q (.inr (1, [.null, .int (Int32.ofInt 0), .int (Int32.ofInt 0)]) :: []) s.heap := hq
  refine lv_aload_n hx hb dX1_0 rfl (lv_at hl 0 rfl) ?_
  refine W.objInit hx hb hown (hts (.methodLink RX1 3 objectInit) (bc_wat_ok (pos := 272) (by decide +kernel))) (hts (.instanceMethod objectInit) (bc_wat_ok (pos := 132) (by decide +kernel))) (hts _ (bc_wat_ok (pos := 133) (by decide +kernel))) rfl (by rw [hml]; exact hl.1) rfl dX1_1 (Nat.le_of_ble_eq_true rfl) (Nat.le_of_ble_eq_true rfl) ?_
  refine W.eq (g2 := F0 m 4 ls []) rfl ?_
  refine lv_aload_n hx hb dX1_4 rfl (lv_at hl 0 rfl) ?_
  refine lv_bipush (v := Int32.ofInt 8) hx hb dX1_5 (by decide) ?_
  refine cr_newq (C := RX6) (cI := cA 6) (n := Int32.ofInt 8) (N' := 8) (k9 := 1) rfl hx hb hown (hts (.classLink RX1 9 RX6) (bc_wat_ok (pos := 273) (by decide +kernel))) hK.2.1 (by obtain ⟨_, _, _, _, _, h⟩ := (hK.1.2 6 _ rfl).2; exact h) hq hS (by decide) (by decide) (Nat.le_of_ble_eq_true rfl) (Nat.le_of_ble_eq_true rfl) (Nat.le_of_ble_eq_true rfl) dX1_7 (fun H hq hS => ?_)
  have hq : cqz_ D q (.inr (1, [.null, .int (Int32.ofInt 0), .int (Int32.ofInt 0)]) :: ([] ++ [.inl (cA 6, 8, .inr (.inr (.inr (.inr (fun _ => none)))))])) H := hq
  refine cr_putF (ci := 1) (C := RX1) (T := TX1) (N := 3) hx hb hts (bc_cl_ok 1 _ rfl).1 tyX1 tyX1_ok nmX1 hown hK hq hS rfl 0 (by decide) (hts (.fieldLink RX1 11 RX1 "states" "[LBridgeChapel$State;") (bc_wat_ok (pos := 276) (by decide +kernel))) (fun _ h9 => h9) rfl hin rfl (ty := .array (.object "BridgeChapel$State")) (by decide +kernel) rfl rfl (Nat.le_of_ble_eq_true rfl) dX1_10 (fun H locs hq hS => ?_)
  have hq : cqz_ D q (.inr (1, [.ref (q + 1), .int (Int32.ofInt 0), .int (Int32.ofInt 0)]) :: ([] ++ [.inl (cA 6, 8, .inr (.inr (.inr (.inr (fun _ => none)))))])) H := hq
  refine lv_aload_n hx hb dX1_13 rfl (lv_at hl 0 rfl) ?_
  refine lv_iconst (v := Int32.ofInt 0) hx hb dX1_14 (by decide) ?_
  refine cr_put (ci := 1) (C := RX1) (T := TX1) (N := 3) hx hb hts (bc_cl_ok 1 _ rfl).1 tyX1 tyX1_ok nmX1 hown hK hq hS rfl 1 (by decide) (hts (.fieldLink RX1 17 RX1 "next" "I") (bc_wat_ok (pos := 277) (by decide +kernel))) (fun _ h9 => h9) rfl (ty := .int) (by decide +kernel) rfl rfl (Nat.le_of_ble_eq_true rfl) dX1_15 (fun H locs hq hS => ?_)
  have hq : cqz_ D q (.inr (1, [.ref (q + 1), .int (Int32.ofInt 0), .int (Int32.ofInt 0)]) :: ([] ++ [.inl (cA 6, 8, .inr (.inr (.inr (.inr (fun _ => none)))))])) H := hq
  refine lv_aload_n hx hb dX1_18 rfl (lv_at hl 0 rfl) ?_
  refine lv_iconst (v := Int32.ofInt 0) hx hb dX1_19 (by decide) ?_
  refine cr_put (ci := 1) (C := RX1) (T := TX1) (N := 3) hx hb hts (bc_cl_ok 1 _ rfl).1 tyX1 tyX1_ok nmX1 hown hK hq hS rfl 2 (by decide) (hts (.fieldLink RX1 21 RX1 "count" "I") (bc_wat_ok (pos := 278) (by decide +kernel))) (fun _ h9 => h9) rfl (ty := .int) (by decide +kernel) rfl rfl (Nat.le_of_ble_eq_true rfl) dX1_20 (fun H locs hq hS => ?_)
  have hq : cqz_ D q (.inr (1, [.ref (q + 1), .int (Int32.ofInt 0), .int (Int32.ofInt 0)]) :: ([] ++ [.inl (cA 6, 8, .inr (.inr (.inr (.inr (fun _ => none)))))])) H := hq
  have L : ∀ (n t : Nat) (H : Heap) (locs : List Loc) (ls : Array Slot), t + n = 8 → cqz_ D q (EO1_ q :: EA_ cA q t :: EL_ cA q t) H → va_S (fun a => q ≤ a) s.heap H locs → lv_has ls 2 [(1, .int (Int32.ofInt t)), (0, .ref q)] → W p l e (headSpec (ctW_ mX1_init) { frames := 6, cells := 113, slots := 1200, locals := 120 }).room s m [Value.ref q].toArray below meth c H locs (1 + 14 * t) (8 + 149 * t) (MQ below (va_Qv (fun _ : Unit => True) (fun _ t => cqz_ D q (E1_ cA q) t.heap) (fun a => q ≤ a)) [Value.ref q].toArray s 113 1200 (fun a => q ≤ a)) (F0 m 25 ls []) := by
    intro n
    induction n with
    | zero =>
      intro t H locs ls ht hq hS hl
      have t8 : t = 8 := by omega
      subst t8
      refine lv_iload_n hx hb dX1_25 rfl (lv_at hl 0 rfl) ?_
      refine lv_bipush (v := Int32.ofInt 8) hx hb dX1_26 (by decide) ?_
      refine lv_icmp_ge (tgt := 50) hx hb dX1_28 rfl (fun _ => ?_) (fun c => absurd (by decide) c)
      exact W.vret hx hb hr (fun t ht hW => ⟨⟨(), rfl, trivial, by show cqz_ D q (E1_ cA q) t.heap; rw [ht]; exact hq⟩, hS.F ht⟩) hS.2.2 dX1_50
    | succ n ih =>
      intro t H locs ls ht hq hS hl
      have t8 : t = 0 ∨ t = 1 ∨ t = 2 ∨ t = 3 ∨ t = 4 ∨ t = 5 ∨ t = 6 ∨ t = 7 := by omega
      have hi1 : ¬ Int32.ofInt 8 ≤ Int32.ofInt (t : Int) := by rcases t8 with rfl | rfl | rfl | rfl | rfl | rfl | rfl | rfl <;> decide
      have hi2 : Int32.ofInt (t : Int) + Int32.ofInt 1 = Int32.ofInt ((t + 1 : Nat) : Int) := by rcases t8 with rfl | rfl | rfl | rfl | rfl | rfl | rfl | rfl <;> decide
      obtain ⟨hi3, hi4⟩ : vp_in (Int32.ofInt (t : Int)) 8 ∧ (Int32.ofInt (t : Int)).toNatClampNeg = ((t : Int)).toNat := vp_in32 (by omega) (by omega) (by decide)
      have hi5 : ((t : Int)).toNat = t := by omega
      have len : (EO1_ q :: EA_ cA q t :: EL_ cA q t).length = 2 + 14 * t := by simp [EL_len]; omega
      have r1 : 1 + 14 * t + 1 ≤ 113 := by omega
      have r2 : 8 + 149 * t + 3 ≤ 1200 := by omega
      have r3 : 1 + 14 * t + 1 + 13 ≤ 113 := by omega
      have r4 : 8 + 149 * t + 3 + 146 ≤ 1200 := by omega
      refine lv_iload_n hx hb dX1_25 rfl (lv_at hl 0 rfl) ?_
      refine lv_bipush (v := Int32.ofInt 8) hx hb dX1_26 (by decide) ?_
      refine lv_icmp_ge (tgt := 50) hx hb dX1_28 rfl (fun c => absurd c hi1) (fun _ => ?_)
      refine lv_aload_n hx hb dX1_31 rfl (lv_at hl 1 rfl) ?_
      refine va_get (D := D) (ci := 1) (C := RX1) (T := TX1) (N := 3) hx hb hts (bc_cl_ok 1 _ rfl).1 hown hK.1 (cqz_P hq) 0 rfl rfl 0 (by decide) (hts (.fieldLink RX1 11 RX1 "states" "[LBridgeChapel$State;") (bc_wat_ok (pos := 276) (by decide +kernel))) (fun _ h9 => h9) rfl dX1_32 ?_
      refine lv_iload_n hx hb dX1_35 rfl (lv_at hl 0 rfl) ?_
      refine cr_new (ci := 6) (fs := [.null, .null, .null]) (C := RX6) (T := TX6) (N := 3) len hx hb hts (bc_cl_ok 6 _ rfl).1 tyX6 tyX6_ok hown (hts (.classLink RX1 9 RX6) (bc_wat_ok (pos := 273) (by decide +kernel))) (hts (.instantiable RX6 3) (bc_wat_ok (pos := 135) (by decide +kernel))) (hts (.initialized RX6) (bc_wat_ok (pos := 97) (by decide +kernel))) hK hq hS rfl (fun j hj => by rcases (show j = 0 ∨ j = 1 ∨ j = 2 by omega) with rfl | rfl | rfl <;> rfl) r1 r2 dX1_36 (fun H hq hS => ?_)
      refine lv_dup hx hb dX1_39 rfl ?_
      refine cr_callN (host := "BridgeChapel") (Y := mX6_init) (rm := { frames := 4, cells := 13, slots := 146, locals := 60 }) (es := EO1_ q :: EA_ cA q t :: EL_ cA q t) len hx hb hml hown hts (ctX6 l D cA) (bc_mem_W (bc_tk1 (List.mem_of_getElem? (i := 43) rfl)) rfl) (bc_watN_ok (pos := 275) (by decide +kernel)) (bc_wat_ok (pos := 97) (by decide +kernel)) (bc_wat_ok (pos := 137) (by decide +kernel)) rfl (by decide +kernel) rfl rfl ⟨Nat.le_of_ble_eq_true rfl, Nat.le_of_ble_eq_true rfl⟩ hK hq hS hl.1 (Nat.le_of_ble_eq_true rfl) dX1_40 ⟨r3, r4⟩ (fun H locs hq hS => ?_)
      have hq : cqz_ D q (EO1_ q :: EA_ cA q t :: EL_ cA q (t + 1)) H := hq
      have hv : (EO1_ q :: EA_ cA q t :: EL_ cA q (t + 1))[2 + 14 * t]? = (E6_ cA (q + (2 + 14 * t)))[0]? := by
        refine (congrArg (fun i : Nat => (EO1_ q :: EA_ cA q t :: EL_ cA q (t + 1))[i]?) (show 2 + 14 * t = 14 * t + 1 + 1 by omega)).trans ?_
        show (EL_ cA q t ++ E6_ cA (q + (2 + 14 * t)))[14 * t]? = _
        rw [List.getElem?_append_right (by rw [EL_len]; omega), EL_len, Nat.sub_self]
      refine cr_ast (k0 := 1) (kv := 2 + 14 * t) (N := 8) hx hb hK hq hS rfl (hv.trans rfl) hi3 dX1_43 (fun H locs hq hS => ?_)
      rw [hi4, hi5] at hq
      have hq : cqz_ D q (EO1_ q :: EA_ cA q (t + 1) :: EL_ cA q (t + 1)) H := by rw [← EA_s]; exact hq
      refine lv_iinc (v := Int32.ofInt ((t + 1 : Nat) : Int)) (k := 0) hx hb dX1_44 hl rfl hi2 (by decide) rfl (fun ls hl => ?_)
      refine lv_goto (tgt := 25) hx hb dX1_47 rfl ?_
      have h := ih (t + 1) H locs ls (by omega) hq hS hl
      rw [show 1 + 14 * (t + 1) = 1 + 14 * t + 1 + 13 by omega, show 8 + 149 * (t + 1) = 8 + 149 * t + 3 + 146 by omega] at h
      exact h
  refine lv_iconst (v := Int32.ofInt 0) hx hb dX1_23 (by decide) ?_
  refine lv_istore_n hx hb dX1_24 rfl hl (by decide) rfl (fun ls hl => ?_)
  have hq : cqz_ D q (EO1_ q :: EA_ cA q 0 :: EL_ cA q 0) H := by rw [← EA_0]; exact hq
  exact L 8 0 H _ ls rfl hq hS hl
theorem zX10_in : ∀ pc, 119 ≤ pc → pX10_init pc = none := fun _ h => by unfold pX10_init; exact bc_cut_none h
theorem dX10_0 : decode cX10_init 0 = .ok (.aload_n 0, 1) := ((bc_dec_ok kX10_init zX10_in) 0 _ _ _ rfl).1
theorem dX10_1 : decode cX10_init 1 = .ok (.invokespecial 1, 3) := ((bc_dec_ok kX10_init zX10_in) 1 _ _ _ rfl).1
theorem dX10_4 : decode cX10_init 4 = .ok (.aload_n 0, 1) := ((bc_dec_ok kX10_init zX10_in) 4 _ _ _ rfl).1
theorem dX10_5 : decode cX10_init 5 = .ok (.new 7, 3) := ((bc_dec_ok kX10_init zX10_in) 5 _ _ _ rfl).1
theorem dX10_8 : decode cX10_init 8 = .ok (.dup, 1) := ((bc_dec_ok kX10_init zX10_in) 8 _ _ _ rfl).1
theorem dX10_9 : decode cX10_init 9 = .ok (.invokespecial 9, 3) := ((bc_dec_ok kX10_init zX10_in) 9 _ _ _ rfl).1
theorem dX10_12 : decode cX10_init 12 = .ok (.putfield 10, 3) := ((bc_dec_ok kX10_init zX10_in) 12 _ _ _ rfl).1
theorem dX10_15 : decode cX10_init 15 = .ok (.aload_n 0, 1) := ((bc_dec_ok kX10_init zX10_in) 15 _ _ _ rfl).1
theorem dX10_16 : decode cX10_init 16 = .ok (.new 7, 3) := ((bc_dec_ok kX10_init zX10_in) 16 _ _ _ rfl).1
theorem dX10_19 : decode cX10_init 19 = .ok (.dup, 1) := ((bc_dec_ok kX10_init zX10_in) 19 _ _ _ rfl).1
theorem dX10_20 : decode cX10_init 20 = .ok (.invokespecial 9, 3) := ((bc_dec_ok kX10_init zX10_in) 20 _ _ _ rfl).1
theorem dX10_23 : decode cX10_init 23 = .ok (.putfield 16, 3) := ((bc_dec_ok kX10_init zX10_in) 23 _ _ _ rfl).1
theorem dX10_26 : decode cX10_init 26 = .ok (.aload_n 0, 1) := ((bc_dec_ok kX10_init zX10_in) 26 _ _ _ rfl).1
theorem dX10_27 : decode cX10_init 27 = .ok (.new 7, 3) := ((bc_dec_ok kX10_init zX10_in) 27 _ _ _ rfl).1
theorem dX10_30 : decode cX10_init 30 = .ok (.dup, 1) := ((bc_dec_ok kX10_init zX10_in) 30 _ _ _ rfl).1
theorem dX10_31 : decode cX10_init 31 = .ok (.invokespecial 9, 3) := ((bc_dec_ok kX10_init zX10_in) 31 _ _ _ rfl).1
theorem dX10_34 : decode cX10_init 34 = .ok (.putfield 19, 3) := ((bc_dec_ok kX10_init zX10_in) 34 _ _ _ rfl).1
theorem dX10_37 : decode cX10_init 37 = .ok (.aload_n 0, 1) := ((bc_dec_ok kX10_init zX10_in) 37 _ _ _ rfl).1
theorem dX10_38 : decode cX10_init 38 = .ok (.new 22, 3) := ((bc_dec_ok kX10_init zX10_in) 38 _ _ _ rfl).1
theorem dX10_41 : decode cX10_init 41 = .ok (.dup, 1) := ((bc_dec_ok kX10_init zX10_in) 41 _ _ _ rfl).1
theorem dX10_42 : decode cX10_init 42 = .ok (.invokespecial 24, 3) := ((bc_dec_ok kX10_init zX10_in) 42 _ _ _ rfl).1
theorem dX10_45 : decode cX10_init 45 = .ok (.putfield 25, 3) := ((bc_dec_ok kX10_init zX10_in) 45 _ _ _ rfl).1
theorem dX10_48 : decode cX10_init 48 = .ok (.aload_n 0, 1) := ((bc_dec_ok kX10_init zX10_in) 48 _ _ _ rfl).1
theorem dX10_49 : decode cX10_init 49 = .ok (.new 29, 3) := ((bc_dec_ok kX10_init zX10_in) 49 _ _ _ rfl).1
theorem dX10_52 : decode cX10_init 52 = .ok (.dup, 1) := ((bc_dec_ok kX10_init zX10_in) 52 _ _ _ rfl).1
theorem dX10_53 : decode cX10_init 53 = .ok (.invokespecial 31, 3) := ((bc_dec_ok kX10_init zX10_in) 53 _ _ _ rfl).1
theorem dX10_56 : decode cX10_init 56 = .ok (.putfield 32, 3) := ((bc_dec_ok kX10_init zX10_in) 56 _ _ _ rfl).1
theorem dX10_59 : decode cX10_init 59 = .ok (.aload_n 0, 1) := ((bc_dec_ok kX10_init zX10_in) 59 _ _ _ rfl).1
theorem dX10_60 : decode cX10_init 60 = .ok (.new 36, 3) := ((bc_dec_ok kX10_init zX10_in) 60 _ _ _ rfl).1
theorem dX10_63 : decode cX10_init 63 = .ok (.dup, 1) := ((bc_dec_ok kX10_init zX10_in) 63 _ _ _ rfl).1
theorem dX10_64 : decode cX10_init 64 = .ok (.invokespecial 38, 3) := ((bc_dec_ok kX10_init zX10_in) 64 _ _ _ rfl).1
theorem dX10_67 : decode cX10_init 67 = .ok (.putfield 39, 3) := ((bc_dec_ok kX10_init zX10_in) 67 _ _ _ rfl).1
theorem dX10_70 : decode cX10_init 70 = .ok (.aload_n 0, 1) := ((bc_dec_ok kX10_init zX10_in) 70 _ _ _ rfl).1
theorem dX10_71 : decode cX10_init 71 = .ok (.new 43, 3) := ((bc_dec_ok kX10_init zX10_in) 71 _ _ _ rfl).1
theorem dX10_74 : decode cX10_init 74 = .ok (.dup, 1) := ((bc_dec_ok kX10_init zX10_in) 74 _ _ _ rfl).1
theorem dX10_75 : decode cX10_init 75 = .ok (.invokespecial 45, 3) := ((bc_dec_ok kX10_init zX10_in) 75 _ _ _ rfl).1
theorem dX10_78 : decode cX10_init 78 = .ok (.putfield 46, 3) := ((bc_dec_ok kX10_init zX10_in) 78 _ _ _ rfl).1
theorem dX10_81 : decode cX10_init 81 = .ok (.aload_n 0, 1) := ((bc_dec_ok kX10_init zX10_in) 81 _ _ _ rfl).1
theorem dX10_82 : decode cX10_init 82 = .ok (.new 50, 3) := ((bc_dec_ok kX10_init zX10_in) 82 _ _ _ rfl).1
theorem dX10_85 : decode cX10_init 85 = .ok (.dup, 1) := ((bc_dec_ok kX10_init zX10_in) 85 _ _ _ rfl).1
theorem dX10_86 : decode cX10_init 86 = .ok (.invokespecial 52, 3) := ((bc_dec_ok kX10_init zX10_in) 86 _ _ _ rfl).1
theorem dX10_89 : decode cX10_init 89 = .ok (.putfield 53, 3) := ((bc_dec_ok kX10_init zX10_in) 89 _ _ _ rfl).1
theorem dX10_92 : decode cX10_init 92 = .ok (.aload_n 0, 1) := ((bc_dec_ok kX10_init zX10_in) 92 _ _ _ rfl).1
theorem dX10_93 : decode cX10_init 93 = .ok (.new 57, 3) := ((bc_dec_ok kX10_init zX10_in) 93 _ _ _ rfl).1
theorem dX10_96 : decode cX10_init 96 = .ok (.dup, 1) := ((bc_dec_ok kX10_init zX10_in) 96 _ _ _ rfl).1
theorem dX10_97 : decode cX10_init 97 = .ok (.invokespecial 59, 3) := ((bc_dec_ok kX10_init zX10_in) 97 _ _ _ rfl).1
theorem dX10_100 : decode cX10_init 100 = .ok (.putfield 60, 3) := ((bc_dec_ok kX10_init zX10_in) 100 _ _ _ rfl).1
theorem dX10_103 : decode cX10_init 103 = .ok (.aload_n 0, 1) := ((bc_dec_ok kX10_init zX10_in) 103 _ _ _ rfl).1
theorem dX10_104 : decode cX10_init 104 = .ok (.iconst 0, 1) := ((bc_dec_ok kX10_init zX10_in) 104 _ _ _ rfl).1
theorem dX10_105 : decode cX10_init 105 = .ok (.putfield 64, 3) := ((bc_dec_ok kX10_init zX10_in) 105 _ _ _ rfl).1
theorem dX10_108 : decode cX10_init 108 = .ok (.aload_n 0, 1) := ((bc_dec_ok kX10_init zX10_in) 108 _ _ _ rfl).1
theorem dX10_109 : decode cX10_init 109 = .ok (.iconst (-1), 1) := ((bc_dec_ok kX10_init zX10_in) 109 _ _ _ rfl).1
theorem dX10_110 : decode cX10_init 110 = .ok (.putfield 68, 3) := ((bc_dec_ok kX10_init zX10_in) 110 _ _ _ rfl).1
theorem dX10_113 : decode cX10_init 113 = .ok (.aload_n 0, 1) := ((bc_dec_ok kX10_init zX10_in) 113 _ _ _ rfl).1
theorem dX10_114 : decode cX10_init 114 = .ok (.iconst (-1), 1) := ((bc_dec_ok kX10_init zX10_in) 114 _ _ _ rfl).1
theorem dX10_115 : decode cX10_init 115 = .ok (.putfield 72, 3) := ((bc_dec_ok kX10_init zX10_in) 115 _ _ _ rfl).1
theorem dX10_118 : decode cX10_init 118 = .ok (.return_, 1) := ((bc_dec_ok kX10_init zX10_in) 118 _ _ _ rfl).1
noncomputable def E10_ (cA : Nat → ClassId) (q : Nat) : List va_E := .inr (10, [.ref (q + 1), .ref (q + 15), .ref (q + 29), .ref (q + 43), .ref (q + 157), .ref (q + 171), .ref (q + 174), .ref (q + 195), .ref (q + 216), .int (Int32.ofInt 0), .int (Int32.ofInt (-1)), .int (Int32.ofInt (-1))]) :: ([] ++ E6_ cA (q + 1) ++ E6_ cA (q + 15) ++ E6_ cA (q + 29) ++ E1_ cA (q + 43) ++ E9_ cA (q + 157) ++ E0_ cA (q + 171) ++ E4_ cA (q + 174) ++ E5_ cA (q + 195) ++ E7_ cA (q + 216))
theorem E10_len (cA : Nat → ClassId) (q : Nat) : (E10_ cA q).length = 218 := by simp [E10_, E0_len, E1_len, E4_len, E5_len, E6_len, E7_len, E9_len]
set_option maxHeartbeats 4000000 in
set_option maxRecDepth 100000 in
theorem ctX10 (l : Launch) (D : va_G) (cA : Nat → ClassId) : ctc_ l D cA mX10_init { frames := 10, cells := 217, slots := 2152, locals := 200 } (.inr (10, [.null, .null, .null, .null, .null, .null, .null, .null, .null, .int (Int32.ofInt 0), .int (Int32.ofInt 0), .int (Int32.ofInt 0)])) (fun q => E10_ cA q) 217 2152 := by
  intro q
  refine Met.ofW (cc := cX10_init) (maxL := 1) (ret := none) (by decide) rfl ?_
  intro p e s m args below meth c s₁ B hml hv
  obtain ⟨rfl, hq, hK⟩ := hv
  have hx := B.exec
  have hb := B.bytes
  have hr := B.returns
  have hts0 := atoms_spec (ws := ctW_ mX10_init) B.pre
  have hts : ∀ w ∈ bc_W, w.before [Value.ref q].toArray s = true := fun w hw => hts0 w (List.mem_cons_of_mem _ hw)
  have hown : s.vm.findClass RX10 = some m.cls := findClass_of_methodNamed B.named
  have hlocks := B.notSynchronized
  have hin : meth.name = "<init>" := (name_of_methodNamed B.named B.method).1
  have hS : va_S (fun a => q ≤ a) s.heap s.heap [] := va_S.rf
  have hl := lv_entry ([.ref q]) (n := 1) (Nat.le_of_ble_eq_true rfl)
  rw [lg_entry_eq]
  generalize (lg_sl ([.ref q]) ++ List.replicate (1 - (lg_sl ([.ref q])).length) Slot.unset).toArray = ls at hl ⊢
  have hl : lv_has ls 1 [(0, .ref q)] := hl
  have hq : cqz_ D q (.inr (10, [.null, .null, .null, .null, .null, .null, .null, .null, .null, .int (Int32.ofInt 0), .int (Int32.ofInt 0), .int (Int32.ofInt 0)]) :: []) s.heap := hq
  refine lv_aload_n hx hb dX10_0 rfl (lv_at hl 0 rfl) ?_
  refine W.objInit hx hb hown (hts (.methodLink RX10 1 objectInit) (bc_wat_ok (pos := 131) (by decide +kernel))) (hts (.instanceMethod objectInit) (bc_wat_ok (pos := 132) (by decide +kernel))) (hts _ (bc_wat_ok (pos := 133) (by decide +kernel))) rfl (by rw [hml]; exact hl.1) rfl dX10_1 (Nat.le_of_ble_eq_true rfl) (Nat.le_of_ble_eq_true rfl) ?_
  refine W.eq (g2 := F0 m 4 ls []) rfl ?_
  refine lv_aload_n hx hb dX10_4 rfl (lv_at hl 0 rfl) ?_
  refine cr_new (ci := 6) (fs := [.null, .null, .null]) (C := RX6) (T := TX6) (N := 3) (k9 := 1) rfl hx hb hts (bc_cl_ok 6 _ rfl).1 tyX6 tyX6_ok hown (hts (.classLink RX10 7 RX6) (bc_wat_ok (pos := 134) (by decide +kernel))) (hts (.instantiable RX6 3) (bc_wat_ok (pos := 135) (by decide +kernel))) (hts (.initialized RX6) (bc_wat_ok (pos := 97) (by decide +kernel))) hK hq hS rfl (fun j hj => by rcases (show j = 0 ∨ j = 1 ∨ j = 2 by omega) with rfl | rfl | rfl <;> rfl) (Nat.le_of_ble_eq_true rfl) (Nat.le_of_ble_eq_true rfl) dX10_5 (fun H hq hS => ?_)
  refine lv_dup hx hb dX10_8 rfl ?_
  refine cr_callN (host := "BridgeChapel") (Y := mX6_init) (rm := { frames := 4, cells := 13, slots := 146, locals := 60 }) (es := .inr (10, [.null, .null, .null, .null, .null, .null, .null, .null, .null, .int (Int32.ofInt 0), .int (Int32.ofInt 0), .int (Int32.ofInt 0)]) :: ([])) (k9 := 1) rfl hx hb hml hown hts (ctX6 l D cA) (bc_mem_W (bc_tk1 (List.mem_of_getElem? (i := 43) rfl)) rfl) (bc_watN_ok (pos := 136) (by decide +kernel)) (bc_wat_ok (pos := 97) (by decide +kernel)) (bc_wat_ok (pos := 137) (by decide +kernel)) rfl (by decide +kernel) rfl rfl ⟨Nat.le_of_ble_eq_true rfl, Nat.le_of_ble_eq_true rfl⟩ hK hq hS hl.1 (Nat.le_of_ble_eq_true rfl) dX10_9 ⟨Nat.le_of_ble_eq_true rfl, Nat.le_of_ble_eq_true rfl⟩ (fun H locs hq hS => ?_)
  have hq : cqz_ D q (.inr (10, [.null, .null, .null, .null, .null, .null, .null, .null, .null, .int (Int32.ofInt 0), .int (Int32.ofInt 0), .int (Int32.ofInt 0)]) :: ([] ++ E6_ cA (q + 1))) H := hq
  refine cr_putF (ci := 10) (C := RX10) (T := TX10) (N := 12) hx hb hts (bc_cl_ok 10 _ rfl).1 tyX10 tyX10_ok nmX10 hown hK hq hS rfl 0 (by decide) (hts (.fieldLink RX10 10 RX10 "state" "LBridgeChapel$State;") (bc_wat_ok (pos := 398) (by decide +kernel))) (fun _ h9 => h9) rfl hin rfl (ty := .object "BridgeChapel$State") (by decide +kernel) rfl rfl (Nat.le_of_ble_eq_true rfl) dX10_12 (fun H locs hq hS => ?_)
  have hq : cqz_ D q (.inr (10, [.ref (q + 1), .null, .null, .null, .null, .null, .null, .null, .null, .int (Int32.ofInt 0), .int (Int32.ofInt 0), .int (Int32.ofInt 0)]) :: ([] ++ E6_ cA (q + 1))) H := hq
  refine lv_aload_n hx hb dX10_15 rfl (lv_at hl 0 rfl) ?_
  refine cr_new (ci := 6) (fs := [.null, .null, .null]) (C := RX6) (T := TX6) (N := 3) (k9 := 15) (by simp [E6_len]) hx hb hts (bc_cl_ok 6 _ rfl).1 tyX6 tyX6_ok hown (hts (.classLink RX10 7 RX6) (bc_wat_ok (pos := 134) (by decide +kernel))) (hts (.instantiable RX6 3) (bc_wat_ok (pos := 135) (by decide +kernel))) (hts (.initialized RX6) (bc_wat_ok (pos := 97) (by decide +kernel))) hK hq hS rfl (fun j hj => by rcases (show j = 0 ∨ j = 1 ∨ j = 2 by omega) with rfl | rfl | rfl <;> rfl) (Nat.le_of_ble_eq_true rfl) (Nat.le_of_ble_eq_true rfl) dX10_16 (fun H hq hS => ?_)
  refine lv_dup hx hb dX10_19 rfl ?_
  refine cr_callN (host := "BridgeChapel") (Y := mX6_init) (rm := { frames := 4, cells := 13, slots := 146, locals := 60 }) (es := .inr (10, [.ref (q + 1), .null, .null, .null, .null, .null, .null, .null, .null, .int (Int32.ofInt 0), .int (Int32.ofInt 0), .int (Int32.ofInt 0)]) :: ([] ++ E6_ cA (q + 1))) (k9 := 15) (by simp [E6_len]) hx hb hml hown hts (ctX6 l D cA) (bc_mem_W (bc_tk1 (List.mem_of_getElem? (i := 43) rfl)) rfl) (bc_watN_ok (pos := 136) (by decide +kernel)) (bc_wat_ok (pos := 97) (by decide +kernel)) (bc_wat_ok (pos := 137) (by decide +kernel)) rfl (by decide +kernel) rfl rfl ⟨Nat.le_of_ble_eq_true rfl, Nat.le_of_ble_eq_true rfl⟩ hK hq hS hl.1 (Nat.le_of_ble_eq_true rfl) dX10_20 ⟨Nat.le_of_ble_eq_true rfl, Nat.le_of_ble_eq_true rfl⟩ (fun H locs hq hS => ?_)
  have hq : cqz_ D q (.inr (10, [.ref (q + 1), .null, .null, .null, .null, .null, .null, .null, .null, .int (Int32.ofInt 0), .int (Int32.ofInt 0), .int (Int32.ofInt 0)]) :: ([] ++ E6_ cA (q + 1) ++ E6_ cA (q + 15))) H := hq
  refine cr_putF (ci := 10) (C := RX10) (T := TX10) (N := 12) hx hb hts (bc_cl_ok 10 _ rfl).1 tyX10 tyX10_ok nmX10 hown hK hq hS rfl 1 (by decide) (hts (.fieldLink RX10 16 RX10 "snapshot" "LBridgeChapel$State;") (bc_wat_ok (pos := 399) (by decide +kernel))) (fun _ h9 => h9) rfl hin rfl (ty := .object "BridgeChapel$State") (by decide +kernel) rfl rfl (Nat.le_of_ble_eq_true rfl) dX10_23 (fun H locs hq hS => ?_)
  have hq : cqz_ D q (.inr (10, [.ref (q + 1), .ref (q + 15), .null, .null, .null, .null, .null, .null, .null, .int (Int32.ofInt 0), .int (Int32.ofInt 0), .int (Int32.ofInt 0)]) :: ([] ++ E6_ cA (q + 1) ++ E6_ cA (q + 15))) H := hq
  refine lv_aload_n hx hb dX10_26 rfl (lv_at hl 0 rfl) ?_
  refine cr_new (ci := 6) (fs := [.null, .null, .null]) (C := RX6) (T := TX6) (N := 3) (k9 := 29) (by simp [E6_len]) hx hb hts (bc_cl_ok 6 _ rfl).1 tyX6 tyX6_ok hown (hts (.classLink RX10 7 RX6) (bc_wat_ok (pos := 134) (by decide +kernel))) (hts (.instantiable RX6 3) (bc_wat_ok (pos := 135) (by decide +kernel))) (hts (.initialized RX6) (bc_wat_ok (pos := 97) (by decide +kernel))) hK hq hS rfl (fun j hj => by rcases (show j = 0 ∨ j = 1 ∨ j = 2 by omega) with rfl | rfl | rfl <;> rfl) (Nat.le_of_ble_eq_true rfl) (Nat.le_of_ble_eq_true rfl) dX10_27 (fun H hq hS => ?_)
  refine lv_dup hx hb dX10_30 rfl ?_
  refine cr_callN (host := "BridgeChapel") (Y := mX6_init) (rm := { frames := 4, cells := 13, slots := 146, locals := 60 }) (es := .inr (10, [.ref (q + 1), .ref (q + 15), .null, .null, .null, .null, .null, .null, .null, .int (Int32.ofInt 0), .int (Int32.ofInt 0), .int (Int32.ofInt 0)]) :: ([] ++ E6_ cA (q + 1) ++ E6_ cA (q + 15))) (k9 := 29) (by simp [E6_len]) hx hb hml hown hts (ctX6 l D cA) (bc_mem_W (bc_tk1 (List.mem_of_getElem? (i := 43) rfl)) rfl) (bc_watN_ok (pos := 136) (by decide +kernel)) (bc_wat_ok (pos := 97) (by decide +kernel)) (bc_wat_ok (pos := 137) (by decide +kernel)) rfl (by decide +kernel) rfl rfl ⟨Nat.le_of_ble_eq_true rfl, Nat.le_of_ble_eq_true rfl⟩ hK hq hS hl.1 (Nat.le_of_ble_eq_true rfl) dX10_31 ⟨Nat.le_of_ble_eq_true rfl, Nat.le_of_ble_eq_true rfl⟩ (fun H locs hq hS => ?_)
  have hq : cqz_ D q (.inr (10, [.ref (q + 1), .ref (q + 15), .null, .null, .null, .null, .null, .null, .null, .int (Int32.ofInt 0), .int (Int32.ofInt 0), .int (Int32.ofInt 0)]) :: ([] ++ E6_ cA (q + 1) ++ E6_ cA (q + 15) ++ E6_ cA (q + 29))) H := hq
  refine cr_putF (ci := 10) (C := RX10) (T := TX10) (N := 12) hx hb hts (bc_cl_ok 10 _ rfl).1 tyX10 tyX10_ok nmX10 hown hK hq hS rfl 2 (by decide) (hts (.fieldLink RX10 19 RX10 "beforeScript" "LBridgeChapel$State;") (bc_wat_ok (pos := 400) (by decide +kernel))) (fun _ h9 => h9) rfl hin rfl (ty := .object "BridgeChapel$State") (by decide +kernel) rfl rfl (Nat.le_of_ble_eq_true rfl) dX10_34 (fun H locs hq hS => ?_)
  have hq : cqz_ D q (.inr (10, [.ref (q + 1), .ref (q + 15), .ref (q + 29), .null, .null, .null, .null, .null, .null, .int (Int32.ofInt 0), .int (Int32.ofInt 0), .int (Int32.ofInt 0)]) :: ([] ++ E6_ cA (q + 1) ++ E6_ cA (q + 15) ++ E6_ cA (q + 29))) H := hq
  refine lv_aload_n hx hb dX10_37 rfl (lv_at hl 0 rfl) ?_
  refine cr_new (ci := 1) (fs := [.null, .int (Int32.ofInt 0), .int (Int32.ofInt 0)]) (C := RX1) (T := TX1) (N := 3) (k9 := 43) (by simp [E6_len]) hx hb hts (bc_cl_ok 1 _ rfl).1 tyX1 tyX1_ok hown (hts (.classLink RX10 22 RX1) (bc_wat_ok (pos := 267) (by decide +kernel))) (hts (.instantiable RX1 3) (bc_wat_ok (pos := 268) (by decide +kernel))) (hts (.initialized RX1) (bc_wat_ok (pos := 101) (by decide +kernel))) hK hq hS rfl (fun j hj => by rcases (show j = 0 ∨ j = 1 ∨ j = 2 by omega) with rfl | rfl | rfl <;> rfl) (Nat.le_of_ble_eq_true rfl) (Nat.le_of_ble_eq_true rfl) dX10_38 (fun H hq hS => ?_)
  refine lv_dup hx hb dX10_41 rfl ?_
  refine cr_callI (Y := mX1_init) (rm := { frames := 6, cells := 113, slots := 1200, locals := 120 }) (es := .inr (10, [.ref (q + 1), .ref (q + 15), .ref (q + 29), .null, .null, .null, .null, .null, .null, .int (Int32.ofInt 0), .int (Int32.ofInt 0), .int (Int32.ofInt 0)]) :: ([] ++ E6_ cA (q + 1) ++ E6_ cA (q + 15) ++ E6_ cA (q + 29))) (k9 := 43) (by simp [E6_len]) hx hb hml hown hts (ctX1 l D cA) (bc_mem_W (bc_tk1 (List.mem_of_getElem? (i := 176) rfl)) rfl) (bc_wat_ok (pos := 269) (by decide +kernel)) (bc_wat_ok (pos := 101) (by decide +kernel)) (bc_wat_ok (pos := 270) (by decide +kernel)) rfl (by decide +kernel) rfl rfl ⟨Nat.le_of_ble_eq_true rfl, Nat.le_of_ble_eq_true rfl⟩ hK hq hS hl.1 (Nat.le_of_ble_eq_true rfl) dX10_42 ⟨Nat.le_of_ble_eq_true rfl, Nat.le_of_ble_eq_true rfl⟩ (fun H locs hq hS => ?_)
  have hq : cqz_ D q (.inr (10, [.ref (q + 1), .ref (q + 15), .ref (q + 29), .null, .null, .null, .null, .null, .null, .int (Int32.ofInt 0), .int (Int32.ofInt 0), .int (Int32.ofInt 0)]) :: ([] ++ E6_ cA (q + 1) ++ E6_ cA (q + 15) ++ E6_ cA (q + 29) ++ E1_ cA (q + 43))) H := hq
  refine cr_putF (ci := 10) (C := RX10) (T := TX10) (N := 12) hx hb hts (bc_cl_ok 10 _ rfl).1 tyX10 tyX10_ok nmX10 hown hK hq hS rfl 3 (by decide) (hts (.fieldLink RX10 25 RX10 "history" "LBridgeChapel$History;") (bc_wat_ok (pos := 401) (by decide +kernel))) (fun _ h9 => h9) rfl hin rfl (ty := .object "BridgeChapel$History") (by decide +kernel) rfl rfl (Nat.le_of_ble_eq_true rfl) dX10_45 (fun H locs hq hS => ?_)
  have hq : cqz_ D q (.inr (10, [.ref (q + 1), .ref (q + 15), .ref (q + 29), .ref (q + 43), .null, .null, .null, .null, .null, .int (Int32.ofInt 0), .int (Int32.ofInt 0), .int (Int32.ofInt 0)]) :: ([] ++ E6_ cA (q + 1) ++ E6_ cA (q + 15) ++ E6_ cA (q + 29) ++ E1_ cA (q + 43))) H := hq
  refine lv_aload_n hx hb dX10_48 rfl (lv_at hl 0 rfl) ?_
  refine cr_new (ci := 9) (fs := [.null, .null, .null, .null, .null, .int (Int32.ofInt 0)]) (C := RX9) (T := TX9) (N := 6) (k9 := 157) (by simp [E1_len, E6_len]) hx hb hts (bc_cl_ok 9 _ rfl).1 tyX9 tyX9_ok hown (hts (.classLink RX10 29 RX9) (bc_wat_ok (pos := 287) (by decide +kernel))) (hts (.instantiable RX9 6) (bc_wat_ok (pos := 288) (by decide +kernel))) (hts (.initialized RX9) (bc_wat_ok (pos := 102) (by decide +kernel))) hK hq hS rfl (fun j hj => by rcases (show j = 0 ∨ j = 1 ∨ j = 2 ∨ j = 3 ∨ j = 4 ∨ j = 5 by omega) with rfl | rfl | rfl | rfl | rfl | rfl <;> rfl) (Nat.le_of_ble_eq_true rfl) (Nat.le_of_ble_eq_true rfl) dX10_49 (fun H hq hS => ?_)
  refine lv_dup hx hb dX10_52 rfl ?_
  refine cr_callN (host := "BridgeChapel") (Y := mX9_init) (rm := { frames := 2, cells := 13, slots := 104, locals := 20 }) (es := .inr (10, [.ref (q + 1), .ref (q + 15), .ref (q + 29), .ref (q + 43), .null, .null, .null, .null, .null, .int (Int32.ofInt 0), .int (Int32.ofInt 0), .int (Int32.ofInt 0)]) :: ([] ++ E6_ cA (q + 1) ++ E6_ cA (q + 15) ++ E6_ cA (q + 29) ++ E1_ cA (q + 43))) (k9 := 157) (by simp [E1_len, E6_len]) hx hb hml hown hts (ctX9 l D cA) (bc_mem_W (bc_tk1 (List.mem_of_getElem? (i := 196) rfl)) rfl) (bc_watN_ok (pos := 289) (by decide +kernel)) (bc_wat_ok (pos := 102) (by decide +kernel)) (bc_wat_ok (pos := 290) (by decide +kernel)) rfl (by decide +kernel) rfl rfl ⟨Nat.le_of_ble_eq_true rfl, Nat.le_of_ble_eq_true rfl⟩ hK hq hS hl.1 (Nat.le_of_ble_eq_true rfl) dX10_53 ⟨Nat.le_of_ble_eq_true rfl, Nat.le_of_ble_eq_true rfl⟩ (fun H locs hq hS => ?_)
  have hq : cqz_ D q (.inr (10, [.ref (q + 1), .ref (q + 15), .ref (q + 29), .ref (q + 43), .null, .null, .null, .null, .null, .int (Int32.ofInt 0), .int (Int32.ofInt 0), .int (Int32.ofInt 0)]) :: ([] ++ E6_ cA (q + 1) ++ E6_ cA (q + 15) ++ E6_ cA (q + 29) ++ E1_ cA (q + 43) ++ E9_ cA (q + 157))) H := hq
  refine cr_putF (ci := 10) (C := RX10) (T := TX10) (N := 12) hx hb hts (bc_cl_ok 10 _ rfl).1 tyX10 tyX10_ok nmX10 hown hK hq hS rfl 4 (by decide) (hts (.fieldLink RX10 32 RX10 "ways" "LBridgeChapel$Ways;") (bc_wat_ok (pos := 402) (by decide +kernel))) (fun _ h9 => h9) rfl hin rfl (ty := .object "BridgeChapel$Ways") (by decide +kernel) rfl rfl (Nat.le_of_ble_eq_true rfl) dX10_56 (fun H locs hq hS => ?_)
  have hq : cqz_ D q (.inr (10, [.ref (q + 1), .ref (q + 15), .ref (q + 29), .ref (q + 43), .ref (q + 157), .null, .null, .null, .null, .int (Int32.ofInt 0), .int (Int32.ofInt 0), .int (Int32.ofInt 0)]) :: ([] ++ E6_ cA (q + 1) ++ E6_ cA (q + 15) ++ E6_ cA (q + 29) ++ E1_ cA (q + 43) ++ E9_ cA (q + 157))) H := hq
  refine lv_aload_n hx hb dX10_59 rfl (lv_at hl 0 rfl) ?_
  refine cr_new (ci := 0) (fs := [.null, .null, .int (Int32.ofInt 0)]) (C := RX0) (T := TX0) (N := 3) (k9 := 171) (by simp [E1_len, E6_len, E9_len]) hx hb hts (bc_cl_ok 0 _ rfl).1 tyX0 tyX0_ok hown (hts (.classLink RX10 36 RX0) (bc_wat_ok (pos := 317) (by decide +kernel))) (hts (.instantiable RX0 3) (bc_wat_ok (pos := 318) (by decide +kernel))) (hts (.initialized RX0) (bc_wat_ok (pos := 103) (by decide +kernel))) hK hq hS rfl (fun j hj => by rcases (show j = 0 ∨ j = 1 ∨ j = 2 by omega) with rfl | rfl | rfl <;> rfl) (Nat.le_of_ble_eq_true rfl) (Nat.le_of_ble_eq_true rfl) dX10_60 (fun H hq hS => ?_)
  refine lv_dup hx hb dX10_63 rfl ?_
  refine cr_callN (host := "BridgeChapel") (Y := mX0_init) (rm := { frames := 2, cells := 2, slots := 16, locals := 20 }) (es := .inr (10, [.ref (q + 1), .ref (q + 15), .ref (q + 29), .ref (q + 43), .ref (q + 157), .null, .null, .null, .null, .int (Int32.ofInt 0), .int (Int32.ofInt 0), .int (Int32.ofInt 0)]) :: ([] ++ E6_ cA (q + 1) ++ E6_ cA (q + 15) ++ E6_ cA (q + 29) ++ E1_ cA (q + 43) ++ E9_ cA (q + 157))) (k9 := 171) (by simp [E1_len, E6_len, E9_len]) hx hb hml hown hts (ctX0 l D cA) (bc_mem_W (bc_tk1 (List.mem_of_getElem? (i := 226) rfl)) rfl) (bc_watN_ok (pos := 319) (by decide +kernel)) (bc_wat_ok (pos := 103) (by decide +kernel)) (bc_wat_ok (pos := 320) (by decide +kernel)) rfl (by decide +kernel) rfl rfl ⟨Nat.le_of_ble_eq_true rfl, Nat.le_of_ble_eq_true rfl⟩ hK hq hS hl.1 (Nat.le_of_ble_eq_true rfl) dX10_64 ⟨Nat.le_of_ble_eq_true rfl, Nat.le_of_ble_eq_true rfl⟩ (fun H locs hq hS => ?_)
  have hq : cqz_ D q (.inr (10, [.ref (q + 1), .ref (q + 15), .ref (q + 29), .ref (q + 43), .ref (q + 157), .null, .null, .null, .null, .int (Int32.ofInt 0), .int (Int32.ofInt 0), .int (Int32.ofInt 0)]) :: ([] ++ E6_ cA (q + 1) ++ E6_ cA (q + 15) ++ E6_ cA (q + 29) ++ E1_ cA (q + 43) ++ E9_ cA (q + 157) ++ E0_ cA (q + 171))) H := hq
  refine cr_putF (ci := 10) (C := RX10) (T := TX10) (N := 12) hx hb hts (bc_cl_ok 10 _ rfl).1 tyX10 tyX10_ok nmX10 hown hK hq hS rfl 5 (by decide) (hts (.fieldLink RX10 39 RX10 "criticalSearch" "LBridgeChapel$CriticalSearch;") (bc_wat_ok (pos := 403) (by decide +kernel))) (fun _ h9 => h9) rfl hin rfl (ty := .object "BridgeChapel$CriticalSearch") (by decide +kernel) rfl rfl (Nat.le_of_ble_eq_true rfl) dX10_67 (fun H locs hq hS => ?_)
  have hq : cqz_ D q (.inr (10, [.ref (q + 1), .ref (q + 15), .ref (q + 29), .ref (q + 43), .ref (q + 157), .ref (q + 171), .null, .null, .null, .int (Int32.ofInt 0), .int (Int32.ofInt 0), .int (Int32.ofInt 0)]) :: ([] ++ E6_ cA (q + 1) ++ E6_ cA (q + 15) ++ E6_ cA (q + 29) ++ E1_ cA (q + 43) ++ E9_ cA (q + 157) ++ E0_ cA (q + 171))) H := hq
  refine lv_aload_n hx hb dX10_70 rfl (lv_at hl 0 rfl) ?_
  refine cr_new (ci := 4) (fs := [.null, .null, .null, .null]) (C := RX4) (T := TX4) (N := 4) (k9 := 174) (by simp [E0_len, E1_len, E6_len, E9_len]) hx hb hts (bc_cl_ok 4 _ rfl).1 tyX4 tyX4_ok hown (hts (.classLink RX10 43 RX4) (bc_wat_ok (pos := 333) (by decide +kernel))) (hts (.instantiable RX4 4) (bc_wat_ok (pos := 334) (by decide +kernel))) (hts (.initialized RX4) (bc_wat_ok (pos := 104) (by decide +kernel))) hK hq hS rfl (fun j hj => by rcases (show j = 0 ∨ j = 1 ∨ j = 2 ∨ j = 3 by omega) with rfl | rfl | rfl | rfl <;> rfl) (Nat.le_of_ble_eq_true rfl) (Nat.le_of_ble_eq_true rfl) dX10_71 (fun H hq hS => ?_)
  refine lv_dup hx hb dX10_74 rfl ?_
  refine cr_callN (host := "BridgeChapel") (Y := mX4_init) (rm := { frames := 2, cells := 20, slots := 160, locals := 20 }) (es := .inr (10, [.ref (q + 1), .ref (q + 15), .ref (q + 29), .ref (q + 43), .ref (q + 157), .ref (q + 171), .null, .null, .null, .int (Int32.ofInt 0), .int (Int32.ofInt 0), .int (Int32.ofInt 0)]) :: ([] ++ E6_ cA (q + 1) ++ E6_ cA (q + 15) ++ E6_ cA (q + 29) ++ E1_ cA (q + 43) ++ E9_ cA (q + 157) ++ E0_ cA (q + 171))) (k9 := 174) (by simp [E0_len, E1_len, E6_len, E9_len]) hx hb hml hown hts (ctX4 l D cA) (bc_mem_W (bc_tk2 (List.mem_of_getElem? (i := 2) rfl)) rfl) (bc_watN_ok (pos := 335) (by decide +kernel)) (bc_wat_ok (pos := 104) (by decide +kernel)) (bc_wat_ok (pos := 336) (by decide +kernel)) rfl (by decide +kernel) rfl rfl ⟨Nat.le_of_ble_eq_true rfl, Nat.le_of_ble_eq_true rfl⟩ hK hq hS hl.1 (Nat.le_of_ble_eq_true rfl) dX10_75 ⟨Nat.le_of_ble_eq_true rfl, Nat.le_of_ble_eq_true rfl⟩ (fun H locs hq hS => ?_)
  have hq : cqz_ D q (.inr (10, [.ref (q + 1), .ref (q + 15), .ref (q + 29), .ref (q + 43), .ref (q + 157), .ref (q + 171), .null, .null, .null, .int (Int32.ofInt 0), .int (Int32.ofInt 0), .int (Int32.ofInt 0)]) :: ([] ++ E6_ cA (q + 1) ++ E6_ cA (q + 15) ++ E6_ cA (q + 29) ++ E1_ cA (q + 43) ++ E9_ cA (q + 157) ++ E0_ cA (q + 171) ++ E4_ cA (q + 174))) H := hq
  refine cr_putF (ci := 10) (C := RX10) (T := TX10) (N := 12) hx hb hts (bc_cl_ok 10 _ rfl).1 tyX10 tyX10_ok nmX10 hown hK hq hS rfl 6 (by decide) (hts (.fieldLink RX10 46 RX10 "repairPlan" "LBridgeChapel$RepairPlan;") (bc_wat_ok (pos := 404) (by decide +kernel))) (fun _ h9 => h9) rfl hin rfl (ty := .object "BridgeChapel$RepairPlan") (by decide +kernel) rfl rfl (Nat.le_of_ble_eq_true rfl) dX10_78 (fun H locs hq hS => ?_)
  have hq : cqz_ D q (.inr (10, [.ref (q + 1), .ref (q + 15), .ref (q + 29), .ref (q + 43), .ref (q + 157), .ref (q + 171), .ref (q + 174), .null, .null, .int (Int32.ofInt 0), .int (Int32.ofInt 0), .int (Int32.ofInt 0)]) :: ([] ++ E6_ cA (q + 1) ++ E6_ cA (q + 15) ++ E6_ cA (q + 29) ++ E1_ cA (q + 43) ++ E9_ cA (q + 157) ++ E0_ cA (q + 171) ++ E4_ cA (q + 174))) H := hq
  refine lv_aload_n hx hb dX10_81 rfl (lv_at hl 0 rfl) ?_
  refine cr_new (ci := 5) (fs := [.null, .null, .null, .int (Int32.ofInt 0), .int (Int32.ofInt 0)]) (C := RX5) (T := TX5) (N := 5) (k9 := 195) (by simp [E0_len, E1_len, E4_len, E6_len, E9_len]) hx hb hts (bc_cl_ok 5 _ rfl).1 tyX5 tyX5_ok hown (hts (.classLink RX10 50 RX5) (bc_wat_ok (pos := 354) (by decide +kernel))) (hts (.instantiable RX5 5) (bc_wat_ok (pos := 355) (by decide +kernel))) (hts (.initialized RX5) (bc_wat_ok (pos := 105) (by decide +kernel))) hK hq hS rfl (fun j hj => by rcases (show j = 0 ∨ j = 1 ∨ j = 2 ∨ j = 3 ∨ j = 4 by omega) with rfl | rfl | rfl | rfl | rfl <;> rfl) (Nat.le_of_ble_eq_true rfl) (Nat.le_of_ble_eq_true rfl) dX10_82 (fun H hq hS => ?_)
  refine lv_dup hx hb dX10_85 rfl ?_
  refine cr_callN (host := "BridgeChapel") (Y := mX5_init) (rm := { frames := 4, cells := 20, slots := 142, locals := 60 }) (es := .inr (10, [.ref (q + 1), .ref (q + 15), .ref (q + 29), .ref (q + 43), .ref (q + 157), .ref (q + 171), .ref (q + 174), .null, .null, .int (Int32.ofInt 0), .int (Int32.ofInt 0), .int (Int32.ofInt 0)]) :: ([] ++ E6_ cA (q + 1) ++ E6_ cA (q + 15) ++ E6_ cA (q + 29) ++ E1_ cA (q + 43) ++ E9_ cA (q + 157) ++ E0_ cA (q + 171) ++ E4_ cA (q + 174))) (k9 := 195) (by simp [E0_len, E1_len, E4_len, E6_len, E9_len]) hx hb hml hown hts (ctX5 l D cA) (bc_mem_W (bc_tk2 (List.mem_of_getElem? (i := 23) rfl)) rfl) (bc_watN_ok (pos := 356) (by decide +kernel)) (bc_wat_ok (pos := 105) (by decide +kernel)) (bc_wat_ok (pos := 357) (by decide +kernel)) rfl (by decide +kernel) rfl rfl ⟨Nat.le_of_ble_eq_true rfl, Nat.le_of_ble_eq_true rfl⟩ hK hq hS hl.1 (Nat.le_of_ble_eq_true rfl) dX10_86 ⟨Nat.le_of_ble_eq_true rfl, Nat.le_of_ble_eq_true rfl⟩ (fun H locs hq hS => ?_)
  have hq : cqz_ D q (.inr (10, [.ref (q + 1), .ref (q + 15), .ref (q + 29), .ref (q + 43), .ref (q + 157), .ref (q + 171), .ref (q + 174), .null, .null, .int (Int32.ofInt 0), .int (Int32.ofInt 0), .int (Int32.ofInt 0)]) :: ([] ++ E6_ cA (q + 1) ++ E6_ cA (q + 15) ++ E6_ cA (q + 29) ++ E1_ cA (q + 43) ++ E9_ cA (q + 157) ++ E0_ cA (q + 171) ++ E4_ cA (q + 174) ++ E5_ cA (q + 195))) H := hq
  refine cr_putF (ci := 10) (C := RX10) (T := TX10) (N := 12) hx hb hts (bc_cl_ok 10 _ rfl).1 tyX10 tyX10_ok nmX10 hown hK hq hS rfl 7 (by decide) (hts (.fieldLink RX10 53 RX10 "script" "LBridgeChapel$Script;") (bc_wat_ok (pos := 405) (by decide +kernel))) (fun _ h9 => h9) rfl hin rfl (ty := .object "BridgeChapel$Script") (by decide +kernel) rfl rfl (Nat.le_of_ble_eq_true rfl) dX10_89 (fun H locs hq hS => ?_)
  have hq : cqz_ D q (.inr (10, [.ref (q + 1), .ref (q + 15), .ref (q + 29), .ref (q + 43), .ref (q + 157), .ref (q + 171), .ref (q + 174), .ref (q + 195), .null, .int (Int32.ofInt 0), .int (Int32.ofInt 0), .int (Int32.ofInt 0)]) :: ([] ++ E6_ cA (q + 1) ++ E6_ cA (q + 15) ++ E6_ cA (q + 29) ++ E1_ cA (q + 43) ++ E9_ cA (q + 157) ++ E0_ cA (q + 171) ++ E4_ cA (q + 174) ++ E5_ cA (q + 195))) H := hq
  refine lv_aload_n hx hb dX10_92 rfl (lv_at hl 0 rfl) ?_
  refine cr_new (ci := 7) (fs := [.null, .int (Int32.ofInt 0)]) (C := RX7) (T := TX7) (N := 2) (k9 := 216) (by simp [E0_len, E1_len, E4_len, E5_len, E6_len, E9_len]) hx hb hts (bc_cl_ok 7 _ rfl).1 tyX7 tyX7_ok hown (hts (.classLink RX10 57 RX7) (bc_wat_ok (pos := 396) (by decide +kernel))) (hts (.instantiable RX7 2) (bc_wat_ok (pos := 361) (by decide +kernel))) (hts (.initialized RX7) (bc_wat_ok (pos := 106) (by decide +kernel))) hK hq hS rfl (fun j hj => by rcases (show j = 0 ∨ j = 1 by omega) with rfl | rfl <;> rfl) (Nat.le_of_ble_eq_true rfl) (Nat.le_of_ble_eq_true rfl) dX10_93 (fun H hq hS => ?_)
  refine lv_dup hx hb dX10_96 rfl ?_
  refine cr_callN (host := "BridgeChapel") (Y := mX7_init) (rm := { frames := 2, cells := 1, slots := 60, locals := 20 }) (es := .inr (10, [.ref (q + 1), .ref (q + 15), .ref (q + 29), .ref (q + 43), .ref (q + 157), .ref (q + 171), .ref (q + 174), .ref (q + 195), .null, .int (Int32.ofInt 0), .int (Int32.ofInt 0), .int (Int32.ofInt 0)]) :: ([] ++ E6_ cA (q + 1) ++ E6_ cA (q + 15) ++ E6_ cA (q + 29) ++ E1_ cA (q + 43) ++ E9_ cA (q + 157) ++ E0_ cA (q + 171) ++ E4_ cA (q + 174) ++ E5_ cA (q + 195))) (k9 := 216) (by simp [E0_len, E1_len, E4_len, E5_len, E6_len, E9_len]) hx hb hml hown hts (ctX7 l D cA) (bc_mem_W (bc_tk2 (List.mem_of_getElem? (i := 29) rfl)) rfl) (bc_watN_ok (pos := 397) (by decide +kernel)) (bc_wat_ok (pos := 106) (by decide +kernel)) (bc_wat_ok (pos := 363) (by decide +kernel)) rfl (by decide +kernel) rfl rfl ⟨Nat.le_of_ble_eq_true rfl, Nat.le_of_ble_eq_true rfl⟩ hK hq hS hl.1 (Nat.le_of_ble_eq_true rfl) dX10_97 ⟨Nat.le_of_ble_eq_true rfl, Nat.le_of_ble_eq_true rfl⟩ (fun H locs hq hS => ?_)
  have hq : cqz_ D q (.inr (10, [.ref (q + 1), .ref (q + 15), .ref (q + 29), .ref (q + 43), .ref (q + 157), .ref (q + 171), .ref (q + 174), .ref (q + 195), .null, .int (Int32.ofInt 0), .int (Int32.ofInt 0), .int (Int32.ofInt 0)]) :: ([] ++ E6_ cA (q + 1) ++ E6_ cA (q + 15) ++ E6_ cA (q + 29) ++ E1_ cA (q + 43) ++ E9_ cA (q + 157) ++ E0_ cA (q + 171) ++ E4_ cA (q + 174) ++ E5_ cA (q + 195) ++ E7_ cA (q + 216))) H := hq
  refine cr_putF (ci := 10) (C := RX10) (T := TX10) (N := 12) hx hb hts (bc_cl_ok 10 _ rfl).1 tyX10 tyX10_ok nmX10 hown hK hq hS rfl 8 (by decide) (hts (.fieldLink RX10 60 RX10 "output" "LBridgeChapel$Text;") (bc_wat_ok (pos := 406) (by decide +kernel))) (fun _ h9 => h9) rfl hin rfl (ty := .object "BridgeChapel$Text") (by decide +kernel) rfl rfl (Nat.le_of_ble_eq_true rfl) dX10_100 (fun H locs hq hS => ?_)
  have hq : cqz_ D q (.inr (10, [.ref (q + 1), .ref (q + 15), .ref (q + 29), .ref (q + 43), .ref (q + 157), .ref (q + 171), .ref (q + 174), .ref (q + 195), .ref (q + 216), .int (Int32.ofInt 0), .int (Int32.ofInt 0), .int (Int32.ofInt 0)]) :: ([] ++ E6_ cA (q + 1) ++ E6_ cA (q + 15) ++ E6_ cA (q + 29) ++ E1_ cA (q + 43) ++ E9_ cA (q + 157) ++ E0_ cA (q + 171) ++ E4_ cA (q + 174) ++ E5_ cA (q + 195) ++ E7_ cA (q + 216))) H := hq
  refine lv_aload_n hx hb dX10_103 rfl (lv_at hl 0 rfl) ?_
  refine lv_iconst (v := Int32.ofInt 0) hx hb dX10_104 (by decide) ?_
  refine cr_put (ci := 10) (C := RX10) (T := TX10) (N := 12) hx hb hts (bc_cl_ok 10 _ rfl).1 tyX10 tyX10_ok nmX10 hown hK hq hS rfl 9 (by decide) (hts (.fieldLink RX10 64 RX10 "hasSnapshot" "Z") (bc_wat_ok (pos := 407) (by decide +kernel))) (fun _ h9 => h9) rfl (ty := .boolean) (by decide +kernel) rfl rfl (Nat.le_of_ble_eq_true rfl) dX10_105 (fun H locs hq hS => ?_)
  have hq : cqz_ D q (.inr (10, [.ref (q + 1), .ref (q + 15), .ref (q + 29), .ref (q + 43), .ref (q + 157), .ref (q + 171), .ref (q + 174), .ref (q + 195), .ref (q + 216), .int (Int32.ofInt 0), .int (Int32.ofInt 0), .int (Int32.ofInt 0)]) :: ([] ++ E6_ cA (q + 1) ++ E6_ cA (q + 15) ++ E6_ cA (q + 29) ++ E1_ cA (q + 43) ++ E9_ cA (q + 157) ++ E0_ cA (q + 171) ++ E4_ cA (q + 174) ++ E5_ cA (q + 195) ++ E7_ cA (q + 216))) H := hq
  refine lv_aload_n hx hb dX10_108 rfl (lv_at hl 0 rfl) ?_
  refine lv_iconst (v := Int32.ofInt (-1)) hx hb dX10_109 (by decide) ?_
  refine cr_put (ci := 10) (C := RX10) (T := TX10) (N := 12) hx hb hts (bc_cl_ok 10 _ rfl).1 tyX10 tyX10_ok nmX10 hown hK hq hS rfl 10 (by decide) (hts (.fieldLink RX10 68 RX10 "lastErrorPosition" "I") (bc_wat_ok (pos := 408) (by decide +kernel))) (fun _ h9 => h9) rfl (ty := .int) (by decide +kernel) rfl rfl (Nat.le_of_ble_eq_true rfl) dX10_110 (fun H locs hq hS => ?_)
  have hq : cqz_ D q (.inr (10, [.ref (q + 1), .ref (q + 15), .ref (q + 29), .ref (q + 43), .ref (q + 157), .ref (q + 171), .ref (q + 174), .ref (q + 195), .ref (q + 216), .int (Int32.ofInt 0), .int (Int32.ofInt (-1)), .int (Int32.ofInt 0)]) :: ([] ++ E6_ cA (q + 1) ++ E6_ cA (q + 15) ++ E6_ cA (q + 29) ++ E1_ cA (q + 43) ++ E9_ cA (q + 157) ++ E0_ cA (q + 171) ++ E4_ cA (q + 174) ++ E5_ cA (q + 195) ++ E7_ cA (q + 216))) H := hq
  refine lv_aload_n hx hb dX10_113 rfl (lv_at hl 0 rfl) ?_
  refine lv_iconst (v := Int32.ofInt (-1)) hx hb dX10_114 (by decide) ?_
  refine cr_put (ci := 10) (C := RX10) (T := TX10) (N := 12) hx hb hts (bc_cl_ok 10 _ rfl).1 tyX10 tyX10_ok nmX10 hown hK hq hS rfl 11 (by decide) (hts (.fieldLink RX10 72 RX10 "lastFailedCommand" "I") (bc_wat_ok (pos := 409) (by decide +kernel))) (fun _ h9 => h9) rfl (ty := .int) (by decide +kernel) rfl rfl (Nat.le_of_ble_eq_true rfl) dX10_115 (fun H locs hq hS => ?_)
  have hq : cqz_ D q (.inr (10, [.ref (q + 1), .ref (q + 15), .ref (q + 29), .ref (q + 43), .ref (q + 157), .ref (q + 171), .ref (q + 174), .ref (q + 195), .ref (q + 216), .int (Int32.ofInt 0), .int (Int32.ofInt (-1)), .int (Int32.ofInt (-1))]) :: ([] ++ E6_ cA (q + 1) ++ E6_ cA (q + 15) ++ E6_ cA (q + 29) ++ E1_ cA (q + 43) ++ E9_ cA (q + 157) ++ E0_ cA (q + 171) ++ E4_ cA (q + 174) ++ E5_ cA (q + 195) ++ E7_ cA (q + 216))) H := hq
  refine W.widen (k := 217) (n := 2152) (Nat.le_of_ble_eq_true rfl) (Nat.le_of_ble_eq_true rfl) ?_
  exact W.vret hx hb hr (fun t ht hW => ⟨⟨(), rfl, trivial, by show cqz_ D q (E10_ cA q) t.heap; rw [ht]; exact hq⟩, hS.F ht⟩) hS.2.2 dX10_118
theorem zX11_in : ∀ pc, 115 ≤ pc → pX11_init pc = none := fun _ h => by unfold pX11_init; exact bc_cut_none h
theorem dX11_0 : decode cX11_init 0 = .ok (.aload_n 0, 1) := ((bc_dec_ok kX11_init zX11_in) 0 _ _ _ rfl).1
theorem dX11_1 : decode cX11_init 1 = .ok (.invokespecial 3, 3) := ((bc_dec_ok kX11_init zX11_in) 1 _ _ _ rfl).1
theorem dX11_4 : decode cX11_init 4 = .ok (.aload_n 0, 1) := ((bc_dec_ok kX11_init zX11_in) 4 _ _ _ rfl).1
theorem dX11_5 : decode cX11_init 5 = .ok (.sipush 136, 3) := ((bc_dec_ok kX11_init zX11_in) 5 _ _ _ rfl).1
theorem dX11_8 : decode cX11_init 8 = .ok (.newarray .int, 2) := ((bc_dec_ok kX11_init zX11_in) 8 _ _ _ rfl).1
theorem dX11_10 : decode cX11_init 10 = .ok (.putfield 9, 3) := ((bc_dec_ok kX11_init zX11_in) 10 _ _ _ rfl).1
theorem dX11_13 : decode cX11_init 13 = .ok (.aload_n 0, 1) := ((bc_dec_ok kX11_init zX11_in) 13 _ _ _ rfl).1
theorem dX11_14 : decode cX11_init 14 = .ok (.sipush 136, 3) := ((bc_dec_ok kX11_init zX11_in) 14 _ _ _ rfl).1
theorem dX11_17 : decode cX11_init 17 = .ok (.newarray .int, 2) := ((bc_dec_ok kX11_init zX11_in) 17 _ _ _ rfl).1
theorem dX11_19 : decode cX11_init 19 = .ok (.putfield 13, 3) := ((bc_dec_ok kX11_init zX11_in) 19 _ _ _ rfl).1
theorem dX11_22 : decode cX11_init 22 = .ok (.aload_n 0, 1) := ((bc_dec_ok kX11_init zX11_in) 22 _ _ _ rfl).1
theorem dX11_23 : decode cX11_init 23 = .ok (.sipush 136, 3) := ((bc_dec_ok kX11_init zX11_in) 23 _ _ _ rfl).1
theorem dX11_26 : decode cX11_init 26 = .ok (.newarray .int, 2) := ((bc_dec_ok kX11_init zX11_in) 26 _ _ _ rfl).1
theorem dX11_28 : decode cX11_init 28 = .ok (.putfield 16, 3) := ((bc_dec_ok kX11_init zX11_in) 28 _ _ _ rfl).1
theorem dX11_31 : decode cX11_init 31 = .ok (.aload_n 0, 1) := ((bc_dec_ok kX11_init zX11_in) 31 _ _ _ rfl).1
theorem dX11_32 : decode cX11_init 32 = .ok (.sipush 1088, 3) := ((bc_dec_ok kX11_init zX11_in) 32 _ _ _ rfl).1
theorem dX11_35 : decode cX11_init 35 = .ok (.newarray .int, 2) := ((bc_dec_ok kX11_init zX11_in) 35 _ _ _ rfl).1
theorem dX11_37 : decode cX11_init 37 = .ok (.putfield 19, 3) := ((bc_dec_ok kX11_init zX11_in) 37 _ _ _ rfl).1
theorem dX11_40 : decode cX11_init 40 = .ok (.aload_n 0, 1) := ((bc_dec_ok kX11_init zX11_in) 40 _ _ _ rfl).1
theorem dX11_41 : decode cX11_init 41 = .ok (.iconst (-1), 1) := ((bc_dec_ok kX11_init zX11_in) 41 _ _ _ rfl).1
theorem dX11_42 : decode cX11_init 42 = .ok (.putfield 22, 3) := ((bc_dec_ok kX11_init zX11_in) 42 _ _ _ rfl).1
theorem dX11_45 : decode cX11_init 45 = .ok (.aload_n 0, 1) := ((bc_dec_ok kX11_init zX11_in) 45 _ _ _ rfl).1
theorem dX11_46 : decode cX11_init 46 = .ok (.iconst (-1), 1) := ((bc_dec_ok kX11_init zX11_in) 46 _ _ _ rfl).1
theorem dX11_47 : decode cX11_init 47 = .ok (.putfield 26, 3) := ((bc_dec_ok kX11_init zX11_in) 47 _ _ _ rfl).1
theorem dX11_50 : decode cX11_init 50 = .ok (.aload_n 0, 1) := ((bc_dec_ok kX11_init zX11_in) 50 _ _ _ rfl).1
theorem dX11_51 : decode cX11_init 51 = .ok (.bipush 8, 2) := ((bc_dec_ok kX11_init zX11_in) 51 _ _ _ rfl).1
theorem dX11_53 : decode cX11_init 53 = .ok (.newarray .int, 2) := ((bc_dec_ok kX11_init zX11_in) 53 _ _ _ rfl).1
theorem dX11_55 : decode cX11_init 55 = .ok (.putfield 29, 3) := ((bc_dec_ok kX11_init zX11_in) 55 _ _ _ rfl).1
theorem dX11_58 : decode cX11_init 58 = .ok (.aload_n 0, 1) := ((bc_dec_ok kX11_init zX11_in) 58 _ _ _ rfl).1
theorem dX11_59 : decode cX11_init 59 = .ok (.bipush 9, 2) := ((bc_dec_ok kX11_init zX11_in) 59 _ _ _ rfl).1
theorem dX11_61 : decode cX11_init 61 = .ok (.newarray .int, 2) := ((bc_dec_ok kX11_init zX11_in) 61 _ _ _ rfl).1
theorem dX11_63 : decode cX11_init 63 = .ok (.putfield 32, 3) := ((bc_dec_ok kX11_init zX11_in) 63 _ _ _ rfl).1
theorem dX11_66 : decode cX11_init 66 = .ok (.aload_n 0, 1) := ((bc_dec_ok kX11_init zX11_in) 66 _ _ _ rfl).1
theorem dX11_67 : decode cX11_init 67 = .ok (.bipush 60, 2) := ((bc_dec_ok kX11_init zX11_in) 67 _ _ _ rfl).1
theorem dX11_69 : decode cX11_init 69 = .ok (.newarray .int, 2) := ((bc_dec_ok kX11_init zX11_in) 69 _ _ _ rfl).1
theorem dX11_71 : decode cX11_init 71 = .ok (.putfield 35, 3) := ((bc_dec_ok kX11_init zX11_in) 71 _ _ _ rfl).1
theorem dX11_74 : decode cX11_init 74 = .ok (.aload_n 0, 1) := ((bc_dec_ok kX11_init zX11_in) 74 _ _ _ rfl).1
theorem dX11_75 : decode cX11_init 75 = .ok (.bipush 60, 2) := ((bc_dec_ok kX11_init zX11_in) 75 _ _ _ rfl).1
theorem dX11_77 : decode cX11_init 77 = .ok (.newarray .int, 2) := ((bc_dec_ok kX11_init zX11_in) 77 _ _ _ rfl).1
theorem dX11_79 : decode cX11_init 79 = .ok (.putfield 38, 3) := ((bc_dec_ok kX11_init zX11_in) 79 _ _ _ rfl).1
theorem dX11_82 : decode cX11_init 82 = .ok (.aload_n 0, 1) := ((bc_dec_ok kX11_init zX11_in) 82 _ _ _ rfl).1
theorem dX11_83 : decode cX11_init 83 = .ok (.bipush 120, 2) := ((bc_dec_ok kX11_init zX11_in) 83 _ _ _ rfl).1
theorem dX11_85 : decode cX11_init 85 = .ok (.newarray .int, 2) := ((bc_dec_ok kX11_init zX11_in) 85 _ _ _ rfl).1
theorem dX11_87 : decode cX11_init 87 = .ok (.putfield 41, 3) := ((bc_dec_ok kX11_init zX11_in) 87 _ _ _ rfl).1
theorem dX11_90 : decode cX11_init 90 = .ok (.aload_n 0, 1) := ((bc_dec_ok kX11_init zX11_in) 90 _ _ _ rfl).1
theorem dX11_91 : decode cX11_init 91 = .ok (.getfield 9, 3) := ((bc_dec_ok kX11_init zX11_in) 91 _ _ _ rfl).1
theorem dX11_94 : decode cX11_init 94 = .ok (.iconst 1, 1) := ((bc_dec_ok kX11_init zX11_in) 94 _ _ _ rfl).1
theorem dX11_95 : decode cX11_init 95 = .ok (.bipush 30, 2) := ((bc_dec_ok kX11_init zX11_in) 95 _ _ _ rfl).1
theorem dX11_97 : decode cX11_init 97 = .ok (.iastore, 1) := ((bc_dec_ok kX11_init zX11_in) 97 _ _ _ rfl).1
theorem dX11_98 : decode cX11_init 98 = .ok (.aload_n 0, 1) := ((bc_dec_ok kX11_init zX11_in) 98 _ _ _ rfl).1
theorem dX11_99 : decode cX11_init 99 = .ok (.getfield 9, 3) := ((bc_dec_ok kX11_init zX11_in) 99 _ _ _ rfl).1
theorem dX11_102 : decode cX11_init 102 = .ok (.iconst 2, 1) := ((bc_dec_ok kX11_init zX11_in) 102 _ _ _ rfl).1
theorem dX11_103 : decode cX11_init 103 = .ok (.iconst 5, 1) := ((bc_dec_ok kX11_init zX11_in) 103 _ _ _ rfl).1
theorem dX11_104 : decode cX11_init 104 = .ok (.iastore, 1) := ((bc_dec_ok kX11_init zX11_in) 104 _ _ _ rfl).1
theorem dX11_105 : decode cX11_init 105 = .ok (.aload_n 0, 1) := ((bc_dec_ok kX11_init zX11_in) 105 _ _ _ rfl).1
theorem dX11_106 : decode cX11_init 106 = .ok (.getfield 9, 3) := ((bc_dec_ok kX11_init zX11_in) 106 _ _ _ rfl).1
theorem dX11_109 : decode cX11_init 109 = .ok (.bipush 11, 2) := ((bc_dec_ok kX11_init zX11_in) 109 _ _ _ rfl).1
theorem dX11_111 : decode cX11_init 111 = .ok (.bipush 99, 2) := ((bc_dec_ok kX11_init zX11_in) 111 _ _ _ rfl).1
theorem dX11_113 : decode cX11_init 113 = .ok (.iastore, 1) := ((bc_dec_ok kX11_init zX11_in) 113 _ _ _ rfl).1
theorem dX11_114 : decode cX11_init 114 = .ok (.return_, 1) := ((bc_dec_ok kX11_init zX11_in) 114 _ _ _ rfl).1
noncomputable def E11_ (cA : Nat → ClassId) (q : Nat) : List va_E := .inr (11, [.ref (q + 1), .ref (q + 2), .ref (q + 3), .ref (q + 4), .int (Int32.ofInt 0), .int (Int32.ofInt 0), .int (Int32.ofInt (-1)), .int (Int32.ofInt (-1)), .ref (q + 5), .ref (q + 6), .ref (q + 7), .int (Int32.ofInt 0), .ref (q + 8), .int (Int32.ofInt 0), .int (Int32.ofInt 0), .int (Int32.ofInt 0), .int (Int32.ofInt 0), .int (Int32.ofInt 0), .int (Int32.ofInt 0), .ref (q + 9)]) :: ([] ++ [.inl (cA 0, 136, .inl (upd (upd (upd (fun _ => Int32.ofInt 0) 1 (Int32.ofInt 30)) 2 (Int32.ofInt 5)) 11 (Int32.ofInt 99)))] ++ [.inl (cA 0, 136, .inl (fun _ => Int32.ofInt 0))] ++ [.inl (cA 0, 136, .inl (fun _ => Int32.ofInt 0))] ++ [.inl (cA 0, 1088, .inl (fun _ => Int32.ofInt 0))] ++ [.inl (cA 0, 8, .inl (fun _ => Int32.ofInt 0))] ++ [.inl (cA 0, 9, .inl (fun _ => Int32.ofInt 0))] ++ [.inl (cA 0, 60, .inl (fun _ => Int32.ofInt 0))] ++ [.inl (cA 0, 60, .inl (fun _ => Int32.ofInt 0))] ++ [.inl (cA 0, 120, .inl (fun _ => Int32.ofInt 0))])
theorem E11_len (cA : Nat → ClassId) (q : Nat) : (E11_ cA q).length = 10 := by simp [E11_]
set_option maxHeartbeats 4000000 in
set_option maxRecDepth 100000 in
theorem ctX11 (l : Launch) (D : va_G) (cA : Nat → ClassId) : ctc_ l D cA mX11_init { frames := 2, cells := 9, slots := 1753, locals := 20 } (.inr (11, [.null, .null, .null, .null, .int (Int32.ofInt 0), .int (Int32.ofInt 0), .int (Int32.ofInt 0), .int (Int32.ofInt 0), .null, .null, .null, .int (Int32.ofInt 0), .null, .int (Int32.ofInt 0), .int (Int32.ofInt 0), .int (Int32.ofInt 0), .int (Int32.ofInt 0), .int (Int32.ofInt 0), .int (Int32.ofInt 0), .null])) (fun q => E11_ cA q) 9 1753 := by
  intro q
  refine Met.ofW (cc := cX11_init) (maxL := 1) (ret := none) (by decide) rfl ?_
  intro p e s m args below meth c s₁ B hml hv
  obtain ⟨rfl, hq, hK⟩ := hv
  have hx := B.exec
  have hb := B.bytes
  have hr := B.returns
  have hts0 := atoms_spec (ws := ctW_ mX11_init) B.pre
  have hts : ∀ w ∈ bc_W, w.before [Value.ref q].toArray s = true := fun w hw => hts0 w (List.mem_cons_of_mem _ hw)
  have hown : s.vm.findClass RX11 = some m.cls := findClass_of_methodNamed B.named
  have hlocks := B.notSynchronized
  have hin : meth.name = "<init>" := (name_of_methodNamed B.named B.method).1
  have hS : va_S (fun a => q ≤ a) s.heap s.heap [] := va_S.rf
  have hl := lv_entry ([.ref q]) (n := 1) (Nat.le_of_ble_eq_true rfl)
  rw [lg_entry_eq]
  generalize (lg_sl ([.ref q]) ++ List.replicate (1 - (lg_sl ([.ref q])).length) Slot.unset).toArray = ls at hl ⊢
  have hl : lv_has ls 1 [(0, .ref q)] := hl
  have hq : cqz_ D q (.inr (11, [.null, .null, .null, .null, .int (Int32.ofInt 0), .int (Int32.ofInt 0), .int (Int32.ofInt 0), .int (Int32.ofInt 0), .null, .null, .null, .int (Int32.ofInt 0), .null, .int (Int32.ofInt 0), .int (Int32.ofInt 0), .int (Int32.ofInt 0), .int (Int32.ofInt 0), .int (Int32.ofInt 0), .int (Int32.ofInt 0), .null]) :: []) s.heap := hq
  refine lv_aload_n hx hb dX11_0 rfl (lv_at hl 0 rfl) ?_
  refine W.objInit hx hb hown (hts (.methodLink RX11 3 objectInit) (bc_wat_ok (pos := 1475) (by decide +kernel))) (hts (.instanceMethod objectInit) (bc_wat_ok (pos := 132) (by decide +kernel))) (hts _ (bc_wat_ok (pos := 133) (by decide +kernel))) rfl (by rw [hml]; exact hl.1) rfl dX11_1 (Nat.le_of_ble_eq_true rfl) (Nat.le_of_ble_eq_true rfl) ?_
  refine W.eq (g2 := F0 m 4 ls []) rfl ?_
  refine lv_aload_n hx hb dX11_4 rfl (lv_at hl 0 rfl) ?_
  refine lv_sipush (v := Int32.ofInt 136) hx hb dX11_5 (by decide) ?_
  refine cr_newa (atype := .int) (cI := cA 0) (n := Int32.ofInt 136) (N' := 136) (a0 := (136, .inl (fun _ => Int32.ofInt 0))) (k9 := 1) rfl hx hb (hts (.arrayClass .int) (bc_wat_ok (pos := 183) (by decide +kernel))) (hK.1.2 0 _ rfl).2 hq hS rfl (by decide) (by decide) (Nat.le_of_ble_eq_true rfl) (Nat.le_of_ble_eq_true rfl) (Nat.le_of_ble_eq_true rfl) dX11_8 (fun H hq hS => ?_)
  have hq : cqz_ D q (.inr (11, [.null, .null, .null, .null, .int (Int32.ofInt 0), .int (Int32.ofInt 0), .int (Int32.ofInt 0), .int (Int32.ofInt 0), .null, .null, .null, .int (Int32.ofInt 0), .null, .int (Int32.ofInt 0), .int (Int32.ofInt 0), .int (Int32.ofInt 0), .int (Int32.ofInt 0), .int (Int32.ofInt 0), .int (Int32.ofInt 0), .null]) :: ([] ++ [.inl (cA 0, 136, .inl (fun _ => Int32.ofInt 0))])) H := hq
  refine cr_putF (ci := 11) (C := RX11) (T := TX11) (N := 20) hx hb hts (bc_cl_ok 11 _ rfl).1 tyX11 tyX11_ok nmX11 hown hK hq hS rfl 0 (by decide) (hts (.fieldLink RX11 9 RX11 "now" "[I") (bc_wat_ok (pos := 1476) (by decide +kernel))) (fun _ h9 => h9) rfl hin rfl (ty := .array .int) (by decide +kernel) rfl rfl (Nat.le_of_ble_eq_true rfl) dX11_10 (fun H locs hq hS => ?_)
  have hq : cqz_ D q (.inr (11, [.ref (q + 1), .null, .null, .null, .int (Int32.ofInt 0), .int (Int32.ofInt 0), .int (Int32.ofInt 0), .int (Int32.ofInt 0), .null, .null, .null, .int (Int32.ofInt 0), .null, .int (Int32.ofInt 0), .int (Int32.ofInt 0), .int (Int32.ofInt 0), .int (Int32.ofInt 0), .int (Int32.ofInt 0), .int (Int32.ofInt 0), .null]) :: ([] ++ [.inl (cA 0, 136, .inl (fun _ => Int32.ofInt 0))])) H := hq
  refine lv_aload_n hx hb dX11_13 rfl (lv_at hl 0 rfl) ?_
  refine lv_sipush (v := Int32.ofInt 136) hx hb dX11_14 (by decide) ?_
  refine cr_newa (atype := .int) (cI := cA 0) (n := Int32.ofInt 136) (N' := 136) (a0 := (136, .inl (fun _ => Int32.ofInt 0))) (k9 := 2) rfl hx hb (hts (.arrayClass .int) (bc_wat_ok (pos := 183) (by decide +kernel))) (hK.1.2 0 _ rfl).2 hq hS rfl (by decide) (by decide) (Nat.le_of_ble_eq_true rfl) (Nat.le_of_ble_eq_true rfl) (Nat.le_of_ble_eq_true rfl) dX11_17 (fun H hq hS => ?_)
  have hq : cqz_ D q (.inr (11, [.ref (q + 1), .null, .null, .null, .int (Int32.ofInt 0), .int (Int32.ofInt 0), .int (Int32.ofInt 0), .int (Int32.ofInt 0), .null, .null, .null, .int (Int32.ofInt 0), .null, .int (Int32.ofInt 0), .int (Int32.ofInt 0), .int (Int32.ofInt 0), .int (Int32.ofInt 0), .int (Int32.ofInt 0), .int (Int32.ofInt 0), .null]) :: ([] ++ [.inl (cA 0, 136, .inl (fun _ => Int32.ofInt 0))] ++ [.inl (cA 0, 136, .inl (fun _ => Int32.ofInt 0))])) H := hq
  refine cr_putF (ci := 11) (C := RX11) (T := TX11) (N := 20) hx hb hts (bc_cl_ok 11 _ rfl).1 tyX11 tyX11_ok nmX11 hown hK hq hS rfl 1 (by decide) (hts (.fieldLink RX11 13 RX11 "before" "[I") (bc_wat_ok (pos := 1477) (by decide +kernel))) (fun _ h9 => h9) rfl hin rfl (ty := .array .int) (by decide +kernel) rfl rfl (Nat.le_of_ble_eq_true rfl) dX11_19 (fun H locs hq hS => ?_)
  have hq : cqz_ D q (.inr (11, [.ref (q + 1), .ref (q + 2), .null, .null, .int (Int32.ofInt 0), .int (Int32.ofInt 0), .int (Int32.ofInt 0), .int (Int32.ofInt 0), .null, .null, .null, .int (Int32.ofInt 0), .null, .int (Int32.ofInt 0), .int (Int32.ofInt 0), .int (Int32.ofInt 0), .int (Int32.ofInt 0), .int (Int32.ofInt 0), .int (Int32.ofInt 0), .null]) :: ([] ++ [.inl (cA 0, 136, .inl (fun _ => Int32.ofInt 0))] ++ [.inl (cA 0, 136, .inl (fun _ => Int32.ofInt 0))])) H := hq
  refine lv_aload_n hx hb dX11_22 rfl (lv_at hl 0 rfl) ?_
  refine lv_sipush (v := Int32.ofInt 136) hx hb dX11_23 (by decide) ?_
  refine cr_newa (atype := .int) (cI := cA 0) (n := Int32.ofInt 136) (N' := 136) (a0 := (136, .inl (fun _ => Int32.ofInt 0))) (k9 := 3) rfl hx hb (hts (.arrayClass .int) (bc_wat_ok (pos := 183) (by decide +kernel))) (hK.1.2 0 _ rfl).2 hq hS rfl (by decide) (by decide) (Nat.le_of_ble_eq_true rfl) (Nat.le_of_ble_eq_true rfl) (Nat.le_of_ble_eq_true rfl) dX11_26 (fun H hq hS => ?_)
  have hq : cqz_ D q (.inr (11, [.ref (q + 1), .ref (q + 2), .null, .null, .int (Int32.ofInt 0), .int (Int32.ofInt 0), .int (Int32.ofInt 0), .int (Int32.ofInt 0), .null, .null, .null, .int (Int32.ofInt 0), .null, .int (Int32.ofInt 0), .int (Int32.ofInt 0), .int (Int32.ofInt 0), .int (Int32.ofInt 0), .int (Int32.ofInt 0), .int (Int32.ofInt 0), .null]) :: ([] ++ [.inl (cA 0, 136, .inl (fun _ => Int32.ofInt 0))] ++ [.inl (cA 0, 136, .inl (fun _ => Int32.ofInt 0))] ++ [.inl (cA 0, 136, .inl (fun _ => Int32.ofInt 0))])) H := hq
  refine cr_putF (ci := 11) (C := RX11) (T := TX11) (N := 20) hx hb hts (bc_cl_ok 11 _ rfl).1 tyX11 tyX11_ok nmX11 hown hK hq hS rfl 2 (by decide) (hts (.fieldLink RX11 16 RX11 "saved" "[I") (bc_wat_ok (pos := 1478) (by decide +kernel))) (fun _ h9 => h9) rfl hin rfl (ty := .array .int) (by decide +kernel) rfl rfl (Nat.le_of_ble_eq_true rfl) dX11_28 (fun H locs hq hS => ?_)
  have hq : cqz_ D q (.inr (11, [.ref (q + 1), .ref (q + 2), .ref (q + 3), .null, .int (Int32.ofInt 0), .int (Int32.ofInt 0), .int (Int32.ofInt 0), .int (Int32.ofInt 0), .null, .null, .null, .int (Int32.ofInt 0), .null, .int (Int32.ofInt 0), .int (Int32.ofInt 0), .int (Int32.ofInt 0), .int (Int32.ofInt 0), .int (Int32.ofInt 0), .int (Int32.ofInt 0), .null]) :: ([] ++ [.inl (cA 0, 136, .inl (fun _ => Int32.ofInt 0))] ++ [.inl (cA 0, 136, .inl (fun _ => Int32.ofInt 0))] ++ [.inl (cA 0, 136, .inl (fun _ => Int32.ofInt 0))])) H := hq
  refine lv_aload_n hx hb dX11_31 rfl (lv_at hl 0 rfl) ?_
  refine lv_sipush (v := Int32.ofInt 1088) hx hb dX11_32 (by decide) ?_
  refine cr_newa (atype := .int) (cI := cA 0) (n := Int32.ofInt 1088) (N' := 1088) (a0 := (1088, .inl (fun _ => Int32.ofInt 0))) (k9 := 4) rfl hx hb (hts (.arrayClass .int) (bc_wat_ok (pos := 183) (by decide +kernel))) (hK.1.2 0 _ rfl).2 hq hS rfl (by decide) (by decide) (Nat.le_of_ble_eq_true rfl) (Nat.le_of_ble_eq_true rfl) (Nat.le_of_ble_eq_true rfl) dX11_35 (fun H hq hS => ?_)
  have hq : cqz_ D q (.inr (11, [.ref (q + 1), .ref (q + 2), .ref (q + 3), .null, .int (Int32.ofInt 0), .int (Int32.ofInt 0), .int (Int32.ofInt 0), .int (Int32.ofInt 0), .null, .null, .null, .int (Int32.ofInt 0), .null, .int (Int32.ofInt 0), .int (Int32.ofInt 0), .int (Int32.ofInt 0), .int (Int32.ofInt 0), .int (Int32.ofInt 0), .int (Int32.ofInt 0), .null]) :: ([] ++ [.inl (cA 0, 136, .inl (fun _ => Int32.ofInt 0))] ++ [.inl (cA 0, 136, .inl (fun _ => Int32.ofInt 0))] ++ [.inl (cA 0, 136, .inl (fun _ => Int32.ofInt 0))] ++ [.inl (cA 0, 1088, .inl (fun _ => Int32.ofInt 0))])) H := hq
  refine cr_putF (ci := 11) (C := RX11) (T := TX11) (N := 20) hx hb hts (bc_cl_ok 11 _ rfl).1 tyX11 tyX11_ok nmX11 hown hK hq hS rfl 3 (by decide) (hts (.fieldLink RX11 19 RX11 "history" "[I") (bc_wat_ok (pos := 1479) (by decide +kernel))) (fun _ h9 => h9) rfl hin rfl (ty := .array .int) (by decide +kernel) rfl rfl (Nat.le_of_ble_eq_true rfl) dX11_37 (fun H locs hq hS => ?_)
  have hq : cqz_ D q (.inr (11, [.ref (q + 1), .ref (q + 2), .ref (q + 3), .ref (q + 4), .int (Int32.ofInt 0), .int (Int32.ofInt 0), .int (Int32.ofInt 0), .int (Int32.ofInt 0), .null, .null, .null, .int (Int32.ofInt 0), .null, .int (Int32.ofInt 0), .int (Int32.ofInt 0), .int (Int32.ofInt 0), .int (Int32.ofInt 0), .int (Int32.ofInt 0), .int (Int32.ofInt 0), .null]) :: ([] ++ [.inl (cA 0, 136, .inl (fun _ => Int32.ofInt 0))] ++ [.inl (cA 0, 136, .inl (fun _ => Int32.ofInt 0))] ++ [.inl (cA 0, 136, .inl (fun _ => Int32.ofInt 0))] ++ [.inl (cA 0, 1088, .inl (fun _ => Int32.ofInt 0))])) H := hq
  refine lv_aload_n hx hb dX11_40 rfl (lv_at hl 0 rfl) ?_
  refine lv_iconst (v := Int32.ofInt (-1)) hx hb dX11_41 (by decide) ?_
  refine cr_put (ci := 11) (C := RX11) (T := TX11) (N := 20) hx hb hts (bc_cl_ok 11 _ rfl).1 tyX11 tyX11_ok nmX11 hown hK hq hS rfl 6 (by decide) (hts (.fieldLink RX11 22 RX11 "errorAt" "I") (bc_wat_ok (pos := 1482) (by decide +kernel))) (fun _ h9 => h9) rfl (ty := .int) (by decide +kernel) rfl rfl (Nat.le_of_ble_eq_true rfl) dX11_42 (fun H locs hq hS => ?_)
  have hq : cqz_ D q (.inr (11, [.ref (q + 1), .ref (q + 2), .ref (q + 3), .ref (q + 4), .int (Int32.ofInt 0), .int (Int32.ofInt 0), .int (Int32.ofInt (-1)), .int (Int32.ofInt 0), .null, .null, .null, .int (Int32.ofInt 0), .null, .int (Int32.ofInt 0), .int (Int32.ofInt 0), .int (Int32.ofInt 0), .int (Int32.ofInt 0), .int (Int32.ofInt 0), .int (Int32.ofInt 0), .null]) :: ([] ++ [.inl (cA 0, 136, .inl (fun _ => Int32.ofInt 0))] ++ [.inl (cA 0, 136, .inl (fun _ => Int32.ofInt 0))] ++ [.inl (cA 0, 136, .inl (fun _ => Int32.ofInt 0))] ++ [.inl (cA 0, 1088, .inl (fun _ => Int32.ofInt 0))])) H := hq
  refine lv_aload_n hx hb dX11_45 rfl (lv_at hl 0 rfl) ?_
  refine lv_iconst (v := Int32.ofInt (-1)) hx hb dX11_46 (by decide) ?_
  refine cr_put (ci := 11) (C := RX11) (T := TX11) (N := 20) hx hb hts (bc_cl_ok 11 _ rfl).1 tyX11 tyX11_ok nmX11 hown hK hq hS rfl 7 (by decide) (hts (.fieldLink RX11 26 RX11 "failedAt" "I") (bc_wat_ok (pos := 1483) (by decide +kernel))) (fun _ h9 => h9) rfl (ty := .int) (by decide +kernel) rfl rfl (Nat.le_of_ble_eq_true rfl) dX11_47 (fun H locs hq hS => ?_)
  have hq : cqz_ D q (.inr (11, [.ref (q + 1), .ref (q + 2), .ref (q + 3), .ref (q + 4), .int (Int32.ofInt 0), .int (Int32.ofInt 0), .int (Int32.ofInt (-1)), .int (Int32.ofInt (-1)), .null, .null, .null, .int (Int32.ofInt 0), .null, .int (Int32.ofInt 0), .int (Int32.ofInt 0), .int (Int32.ofInt 0), .int (Int32.ofInt 0), .int (Int32.ofInt 0), .int (Int32.ofInt 0), .null]) :: ([] ++ [.inl (cA 0, 136, .inl (fun _ => Int32.ofInt 0))] ++ [.inl (cA 0, 136, .inl (fun _ => Int32.ofInt 0))] ++ [.inl (cA 0, 136, .inl (fun _ => Int32.ofInt 0))] ++ [.inl (cA 0, 1088, .inl (fun _ => Int32.ofInt 0))])) H := hq
  refine lv_aload_n hx hb dX11_50 rfl (lv_at hl 0 rfl) ?_
  refine lv_bipush (v := Int32.ofInt 8) hx hb dX11_51 (by decide) ?_
  refine cr_newa (atype := .int) (cI := cA 0) (n := Int32.ofInt 8) (N' := 8) (a0 := (8, .inl (fun _ => Int32.ofInt 0))) (k9 := 5) rfl hx hb (hts (.arrayClass .int) (bc_wat_ok (pos := 183) (by decide +kernel))) (hK.1.2 0 _ rfl).2 hq hS rfl (by decide) (by decide) (Nat.le_of_ble_eq_true rfl) (Nat.le_of_ble_eq_true rfl) (Nat.le_of_ble_eq_true rfl) dX11_53 (fun H hq hS => ?_)
  have hq : cqz_ D q (.inr (11, [.ref (q + 1), .ref (q + 2), .ref (q + 3), .ref (q + 4), .int (Int32.ofInt 0), .int (Int32.ofInt 0), .int (Int32.ofInt (-1)), .int (Int32.ofInt (-1)), .null, .null, .null, .int (Int32.ofInt 0), .null, .int (Int32.ofInt 0), .int (Int32.ofInt 0), .int (Int32.ofInt 0), .int (Int32.ofInt 0), .int (Int32.ofInt 0), .int (Int32.ofInt 0), .null]) :: ([] ++ [.inl (cA 0, 136, .inl (fun _ => Int32.ofInt 0))] ++ [.inl (cA 0, 136, .inl (fun _ => Int32.ofInt 0))] ++ [.inl (cA 0, 136, .inl (fun _ => Int32.ofInt 0))] ++ [.inl (cA 0, 1088, .inl (fun _ => Int32.ofInt 0))] ++ [.inl (cA 0, 8, .inl (fun _ => Int32.ofInt 0))])) H := hq
  refine cr_putF (ci := 11) (C := RX11) (T := TX11) (N := 20) hx hb hts (bc_cl_ok 11 _ rfl).1 tyX11 tyX11_ok nmX11 hown hK hq hS rfl 8 (by decide) (hts (.fieldLink RX11 29 RX11 "found" "[I") (bc_wat_ok (pos := 1484) (by decide +kernel))) (fun _ h9 => h9) rfl hin rfl (ty := .array .int) (by decide +kernel) rfl rfl (Nat.le_of_ble_eq_true rfl) dX11_55 (fun H locs hq hS => ?_)
  have hq : cqz_ D q (.inr (11, [.ref (q + 1), .ref (q + 2), .ref (q + 3), .ref (q + 4), .int (Int32.ofInt 0), .int (Int32.ofInt 0), .int (Int32.ofInt (-1)), .int (Int32.ofInt (-1)), .ref (q + 5), .null, .null, .int (Int32.ofInt 0), .null, .int (Int32.ofInt 0), .int (Int32.ofInt 0), .int (Int32.ofInt 0), .int (Int32.ofInt 0), .int (Int32.ofInt 0), .int (Int32.ofInt 0), .null]) :: ([] ++ [.inl (cA 0, 136, .inl (fun _ => Int32.ofInt 0))] ++ [.inl (cA 0, 136, .inl (fun _ => Int32.ofInt 0))] ++ [.inl (cA 0, 136, .inl (fun _ => Int32.ofInt 0))] ++ [.inl (cA 0, 1088, .inl (fun _ => Int32.ofInt 0))] ++ [.inl (cA 0, 8, .inl (fun _ => Int32.ofInt 0))])) H := hq
  refine lv_aload_n hx hb dX11_58 rfl (lv_at hl 0 rfl) ?_
  refine lv_bipush (v := Int32.ofInt 9) hx hb dX11_59 (by decide) ?_
  refine cr_newa (atype := .int) (cI := cA 0) (n := Int32.ofInt 9) (N' := 9) (a0 := (9, .inl (fun _ => Int32.ofInt 0))) (k9 := 6) rfl hx hb (hts (.arrayClass .int) (bc_wat_ok (pos := 183) (by decide +kernel))) (hK.1.2 0 _ rfl).2 hq hS rfl (by decide) (by decide) (Nat.le_of_ble_eq_true rfl) (Nat.le_of_ble_eq_true rfl) (Nat.le_of_ble_eq_true rfl) dX11_61 (fun H hq hS => ?_)
  have hq : cqz_ D q (.inr (11, [.ref (q + 1), .ref (q + 2), .ref (q + 3), .ref (q + 4), .int (Int32.ofInt 0), .int (Int32.ofInt 0), .int (Int32.ofInt (-1)), .int (Int32.ofInt (-1)), .ref (q + 5), .null, .null, .int (Int32.ofInt 0), .null, .int (Int32.ofInt 0), .int (Int32.ofInt 0), .int (Int32.ofInt 0), .int (Int32.ofInt 0), .int (Int32.ofInt 0), .int (Int32.ofInt 0), .null]) :: ([] ++ [.inl (cA 0, 136, .inl (fun _ => Int32.ofInt 0))] ++ [.inl (cA 0, 136, .inl (fun _ => Int32.ofInt 0))] ++ [.inl (cA 0, 136, .inl (fun _ => Int32.ofInt 0))] ++ [.inl (cA 0, 1088, .inl (fun _ => Int32.ofInt 0))] ++ [.inl (cA 0, 8, .inl (fun _ => Int32.ofInt 0))] ++ [.inl (cA 0, 9, .inl (fun _ => Int32.ofInt 0))])) H := hq
  refine cr_putF (ci := 11) (C := RX11) (T := TX11) (N := 20) hx hb hts (bc_cl_ok 11 _ rfl).1 tyX11 tyX11_ok nmX11 hown hK hq hS rfl 9 (by decide) (hts (.fieldLink RX11 32 RX11 "way" "[I") (bc_wat_ok (pos := 1485) (by decide +kernel))) (fun _ h9 => h9) rfl hin rfl (ty := .array .int) (by decide +kernel) rfl rfl (Nat.le_of_ble_eq_true rfl) dX11_63 (fun H locs hq hS => ?_)
  have hq : cqz_ D q (.inr (11, [.ref (q + 1), .ref (q + 2), .ref (q + 3), .ref (q + 4), .int (Int32.ofInt 0), .int (Int32.ofInt 0), .int (Int32.ofInt (-1)), .int (Int32.ofInt (-1)), .ref (q + 5), .ref (q + 6), .null, .int (Int32.ofInt 0), .null, .int (Int32.ofInt 0), .int (Int32.ofInt 0), .int (Int32.ofInt 0), .int (Int32.ofInt 0), .int (Int32.ofInt 0), .int (Int32.ofInt 0), .null]) :: ([] ++ [.inl (cA 0, 136, .inl (fun _ => Int32.ofInt 0))] ++ [.inl (cA 0, 136, .inl (fun _ => Int32.ofInt 0))] ++ [.inl (cA 0, 136, .inl (fun _ => Int32.ofInt 0))] ++ [.inl (cA 0, 1088, .inl (fun _ => Int32.ofInt 0))] ++ [.inl (cA 0, 8, .inl (fun _ => Int32.ofInt 0))] ++ [.inl (cA 0, 9, .inl (fun _ => Int32.ofInt 0))])) H := hq
  refine lv_aload_n hx hb dX11_66 rfl (lv_at hl 0 rfl) ?_
  refine lv_bipush (v := Int32.ofInt 60) hx hb dX11_67 (by decide) ?_
  refine cr_newa (atype := .int) (cI := cA 0) (n := Int32.ofInt 60) (N' := 60) (a0 := (60, .inl (fun _ => Int32.ofInt 0))) (k9 := 7) rfl hx hb (hts (.arrayClass .int) (bc_wat_ok (pos := 183) (by decide +kernel))) (hK.1.2 0 _ rfl).2 hq hS rfl (by decide) (by decide) (Nat.le_of_ble_eq_true rfl) (Nat.le_of_ble_eq_true rfl) (Nat.le_of_ble_eq_true rfl) dX11_69 (fun H hq hS => ?_)
  have hq : cqz_ D q (.inr (11, [.ref (q + 1), .ref (q + 2), .ref (q + 3), .ref (q + 4), .int (Int32.ofInt 0), .int (Int32.ofInt 0), .int (Int32.ofInt (-1)), .int (Int32.ofInt (-1)), .ref (q + 5), .ref (q + 6), .null, .int (Int32.ofInt 0), .null, .int (Int32.ofInt 0), .int (Int32.ofInt 0), .int (Int32.ofInt 0), .int (Int32.ofInt 0), .int (Int32.ofInt 0), .int (Int32.ofInt 0), .null]) :: ([] ++ [.inl (cA 0, 136, .inl (fun _ => Int32.ofInt 0))] ++ [.inl (cA 0, 136, .inl (fun _ => Int32.ofInt 0))] ++ [.inl (cA 0, 136, .inl (fun _ => Int32.ofInt 0))] ++ [.inl (cA 0, 1088, .inl (fun _ => Int32.ofInt 0))] ++ [.inl (cA 0, 8, .inl (fun _ => Int32.ofInt 0))] ++ [.inl (cA 0, 9, .inl (fun _ => Int32.ofInt 0))] ++ [.inl (cA 0, 60, .inl (fun _ => Int32.ofInt 0))])) H := hq
  refine cr_putF (ci := 11) (C := RX11) (T := TX11) (N := 20) hx hb hts (bc_cl_ok 11 _ rfl).1 tyX11 tyX11_ok nmX11 hown hK hq hS rfl 10 (by decide) (hts (.fieldLink RX11 35 RX11 "text" "[I") (bc_wat_ok (pos := 1486) (by decide +kernel))) (fun _ h9 => h9) rfl hin rfl (ty := .array .int) (by decide +kernel) rfl rfl (Nat.le_of_ble_eq_true rfl) dX11_71 (fun H locs hq hS => ?_)
  have hq : cqz_ D q (.inr (11, [.ref (q + 1), .ref (q + 2), .ref (q + 3), .ref (q + 4), .int (Int32.ofInt 0), .int (Int32.ofInt 0), .int (Int32.ofInt (-1)), .int (Int32.ofInt (-1)), .ref (q + 5), .ref (q + 6), .ref (q + 7), .int (Int32.ofInt 0), .null, .int (Int32.ofInt 0), .int (Int32.ofInt 0), .int (Int32.ofInt 0), .int (Int32.ofInt 0), .int (Int32.ofInt 0), .int (Int32.ofInt 0), .null]) :: ([] ++ [.inl (cA 0, 136, .inl (fun _ => Int32.ofInt 0))] ++ [.inl (cA 0, 136, .inl (fun _ => Int32.ofInt 0))] ++ [.inl (cA 0, 136, .inl (fun _ => Int32.ofInt 0))] ++ [.inl (cA 0, 1088, .inl (fun _ => Int32.ofInt 0))] ++ [.inl (cA 0, 8, .inl (fun _ => Int32.ofInt 0))] ++ [.inl (cA 0, 9, .inl (fun _ => Int32.ofInt 0))] ++ [.inl (cA 0, 60, .inl (fun _ => Int32.ofInt 0))])) H := hq
  refine lv_aload_n hx hb dX11_74 rfl (lv_at hl 0 rfl) ?_
  refine lv_bipush (v := Int32.ofInt 60) hx hb dX11_75 (by decide) ?_
  refine cr_newa (atype := .int) (cI := cA 0) (n := Int32.ofInt 60) (N' := 60) (a0 := (60, .inl (fun _ => Int32.ofInt 0))) (k9 := 8) rfl hx hb (hts (.arrayClass .int) (bc_wat_ok (pos := 183) (by decide +kernel))) (hK.1.2 0 _ rfl).2 hq hS rfl (by decide) (by decide) (Nat.le_of_ble_eq_true rfl) (Nat.le_of_ble_eq_true rfl) (Nat.le_of_ble_eq_true rfl) dX11_77 (fun H hq hS => ?_)
  have hq : cqz_ D q (.inr (11, [.ref (q + 1), .ref (q + 2), .ref (q + 3), .ref (q + 4), .int (Int32.ofInt 0), .int (Int32.ofInt 0), .int (Int32.ofInt (-1)), .int (Int32.ofInt (-1)), .ref (q + 5), .ref (q + 6), .ref (q + 7), .int (Int32.ofInt 0), .null, .int (Int32.ofInt 0), .int (Int32.ofInt 0), .int (Int32.ofInt 0), .int (Int32.ofInt 0), .int (Int32.ofInt 0), .int (Int32.ofInt 0), .null]) :: ([] ++ [.inl (cA 0, 136, .inl (fun _ => Int32.ofInt 0))] ++ [.inl (cA 0, 136, .inl (fun _ => Int32.ofInt 0))] ++ [.inl (cA 0, 136, .inl (fun _ => Int32.ofInt 0))] ++ [.inl (cA 0, 1088, .inl (fun _ => Int32.ofInt 0))] ++ [.inl (cA 0, 8, .inl (fun _ => Int32.ofInt 0))] ++ [.inl (cA 0, 9, .inl (fun _ => Int32.ofInt 0))] ++ [.inl (cA 0, 60, .inl (fun _ => Int32.ofInt 0))] ++ [.inl (cA 0, 60, .inl (fun _ => Int32.ofInt 0))])) H := hq
  refine cr_putF (ci := 11) (C := RX11) (T := TX11) (N := 20) hx hb hts (bc_cl_ok 11 _ rfl).1 tyX11 tyX11_ok nmX11 hown hK hq hS rfl 12 (by decide) (hts (.fieldLink RX11 38 RX11 "line" "[I") (bc_wat_ok (pos := 1488) (by decide +kernel))) (fun _ h9 => h9) rfl hin rfl (ty := .array .int) (by decide +kernel) rfl rfl (Nat.le_of_ble_eq_true rfl) dX11_79 (fun H locs hq hS => ?_)
  have hq : cqz_ D q (.inr (11, [.ref (q + 1), .ref (q + 2), .ref (q + 3), .ref (q + 4), .int (Int32.ofInt 0), .int (Int32.ofInt 0), .int (Int32.ofInt (-1)), .int (Int32.ofInt (-1)), .ref (q + 5), .ref (q + 6), .ref (q + 7), .int (Int32.ofInt 0), .ref (q + 8), .int (Int32.ofInt 0), .int (Int32.ofInt 0), .int (Int32.ofInt 0), .int (Int32.ofInt 0), .int (Int32.ofInt 0), .int (Int32.ofInt 0), .null]) :: ([] ++ [.inl (cA 0, 136, .inl (fun _ => Int32.ofInt 0))] ++ [.inl (cA 0, 136, .inl (fun _ => Int32.ofInt 0))] ++ [.inl (cA 0, 136, .inl (fun _ => Int32.ofInt 0))] ++ [.inl (cA 0, 1088, .inl (fun _ => Int32.ofInt 0))] ++ [.inl (cA 0, 8, .inl (fun _ => Int32.ofInt 0))] ++ [.inl (cA 0, 9, .inl (fun _ => Int32.ofInt 0))] ++ [.inl (cA 0, 60, .inl (fun _ => Int32.ofInt 0))] ++ [.inl (cA 0, 60, .inl (fun _ => Int32.ofInt 0))])) H := hq
  refine lv_aload_n hx hb dX11_82 rfl (lv_at hl 0 rfl) ?_
  refine lv_bipush (v := Int32.ofInt 120) hx hb dX11_83 (by decide) ?_
  refine cr_newa (atype := .int) (cI := cA 0) (n := Int32.ofInt 120) (N' := 120) (a0 := (120, .inl (fun _ => Int32.ofInt 0))) (k9 := 9) rfl hx hb (hts (.arrayClass .int) (bc_wat_ok (pos := 183) (by decide +kernel))) (hK.1.2 0 _ rfl).2 hq hS rfl (by decide) (by decide) (Nat.le_of_ble_eq_true rfl) (Nat.le_of_ble_eq_true rfl) (Nat.le_of_ble_eq_true rfl) dX11_85 (fun H hq hS => ?_)
  have hq : cqz_ D q (.inr (11, [.ref (q + 1), .ref (q + 2), .ref (q + 3), .ref (q + 4), .int (Int32.ofInt 0), .int (Int32.ofInt 0), .int (Int32.ofInt (-1)), .int (Int32.ofInt (-1)), .ref (q + 5), .ref (q + 6), .ref (q + 7), .int (Int32.ofInt 0), .ref (q + 8), .int (Int32.ofInt 0), .int (Int32.ofInt 0), .int (Int32.ofInt 0), .int (Int32.ofInt 0), .int (Int32.ofInt 0), .int (Int32.ofInt 0), .null]) :: ([] ++ [.inl (cA 0, 136, .inl (fun _ => Int32.ofInt 0))] ++ [.inl (cA 0, 136, .inl (fun _ => Int32.ofInt 0))] ++ [.inl (cA 0, 136, .inl (fun _ => Int32.ofInt 0))] ++ [.inl (cA 0, 1088, .inl (fun _ => Int32.ofInt 0))] ++ [.inl (cA 0, 8, .inl (fun _ => Int32.ofInt 0))] ++ [.inl (cA 0, 9, .inl (fun _ => Int32.ofInt 0))] ++ [.inl (cA 0, 60, .inl (fun _ => Int32.ofInt 0))] ++ [.inl (cA 0, 60, .inl (fun _ => Int32.ofInt 0))] ++ [.inl (cA 0, 120, .inl (fun _ => Int32.ofInt 0))])) H := hq
  refine cr_putF (ci := 11) (C := RX11) (T := TX11) (N := 20) hx hb hts (bc_cl_ok 11 _ rfl).1 tyX11 tyX11_ok nmX11 hown hK hq hS rfl 19 (by decide) (hts (.fieldLink RX11 41 RX11 "numbers" "[I") (bc_wat_ok (pos := 1495) (by decide +kernel))) (fun _ h9 => h9) rfl hin rfl (ty := .array .int) (by decide +kernel) rfl rfl (Nat.le_of_ble_eq_true rfl) dX11_87 (fun H locs hq hS => ?_)
  have hq : cqz_ D q (.inr (11, [.ref (q + 1), .ref (q + 2), .ref (q + 3), .ref (q + 4), .int (Int32.ofInt 0), .int (Int32.ofInt 0), .int (Int32.ofInt (-1)), .int (Int32.ofInt (-1)), .ref (q + 5), .ref (q + 6), .ref (q + 7), .int (Int32.ofInt 0), .ref (q + 8), .int (Int32.ofInt 0), .int (Int32.ofInt 0), .int (Int32.ofInt 0), .int (Int32.ofInt 0), .int (Int32.ofInt 0), .int (Int32.ofInt 0), .ref (q + 9)]) :: ([] ++ [.inl (cA 0, 136, .inl (fun _ => Int32.ofInt 0))] ++ [.inl (cA 0, 136, .inl (fun _ => Int32.ofInt 0))] ++ [.inl (cA 0, 136, .inl (fun _ => Int32.ofInt 0))] ++ [.inl (cA 0, 1088, .inl (fun _ => Int32.ofInt 0))] ++ [.inl (cA 0, 8, .inl (fun _ => Int32.ofInt 0))] ++ [.inl (cA 0, 9, .inl (fun _ => Int32.ofInt 0))] ++ [.inl (cA 0, 60, .inl (fun _ => Int32.ofInt 0))] ++ [.inl (cA 0, 60, .inl (fun _ => Int32.ofInt 0))] ++ [.inl (cA 0, 120, .inl (fun _ => Int32.ofInt 0))])) H := hq
  refine lv_aload_n hx hb dX11_90 rfl (lv_at hl 0 rfl) ?_
  refine va_get (D := D) (ci := 11) (C := RX11) (T := TX11) (N := 20) hx hb hts (bc_cl_ok 11 _ rfl).1 hown hK.1 (cqz_P hq) 0 rfl rfl 0 (by decide) (hts (.fieldLink RX11 9 RX11 "now" "[I") (bc_wat_ok (pos := 1476) (by decide +kernel))) (fun _ h9 => h9) rfl dX11_91 ?_
  refine lv_iconst (v := Int32.ofInt 1) hx hb dX11_94 (by decide) ?_
  refine lv_bipush (v := Int32.ofInt 30) hx hb dX11_95 (by decide) ?_
  refine cr_iast hx hb hK hq hS (k0 := 1) (N := 136) rfl (by unfold vp_in; decide) dX11_97 (fun H locs hq hS => ?_)
  have hq : cqz_ D q (.inr (11, [.ref (q + 1), .ref (q + 2), .ref (q + 3), .ref (q + 4), .int (Int32.ofInt 0), .int (Int32.ofInt 0), .int (Int32.ofInt (-1)), .int (Int32.ofInt (-1)), .ref (q + 5), .ref (q + 6), .ref (q + 7), .int (Int32.ofInt 0), .ref (q + 8), .int (Int32.ofInt 0), .int (Int32.ofInt 0), .int (Int32.ofInt 0), .int (Int32.ofInt 0), .int (Int32.ofInt 0), .int (Int32.ofInt 0), .ref (q + 9)]) :: ([] ++ [.inl (cA 0, 136, .inl (upd (fun _ => Int32.ofInt 0) 1 (Int32.ofInt 30)))] ++ [.inl (cA 0, 136, .inl (fun _ => Int32.ofInt 0))] ++ [.inl (cA 0, 136, .inl (fun _ => Int32.ofInt 0))] ++ [.inl (cA 0, 1088, .inl (fun _ => Int32.ofInt 0))] ++ [.inl (cA 0, 8, .inl (fun _ => Int32.ofInt 0))] ++ [.inl (cA 0, 9, .inl (fun _ => Int32.ofInt 0))] ++ [.inl (cA 0, 60, .inl (fun _ => Int32.ofInt 0))] ++ [.inl (cA 0, 60, .inl (fun _ => Int32.ofInt 0))] ++ [.inl (cA 0, 120, .inl (fun _ => Int32.ofInt 0))])) H := hq
  refine lv_aload_n hx hb dX11_98 rfl (lv_at hl 0 rfl) ?_
  refine va_get (D := D) (ci := 11) (C := RX11) (T := TX11) (N := 20) hx hb hts (bc_cl_ok 11 _ rfl).1 hown hK.1 (cqz_P hq) 0 rfl rfl 0 (by decide) (hts (.fieldLink RX11 9 RX11 "now" "[I") (bc_wat_ok (pos := 1476) (by decide +kernel))) (fun _ h9 => h9) rfl dX11_99 ?_
  refine lv_iconst (v := Int32.ofInt 2) hx hb dX11_102 (by decide) ?_
  refine lv_iconst (v := Int32.ofInt 5) hx hb dX11_103 (by decide) ?_
  refine cr_iast hx hb hK hq hS (k0 := 1) (N := 136) rfl (by unfold vp_in; decide) dX11_104 (fun H locs hq hS => ?_)
  have hq : cqz_ D q (.inr (11, [.ref (q + 1), .ref (q + 2), .ref (q + 3), .ref (q + 4), .int (Int32.ofInt 0), .int (Int32.ofInt 0), .int (Int32.ofInt (-1)), .int (Int32.ofInt (-1)), .ref (q + 5), .ref (q + 6), .ref (q + 7), .int (Int32.ofInt 0), .ref (q + 8), .int (Int32.ofInt 0), .int (Int32.ofInt 0), .int (Int32.ofInt 0), .int (Int32.ofInt 0), .int (Int32.ofInt 0), .int (Int32.ofInt 0), .ref (q + 9)]) :: ([] ++ [.inl (cA 0, 136, .inl (upd (upd (fun _ => Int32.ofInt 0) 1 (Int32.ofInt 30)) 2 (Int32.ofInt 5)))] ++ [.inl (cA 0, 136, .inl (fun _ => Int32.ofInt 0))] ++ [.inl (cA 0, 136, .inl (fun _ => Int32.ofInt 0))] ++ [.inl (cA 0, 1088, .inl (fun _ => Int32.ofInt 0))] ++ [.inl (cA 0, 8, .inl (fun _ => Int32.ofInt 0))] ++ [.inl (cA 0, 9, .inl (fun _ => Int32.ofInt 0))] ++ [.inl (cA 0, 60, .inl (fun _ => Int32.ofInt 0))] ++ [.inl (cA 0, 60, .inl (fun _ => Int32.ofInt 0))] ++ [.inl (cA 0, 120, .inl (fun _ => Int32.ofInt 0))])) H := hq
  refine lv_aload_n hx hb dX11_105 rfl (lv_at hl 0 rfl) ?_
  refine va_get (D := D) (ci := 11) (C := RX11) (T := TX11) (N := 20) hx hb hts (bc_cl_ok 11 _ rfl).1 hown hK.1 (cqz_P hq) 0 rfl rfl 0 (by decide) (hts (.fieldLink RX11 9 RX11 "now" "[I") (bc_wat_ok (pos := 1476) (by decide +kernel))) (fun _ h9 => h9) rfl dX11_106 ?_
  refine lv_bipush (v := Int32.ofInt 11) hx hb dX11_109 (by decide) ?_
  refine lv_bipush (v := Int32.ofInt 99) hx hb dX11_111 (by decide) ?_
  refine cr_iast hx hb hK hq hS (k0 := 1) (N := 136) rfl (by unfold vp_in; decide) dX11_113 (fun H locs hq hS => ?_)
  have hq : cqz_ D q (.inr (11, [.ref (q + 1), .ref (q + 2), .ref (q + 3), .ref (q + 4), .int (Int32.ofInt 0), .int (Int32.ofInt 0), .int (Int32.ofInt (-1)), .int (Int32.ofInt (-1)), .ref (q + 5), .ref (q + 6), .ref (q + 7), .int (Int32.ofInt 0), .ref (q + 8), .int (Int32.ofInt 0), .int (Int32.ofInt 0), .int (Int32.ofInt 0), .int (Int32.ofInt 0), .int (Int32.ofInt 0), .int (Int32.ofInt 0), .ref (q + 9)]) :: ([] ++ [.inl (cA 0, 136, .inl (upd (upd (upd (fun _ => Int32.ofInt 0) 1 (Int32.ofInt 30)) 2 (Int32.ofInt 5)) 11 (Int32.ofInt 99)))] ++ [.inl (cA 0, 136, .inl (fun _ => Int32.ofInt 0))] ++ [.inl (cA 0, 136, .inl (fun _ => Int32.ofInt 0))] ++ [.inl (cA 0, 1088, .inl (fun _ => Int32.ofInt 0))] ++ [.inl (cA 0, 8, .inl (fun _ => Int32.ofInt 0))] ++ [.inl (cA 0, 9, .inl (fun _ => Int32.ofInt 0))] ++ [.inl (cA 0, 60, .inl (fun _ => Int32.ofInt 0))] ++ [.inl (cA 0, 60, .inl (fun _ => Int32.ofInt 0))] ++ [.inl (cA 0, 120, .inl (fun _ => Int32.ofInt 0))])) H := hq
  refine W.widen (k := 9) (n := 1753) (Nat.le_of_ble_eq_true rfl) (Nat.le_of_ble_eq_true rfl) ?_
  exact W.vret hx hb hr (fun t ht hW => ⟨⟨(), rfl, trivial, by show cqz_ D q (E11_ cA q) t.heap; rw [ht]; exact hq⟩, hS.F ht⟩) hS.2.2 dX11_114
end
section
/-! the fresh object: its row, what the class's mirror says of it -/
noncomputable def r0_ : rw_t := fun j => if j = 1 then 30 else if j = 2 then 5 else if j = 11 then 99 else 0
noncomputable def v0_ : cs_t := (r0_, r0_, r0_, ([], 0), (fun _ => 0, 0), [], (fun _ => 0, fun _ _ => 0), [], 0, -1, -1)
theorem r0_0 : r0_ 0 = 0 := by decide
theorem r0_1 : r0_ 1 = 30 := by decide
theorem r0_2 : r0_ 2 = 5 := by decide
theorem r0_3 : r0_ 3 = 0 := by decide
theorem r0_4 : r0_ 4 = 0 := by decide
theorem r0_z {j : Int} (h : j ≠ 1 ∧ j ≠ 2 ∧ j ≠ 11) : r0_ j = 0 := by unfold r0_; rw [if_neg h.1, if_neg h.2.1, if_neg h.2.2]
theorem r0_M : wf_M r0_ := by
  refine ⟨by rw [r0_3]; decide, fun k k0 k1 => ?_⟩
  rw [r0_z (by omega), r0_z (by omega), r0_z (by omega), r0_z (by omega), r0_z (by omega), r0_z (by omega)]
  decide
theorem r0_N : wf_N r0_ := by
  refine ⟨.inl (by decide), by decide, by decide, by decide, by decide⟩
theorem r0_T : wf_T 0 r0_ := by
  refine ⟨by decide, by decide, by decide, by decide, by decide, by decide, by decide, by decide, by decide, by decide, by decide, by decide, fun k k0 k1 => ?_, fun k k0 k1 => ?_, fun k l k0 k1 l1 => ?_⟩
  · rw [r0_z (by omega), r0_z (by omega), r0_z (by omega)]
    decide
  · rw [r0_4] at k1; omega
  · rw [r0_4] at l1; omega
end
