section
/-! a grid of numbers is made: the outer row, then the inner rows one behind another -/
noncomputable abbrev mg_zz (c : ClassId) (N h0 i : Nat) : Cell := arrV c N (fun j => if j < i then .ref (h0 + 1 + j) else .null)
noncomputable abbrev mi_zz (c : ClassId) (M : Nat) : Cell := arrV c M (fun _ => .int 0)
noncomputable def mt_zz (s : State) (c comp : ClassId) (N M : Nat) : Nat → State
  | 0 => s.pushCell (mg_zz c N s.heap.size 0)
  | i + 1 => ((mt_zz s c comp N M i).pushCell (mi_zz comp M)).setCell s.heap.size (mg_zz c N s.heap.size (i + 1))
theorem mg_szz (c : ClassId) (N h0 i : Nat) : (mg_zz c N h0 i).setSlot i (.ref (h0 + 1 + i)) = mg_zz c N h0 (i + 1) := by
  unfold mg_zz
  rw [arrV_store]
  congr 1
  funext j
  unfold updV
  by_cases e : j = i
  · rw [if_pos e, if_pos (by omega), e]
  · rw [if_neg e]
    show (if j < i then Value.ref (h0 + 1 + j) else Value.null) = _
    by_cases e2 : j < i
    · rw [if_pos e2, if_pos (by omega)]
    · rw [if_neg e2, if_neg (by omega)]
theorem mg_0zz (c : ClassId) (N h0 : Nat) : ({ cls := c, slots := Array.replicate N .null, vm := .none } : Cell) = mg_zz c N h0 0 := by
  rw [arrV_new]
  unfold mg_zz
  congr 1
/-- what the state holds behind i rows -/
noncomputable def mf_zz (s T : State) (c comp : ClassId) (N M i : Nat) : Prop := T.heap.size = s.heap.size + 1 + i ∧ T.heap[s.heap.size]? = some (mg_zz c N s.heap.size i) ∧ T.vm = s.vm ∧ T.slotsUsed = s.slotsUsed + N + i * M ∧ (∀ a, a < s.heap.size → T.heap[a]? = s.heap[a]?) ∧ ∀ j, j < i → T.heap[s.heap.size + 1 + j]? = some (mi_zz comp M)
theorem mt_fzz (s : State) (c comp : ClassId) (N M : Nat) : ∀ i, mf_zz s (mt_zz s c comp N M i) c comp N M i := by
  intro i
  induction i with
  | zero =>
    refine ⟨by simp [mt_zz], by simp [mt_zz], rfl, by simp [mt_zz, arrV_size], fun a ha => State.heap_pushCell_of_lt _ _ ha, fun j hj => absurd hj (Nat.not_lt_zero _)⟩
  | succ i ih =>
    obtain ⟨a1, a2, a3, a4, a5, a6⟩ := ih
    have lt0 : s.heap.size < (mt_zz s c comp N M i).heap.size := by omega
    have b2 : ((mt_zz s c comp N M i).pushCell (mi_zz comp M)).heap[s.heap.size]? = some (mg_zz c N s.heap.size i) := by rw [State.heap_pushCell_of_lt (h := lt0)]; exact a2
    refine ⟨by simp [mt_zz, State.setCell, a1]; omega, State.heap_setCell_self b2, by simp [mt_zz, a3], ?_, fun a ha => ?_, fun j hj => ?_⟩
    · have e : (mi_zz comp M).slots.size = M := arrV_size _ _ _
      simp [mt_zz, a4, e, Nat.succ_mul]
      omega
    · show (((mt_zz s c comp N M i).pushCell (mi_zz comp M)).setCell s.heap.size _).heap[a]? = _
      have la : a < (mt_zz s c comp N M i).heap.size := by omega
      rw [State.heap_setCell_other (Nat.ne_of_gt ha), State.heap_pushCell_of_lt (h := la)]
      exact a5 a ha
    · show (((mt_zz s c comp N M i).pushCell (mi_zz comp M)).setCell s.heap.size _).heap[s.heap.size + 1 + j]? = _
      rw [State.heap_setCell_other (show s.heap.size ≠ s.heap.size + 1 + j by omega)]
      by_cases e : j = i
      · rw [e, ← a1]
        exact State.heap_pushCell_size _ _
      · have la : s.heap.size + 1 + j < (mt_zz s c comp N M i).heap.size := by omega
        rw [State.heap_pushCell_of_lt (h := la)]
        exact a6 j (by omega)
theorem mt_topzz (s : State) (f : JFrame) (c comp : ClassId) (N M : Nat) : ∀ i, mt_zz (s.setTop f) c comp N M i = (mt_zz s c comp N M i).setTop f := by
  intro i
  induction i with
  | zero => rfl
  | succ i ih => simp only [mt_zz, ih, State.heap_setTop, State.pushCell_setTop, State.setCell_setTop]
section MUL
variable {E : CtlPost} {e : Env} {d : Bool} {acts : List Action} {s : State}
theorem mt_wpzz {c comp cc : ClassId} {k kc : Class} {n m : Int32} {N M : Nat} (hk : s.vm.classes[c]? = some k) (hkind : k.kind = .array comp (.array .int)) (hkc : s.vm.classes[comp]? = some kc) (hkindc : kc.kind = .array cc .int)
    (hn : ¬ n < 0) (hn0 : (n == 0) = false) (hm : ¬ m < 0) (hN : n.toNatClampNeg = N) (hM : m.toNatClampNeg = M)
    (hl1 : ¬ N > e.platform.arrayLengthLimit) (hh1 : ¬ N * componentBytes (.array .int) > e.platform.maxHeapBytes) (hl2 : ¬ M > e.platform.arrayLengthLimit) (hh2 : ¬ M * componentBytes .int > e.platform.maxHeapBytes)
    (hc : s.heap.size + 1 + N ≤ e.platform.maxCells) (hs : s.slotsUsed + N + N * M ≤ e.platform.maxSlots)
    {Q : Addr → Pre} (hq : ∀ d' acts', Q s.heap.size d' acts' (mt_zz s c comp N M N)) : wp (multianewarray.make c [n, m]) Q E e d acts s := by
  rw [multianewarray.make]
  simp only [wp_bind', W.ite, hn, if_false, wp_pure', W.theClass, hk, hkind, Option.some.injEq, exists_eq_left', hN]
  refine W.newArray_of hk hkind hl1 hh1 (by omega) (by omega) rfl (fun acts1 => ?_)
  simp only [hn0, Bool.false_eq_true, if_false, wp_pure', wp_bind', Std.Legacy.Range.forIn_eq_forIn_range']
  rw [show ([:N] : Std.Legacy.Range).size = N by simp [Std.Legacy.Range.size]]
  show wp (forIn (List.range' 0 N 1) PUnit.unit _) _ E e d acts1 _
  refine wp_forIn_inv (fun rest s' => ∃ i, i ≤ N ∧ rest = List.range' i (N - i) ∧ s' = mt_zz s c comp N M i) _ _ ⟨0, Nat.zero_le _, rfl, ?_⟩ ?_ ?_
  · show s.pushCell _ = s.pushCell _
    rw [← mg_0zz]
  · rintro x rest s' d' acts' Q' ⟨i, hi, hl, rfl⟩ hnext
    have hlt : i < N := by
      refine Classical.byContradiction (fun h => ?_)
      rw [show N - i = 0 by omega] at hl
      cases hl
    rw [show N - i = (N - (i + 1)) + 1 by omega, List.range'_succ] at hl
    obtain ⟨rfl, hrest⟩ := List.cons.inj hl
    obtain ⟨f1, f2, f3, f4, f5, f6⟩ := mt_fzz s c comp N M x
    have hmul : x * M + M ≤ N * M := by
      have := Nat.mul_le_mul_right M (show x + 1 ≤ N from hlt)
      rw [Nat.succ_mul] at this
      exact this
    simp only [wp_bind']
    rw [multianewarray.make]
    simp only [wp_bind', W.ite, hm, if_false, wp_pure', W.theClass, f3, hkc, hkindc, Option.some.injEq, exists_eq_left', hM]
    refine W.newArray_of (by rw [f3]; exact hkc) hkindc hl2 hh2 (by omega) (by omega) rfl (fun acts2 => ?_)
    have e0 : ({ cls := comp, slots := Array.replicate M (defaultValue .int) } : Cell) = mi_zz comp M := arrV_new comp M (.int 0)
    rw [e0]
    have lt0 : s.heap.size < (mt_zz s c comp N M x).heap.size := by omega
    simp only [wp_bind', W.writeLoc, wp_pure']
    refine ⟨mg_zz c N s.heap.size x, by rw [State.heap_pushCell_of_lt (h := lt0)]; exact f2, (fun q => by cases q), by rw [arrV_size]; exact hlt, ?_, hnext _ _ _ ⟨x + 1, hlt, hrest, ?_⟩⟩
    · show State.fitsSlot _ c .none x _ = true
      simp [State.fitsSlot, State.slotType?, f3, hk, hkind, fits]
    · rw [f1, mg_szz]
      rfl
  · rintro s' d' acts' ⟨i, hi, hl, rfl⟩
    have hiN : i = N := by
      refine Classical.byContradiction (fun h => ?_)
      rw [show N - i = (N - (i + 1)) + 1 by omega, List.range'_succ] at hl
      cases hl
    subst hiN
    simp only [wp_pure']
    exact hq _ _
end MUL
end
section
/-! CONSTRUCTORS: cells one behind another, from q on -/
noncomputable def cz_zz : Nat → List va_E → va_W
  | _, [] => []
  | q, x :: l => (q, x) :: cz_zz (q + 1) l
theorem cz_atzz : ∀ (es : List va_E) (q i : Nat), (cz_zz q es)[i]? = (es[i]?).map (fun x => (q + i, x))
  | [], q, i => by simp [cz_zz]
  | x :: l, q, 0 => by simp [cz_zz]
  | x :: l, q, i + 1 => by
    show (cz_zz (q + 1) l)[i]? = _
    rw [cz_atzz l (q + 1) i, show q + 1 + i = q + (i + 1) by omega]
    simp only [List.getElem?_cons_succ]
noncomputable def cqz_zz (D : va_G) (q : Nat) (es : List va_E) (H : Heap) : Prop := H.size = q + es.length ∧ ∀ (i : Nat) (x : va_E), es[i]? = some x → va_at D bc_cl (q + i, x) H
theorem cqz_Pzz {D : va_G} {q : Nat} {es : List va_E} {H : Heap} (h : cqz_zz D q es H) : va_P D bc_cl (cz_zz q es) H := fun k r hk => by
  rw [cz_atzz] at hk
  obtain ⟨x, hx, rfl⟩ := Option.map_eq_some_iff.mp hk
  exact h.2 k x hx
theorem cz_Dzz (es : List va_E) (q : Nat) : va_D (fun a => q ≤ a) (cz_zz q es) := by
  refine ⟨fun i j p r hi hj e => ?_, fun k r hk => ?_⟩
  · rw [cz_atzz] at hi hj
    obtain ⟨x, hx, rfl⟩ := Option.map_eq_some_iff.mp hi
    obtain ⟨y, hy, rfl⟩ := Option.map_eq_some_iff.mp hj
    have e : q + i = q + j := e
    omega
  · rw [cz_atzz] at hk
    obtain ⟨x, hx, rfl⟩ := Option.map_eq_some_iff.mp hk
    exact Nat.le_add_right q k
theorem cqz_ltzz {D : va_G} {q : Nat} {es : List va_E} {H : Heap} (h : cqz_zz D q es H) {i : Nat} {x : va_E} (hx : es[i]? = some x) : q + i < H.size := by
  have := (List.getElem?_eq_some_iff.mp hx).1
  rw [h.1]
  omega
/-- more cells behind -/
theorem cqz_appzz {D : va_G} {q : Nat} {es w : List va_E} {H H1 : Heap} (h : cqz_zz D q es H) (hw : cqz_zz D (q + es.length) w H1) (o1 : ∀ a, a < q + es.length → H1[a]? = H[a]?) : cqz_zz D q (es ++ w) H1 := by
  refine ⟨by rw [hw.1, List.length_append]; omega, fun i x hx => ?_⟩
  by_cases c : i < es.length
  · rw [List.getElem?_append_left c] at hx
    exact (h.2 i x hx).kept (o1 (q + i) (by omega))
  · rw [List.getElem?_append_right (by omega)] at hx
    have := hw.2 (i - es.length) x hx
    rw [show q + es.length + (i - es.length) = q + i by omega] at this
    exact this
/-- the last cell gives way to more -/
theorem cqz_lastzz {D : va_G} {q : Nat} {es w : List va_E} {e0 : va_E} {H H1 : Heap} (h : cqz_zz D q (es ++ [e0]) H) (hw : cqz_zz D (q + es.length) w H1) (o1 : ∀ a, a < q + es.length → H1[a]? = H[a]?) : cqz_zz D q (es ++ w) H1 := by
  refine ⟨by rw [hw.1, List.length_append]; omega, fun i x hx => ?_⟩
  by_cases c : i < es.length
  · rw [List.getElem?_append_left c] at hx
    exact (h.2 i x (by rw [List.getElem?_append_left c]; exact hx)).kept (o1 (q + i) (by omega))
  · rw [List.getElem?_append_right (by omega)] at hx
    have := hw.2 (i - es.length) x hx
    rw [show q + es.length + (i - es.length) = q + i by omega] at this
    exact this
theorem cqz_pushzz {D : va_G} {q : Nat} {es : List va_E} {e0 : va_E} {H H1 : Heap} (h : cqz_zz D q es H) (hz : H1.size = q + es.length + 1) (o1 : ∀ a, a < q + es.length → H1[a]? = H[a]?) (hn : va_at D bc_cl (q + es.length, e0) H1) : cqz_zz D q (es ++ [e0]) H1 := by
  refine cqz_appzz h ⟨by rw [hz]; rfl, fun i x hx => ?_⟩ o1
  cases i with
  | zero => cases hx; exact hn
  | succ i => cases hx
theorem cqz_putzz {D : va_G} {q : Nat} {es : List va_E} {e0 e1 : va_E} {H H1 : Heap} (h : cqz_zz D q (e0 :: es) H) (hz : H1.size = H.size) (o1 : ∀ a, a ≠ q → H1[a]? = H[a]?) (hn : va_at D bc_cl (q, e1) H1) : cqz_zz D q (e1 :: es) H1 := by
  refine ⟨by rw [hz, h.1]; rfl, fun i x hx => ?_⟩
  cases i with
  | zero => cases hx; exact hn
  | succ i => exact (h.2 (i + 1) x hx).kept (o1 (q + (i + 1)) (by omega))
theorem cqz_splitzz {D : va_G} {q : Nat} {es w : List va_E} {H : Heap} (h : cqz_zz D q (es ++ w) H) : cqz_zz D (q + es.length) w H := by
  refine ⟨by rw [h.1, List.length_append]; omega, fun i x hx => ?_⟩
  have := h.2 (es.length + i) x (by rw [List.getElem?_append_right (by omega), show es.length + i - es.length = i by omega]; exact hx)
  rw [← Nat.add_assoc] at this
  exact this
noncomputable abbrev ty7_zz (cA : Nat → ClassId) : List (ClassId × FieldType) := [(cA 0, .int), (cA 1, .char), (cA 2, .boolean), (cA 3, .long), (cA 4, .double), (cA 5, .array .int), (cA 6, .object "BridgeChapel$State")]
noncomputable def ck_Mzz (w : Cond) : Bool := match w with
  | .methodLinkNest _ _ _ _ => true
  | _ => false
/-- what the tables say that no word says: the classes, and who may call whose constructor -/
noncomputable def ck_Kzz (D : va_G) (cA : Nat → ClassId) (U : State) : Prop := va_K D bc_cl (ty7_zz cA) U ∧ va_AO "BridgeChapel$State" U ∧ (∃ kA : Class, U.vm.classes[cA 5]? = some kA ∧ kA.kind = .array (cA 0) (.array .int)) ∧ ∀ w ∈ lw_tbl, ck_Mzz w = true → va_Nw w U
theorem ck_warmzz {D : va_G} {cA : Nat → ClassId} {s U : State} (hW : s.WarmedH U.vm) (h : ck_Kzz D cA s) : ck_Kzz D cA U := by
  obtain ⟨h1, h2, ⟨kA, h3, h4⟩, h5⟩ := h
  refine ⟨va_K.moved hW.alike h1, h2.moved hW.alike, ?_, fun w hw hm => ?_⟩
  · obtain ⟨k', hk', he⟩ := hW.alike.2.2 _ _ h3
    exact ⟨k', hk', by rw [he]; exact h4⟩
  · have h8 := h5 w hw hm
    unfold ck_Mzz at hm
    split at hm
    · exact va_Nw.warmM hW h8
    · cases hm
theorem ck_samezz {D : va_G} {cA : Nat → ClassId} {u U : State} (hv : U.vm = u.vm) (h : ck_Kzz D cA u) : ck_Kzz D cA U := by
  obtain ⟨h1, h2, h3, h5⟩ := h
  have ha : u.vm.Alike U.vm := by rw [hv]; exact Vm.Alike.refl u.vm
  refine ⟨va_K.moved ha h1, h2.moved ha, by rw [hv]; exact h3, fun w hw hm => ?_⟩
  have h8 := h5 w hw hm
  unfold ck_Mzz at hm
  split at hm
  · exact va_Nw.same rfl hv.symm h8
  · cases hm
section CTR
variable {p : Program} {l : Launch} {e : Env} {R : Room} {s : State} {m : MethodId} {args : Array Value} {below : List Frame} {meth : Method} {c : Code} {H : Heap} {locs : List Loc} {cells slots : Nat} {Q : State → Prop} {cc : ByteArray} {pc : Nat} {ls : Array Slot} {rest : List Value} {D : va_G} {cA : Nat → ClassId} {q : Nat} {es : List va_E}
theorem cs_growzz (hS : va_S (fun a => q ≤ a) s.heap H locs) (hz : q ≤ H.size) {H1 : Heap} (z1 : H.size ≤ H1.size) (o1 : ∀ a, a < H.size → H1[a]? = H[a]?) : va_S (fun a => q ≤ a) s.heap H1 locs :=
  ⟨Nat.le_trans hS.1 z1, fun x h1 h2 => (o1 x (Nat.lt_of_lt_of_le h1 hS.1)).trans (hS.2.1 x h1 h2), hS.2.2⟩
theorem cr_newzz {k9 : Nat} (hlen : es.length = k9) (hexec : p.tables.exec = Jvm.exec) (hb : c.code = cc) {own C : String} {T : u_T} {N ci index : Nat} (hts : ∀ w ∈ bc_W, w.before args s = true) (hin : ∀ w ∈ u_ws C T N, w ∈ bc_W) (ty : Nat → FieldType) (hty : ∀ k, k < N → parseFieldDescriptor (T k).2.2.1 = some (ty k)) (hown : s.vm.findClass own = some m.cls) (hcl : (Cond.classLink own index C).before args s = true) (hinst : (Cond.instantiable C N).before args s = true) (hini : (Cond.initialized C).before args s = true) (hK : ck_Kzz D cA s) (hq : cqz_zz D q es H) (hS : va_S (fun a => q ≤ a) s.heap H locs) (hc : bc_cl[ci]? = some (C, T, N)) {fs : List Value} (hfs : ∀ j, j < N → defaultValue (ty j) = vp_V fs j) (hcells : cells + 1 ≤ R.cells) (hslots : slots + N ≤ R.slots) (hdg : decode cc pc = .ok (.new index, 3))
    (kk : ∀ H1 : Heap, cqz_zz D q (es ++ [.inr (ci, fs)]) H1 → va_S (fun a => q ≤ a) s.heap H1 locs → W p l e R s m args below meth c H1 locs (cells + 1) (slots + N) Q (F0 m (pc + 3) ls (.ref (q + k9) :: rest))) : W p l e R s m args below meth c H locs cells slots Q (F0 m pc ls rest) := by
  subst hlen
  have hKn := hK.1.1 ci _ hc
  have hz := hq.1
  refine W.newcK hexec hb hown hcl hinst hini rfl hdg hcells hslots hKn.2.1 hz fun H1 kC hkC e1 z1 o1 => ?_
  refine kk H1 (cqz_pushzz hq z1 o1 ?_) (cs_growzz hS (by omega) (by omega) (fun a ha => o1 a (by omega)))
  exact ⟨_, hc, (u_born ty hts hin hKn hkC e1 hty).to hfs⟩
theorem cr_newazz {k9 : Nat} (hlen : es.length = k9) (hexec : p.tables.exec = Jvm.exec) (hb : c.code = cc) {atype : ArrayType} (harr : (Cond.arrayClass (newarray.typeOf atype)).before args s = true) {cI : ClassId} (hnm : s.vm.findClass ("[" ++ (newarray.typeOf atype).toString) = some cI) (hq : cqz_zz D q es H) (hS : va_S (fun a => q ≤ a) s.heap H locs) {n : Int32} {N' : Nat} {a0 : vp_A} (ha : vp_cell cI a0 = arrV cI N' (fun _ => defaultValue (newarray.typeOf atype))) (hn : ¬ n < 0) (hN : n.toNatClampNeg = N') (hbytes : N' * componentBytes (newarray.typeOf atype) ≤ 536870912) (hcells : cells + 1 ≤ R.cells) (hslots : slots + N' ≤ R.slots) (hdg : decode cc pc = .ok (.newarray atype, 2))
    (kk : ∀ H1 : Heap, cqz_zz D q (es ++ [.inl (cI, a0)]) H1 → va_S (fun a => q ≤ a) s.heap H1 locs → W p l e R s m args below meth c H1 locs (cells + 1) (slots + N') Q (F0 m (pc + 2) ls (.ref (q + k9) :: rest))) : W p l e R s m args below meth c H locs cells slots Q (F0 m pc ls (.int n :: rest)) := by
  subst hlen
  have hz := hq.1
  refine va_newaK hexec hb harr rfl hdg rfl hn hN hbytes hcells hslots hz fun H1 cI' e1 z1 o1 _ hNm => ?_
  have e9 : cI' = cI := Option.some.inj (hNm.symm.trans hnm)
  rw [e9] at e1
  refine kk H1 (cqz_pushzz hq z1 o1 ?_) (cs_growzz hS (by omega) (by omega) (fun a ha => o1 a (by omega)))
  show H1[q + es.length]? = some (vp_cell cI a0)
  rw [ha]
  exact e1
theorem cr_newqzz {k9 : Nat} (hlen : es.length = k9) (hexec : p.tables.exec = Jvm.exec) (hb : c.code = cc) {own C : String} {index : Nat} (hown : s.vm.findClass own = some m.cls) (hclink : (Cond.classLink own index C).before args s = true) (hover : va_AO C s) {cI : ClassId} (hnm : s.vm.findClass ("[" ++ (FieldType.object C).toString) = some cI) (hq : cqz_zz D q es H) (hS : va_S (fun a => q ≤ a) s.heap H locs) {n : Int32} {N' : Nat} (hn : ¬ n < 0) (hN : n.toNatClampNeg = N') (hbytes : N' * 4 ≤ 536870912) (hcells : cells + 1 ≤ R.cells) (hslots : slots + N' ≤ R.slots) (hdg : decode cc pc = .ok (.anewarray index, 3))
    (kk : ∀ H1 : Heap, cqz_zz D q (es ++ [.inl (cI, N', .inr (.inr (.inr (.inr (fun _ => none)))))]) H1 → va_S (fun a => q ≤ a) s.heap H1 locs → W p l e R s m args below meth c H1 locs (cells + 1) (slots + N') Q (F0 m (pc + 3) ls (.ref (q + k9) :: rest))) : W p l e R s m args below meth c H locs cells slots Q (F0 m pc ls (.int n :: rest)) := by
  subst hlen
  have hz := hq.1
  subst hN
  refine W.anew hexec hb hown hclink (va_AO.use hover) rfl hdg rfl hn hbytes hcells hslots fun cI' kA comp f1 f2 f3 f4 => ?_
  have e9 : cI' = cI := Option.some.inj (f1.symm.trans hnm)
  subst e9
  generalize hH1 : H.push ({ cls := cI', slots := Array.replicate n.toNatClampNeg .null, vm := .none } : Cell) = H1
  have z1 : H1.size = H.size + 1 := by rw [← hH1, Array.size_push]
  have e1 : H1[H.size]? = some (arrV cI' n.toNatClampNeg (fun _ => .null)) := by rw [← hH1, Array.getElem?_push_size, ← arrV_new]
  have o1 : ∀ a : Nat, a < H.size → H1[a]? = H[a]? := fun a ha => by rw [← hH1, Array.getElem?_push, if_neg (Nat.ne_of_lt ha)]
  rw [hz] at e1 ⊢
  refine kk H1 (cqz_pushzz hq (by omega) (fun a ha => o1 a (by omega)) ?_) (cs_growzz hS (by omega) (by omega) o1)
  show H1[q + es.length]? = some (vp_cell _ _)
  rw [vp_cell_q]
  exact e1
/-- a grid of ints -/
noncomputable abbrev cg_rzz (cI : ClassId) (M : Nat) : va_E := .inl (cI, M, .inl (fun j => if j < M then Int32.ofInt 0 else 0))
noncomputable abbrev cg_ozz (cG : ClassId) (N h : Nat) : va_E := .inl (cG, N, .inr (.inr (.inr (.inr (fun j => if j < N then some (h + 1 + j) else none)))))
theorem mt_standzz {T : State} {cI comp : ClassId} {N M : Nat} (X : Stand p l e R s m args below meth c T locs cells slots) : ∀ i, ∃ L : List Loc, (∀ x ∈ L, x.base = T.heap.size) ∧ Stand p l e R s m args below meth c (mt_zz T cI comp N M i) (locs ++ L) (cells + 1 + i) (slots + N + i * M) := by
  intro i
  induction i with
  | zero =>
    refine ⟨[], (fun x hx => by cases hx), ?_⟩
    have h := X.pushed (mg_zz cI N T.heap.size 0)
    rw [arrV_size] at h
    simpa [mt_zz] using h
  | succ i ih =>
    obtain ⟨L, hL, Xi⟩ := ih
    obtain ⟨f1, f2, f3, f4, f5, f6⟩ := mt_fzz T cI comp N M i
    have lt0 : T.heap.size < (mt_zz T cI comp N M i).heap.size := by omega
    have hcell : ((mt_zz T cI comp N M i).pushCell (mi_zz comp M)).heap[T.heap.size]? = some (mg_zz cI N T.heap.size i) := by rw [State.heap_pushCell_of_lt (h := lt0)]; exact f2
    have h := (Xi.pushed (mi_zz comp M)).stored hcell i (.ref (T.heap.size + 1 + i))
    rw [mg_szz, arrV_size, List.append_assoc] at h
    refine ⟨L ++ [⟨T.heap.size, i⟩], fun x hx => ?_, ?_⟩
    · rcases List.mem_append.mp hx with hx | hx
      · exact hL x hx
      · rw [List.mem_singleton.mp hx]
    · rw [show slots + N + (i + 1) * M = slots + N + i * M + M by rw [Nat.succ_mul]; omega]
      exact h
theorem cr_multizz {k9 : Nat} (hlen : es.length = k9) (hexec : p.tables.exec = Jvm.exec) (hb : c.code = cc) {own : String} {index : Nat} (hown : s.vm.findClass own = some m.cls) (hclink : (Cond.classLink own index "[[I").before args s = true) (hK : ck_Kzz D cA s) (hq : cqz_zz D q es H) (hS : va_S (fun a => q ≤ a) s.heap H locs) {n k : Int32} {N M : Nat} (hn : ¬ n < 0) (hn0 : (n == 0) = false) (hk : ¬ k < 0) (hN : n.toNatClampNeg = N) (hM : k.toNatClampNeg = M) (hb1 : N ≤ 1000) (hb2 : M ≤ 1000) (hcells : cells + (1 + N) ≤ R.cells) (hslots : slots + (N + N * M) ≤ R.slots) (hdg : decode cc pc = .ok (.multianewarray index 2, 4))
    (kk : ∀ (H1 : Heap) (locs1 : List Loc), cqz_zz D q (es ++ (cg_ozz (cA 5) N (q + k9) :: List.replicate N (cg_rzz (cA 0) M))) H1 → va_S (fun a => q ≤ a) s.heap H1 locs1 → W p l e R s m args below meth c H1 locs1 (cells + (1 + N)) (slots + (N + N * M)) Q (F0 m (pc + 4) ls (.ref (q + k9) :: rest))) : W p l e R s m args below meth c H locs cells slots Q (F0 m pc ls (.int k :: .int n :: rest)) := by
  subst hlen
  obtain ⟨hKv, -, ⟨kA, hkA, hkindA⟩, -⟩ := hK
  have hnA : s.vm.findClass "[[I" = some (cA 5) := (hKv.2 5 _ rfl).2
  obtain ⟨-, kC, hkC, cc1, hkindC⟩ := (hKv.2 0 _ rfl).1 0 (fun _ => .null)
  have hkC : s.vm.classes[cA 0]? = some kC := hkC
  have hkindC : kC.kind = .array cc1 .int := hkindC
  intro T hT X
  subst hb
  have hpl : e.platform.magicAccessors = ({} : Platform).magicAccessors := by rw [X.admits.platform]
  obtain ⟨c0, hfc0, hcl⟩ := Cond.classLink_spec hown hclink e.platform hpl
  have ec : cA 5 = c0 := Option.some.inj (hnA.symm.trans hfc0)
  rw [← ec] at hcl
  obtain ⟨hg1, hw1, hr1⟩ := State.classEntry (e := e) X.warmed hcl
  generalize T.vm.noted m.cls index (.cls (cA 5)) = vm1 at hg1 hw1 hr1
  obtain ⟨kA1, hkA1, heA⟩ := hw1.alike.2.2 _ _ hkA
  obtain ⟨kC1, hkC1, heC⟩ := hw1.alike.2.2 _ _ hkC
  have X1 := X.noted hw1
  obtain ⟨r1, r2⟩ := X.roomAbove hcells hslots
  obtain ⟨L, hL, XF⟩ := mt_standzz (cI := cA 5) (comp := cA 0) (N := N) (M := M) X1 N
  obtain ⟨f1, f2, f3, f4, f5, f6⟩ := mt_fzz (T.setVm vm1) (cA 5) (cA 0) N M N
  have hTs : (T.setVm vm1).heap = H := hT
  rw [hTs] at f1 f2 f5 f6 hL
  have hz := hq.1
  rw [hz] at f1 f2 f5 f6 hL
  have hw : cqz_zz D (q + es.length) (cg_ozz (cA 5) N (q + es.length) :: List.replicate N (cg_rzz (cA 0) M)) (mt_zz (T.setVm vm1) (cA 5) (cA 0) N M N).heap := by
    refine ⟨by rw [f1, List.length_cons, List.length_replicate]; omega, fun i x hx => ?_⟩
    cases i with
    | zero =>
      cases hx
      show (mt_zz (T.setVm vm1) (cA 5) (cA 0) N M N).heap[q + es.length]? = some (vp_cell _ _)
      rw [f2, vp_cell_q]
      refine congrArg some (congrArg (arrV (cA 5) N) (funext fun j => ?_))
      by_cases h : j < N
      · rw [if_pos h, if_pos h]; rfl
      · rw [if_neg h, if_neg h]; rfl
    | succ i =>
      rw [List.getElem?_cons_succ, List.getElem?_replicate] at hx
      by_cases h : i < N
      · rw [if_pos h] at hx
        cases hx
        have := f6 i h
        show (mt_zz (T.setVm vm1) (cA 5) (cA 0) N M N).heap[q + es.length + (i + 1)]? = some (vp_cell _ _)
        rw [show q + es.length + (i + 1) = q + es.length + 1 + i by omega, this]
        have e0 : (fun j : Nat => if j < M then (Int32.ofInt 0) else 0) = fun _ => 0 := by
          funext j
          split <;> rfl
        rw [e0]
        rfl
      · rw [if_neg h] at hx
        cases hx
  have hq1 := cqz_appzz hq hw (fun a ha => f5 a ha)
  have hS1 : va_S (fun a => q ≤ a) s.heap (mt_zz (T.setVm vm1) (cA 5) (cA 0) N M N).heap (locs ++ L) := by
    have h0 := cs_growzz (H1 := (mt_zz (T.setVm vm1) (cA 5) (cA 0) N M N).heap) hS (by omega) (by omega) (fun a ha => f5 a (by omega))
    refine ⟨h0.1, h0.2.1, fun x hx => ?_⟩
    rcases List.mem_append.mp hx with hx | hx
    · exact hS.2.2 x hx
    · rw [hL x hx]
      exact Nat.le_add_right _ _
  rw [show cells + 1 + N = cells + (1 + N) by omega, show slots + N + N * M = slots + (N + N * M) by omega] at XF
  obtain ⟨t, a1, b1⟩ := kk _ _ hq1 hS1 (mt_zz (T.setVm vm1) (cA 5) (cA 0) N M N) rfl XF
  refine ⟨t, ?_, b1⟩
  have l1 : ¬ N > e.platform.arrayLengthLimit := by rw [Launch.admits_arrayLengthLimit X.admits]; omega
  have h1 : ¬ N * componentBytes (.array .int) > e.platform.maxHeapBytes := by rw [Launch.admits_maxHeapBytes X.admits]; show ¬ N * 4 > 536870912; omega
  have l2 : ¬ M > e.platform.arrayLengthLimit := by rw [Launch.admits_arrayLengthLimit X.admits]; omega
  have h2 : ¬ M * componentBytes .int > e.platform.maxHeapBytes := by rw [Launch.admits_maxHeapBytes X.admits]; show ¬ M * 4 > 536870912; omega
  jvm_step X.here [hexec, hdg]
  simp only [multianewarray.sem, wp_bind', W.resolveClassAt_links (State.method?_setTop (F0 m pc ls (.int k :: .int n :: rest)) X.here.top) hg1]
  rw [W.popN, if_neg (by decide)]
  refine ⟨F0 m pc ls (.int k :: .int n :: rest), State.topJava?_setTop' (s := T.setVm vm1) (F0 m pc ls (.int k :: .int n :: rest)) X.here.top, [.int n, .int k], rest, rfl, rfl, ?_⟩
  simp only [List.mapM_cons, List.mapM_nil, wp_bind', wp_pure']
  refine mt_wpzz (k := kA1) (kc := kC1) (comp := cA 0) (cc := cc1) hkA1 (by rw [heA]; exact hkindA) hkC1 (by rw [heC]; exact hkindC) hn hn0 hk hN hM l1 h1 l2 h2 (by show T.heap.size + 1 + _ ≤ _; omega) (by show T.slotsUsed + _ + _ ≤ _; omega) (fun d' acts' => ?_)
  have eS : ∀ g g' : JFrame, ((T.setTop g).setVm vm1).setTop g' = (T.setVm vm1).setTop g' := fun g g' => by
    show ((T.setVm vm1).setTop g).setTop _ = _
    rw [State.setTop_setTop]
  rw [eS, mt_topzz]
  simp only [wp_bind', W.mark, W.pushRef, State.topJava?_setTop' _ XF.here.top, Option.some.injEq, exists_eq_left', State.setTop_setTop, State.heap_setTop]
  intro acts
  simp [jvm, XF.here.top]
  have eH : T.heap.size = q + es.length := by rw [hT]; exact hz
  rw [eH]
  exact a1
end CTR
end
section
/-! constructors: fields of the new object, calls of constructors, an object laid into a row -/
noncomputable abbrev ctW_zz (Y : bc_Y) : List Cond := .code Y.1 Y.2.1 (bc_nL Y) none :: bc_W
theorem ctW_goodzz {Y : bc_Y} (h : Cond.code Y.1 Y.2.1 (bc_nL Y) none ∈ bc_W) : GoodIn bc_W (ctW_zz Y) := fun w hw => by
  rcases List.mem_cons.mp hw with rfl | hw
  · exact ⟨h, bc_W_good _ h⟩
  · exact ⟨hw, bc_W_good _ hw⟩
/-- a constructor, called on the last cell: cells come behind it, what lies before stays -/
noncomputable def ctc_zz (l : Launch) (D : va_G) (cA : Nat → ClassId) (Y : bc_Y) (rm : Room) (e0 : va_E) (E : Nat → List va_E) (mc ms : Nat) : Prop := ∀ q : Nat, Met l Y.1 (ctW_zz Y) rm (va_Pc [.ref q] (fun U => cqz_zz D q [e0] U.heap ∧ ck_Kzz D cA U)) (va_Qv (fun _ : Unit => True) (fun _ t => cqz_zz D q (E q) t.heap) (fun a => q ≤ a)) mc ms (fun a => q ≤ a)
section CTP
variable {p : Program} {l : Launch} {e : Env} {R : Room} {s : State} {m : MethodId} {args : Array Value} {below : List Frame} {meth : Method} {c : Code} {H : Heap} {locs : List Loc} {cells slots : Nat} {Q : State → Prop} {cc : ByteArray} {pc : Nat} {ls : Array Slot} {rest : List Value} {D : va_G} {cA : Nat → ClassId} {q : Nat} {es : List va_E}
theorem cr_putzz (hexec : p.tables.exec = Jvm.exec) (hb : c.code = cc) {own ref C : String} {T : u_T} {N ci index : Nat} (hts : ∀ w ∈ bc_W, w.before args s = true) (hin : ∀ w ∈ u_ws C T N, w ∈ bc_W) (ty0 : Nat → FieldType) (hty : ∀ k, k < N → parseFieldDescriptor (T k).2.2.1 = some (ty0 k)) (hnm : ∀ a, a < N → ∀ b, b < N → a ≠ b → (T a).2.1 ≠ (T b).2.1) (hown : s.vm.findClass own = some m.cls) (hK : ck_Kzz D cA s) {fs : List Value} (hq : cqz_zz D q (.inr (ci, fs) :: es) H) (hS : va_S (fun a => q ≤ a) s.heap H locs) (hc : bc_cl[ci]? = some (C, T, N)) (k : Nat) (hk : k < N) (hlink : (Cond.fieldLink own index ref (T k).2.1 (T k).2.2.1).before args s = true) (hsame : ∀ x, s.fieldFound? (T k).1 (T k).2.1 (T k).2.2.1 = some x → s.fieldFound? ref (T k).2.1 (T k).2.2.1 = some x) (hfin : (T k).2.2.2 = false) {ty : FieldType} {v : Value} (hd : parseFieldDescriptor (T k).2.2.1 = some ty) (hn : narrow ty v = v) (hfit : fits ty v = true) (hl : k < fs.length)
    (hdg : decode cc pc = .ok (.putfield index, 3)) (kk : ∀ (H1 : Heap) (locs1 : List Loc), cqz_zz D q (.inr (ci, fs.set k v) :: es) H1 → va_S (fun a => q ≤ a) s.heap H1 locs1 → W p l e R s m args below meth c H1 locs1 cells slots Q (F0 m (pc + 3) ls rest)) : W p l e R s m args below meth c H locs cells slots Q (F0 m pc ls (v :: .ref q :: rest)) := by
  have hap := va_apart (own := own) hts hin ty0 hty hnm hK.1 hc
  obtain ⟨r, h1, cell, q1, q2, q3, q4⟩ := (hq.2 0 _ rfl : va_at D bc_cl (q, .inr (ci, fs)) H)
  have hr : r = (C, T, N) := Option.some.inj (h1.symm.trans hc)
  subst hr
  obtain ⟨hSs, hfc, kC, hkC, hkind⟩ := hK.1.1 ci _ hc
  obtain ⟨cf, kf, fi, f, hi, hsl⟩ := hSs k hk
  have hlay := hts _ (hin _ (u_in_lay hk))
  unfold u_lay at hlay
  rw [if_neg (by rw [hfin]; decide)] at hlay
  have hst := (u_facts hfc hkC (u_lays hts hin hk) hi).1
  have h6 := u_store hfc hkC hkind hlay hi hd hn hfit
  refine W.putK hexec hb (f := f) ⟨hown, hlink, ⟨_, _, _, hsame _ hi⟩, hst⟩ (by rw [q2]; exact h6) q1 q3 (by rw [hsl]; exact k2_hasslot (q4 k hk)) rfl rfl hdg fun H' e1 e2 e3 => ?_
  rw [hsl] at e1 ⊢
  exact kk H' _ (cqz_putzz hq e2 e3 ⟨_, hc, t_OB.to (V := updV (vp_V fs) k v) ⟨_, e1, q2, q3, t_set q4 hap hk v⟩ (fun j _ => vp_updV_set hl v j)⟩) (hS.put e2 e3 (Nat.le_refl q))
theorem cr_putFzz (hexec : p.tables.exec = Jvm.exec) (hb : c.code = cc) {own ref C : String} {T : u_T} {N ci index : Nat} (hts : ∀ w ∈ bc_W, w.before args s = true) (hin : ∀ w ∈ u_ws C T N, w ∈ bc_W) (ty0 : Nat → FieldType) (hty : ∀ k, k < N → parseFieldDescriptor (T k).2.2.1 = some (ty0 k)) (hnm : ∀ a, a < N → ∀ b, b < N → a ≠ b → (T a).2.1 ≠ (T b).2.1) (hown : s.vm.findClass own = some m.cls) (hK : ck_Kzz D cA s) {fs : List Value} (hq : cqz_zz D q (.inr (ci, fs) :: es) H) (hS : va_S (fun a => q ≤ a) s.heap H locs) (hc : bc_cl[ci]? = some (C, T, N)) (k : Nat) (hk : k < N) (hlink : (Cond.fieldLink own index ref (T k).2.1 (T k).2.2.1).before args s = true) (hsame : ∀ x, s.fieldFound? (T k).1 (T k).2.1 (T k).2.2.1 = some x → s.fieldFound? ref (T k).2.1 (T k).2.2.1 = some x) (hfin : (T k).2.2.2 = true) (hin2 : meth.name = "<init>") (hdecl : (T k).1 = own) {ty : FieldType} {v : Value} (hd : parseFieldDescriptor (T k).2.2.1 = some ty) (hn : narrow ty v = v) (hfit : fits ty v = true) (hl : k < fs.length)
    (hdg : decode cc pc = .ok (.putfield index, 3)) (kk : ∀ (H1 : Heap) (locs1 : List Loc), cqz_zz D q (.inr (ci, fs.set k v) :: es) H1 → va_S (fun a => q ≤ a) s.heap H1 locs1 → W p l e R s m args below meth c H1 locs1 cells slots Q (F0 m (pc + 3) ls rest)) : W p l e R s m args below meth c H locs cells slots Q (F0 m pc ls (v :: .ref q :: rest)) := by
  have hap := va_apart (own := own) hts hin ty0 hty hnm hK.1 hc
  obtain ⟨r, h1, cell, q1, q2, q3, q4⟩ := (hq.2 0 _ rfl : va_at D bc_cl (q, .inr (ci, fs)) H)
  have hr : r = (C, T, N) := Option.some.inj (h1.symm.trans hc)
  subst hr
  obtain ⟨hSs, hfc, kC, hkC, hkind⟩ := hK.1.1 ci _ hc
  obtain ⟨cf, kf, fi, f, hi, hsl⟩ := hSs k hk
  have hlay := hts _ (hin _ (u_in_lay hk))
  unfold u_lay at hlay
  rw [if_pos hfin] at hlay
  have hst := (u_facts hfc hkC (u_lays hts hin hk) hi).1
  have hcf : m.cls = cf := by
    obtain ⟨_, _, c', _, _, _, -, -, hf', -, -, -, hown2, -⟩ := Cond.laysFinal_spec hlay
    have e1 : c' = cf := by have := hi.symm.trans hf'; simp at this; exact this.1.symm
    rw [hdecl] at hown2
    rw [← e1]; exact Option.some.inj (hown.symm.trans hown2)
  have h6 := u_fits hfc hkC hkind (Or.inr hlay) hi hd hn hfit
  refine W.putFinK hexec hb hown hlink (hsame _ hi) hst hcf hin2 (by rw [q2]; exact h6) q1 q3 (by rw [hsl]; exact k2_hasslot (q4 k hk)) rfl rfl hdg fun H' e1 e2 e3 => ?_
  rw [hsl] at e1 ⊢
  exact kk H' _ (cqz_putzz hq e2 e3 ⟨_, hc, t_OB.to (V := updV (vp_V fs) k v) ⟨_, e1, q2, q3, t_set q4 hap hk v⟩ (fun j _ => vp_updV_set hl v j)⟩) (hS.put e2 e3 (Nat.le_refl q))
theorem ctc_blindzz {q : Nat} {e0 : va_E} : FrameBlind (va_Pc [.ref q] (fun U => cqz_zz D q [e0] U.heap ∧ ck_Kzz D cA U)) := fun a U g mk h => ⟨h.1, h.2.1, ck_samezz (u := U) (U := U.calling g mk a) rfl h.2.2⟩
theorem cr_callNzz {k9 : Nat} (hlen : es.length = k9) {Y : bc_Y} {rm : Room} {e0 : va_E} {E : Nat → List va_E} {mc ms nL index : Nat} {own host : String} (hexec : p.tables.exec = Jvm.exec) (hb : c.code = cc) (hml : c.maxLocals = nL) (hown : s.vm.findClass own = some m.cls) (hts : ∀ w ∈ bc_W, w.before args s = true) (hC : ctc_zz l D cA Y rm e0 E mc ms) (hcode : Cond.code Y.1 Y.2.1 (bc_nL Y) none ∈ bc_W) (hlk : Cond.methodLinkNest own index Y.1 host ∈ lw_tbl) (hini : Cond.initialized Y.1.cls ∈ bc_W) (hinst : Cond.instanceMethod Y.1 ∈ bc_W) (hy1 : Y.1.name = "<init>") (hd : Y.1.cls ≠ "java/lang/invoke/MethodHandle" ∧ Y.1.cls ≠ "java/lang/invoke/VarHandle" ∧ (parseMethodDescriptor Y.1.desc).map (fun d => d.parameters.length) = some 0) (hrc : rm.cells = mc) (hrs : rm.slots = ms) (hR : rm.frames + 1 ≤ R.frames ∧ 8 + (bc_nL Y + 11) + rm.locals ≤ R.locals)
    (hK : ck_Kzz D cA s) (hq : cqz_zz D q (es ++ [e0]) H) (hS : va_S (fun a => q ≤ a) s.heap H locs) (hls : ls.size = nL) (hrm : (rest.map fun v => v.category).sum ≤ 8) (hdg : decode cc pc = .ok (.invokespecial index, 3)) (hf : cells + mc ≤ R.cells ∧ slots + ms ≤ R.slots)
    (kk : ∀ (H1 : Heap) (locs1 : List Loc), cqz_zz D q (es ++ E (q + k9)) H1 → va_S (fun a => q ≤ a) s.heap H1 locs1 → W p l e R s m args below meth c H1 locs1 (cells + mc) (slots + ms) Q (F0 m (pc + 3) ls rest)) : W p l e R s m args below meth c H locs cells slots Q (F0 m pc ls (.ref (q + k9) :: rest)) := by
  subst hlen
  have hz := hq.1
  rw [List.length_append, List.length_singleton] at hz
  refine va_callv (A0 := fun a => q ≤ a) (A1 := fun a => q + es.length ≤ a) (va_runIN (As := []) (rest := rest) (Ts := bc_W) ⟨hexec, hb, hml, hown, hts⟩ (hC (q + es.length)) ⟨va_cnB 0 hts (ctW_goodzz hcode) rfl hrc hrs (hK.2.2.2 _ hlk rfl) (hts _ hini) hd hR, hy1, hts _ hinst⟩ ⟨ctc_blindzz, fun U hU hW => ⟨rfl, by rw [hU]; exact cqz_splitzz hq, ck_warmzz hW hK⟩⟩ rfl rfl hls rfl (lv_room hrm) hdg hf) hS (fun a _ h => Nat.le_trans (Nat.le_add_right _ _) h) (fun a h => Nat.le_trans (Nat.le_add_right _ _) h) (fun u t H1 locs1 ht hvm _ hB hz1 hk1 hS1 => ?_)
  exact kk H1 locs1 (cqz_lastzz hq (by rw [← ht]; exact hB) (fun a ha => hk1 a (by omega) (by omega))) hS1
theorem cr_callIzz {k9 : Nat} (hlen : es.length = k9) {Y : bc_Y} {rm : Room} {e0 : va_E} {E : Nat → List va_E} {mc ms nL index : Nat} {own : String} (hexec : p.tables.exec = Jvm.exec) (hb : c.code = cc) (hml : c.maxLocals = nL) (hown : s.vm.findClass own = some m.cls) (hts : ∀ w ∈ bc_W, w.before args s = true) (hC : ctc_zz l D cA Y rm e0 E mc ms) (hcode : Cond.code Y.1 Y.2.1 (bc_nL Y) none ∈ bc_W) (hlk : Cond.methodLink own index Y.1 ∈ bc_W) (hini : Cond.initialized Y.1.cls ∈ bc_W) (hinst : Cond.instanceMethod Y.1 ∈ bc_W) (hy1 : Y.1.name = "<init>") (hd : Y.1.cls ≠ "java/lang/invoke/MethodHandle" ∧ Y.1.cls ≠ "java/lang/invoke/VarHandle" ∧ (parseMethodDescriptor Y.1.desc).map (fun d => d.parameters.length) = some 0) (hrc : rm.cells = mc) (hrs : rm.slots = ms) (hR : rm.frames + 1 ≤ R.frames ∧ 8 + (bc_nL Y + 11) + rm.locals ≤ R.locals)
    (hK : ck_Kzz D cA s) (hq : cqz_zz D q (es ++ [e0]) H) (hS : va_S (fun a => q ≤ a) s.heap H locs) (hls : ls.size = nL) (hrm : (rest.map fun v => v.category).sum ≤ 8) (hdg : decode cc pc = .ok (.invokespecial index, 3)) (hf : cells + mc ≤ R.cells ∧ slots + ms ≤ R.slots)
    (kk : ∀ (H1 : Heap) (locs1 : List Loc), cqz_zz D q (es ++ E (q + k9)) H1 → va_S (fun a => q ≤ a) s.heap H1 locs1 → W p l e R s m args below meth c H1 locs1 (cells + mc) (slots + ms) Q (F0 m (pc + 3) ls rest)) : W p l e R s m args below meth c H locs cells slots Q (F0 m pc ls (.ref (q + k9) :: rest)) := by
  subst hlen
  have hz := hq.1
  rw [List.length_append, List.length_singleton] at hz
  refine va_callv (A0 := fun a => q ≤ a) (A1 := fun a => q + es.length ≤ a) (va_runI (As := []) (rest := rest) (Ts := bc_W) ⟨hexec, hb, hml, hown, hts⟩ (hC (q + es.length)) (cwI 0 hts (ctW_goodzz hcode) rfl hrc hrs (hts _ hini) (hts _ hlk) (hts _ hinst) hy1 hd hR) ⟨ctc_blindzz, fun U hU hW => ⟨rfl, by rw [hU]; exact cqz_splitzz hq, ck_warmzz hW hK⟩⟩ rfl rfl hls rfl (lv_room hrm) hdg hf) hS (fun a _ h => Nat.le_trans (Nat.le_add_right _ _) h) (fun a h => Nat.le_trans (Nat.le_add_right _ _) h) (fun u t H1 locs1 ht hvm _ hB hz1 hk1 hS1 => ?_)
  exact kk H1 locs1 (cqz_lastzz hq (by rw [← ht]; exact hB) (fun a ha => hk1 a (by omega) (by omega))) hS1
theorem cqz_setzz {es : List va_E} {e1 : va_E} {k0 : Nat} {H H1 : Heap} (h : cqz_zz D q es H) (hk : k0 < es.length) (hz : H1.size = H.size) (o1 : ∀ a, a ≠ q + k0 → H1[a]? = H[a]?) (hn : va_at D bc_cl (q + k0, e1) H1) : cqz_zz D q (es.set k0 e1) H1 := by
  refine ⟨by rw [hz, h.1, List.length_set], fun i x hx => ?_⟩
  by_cases c : i = k0
  · subst c
    rw [List.getElem?_set_self hk] at hx
    cases hx
    exact hn
  · rw [List.getElem?_set_ne (fun q => c q.symm)] at hx
    exact (h.2 i x hx).kept (o1 (q + i) (by omega))
theorem cr_astzz (hexec : p.tables.exec = Jvm.exec) (hb : c.code = cc) (hK : ck_Kzz D cA s) (hq : cqz_zz D q es H) (hS : va_S (fun a => q ≤ a) s.heap H locs) {k0 kv N : Nat} {f : Nat → Option Nat} {fs : List Value} (ha : es[k0]? = some (.inl (cA 6, N, .inr (.inr (.inr (.inr f)))))) (hv : es[kv]? = some (.inr (6, fs))) {i : Int32} (hin : vp_in i N) (hdg : decode cc pc = .ok (.aastore, 1))
    (kk : ∀ (H1 : Heap) (locs1 : List Loc), cqz_zz D q (es.set k0 (.inl (cA 6, N, .inr (.inr (.inr (.inr (va_up f i.toNatClampNeg (some (q + kv))))))))) H1 → va_S (fun a => q ≤ a) s.heap H1 locs1 → W p l e R s m args below meth c H1 locs1 cells slots Q (F0 m (pc + 1) ls rest)) : W p l e R s m args below meth c H locs cells slots Q (F0 m pc ls (.ref (q + kv) :: .int i :: .ref (q + k0) :: rest)) := by
  have hlt : i.toNatClampNeg < N := Nat.not_le.mp fun q => hin (Or.inr q)
  have h0 : ¬ i < 0 := fun q => hin (Or.inl q)
  obtain ⟨r', hr', cellV, g1, g2, g3, -⟩ := (hq.2 kv _ hv : va_at D bc_cl (q + kv, .inr (6, fs)) H)
  have hcls := (hK.1.1 6 _ rfl).2
  obtain ⟨kA, comp, k1, k2, k3, -⟩ := (hK.1.2 6 _ rfl).2
  have hcomp : comp = D.1 6 := Option.some.inj (k3.symm.trans hcls.1)
  subst hcomp
  obtain ⟨kC, hkC, -⟩ := hcls.2
  have hat : H[q + k0]? = some (vp_cell (cA 6) (N, .inr (.inr (.inr (.inr f))))) := hq.2 k0 _ ha
  refine W.aast hexec hb hat (fun q h => by cases h) (fun h => by cases h) k1 k2 rfl hkC ⟨h0, by show _ < (arrV _ _ _).slots.size; rw [arrV_size]; exact hlt⟩ g1 (fun q h => by rw [g3] at h; cases h) (by rw [g2]; exact hkC) (by rw [g2]; exact va_assign hcls) rfl rfl hdg fun H1 e1 z oq => ?_
  refine kk H1 _ (cqz_setzz hq (List.getElem?_eq_some_iff.mp ha).1 z oq ?_) (hS.put z oq (Nat.le_add_right _ _))
  show H1[q + k0]? = some (vp_cell _ _)
  rw [e1]
  rw [vp_cell_q, vp_cell_q, arrV_store]
  congr 2
  funext j
  by_cases hj : j = i.toNatClampNeg
  · subst hj
    simp [updV, va_up, va_rf]
  · simp [updV, va_up, hj]
theorem cr_iastzz (hexec : p.tables.exec = Jvm.exec) (hb : c.code = cc) (hK : ck_Kzz D cA s) (hq : cqz_zz D q es H) (hS : va_S (fun a => q ≤ a) s.heap H locs) {k0 N : Nat} {f : Nat → Int32} (ha : es[k0]? = some (.inl (cA 0, N, .inl f))) {i x : Int32} (hin : vp_in i N) (hdg : decode cc pc = .ok (.iastore, 1))
    (kk : ∀ (H1 : Heap) (locs1 : List Loc), cqz_zz D q (es.set k0 (.inl (cA 0, N, .inl (upd f i.toNatClampNeg x)))) H1 → va_S (fun a => q ≤ a) s.heap H1 locs1 → W p l e R s m args below meth c H1 locs1 cells slots Q (F0 m (pc + 1) ls rest)) : W p l e R s m args below meth c H locs cells slots Q (F0 m pc ls (.int x :: .int i :: .ref (q + k0) :: rest)) := by
  have hat : H[q + k0]? = some (vp_cell (cA 0) (N, .inl f)) := hq.2 k0 _ ha
  refine W.iast hexec hb hat ((hK.1.2 0 _ rfl).1 N (fun j => .int (f j))) (fun q => by cases q) (by show ¬ (i < 0 ∨ (arrV _ _ _).slots.size ≤ _); rw [arrV_size]; exact hin) rfl rfl hdg fun H1 e1 z oq => ?_
  refine kk H1 _ (cqz_setzz hq (List.getElem?_eq_some_iff.mp ha).1 z oq ?_) (hS.put z oq (Nat.le_add_right _ _))
  show H1[q + k0]? = some (vp_cell _ _)
  rw [e1]
  rw [vp_cell_i, vp_cell_i, arrV_store]
  congr 2
  funext j
  by_cases hj : j = i.toNatClampNeg
  · subst hj
    simp [updV, upd]
  · simp [updV, upd, hj]
end CTP
end
section
/-! the constructors, by program -/
theorem zX2_inzz : ∀ pc, 58 ≤ pc → pX2_init pc = none := fun _ h => by unfold pX2_init; exact bc_cut_none h
theorem dX2_0zz : decode cX2_init 0 = .ok (.aload_n 0, 1) := ((bc_dec_ok kX2_init zX2_inzz) 0 _ _ _ rfl).1
theorem dX2_1zz : decode cX2_init 1 = .ok (.invokespecial 3, 3) := ((bc_dec_ok kX2_init zX2_inzz) 1 _ _ _ rfl).1
theorem dX2_4zz : decode cX2_init 4 = .ok (.aload_n 0, 1) := ((bc_dec_ok kX2_init zX2_inzz) 4 _ _ _ rfl).1
theorem dX2_5zz : decode cX2_init 5 = .ok (.iconst 0, 1) := ((bc_dec_ok kX2_init zX2_inzz) 5 _ _ _ rfl).1
theorem dX2_6zz : decode cX2_init 6 = .ok (.putfield 9, 3) := ((bc_dec_ok kX2_init zX2_inzz) 6 _ _ _ rfl).1
theorem dX2_9zz : decode cX2_init 9 = .ok (.aload_n 0, 1) := ((bc_dec_ok kX2_init zX2_inzz) 9 _ _ _ rfl).1
theorem dX2_10zz : decode cX2_init 10 = .ok (.bipush 16, 2) := ((bc_dec_ok kX2_init zX2_inzz) 10 _ _ _ rfl).1
theorem dX2_12zz : decode cX2_init 12 = .ok (.newarray .int, 2) := ((bc_dec_ok kX2_init zX2_inzz) 12 _ _ _ rfl).1
theorem dX2_14zz : decode cX2_init 14 = .ok (.putfield 15, 3) := ((bc_dec_ok kX2_init zX2_inzz) 14 _ _ _ rfl).1
theorem dX2_17zz : decode cX2_init 17 = .ok (.aload_n 0, 1) := ((bc_dec_ok kX2_init zX2_inzz) 17 _ _ _ rfl).1
theorem dX2_18zz : decode cX2_init 18 = .ok (.bipush 16, 2) := ((bc_dec_ok kX2_init zX2_inzz) 18 _ _ _ rfl).1
theorem dX2_20zz : decode cX2_init 20 = .ok (.newarray .int, 2) := ((bc_dec_ok kX2_init zX2_inzz) 20 _ _ _ rfl).1
theorem dX2_22zz : decode cX2_init 22 = .ok (.putfield 19, 3) := ((bc_dec_ok kX2_init zX2_inzz) 22 _ _ _ rfl).1
theorem dX2_25zz : decode cX2_init 25 = .ok (.aload_n 0, 1) := ((bc_dec_ok kX2_init zX2_inzz) 25 _ _ _ rfl).1
theorem dX2_26zz : decode cX2_init 26 = .ok (.bipush 16, 2) := ((bc_dec_ok kX2_init zX2_inzz) 26 _ _ _ rfl).1
theorem dX2_28zz : decode cX2_init 28 = .ok (.newarray .int, 2) := ((bc_dec_ok kX2_init zX2_inzz) 28 _ _ _ rfl).1
theorem dX2_30zz : decode cX2_init 30 = .ok (.putfield 22, 3) := ((bc_dec_ok kX2_init zX2_inzz) 30 _ _ _ rfl).1
theorem dX2_33zz : decode cX2_init 33 = .ok (.aload_n 0, 1) := ((bc_dec_ok kX2_init zX2_inzz) 33 _ _ _ rfl).1
theorem dX2_34zz : decode cX2_init 34 = .ok (.bipush 16, 2) := ((bc_dec_ok kX2_init zX2_inzz) 34 _ _ _ rfl).1
theorem dX2_36zz : decode cX2_init 36 = .ok (.newarray .int, 2) := ((bc_dec_ok kX2_init zX2_inzz) 36 _ _ _ rfl).1
theorem dX2_38zz : decode cX2_init 38 = .ok (.putfield 25, 3) := ((bc_dec_ok kX2_init zX2_inzz) 38 _ _ _ rfl).1
theorem dX2_41zz : decode cX2_init 41 = .ok (.aload_n 0, 1) := ((bc_dec_ok kX2_init zX2_inzz) 41 _ _ _ rfl).1
theorem dX2_42zz : decode cX2_init 42 = .ok (.bipush 16, 2) := ((bc_dec_ok kX2_init zX2_inzz) 42 _ _ _ rfl).1
theorem dX2_44zz : decode cX2_init 44 = .ok (.newarray .int, 2) := ((bc_dec_ok kX2_init zX2_inzz) 44 _ _ _ rfl).1
theorem dX2_46zz : decode cX2_init 46 = .ok (.putfield 28, 3) := ((bc_dec_ok kX2_init zX2_inzz) 46 _ _ _ rfl).1
theorem dX2_49zz : decode cX2_init 49 = .ok (.aload_n 0, 1) := ((bc_dec_ok kX2_init zX2_inzz) 49 _ _ _ rfl).1
theorem dX2_50zz : decode cX2_init 50 = .ok (.bipush 16, 2) := ((bc_dec_ok kX2_init zX2_inzz) 50 _ _ _ rfl).1
theorem dX2_52zz : decode cX2_init 52 = .ok (.newarray .boolean, 2) := ((bc_dec_ok kX2_init zX2_inzz) 52 _ _ _ rfl).1
theorem dX2_54zz : decode cX2_init 54 = .ok (.putfield 31, 3) := ((bc_dec_ok kX2_init zX2_inzz) 54 _ _ _ rfl).1
theorem dX2_57zz : decode cX2_init 57 = .ok (.return_, 1) := ((bc_dec_ok kX2_init zX2_inzz) 57 _ _ _ rfl).1
noncomputable def E2_zz (cA : Nat → ClassId) (q : Nat) : List va_E := .inr (2, [.int (Int32.ofInt 0), .ref (q + 1), .ref (q + 2), .ref (q + 3), .ref (q + 4), .ref (q + 5), .ref (q + 6)]) :: ([] ++ [.inl (cA 0, 16, .inl (fun _ => Int32.ofInt 0))] ++ [.inl (cA 0, 16, .inl (fun _ => Int32.ofInt 0))] ++ [.inl (cA 0, 16, .inl (fun _ => Int32.ofInt 0))] ++ [.inl (cA 0, 16, .inl (fun _ => Int32.ofInt 0))] ++ [.inl (cA 0, 16, .inl (fun _ => Int32.ofInt 0))] ++ [.inl (cA 2, 16, .inl (fun _ => Int32.ofInt 0))])
theorem E2_lenzz (cA : Nat → ClassId) (q : Nat) : (E2_zz cA q).length = 7 := by simp [E2_zz]
set_option maxHeartbeats 4000000 in
set_option maxRecDepth 100000 in
theorem ctX2zz (l : Launch) (D : va_G) (cA : Nat → ClassId) : ctc_zz l D cA mX2_init { frames := 2, cells := 6, slots := 96, locals := 20 } (.inr (2, [.int (Int32.ofInt 0), .null, .null, .null, .null, .null, .null])) (fun q => E2_zz cA q) 6 96 := by
  intro q
  refine Met.ofW (cc := cX2_init) (maxL := 1) (ret := none) (by decide) rfl ?_
  intro p e s m args below meth c s₁ B hml hv
  obtain ⟨rfl, hq, hK⟩ := hv
  have hx := B.exec
  have hb := B.bytes
  have hr := B.returns
  have hts0 := atoms_spec (ws := ctW_zz mX2_init) B.pre
  have hts : ∀ w ∈ bc_W, w.before [Value.ref q].toArray s = true := fun w hw => hts0 w (List.mem_cons_of_mem _ hw)
  have hown : s.vm.findClass RX2 = some m.cls := findClass_of_methodNamed B.named
  have hlocks := B.notSynchronized
  have hin : meth.name = "<init>" := (name_of_methodNamed B.named B.method).1
  have hS : va_S (fun a => q ≤ a) s.heap s.heap [] := va_S.rf
  have hl := lv_entry ([.ref q]) (n := 1) (Nat.le_of_ble_eq_true rfl)
  rw [lg_entry_eq]
  generalize (lg_sl ([.ref q]) ++ List.replicate (1 - (lg_sl ([.ref q])).length) Slot.unset).toArray = ls at hl ⊢
  have hl : lv_has ls 1 [(0, .ref q)] := hl
  have hq : cqz_zz D q (.inr (2, [.int (Int32.ofInt 0), .null, .null, .null, .null, .null, .null]) :: []) s.heap := hq
  refine lv_aload_n hx hb dX2_0zz rfl (lv_at hl 0 rfl) ?_
  refine W.objInit hx hb hown (hts (.methodLink RX2 3 objectInit) (bc_wat_ok (pos := 145) sorry)) (hts (.instanceMethod objectInit) (bc_wat_ok (pos := 132) sorry)) (hts _ (bc_wat_ok (pos := 133) sorry)) rfl (by rw [hml]; exact hl.1) rfl dX2_1zz (Nat.le_of_ble_eq_true rfl) (Nat.le_of_ble_eq_true rfl) ?_
  refine W.eq (g2 := F0 m 4 ls []) rfl ?_
  refine lv_aload_n hx hb dX2_4zz rfl (lv_at hl 0 rfl) ?_
  refine lv_iconst (v := Int32.ofInt 0) hx hb dX2_5zz (by decide) ?_
  refine cr_putzz (ci := 2) (C := RX2) (T := TX2) (N := 7) hx hb hts (bc_cl_ok 2 _ rfl).1 tyX2 tyX2_ok nmX2 hown hK hq hS rfl 0 (by decide) (hts (.fieldLink RX2 9 RX2 "count" "I") (bc_wat_ok (pos := 146) sorry)) (fun _ h9 => h9) rfl (ty := .int) (by decide +kernel) rfl rfl (Nat.le_of_ble_eq_true rfl) dX2_6zz (fun H locs hq hS => ?_)
  have hq : cqz_zz D q (.inr (2, [.int (Int32.ofInt 0), .null, .null, .null, .null, .null, .null]) :: ([])) H := hq
  refine lv_aload_n hx hb dX2_9zz rfl (lv_at hl 0 rfl) ?_
  refine lv_bipush (v := Int32.ofInt 16) hx hb dX2_10zz (by decide) ?_
  refine cr_newazz (atype := .int) (cI := cA 0) (n := Int32.ofInt 16) (N' := 16) (a0 := (16, .inl (fun _ => Int32.ofInt 0))) (k9 := 1) rfl hx hb (hts (.arrayClass .int) (bc_wat_ok (pos := 183) sorry)) (hK.1.2 0 _ rfl).2 hq hS rfl (by decide) (by decide) (Nat.le_of_ble_eq_true rfl) (Nat.le_of_ble_eq_true rfl) (Nat.le_of_ble_eq_true rfl) dX2_12zz (fun H hq hS => ?_)
  have hq : cqz_zz D q (.inr (2, [.int (Int32.ofInt 0), .null, .null, .null, .null, .null, .null]) :: ([] ++ [.inl (cA 0, 16, .inl (fun _ => Int32.ofInt 0))])) H := hq
  refine cr_putFzz (ci := 2) (C := RX2) (T := TX2) (N := 7) hx hb hts (bc_cl_ok 2 _ rfl).1 tyX2 tyX2_ok nmX2 hown hK hq hS rfl 1 (by decide) (hts (.fieldLink RX2 15 RX2 "first" "[I") (bc_wat_ok (pos := 150) sorry)) (fun _ h9 => h9) rfl hin rfl (ty := .array .int) (by decide +kernel) rfl rfl (Nat.le_of_ble_eq_true rfl) dX2_14zz (fun H locs hq hS => ?_)
  have hq : cqz_zz D q (.inr (2, [.int (Int32.ofInt 0), .ref (q + 1), .null, .null, .null, .null, .null]) :: ([] ++ [.inl (cA 0, 16, .inl (fun _ => Int32.ofInt 0))])) H := hq
  refine lv_aload_n hx hb dX2_17zz rfl (lv_at hl 0 rfl) ?_
  refine lv_bipush (v := Int32.ofInt 16) hx hb dX2_18zz (by decide) ?_
  refine cr_newazz (atype := .int) (cI := cA 0) (n := Int32.ofInt 16) (N' := 16) (a0 := (16, .inl (fun _ => Int32.ofInt 0))) (k9 := 2) rfl hx hb (hts (.arrayClass .int) (bc_wat_ok (pos := 183) sorry)) (hK.1.2 0 _ rfl).2 hq hS rfl (by decide) (by decide) (Nat.le_of_ble_eq_true rfl) (Nat.le_of_ble_eq_true rfl) (Nat.le_of_ble_eq_true rfl) dX2_20zz (fun H hq hS => ?_)
  have hq : cqz_zz D q (.inr (2, [.int (Int32.ofInt 0), .ref (q + 1), .null, .null, .null, .null, .null]) :: ([] ++ [.inl (cA 0, 16, .inl (fun _ => Int32.ofInt 0))] ++ [.inl (cA 0, 16, .inl (fun _ => Int32.ofInt 0))])) H := hq
  refine cr_putFzz (ci := 2) (C := RX2) (T := TX2) (N := 7) hx hb hts (bc_cl_ok 2 _ rfl).1 tyX2 tyX2_ok nmX2 hown hK hq hS rfl 2 (by decide) (hts (.fieldLink RX2 19 RX2 "second" "[I") (bc_wat_ok (pos := 154) sorry)) (fun _ h9 => h9) rfl hin rfl (ty := .array .int) (by decide +kernel) rfl rfl (Nat.le_of_ble_eq_true rfl) dX2_22zz (fun H locs hq hS => ?_)
  have hq : cqz_zz D q (.inr (2, [.int (Int32.ofInt 0), .ref (q + 1), .ref (q + 2), .null, .null, .null, .null]) :: ([] ++ [.inl (cA 0, 16, .inl (fun _ => Int32.ofInt 0))] ++ [.inl (cA 0, 16, .inl (fun _ => Int32.ofInt 0))])) H := hq
  refine lv_aload_n hx hb dX2_25zz rfl (lv_at hl 0 rfl) ?_
  refine lv_bipush (v := Int32.ofInt 16) hx hb dX2_26zz (by decide) ?_
  refine cr_newazz (atype := .int) (cI := cA 0) (n := Int32.ofInt 16) (N' := 16) (a0 := (16, .inl (fun _ => Int32.ofInt 0))) (k9 := 3) rfl hx hb (hts (.arrayClass .int) (bc_wat_ok (pos := 183) sorry)) (hK.1.2 0 _ rfl).2 hq hS rfl (by decide) (by decide) (Nat.le_of_ble_eq_true rfl) (Nat.le_of_ble_eq_true rfl) (Nat.le_of_ble_eq_true rfl) dX2_28zz (fun H hq hS => ?_)
  have hq : cqz_zz D q (.inr (2, [.int (Int32.ofInt 0), .ref (q + 1), .ref (q + 2), .null, .null, .null, .null]) :: ([] ++ [.inl (cA 0, 16, .inl (fun _ => Int32.ofInt 0))] ++ [.inl (cA 0, 16, .inl (fun _ => Int32.ofInt 0))] ++ [.inl (cA 0, 16, .inl (fun _ => Int32.ofInt 0))])) H := hq
  refine cr_putFzz (ci := 2) (C := RX2) (T := TX2) (N := 7) hx hb hts (bc_cl_ok 2 _ rfl).1 tyX2 tyX2_ok nmX2 hown hK hq hS rfl 3 (by decide) (hts (.fieldLink RX2 22 RX2 "strength" "[I") (bc_wat_ok (pos := 158) sorry)) (fun _ h9 => h9) rfl hin rfl (ty := .array .int) (by decide +kernel) rfl rfl (Nat.le_of_ble_eq_true rfl) dX2_30zz (fun H locs hq hS => ?_)
  have hq : cqz_zz D q (.inr (2, [.int (Int32.ofInt 0), .ref (q + 1), .ref (q + 2), .ref (q + 3), .null, .null, .null]) :: ([] ++ [.inl (cA 0, 16, .inl (fun _ => Int32.ofInt 0))] ++ [.inl (cA 0, 16, .inl (fun _ => Int32.ofInt 0))] ++ [.inl (cA 0, 16, .inl (fun _ => Int32.ofInt 0))])) H := hq
  refine lv_aload_n hx hb dX2_33zz rfl (lv_at hl 0 rfl) ?_
  refine lv_bipush (v := Int32.ofInt 16) hx hb dX2_34zz (by decide) ?_
  refine cr_newazz (atype := .int) (cI := cA 0) (n := Int32.ofInt 16) (N' := 16) (a0 := (16, .inl (fun _ => Int32.ofInt 0))) (k9 := 4) rfl hx hb (hts (.arrayClass .int) (bc_wat_ok (pos := 183) sorry)) (hK.1.2 0 _ rfl).2 hq hS rfl (by decide) (by decide) (Nat.le_of_ble_eq_true rfl) (Nat.le_of_ble_eq_true rfl) (Nat.le_of_ble_eq_true rfl) dX2_36zz (fun H hq hS => ?_)
  have hq : cqz_zz D q (.inr (2, [.int (Int32.ofInt 0), .ref (q + 1), .ref (q + 2), .ref (q + 3), .null, .null, .null]) :: ([] ++ [.inl (cA 0, 16, .inl (fun _ => Int32.ofInt 0))] ++ [.inl (cA 0, 16, .inl (fun _ => Int32.ofInt 0))] ++ [.inl (cA 0, 16, .inl (fun _ => Int32.ofInt 0))] ++ [.inl (cA 0, 16, .inl (fun _ => Int32.ofInt 0))])) H := hq
  refine cr_putFzz (ci := 2) (C := RX2) (T := TX2) (N := 7) hx hb hts (bc_cl_ok 2 _ rfl).1 tyX2 tyX2_ok nmX2 hown hK hq hS rfl 4 (by decide) (hts (.fieldLink RX2 25 RX2 "crack" "[I") (bc_wat_ok (pos := 161) sorry)) (fun _ h9 => h9) rfl hin rfl (ty := .array .int) (by decide +kernel) rfl rfl (Nat.le_of_ble_eq_true rfl) dX2_38zz (fun H locs hq hS => ?_)
  have hq : cqz_zz D q (.inr (2, [.int (Int32.ofInt 0), .ref (q + 1), .ref (q + 2), .ref (q + 3), .ref (q + 4), .null, .null]) :: ([] ++ [.inl (cA 0, 16, .inl (fun _ => Int32.ofInt 0))] ++ [.inl (cA 0, 16, .inl (fun _ => Int32.ofInt 0))] ++ [.inl (cA 0, 16, .inl (fun _ => Int32.ofInt 0))] ++ [.inl (cA 0, 16, .inl (fun _ => Int32.ofInt 0))])) H := hq
  refine lv_aload_n hx hb dX2_41zz rfl (lv_at hl 0 rfl) ?_
  refine lv_bipush (v := Int32.ofInt 16) hx hb dX2_42zz (by decide) ?_
  refine cr_newazz (atype := .int) (cI := cA 0) (n := Int32.ofInt 16) (N' := 16) (a0 := (16, .inl (fun _ => Int32.ofInt 0))) (k9 := 5) rfl hx hb (hts (.arrayClass .int) (bc_wat_ok (pos := 183) sorry)) (hK.1.2 0 _ rfl).2 hq hS rfl (by decide) (by decide) (Nat.le_of_ble_eq_true rfl) (Nat.le_of_ble_eq_true rfl) (Nat.le_of_ble_eq_true rfl) dX2_44zz (fun H hq hS => ?_)
  have hq : cqz_zz D q (.inr (2, [.int (Int32.ofInt 0), .ref (q + 1), .ref (q + 2), .ref (q + 3), .ref (q + 4), .null, .null]) :: ([] ++ [.inl (cA 0, 16, .inl (fun _ => Int32.ofInt 0))] ++ [.inl (cA 0, 16, .inl (fun _ => Int32.ofInt 0))] ++ [.inl (cA 0, 16, .inl (fun _ => Int32.ofInt 0))] ++ [.inl (cA 0, 16, .inl (fun _ => Int32.ofInt 0))] ++ [.inl (cA 0, 16, .inl (fun _ => Int32.ofInt 0))])) H := hq
  refine cr_putFzz (ci := 2) (C := RX2) (T := TX2) (N := 7) hx hb hts (bc_cl_ok 2 _ rfl).1 tyX2 tyX2_ok nmX2 hown hK hq hS rfl 5 (by decide) (hts (.fieldLink RX2 28 RX2 "wear" "[I") (bc_wat_ok (pos := 163) sorry)) (fun _ h9 => h9) rfl hin rfl (ty := .array .int) (by decide +kernel) rfl rfl (Nat.le_of_ble_eq_true rfl) dX2_46zz (fun H locs hq hS => ?_)
  have hq : cqz_zz D q (.inr (2, [.int (Int32.ofInt 0), .ref (q + 1), .ref (q + 2), .ref (q + 3), .ref (q + 4), .ref (q + 5), .null]) :: ([] ++ [.inl (cA 0, 16, .inl (fun _ => Int32.ofInt 0))] ++ [.inl (cA 0, 16, .inl (fun _ => Int32.ofInt 0))] ++ [.inl (cA 0, 16, .inl (fun _ => Int32.ofInt 0))] ++ [.inl (cA 0, 16, .inl (fun _ => Int32.ofInt 0))] ++ [.inl (cA 0, 16, .inl (fun _ => Int32.ofInt 0))])) H := hq
  refine lv_aload_n hx hb dX2_49zz rfl (lv_at hl 0 rfl) ?_
  refine lv_bipush (v := Int32.ofInt 16) hx hb dX2_50zz (by decide) ?_
  refine cr_newazz (atype := .boolean) (cI := cA 2) (n := Int32.ofInt 16) (N' := 16) (a0 := (16, .inl (fun _ => Int32.ofInt 0))) (k9 := 6) rfl hx hb (hts (.arrayClass .boolean) (bc_wat_ok (pos := 184) sorry)) (hK.1.2 2 _ rfl).2 hq hS rfl (by decide) (by decide) (Nat.le_of_ble_eq_true rfl) (Nat.le_of_ble_eq_true rfl) (Nat.le_of_ble_eq_true rfl) dX2_52zz (fun H hq hS => ?_)
  have hq : cqz_zz D q (.inr (2, [.int (Int32.ofInt 0), .ref (q + 1), .ref (q + 2), .ref (q + 3), .ref (q + 4), .ref (q + 5), .null]) :: ([] ++ [.inl (cA 0, 16, .inl (fun _ => Int32.ofInt 0))] ++ [.inl (cA 0, 16, .inl (fun _ => Int32.ofInt 0))] ++ [.inl (cA 0, 16, .inl (fun _ => Int32.ofInt 0))] ++ [.inl (cA 0, 16, .inl (fun _ => Int32.ofInt 0))] ++ [.inl (cA 0, 16, .inl (fun _ => Int32.ofInt 0))] ++ [.inl (cA 2, 16, .inl (fun _ => Int32.ofInt 0))])) H := hq
  refine cr_putFzz (ci := 2) (C := RX2) (T := TX2) (N := 7) hx hb hts (bc_cl_ok 2 _ rfl).1 tyX2 tyX2_ok nmX2 hown hK hq hS rfl 6 (by decide) (hts (.fieldLink RX2 31 RX2 "abandoned" "[Z") (bc_wat_ok (pos := 165) sorry)) (fun _ h9 => h9) rfl hin rfl (ty := .array .boolean) (by decide +kernel) rfl rfl (Nat.le_of_ble_eq_true rfl) dX2_54zz (fun H locs hq hS => ?_)
  have hq : cqz_zz D q (.inr (2, [.int (Int32.ofInt 0), .ref (q + 1), .ref (q + 2), .ref (q + 3), .ref (q + 4), .ref (q + 5), .ref (q + 6)]) :: ([] ++ [.inl (cA 0, 16, .inl (fun _ => Int32.ofInt 0))] ++ [.inl (cA 0, 16, .inl (fun _ => Int32.ofInt 0))] ++ [.inl (cA 0, 16, .inl (fun _ => Int32.ofInt 0))] ++ [.inl (cA 0, 16, .inl (fun _ => Int32.ofInt 0))] ++ [.inl (cA 0, 16, .inl (fun _ => Int32.ofInt 0))] ++ [.inl (cA 2, 16, .inl (fun _ => Int32.ofInt 0))])) H := hq
  refine W.widen (k := 6) (n := 96) (Nat.le_of_ble_eq_true rfl) (Nat.le_of_ble_eq_true rfl) ?_
  exact W.vret hx hb hr (fun t ht hW => ⟨⟨(), rfl, trivial, by show cqz_zz D q (E2_zz cA q) t.heap; rw [ht]; exact hq⟩, hS.F ht⟩) hS.2.2 dX2_57zz
theorem zX3_inzz : ∀ pc, 18 ≤ pc → pX3_init pc = none := fun _ h => by unfold pX3_init; exact bc_cut_none h
theorem dX3_0zz : decode cX3_init 0 = .ok (.aload_n 0, 1) := ((bc_dec_ok kX3_init zX3_inzz) 0 _ _ _ rfl).1
theorem dX3_1zz : decode cX3_init 1 = .ok (.invokespecial 3, 3) := ((bc_dec_ok kX3_init zX3_inzz) 1 _ _ _ rfl).1
theorem dX3_4zz : decode cX3_init 4 = .ok (.aload_n 0, 1) := ((bc_dec_ok kX3_init zX3_inzz) 4 _ _ _ rfl).1
theorem dX3_5zz : decode cX3_init 5 = .ok (.bipush 99, 2) := ((bc_dec_ok kX3_init zX3_inzz) 5 _ _ _ rfl).1
theorem dX3_7zz : decode cX3_init 7 = .ok (.putfield 9, 3) := ((bc_dec_ok kX3_init zX3_inzz) 7 _ _ _ rfl).1
theorem dX3_10zz : decode cX3_init 10 = .ok (.aload_n 0, 1) := ((bc_dec_ok kX3_init zX3_inzz) 10 _ _ _ rfl).1
theorem dX3_11zz : decode cX3_init 11 = .ok (.iconst 4, 1) := ((bc_dec_ok kX3_init zX3_inzz) 11 _ _ _ rfl).1
theorem dX3_12zz : decode cX3_init 12 = .ok (.newarray .int, 2) := ((bc_dec_ok kX3_init zX3_inzz) 12 _ _ _ rfl).1
theorem dX3_14zz : decode cX3_init 14 = .ok (.putfield 15, 3) := ((bc_dec_ok kX3_init zX3_inzz) 14 _ _ _ rfl).1
theorem dX3_17zz : decode cX3_init 17 = .ok (.return_, 1) := ((bc_dec_ok kX3_init zX3_inzz) 17 _ _ _ rfl).1
noncomputable def E3_zz (cA : Nat → ClassId) (q : Nat) : List va_E := .inr (3, [.int (Int32.ofInt 99), .ref (q + 1)]) :: ([] ++ [.inl (cA 0, 4, .inl (fun _ => Int32.ofInt 0))])
theorem E3_lenzz (cA : Nat → ClassId) (q : Nat) : (E3_zz cA q).length = 2 := by simp [E3_zz]
set_option maxHeartbeats 4000000 in
set_option maxRecDepth 100000 in
theorem ctX3zz (l : Launch) (D : va_G) (cA : Nat → ClassId) : ctc_zz l D cA mX3_init { frames := 2, cells := 1, slots := 4, locals := 20 } (.inr (3, [.int (Int32.ofInt 0), .null])) (fun q => E3_zz cA q) 1 4 := by
  intro q
  refine Met.ofW (cc := cX3_init) (maxL := 1) (ret := none) (by decide) rfl ?_
  intro p e s m args below meth c s₁ B hml hv
  obtain ⟨rfl, hq, hK⟩ := hv
  have hx := B.exec
  have hb := B.bytes
  have hr := B.returns
  have hts0 := atoms_spec (ws := ctW_zz mX3_init) B.pre
  have hts : ∀ w ∈ bc_W, w.before [Value.ref q].toArray s = true := fun w hw => hts0 w (List.mem_cons_of_mem _ hw)
  have hown : s.vm.findClass RX3 = some m.cls := findClass_of_methodNamed B.named
  have hlocks := B.notSynchronized
  have hin : meth.name = "<init>" := (name_of_methodNamed B.named B.method).1
  have hS : va_S (fun a => q ≤ a) s.heap s.heap [] := va_S.rf
  have hl := lv_entry ([.ref q]) (n := 1) (Nat.le_of_ble_eq_true rfl)
  rw [lg_entry_eq]
  generalize (lg_sl ([.ref q]) ++ List.replicate (1 - (lg_sl ([.ref q])).length) Slot.unset).toArray = ls at hl ⊢
  have hl : lv_has ls 1 [(0, .ref q)] := hl
  have hq : cqz_zz D q (.inr (3, [.int (Int32.ofInt 0), .null]) :: []) s.heap := hq
  refine lv_aload_n hx hb dX3_0zz rfl (lv_at hl 0 rfl) ?_
  refine W.objInit hx hb hown (hts (.methodLink RX3 3 objectInit) (bc_wat_ok (pos := 190) sorry)) (hts (.instanceMethod objectInit) (bc_wat_ok (pos := 132) sorry)) (hts _ (bc_wat_ok (pos := 133) sorry)) rfl (by rw [hml]; exact hl.1) rfl dX3_1zz (Nat.le_of_ble_eq_true rfl) (Nat.le_of_ble_eq_true rfl) ?_
  refine W.eq (g2 := F0 m 4 ls []) rfl ?_
  refine lv_aload_n hx hb dX3_4zz rfl (lv_at hl 0 rfl) ?_
  refine lv_bipush (v := Int32.ofInt 99) hx hb dX3_5zz (by decide) ?_
  refine cr_putzz (ci := 3) (C := RX3) (T := TX3) (N := 2) hx hb hts (bc_cl_ok 3 _ rfl).1 tyX3 tyX3_ok nmX3 hown hK hq hS rfl 0 (by decide) (hts (.fieldLink RX3 9 RX3 "kind" "C") (bc_wat_ok (pos := 191) sorry)) (fun _ h9 => h9) rfl (ty := .char) (by decide +kernel) rfl rfl (Nat.le_of_ble_eq_true rfl) dX3_7zz (fun H locs hq hS => ?_)
  have hq : cqz_zz D q (.inr (3, [.int (Int32.ofInt 99), .null]) :: ([])) H := hq
  refine lv_aload_n hx hb dX3_10zz rfl (lv_at hl 0 rfl) ?_
  refine lv_iconst (v := Int32.ofInt 4) hx hb dX3_11zz (by decide) ?_
  refine cr_newazz (atype := .int) (cI := cA 0) (n := Int32.ofInt 4) (N' := 4) (a0 := (4, .inl (fun _ => Int32.ofInt 0))) (k9 := 1) rfl hx hb (hts (.arrayClass .int) (bc_wat_ok (pos := 183) sorry)) (hK.1.2 0 _ rfl).2 hq hS rfl (by decide) (by decide) (Nat.le_of_ble_eq_true rfl) (Nat.le_of_ble_eq_true rfl) (Nat.le_of_ble_eq_true rfl) dX3_12zz (fun H hq hS => ?_)
  have hq : cqz_zz D q (.inr (3, [.int (Int32.ofInt 99), .null]) :: ([] ++ [.inl (cA 0, 4, .inl (fun _ => Int32.ofInt 0))])) H := hq
  refine cr_putFzz (ci := 3) (C := RX3) (T := TX3) (N := 2) hx hb hts (bc_cl_ok 3 _ rfl).1 tyX3 tyX3_ok nmX3 hown hK hq hS rfl 1 (by decide) (hts (.fieldLink RX3 15 RX3 "weights" "[I") (bc_wat_ok (pos := 193) sorry)) (fun _ h9 => h9) rfl hin rfl (ty := .array .int) (by decide +kernel) rfl rfl (Nat.le_of_ble_eq_true rfl) dX3_14zz (fun H locs hq hS => ?_)
  have hq : cqz_zz D q (.inr (3, [.int (Int32.ofInt 99), .ref (q + 1)]) :: ([] ++ [.inl (cA 0, 4, .inl (fun _ => Int32.ofInt 0))])) H := hq
  refine W.widen (k := 1) (n := 4) (Nat.le_of_ble_eq_true rfl) (Nat.le_of_ble_eq_true rfl) ?_
  exact W.vret hx hb hr (fun t ht hW => ⟨⟨(), rfl, trivial, by show cqz_zz D q (E3_zz cA q) t.heap; rw [ht]; exact hq⟩, hS.F ht⟩) hS.2.2 dX3_17zz
theorem zX8_inzz : ∀ pc, 80 ≤ pc → pX8_init pc = none := fun _ h => by unfold pX8_init; exact bc_cut_none h
theorem dX8_0zz : decode cX8_init 0 = .ok (.aload_n 0, 1) := ((bc_dec_ok kX8_init zX8_inzz) 0 _ _ _ rfl).1
theorem dX8_1zz : decode cX8_init 1 = .ok (.invokespecial 3, 3) := ((bc_dec_ok kX8_init zX8_inzz) 1 _ _ _ rfl).1
theorem dX8_4zz : decode cX8_init 4 = .ok (.aload_n 0, 1) := ((bc_dec_ok kX8_init zX8_inzz) 4 _ _ _ rfl).1
theorem dX8_5zz : decode cX8_init 5 = .ok (.iconst 0, 1) := ((bc_dec_ok kX8_init zX8_inzz) 5 _ _ _ rfl).1
theorem dX8_6zz : decode cX8_init 6 = .ok (.putfield 9, 3) := ((bc_dec_ok kX8_init zX8_inzz) 6 _ _ _ rfl).1
theorem dX8_9zz : decode cX8_init 9 = .ok (.aload_n 0, 1) := ((bc_dec_ok kX8_init zX8_inzz) 9 _ _ _ rfl).1
theorem dX8_10zz : decode cX8_init 10 = .ok (.bipush 30, 2) := ((bc_dec_ok kX8_init zX8_inzz) 10 _ _ _ rfl).1
theorem dX8_12zz : decode cX8_init 12 = .ok (.putfield 15, 3) := ((bc_dec_ok kX8_init zX8_inzz) 12 _ _ _ rfl).1
theorem dX8_15zz : decode cX8_init 15 = .ok (.aload_n 0, 1) := ((bc_dec_ok kX8_init zX8_inzz) 15 _ _ _ rfl).1
theorem dX8_16zz : decode cX8_init 16 = .ok (.iconst 5, 1) := ((bc_dec_ok kX8_init zX8_inzz) 16 _ _ _ rfl).1
theorem dX8_17zz : decode cX8_init 17 = .ok (.putfield 18, 3) := ((bc_dec_ok kX8_init zX8_inzz) 17 _ _ _ rfl).1
theorem dX8_20zz : decode cX8_init 20 = .ok (.aload_n 0, 1) := ((bc_dec_ok kX8_init zX8_inzz) 20 _ _ _ rfl).1
theorem dX8_21zz : decode cX8_init 21 = .ok (.iconst 0, 1) := ((bc_dec_ok kX8_init zX8_inzz) 21 _ _ _ rfl).1
theorem dX8_22zz : decode cX8_init 22 = .ok (.putfield 21, 3) := ((bc_dec_ok kX8_init zX8_inzz) 22 _ _ _ rfl).1
theorem dX8_25zz : decode cX8_init 25 = .ok (.aload_n 0, 1) := ((bc_dec_ok kX8_init zX8_inzz) 25 _ _ _ rfl).1
theorem dX8_26zz : decode cX8_init 26 = .ok (.iconst 0, 1) := ((bc_dec_ok kX8_init zX8_inzz) 26 _ _ _ rfl).1
theorem dX8_27zz : decode cX8_init 27 = .ok (.putfield 24, 3) := ((bc_dec_ok kX8_init zX8_inzz) 27 _ _ _ rfl).1
theorem dX8_30zz : decode cX8_init 30 = .ok (.aload_n 0, 1) := ((bc_dec_ok kX8_init zX8_inzz) 30 _ _ _ rfl).1
theorem dX8_31zz : decode cX8_init 31 = .ok (.iconst 0, 1) := ((bc_dec_ok kX8_init zX8_inzz) 31 _ _ _ rfl).1
theorem dX8_32zz : decode cX8_init 32 = .ok (.putfield 27, 3) := ((bc_dec_ok kX8_init zX8_inzz) 32 _ _ _ rfl).1
theorem dX8_35zz : decode cX8_init 35 = .ok (.aload_n 0, 1) := ((bc_dec_ok kX8_init zX8_inzz) 35 _ _ _ rfl).1
theorem dX8_36zz : decode cX8_init 36 = .ok (.iconst 0, 1) := ((bc_dec_ok kX8_init zX8_inzz) 36 _ _ _ rfl).1
theorem dX8_37zz : decode cX8_init 37 = .ok (.putfield 30, 3) := ((bc_dec_ok kX8_init zX8_inzz) 37 _ _ _ rfl).1
theorem dX8_40zz : decode cX8_init 40 = .ok (.aload_n 0, 1) := ((bc_dec_ok kX8_init zX8_inzz) 40 _ _ _ rfl).1
theorem dX8_41zz : decode cX8_init 41 = .ok (.iconst 0, 1) := ((bc_dec_ok kX8_init zX8_inzz) 41 _ _ _ rfl).1
theorem dX8_42zz : decode cX8_init 42 = .ok (.putfield 33, 3) := ((bc_dec_ok kX8_init zX8_inzz) 42 _ _ _ rfl).1
theorem dX8_45zz : decode cX8_init 45 = .ok (.aload_n 0, 1) := ((bc_dec_ok kX8_init zX8_inzz) 45 _ _ _ rfl).1
theorem dX8_46zz : decode cX8_init 46 = .ok (.iconst 0, 1) := ((bc_dec_ok kX8_init zX8_inzz) 46 _ _ _ rfl).1
theorem dX8_47zz : decode cX8_init 47 = .ok (.putfield 36, 3) := ((bc_dec_ok kX8_init zX8_inzz) 47 _ _ _ rfl).1
theorem dX8_50zz : decode cX8_init 50 = .ok (.aload_n 0, 1) := ((bc_dec_ok kX8_init zX8_inzz) 50 _ _ _ rfl).1
theorem dX8_51zz : decode cX8_init 51 = .ok (.iconst 0, 1) := ((bc_dec_ok kX8_init zX8_inzz) 51 _ _ _ rfl).1
theorem dX8_52zz : decode cX8_init 52 = .ok (.putfield 39, 3) := ((bc_dec_ok kX8_init zX8_inzz) 52 _ _ _ rfl).1
theorem dX8_55zz : decode cX8_init 55 = .ok (.aload_n 0, 1) := ((bc_dec_ok kX8_init zX8_inzz) 55 _ _ _ rfl).1
theorem dX8_56zz : decode cX8_init 56 = .ok (.bipush 8, 2) := ((bc_dec_ok kX8_init zX8_inzz) 56 _ _ _ rfl).1
theorem dX8_58zz : decode cX8_init 58 = .ok (.newarray .int, 2) := ((bc_dec_ok kX8_init zX8_inzz) 58 _ _ _ rfl).1
theorem dX8_60zz : decode cX8_init 60 = .ok (.putfield 42, 3) := ((bc_dec_ok kX8_init zX8_inzz) 60 _ _ _ rfl).1
theorem dX8_63zz : decode cX8_init 63 = .ok (.aload_n 0, 1) := ((bc_dec_ok kX8_init zX8_inzz) 63 _ _ _ rfl).1
theorem dX8_64zz : decode cX8_init 64 = .ok (.bipush 8, 2) := ((bc_dec_ok kX8_init zX8_inzz) 64 _ _ _ rfl).1
theorem dX8_66zz : decode cX8_init 66 = .ok (.newarray .int, 2) := ((bc_dec_ok kX8_init zX8_inzz) 66 _ _ _ rfl).1
theorem dX8_68zz : decode cX8_init 68 = .ok (.putfield 46, 3) := ((bc_dec_ok kX8_init zX8_inzz) 68 _ _ _ rfl).1
theorem dX8_71zz : decode cX8_init 71 = .ok (.aload_n 0, 1) := ((bc_dec_ok kX8_init zX8_inzz) 71 _ _ _ rfl).1
theorem dX8_72zz : decode cX8_init 72 = .ok (.bipush 8, 2) := ((bc_dec_ok kX8_init zX8_inzz) 72 _ _ _ rfl).1
theorem dX8_74zz : decode cX8_init 74 = .ok (.newarray .int, 2) := ((bc_dec_ok kX8_init zX8_inzz) 74 _ _ _ rfl).1
theorem dX8_76zz : decode cX8_init 76 = .ok (.putfield 49, 3) := ((bc_dec_ok kX8_init zX8_inzz) 76 _ _ _ rfl).1
theorem dX8_79zz : decode cX8_init 79 = .ok (.return_, 1) := ((bc_dec_ok kX8_init zX8_inzz) 79 _ _ _ rfl).1
noncomputable def E8_zz (cA : Nat → ClassId) (q : Nat) : List va_E := .inr (8, [.int (Int32.ofInt 0), .int (Int32.ofInt 30), .int (Int32.ofInt 5), .int (Int32.ofInt 0), .int (Int32.ofInt 0), .int (Int32.ofInt 0), .int (Int32.ofInt 0), .int (Int32.ofInt 0), .int (Int32.ofInt 0), .int (Int32.ofInt 0), .ref (q + 1), .ref (q + 2), .ref (q + 3)]) :: ([] ++ [.inl (cA 0, 8, .inl (fun _ => Int32.ofInt 0))] ++ [.inl (cA 0, 8, .inl (fun _ => Int32.ofInt 0))] ++ [.inl (cA 0, 8, .inl (fun _ => Int32.ofInt 0))])
theorem E8_lenzz (cA : Nat → ClassId) (q : Nat) : (E8_zz cA q).length = 4 := by simp [E8_zz]
set_option maxHeartbeats 4000000 in
set_option maxRecDepth 100000 in
theorem ctX8zz (l : Launch) (D : va_G) (cA : Nat → ClassId) : ctc_zz l D cA mX8_init { frames := 2, cells := 3, slots := 24, locals := 20 } (.inr (8, [.int (Int32.ofInt 0), .int (Int32.ofInt 0), .int (Int32.ofInt 0), .int (Int32.ofInt 0), .int (Int32.ofInt 0), .int (Int32.ofInt 0), .int (Int32.ofInt 0), .int (Int32.ofInt 0), .int (Int32.ofInt 0), .int (Int32.ofInt 0), .null, .null, .null])) (fun q => E8_zz cA q) 3 24 := by
  intro q
  refine Met.ofW (cc := cX8_init) (maxL := 1) (ret := none) (by decide) rfl ?_
  intro p e s m args below meth c s₁ B hml hv
  obtain ⟨rfl, hq, hK⟩ := hv
  have hx := B.exec
  have hb := B.bytes
  have hr := B.returns
  have hts0 := atoms_spec (ws := ctW_zz mX8_init) B.pre
  have hts : ∀ w ∈ bc_W, w.before [Value.ref q].toArray s = true := fun w hw => hts0 w (List.mem_cons_of_mem _ hw)
  have hown : s.vm.findClass RX8 = some m.cls := findClass_of_methodNamed B.named
  have hlocks := B.notSynchronized
  have hin : meth.name = "<init>" := (name_of_methodNamed B.named B.method).1
  have hS : va_S (fun a => q ≤ a) s.heap s.heap [] := va_S.rf
  have hl := lv_entry ([.ref q]) (n := 1) (Nat.le_of_ble_eq_true rfl)
  rw [lg_entry_eq]
  generalize (lg_sl ([.ref q]) ++ List.replicate (1 - (lg_sl ([.ref q])).length) Slot.unset).toArray = ls at hl ⊢
  have hl : lv_has ls 1 [(0, .ref q)] := hl
  have hq : cqz_zz D q (.inr (8, [.int (Int32.ofInt 0), .int (Int32.ofInt 0), .int (Int32.ofInt 0), .int (Int32.ofInt 0), .int (Int32.ofInt 0), .int (Int32.ofInt 0), .int (Int32.ofInt 0), .int (Int32.ofInt 0), .int (Int32.ofInt 0), .int (Int32.ofInt 0), .null, .null, .null]) :: []) s.heap := hq
  refine lv_aload_n hx hb dX8_0zz rfl (lv_at hl 0 rfl) ?_
  refine W.objInit hx hb hown (hts (.methodLink RX8 3 objectInit) (bc_wat_ok (pos := 205) sorry)) (hts (.instanceMethod objectInit) (bc_wat_ok (pos := 132) sorry)) (hts _ (bc_wat_ok (pos := 133) sorry)) rfl (by rw [hml]; exact hl.1) rfl dX8_1zz (Nat.le_of_ble_eq_true rfl) (Nat.le_of_ble_eq_true rfl) ?_
  refine W.eq (g2 := F0 m 4 ls []) rfl ?_
  refine lv_aload_n hx hb dX8_4zz rfl (lv_at hl 0 rfl) ?_
  refine lv_iconst (v := Int32.ofInt 0) hx hb dX8_5zz (by decide) ?_
  refine cr_putzz (ci := 8) (C := RX8) (T := TX8) (N := 13) hx hb hts (bc_cl_ok 8 _ rfl).1 tyX8 tyX8_ok nmX8 hown hK hq hS rfl 0 (by decide) (hts (.fieldLink RX8 9 RX8 "today" "I") (bc_wat_ok (pos := 206) sorry)) (fun _ h9 => h9) rfl (ty := .int) (by decide +kernel) rfl rfl (Nat.le_of_ble_eq_true rfl) dX8_6zz (fun H locs hq hS => ?_)
  have hq : cqz_zz D q (.inr (8, [.int (Int32.ofInt 0), .int (Int32.ofInt 0), .int (Int32.ofInt 0), .int (Int32.ofInt 0), .int (Int32.ofInt 0), .int (Int32.ofInt 0), .int (Int32.ofInt 0), .int (Int32.ofInt 0), .int (Int32.ofInt 0), .int (Int32.ofInt 0), .null, .null, .null]) :: ([])) H := hq
  refine lv_aload_n hx hb dX8_9zz rfl (lv_at hl 0 rfl) ?_
  refine lv_bipush (v := Int32.ofInt 30) hx hb dX8_10zz (by decide) ?_
  refine cr_putzz (ci := 8) (C := RX8) (T := TX8) (N := 13) hx hb hts (bc_cl_ok 8 _ rfl).1 tyX8 tyX8_ok nmX8 hown hK hq hS rfl 1 (by decide) (hts (.fieldLink RX8 15 RX8 "steel" "I") (bc_wat_ok (pos := 208) sorry)) (fun _ h9 => h9) rfl (ty := .int) (by decide +kernel) rfl rfl (Nat.le_of_ble_eq_true rfl) dX8_12zz (fun H locs hq hS => ?_)
  have hq : cqz_zz D q (.inr (8, [.int (Int32.ofInt 0), .int (Int32.ofInt 30), .int (Int32.ofInt 0), .int (Int32.ofInt 0), .int (Int32.ofInt 0), .int (Int32.ofInt 0), .int (Int32.ofInt 0), .int (Int32.ofInt 0), .int (Int32.ofInt 0), .int (Int32.ofInt 0), .null, .null, .null]) :: ([])) H := hq
  refine lv_aload_n hx hb dX8_15zz rfl (lv_at hl 0 rfl) ?_
  refine lv_iconst (v := Int32.ofInt 5) hx hb dX8_16zz (by decide) ?_
  refine cr_putzz (ci := 8) (C := RX8) (T := TX8) (N := 13) hx hb hts (bc_cl_ok 8 _ rfl).1 tyX8 tyX8_ok nmX8 hown hK hq hS rfl 2 (by decide) (hts (.fieldLink RX8 18 RX8 "forge" "I") (bc_wat_ok (pos := 210) sorry)) (fun _ h9 => h9) rfl (ty := .int) (by decide +kernel) rfl rfl (Nat.le_of_ble_eq_true rfl) dX8_17zz (fun H locs hq hS => ?_)
  have hq : cqz_zz D q (.inr (8, [.int (Int32.ofInt 0), .int (Int32.ofInt 30), .int (Int32.ofInt 5), .int (Int32.ofInt 0), .int (Int32.ofInt 0), .int (Int32.ofInt 0), .int (Int32.ofInt 0), .int (Int32.ofInt 0), .int (Int32.ofInt 0), .int (Int32.ofInt 0), .null, .null, .null]) :: ([])) H := hq
  refine lv_aload_n hx hb dX8_20zz rfl (lv_at hl 0 rfl) ?_
  refine lv_iconst (v := Int32.ofInt 0) hx hb dX8_21zz (by decide) ?_
  refine cr_putzz (ci := 8) (C := RX8) (T := TX8) (N := 13) hx hb hts (bc_cl_ok 8 _ rfl).1 tyX8 tyX8_ok nmX8 hown hK hq hS rfl 3 (by decide) (hts (.fieldLink RX8 21 RX8 "forged" "I") (bc_wat_ok (pos := 211) sorry)) (fun _ h9 => h9) rfl (ty := .int) (by decide +kernel) rfl rfl (Nat.le_of_ble_eq_true rfl) dX8_22zz (fun H locs hq hS => ?_)
  have hq : cqz_zz D q (.inr (8, [.int (Int32.ofInt 0), .int (Int32.ofInt 30), .int (Int32.ofInt 5), .int (Int32.ofInt 0), .int (Int32.ofInt 0), .int (Int32.ofInt 0), .int (Int32.ofInt 0), .int (Int32.ofInt 0), .int (Int32.ofInt 0), .int (Int32.ofInt 0), .null, .null, .null]) :: ([])) H := hq
  refine lv_aload_n hx hb dX8_25zz rfl (lv_at hl 0 rfl) ?_
  refine lv_iconst (v := Int32.ofInt 0) hx hb dX8_26zz (by decide) ?_
  refine cr_putzz (ci := 8) (C := RX8) (T := TX8) (N := 13) hx hb hts (bc_cl_ok 8 _ rfl).1 tyX8 tyX8_ok nmX8 hown hK hq hS rfl 4 (by decide) (hts (.fieldLink RX8 24 RX8 "givenForVows" "I") (bc_wat_ok (pos := 212) sorry)) (fun _ h9 => h9) rfl (ty := .int) (by decide +kernel) rfl rfl (Nat.le_of_ble_eq_true rfl) dX8_27zz (fun H locs hq hS => ?_)
  have hq : cqz_zz D q (.inr (8, [.int (Int32.ofInt 0), .int (Int32.ofInt 30), .int (Int32.ofInt 5), .int (Int32.ofInt 0), .int (Int32.ofInt 0), .int (Int32.ofInt 0), .int (Int32.ofInt 0), .int (Int32.ofInt 0), .int (Int32.ofInt 0), .int (Int32.ofInt 0), .null, .null, .null]) :: ([])) H := hq
  refine lv_aload_n hx hb dX8_30zz rfl (lv_at hl 0 rfl) ?_
  refine lv_iconst (v := Int32.ofInt 0) hx hb dX8_31zz (by decide) ?_
  refine cr_putzz (ci := 8) (C := RX8) (T := TX8) (N := 13) hx hb hts (bc_cl_ok 8 _ rfl).1 tyX8 tyX8_ok nmX8 hown hK hq hS rfl 5 (by decide) (hts (.fieldLink RX8 27 RX8 "givenForRepairs" "I") (bc_wat_ok (pos := 213) sorry)) (fun _ h9 => h9) rfl (ty := .int) (by decide +kernel) rfl rfl (Nat.le_of_ble_eq_true rfl) dX8_32zz (fun H locs hq hS => ?_)
  have hq : cqz_zz D q (.inr (8, [.int (Int32.ofInt 0), .int (Int32.ofInt 30), .int (Int32.ofInt 5), .int (Int32.ofInt 0), .int (Int32.ofInt 0), .int (Int32.ofInt 0), .int (Int32.ofInt 0), .int (Int32.ofInt 0), .int (Int32.ofInt 0), .int (Int32.ofInt 0), .null, .null, .null]) :: ([])) H := hq
  refine lv_aload_n hx hb dX8_35zz rfl (lv_at hl 0 rfl) ?_
  refine lv_iconst (v := Int32.ofInt 0) hx hb dX8_36zz (by decide) ?_
  refine cr_putzz (ci := 8) (C := RX8) (T := TX8) (N := 13) hx hb hts (bc_cl_ok 8 _ rfl).1 tyX8 tyX8_ok nmX8 hown hK hq hS rfl 6 (by decide) (hts (.fieldLink RX8 30 RX8 "kept" "I") (bc_wat_ok (pos := 214) sorry)) (fun _ h9 => h9) rfl (ty := .int) (by decide +kernel) rfl rfl (Nat.le_of_ble_eq_true rfl) dX8_37zz (fun H locs hq hS => ?_)
  have hq : cqz_zz D q (.inr (8, [.int (Int32.ofInt 0), .int (Int32.ofInt 30), .int (Int32.ofInt 5), .int (Int32.ofInt 0), .int (Int32.ofInt 0), .int (Int32.ofInt 0), .int (Int32.ofInt 0), .int (Int32.ofInt 0), .int (Int32.ofInt 0), .int (Int32.ofInt 0), .null, .null, .null]) :: ([])) H := hq
  refine lv_aload_n hx hb dX8_40zz rfl (lv_at hl 0 rfl) ?_
  refine lv_iconst (v := Int32.ofInt 0) hx hb dX8_41zz (by decide) ?_
  refine cr_putzz (ci := 8) (C := RX8) (T := TX8) (N := 13) hx hb hts (bc_cl_ok 8 _ rfl).1 tyX8 tyX8_ok nmX8 hown hK hq hS rfl 7 (by decide) (hts (.fieldLink RX8 33 RX8 "broken" "I") (bc_wat_ok (pos := 216) sorry)) (fun _ h9 => h9) rfl (ty := .int) (by decide +kernel) rfl rfl (Nat.le_of_ble_eq_true rfl) dX8_42zz (fun H locs hq hS => ?_)
  have hq : cqz_zz D q (.inr (8, [.int (Int32.ofInt 0), .int (Int32.ofInt 30), .int (Int32.ofInt 5), .int (Int32.ofInt 0), .int (Int32.ofInt 0), .int (Int32.ofInt 0), .int (Int32.ofInt 0), .int (Int32.ofInt 0), .int (Int32.ofInt 0), .int (Int32.ofInt 0), .null, .null, .null]) :: ([])) H := hq
  refine lv_aload_n hx hb dX8_45zz rfl (lv_at hl 0 rfl) ?_
  refine lv_iconst (v := Int32.ofInt 0) hx hb dX8_46zz (by decide) ?_
  refine cr_putzz (ci := 8) (C := RX8) (T := TX8) (N := 13) hx hb hts (bc_cl_ok 8 _ rfl).1 tyX8 tyX8_ok nmX8 hown hK hq hS rfl 8 (by decide) (hts (.fieldLink RX8 36 RX8 "nextId" "I") (bc_wat_ok (pos := 218) sorry)) (fun _ h9 => h9) rfl (ty := .int) (by decide +kernel) rfl rfl (Nat.le_of_ble_eq_true rfl) dX8_47zz (fun H locs hq hS => ?_)
  have hq : cqz_zz D q (.inr (8, [.int (Int32.ofInt 0), .int (Int32.ofInt 30), .int (Int32.ofInt 5), .int (Int32.ofInt 0), .int (Int32.ofInt 0), .int (Int32.ofInt 0), .int (Int32.ofInt 0), .int (Int32.ofInt 0), .int (Int32.ofInt 0), .int (Int32.ofInt 0), .null, .null, .null]) :: ([])) H := hq
  refine lv_aload_n hx hb dX8_50zz rfl (lv_at hl 0 rfl) ?_
  refine lv_iconst (v := Int32.ofInt 0) hx hb dX8_51zz (by decide) ?_
  refine cr_putzz (ci := 8) (C := RX8) (T := TX8) (N := 13) hx hb hts (bc_cl_ok 8 _ rfl).1 tyX8 tyX8_ok nmX8 hown hK hq hS rfl 9 (by decide) (hts (.fieldLink RX8 39 RX8 "waiting" "I") (bc_wat_ok (pos := 219) sorry)) (fun _ h9 => h9) rfl (ty := .int) (by decide +kernel) rfl rfl (Nat.le_of_ble_eq_true rfl) dX8_52zz (fun H locs hq hS => ?_)
  have hq : cqz_zz D q (.inr (8, [.int (Int32.ofInt 0), .int (Int32.ofInt 30), .int (Int32.ofInt 5), .int (Int32.ofInt 0), .int (Int32.ofInt 0), .int (Int32.ofInt 0), .int (Int32.ofInt 0), .int (Int32.ofInt 0), .int (Int32.ofInt 0), .int (Int32.ofInt 0), .null, .null, .null]) :: ([])) H := hq
  refine lv_aload_n hx hb dX8_55zz rfl (lv_at hl 0 rfl) ?_
  refine lv_bipush (v := Int32.ofInt 8) hx hb dX8_56zz (by decide) ?_
  refine cr_newazz (atype := .int) (cI := cA 0) (n := Int32.ofInt 8) (N' := 8) (a0 := (8, .inl (fun _ => Int32.ofInt 0))) (k9 := 1) rfl hx hb (hts (.arrayClass .int) (bc_wat_ok (pos := 183) sorry)) (hK.1.2 0 _ rfl).2 hq hS rfl (by decide) (by decide) (Nat.le_of_ble_eq_true rfl) (Nat.le_of_ble_eq_true rfl) (Nat.le_of_ble_eq_true rfl) dX8_58zz (fun H hq hS => ?_)
  have hq : cqz_zz D q (.inr (8, [.int (Int32.ofInt 0), .int (Int32.ofInt 30), .int (Int32.ofInt 5), .int (Int32.ofInt 0), .int (Int32.ofInt 0), .int (Int32.ofInt 0), .int (Int32.ofInt 0), .int (Int32.ofInt 0), .int (Int32.ofInt 0), .int (Int32.ofInt 0), .null, .null, .null]) :: ([] ++ [.inl (cA 0, 8, .inl (fun _ => Int32.ofInt 0))])) H := hq
  refine cr_putFzz (ci := 8) (C := RX8) (T := TX8) (N := 13) hx hb hts (bc_cl_ok 8 _ rfl).1 tyX8 tyX8_ok nmX8 hown hK hq hS rfl 10 (by decide) (hts (.fieldLink RX8 42 RX8 "ids" "[I") (bc_wat_ok (pos := 221) sorry)) (fun _ h9 => h9) rfl hin rfl (ty := .array .int) (by decide +kernel) rfl rfl (Nat.le_of_ble_eq_true rfl) dX8_60zz (fun H locs hq hS => ?_)
  have hq : cqz_zz D q (.inr (8, [.int (Int32.ofInt 0), .int (Int32.ofInt 30), .int (Int32.ofInt 5), .int (Int32.ofInt 0), .int (Int32.ofInt 0), .int (Int32.ofInt 0), .int (Int32.ofInt 0), .int (Int32.ofInt 0), .int (Int32.ofInt 0), .int (Int32.ofInt 0), .ref (q + 1), .null, .null]) :: ([] ++ [.inl (cA 0, 8, .inl (fun _ => Int32.ofInt 0))])) H := hq
  refine lv_aload_n hx hb dX8_63zz rfl (lv_at hl 0 rfl) ?_
  refine lv_bipush (v := Int32.ofInt 8) hx hb dX8_64zz (by decide) ?_
  refine cr_newazz (atype := .int) (cI := cA 0) (n := Int32.ofInt 8) (N' := 8) (a0 := (8, .inl (fun _ => Int32.ofInt 0))) (k9 := 2) rfl hx hb (hts (.arrayClass .int) (bc_wat_ok (pos := 183) sorry)) (hK.1.2 0 _ rfl).2 hq hS rfl (by decide) (by decide) (Nat.le_of_ble_eq_true rfl) (Nat.le_of_ble_eq_true rfl) (Nat.le_of_ble_eq_true rfl) dX8_66zz (fun H hq hS => ?_)
  have hq : cqz_zz D q (.inr (8, [.int (Int32.ofInt 0), .int (Int32.ofInt 30), .int (Int32.ofInt 5), .int (Int32.ofInt 0), .int (Int32.ofInt 0), .int (Int32.ofInt 0), .int (Int32.ofInt 0), .int (Int32.ofInt 0), .int (Int32.ofInt 0), .int (Int32.ofInt 0), .ref (q + 1), .null, .null]) :: ([] ++ [.inl (cA 0, 8, .inl (fun _ => Int32.ofInt 0))] ++ [.inl (cA 0, 8, .inl (fun _ => Int32.ofInt 0))])) H := hq
  refine cr_putFzz (ci := 8) (C := RX8) (T := TX8) (N := 13) hx hb hts (bc_cl_ok 8 _ rfl).1 tyX8 tyX8_ok nmX8 hown hK hq hS rfl 11 (by decide) (hts (.fieldLink RX8 46 RX8 "dueDays" "[I") (bc_wat_ok (pos := 223) sorry)) (fun _ h9 => h9) rfl hin rfl (ty := .array .int) (by decide +kernel) rfl rfl (Nat.le_of_ble_eq_true rfl) dX8_68zz (fun H locs hq hS => ?_)
  have hq : cqz_zz D q (.inr (8, [.int (Int32.ofInt 0), .int (Int32.ofInt 30), .int (Int32.ofInt 5), .int (Int32.ofInt 0), .int (Int32.ofInt 0), .int (Int32.ofInt 0), .int (Int32.ofInt 0), .int (Int32.ofInt 0), .int (Int32.ofInt 0), .int (Int32.ofInt 0), .ref (q + 1), .ref (q + 2), .null]) :: ([] ++ [.inl (cA 0, 8, .inl (fun _ => Int32.ofInt 0))] ++ [.inl (cA 0, 8, .inl (fun _ => Int32.ofInt 0))])) H := hq
  refine lv_aload_n hx hb dX8_71zz rfl (lv_at hl 0 rfl) ?_
  refine lv_bipush (v := Int32.ofInt 8) hx hb dX8_72zz (by decide) ?_
  refine cr_newazz (atype := .int) (cI := cA 0) (n := Int32.ofInt 8) (N' := 8) (a0 := (8, .inl (fun _ => Int32.ofInt 0))) (k9 := 3) rfl hx hb (hts (.arrayClass .int) (bc_wat_ok (pos := 183) sorry)) (hK.1.2 0 _ rfl).2 hq hS rfl (by decide) (by decide) (Nat.le_of_ble_eq_true rfl) (Nat.le_of_ble_eq_true rfl) (Nat.le_of_ble_eq_true rfl) dX8_74zz (fun H hq hS => ?_)
  have hq : cqz_zz D q (.inr (8, [.int (Int32.ofInt 0), .int (Int32.ofInt 30), .int (Int32.ofInt 5), .int (Int32.ofInt 0), .int (Int32.ofInt 0), .int (Int32.ofInt 0), .int (Int32.ofInt 0), .int (Int32.ofInt 0), .int (Int32.ofInt 0), .int (Int32.ofInt 0), .ref (q + 1), .ref (q + 2), .null]) :: ([] ++ [.inl (cA 0, 8, .inl (fun _ => Int32.ofInt 0))] ++ [.inl (cA 0, 8, .inl (fun _ => Int32.ofInt 0))] ++ [.inl (cA 0, 8, .inl (fun _ => Int32.ofInt 0))])) H := hq
  refine cr_putFzz (ci := 8) (C := RX8) (T := TX8) (N := 13) hx hb hts (bc_cl_ok 8 _ rfl).1 tyX8 tyX8_ok nmX8 hown hK hq hS rfl 12 (by decide) (hts (.fieldLink RX8 49 RX8 "amounts" "[I") (bc_wat_ok (pos := 225) sorry)) (fun _ h9 => h9) rfl hin rfl (ty := .array .int) (by decide +kernel) rfl rfl (Nat.le_of_ble_eq_true rfl) dX8_76zz (fun H locs hq hS => ?_)
  have hq : cqz_zz D q (.inr (8, [.int (Int32.ofInt 0), .int (Int32.ofInt 30), .int (Int32.ofInt 5), .int (Int32.ofInt 0), .int (Int32.ofInt 0), .int (Int32.ofInt 0), .int (Int32.ofInt 0), .int (Int32.ofInt 0), .int (Int32.ofInt 0), .int (Int32.ofInt 0), .ref (q + 1), .ref (q + 2), .ref (q + 3)]) :: ([] ++ [.inl (cA 0, 8, .inl (fun _ => Int32.ofInt 0))] ++ [.inl (cA 0, 8, .inl (fun _ => Int32.ofInt 0))] ++ [.inl (cA 0, 8, .inl (fun _ => Int32.ofInt 0))])) H := hq
  refine W.widen (k := 3) (n := 24) (Nat.le_of_ble_eq_true rfl) (Nat.le_of_ble_eq_true rfl) ?_
  exact W.vret hx hb hr (fun t ht hW => ⟨⟨(), rfl, trivial, by show cqz_zz D q (E8_zz cA q) t.heap; rw [ht]; exact hq⟩, hS.F ht⟩) hS.2.2 dX8_79zz
theorem zX6_inzz : ∀ pc, 38 ≤ pc → pX6_init pc = none := fun _ h => by unfold pX6_init; exact bc_cut_none h
theorem dX6_0zz : decode cX6_init 0 = .ok (.aload_n 0, 1) := ((bc_dec_ok kX6_init zX6_inzz) 0 _ _ _ rfl).1
theorem dX6_1zz : decode cX6_init 1 = .ok (.invokespecial 1, 3) := ((bc_dec_ok kX6_init zX6_inzz) 1 _ _ _ rfl).1
theorem dX6_4zz : decode cX6_init 4 = .ok (.aload_n 0, 1) := ((bc_dec_ok kX6_init zX6_inzz) 4 _ _ _ rfl).1
theorem dX6_5zz : decode cX6_init 5 = .ok (.new 7, 3) := ((bc_dec_ok kX6_init zX6_inzz) 5 _ _ _ rfl).1
theorem dX6_8zz : decode cX6_init 8 = .ok (.dup, 1) := ((bc_dec_ok kX6_init zX6_inzz) 8 _ _ _ rfl).1
theorem dX6_9zz : decode cX6_init 9 = .ok (.invokespecial 9, 3) := ((bc_dec_ok kX6_init zX6_inzz) 9 _ _ _ rfl).1
theorem dX6_12zz : decode cX6_init 12 = .ok (.putfield 10, 3) := ((bc_dec_ok kX6_init zX6_inzz) 12 _ _ _ rfl).1
theorem dX6_15zz : decode cX6_init 15 = .ok (.aload_n 0, 1) := ((bc_dec_ok kX6_init zX6_inzz) 15 _ _ _ rfl).1
theorem dX6_16zz : decode cX6_init 16 = .ok (.new 16, 3) := ((bc_dec_ok kX6_init zX6_inzz) 16 _ _ _ rfl).1
theorem dX6_19zz : decode cX6_init 19 = .ok (.dup, 1) := ((bc_dec_ok kX6_init zX6_inzz) 19 _ _ _ rfl).1
theorem dX6_20zz : decode cX6_init 20 = .ok (.invokespecial 18, 3) := ((bc_dec_ok kX6_init zX6_inzz) 20 _ _ _ rfl).1
theorem dX6_23zz : decode cX6_init 23 = .ok (.putfield 19, 3) := ((bc_dec_ok kX6_init zX6_inzz) 23 _ _ _ rfl).1
theorem dX6_26zz : decode cX6_init 26 = .ok (.aload_n 0, 1) := ((bc_dec_ok kX6_init zX6_inzz) 26 _ _ _ rfl).1
theorem dX6_27zz : decode cX6_init 27 = .ok (.new 23, 3) := ((bc_dec_ok kX6_init zX6_inzz) 27 _ _ _ rfl).1
theorem dX6_30zz : decode cX6_init 30 = .ok (.dup, 1) := ((bc_dec_ok kX6_init zX6_inzz) 30 _ _ _ rfl).1
theorem dX6_31zz : decode cX6_init 31 = .ok (.invokespecial 25, 3) := ((bc_dec_ok kX6_init zX6_inzz) 31 _ _ _ rfl).1
theorem dX6_34zz : decode cX6_init 34 = .ok (.putfield 26, 3) := ((bc_dec_ok kX6_init zX6_inzz) 34 _ _ _ rfl).1
theorem dX6_37zz : decode cX6_init 37 = .ok (.return_, 1) := ((bc_dec_ok kX6_init zX6_inzz) 37 _ _ _ rfl).1
noncomputable def E6_zz (cA : Nat → ClassId) (q : Nat) : List va_E := .inr (6, [.ref (q + 1), .ref (q + 8), .ref (q + 10)]) :: ([] ++ E2_zz cA (q + 1) ++ E3_zz cA (q + 8) ++ E8_zz cA (q + 10))
theorem E6_lenzz (cA : Nat → ClassId) (q : Nat) : (E6_zz cA q).length = 14 := by simp [E6_zz, E2_lenzz, E3_lenzz, E8_lenzz]
set_option maxHeartbeats 4000000 in
set_option maxRecDepth 100000 in
theorem ctX6zz (l : Launch) (D : va_G) (cA : Nat → ClassId) : ctc_zz l D cA mX6_init { frames := 4, cells := 13, slots := 146, locals := 60 } (.inr (6, [.null, .null, .null])) (fun q => E6_zz cA q) 13 146 := by
  intro q
  refine Met.ofW (cc := cX6_init) (maxL := 1) (ret := none) (by decide) rfl ?_
  intro p e s m args below meth c s₁ B hml hv
  obtain ⟨rfl, hq, hK⟩ := hv
  have hx := B.exec
  have hb := B.bytes
  have hr := B.returns
  have hts0 := atoms_spec (ws := ctW_zz mX6_init) B.pre
  have hts : ∀ w ∈ bc_W, w.before [Value.ref q].toArray s = true := fun w hw => hts0 w (List.mem_cons_of_mem _ hw)
  have hown : s.vm.findClass RX6 = some m.cls := findClass_of_methodNamed B.named
  have hlocks := B.notSynchronized
  have hin : meth.name = "<init>" := (name_of_methodNamed B.named B.method).1
  have hS : va_S (fun a => q ≤ a) s.heap s.heap [] := va_S.rf
  have hl := lv_entry ([.ref q]) (n := 1) (Nat.le_of_ble_eq_true rfl)
  rw [lg_entry_eq]
  generalize (lg_sl ([.ref q]) ++ List.replicate (1 - (lg_sl ([.ref q])).length) Slot.unset).toArray = ls at hl ⊢
  have hl : lv_has ls 1 [(0, .ref q)] := hl
  have hq : cqz_zz D q (.inr (6, [.null, .null, .null]) :: []) s.heap := hq
  refine lv_aload_n hx hb dX6_0zz rfl (lv_at hl 0 rfl) ?_
  refine W.objInit hx hb hown (hts (.methodLink RX6 1 objectInit) (bc_wat_ok (pos := 139) sorry)) (hts (.instanceMethod objectInit) (bc_wat_ok (pos := 132) sorry)) (hts _ (bc_wat_ok (pos := 133) sorry)) rfl (by rw [hml]; exact hl.1) rfl dX6_1zz (Nat.le_of_ble_eq_true rfl) (Nat.le_of_ble_eq_true rfl) ?_
  refine W.eq (g2 := F0 m 4 ls []) rfl ?_
  refine lv_aload_n hx hb dX6_4zz rfl (lv_at hl 0 rfl) ?_
  refine cr_newzz (ci := 2) (fs := [.int (Int32.ofInt 0), .null, .null, .null, .null, .null, .null]) (C := RX2) (T := TX2) (N := 7) (k9 := 1) rfl hx hb hts (bc_cl_ok 2 _ rfl).1 tyX2 tyX2_ok hown (hts (.classLink RX6 7 RX2) (bc_wat_ok (pos := 140) sorry)) (hts (.instantiable RX2 7) (bc_wat_ok (pos := 141) sorry)) (hts (.initialized RX2) (bc_wat_ok (pos := 98) sorry)) hK hq hS rfl (fun j hj => by rcases (show j = 0 ∨ j = 1 ∨ j = 2 ∨ j = 3 ∨ j = 4 ∨ j = 5 ∨ j = 6 by omega) with rfl | rfl | rfl | rfl | rfl | rfl | rfl <;> rfl) (Nat.le_of_ble_eq_true rfl) (Nat.le_of_ble_eq_true rfl) dX6_5zz (fun H hq hS => ?_)
  refine lv_dup hx hb dX6_8zz rfl ?_
  refine cr_callNzz (host := "BridgeChapel") (Y := mX2_init) (rm := { frames := 2, cells := 6, slots := 96, locals := 20 }) (es := .inr (6, [.null, .null, .null]) :: ([])) (k9 := 1) rfl hx hb hml hown hts (ctX2zz l D cA) (bc_mem_W (bc_tk1 (List.mem_of_getElem? (i := 49) rfl)) rfl) (bc_watN_ok (pos := 142) (by decide +kernel)) (bc_wat_ok (pos := 98) sorry) (bc_wat_ok (pos := 143) sorry) rfl (by decide +kernel) rfl rfl ⟨Nat.le_of_ble_eq_true rfl, Nat.le_of_ble_eq_true rfl⟩ hK hq hS hl.1 (Nat.le_of_ble_eq_true rfl) dX6_9zz ⟨Nat.le_of_ble_eq_true rfl, Nat.le_of_ble_eq_true rfl⟩ (fun H locs hq hS => ?_)
  have hq : cqz_zz D q (.inr (6, [.null, .null, .null]) :: ([] ++ E2_zz cA (q + 1))) H := hq
  refine cr_putFzz (ci := 6) (C := RX6) (T := TX6) (N := 3) hx hb hts (bc_cl_ok 6 _ rfl).1 tyX6 tyX6_ok nmX6 hown hK hq hS rfl 0 (by decide) (hts (.fieldLink RX6 10 RX6 "members" "LBridgeChapel$Members;") (bc_wat_ok (pos := 254) sorry)) (fun _ h9 => h9) rfl hin rfl (ty := .object "BridgeChapel$Members") (by decide +kernel) rfl rfl (Nat.le_of_ble_eq_true rfl) dX6_12zz (fun H locs hq hS => ?_)
  have hq : cqz_zz D q (.inr (6, [.ref (q + 1), .null, .null]) :: ([] ++ E2_zz cA (q + 1))) H := hq
  refine lv_aload_n hx hb dX6_15zz rfl (lv_at hl 0 rfl) ?_
  refine cr_newzz (ci := 3) (fs := [.int (Int32.ofInt 0), .null]) (C := RX3) (T := TX3) (N := 2) (k9 := 8) (by simp [E2_lenzz]) hx hb hts (bc_cl_ok 3 _ rfl).1 tyX3 tyX3_ok hown (hts (.classLink RX6 16 RX3) (bc_wat_ok (pos := 185) sorry)) (hts (.instantiable RX3 2) (bc_wat_ok (pos := 186) sorry)) (hts (.initialized RX3) (bc_wat_ok (pos := 99) sorry)) hK hq hS rfl (fun j hj => by rcases (show j = 0 ∨ j = 1 by omega) with rfl | rfl <;> rfl) (Nat.le_of_ble_eq_true rfl) (Nat.le_of_ble_eq_true rfl) dX6_16zz (fun H hq hS => ?_)
  refine lv_dup hx hb dX6_19zz rfl ?_
  refine cr_callNzz (host := "BridgeChapel") (Y := mX3_init) (rm := { frames := 2, cells := 1, slots := 4, locals := 20 }) (es := .inr (6, [.ref (q + 1), .null, .null]) :: ([] ++ E2_zz cA (q + 1))) (k9 := 8) (by simp [E2_lenzz]) hx hb hml hown hts (ctX3zz l D cA) (bc_mem_W (bc_tk1 (List.mem_of_getElem? (i := 94) rfl)) rfl) (bc_watN_ok (pos := 187) (by decide +kernel)) (bc_wat_ok (pos := 99) sorry) (bc_wat_ok (pos := 188) sorry) rfl (by decide +kernel) rfl rfl ⟨Nat.le_of_ble_eq_true rfl, Nat.le_of_ble_eq_true rfl⟩ hK hq hS hl.1 (Nat.le_of_ble_eq_true rfl) dX6_20zz ⟨Nat.le_of_ble_eq_true rfl, Nat.le_of_ble_eq_true rfl⟩ (fun H locs hq hS => ?_)
  have hq : cqz_zz D q (.inr (6, [.ref (q + 1), .null, .null]) :: ([] ++ E2_zz cA (q + 1) ++ E3_zz cA (q + 8))) H := hq
  refine cr_putFzz (ci := 6) (C := RX6) (T := TX6) (N := 3) hx hb hts (bc_cl_ok 6 _ rfl).1 tyX6 tyX6_ok nmX6 hown hK hq hS rfl 1 (by decide) (hts (.fieldLink RX6 19 RX6 "niche" "LBridgeChapel$Niche;") (bc_wat_ok (pos := 256) sorry)) (fun _ h9 => h9) rfl hin rfl (ty := .object "BridgeChapel$Niche") (by decide +kernel) rfl rfl (Nat.le_of_ble_eq_true rfl) dX6_23zz (fun H locs hq hS => ?_)
  have hq : cqz_zz D q (.inr (6, [.ref (q + 1), .ref (q + 8), .null]) :: ([] ++ E2_zz cA (q + 1) ++ E3_zz cA (q + 8))) H := hq
  refine lv_aload_n hx hb dX6_26zz rfl (lv_at hl 0 rfl) ?_
  refine cr_newzz (ci := 8) (fs := [.int (Int32.ofInt 0), .int (Int32.ofInt 0), .int (Int32.ofInt 0), .int (Int32.ofInt 0), .int (Int32.ofInt 0), .int (Int32.ofInt 0), .int (Int32.ofInt 0), .int (Int32.ofInt 0), .int (Int32.ofInt 0), .int (Int32.ofInt 0), .null, .null, .null]) (C := RX8) (T := TX8) (N := 13) (k9 := 10) (by simp [E2_lenzz, E3_lenzz]) hx hb hts (bc_cl_ok 8 _ rfl).1 tyX8 tyX8_ok hown (hts (.classLink RX6 23 RX8) (bc_wat_ok (pos := 200) sorry)) (hts (.instantiable RX8 13) (bc_wat_ok (pos := 201) sorry)) (hts (.initialized RX8) (bc_wat_ok (pos := 100) sorry)) hK hq hS rfl (fun j hj => by rcases (show j = 0 ∨ j = 1 ∨ j = 2 ∨ j = 3 ∨ j = 4 ∨ j = 5 ∨ j = 6 ∨ j = 7 ∨ j = 8 ∨ j = 9 ∨ j = 10 ∨ j = 11 ∨ j = 12 by omega) with rfl | rfl | rfl | rfl | rfl | rfl | rfl | rfl | rfl | rfl | rfl | rfl | rfl <;> rfl) (Nat.le_of_ble_eq_true rfl) (Nat.le_of_ble_eq_true rfl) dX6_27zz (fun H hq hS => ?_)
  refine lv_dup hx hb dX6_30zz rfl ?_
  refine cr_callNzz (host := "BridgeChapel") (Y := mX8_init) (rm := { frames := 2, cells := 3, slots := 24, locals := 20 }) (es := .inr (6, [.ref (q + 1), .ref (q + 8), .null]) :: ([] ++ E2_zz cA (q + 1) ++ E3_zz cA (q + 8))) (k9 := 10) (by simp [E2_lenzz, E3_lenzz]) hx hb hml hown hts (ctX8zz l D cA) (bc_mem_W (bc_tk1 (List.mem_of_getElem? (i := 109) rfl)) rfl) (bc_watN_ok (pos := 202) (by decide +kernel)) (bc_wat_ok (pos := 100) sorry) (bc_wat_ok (pos := 203) sorry) rfl (by decide +kernel) rfl rfl ⟨Nat.le_of_ble_eq_true rfl, Nat.le_of_ble_eq_true rfl⟩ hK hq hS hl.1 (Nat.le_of_ble_eq_true rfl) dX6_31zz ⟨Nat.le_of_ble_eq_true rfl, Nat.le_of_ble_eq_true rfl⟩ (fun H locs hq hS => ?_)
  have hq : cqz_zz D q (.inr (6, [.ref (q + 1), .ref (q + 8), .null]) :: ([] ++ E2_zz cA (q + 1) ++ E3_zz cA (q + 8) ++ E8_zz cA (q + 10))) H := hq
  refine cr_putFzz (ci := 6) (C := RX6) (T := TX6) (N := 3) hx hb hts (bc_cl_ok 6 _ rfl).1 tyX6 tyX6_ok nmX6 hown hK hq hS rfl 2 (by decide) (hts (.fieldLink RX6 26 RX6 "treasury" "LBridgeChapel$Treasury;") (bc_wat_ok (pos := 258) sorry)) (fun _ h9 => h9) rfl hin rfl (ty := .object "BridgeChapel$Treasury") (by decide +kernel) rfl rfl (Nat.le_of_ble_eq_true rfl) dX6_34zz (fun H locs hq hS => ?_)
  have hq : cqz_zz D q (.inr (6, [.ref (q + 1), .ref (q + 8), .ref (q + 10)]) :: ([] ++ E2_zz cA (q + 1) ++ E3_zz cA (q + 8) ++ E8_zz cA (q + 10))) H := hq
  refine W.widen (k := 13) (n := 146) (Nat.le_of_ble_eq_true rfl) (Nat.le_of_ble_eq_true rfl) ?_
  exact W.vret hx hb hr (fun t ht hW => ⟨⟨(), rfl, trivial, by show cqz_zz D q (E6_zz cA q) t.heap; rw [ht]; exact hq⟩, hS.F ht⟩) hS.2.2 dX6_37zz
theorem zX7_inzz : ∀ pc, 18 ≤ pc → pX7_init pc = none := fun _ h => by unfold pX7_init; exact bc_cut_none h
theorem dX7_0zz : decode cX7_init 0 = .ok (.aload_n 0, 1) := ((bc_dec_ok kX7_init zX7_inzz) 0 _ _ _ rfl).1
theorem dX7_1zz : decode cX7_init 1 = .ok (.invokespecial 3, 3) := ((bc_dec_ok kX7_init zX7_inzz) 1 _ _ _ rfl).1
theorem dX7_4zz : decode cX7_init 4 = .ok (.aload_n 0, 1) := ((bc_dec_ok kX7_init zX7_inzz) 4 _ _ _ rfl).1
theorem dX7_5zz : decode cX7_init 5 = .ok (.bipush 60, 2) := ((bc_dec_ok kX7_init zX7_inzz) 5 _ _ _ rfl).1
theorem dX7_7zz : decode cX7_init 7 = .ok (.newarray .char, 2) := ((bc_dec_ok kX7_init zX7_inzz) 7 _ _ _ rfl).1
theorem dX7_9zz : decode cX7_init 9 = .ok (.putfield 9, 3) := ((bc_dec_ok kX7_init zX7_inzz) 9 _ _ _ rfl).1
theorem dX7_12zz : decode cX7_init 12 = .ok (.aload_n 0, 1) := ((bc_dec_ok kX7_init zX7_inzz) 12 _ _ _ rfl).1
theorem dX7_13zz : decode cX7_init 13 = .ok (.iconst 0, 1) := ((bc_dec_ok kX7_init zX7_inzz) 13 _ _ _ rfl).1
theorem dX7_14zz : decode cX7_init 14 = .ok (.putfield 15, 3) := ((bc_dec_ok kX7_init zX7_inzz) 14 _ _ _ rfl).1
theorem dX7_17zz : decode cX7_init 17 = .ok (.return_, 1) := ((bc_dec_ok kX7_init zX7_inzz) 17 _ _ _ rfl).1
noncomputable def E7_zz (cA : Nat → ClassId) (q : Nat) : List va_E := .inr (7, [.ref (q + 1), .int (Int32.ofInt 0)]) :: ([] ++ [.inl (cA 1, 60, .inl (fun _ => Int32.ofInt 0))])
theorem E7_lenzz (cA : Nat → ClassId) (q : Nat) : (E7_zz cA q).length = 2 := by simp [E7_zz]
set_option maxHeartbeats 4000000 in
set_option maxRecDepth 100000 in
theorem ctX7zz (l : Launch) (D : va_G) (cA : Nat → ClassId) : ctc_zz l D cA mX7_init { frames := 2, cells := 1, slots := 60, locals := 20 } (.inr (7, [.null, .int (Int32.ofInt 0)])) (fun q => E7_zz cA q) 1 60 := by
  intro q
  refine Met.ofW (cc := cX7_init) (maxL := 1) (ret := none) (by decide) rfl ?_
  intro p e s m args below meth c s₁ B hml hv
  obtain ⟨rfl, hq, hK⟩ := hv
  have hx := B.exec
  have hb := B.bytes
  have hr := B.returns
  have hts0 := atoms_spec (ws := ctW_zz mX7_init) B.pre
  have hts : ∀ w ∈ bc_W, w.before [Value.ref q].toArray s = true := fun w hw => hts0 w (List.mem_cons_of_mem _ hw)
  have hown : s.vm.findClass RX7 = some m.cls := findClass_of_methodNamed B.named
  have hlocks := B.notSynchronized
  have hin : meth.name = "<init>" := (name_of_methodNamed B.named B.method).1
  have hS : va_S (fun a => q ≤ a) s.heap s.heap [] := va_S.rf
  have hl := lv_entry ([.ref q]) (n := 1) (Nat.le_of_ble_eq_true rfl)
  rw [lg_entry_eq]
  generalize (lg_sl ([.ref q]) ++ List.replicate (1 - (lg_sl ([.ref q])).length) Slot.unset).toArray = ls at hl ⊢
  have hl : lv_has ls 1 [(0, .ref q)] := hl
  have hq : cqz_zz D q (.inr (7, [.null, .int (Int32.ofInt 0)]) :: []) s.heap := hq
  refine lv_aload_n hx hb dX7_0zz rfl (lv_at hl 0 rfl) ?_
  refine W.objInit hx hb hown (hts (.methodLink RX7 3 objectInit) (bc_wat_ok (pos := 365) sorry)) (hts (.instanceMethod objectInit) (bc_wat_ok (pos := 132) sorry)) (hts _ (bc_wat_ok (pos := 133) sorry)) rfl (by rw [hml]; exact hl.1) rfl dX7_1zz (Nat.le_of_ble_eq_true rfl) (Nat.le_of_ble_eq_true rfl) ?_
  refine W.eq (g2 := F0 m 4 ls []) rfl ?_
  refine lv_aload_n hx hb dX7_4zz rfl (lv_at hl 0 rfl) ?_
  refine lv_bipush (v := Int32.ofInt 60) hx hb dX7_5zz (by decide) ?_
  refine cr_newazz (atype := .char) (cI := cA 1) (n := Int32.ofInt 60) (N' := 60) (a0 := (60, .inl (fun _ => Int32.ofInt 0))) (k9 := 1) rfl hx hb (hts (.arrayClass .char) (bc_wat_ok (pos := 375) sorry)) (hK.1.2 1 _ rfl).2 hq hS rfl (by decide) (by decide) (Nat.le_of_ble_eq_true rfl) (Nat.le_of_ble_eq_true rfl) (Nat.le_of_ble_eq_true rfl) dX7_7zz (fun H hq hS => ?_)
  have hq : cqz_zz D q (.inr (7, [.null, .int (Int32.ofInt 0)]) :: ([] ++ [.inl (cA 1, 60, .inl (fun _ => Int32.ofInt 0))])) H := hq
  refine cr_putFzz (ci := 7) (C := RX7) (T := TX7) (N := 2) hx hb hts (bc_cl_ok 7 _ rfl).1 tyX7 tyX7_ok nmX7 hown hK hq hS rfl 0 (by decide) (hts (.fieldLink RX7 9 RX7 "characters" "[C") (bc_wat_ok (pos := 366) sorry)) (fun _ h9 => h9) rfl hin rfl (ty := .array .char) (by decide +kernel) rfl rfl (Nat.le_of_ble_eq_true rfl) dX7_9zz (fun H locs hq hS => ?_)
  have hq : cqz_zz D q (.inr (7, [.ref (q + 1), .int (Int32.ofInt 0)]) :: ([] ++ [.inl (cA 1, 60, .inl (fun _ => Int32.ofInt 0))])) H := hq
  refine lv_aload_n hx hb dX7_12zz rfl (lv_at hl 0 rfl) ?_
  refine lv_iconst (v := Int32.ofInt 0) hx hb dX7_13zz (by decide) ?_
  refine cr_putzz (ci := 7) (C := RX7) (T := TX7) (N := 2) hx hb hts (bc_cl_ok 7 _ rfl).1 tyX7 tyX7_ok nmX7 hown hK hq hS rfl 1 (by decide) (hts (.fieldLink RX7 15 RX7 "length" "I") (bc_wat_ok (pos := 367) sorry)) (fun _ h9 => h9) rfl (ty := .int) (by decide +kernel) rfl rfl (Nat.le_of_ble_eq_true rfl) dX7_14zz (fun H locs hq hS => ?_)
  have hq : cqz_zz D q (.inr (7, [.ref (q + 1), .int (Int32.ofInt 0)]) :: ([] ++ [.inl (cA 1, 60, .inl (fun _ => Int32.ofInt 0))])) H := hq
  refine W.widen (k := 1) (n := 60) (Nat.le_of_ble_eq_true rfl) (Nat.le_of_ble_eq_true rfl) ?_
  exact W.vret hx hb hr (fun t ht hW => ⟨⟨(), rfl, trivial, by show cqz_zz D q (E7_zz cA q) t.heap; rw [ht]; exact hq⟩, hS.F ht⟩) hS.2.2 dX7_17zz
theorem zX0_inzz : ∀ pc, 26 ≤ pc → pX0_init pc = none := fun _ h => by unfold pX0_init; exact bc_cut_none h
theorem dX0_0zz : decode cX0_init 0 = .ok (.aload_n 0, 1) := ((bc_dec_ok kX0_init zX0_inzz) 0 _ _ _ rfl).1
theorem dX0_1zz : decode cX0_init 1 = .ok (.invokespecial 3, 3) := ((bc_dec_ok kX0_init zX0_inzz) 1 _ _ _ rfl).1
theorem dX0_4zz : decode cX0_init 4 = .ok (.aload_n 0, 1) := ((bc_dec_ok kX0_init zX0_inzz) 4 _ _ _ rfl).1
theorem dX0_5zz : decode cX0_init 5 = .ok (.bipush 8, 2) := ((bc_dec_ok kX0_init zX0_inzz) 5 _ _ _ rfl).1
theorem dX0_7zz : decode cX0_init 7 = .ok (.newarray .int, 2) := ((bc_dec_ok kX0_init zX0_inzz) 7 _ _ _ rfl).1
theorem dX0_9zz : decode cX0_init 9 = .ok (.putfield 9, 3) := ((bc_dec_ok kX0_init zX0_inzz) 9 _ _ _ rfl).1
theorem dX0_12zz : decode cX0_init 12 = .ok (.aload_n 0, 1) := ((bc_dec_ok kX0_init zX0_inzz) 12 _ _ _ rfl).1
theorem dX0_13zz : decode cX0_init 13 = .ok (.bipush 8, 2) := ((bc_dec_ok kX0_init zX0_inzz) 13 _ _ _ rfl).1
theorem dX0_15zz : decode cX0_init 15 = .ok (.newarray .int, 2) := ((bc_dec_ok kX0_init zX0_inzz) 15 _ _ _ rfl).1
theorem dX0_17zz : decode cX0_init 17 = .ok (.putfield 15, 3) := ((bc_dec_ok kX0_init zX0_inzz) 17 _ _ _ rfl).1
theorem dX0_20zz : decode cX0_init 20 = .ok (.aload_n 0, 1) := ((bc_dec_ok kX0_init zX0_inzz) 20 _ _ _ rfl).1
theorem dX0_21zz : decode cX0_init 21 = .ok (.iconst 0, 1) := ((bc_dec_ok kX0_init zX0_inzz) 21 _ _ _ rfl).1
theorem dX0_22zz : decode cX0_init 22 = .ok (.putfield 18, 3) := ((bc_dec_ok kX0_init zX0_inzz) 22 _ _ _ rfl).1
theorem dX0_25zz : decode cX0_init 25 = .ok (.return_, 1) := ((bc_dec_ok kX0_init zX0_inzz) 25 _ _ _ rfl).1
noncomputable def E0_zz (cA : Nat → ClassId) (q : Nat) : List va_E := .inr (0, [.ref (q + 1), .ref (q + 2), .int (Int32.ofInt 0)]) :: ([] ++ [.inl (cA 0, 8, .inl (fun _ => Int32.ofInt 0))] ++ [.inl (cA 0, 8, .inl (fun _ => Int32.ofInt 0))])
theorem E0_lenzz (cA : Nat → ClassId) (q : Nat) : (E0_zz cA q).length = 3 := by simp [E0_zz]
set_option maxHeartbeats 4000000 in
set_option maxRecDepth 100000 in
theorem ctX0zz (l : Launch) (D : va_G) (cA : Nat → ClassId) : ctc_zz l D cA mX0_init { frames := 2, cells := 2, slots := 16, locals := 20 } (.inr (0, [.null, .null, .int (Int32.ofInt 0)])) (fun q => E0_zz cA q) 2 16 := by
  intro q
  refine Met.ofW (cc := cX0_init) (maxL := 1) (ret := none) (by decide) rfl ?_
  intro p e s m args below meth c s₁ B hml hv
  obtain ⟨rfl, hq, hK⟩ := hv
  have hx := B.exec
  have hb := B.bytes
  have hr := B.returns
  have hts0 := atoms_spec (ws := ctW_zz mX0_init) B.pre
  have hts : ∀ w ∈ bc_W, w.before [Value.ref q].toArray s = true := fun w hw => hts0 w (List.mem_cons_of_mem _ hw)
  have hown : s.vm.findClass RX0 = some m.cls := findClass_of_methodNamed B.named
  have hlocks := B.notSynchronized
  have hin : meth.name = "<init>" := (name_of_methodNamed B.named B.method).1
  have hS : va_S (fun a => q ≤ a) s.heap s.heap [] := va_S.rf
  have hl := lv_entry ([.ref q]) (n := 1) (Nat.le_of_ble_eq_true rfl)
  rw [lg_entry_eq]
  generalize (lg_sl ([.ref q]) ++ List.replicate (1 - (lg_sl ([.ref q])).length) Slot.unset).toArray = ls at hl ⊢
  have hl : lv_has ls 1 [(0, .ref q)] := hl
  have hq : cqz_zz D q (.inr (0, [.null, .null, .int (Int32.ofInt 0)]) :: []) s.heap := hq
  refine lv_aload_n hx hb dX0_0zz rfl (lv_at hl 0 rfl) ?_
  refine W.objInit hx hb hown (hts (.methodLink RX0 3 objectInit) (bc_wat_ok (pos := 322) sorry)) (hts (.instanceMethod objectInit) (bc_wat_ok (pos := 132) sorry)) (hts _ (bc_wat_ok (pos := 133) sorry)) rfl (by rw [hml]; exact hl.1) rfl dX0_1zz (Nat.le_of_ble_eq_true rfl) (Nat.le_of_ble_eq_true rfl) ?_
  refine W.eq (g2 := F0 m 4 ls []) rfl ?_
  refine lv_aload_n hx hb dX0_4zz rfl (lv_at hl 0 rfl) ?_
  refine lv_bipush (v := Int32.ofInt 8) hx hb dX0_5zz (by decide) ?_
  refine cr_newazz (atype := .int) (cI := cA 0) (n := Int32.ofInt 8) (N' := 8) (a0 := (8, .inl (fun _ => Int32.ofInt 0))) (k9 := 1) rfl hx hb (hts (.arrayClass .int) (bc_wat_ok (pos := 183) sorry)) (hK.1.2 0 _ rfl).2 hq hS rfl (by decide) (by decide) (Nat.le_of_ble_eq_true rfl) (Nat.le_of_ble_eq_true rfl) (Nat.le_of_ble_eq_true rfl) dX0_7zz (fun H hq hS => ?_)
  have hq : cqz_zz D q (.inr (0, [.null, .null, .int (Int32.ofInt 0)]) :: ([] ++ [.inl (cA 0, 8, .inl (fun _ => Int32.ofInt 0))])) H := hq
  refine cr_putFzz (ci := 0) (C := RX0) (T := TX0) (N := 3) hx hb hts (bc_cl_ok 0 _ rfl).1 tyX0 tyX0_ok nmX0 hown hK hq hS rfl 0 (by decide) (hts (.fieldLink RX0 9 RX0 "number" "[I") (bc_wat_ok (pos := 323) sorry)) (fun _ h9 => h9) rfl hin rfl (ty := .array .int) (by decide +kernel) rfl rfl (Nat.le_of_ble_eq_true rfl) dX0_9zz (fun H locs hq hS => ?_)
  have hq : cqz_zz D q (.inr (0, [.ref (q + 1), .null, .int (Int32.ofInt 0)]) :: ([] ++ [.inl (cA 0, 8, .inl (fun _ => Int32.ofInt 0))])) H := hq
  refine lv_aload_n hx hb dX0_12zz rfl (lv_at hl 0 rfl) ?_
  refine lv_bipush (v := Int32.ofInt 8) hx hb dX0_13zz (by decide) ?_
  refine cr_newazz (atype := .int) (cI := cA 0) (n := Int32.ofInt 8) (N' := 8) (a0 := (8, .inl (fun _ => Int32.ofInt 0))) (k9 := 2) rfl hx hb (hts (.arrayClass .int) (bc_wat_ok (pos := 183) sorry)) (hK.1.2 0 _ rfl).2 hq hS rfl (by decide) (by decide) (Nat.le_of_ble_eq_true rfl) (Nat.le_of_ble_eq_true rfl) (Nat.le_of_ble_eq_true rfl) dX0_15zz (fun H hq hS => ?_)
  have hq : cqz_zz D q (.inr (0, [.ref (q + 1), .null, .int (Int32.ofInt 0)]) :: ([] ++ [.inl (cA 0, 8, .inl (fun _ => Int32.ofInt 0))] ++ [.inl (cA 0, 8, .inl (fun _ => Int32.ofInt 0))])) H := hq
  refine cr_putFzz (ci := 0) (C := RX0) (T := TX0) (N := 3) hx hb hts (bc_cl_ok 0 _ rfl).1 tyX0 tyX0_ok nmX0 hown hK hq hS rfl 1 (by decide) (hts (.fieldLink RX0 15 RX0 "lowest" "[I") (bc_wat_ok (pos := 324) sorry)) (fun _ h9 => h9) rfl hin rfl (ty := .array .int) (by decide +kernel) rfl rfl (Nat.le_of_ble_eq_true rfl) dX0_17zz (fun H locs hq hS => ?_)
  have hq : cqz_zz D q (.inr (0, [.ref (q + 1), .ref (q + 2), .int (Int32.ofInt 0)]) :: ([] ++ [.inl (cA 0, 8, .inl (fun _ => Int32.ofInt 0))] ++ [.inl (cA 0, 8, .inl (fun _ => Int32.ofInt 0))])) H := hq
  refine lv_aload_n hx hb dX0_20zz rfl (lv_at hl 0 rfl) ?_
  refine lv_iconst (v := Int32.ofInt 0) hx hb dX0_21zz (by decide) ?_
  refine cr_putzz (ci := 0) (C := RX0) (T := TX0) (N := 3) hx hb hts (bc_cl_ok 0 _ rfl).1 tyX0 tyX0_ok nmX0 hown hK hq hS rfl 2 (by decide) (hts (.fieldLink RX0 18 RX0 "numbered" "I") (bc_wat_ok (pos := 325) sorry)) (fun _ h9 => h9) rfl (ty := .int) (by decide +kernel) rfl rfl (Nat.le_of_ble_eq_true rfl) dX0_22zz (fun H locs hq hS => ?_)
  have hq : cqz_zz D q (.inr (0, [.ref (q + 1), .ref (q + 2), .int (Int32.ofInt 0)]) :: ([] ++ [.inl (cA 0, 8, .inl (fun _ => Int32.ofInt 0))] ++ [.inl (cA 0, 8, .inl (fun _ => Int32.ofInt 0))])) H := hq
  refine W.widen (k := 2) (n := 16) (Nat.le_of_ble_eq_true rfl) (Nat.le_of_ble_eq_true rfl) ?_
  exact W.vret hx hb hr (fun t ht hW => ⟨⟨(), rfl, trivial, by show cqz_zz D q (E0_zz cA q) t.heap; rw [ht]; exact hq⟩, hS.F ht⟩) hS.2.2 dX0_25zz
theorem zX9_inzz : ∀ pc, 54 ≤ pc → pX9_init pc = none := fun _ h => by unfold pX9_init; exact bc_cut_none h
theorem dX9_0zz : decode cX9_init 0 = .ok (.aload_n 0, 1) := ((bc_dec_ok kX9_init zX9_inzz) 0 _ _ _ rfl).1
theorem dX9_1zz : decode cX9_init 1 = .ok (.invokespecial 3, 3) := ((bc_dec_ok kX9_init zX9_inzz) 1 _ _ _ rfl).1
theorem dX9_4zz : decode cX9_init 4 = .ok (.aload_n 0, 1) := ((bc_dec_ok kX9_init zX9_inzz) 4 _ _ _ rfl).1
theorem dX9_5zz : decode cX9_init 5 = .ok (.bipush 8, 2) := ((bc_dec_ok kX9_init zX9_inzz) 5 _ _ _ rfl).1
theorem dX9_7zz : decode cX9_init 7 = .ok (.bipush 8, 2) := ((bc_dec_ok kX9_init zX9_inzz) 7 _ _ _ rfl).1
theorem dX9_9zz : decode cX9_init 9 = .ok (.multianewarray 9 2, 4) := ((bc_dec_ok kX9_init zX9_inzz) 9 _ _ _ rfl).1
theorem dX9_13zz : decode cX9_init 13 = .ok (.putfield 11, 3) := ((bc_dec_ok kX9_init zX9_inzz) 13 _ _ _ rfl).1
theorem dX9_16zz : decode cX9_init 16 = .ok (.aload_n 0, 1) := ((bc_dec_ok kX9_init zX9_inzz) 16 _ _ _ rfl).1
theorem dX9_17zz : decode cX9_init 17 = .ok (.bipush 8, 2) := ((bc_dec_ok kX9_init zX9_inzz) 17 _ _ _ rfl).1
theorem dX9_19zz : decode cX9_init 19 = .ok (.newarray .int, 2) := ((bc_dec_ok kX9_init zX9_inzz) 19 _ _ _ rfl).1
theorem dX9_21zz : decode cX9_init 21 = .ok (.putfield 16, 3) := ((bc_dec_ok kX9_init zX9_inzz) 21 _ _ _ rfl).1
theorem dX9_24zz : decode cX9_init 24 = .ok (.aload_n 0, 1) := ((bc_dec_ok kX9_init zX9_inzz) 24 _ _ _ rfl).1
theorem dX9_25zz : decode cX9_init 25 = .ok (.bipush 8, 2) := ((bc_dec_ok kX9_init zX9_inzz) 25 _ _ _ rfl).1
theorem dX9_27zz : decode cX9_init 27 = .ok (.newarray .boolean, 2) := ((bc_dec_ok kX9_init zX9_inzz) 27 _ _ _ rfl).1
theorem dX9_29zz : decode cX9_init 29 = .ok (.putfield 20, 3) := ((bc_dec_ok kX9_init zX9_inzz) 29 _ _ _ rfl).1
theorem dX9_32zz : decode cX9_init 32 = .ok (.aload_n 0, 1) := ((bc_dec_ok kX9_init zX9_inzz) 32 _ _ _ rfl).1
theorem dX9_33zz : decode cX9_init 33 = .ok (.bipush 8, 2) := ((bc_dec_ok kX9_init zX9_inzz) 33 _ _ _ rfl).1
theorem dX9_35zz : decode cX9_init 35 = .ok (.newarray .int, 2) := ((bc_dec_ok kX9_init zX9_inzz) 35 _ _ _ rfl).1
theorem dX9_37zz : decode cX9_init 37 = .ok (.putfield 24, 3) := ((bc_dec_ok kX9_init zX9_inzz) 37 _ _ _ rfl).1
theorem dX9_40zz : decode cX9_init 40 = .ok (.aload_n 0, 1) := ((bc_dec_ok kX9_init zX9_inzz) 40 _ _ _ rfl).1
theorem dX9_41zz : decode cX9_init 41 = .ok (.bipush 8, 2) := ((bc_dec_ok kX9_init zX9_inzz) 41 _ _ _ rfl).1
theorem dX9_43zz : decode cX9_init 43 = .ok (.newarray .int, 2) := ((bc_dec_ok kX9_init zX9_inzz) 43 _ _ _ rfl).1
theorem dX9_45zz : decode cX9_init 45 = .ok (.putfield 27, 3) := ((bc_dec_ok kX9_init zX9_inzz) 45 _ _ _ rfl).1
theorem dX9_48zz : decode cX9_init 48 = .ok (.aload_n 0, 1) := ((bc_dec_ok kX9_init zX9_inzz) 48 _ _ _ rfl).1
theorem dX9_49zz : decode cX9_init 49 = .ok (.iconst 0, 1) := ((bc_dec_ok kX9_init zX9_inzz) 49 _ _ _ rfl).1
theorem dX9_50zz : decode cX9_init 50 = .ok (.putfield 30, 3) := ((bc_dec_ok kX9_init zX9_inzz) 50 _ _ _ rfl).1
theorem dX9_53zz : decode cX9_init 53 = .ok (.return_, 1) := ((bc_dec_ok kX9_init zX9_inzz) 53 _ _ _ rfl).1
noncomputable def E9_zz (cA : Nat → ClassId) (q : Nat) : List va_E := .inr (9, [.ref (q + 1), .ref (q + 10), .ref (q + 11), .ref (q + 12), .ref (q + 13), .int (Int32.ofInt 0)]) :: ([] ++ (cg_ozz (cA 5) 8 (q + 1) :: List.replicate 8 (cg_rzz (cA 0) 8)) ++ [.inl (cA 0, 8, .inl (fun _ => Int32.ofInt 0))] ++ [.inl (cA 2, 8, .inl (fun _ => Int32.ofInt 0))] ++ [.inl (cA 0, 8, .inl (fun _ => Int32.ofInt 0))] ++ [.inl (cA 0, 8, .inl (fun _ => Int32.ofInt 0))])
theorem E9_lenzz (cA : Nat → ClassId) (q : Nat) : (E9_zz cA q).length = 14 := by simp [E9_zz]
set_option maxHeartbeats 4000000 in
set_option maxRecDepth 100000 in
theorem ctX9zz (l : Launch) (D : va_G) (cA : Nat → ClassId) : ctc_zz l D cA mX9_init { frames := 2, cells := 13, slots := 104, locals := 20 } (.inr (9, [.null, .null, .null, .null, .null, .int (Int32.ofInt 0)])) (fun q => E9_zz cA q) 13 104 := by
  intro q
  refine Met.ofW (cc := cX9_init) (maxL := 1) (ret := none) (by decide) rfl ?_
  intro p e s m args below meth c s₁ B hml hv
  obtain ⟨rfl, hq, hK⟩ := hv
  have hx := B.exec
  have hb := B.bytes
  have hr := B.returns
  have hts0 := atoms_spec (ws := ctW_zz mX9_init) B.pre
  have hts : ∀ w ∈ bc_W, w.before [Value.ref q].toArray s = true := fun w hw => hts0 w (List.mem_cons_of_mem _ hw)
  have hown : s.vm.findClass RX9 = some m.cls := findClass_of_methodNamed B.named
  have hlocks := B.notSynchronized
  have hin : meth.name = "<init>" := (name_of_methodNamed B.named B.method).1
  have hS : va_S (fun a => q ≤ a) s.heap s.heap [] := va_S.rf
  have hl := lv_entry ([.ref q]) (n := 1) (Nat.le_of_ble_eq_true rfl)
  rw [lg_entry_eq]
  generalize (lg_sl ([.ref q]) ++ List.replicate (1 - (lg_sl ([.ref q])).length) Slot.unset).toArray = ls at hl ⊢
  have hl : lv_has ls 1 [(0, .ref q)] := hl
  have hq : cqz_zz D q (.inr (9, [.null, .null, .null, .null, .null, .int (Int32.ofInt 0)]) :: []) s.heap := hq
  refine lv_aload_n hx hb dX9_0zz rfl (lv_at hl 0 rfl) ?_
  refine W.objInit hx hb hown (hts (.methodLink RX9 3 objectInit) (bc_wat_ok (pos := 292) sorry)) (hts (.instanceMethod objectInit) (bc_wat_ok (pos := 132) sorry)) (hts _ (bc_wat_ok (pos := 133) sorry)) rfl (by rw [hml]; exact hl.1) rfl dX9_1zz (Nat.le_of_ble_eq_true rfl) (Nat.le_of_ble_eq_true rfl) ?_
  refine W.eq (g2 := F0 m 4 ls []) rfl ?_
  refine lv_aload_n hx hb dX9_4zz rfl (lv_at hl 0 rfl) ?_
  refine lv_bipush (v := Int32.ofInt 8) hx hb dX9_5zz (by decide) ?_
  refine lv_bipush (v := Int32.ofInt 8) hx hb dX9_7zz (by decide) ?_
  refine cr_multizz (N := 8) (M := 8) (k9 := 1) rfl hx hb hown (hts (.classLink RX9 9 "[[I") (bc_wat_ok (pos := 293) sorry)) hK hq hS (by decide) (by decide) (by decide) (by decide) (by decide) (Nat.le_of_ble_eq_true rfl) (Nat.le_of_ble_eq_true rfl) (Nat.le_of_ble_eq_true rfl) (Nat.le_of_ble_eq_true rfl) dX9_9zz (fun H locs hq hS => ?_)
  have hq : cqz_zz D q (.inr (9, [.null, .null, .null, .null, .null, .int (Int32.ofInt 0)]) :: ([] ++ (cg_ozz (cA 5) 8 (q + 1) :: List.replicate 8 (cg_rzz (cA 0) 8)))) H := hq
  refine cr_putFzz (ci := 9) (C := RX9) (T := TX9) (N := 6) hx hb hts (bc_cl_ok 9 _ rfl).1 tyX9 tyX9_ok nmX9 hown hK hq hS rfl 0 (by decide) (hts (.fieldLink RX9 11 RX9 "bearing" "[[I") (bc_wat_ok (pos := 295) sorry)) (fun _ h9 => h9) rfl hin rfl (ty := .array (.array .int)) (by decide +kernel) rfl rfl (Nat.le_of_ble_eq_true rfl) dX9_13zz (fun H locs hq hS => ?_)
  have hq : cqz_zz D q (.inr (9, [.ref (q + 1), .null, .null, .null, .null, .int (Int32.ofInt 0)]) :: ([] ++ (cg_ozz (cA 5) 8 (q + 1) :: List.replicate 8 (cg_rzz (cA 0) 8)))) H := hq
  refine lv_aload_n hx hb dX9_16zz rfl (lv_at hl 0 rfl) ?_
  refine lv_bipush (v := Int32.ofInt 8) hx hb dX9_17zz (by decide) ?_
  refine cr_newazz (atype := .int) (cI := cA 0) (n := Int32.ofInt 8) (N' := 8) (a0 := (8, .inl (fun _ => Int32.ofInt 0))) (k9 := 10) rfl hx hb (hts (.arrayClass .int) (bc_wat_ok (pos := 183) sorry)) (hK.1.2 0 _ rfl).2 hq hS rfl (by decide) (by decide) (Nat.le_of_ble_eq_true rfl) (Nat.le_of_ble_eq_true rfl) (Nat.le_of_ble_eq_true rfl) dX9_19zz (fun H hq hS => ?_)
  have hq : cqz_zz D q (.inr (9, [.ref (q + 1), .null, .null, .null, .null, .int (Int32.ofInt 0)]) :: ([] ++ (cg_ozz (cA 5) 8 (q + 1) :: List.replicate 8 (cg_rzz (cA 0) 8)) ++ [.inl (cA 0, 8, .inl (fun _ => Int32.ofInt 0))])) H := hq
  refine cr_putFzz (ci := 9) (C := RX9) (T := TX9) (N := 6) hx hb hts (bc_cl_ok 9 _ rfl).1 tyX9 tyX9_ok nmX9 hown hK hq hS rfl 1 (by decide) (hts (.fieldLink RX9 16 RX9 "width" "[I") (bc_wat_ok (pos := 297) sorry)) (fun _ h9 => h9) rfl hin rfl (ty := .array .int) (by decide +kernel) rfl rfl (Nat.le_of_ble_eq_true rfl) dX9_21zz (fun H locs hq hS => ?_)
  have hq : cqz_zz D q (.inr (9, [.ref (q + 1), .ref (q + 10), .null, .null, .null, .int (Int32.ofInt 0)]) :: ([] ++ (cg_ozz (cA 5) 8 (q + 1) :: List.replicate 8 (cg_rzz (cA 0) 8)) ++ [.inl (cA 0, 8, .inl (fun _ => Int32.ofInt 0))])) H := hq
  refine lv_aload_n hx hb dX9_24zz rfl (lv_at hl 0 rfl) ?_
  refine lv_bipush (v := Int32.ofInt 8) hx hb dX9_25zz (by decide) ?_
  refine cr_newazz (atype := .boolean) (cI := cA 2) (n := Int32.ofInt 8) (N' := 8) (a0 := (8, .inl (fun _ => Int32.ofInt 0))) (k9 := 11) rfl hx hb (hts (.arrayClass .boolean) (bc_wat_ok (pos := 184) sorry)) (hK.1.2 2 _ rfl).2 hq hS rfl (by decide) (by decide) (Nat.le_of_ble_eq_true rfl) (Nat.le_of_ble_eq_true rfl) (Nat.le_of_ble_eq_true rfl) dX9_27zz (fun H hq hS => ?_)
  have hq : cqz_zz D q (.inr (9, [.ref (q + 1), .ref (q + 10), .null, .null, .null, .int (Int32.ofInt 0)]) :: ([] ++ (cg_ozz (cA 5) 8 (q + 1) :: List.replicate 8 (cg_rzz (cA 0) 8)) ++ [.inl (cA 0, 8, .inl (fun _ => Int32.ofInt 0))] ++ [.inl (cA 2, 8, .inl (fun _ => Int32.ofInt 0))])) H := hq
  refine cr_putFzz (ci := 9) (C := RX9) (T := TX9) (N := 6) hx hb hts (bc_cl_ok 9 _ rfl).1 tyX9 tyX9_ok nmX9 hown hK hq hS rfl 2 (by decide) (hts (.fieldLink RX9 20 RX9 "grown" "[Z") (bc_wat_ok (pos := 298) sorry)) (fun _ h9 => h9) rfl hin rfl (ty := .array .boolean) (by decide +kernel) rfl rfl (Nat.le_of_ble_eq_true rfl) dX9_29zz (fun H locs hq hS => ?_)
  have hq : cqz_zz D q (.inr (9, [.ref (q + 1), .ref (q + 10), .ref (q + 11), .null, .null, .int (Int32.ofInt 0)]) :: ([] ++ (cg_ozz (cA 5) 8 (q + 1) :: List.replicate 8 (cg_rzz (cA 0) 8)) ++ [.inl (cA 0, 8, .inl (fun _ => Int32.ofInt 0))] ++ [.inl (cA 2, 8, .inl (fun _ => Int32.ofInt 0))])) H := hq
  refine lv_aload_n hx hb dX9_32zz rfl (lv_at hl 0 rfl) ?_
  refine lv_bipush (v := Int32.ofInt 8) hx hb dX9_33zz (by decide) ?_
  refine cr_newazz (atype := .int) (cI := cA 0) (n := Int32.ofInt 8) (N' := 8) (a0 := (8, .inl (fun _ => Int32.ofInt 0))) (k9 := 12) rfl hx hb (hts (.arrayClass .int) (bc_wat_ok (pos := 183) sorry)) (hK.1.2 0 _ rfl).2 hq hS rfl (by decide) (by decide) (Nat.le_of_ble_eq_true rfl) (Nat.le_of_ble_eq_true rfl) (Nat.le_of_ble_eq_true rfl) dX9_35zz (fun H hq hS => ?_)
  have hq : cqz_zz D q (.inr (9, [.ref (q + 1), .ref (q + 10), .ref (q + 11), .null, .null, .int (Int32.ofInt 0)]) :: ([] ++ (cg_ozz (cA 5) 8 (q + 1) :: List.replicate 8 (cg_rzz (cA 0) 8)) ++ [.inl (cA 0, 8, .inl (fun _ => Int32.ofInt 0))] ++ [.inl (cA 2, 8, .inl (fun _ => Int32.ofInt 0))] ++ [.inl (cA 0, 8, .inl (fun _ => Int32.ofInt 0))])) H := hq
  refine cr_putFzz (ci := 9) (C := RX9) (T := TX9) (N := 6) hx hb hts (bc_cl_ok 9 _ rfl).1 tyX9 tyX9_ok nmX9 hown hK hq hS rfl 3 (by decide) (hts (.fieldLink RX9 24 RX9 "distance" "[I") (bc_wat_ok (pos := 299) sorry)) (fun _ h9 => h9) rfl hin rfl (ty := .array .int) (by decide +kernel) rfl rfl (Nat.le_of_ble_eq_true rfl) dX9_37zz (fun H locs hq hS => ?_)
  have hq : cqz_zz D q (.inr (9, [.ref (q + 1), .ref (q + 10), .ref (q + 11), .ref (q + 12), .null, .int (Int32.ofInt 0)]) :: ([] ++ (cg_ozz (cA 5) 8 (q + 1) :: List.replicate 8 (cg_rzz (cA 0) 8)) ++ [.inl (cA 0, 8, .inl (fun _ => Int32.ofInt 0))] ++ [.inl (cA 2, 8, .inl (fun _ => Int32.ofInt 0))] ++ [.inl (cA 0, 8, .inl (fun _ => Int32.ofInt 0))])) H := hq
  refine lv_aload_n hx hb dX9_40zz rfl (lv_at hl 0 rfl) ?_
  refine lv_bipush (v := Int32.ofInt 8) hx hb dX9_41zz (by decide) ?_
  refine cr_newazz (atype := .int) (cI := cA 0) (n := Int32.ofInt 8) (N' := 8) (a0 := (8, .inl (fun _ => Int32.ofInt 0))) (k9 := 13) rfl hx hb (hts (.arrayClass .int) (bc_wat_ok (pos := 183) sorry)) (hK.1.2 0 _ rfl).2 hq hS rfl (by decide) (by decide) (Nat.le_of_ble_eq_true rfl) (Nat.le_of_ble_eq_true rfl) (Nat.le_of_ble_eq_true rfl) dX9_43zz (fun H hq hS => ?_)
  have hq : cqz_zz D q (.inr (9, [.ref (q + 1), .ref (q + 10), .ref (q + 11), .ref (q + 12), .null, .int (Int32.ofInt 0)]) :: ([] ++ (cg_ozz (cA 5) 8 (q + 1) :: List.replicate 8 (cg_rzz (cA 0) 8)) ++ [.inl (cA 0, 8, .inl (fun _ => Int32.ofInt 0))] ++ [.inl (cA 2, 8, .inl (fun _ => Int32.ofInt 0))] ++ [.inl (cA 0, 8, .inl (fun _ => Int32.ofInt 0))] ++ [.inl (cA 0, 8, .inl (fun _ => Int32.ofInt 0))])) H := hq
  refine cr_putFzz (ci := 9) (C := RX9) (T := TX9) (N := 6) hx hb hts (bc_cl_ok 9 _ rfl).1 tyX9 tyX9_ok nmX9 hown hK hq hS rfl 4 (by decide) (hts (.fieldLink RX9 27 RX9 "joints" "[I") (bc_wat_ok (pos := 300) sorry)) (fun _ h9 => h9) rfl hin rfl (ty := .array .int) (by decide +kernel) rfl rfl (Nat.le_of_ble_eq_true rfl) dX9_45zz (fun H locs hq hS => ?_)
  have hq : cqz_zz D q (.inr (9, [.ref (q + 1), .ref (q + 10), .ref (q + 11), .ref (q + 12), .ref (q + 13), .int (Int32.ofInt 0)]) :: ([] ++ (cg_ozz (cA 5) 8 (q + 1) :: List.replicate 8 (cg_rzz (cA 0) 8)) ++ [.inl (cA 0, 8, .inl (fun _ => Int32.ofInt 0))] ++ [.inl (cA 2, 8, .inl (fun _ => Int32.ofInt 0))] ++ [.inl (cA 0, 8, .inl (fun _ => Int32.ofInt 0))] ++ [.inl (cA 0, 8, .inl (fun _ => Int32.ofInt 0))])) H := hq
  refine lv_aload_n hx hb dX9_48zz rfl (lv_at hl 0 rfl) ?_
  refine lv_iconst (v := Int32.ofInt 0) hx hb dX9_49zz (by decide) ?_
  refine cr_putzz (ci := 9) (C := RX9) (T := TX9) (N := 6) hx hb hts (bc_cl_ok 9 _ rfl).1 tyX9 tyX9_ok nmX9 hown hK hq hS rfl 5 (by decide) (hts (.fieldLink RX9 30 RX9 "length" "I") (bc_wat_ok (pos := 302) sorry)) (fun _ h9 => h9) rfl (ty := .int) (by decide +kernel) rfl rfl (Nat.le_of_ble_eq_true rfl) dX9_50zz (fun H locs hq hS => ?_)
  have hq : cqz_zz D q (.inr (9, [.ref (q + 1), .ref (q + 10), .ref (q + 11), .ref (q + 12), .ref (q + 13), .int (Int32.ofInt 0)]) :: ([] ++ (cg_ozz (cA 5) 8 (q + 1) :: List.replicate 8 (cg_rzz (cA 0) 8)) ++ [.inl (cA 0, 8, .inl (fun _ => Int32.ofInt 0))] ++ [.inl (cA 2, 8, .inl (fun _ => Int32.ofInt 0))] ++ [.inl (cA 0, 8, .inl (fun _ => Int32.ofInt 0))] ++ [.inl (cA 0, 8, .inl (fun _ => Int32.ofInt 0))])) H := hq
  refine W.widen (k := 13) (n := 104) (Nat.le_of_ble_eq_true rfl) (Nat.le_of_ble_eq_true rfl) ?_
  exact W.vret hx hb hr (fun t ht hW => ⟨⟨(), rfl, trivial, by show cqz_zz D q (E9_zz cA q) t.heap; rw [ht]; exact hq⟩, hS.F ht⟩) hS.2.2 dX9_53zz
theorem zX4_inzz : ∀ pc, 45 ≤ pc → pX4_init pc = none := fun _ h => by unfold pX4_init; exact bc_cut_none h
theorem dX4_0zz : decode cX4_init 0 = .ok (.aload_n 0, 1) := ((bc_dec_ok kX4_init zX4_inzz) 0 _ _ _ rfl).1
theorem dX4_1zz : decode cX4_init 1 = .ok (.invokespecial 3, 3) := ((bc_dec_ok kX4_init zX4_inzz) 1 _ _ _ rfl).1
theorem dX4_4zz : decode cX4_init 4 = .ok (.aload_n 0, 1) := ((bc_dec_ok kX4_init zX4_inzz) 4 _ _ _ rfl).1
theorem dX4_5zz : decode cX4_init 5 = .ok (.bipush 8, 2) := ((bc_dec_ok kX4_init zX4_inzz) 5 _ _ _ rfl).1
theorem dX4_7zz : decode cX4_init 7 = .ok (.bipush 8, 2) := ((bc_dec_ok kX4_init zX4_inzz) 7 _ _ _ rfl).1
theorem dX4_9zz : decode cX4_init 9 = .ok (.multianewarray 9 2, 4) := ((bc_dec_ok kX4_init zX4_inzz) 9 _ _ _ rfl).1
theorem dX4_13zz : decode cX4_init 13 = .ok (.putfield 11, 3) := ((bc_dec_ok kX4_init zX4_inzz) 13 _ _ _ rfl).1
theorem dX4_16zz : decode cX4_init 16 = .ok (.aload_n 0, 1) := ((bc_dec_ok kX4_init zX4_inzz) 16 _ _ _ rfl).1
theorem dX4_17zz : decode cX4_init 17 = .ok (.bipush 8, 2) := ((bc_dec_ok kX4_init zX4_inzz) 17 _ _ _ rfl).1
theorem dX4_19zz : decode cX4_init 19 = .ok (.newarray .int, 2) := ((bc_dec_ok kX4_init zX4_inzz) 19 _ _ _ rfl).1
theorem dX4_21zz : decode cX4_init 21 = .ok (.putfield 16, 3) := ((bc_dec_ok kX4_init zX4_inzz) 21 _ _ _ rfl).1
theorem dX4_24zz : decode cX4_init 24 = .ok (.aload_n 0, 1) := ((bc_dec_ok kX4_init zX4_inzz) 24 _ _ _ rfl).1
theorem dX4_25zz : decode cX4_init 25 = .ok (.bipush 8, 2) := ((bc_dec_ok kX4_init zX4_inzz) 25 _ _ _ rfl).1
theorem dX4_27zz : decode cX4_init 27 = .ok (.newarray .boolean, 2) := ((bc_dec_ok kX4_init zX4_inzz) 27 _ _ _ rfl).1
theorem dX4_29zz : decode cX4_init 29 = .ok (.putfield 20, 3) := ((bc_dec_ok kX4_init zX4_inzz) 29 _ _ _ rfl).1
theorem dX4_32zz : decode cX4_init 32 = .ok (.aload_n 0, 1) := ((bc_dec_ok kX4_init zX4_inzz) 32 _ _ _ rfl).1
theorem dX4_33zz : decode cX4_init 33 = .ok (.bipush 8, 2) := ((bc_dec_ok kX4_init zX4_inzz) 33 _ _ _ rfl).1
theorem dX4_35zz : decode cX4_init 35 = .ok (.bipush 8, 2) := ((bc_dec_ok kX4_init zX4_inzz) 35 _ _ _ rfl).1
theorem dX4_37zz : decode cX4_init 37 = .ok (.multianewarray 9 2, 4) := ((bc_dec_ok kX4_init zX4_inzz) 37 _ _ _ rfl).1
theorem dX4_41zz : decode cX4_init 41 = .ok (.putfield 24, 3) := ((bc_dec_ok kX4_init zX4_inzz) 41 _ _ _ rfl).1
theorem dX4_44zz : decode cX4_init 44 = .ok (.return_, 1) := ((bc_dec_ok kX4_init zX4_inzz) 44 _ _ _ rfl).1
noncomputable def E4_zz (cA : Nat → ClassId) (q : Nat) : List va_E := .inr (4, [.ref (q + 1), .ref (q + 10), .ref (q + 11), .ref (q + 12)]) :: ([] ++ (cg_ozz (cA 5) 8 (q + 1) :: List.replicate 8 (cg_rzz (cA 0) 8)) ++ [.inl (cA 0, 8, .inl (fun _ => Int32.ofInt 0))] ++ [.inl (cA 2, 8, .inl (fun _ => Int32.ofInt 0))] ++ (cg_ozz (cA 5) 8 (q + 12) :: List.replicate 8 (cg_rzz (cA 0) 8)))
theorem E4_lenzz (cA : Nat → ClassId) (q : Nat) : (E4_zz cA q).length = 21 := by simp [E4_zz]
set_option maxHeartbeats 4000000 in
set_option maxRecDepth 100000 in
theorem ctX4zz (l : Launch) (D : va_G) (cA : Nat → ClassId) : ctc_zz l D cA mX4_init { frames := 2, cells := 20, slots := 160, locals := 20 } (.inr (4, [.null, .null, .null, .null])) (fun q => E4_zz cA q) 20 160 := by
  intro q
  refine Met.ofW (cc := cX4_init) (maxL := 1) (ret := none) (by decide) rfl ?_
  intro p e s m args below meth c s₁ B hml hv
  obtain ⟨rfl, hq, hK⟩ := hv
  have hx := B.exec
  have hb := B.bytes
  have hr := B.returns
  have hts0 := atoms_spec (ws := ctW_zz mX4_init) B.pre
  have hts : ∀ w ∈ bc_W, w.before [Value.ref q].toArray s = true := fun w hw => hts0 w (List.mem_cons_of_mem _ hw)
  have hown : s.vm.findClass RX4 = some m.cls := findClass_of_methodNamed B.named
  have hlocks := B.notSynchronized
  have hin : meth.name = "<init>" := (name_of_methodNamed B.named B.method).1
  have hS : va_S (fun a => q ≤ a) s.heap s.heap [] := va_S.rf
  have hl := lv_entry ([.ref q]) (n := 1) (Nat.le_of_ble_eq_true rfl)
  rw [lg_entry_eq]
  generalize (lg_sl ([.ref q]) ++ List.replicate (1 - (lg_sl ([.ref q])).length) Slot.unset).toArray = ls at hl ⊢
  have hl : lv_has ls 1 [(0, .ref q)] := hl
  have hq : cqz_zz D q (.inr (4, [.null, .null, .null, .null]) :: []) s.heap := hq
  refine lv_aload_n hx hb dX4_0zz rfl (lv_at hl 0 rfl) ?_
  refine W.objInit hx hb hown (hts (.methodLink RX4 3 objectInit) (bc_wat_ok (pos := 338) sorry)) (hts (.instanceMethod objectInit) (bc_wat_ok (pos := 132) sorry)) (hts _ (bc_wat_ok (pos := 133) sorry)) rfl (by rw [hml]; exact hl.1) rfl dX4_1zz (Nat.le_of_ble_eq_true rfl) (Nat.le_of_ble_eq_true rfl) ?_
  refine W.eq (g2 := F0 m 4 ls []) rfl ?_
  refine lv_aload_n hx hb dX4_4zz rfl (lv_at hl 0 rfl) ?_
  refine lv_bipush (v := Int32.ofInt 8) hx hb dX4_5zz (by decide) ?_
  refine lv_bipush (v := Int32.ofInt 8) hx hb dX4_7zz (by decide) ?_
  refine cr_multizz (N := 8) (M := 8) (k9 := 1) rfl hx hb hown (hts (.classLink RX4 9 "[[I") (bc_wat_ok (pos := 339) sorry)) hK hq hS (by decide) (by decide) (by decide) (by decide) (by decide) (Nat.le_of_ble_eq_true rfl) (Nat.le_of_ble_eq_true rfl) (Nat.le_of_ble_eq_true rfl) (Nat.le_of_ble_eq_true rfl) dX4_9zz (fun H locs hq hS => ?_)
  have hq : cqz_zz D q (.inr (4, [.null, .null, .null, .null]) :: ([] ++ (cg_ozz (cA 5) 8 (q + 1) :: List.replicate 8 (cg_rzz (cA 0) 8)))) H := hq
  refine cr_putFzz (ci := 4) (C := RX4) (T := TX4) (N := 4) hx hb hts (bc_cl_ok 4 _ rfl).1 tyX4 tyX4_ok nmX4 hown hK hq hS rfl 0 (by decide) (hts (.fieldLink RX4 11 RX4 "price" "[[I") (bc_wat_ok (pos := 340) sorry)) (fun _ h9 => h9) rfl hin rfl (ty := .array (.array .int)) (by decide +kernel) rfl rfl (Nat.le_of_ble_eq_true rfl) dX4_13zz (fun H locs hq hS => ?_)
  have hq : cqz_zz D q (.inr (4, [.ref (q + 1), .null, .null, .null]) :: ([] ++ (cg_ozz (cA 5) 8 (q + 1) :: List.replicate 8 (cg_rzz (cA 0) 8)))) H := hq
  refine lv_aload_n hx hb dX4_16zz rfl (lv_at hl 0 rfl) ?_
  refine lv_bipush (v := Int32.ofInt 8) hx hb dX4_17zz (by decide) ?_
  refine cr_newazz (atype := .int) (cI := cA 0) (n := Int32.ofInt 8) (N' := 8) (a0 := (8, .inl (fun _ => Int32.ofInt 0))) (k9 := 10) rfl hx hb (hts (.arrayClass .int) (bc_wat_ok (pos := 183) sorry)) (hK.1.2 0 _ rfl).2 hq hS rfl (by decide) (by decide) (Nat.le_of_ble_eq_true rfl) (Nat.le_of_ble_eq_true rfl) (Nat.le_of_ble_eq_true rfl) dX4_19zz (fun H hq hS => ?_)
  have hq : cqz_zz D q (.inr (4, [.ref (q + 1), .null, .null, .null]) :: ([] ++ (cg_ozz (cA 5) 8 (q + 1) :: List.replicate 8 (cg_rzz (cA 0) 8)) ++ [.inl (cA 0, 8, .inl (fun _ => Int32.ofInt 0))])) H := hq
  refine cr_putFzz (ci := 4) (C := RX4) (T := TX4) (N := 4) hx hb hts (bc_cl_ok 4 _ rfl).1 tyX4 tyX4_ok nmX4 hown hK hq hS rfl 1 (by decide) (hts (.fieldLink RX4 16 RX4 "cost" "[I") (bc_wat_ok (pos := 341) sorry)) (fun _ h9 => h9) rfl hin rfl (ty := .array .int) (by decide +kernel) rfl rfl (Nat.le_of_ble_eq_true rfl) dX4_21zz (fun H locs hq hS => ?_)
  have hq : cqz_zz D q (.inr (4, [.ref (q + 1), .ref (q + 10), .null, .null]) :: ([] ++ (cg_ozz (cA 5) 8 (q + 1) :: List.replicate 8 (cg_rzz (cA 0) 8)) ++ [.inl (cA 0, 8, .inl (fun _ => Int32.ofInt 0))])) H := hq
  refine lv_aload_n hx hb dX4_24zz rfl (lv_at hl 0 rfl) ?_
  refine lv_bipush (v := Int32.ofInt 8) hx hb dX4_25zz (by decide) ?_
  refine cr_newazz (atype := .boolean) (cI := cA 2) (n := Int32.ofInt 8) (N' := 8) (a0 := (8, .inl (fun _ => Int32.ofInt 0))) (k9 := 11) rfl hx hb (hts (.arrayClass .boolean) (bc_wat_ok (pos := 184) sorry)) (hK.1.2 2 _ rfl).2 hq hS rfl (by decide) (by decide) (Nat.le_of_ble_eq_true rfl) (Nat.le_of_ble_eq_true rfl) (Nat.le_of_ble_eq_true rfl) dX4_27zz (fun H hq hS => ?_)
  have hq : cqz_zz D q (.inr (4, [.ref (q + 1), .ref (q + 10), .null, .null]) :: ([] ++ (cg_ozz (cA 5) 8 (q + 1) :: List.replicate 8 (cg_rzz (cA 0) 8)) ++ [.inl (cA 0, 8, .inl (fun _ => Int32.ofInt 0))] ++ [.inl (cA 2, 8, .inl (fun _ => Int32.ofInt 0))])) H := hq
  refine cr_putFzz (ci := 4) (C := RX4) (T := TX4) (N := 4) hx hb hts (bc_cl_ok 4 _ rfl).1 tyX4 tyX4_ok nmX4 hown hK hq hS rfl 2 (by decide) (hts (.fieldLink RX4 20 RX4 "settled" "[Z") (bc_wat_ok (pos := 342) sorry)) (fun _ h9 => h9) rfl hin rfl (ty := .array .boolean) (by decide +kernel) rfl rfl (Nat.le_of_ble_eq_true rfl) dX4_29zz (fun H locs hq hS => ?_)
  have hq : cqz_zz D q (.inr (4, [.ref (q + 1), .ref (q + 10), .ref (q + 11), .null]) :: ([] ++ (cg_ozz (cA 5) 8 (q + 1) :: List.replicate 8 (cg_rzz (cA 0) 8)) ++ [.inl (cA 0, 8, .inl (fun _ => Int32.ofInt 0))] ++ [.inl (cA 2, 8, .inl (fun _ => Int32.ofInt 0))])) H := hq
  refine lv_aload_n hx hb dX4_32zz rfl (lv_at hl 0 rfl) ?_
  refine lv_bipush (v := Int32.ofInt 8) hx hb dX4_33zz (by decide) ?_
  refine lv_bipush (v := Int32.ofInt 8) hx hb dX4_35zz (by decide) ?_
  refine cr_multizz (N := 8) (M := 8) (k9 := 12) rfl hx hb hown (hts (.classLink RX4 9 "[[I") (bc_wat_ok (pos := 339) sorry)) hK hq hS (by decide) (by decide) (by decide) (by decide) (by decide) (Nat.le_of_ble_eq_true rfl) (Nat.le_of_ble_eq_true rfl) (Nat.le_of_ble_eq_true rfl) (Nat.le_of_ble_eq_true rfl) dX4_37zz (fun H locs hq hS => ?_)
  have hq : cqz_zz D q (.inr (4, [.ref (q + 1), .ref (q + 10), .ref (q + 11), .null]) :: ([] ++ (cg_ozz (cA 5) 8 (q + 1) :: List.replicate 8 (cg_rzz (cA 0) 8)) ++ [.inl (cA 0, 8, .inl (fun _ => Int32.ofInt 0))] ++ [.inl (cA 2, 8, .inl (fun _ => Int32.ofInt 0))] ++ (cg_ozz (cA 5) 8 (q + 12) :: List.replicate 8 (cg_rzz (cA 0) 8)))) H := hq
  refine cr_putFzz (ci := 4) (C := RX4) (T := TX4) (N := 4) hx hb hts (bc_cl_ok 4 _ rfl).1 tyX4 tyX4_ok nmX4 hown hK hq hS rfl 3 (by decide) (hts (.fieldLink RX4 24 RX4 "tableLoad" "[[I") (bc_wat_ok (pos := 343) sorry)) (fun _ h9 => h9) rfl hin rfl (ty := .array (.array .int)) (by decide +kernel) rfl rfl (Nat.le_of_ble_eq_true rfl) dX4_41zz (fun H locs hq hS => ?_)
  have hq : cqz_zz D q (.inr (4, [.ref (q + 1), .ref (q + 10), .ref (q + 11), .ref (q + 12)]) :: ([] ++ (cg_ozz (cA 5) 8 (q + 1) :: List.replicate 8 (cg_rzz (cA 0) 8)) ++ [.inl (cA 0, 8, .inl (fun _ => Int32.ofInt 0))] ++ [.inl (cA 2, 8, .inl (fun _ => Int32.ofInt 0))] ++ (cg_ozz (cA 5) 8 (q + 12) :: List.replicate 8 (cg_rzz (cA 0) 8)))) H := hq
  refine W.widen (k := 20) (n := 160) (Nat.le_of_ble_eq_true rfl) (Nat.le_of_ble_eq_true rfl) ?_
  exact W.vret hx hb hr (fun t ht hW => ⟨⟨(), rfl, trivial, by show cqz_zz D q (E4_zz cA q) t.heap; rw [ht]; exact hq⟩, hS.F ht⟩) hS.2.2 dX4_44zz
theorem zX5_inzz : ∀ pc, 45 ≤ pc → pX5_init pc = none := fun _ h => by unfold pX5_init; exact bc_cut_none h
theorem dX5_0zz : decode cX5_init 0 = .ok (.aload_n 0, 1) := ((bc_dec_ok kX5_init zX5_inzz) 0 _ _ _ rfl).1
theorem dX5_1zz : decode cX5_init 1 = .ok (.invokespecial 3, 3) := ((bc_dec_ok kX5_init zX5_inzz) 1 _ _ _ rfl).1
theorem dX5_4zz : decode cX5_init 4 = .ok (.aload_n 0, 1) := ((bc_dec_ok kX5_init zX5_inzz) 4 _ _ _ rfl).1
theorem dX5_5zz : decode cX5_init 5 = .ok (.new 9, 3) := ((bc_dec_ok kX5_init zX5_inzz) 5 _ _ _ rfl).1
theorem dX5_8zz : decode cX5_init 8 = .ok (.dup, 1) := ((bc_dec_ok kX5_init zX5_inzz) 8 _ _ _ rfl).1
theorem dX5_9zz : decode cX5_init 9 = .ok (.invokespecial 11, 3) := ((bc_dec_ok kX5_init zX5_inzz) 9 _ _ _ rfl).1
theorem dX5_12zz : decode cX5_init 12 = .ok (.putfield 12, 3) := ((bc_dec_ok kX5_init zX5_inzz) 12 _ _ _ rfl).1
theorem dX5_15zz : decode cX5_init 15 = .ok (.aload_n 0, 1) := ((bc_dec_ok kX5_init zX5_inzz) 15 _ _ _ rfl).1
theorem dX5_16zz : decode cX5_init 16 = .ok (.bipush 16, 2) := ((bc_dec_ok kX5_init zX5_inzz) 16 _ _ _ rfl).1
theorem dX5_18zz : decode cX5_init 18 = .ok (.newarray .int, 2) := ((bc_dec_ok kX5_init zX5_inzz) 18 _ _ _ rfl).1
theorem dX5_20zz : decode cX5_init 20 = .ok (.putfield 18, 3) := ((bc_dec_ok kX5_init zX5_inzz) 20 _ _ _ rfl).1
theorem dX5_23zz : decode cX5_init 23 = .ok (.aload_n 0, 1) := ((bc_dec_ok kX5_init zX5_inzz) 23 _ _ _ rfl).1
theorem dX5_24zz : decode cX5_init 24 = .ok (.bipush 16, 2) := ((bc_dec_ok kX5_init zX5_inzz) 24 _ _ _ rfl).1
theorem dX5_26zz : decode cX5_init 26 = .ok (.iconst 3, 1) := ((bc_dec_ok kX5_init zX5_inzz) 26 _ _ _ rfl).1
theorem dX5_27zz : decode cX5_init 27 = .ok (.multianewarray 22 2, 4) := ((bc_dec_ok kX5_init zX5_inzz) 27 _ _ _ rfl).1
theorem dX5_31zz : decode cX5_init 31 = .ok (.putfield 24, 3) := ((bc_dec_ok kX5_init zX5_inzz) 31 _ _ _ rfl).1
theorem dX5_34zz : decode cX5_init 34 = .ok (.aload_n 0, 1) := ((bc_dec_ok kX5_init zX5_inzz) 34 _ _ _ rfl).1
theorem dX5_35zz : decode cX5_init 35 = .ok (.iconst 0, 1) := ((bc_dec_ok kX5_init zX5_inzz) 35 _ _ _ rfl).1
theorem dX5_36zz : decode cX5_init 36 = .ok (.putfield 27, 3) := ((bc_dec_ok kX5_init zX5_inzz) 36 _ _ _ rfl).1
theorem dX5_39zz : decode cX5_init 39 = .ok (.aload_n 0, 1) := ((bc_dec_ok kX5_init zX5_inzz) 39 _ _ _ rfl).1
theorem dX5_40zz : decode cX5_init 40 = .ok (.iconst 0, 1) := ((bc_dec_ok kX5_init zX5_inzz) 40 _ _ _ rfl).1
theorem dX5_41zz : decode cX5_init 41 = .ok (.putfield 31, 3) := ((bc_dec_ok kX5_init zX5_inzz) 41 _ _ _ rfl).1
theorem dX5_44zz : decode cX5_init 44 = .ok (.return_, 1) := ((bc_dec_ok kX5_init zX5_inzz) 44 _ _ _ rfl).1
noncomputable def E5_zz (cA : Nat → ClassId) (q : Nat) : List va_E := .inr (5, [.ref (q + 1), .ref (q + 3), .ref (q + 4), .int (Int32.ofInt 0), .int (Int32.ofInt 0)]) :: ([] ++ E7_zz cA (q + 1) ++ [.inl (cA 0, 16, .inl (fun _ => Int32.ofInt 0))] ++ (cg_ozz (cA 5) 16 (q + 4) :: List.replicate 16 (cg_rzz (cA 0) 3)))
theorem E5_lenzz (cA : Nat → ClassId) (q : Nat) : (E5_zz cA q).length = 21 := by simp [E5_zz, E7_lenzz]
set_option maxHeartbeats 4000000 in
set_option maxRecDepth 100000 in
theorem ctX5zz (l : Launch) (D : va_G) (cA : Nat → ClassId) : ctc_zz l D cA mX5_init { frames := 4, cells := 20, slots := 142, locals := 60 } (.inr (5, [.null, .null, .null, .int (Int32.ofInt 0), .int (Int32.ofInt 0)])) (fun q => E5_zz cA q) 20 142 := by
  intro q
  refine Met.ofW (cc := cX5_init) (maxL := 1) (ret := none) (by decide) rfl ?_
  intro p e s m args below meth c s₁ B hml hv
  obtain ⟨rfl, hq, hK⟩ := hv
  have hx := B.exec
  have hb := B.bytes
  have hr := B.returns
  have hts0 := atoms_spec (ws := ctW_zz mX5_init) B.pre
  have hts : ∀ w ∈ bc_W, w.before [Value.ref q].toArray s = true := fun w hw => hts0 w (List.mem_cons_of_mem _ hw)
  have hown : s.vm.findClass RX5 = some m.cls := findClass_of_methodNamed B.named
  have hlocks := B.notSynchronized
  have hin : meth.name = "<init>" := (name_of_methodNamed B.named B.method).1
  have hS : va_S (fun a => q ≤ a) s.heap s.heap [] := va_S.rf
  have hl := lv_entry ([.ref q]) (n := 1) (Nat.le_of_ble_eq_true rfl)
  rw [lg_entry_eq]
  generalize (lg_sl ([.ref q]) ++ List.replicate (1 - (lg_sl ([.ref q])).length) Slot.unset).toArray = ls at hl ⊢
  have hl : lv_has ls 1 [(0, .ref q)] := hl
  have hq : cqz_zz D q (.inr (5, [.null, .null, .null, .int (Int32.ofInt 0), .int (Int32.ofInt 0)]) :: []) s.heap := hq
  refine lv_aload_n hx hb dX5_0zz rfl (lv_at hl 0 rfl) ?_
  refine W.objInit hx hb hown (hts (.methodLink RX5 3 objectInit) (bc_wat_ok (pos := 359) sorry)) (hts (.instanceMethod objectInit) (bc_wat_ok (pos := 132) sorry)) (hts _ (bc_wat_ok (pos := 133) sorry)) rfl (by rw [hml]; exact hl.1) rfl dX5_1zz (Nat.le_of_ble_eq_true rfl) (Nat.le_of_ble_eq_true rfl) ?_
  refine W.eq (g2 := F0 m 4 ls []) rfl ?_
  refine lv_aload_n hx hb dX5_4zz rfl (lv_at hl 0 rfl) ?_
  refine cr_newzz (ci := 7) (fs := [.null, .int (Int32.ofInt 0)]) (C := RX7) (T := TX7) (N := 2) (k9 := 1) rfl hx hb hts (bc_cl_ok 7 _ rfl).1 tyX7 tyX7_ok hown (hts (.classLink RX5 9 RX7) (bc_wat_ok (pos := 360) sorry)) (hts (.instantiable RX7 2) (bc_wat_ok (pos := 361) sorry)) (hts (.initialized RX7) (bc_wat_ok (pos := 106) sorry)) hK hq hS rfl (fun j hj => by rcases (show j = 0 ∨ j = 1 by omega) with rfl | rfl <;> rfl) (Nat.le_of_ble_eq_true rfl) (Nat.le_of_ble_eq_true rfl) dX5_5zz (fun H hq hS => ?_)
  refine lv_dup hx hb dX5_8zz rfl ?_
  refine cr_callNzz (host := "BridgeChapel") (Y := mX7_init) (rm := { frames := 2, cells := 1, slots := 60, locals := 20 }) (es := .inr (5, [.null, .null, .null, .int (Int32.ofInt 0), .int (Int32.ofInt 0)]) :: ([])) (k9 := 1) rfl hx hb hml hown hts (ctX7zz l D cA) (bc_mem_W (bc_tk2 (List.mem_of_getElem? (i := 29) rfl)) rfl) (bc_watN_ok (pos := 362) (by decide +kernel)) (bc_wat_ok (pos := 106) sorry) (bc_wat_ok (pos := 363) sorry) rfl (by decide +kernel) rfl rfl ⟨Nat.le_of_ble_eq_true rfl, Nat.le_of_ble_eq_true rfl⟩ hK hq hS hl.1 (Nat.le_of_ble_eq_true rfl) dX5_9zz ⟨Nat.le_of_ble_eq_true rfl, Nat.le_of_ble_eq_true rfl⟩ (fun H locs hq hS => ?_)
  have hq : cqz_zz D q (.inr (5, [.null, .null, .null, .int (Int32.ofInt 0), .int (Int32.ofInt 0)]) :: ([] ++ E7_zz cA (q + 1))) H := hq
  refine cr_putFzz (ci := 5) (C := RX5) (T := TX5) (N := 5) hx hb hts (bc_cl_ok 5 _ rfl).1 tyX5 tyX5_ok nmX5 hown hK hq hS rfl 0 (by decide) (hts (.fieldLink RX5 12 RX5 "text" "LBridgeChapel$Text;") (bc_wat_ok (pos := 377) sorry)) (fun _ h9 => h9) rfl hin rfl (ty := .object "BridgeChapel$Text") (by decide +kernel) rfl rfl (Nat.le_of_ble_eq_true rfl) dX5_12zz (fun H locs hq hS => ?_)
  have hq : cqz_zz D q (.inr (5, [.ref (q + 1), .null, .null, .int (Int32.ofInt 0), .int (Int32.ofInt 0)]) :: ([] ++ E7_zz cA (q + 1))) H := hq
  refine lv_aload_n hx hb dX5_15zz rfl (lv_at hl 0 rfl) ?_
  refine lv_bipush (v := Int32.ofInt 16) hx hb dX5_16zz (by decide) ?_
  refine cr_newazz (atype := .int) (cI := cA 0) (n := Int32.ofInt 16) (N' := 16) (a0 := (16, .inl (fun _ => Int32.ofInt 0))) (k9 := 3) (by simp [E7_lenzz]) hx hb (hts (.arrayClass .int) (bc_wat_ok (pos := 183) sorry)) (hK.1.2 0 _ rfl).2 hq hS rfl (by decide) (by decide) (Nat.le_of_ble_eq_true rfl) (Nat.le_of_ble_eq_true rfl) (Nat.le_of_ble_eq_true rfl) dX5_18zz (fun H hq hS => ?_)
  have hq : cqz_zz D q (.inr (5, [.ref (q + 1), .null, .null, .int (Int32.ofInt 0), .int (Int32.ofInt 0)]) :: ([] ++ E7_zz cA (q + 1) ++ [.inl (cA 0, 16, .inl (fun _ => Int32.ofInt 0))])) H := hq
  refine cr_putFzz (ci := 5) (C := RX5) (T := TX5) (N := 5) hx hb hts (bc_cl_ok 5 _ rfl).1 tyX5 tyX5_ok nmX5 hown hK hq hS rfl 1 (by decide) (hts (.fieldLink RX5 18 RX5 "kinds" "[I") (bc_wat_ok (pos := 379) sorry)) (fun _ h9 => h9) rfl hin rfl (ty := .array .int) (by decide +kernel) rfl rfl (Nat.le_of_ble_eq_true rfl) dX5_20zz (fun H locs hq hS => ?_)
  have hq : cqz_zz D q (.inr (5, [.ref (q + 1), .ref (q + 3), .null, .int (Int32.ofInt 0), .int (Int32.ofInt 0)]) :: ([] ++ E7_zz cA (q + 1) ++ [.inl (cA 0, 16, .inl (fun _ => Int32.ofInt 0))])) H := hq
  refine lv_aload_n hx hb dX5_23zz rfl (lv_at hl 0 rfl) ?_
  refine lv_bipush (v := Int32.ofInt 16) hx hb dX5_24zz (by decide) ?_
  refine lv_iconst (v := Int32.ofInt 3) hx hb dX5_26zz (by decide) ?_
  refine cr_multizz (N := 16) (M := 3) (k9 := 4) (by simp [E7_lenzz]) hx hb hown (hts (.classLink RX5 22 "[[I") (bc_wat_ok (pos := 376) sorry)) hK hq hS (by decide) (by decide) (by decide) (by decide) (by decide) (Nat.le_of_ble_eq_true rfl) (Nat.le_of_ble_eq_true rfl) (Nat.le_of_ble_eq_true rfl) (Nat.le_of_ble_eq_true rfl) dX5_27zz (fun H locs hq hS => ?_)
  have hq : cqz_zz D q (.inr (5, [.ref (q + 1), .ref (q + 3), .null, .int (Int32.ofInt 0), .int (Int32.ofInt 0)]) :: ([] ++ E7_zz cA (q + 1) ++ [.inl (cA 0, 16, .inl (fun _ => Int32.ofInt 0))] ++ (cg_ozz (cA 5) 16 (q + 4) :: List.replicate 16 (cg_rzz (cA 0) 3)))) H := hq
  refine cr_putFzz (ci := 5) (C := RX5) (T := TX5) (N := 5) hx hb hts (bc_cl_ok 5 _ rfl).1 tyX5 tyX5_ok nmX5 hown hK hq hS rfl 2 (by decide) (hts (.fieldLink RX5 24 RX5 "arguments" "[[I") (bc_wat_ok (pos := 380) sorry)) (fun _ h9 => h9) rfl hin rfl (ty := .array (.array .int)) (by decide +kernel) rfl rfl (Nat.le_of_ble_eq_true rfl) dX5_31zz (fun H locs hq hS => ?_)
  have hq : cqz_zz D q (.inr (5, [.ref (q + 1), .ref (q + 3), .ref (q + 4), .int (Int32.ofInt 0), .int (Int32.ofInt 0)]) :: ([] ++ E7_zz cA (q + 1) ++ [.inl (cA 0, 16, .inl (fun _ => Int32.ofInt 0))] ++ (cg_ozz (cA 5) 16 (q + 4) :: List.replicate 16 (cg_rzz (cA 0) 3)))) H := hq
  refine lv_aload_n hx hb dX5_34zz rfl (lv_at hl 0 rfl) ?_
  refine lv_iconst (v := Int32.ofInt 0) hx hb dX5_35zz (by decide) ?_
  refine cr_putzz (ci := 5) (C := RX5) (T := TX5) (N := 5) hx hb hts (bc_cl_ok 5 _ rfl).1 tyX5 tyX5_ok nmX5 hown hK hq hS rfl 3 (by decide) (hts (.fieldLink RX5 27 RX5 "count" "I") (bc_wat_ok (pos := 381) sorry)) (fun _ h9 => h9) rfl (ty := .int) (by decide +kernel) rfl rfl (Nat.le_of_ble_eq_true rfl) dX5_36zz (fun H locs hq hS => ?_)
  have hq : cqz_zz D q (.inr (5, [.ref (q + 1), .ref (q + 3), .ref (q + 4), .int (Int32.ofInt 0), .int (Int32.ofInt 0)]) :: ([] ++ E7_zz cA (q + 1) ++ [.inl (cA 0, 16, .inl (fun _ => Int32.ofInt 0))] ++ (cg_ozz (cA 5) 16 (q + 4) :: List.replicate 16 (cg_rzz (cA 0) 3)))) H := hq
  refine lv_aload_n hx hb dX5_39zz rfl (lv_at hl 0 rfl) ?_
  refine lv_iconst (v := Int32.ofInt 0) hx hb dX5_40zz (by decide) ?_
  refine cr_putzz (ci := 5) (C := RX5) (T := TX5) (N := 5) hx hb hts (bc_cl_ok 5 _ rfl).1 tyX5 tyX5_ok nmX5 hown hK hq hS rfl 4 (by decide) (hts (.fieldLink RX5 31 RX5 "position" "I") (bc_wat_ok (pos := 383) sorry)) (fun _ h9 => h9) rfl (ty := .int) (by decide +kernel) rfl rfl (Nat.le_of_ble_eq_true rfl) dX5_41zz (fun H locs hq hS => ?_)
  have hq : cqz_zz D q (.inr (5, [.ref (q + 1), .ref (q + 3), .ref (q + 4), .int (Int32.ofInt 0), .int (Int32.ofInt 0)]) :: ([] ++ E7_zz cA (q + 1) ++ [.inl (cA 0, 16, .inl (fun _ => Int32.ofInt 0))] ++ (cg_ozz (cA 5) 16 (q + 4) :: List.replicate 16 (cg_rzz (cA 0) 3)))) H := hq
  refine W.widen (k := 20) (n := 142) (Nat.le_of_ble_eq_true rfl) (Nat.le_of_ble_eq_true rfl) ?_
  exact W.vret hx hb hr (fun t ht hW => ⟨⟨(), rfl, trivial, by show cqz_zz D q (E5_zz cA q) t.heap; rw [ht]; exact hq⟩, hS.F ht⟩) hS.2.2 dX5_44zz
theorem zX1_inzz : ∀ pc, 51 ≤ pc → pX1_init pc = none := fun _ h => by unfold pX1_init; exact bc_cut_none h
theorem dX1_0zz : decode cX1_init 0 = .ok (.aload_n 0, 1) := ((bc_dec_ok kX1_init zX1_inzz) 0 _ _ _ rfl).1
theorem dX1_1zz : decode cX1_init 1 = .ok (.invokespecial 3, 3) := ((bc_dec_ok kX1_init zX1_inzz) 1 _ _ _ rfl).1
theorem dX1_4zz : decode cX1_init 4 = .ok (.aload_n 0, 1) := ((bc_dec_ok kX1_init zX1_inzz) 4 _ _ _ rfl).1
theorem dX1_5zz : decode cX1_init 5 = .ok (.bipush 8, 2) := ((bc_dec_ok kX1_init zX1_inzz) 5 _ _ _ rfl).1
theorem dX1_7zz : decode cX1_init 7 = .ok (.anewarray 9, 3) := ((bc_dec_ok kX1_init zX1_inzz) 7 _ _ _ rfl).1
theorem dX1_10zz : decode cX1_init 10 = .ok (.putfield 11, 3) := ((bc_dec_ok kX1_init zX1_inzz) 10 _ _ _ rfl).1
theorem dX1_13zz : decode cX1_init 13 = .ok (.aload_n 0, 1) := ((bc_dec_ok kX1_init zX1_inzz) 13 _ _ _ rfl).1
theorem dX1_14zz : decode cX1_init 14 = .ok (.iconst 0, 1) := ((bc_dec_ok kX1_init zX1_inzz) 14 _ _ _ rfl).1
theorem dX1_15zz : decode cX1_init 15 = .ok (.putfield 17, 3) := ((bc_dec_ok kX1_init zX1_inzz) 15 _ _ _ rfl).1
theorem dX1_18zz : decode cX1_init 18 = .ok (.aload_n 0, 1) := ((bc_dec_ok kX1_init zX1_inzz) 18 _ _ _ rfl).1
theorem dX1_19zz : decode cX1_init 19 = .ok (.iconst 0, 1) := ((bc_dec_ok kX1_init zX1_inzz) 19 _ _ _ rfl).1
theorem dX1_20zz : decode cX1_init 20 = .ok (.putfield 21, 3) := ((bc_dec_ok kX1_init zX1_inzz) 20 _ _ _ rfl).1
theorem dX1_23zz : decode cX1_init 23 = .ok (.iconst 0, 1) := ((bc_dec_ok kX1_init zX1_inzz) 23 _ _ _ rfl).1
theorem dX1_24zz : decode cX1_init 24 = .ok (.istore_n 1, 1) := ((bc_dec_ok kX1_init zX1_inzz) 24 _ _ _ rfl).1
theorem dX1_25zz : decode cX1_init 25 = .ok (.iload_n 1, 1) := ((bc_dec_ok kX1_init zX1_inzz) 25 _ _ _ rfl).1
theorem dX1_26zz : decode cX1_init 26 = .ok (.bipush 8, 2) := ((bc_dec_ok kX1_init zX1_inzz) 26 _ _ _ rfl).1
theorem dX1_28zz : decode cX1_init 28 = .ok (.if_icmp .ge 22, 3) := ((bc_dec_ok kX1_init zX1_inzz) 28 _ _ _ rfl).1
theorem dX1_31zz : decode cX1_init 31 = .ok (.aload_n 0, 1) := ((bc_dec_ok kX1_init zX1_inzz) 31 _ _ _ rfl).1
theorem dX1_32zz : decode cX1_init 32 = .ok (.getfield 11, 3) := ((bc_dec_ok kX1_init zX1_inzz) 32 _ _ _ rfl).1
theorem dX1_35zz : decode cX1_init 35 = .ok (.iload_n 1, 1) := ((bc_dec_ok kX1_init zX1_inzz) 35 _ _ _ rfl).1
theorem dX1_36zz : decode cX1_init 36 = .ok (.new 9, 3) := ((bc_dec_ok kX1_init zX1_inzz) 36 _ _ _ rfl).1
theorem dX1_39zz : decode cX1_init 39 = .ok (.dup, 1) := ((bc_dec_ok kX1_init zX1_inzz) 39 _ _ _ rfl).1
theorem dX1_40zz : decode cX1_init 40 = .ok (.invokespecial 24, 3) := ((bc_dec_ok kX1_init zX1_inzz) 40 _ _ _ rfl).1
theorem dX1_43zz : decode cX1_init 43 = .ok (.aastore, 1) := ((bc_dec_ok kX1_init zX1_inzz) 43 _ _ _ rfl).1
theorem dX1_44zz : decode cX1_init 44 = .ok (.iinc 1 1, 3) := ((bc_dec_ok kX1_init zX1_inzz) 44 _ _ _ rfl).1
theorem dX1_47zz : decode cX1_init 47 = .ok (.goto (-22), 3) := ((bc_dec_ok kX1_init zX1_inzz) 47 _ _ _ rfl).1
theorem dX1_50zz : decode cX1_init 50 = .ok (.return_, 1) := ((bc_dec_ok kX1_init zX1_inzz) 50 _ _ _ rfl).1
/-- the states behind one another -/
noncomputable def EL_zz (cA : Nat → ClassId) (q : Nat) : Nat → List va_E
  | 0 => []
  | t + 1 => EL_zz cA q t ++ E6_zz cA (q + (2 + 14 * t))
theorem EL_lenzz (cA : Nat → ClassId) (q : Nat) : ∀ t, (EL_zz cA q t).length = 14 * t := by
  intro t
  induction t with
  | zero => rfl
  | succ t ih =>
    show (EL_zz cA q t ++ E6_zz cA (q + (2 + 14 * t))).length = _
    rw [List.length_append, ih, E6_lenzz]
    omega
noncomputable abbrev EO1_zz (q : Nat) : va_E := .inr (1, [.ref (q + 1), .int (Int32.ofInt 0), .int (Int32.ofInt 0)])
noncomputable abbrev EA_zz (cA : Nat → ClassId) (q t : Nat) : va_E := .inl (cA 6, 8, .inr (.inr (.inr (.inr (fun j => if j < t then some (q + (2 + 14 * j)) else none)))))
noncomputable def E1_zz (cA : Nat → ClassId) (q : Nat) : List va_E := EO1_zz q :: EA_zz cA q 8 :: EL_zz cA q 8
theorem E1_lenzz (cA : Nat → ClassId) (q : Nat) : (E1_zz cA q).length = 114 := by simp [E1_zz, EL_lenzz]
theorem EA_0zz (cA : Nat → ClassId) (q : Nat) : (.inl (cA 6, 8, .inr (.inr (.inr (.inr (fun _ => none))))) : va_E) = EA_zz cA q 0 := by
  unfold EA_zz
  congr 7
theorem EA_szz (cA : Nat → ClassId) (q t : Nat) : (.inl (cA 6, 8, .inr (.inr (.inr (.inr (va_up (fun j => if j < t then some (q + (2 + 14 * j)) else none) t (some (q + (2 + 14 * t)))))))) : va_E) = EA_zz cA q (t + 1) := by
  unfold EA_zz
  refine congrArg (fun f : Nat → Option Nat => (.inl (cA 6, 8, .inr (.inr (.inr (.inr f)))) : va_E)) (funext fun j => ?_)
  unfold va_up
  by_cases e : j = t
  · rw [if_pos e, if_pos (by omega), e]
  · rw [if_neg e]
    show (if j < t then some (q + (2 + 14 * j)) else none) = _
    by_cases e2 : j < t
    · rw [if_pos e2, if_pos (by omega)]
    · rw [if_neg e2, if_neg (by omega)]
set_option maxHeartbeats 4000000 in
set_option maxRecDepth 100000 in
theorem ctX1zz (l : Launch) (D : va_G) (cA : Nat → ClassId) : ctc_zz l D cA mX1_init { frames := 6, cells := 113, slots := 1200, locals := 120 } (.inr (1, [.null, .int (Int32.ofInt 0), .int (Int32.ofInt 0)])) (fun q => E1_zz cA q) 113 1200 := by
  intro q
  refine Met.ofW (cc := cX1_init) (maxL := 2) (ret := none) (by decide) rfl ?_
  intro p e s m args below meth c s₁ B hml hv
  obtain ⟨rfl, hq, hK⟩ := hv
  have hx := B.exec
  have hb := B.bytes
  have hr := B.returns
  have hts0 := atoms_spec (ws := ctW_zz mX1_init) B.pre
  have hts : ∀ w ∈ bc_W, w.before [Value.ref q].toArray s = true := fun w hw => hts0 w (List.mem_cons_of_mem _ hw)
  have hown : s.vm.findClass RX1 = some m.cls := findClass_of_methodNamed B.named
  have hlocks := B.notSynchronized
  have hin : meth.name = "<init>" := (name_of_methodNamed B.named B.method).1
  have hS : va_S (fun a => q ≤ a) s.heap s.heap [] := va_S.rf
  have hl := lv_entry ([.ref q]) (n := 2) (Nat.le_of_ble_eq_true rfl)
  rw [lg_entry_eq]
  generalize (lg_sl ([.ref q]) ++ List.replicate (2 - (lg_sl ([.ref q])).length) Slot.unset).toArray = ls at hl ⊢
  have hl : lv_has ls 2 [(0, .ref q)] := hl
  have hq : cqz_zz D q (.inr (1, [.null, .int (Int32.ofInt 0), .int (Int32.ofInt 0)]) :: []) s.heap := hq
  refine lv_aload_n hx hb dX1_0zz rfl (lv_at hl 0 rfl) ?_
  refine W.objInit hx hb hown (hts (.methodLink RX1 3 objectInit) (bc_wat_ok (pos := 272) sorry)) (hts (.instanceMethod objectInit) (bc_wat_ok (pos := 132) sorry)) (hts _ (bc_wat_ok (pos := 133) sorry)) rfl (by rw [hml]; exact hl.1) rfl dX1_1zz (Nat.le_of_ble_eq_true rfl) (Nat.le_of_ble_eq_true rfl) ?_
  refine W.eq (g2 := F0 m 4 ls []) rfl ?_
  refine lv_aload_n hx hb dX1_4zz rfl (lv_at hl 0 rfl) ?_
  refine lv_bipush (v := Int32.ofInt 8) hx hb dX1_5zz (by decide) ?_
  refine cr_newqzz (C := RX6) (cI := cA 6) (n := Int32.ofInt 8) (N' := 8) (k9 := 1) rfl hx hb hown (hts (.classLink RX1 9 RX6) (bc_wat_ok (pos := 273) sorry)) hK.2.1 (by obtain ⟨_, _, _, _, _, h⟩ := (hK.1.2 6 _ rfl).2; exact h) hq hS (by decide) (by decide) (Nat.le_of_ble_eq_true rfl) (Nat.le_of_ble_eq_true rfl) (Nat.le_of_ble_eq_true rfl) dX1_7zz (fun H hq hS => ?_)
  have hq : cqz_zz D q (.inr (1, [.null, .int (Int32.ofInt 0), .int (Int32.ofInt 0)]) :: ([] ++ [.inl (cA 6, 8, .inr (.inr (.inr (.inr (fun _ => none)))))])) H := hq
  refine cr_putFzz (ci := 1) (C := RX1) (T := TX1) (N := 3) hx hb hts (bc_cl_ok 1 _ rfl).1 tyX1 tyX1_ok nmX1 hown hK hq hS rfl 0 (by decide) (hts (.fieldLink RX1 11 RX1 "states" "[LBridgeChapel$State;") (bc_wat_ok (pos := 276) sorry)) (fun _ h9 => h9) rfl hin rfl (ty := .array (.object "BridgeChapel$State")) (by decide +kernel) rfl rfl (Nat.le_of_ble_eq_true rfl) dX1_10zz (fun H locs hq hS => ?_)
  have hq : cqz_zz D q (.inr (1, [.ref (q + 1), .int (Int32.ofInt 0), .int (Int32.ofInt 0)]) :: ([] ++ [.inl (cA 6, 8, .inr (.inr (.inr (.inr (fun _ => none)))))])) H := hq
  refine lv_aload_n hx hb dX1_13zz rfl (lv_at hl 0 rfl) ?_
  refine lv_iconst (v := Int32.ofInt 0) hx hb dX1_14zz (by decide) ?_
  refine cr_putzz (ci := 1) (C := RX1) (T := TX1) (N := 3) hx hb hts (bc_cl_ok 1 _ rfl).1 tyX1 tyX1_ok nmX1 hown hK hq hS rfl 1 (by decide) (hts (.fieldLink RX1 17 RX1 "next" "I") (bc_wat_ok (pos := 277) sorry)) (fun _ h9 => h9) rfl (ty := .int) (by decide +kernel) rfl rfl (Nat.le_of_ble_eq_true rfl) dX1_15zz (fun H locs hq hS => ?_)
  have hq : cqz_zz D q (.inr (1, [.ref (q + 1), .int (Int32.ofInt 0), .int (Int32.ofInt 0)]) :: ([] ++ [.inl (cA 6, 8, .inr (.inr (.inr (.inr (fun _ => none)))))])) H := hq
  refine lv_aload_n hx hb dX1_18zz rfl (lv_at hl 0 rfl) ?_
  refine lv_iconst (v := Int32.ofInt 0) hx hb dX1_19zz (by decide) ?_
  refine cr_putzz (ci := 1) (C := RX1) (T := TX1) (N := 3) hx hb hts (bc_cl_ok 1 _ rfl).1 tyX1 tyX1_ok nmX1 hown hK hq hS rfl 2 (by decide) (hts (.fieldLink RX1 21 RX1 "count" "I") (bc_wat_ok (pos := 278) sorry)) (fun _ h9 => h9) rfl (ty := .int) (by decide +kernel) rfl rfl (Nat.le_of_ble_eq_true rfl) dX1_20zz (fun H locs hq hS => ?_)
  have hq : cqz_zz D q (.inr (1, [.ref (q + 1), .int (Int32.ofInt 0), .int (Int32.ofInt 0)]) :: ([] ++ [.inl (cA 6, 8, .inr (.inr (.inr (.inr (fun _ => none)))))])) H := hq
  have L : ∀ (n t : Nat) (H : Heap) (locs : List Loc) (ls : Array Slot), t + n = 8 → cqz_zz D q (EO1_zz q :: EA_zz cA q t :: EL_zz cA q t) H → va_S (fun a => q ≤ a) s.heap H locs → lv_has ls 2 [(1, .int (Int32.ofInt t)), (0, .ref q)] → W p l e (headSpec (ctW_zz mX1_init) { frames := 6, cells := 113, slots := 1200, locals := 120 }).room s m [Value.ref q].toArray below meth c H locs (1 + 14 * t) (8 + 149 * t) (MQ below (va_Qv (fun _ : Unit => True) (fun _ t => cqz_zz D q (E1_zz cA q) t.heap) (fun a => q ≤ a)) [Value.ref q].toArray s 113 1200 (fun a => q ≤ a)) (F0 m 25 ls []) := by
    intro n
    induction n with
    | zero =>
      intro t H locs ls ht hq hS hl
      have t8 : t = 8 := by omega
      subst t8
      refine lv_iload_n hx hb dX1_25zz rfl (lv_at hl 0 rfl) ?_
      refine lv_bipush (v := Int32.ofInt 8) hx hb dX1_26zz (by decide) ?_
      refine lv_icmp_ge (tgt := 50) hx hb dX1_28zz rfl (fun _ => ?_) (fun c => absurd (by decide) c)
      exact W.vret hx hb hr (fun t ht hW => ⟨⟨(), rfl, trivial, by show cqz_zz D q (E1_zz cA q) t.heap; rw [ht]; exact hq⟩, hS.F ht⟩) hS.2.2 dX1_50zz
    | succ n ih =>
      intro t H locs ls ht hq hS hl
      have t8 : t = 0 ∨ t = 1 ∨ t = 2 ∨ t = 3 ∨ t = 4 ∨ t = 5 ∨ t = 6 ∨ t = 7 := by omega
      have hi1 : ¬ Int32.ofInt 8 ≤ Int32.ofInt (t : Int) := by rcases t8 with rfl | rfl | rfl | rfl | rfl | rfl | rfl | rfl <;> decide
      have hi2 : Int32.ofInt (t : Int) + Int32.ofInt 1 = Int32.ofInt ((t + 1 : Nat) : Int) := by rcases t8 with rfl | rfl | rfl | rfl | rfl | rfl | rfl | rfl <;> decide
      obtain ⟨hi3, hi4⟩ : vp_in (Int32.ofInt (t : Int)) 8 ∧ (Int32.ofInt (t : Int)).toNatClampNeg = ((t : Int)).toNat := vp_in32 (by omega) (by omega) (by decide)
      have hi5 : ((t : Int)).toNat = t := by omega
      have len : (EO1_zz q :: EA_zz cA q t :: EL_zz cA q t).length = 2 + 14 * t := by simp [EL_lenzz]; omega
      have r1 : 1 + 14 * t + 1 ≤ 113 := by omega
      have r2 : 8 + 149 * t + 3 ≤ 1200 := by omega
      have r3 : 1 + 14 * t + 1 + 13 ≤ 113 := by omega
      have r4 : 8 + 149 * t + 3 + 146 ≤ 1200 := by omega
      refine lv_iload_n hx hb dX1_25zz rfl (lv_at hl 0 rfl) ?_
      refine lv_bipush (v := Int32.ofInt 8) hx hb dX1_26zz (by decide) ?_
      refine lv_icmp_ge (tgt := 50) hx hb dX1_28zz rfl (fun c => absurd c hi1) (fun _ => ?_)
      refine lv_aload_n hx hb dX1_31zz rfl (lv_at hl 1 rfl) ?_
      refine va_get (D := D) (ci := 1) (C := RX1) (T := TX1) (N := 3) hx hb hts (bc_cl_ok 1 _ rfl).1 hown hK.1 (cqz_Pzz hq) 0 rfl rfl 0 (by decide) (hts (.fieldLink RX1 11 RX1 "states" "[LBridgeChapel$State;") (bc_wat_ok (pos := 276) sorry)) (fun _ h9 => h9) rfl dX1_32zz ?_
      refine lv_iload_n hx hb dX1_35zz rfl (lv_at hl 0 rfl) ?_
      refine cr_newzz (ci := 6) (fs := [.null, .null, .null]) (C := RX6) (T := TX6) (N := 3) len hx hb hts (bc_cl_ok 6 _ rfl).1 tyX6 tyX6_ok hown (hts (.classLink RX1 9 RX6) (bc_wat_ok (pos := 273) sorry)) (hts (.instantiable RX6 3) (bc_wat_ok (pos := 135) sorry)) (hts (.initialized RX6) (bc_wat_ok (pos := 97) sorry)) hK hq hS rfl (fun j hj => by rcases (show j = 0 ∨ j = 1 ∨ j = 2 by omega) with rfl | rfl | rfl <;> rfl) r1 r2 dX1_36zz (fun H hq hS => ?_)
      refine lv_dup hx hb dX1_39zz rfl ?_
      refine cr_callNzz (host := "BridgeChapel") (Y := mX6_init) (rm := { frames := 4, cells := 13, slots := 146, locals := 60 }) (es := EO1_zz q :: EA_zz cA q t :: EL_zz cA q t) len hx hb hml hown hts (ctX6zz l D cA) (bc_mem_W (bc_tk1 (List.mem_of_getElem? (i := 43) rfl)) rfl) (bc_watN_ok (pos := 275) (by decide +kernel)) (bc_wat_ok (pos := 97) sorry) (bc_wat_ok (pos := 137) sorry) rfl (by decide +kernel) rfl rfl ⟨Nat.le_of_ble_eq_true rfl, Nat.le_of_ble_eq_true rfl⟩ hK hq hS hl.1 (Nat.le_of_ble_eq_true rfl) dX1_40zz ⟨r3, r4⟩ (fun H locs hq hS => ?_)
      have hq : cqz_zz D q (EO1_zz q :: EA_zz cA q t :: EL_zz cA q (t + 1)) H := hq
      have hv : (EO1_zz q :: EA_zz cA q t :: EL_zz cA q (t + 1))[2 + 14 * t]? = (E6_zz cA (q + (2 + 14 * t)))[0]? := by
        refine (congrArg (fun i : Nat => (EO1_zz q :: EA_zz cA q t :: EL_zz cA q (t + 1))[i]?) (show 2 + 14 * t = 14 * t + 1 + 1 by omega)).trans ?_
        show (EL_zz cA q t ++ E6_zz cA (q + (2 + 14 * t)))[14 * t]? = _
        rw [List.getElem?_append_right (by rw [EL_lenzz]; omega), EL_lenzz, Nat.sub_self]
      refine cr_astzz (k0 := 1) (kv := 2 + 14 * t) (N := 8) hx hb hK hq hS rfl (hv.trans rfl) hi3 dX1_43zz (fun H locs hq hS => ?_)
      rw [hi4, hi5] at hq
      have hq : cqz_zz D q (EO1_zz q :: EA_zz cA q (t + 1) :: EL_zz cA q (t + 1)) H := by rw [← EA_szz]; exact hq
      refine lv_iinc (v := Int32.ofInt ((t + 1 : Nat) : Int)) (k := 0) hx hb dX1_44zz hl rfl hi2 (by decide) rfl (fun ls hl => ?_)
      refine lv_goto (tgt := 25) hx hb dX1_47zz rfl ?_
      have h := ih (t + 1) H locs ls (by omega) hq hS hl
      rw [show 1 + 14 * (t + 1) = 1 + 14 * t + 1 + 13 by omega, show 8 + 149 * (t + 1) = 8 + 149 * t + 3 + 146 by omega] at h
      exact h
  refine lv_iconst (v := Int32.ofInt 0) hx hb dX1_23zz (by decide) ?_
  refine lv_istore_n hx hb dX1_24zz rfl hl (by decide) rfl (fun ls hl => ?_)
  have hq : cqz_zz D q (EO1_zz q :: EA_zz cA q 0 :: EL_zz cA q 0) H := by rw [← EA_0zz]; exact hq
  exact L 8 0 H _ ls rfl hq hS hl
theorem zX10_inzz : ∀ pc, 119 ≤ pc → pX10_init pc = none := fun _ h => by unfold pX10_init; exact bc_cut_none h
theorem dX10_0zz : decode cX10_init 0 = .ok (.aload_n 0, 1) := ((bc_dec_ok kX10_init zX10_inzz) 0 _ _ _ rfl).1
theorem dX10_1zz : decode cX10_init 1 = .ok (.invokespecial 1, 3) := ((bc_dec_ok kX10_init zX10_inzz) 1 _ _ _ rfl).1
theorem dX10_4zz : decode cX10_init 4 = .ok (.aload_n 0, 1) := ((bc_dec_ok kX10_init zX10_inzz) 4 _ _ _ rfl).1
theorem dX10_5zz : decode cX10_init 5 = .ok (.new 7, 3) := ((bc_dec_ok kX10_init zX10_inzz) 5 _ _ _ rfl).1
theorem dX10_8zz : decode cX10_init 8 = .ok (.dup, 1) := ((bc_dec_ok kX10_init zX10_inzz) 8 _ _ _ rfl).1
theorem dX10_9zz : decode cX10_init 9 = .ok (.invokespecial 9, 3) := ((bc_dec_ok kX10_init zX10_inzz) 9 _ _ _ rfl).1
theorem dX10_12zz : decode cX10_init 12 = .ok (.putfield 10, 3) := ((bc_dec_ok kX10_init zX10_inzz) 12 _ _ _ rfl).1
theorem dX10_15zz : decode cX10_init 15 = .ok (.aload_n 0, 1) := ((bc_dec_ok kX10_init zX10_inzz) 15 _ _ _ rfl).1
theorem dX10_16zz : decode cX10_init 16 = .ok (.new 7, 3) := ((bc_dec_ok kX10_init zX10_inzz) 16 _ _ _ rfl).1
theorem dX10_19zz : decode cX10_init 19 = .ok (.dup, 1) := ((bc_dec_ok kX10_init zX10_inzz) 19 _ _ _ rfl).1
theorem dX10_20zz : decode cX10_init 20 = .ok (.invokespecial 9, 3) := ((bc_dec_ok kX10_init zX10_inzz) 20 _ _ _ rfl).1
theorem dX10_23zz : decode cX10_init 23 = .ok (.putfield 16, 3) := ((bc_dec_ok kX10_init zX10_inzz) 23 _ _ _ rfl).1
theorem dX10_26zz : decode cX10_init 26 = .ok (.aload_n 0, 1) := ((bc_dec_ok kX10_init zX10_inzz) 26 _ _ _ rfl).1
theorem dX10_27zz : decode cX10_init 27 = .ok (.new 7, 3) := ((bc_dec_ok kX10_init zX10_inzz) 27 _ _ _ rfl).1
theorem dX10_30zz : decode cX10_init 30 = .ok (.dup, 1) := ((bc_dec_ok kX10_init zX10_inzz) 30 _ _ _ rfl).1
theorem dX10_31zz : decode cX10_init 31 = .ok (.invokespecial 9, 3) := ((bc_dec_ok kX10_init zX10_inzz) 31 _ _ _ rfl).1
theorem dX10_34zz : decode cX10_init 34 = .ok (.putfield 19, 3) := ((bc_dec_ok kX10_init zX10_inzz) 34 _ _ _ rfl).1
theorem dX10_37zz : decode cX10_init 37 = .ok (.aload_n 0, 1) := ((bc_dec_ok kX10_init zX10_inzz) 37 _ _ _ rfl).1
theorem dX10_38zz : decode cX10_init 38 = .ok (.new 22, 3) := ((bc_dec_ok kX10_init zX10_inzz) 38 _ _ _ rfl).1
theorem dX10_41zz : decode cX10_init 41 = .ok (.dup, 1) := ((bc_dec_ok kX10_init zX10_inzz) 41 _ _ _ rfl).1
theorem dX10_42zz : decode cX10_init 42 = .ok (.invokespecial 24, 3) := ((bc_dec_ok kX10_init zX10_inzz) 42 _ _ _ rfl).1
theorem dX10_45zz : decode cX10_init 45 = .ok (.putfield 25, 3) := ((bc_dec_ok kX10_init zX10_inzz) 45 _ _ _ rfl).1
theorem dX10_48zz : decode cX10_init 48 = .ok (.aload_n 0, 1) := ((bc_dec_ok kX10_init zX10_inzz) 48 _ _ _ rfl).1
theorem dX10_49zz : decode cX10_init 49 = .ok (.new 29, 3) := ((bc_dec_ok kX10_init zX10_inzz) 49 _ _ _ rfl).1
theorem dX10_52zz : decode cX10_init 52 = .ok (.dup, 1) := ((bc_dec_ok kX10_init zX10_inzz) 52 _ _ _ rfl).1
theorem dX10_53zz : decode cX10_init 53 = .ok (.invokespecial 31, 3) := ((bc_dec_ok kX10_init zX10_inzz) 53 _ _ _ rfl).1
theorem dX10_56zz : decode cX10_init 56 = .ok (.putfield 32, 3) := ((bc_dec_ok kX10_init zX10_inzz) 56 _ _ _ rfl).1
theorem dX10_59zz : decode cX10_init 59 = .ok (.aload_n 0, 1) := ((bc_dec_ok kX10_init zX10_inzz) 59 _ _ _ rfl).1
theorem dX10_60zz : decode cX10_init 60 = .ok (.new 36, 3) := ((bc_dec_ok kX10_init zX10_inzz) 60 _ _ _ rfl).1
theorem dX10_63zz : decode cX10_init 63 = .ok (.dup, 1) := ((bc_dec_ok kX10_init zX10_inzz) 63 _ _ _ rfl).1
theorem dX10_64zz : decode cX10_init 64 = .ok (.invokespecial 38, 3) := ((bc_dec_ok kX10_init zX10_inzz) 64 _ _ _ rfl).1
theorem dX10_67zz : decode cX10_init 67 = .ok (.putfield 39, 3) := ((bc_dec_ok kX10_init zX10_inzz) 67 _ _ _ rfl).1
theorem dX10_70zz : decode cX10_init 70 = .ok (.aload_n 0, 1) := ((bc_dec_ok kX10_init zX10_inzz) 70 _ _ _ rfl).1
theorem dX10_71zz : decode cX10_init 71 = .ok (.new 43, 3) := ((bc_dec_ok kX10_init zX10_inzz) 71 _ _ _ rfl).1
theorem dX10_74zz : decode cX10_init 74 = .ok (.dup, 1) := ((bc_dec_ok kX10_init zX10_inzz) 74 _ _ _ rfl).1
theorem dX10_75zz : decode cX10_init 75 = .ok (.invokespecial 45, 3) := ((bc_dec_ok kX10_init zX10_inzz) 75 _ _ _ rfl).1
theorem dX10_78zz : decode cX10_init 78 = .ok (.putfield 46, 3) := ((bc_dec_ok kX10_init zX10_inzz) 78 _ _ _ rfl).1
theorem dX10_81zz : decode cX10_init 81 = .ok (.aload_n 0, 1) := ((bc_dec_ok kX10_init zX10_inzz) 81 _ _ _ rfl).1
theorem dX10_82zz : decode cX10_init 82 = .ok (.new 50, 3) := ((bc_dec_ok kX10_init zX10_inzz) 82 _ _ _ rfl).1
theorem dX10_85zz : decode cX10_init 85 = .ok (.dup, 1) := ((bc_dec_ok kX10_init zX10_inzz) 85 _ _ _ rfl).1
theorem dX10_86zz : decode cX10_init 86 = .ok (.invokespecial 52, 3) := ((bc_dec_ok kX10_init zX10_inzz) 86 _ _ _ rfl).1
theorem dX10_89zz : decode cX10_init 89 = .ok (.putfield 53, 3) := ((bc_dec_ok kX10_init zX10_inzz) 89 _ _ _ rfl).1
theorem dX10_92zz : decode cX10_init 92 = .ok (.aload_n 0, 1) := ((bc_dec_ok kX10_init zX10_inzz) 92 _ _ _ rfl).1
theorem dX10_93zz : decode cX10_init 93 = .ok (.new 57, 3) := ((bc_dec_ok kX10_init zX10_inzz) 93 _ _ _ rfl).1
theorem dX10_96zz : decode cX10_init 96 = .ok (.dup, 1) := ((bc_dec_ok kX10_init zX10_inzz) 96 _ _ _ rfl).1
theorem dX10_97zz : decode cX10_init 97 = .ok (.invokespecial 59, 3) := ((bc_dec_ok kX10_init zX10_inzz) 97 _ _ _ rfl).1
theorem dX10_100zz : decode cX10_init 100 = .ok (.putfield 60, 3) := ((bc_dec_ok kX10_init zX10_inzz) 100 _ _ _ rfl).1
theorem dX10_103zz : decode cX10_init 103 = .ok (.aload_n 0, 1) := ((bc_dec_ok kX10_init zX10_inzz) 103 _ _ _ rfl).1
theorem dX10_104zz : decode cX10_init 104 = .ok (.iconst 0, 1) := ((bc_dec_ok kX10_init zX10_inzz) 104 _ _ _ rfl).1
theorem dX10_105zz : decode cX10_init 105 = .ok (.putfield 64, 3) := ((bc_dec_ok kX10_init zX10_inzz) 105 _ _ _ rfl).1
theorem dX10_108zz : decode cX10_init 108 = .ok (.aload_n 0, 1) := ((bc_dec_ok kX10_init zX10_inzz) 108 _ _ _ rfl).1
theorem dX10_109zz : decode cX10_init 109 = .ok (.iconst (-1), 1) := ((bc_dec_ok kX10_init zX10_inzz) 109 _ _ _ rfl).1
theorem dX10_110zz : decode cX10_init 110 = .ok (.putfield 68, 3) := ((bc_dec_ok kX10_init zX10_inzz) 110 _ _ _ rfl).1
theorem dX10_113zz : decode cX10_init 113 = .ok (.aload_n 0, 1) := ((bc_dec_ok kX10_init zX10_inzz) 113 _ _ _ rfl).1
theorem dX10_114zz : decode cX10_init 114 = .ok (.iconst (-1), 1) := ((bc_dec_ok kX10_init zX10_inzz) 114 _ _ _ rfl).1
theorem dX10_115zz : decode cX10_init 115 = .ok (.putfield 72, 3) := ((bc_dec_ok kX10_init zX10_inzz) 115 _ _ _ rfl).1
theorem dX10_118zz : decode cX10_init 118 = .ok (.return_, 1) := ((bc_dec_ok kX10_init zX10_inzz) 118 _ _ _ rfl).1
noncomputable def E10_zz (cA : Nat → ClassId) (q : Nat) : List va_E := .inr (10, [.ref (q + 1), .ref (q + 15), .ref (q + 29), .ref (q + 43), .ref (q + 157), .ref (q + 171), .ref (q + 174), .ref (q + 195), .ref (q + 216), .int (Int32.ofInt 0), .int (Int32.ofInt (-1)), .int (Int32.ofInt (-1))]) :: ([] ++ E6_zz cA (q + 1) ++ E6_zz cA (q + 15) ++ E6_zz cA (q + 29) ++ E1_zz cA (q + 43) ++ E9_zz cA (q + 157) ++ E0_zz cA (q + 171) ++ E4_zz cA (q + 174) ++ E5_zz cA (q + 195) ++ E7_zz cA (q + 216))
theorem E10_lenzz (cA : Nat → ClassId) (q : Nat) : (E10_zz cA q).length = 218 := by simp [E10_zz, E0_lenzz, E1_lenzz, E4_lenzz, E5_lenzz, E6_lenzz, E7_lenzz, E9_lenzz]
set_option maxHeartbeats 4000000 in
set_option maxRecDepth 100000 in
theorem ctX10zz (l : Launch) (D : va_G) (cA : Nat → ClassId) : ctc_zz l D cA mX10_init { frames := 10, cells := 217, slots := 2152, locals := 200 } (.inr (10, [.null, .null, .null, .null, .null, .null, .null, .null, .null, .int (Int32.ofInt 0), .int (Int32.ofInt 0), .int (Int32.ofInt 0)])) (fun q => E10_zz cA q) 217 2152 := by
  intro q
  refine Met.ofW (cc := cX10_init) (maxL := 1) (ret := none) (by decide) rfl ?_
  intro p e s m args below meth c s₁ B hml hv
  obtain ⟨rfl, hq, hK⟩ := hv
  have hx := B.exec
  have hb := B.bytes
  have hr := B.returns
  have hts0 := atoms_spec (ws := ctW_zz mX10_init) B.pre
  have hts : ∀ w ∈ bc_W, w.before [Value.ref q].toArray s = true := fun w hw => hts0 w (List.mem_cons_of_mem _ hw)
  have hown : s.vm.findClass RX10 = some m.cls := findClass_of_methodNamed B.named
  have hlocks := B.notSynchronized
  have hin : meth.name = "<init>" := (name_of_methodNamed B.named B.method).1
  have hS : va_S (fun a => q ≤ a) s.heap s.heap [] := va_S.rf
  have hl := lv_entry ([.ref q]) (n := 1) (Nat.le_of_ble_eq_true rfl)
  rw [lg_entry_eq]
  generalize (lg_sl ([.ref q]) ++ List.replicate (1 - (lg_sl ([.ref q])).length) Slot.unset).toArray = ls at hl ⊢
  have hl : lv_has ls 1 [(0, .ref q)] := hl
  have hq : cqz_zz D q (.inr (10, [.null, .null, .null, .null, .null, .null, .null, .null, .null, .int (Int32.ofInt 0), .int (Int32.ofInt 0), .int (Int32.ofInt 0)]) :: []) s.heap := hq
  refine lv_aload_n hx hb dX10_0zz rfl (lv_at hl 0 rfl) ?_
  refine W.objInit hx hb hown (hts (.methodLink RX10 1 objectInit) (bc_wat_ok (pos := 131) sorry)) (hts (.instanceMethod objectInit) (bc_wat_ok (pos := 132) sorry)) (hts _ (bc_wat_ok (pos := 133) sorry)) rfl (by rw [hml]; exact hl.1) rfl dX10_1zz (Nat.le_of_ble_eq_true rfl) (Nat.le_of_ble_eq_true rfl) ?_
  refine W.eq (g2 := F0 m 4 ls []) rfl ?_
  refine lv_aload_n hx hb dX10_4zz rfl (lv_at hl 0 rfl) ?_
  refine cr_newzz (ci := 6) (fs := [.null, .null, .null]) (C := RX6) (T := TX6) (N := 3) (k9 := 1) rfl hx hb hts (bc_cl_ok 6 _ rfl).1 tyX6 tyX6_ok hown (hts (.classLink RX10 7 RX6) (bc_wat_ok (pos := 134) sorry)) (hts (.instantiable RX6 3) (bc_wat_ok (pos := 135) sorry)) (hts (.initialized RX6) (bc_wat_ok (pos := 97) sorry)) hK hq hS rfl (fun j hj => by rcases (show j = 0 ∨ j = 1 ∨ j = 2 by omega) with rfl | rfl | rfl <;> rfl) (Nat.le_of_ble_eq_true rfl) (Nat.le_of_ble_eq_true rfl) dX10_5zz (fun H hq hS => ?_)
  refine lv_dup hx hb dX10_8zz rfl ?_
  refine cr_callNzz (host := "BridgeChapel") (Y := mX6_init) (rm := { frames := 4, cells := 13, slots := 146, locals := 60 }) (es := .inr (10, [.null, .null, .null, .null, .null, .null, .null, .null, .null, .int (Int32.ofInt 0), .int (Int32.ofInt 0), .int (Int32.ofInt 0)]) :: ([])) (k9 := 1) rfl hx hb hml hown hts (ctX6zz l D cA) (bc_mem_W (bc_tk1 (List.mem_of_getElem? (i := 43) rfl)) rfl) (bc_watN_ok (pos := 136) (by decide +kernel)) (bc_wat_ok (pos := 97) sorry) (bc_wat_ok (pos := 137) sorry) rfl (by decide +kernel) rfl rfl ⟨Nat.le_of_ble_eq_true rfl, Nat.le_of_ble_eq_true rfl⟩ hK hq hS hl.1 (Nat.le_of_ble_eq_true rfl) dX10_9zz ⟨Nat.le_of_ble_eq_true rfl, Nat.le_of_ble_eq_true rfl⟩ (fun H locs hq hS => ?_)
  have hq : cqz_zz D q (.inr (10, [.null, .null, .null, .null, .null, .null, .null, .null, .null, .int (Int32.ofInt 0), .int (Int32.ofInt 0), .int (Int32.ofInt 0)]) :: ([] ++ E6_zz cA (q + 1))) H := hq
  refine cr_putFzz (ci := 10) (C := RX10) (T := TX10) (N := 12) hx hb hts (bc_cl_ok 10 _ rfl).1 tyX10 tyX10_ok nmX10 hown hK hq hS rfl 0 (by decide) (hts (.fieldLink RX10 10 RX10 "state" "LBridgeChapel$State;") (bc_wat_ok (pos := 398) sorry)) (fun _ h9 => h9) rfl hin rfl (ty := .object "BridgeChapel$State") (by decide +kernel) rfl rfl (Nat.le_of_ble_eq_true rfl) dX10_12zz (fun H locs hq hS => ?_)
  have hq : cqz_zz D q (.inr (10, [.ref (q + 1), .null, .null, .null, .null, .null, .null, .null, .null, .int (Int32.ofInt 0), .int (Int32.ofInt 0), .int (Int32.ofInt 0)]) :: ([] ++ E6_zz cA (q + 1))) H := hq
  refine lv_aload_n hx hb dX10_15zz rfl (lv_at hl 0 rfl) ?_
  refine cr_newzz (ci := 6) (fs := [.null, .null, .null]) (C := RX6) (T := TX6) (N := 3) (k9 := 15) (by simp [E6_lenzz]) hx hb hts (bc_cl_ok 6 _ rfl).1 tyX6 tyX6_ok hown (hts (.classLink RX10 7 RX6) (bc_wat_ok (pos := 134) sorry)) (hts (.instantiable RX6 3) (bc_wat_ok (pos := 135) sorry)) (hts (.initialized RX6) (bc_wat_ok (pos := 97) sorry)) hK hq hS rfl (fun j hj => by rcases (show j = 0 ∨ j = 1 ∨ j = 2 by omega) with rfl | rfl | rfl <;> rfl) (Nat.le_of_ble_eq_true rfl) (Nat.le_of_ble_eq_true rfl) dX10_16zz (fun H hq hS => ?_)
  refine lv_dup hx hb dX10_19zz rfl ?_
  refine cr_callNzz (host := "BridgeChapel") (Y := mX6_init) (rm := { frames := 4, cells := 13, slots := 146, locals := 60 }) (es := .inr (10, [.ref (q + 1), .null, .null, .null, .null, .null, .null, .null, .null, .int (Int32.ofInt 0), .int (Int32.ofInt 0), .int (Int32.ofInt 0)]) :: ([] ++ E6_zz cA (q + 1))) (k9 := 15) (by simp [E6_lenzz]) hx hb hml hown hts (ctX6zz l D cA) (bc_mem_W (bc_tk1 (List.mem_of_getElem? (i := 43) rfl)) rfl) (bc_watN_ok (pos := 136) (by decide +kernel)) (bc_wat_ok (pos := 97) sorry) (bc_wat_ok (pos := 137) sorry) rfl (by decide +kernel) rfl rfl ⟨Nat.le_of_ble_eq_true rfl, Nat.le_of_ble_eq_true rfl⟩ hK hq hS hl.1 (Nat.le_of_ble_eq_true rfl) dX10_20zz ⟨Nat.le_of_ble_eq_true rfl, Nat.le_of_ble_eq_true rfl⟩ (fun H locs hq hS => ?_)
  have hq : cqz_zz D q (.inr (10, [.ref (q + 1), .null, .null, .null, .null, .null, .null, .null, .null, .int (Int32.ofInt 0), .int (Int32.ofInt 0), .int (Int32.ofInt 0)]) :: ([] ++ E6_zz cA (q + 1) ++ E6_zz cA (q + 15))) H := hq
  refine cr_putFzz (ci := 10) (C := RX10) (T := TX10) (N := 12) hx hb hts (bc_cl_ok 10 _ rfl).1 tyX10 tyX10_ok nmX10 hown hK hq hS rfl 1 (by decide) (hts (.fieldLink RX10 16 RX10 "snapshot" "LBridgeChapel$State;") (bc_wat_ok (pos := 399) sorry)) (fun _ h9 => h9) rfl hin rfl (ty := .object "BridgeChapel$State") (by decide +kernel) rfl rfl (Nat.le_of_ble_eq_true rfl) dX10_23zz (fun H locs hq hS => ?_)
  have hq : cqz_zz D q (.inr (10, [.ref (q + 1), .ref (q + 15), .null, .null, .null, .null, .null, .null, .null, .int (Int32.ofInt 0), .int (Int32.ofInt 0), .int (Int32.ofInt 0)]) :: ([] ++ E6_zz cA (q + 1) ++ E6_zz cA (q + 15))) H := hq
  refine lv_aload_n hx hb dX10_26zz rfl (lv_at hl 0 rfl) ?_
  refine cr_newzz (ci := 6) (fs := [.null, .null, .null]) (C := RX6) (T := TX6) (N := 3) (k9 := 29) (by simp [E6_lenzz]) hx hb hts (bc_cl_ok 6 _ rfl).1 tyX6 tyX6_ok hown (hts (.classLink RX10 7 RX6) (bc_wat_ok (pos := 134) sorry)) (hts (.instantiable RX6 3) (bc_wat_ok (pos := 135) sorry)) (hts (.initialized RX6) (bc_wat_ok (pos := 97) sorry)) hK hq hS rfl (fun j hj => by rcases (show j = 0 ∨ j = 1 ∨ j = 2 by omega) with rfl | rfl | rfl <;> rfl) (Nat.le_of_ble_eq_true rfl) (Nat.le_of_ble_eq_true rfl) dX10_27zz (fun H hq hS => ?_)
  refine lv_dup hx hb dX10_30zz rfl ?_
  refine cr_callNzz (host := "BridgeChapel") (Y := mX6_init) (rm := { frames := 4, cells := 13, slots := 146, locals := 60 }) (es := .inr (10, [.ref (q + 1), .ref (q + 15), .null, .null, .null, .null, .null, .null, .null, .int (Int32.ofInt 0), .int (Int32.ofInt 0), .int (Int32.ofInt 0)]) :: ([] ++ E6_zz cA (q + 1) ++ E6_zz cA (q + 15))) (k9 := 29) (by simp [E6_lenzz]) hx hb hml hown hts (ctX6zz l D cA) (bc_mem_W (bc_tk1 (List.mem_of_getElem? (i := 43) rfl)) rfl) (bc_watN_ok (pos := 136) (by decide +kernel)) (bc_wat_ok (pos := 97) sorry) (bc_wat_ok (pos := 137) sorry) rfl (by decide +kernel) rfl rfl ⟨Nat.le_of_ble_eq_true rfl, Nat.le_of_ble_eq_true rfl⟩ hK hq hS hl.1 (Nat.le_of_ble_eq_true rfl) dX10_31zz ⟨Nat.le_of_ble_eq_true rfl, Nat.le_of_ble_eq_true rfl⟩ (fun H locs hq hS => ?_)
  have hq : cqz_zz D q (.inr (10, [.ref (q + 1), .ref (q + 15), .null, .null, .null, .null, .null, .null, .null, .int (Int32.ofInt 0), .int (Int32.ofInt 0), .int (Int32.ofInt 0)]) :: ([] ++ E6_zz cA (q + 1) ++ E6_zz cA (q + 15) ++ E6_zz cA (q + 29))) H := hq
  refine cr_putFzz (ci := 10) (C := RX10) (T := TX10) (N := 12) hx hb hts (bc_cl_ok 10 _ rfl).1 tyX10 tyX10_ok nmX10 hown hK hq hS rfl 2 (by decide) (hts (.fieldLink RX10 19 RX10 "beforeScript" "LBridgeChapel$State;") (bc_wat_ok (pos := 400) sorry)) (fun _ h9 => h9) rfl hin rfl (ty := .object "BridgeChapel$State") (by decide +kernel) rfl rfl (Nat.le_of_ble_eq_true rfl) dX10_34zz (fun H locs hq hS => ?_)
  have hq : cqz_zz D q (.inr (10, [.ref (q + 1), .ref (q + 15), .ref (q + 29), .null, .null, .null, .null, .null, .null, .int (Int32.ofInt 0), .int (Int32.ofInt 0), .int (Int32.ofInt 0)]) :: ([] ++ E6_zz cA (q + 1) ++ E6_zz cA (q + 15) ++ E6_zz cA (q + 29))) H := hq
  refine lv_aload_n hx hb dX10_37zz rfl (lv_at hl 0 rfl) ?_
  refine cr_newzz (ci := 1) (fs := [.null, .int (Int32.ofInt 0), .int (Int32.ofInt 0)]) (C := RX1) (T := TX1) (N := 3) (k9 := 43) (by simp [E6_lenzz]) hx hb hts (bc_cl_ok 1 _ rfl).1 tyX1 tyX1_ok hown (hts (.classLink RX10 22 RX1) (bc_wat_ok (pos := 267) sorry)) (hts (.instantiable RX1 3) (bc_wat_ok (pos := 268) sorry)) (hts (.initialized RX1) (bc_wat_ok (pos := 101) sorry)) hK hq hS rfl (fun j hj => by rcases (show j = 0 ∨ j = 1 ∨ j = 2 by omega) with rfl | rfl | rfl <;> rfl) (Nat.le_of_ble_eq_true rfl) (Nat.le_of_ble_eq_true rfl) dX10_38zz (fun H hq hS => ?_)
  refine lv_dup hx hb dX10_41zz rfl ?_
  refine cr_callIzz (Y := mX1_init) (rm := { frames := 6, cells := 113, slots := 1200, locals := 120 }) (es := .inr (10, [.ref (q + 1), .ref (q + 15), .ref (q + 29), .null, .null, .null, .null, .null, .null, .int (Int32.ofInt 0), .int (Int32.ofInt 0), .int (Int32.ofInt 0)]) :: ([] ++ E6_zz cA (q + 1) ++ E6_zz cA (q + 15) ++ E6_zz cA (q + 29))) (k9 := 43) (by simp [E6_lenzz]) hx hb hml hown hts (ctX1zz l D cA) (bc_mem_W (bc_tk1 (List.mem_of_getElem? (i := 176) rfl)) rfl) (bc_wat_ok (pos := 269) sorry) (bc_wat_ok (pos := 101) sorry) (bc_wat_ok (pos := 270) sorry) rfl (by decide +kernel) rfl rfl ⟨Nat.le_of_ble_eq_true rfl, Nat.le_of_ble_eq_true rfl⟩ hK hq hS hl.1 (Nat.le_of_ble_eq_true rfl) dX10_42zz ⟨Nat.le_of_ble_eq_true rfl, Nat.le_of_ble_eq_true rfl⟩ (fun H locs hq hS => ?_)
  have hq : cqz_zz D q (.inr (10, [.ref (q + 1), .ref (q + 15), .ref (q + 29), .null, .null, .null, .null, .null, .null, .int (Int32.ofInt 0), .int (Int32.ofInt 0), .int (Int32.ofInt 0)]) :: ([] ++ E6_zz cA (q + 1) ++ E6_zz cA (q + 15) ++ E6_zz cA (q + 29) ++ E1_zz cA (q + 43))) H := hq
  refine cr_putFzz (ci := 10) (C := RX10) (T := TX10) (N := 12) hx hb hts (bc_cl_ok 10 _ rfl).1 tyX10 tyX10_ok nmX10 hown hK hq hS rfl 3 (by decide) (hts (.fieldLink RX10 25 RX10 "history" "LBridgeChapel$History;") (bc_wat_ok (pos := 401) sorry)) (fun _ h9 => h9) rfl hin rfl (ty := .object "BridgeChapel$History") (by decide +kernel) rfl rfl (Nat.le_of_ble_eq_true rfl) dX10_45zz (fun H locs hq hS => ?_)
  have hq : cqz_zz D q (.inr (10, [.ref (q + 1), .ref (q + 15), .ref (q + 29), .ref (q + 43), .null, .null, .null, .null, .null, .int (Int32.ofInt 0), .int (Int32.ofInt 0), .int (Int32.ofInt 0)]) :: ([] ++ E6_zz cA (q + 1) ++ E6_zz cA (q + 15) ++ E6_zz cA (q + 29) ++ E1_zz cA (q + 43))) H := hq
  refine lv_aload_n hx hb dX10_48zz rfl (lv_at hl 0 rfl) ?_
  refine cr_newzz (ci := 9) (fs := [.null, .null, .null, .null, .null, .int (Int32.ofInt 0)]) (C := RX9) (T := TX9) (N := 6) (k9 := 157) (by simp [E1_lenzz, E6_lenzz]) hx hb hts (bc_cl_ok 9 _ rfl).1 tyX9 tyX9_ok hown (hts (.classLink RX10 29 RX9) (bc_wat_ok (pos := 287) sorry)) (hts (.instantiable RX9 6) (bc_wat_ok (pos := 288) sorry)) (hts (.initialized RX9) (bc_wat_ok (pos := 102) sorry)) hK hq hS rfl (fun j hj => by rcases (show j = 0 ∨ j = 1 ∨ j = 2 ∨ j = 3 ∨ j = 4 ∨ j = 5 by omega) with rfl | rfl | rfl | rfl | rfl | rfl <;> rfl) (Nat.le_of_ble_eq_true rfl) (Nat.le_of_ble_eq_true rfl) dX10_49zz (fun H hq hS => ?_)
  refine lv_dup hx hb dX10_52zz rfl ?_
  refine cr_callNzz (host := "BridgeChapel") (Y := mX9_init) (rm := { frames := 2, cells := 13, slots := 104, locals := 20 }) (es := .inr (10, [.ref (q + 1), .ref (q + 15), .ref (q + 29), .ref (q + 43), .null, .null, .null, .null, .null, .int (Int32.ofInt 0), .int (Int32.ofInt 0), .int (Int32.ofInt 0)]) :: ([] ++ E6_zz cA (q + 1) ++ E6_zz cA (q + 15) ++ E6_zz cA (q + 29) ++ E1_zz cA (q + 43))) (k9 := 157) (by simp [E1_lenzz, E6_lenzz]) hx hb hml hown hts (ctX9zz l D cA) (bc_mem_W (bc_tk1 (List.mem_of_getElem? (i := 196) rfl)) rfl) (bc_watN_ok (pos := 289) (by decide +kernel)) (bc_wat_ok (pos := 102) sorry) (bc_wat_ok (pos := 290) sorry) rfl (by decide +kernel) rfl rfl ⟨Nat.le_of_ble_eq_true rfl, Nat.le_of_ble_eq_true rfl⟩ hK hq hS hl.1 (Nat.le_of_ble_eq_true rfl) dX10_53zz ⟨Nat.le_of_ble_eq_true rfl, Nat.le_of_ble_eq_true rfl⟩ (fun H locs hq hS => ?_)
  have hq : cqz_zz D q (.inr (10, [.ref (q + 1), .ref (q + 15), .ref (q + 29), .ref (q + 43), .null, .null, .null, .null, .null, .int (Int32.ofInt 0), .int (Int32.ofInt 0), .int (Int32.ofInt 0)]) :: ([] ++ E6_zz cA (q + 1) ++ E6_zz cA (q + 15) ++ E6_zz cA (q + 29) ++ E1_zz cA (q + 43) ++ E9_zz cA (q + 157))) H := hq
  refine cr_putFzz (ci := 10) (C := RX10) (T := TX10) (N := 12) hx hb hts (bc_cl_ok 10 _ rfl).1 tyX10 tyX10_ok nmX10 hown hK hq hS rfl 4 (by decide) (hts (.fieldLink RX10 32 RX10 "ways" "LBridgeChapel$Ways;") (bc_wat_ok (pos := 402) sorry)) (fun _ h9 => h9) rfl hin rfl (ty := .object "BridgeChapel$Ways") (by decide +kernel) rfl rfl (Nat.le_of_ble_eq_true rfl) dX10_56zz (fun H locs hq hS => ?_)
  have hq : cqz_zz D q (.inr (10, [.ref (q + 1), .ref (q + 15), .ref (q + 29), .ref (q + 43), .ref (q + 157), .null, .null, .null, .null, .int (Int32.ofInt 0), .int (Int32.ofInt 0), .int (Int32.ofInt 0)]) :: ([] ++ E6_zz cA (q + 1) ++ E6_zz cA (q + 15) ++ E6_zz cA (q + 29) ++ E1_zz cA (q + 43) ++ E9_zz cA (q + 157))) H := hq
  refine lv_aload_n hx hb dX10_59zz rfl (lv_at hl 0 rfl) ?_
  refine cr_newzz (ci := 0) (fs := [.null, .null, .int (Int32.ofInt 0)]) (C := RX0) (T := TX0) (N := 3) (k9 := 171) (by simp [E1_lenzz, E6_lenzz, E9_lenzz]) hx hb hts (bc_cl_ok 0 _ rfl).1 tyX0 tyX0_ok hown (hts (.classLink RX10 36 RX0) (bc_wat_ok (pos := 317) sorry)) (hts (.instantiable RX0 3) (bc_wat_ok (pos := 318) sorry)) (hts (.initialized RX0) (bc_wat_ok (pos := 103) sorry)) hK hq hS rfl (fun j hj => by rcases (show j = 0 ∨ j = 1 ∨ j = 2 by omega) with rfl | rfl | rfl <;> rfl) (Nat.le_of_ble_eq_true rfl) (Nat.le_of_ble_eq_true rfl) dX10_60zz (fun H hq hS => ?_)
  refine lv_dup hx hb dX10_63zz rfl ?_
  refine cr_callNzz (host := "BridgeChapel") (Y := mX0_init) (rm := { frames := 2, cells := 2, slots := 16, locals := 20 }) (es := .inr (10, [.ref (q + 1), .ref (q + 15), .ref (q + 29), .ref (q + 43), .ref (q + 157), .null, .null, .null, .null, .int (Int32.ofInt 0), .int (Int32.ofInt 0), .int (Int32.ofInt 0)]) :: ([] ++ E6_zz cA (q + 1) ++ E6_zz cA (q + 15) ++ E6_zz cA (q + 29) ++ E1_zz cA (q + 43) ++ E9_zz cA (q + 157))) (k9 := 171) (by simp [E1_lenzz, E6_lenzz, E9_lenzz]) hx hb hml hown hts (ctX0zz l D cA) (bc_mem_W (bc_tk1 (List.mem_of_getElem? (i := 226) rfl)) rfl) (bc_watN_ok (pos := 319) (by decide +kernel)) (bc_wat_ok (pos := 103) sorry) (bc_wat_ok (pos := 320) sorry) rfl (by decide +kernel) rfl rfl ⟨Nat.le_of_ble_eq_true rfl, Nat.le_of_ble_eq_true rfl⟩ hK hq hS hl.1 (Nat.le_of_ble_eq_true rfl) dX10_64zz ⟨Nat.le_of_ble_eq_true rfl, Nat.le_of_ble_eq_true rfl⟩ (fun H locs hq hS => ?_)
  have hq : cqz_zz D q (.inr (10, [.ref (q + 1), .ref (q + 15), .ref (q + 29), .ref (q + 43), .ref (q + 157), .null, .null, .null, .null, .int (Int32.ofInt 0), .int (Int32.ofInt 0), .int (Int32.ofInt 0)]) :: ([] ++ E6_zz cA (q + 1) ++ E6_zz cA (q + 15) ++ E6_zz cA (q + 29) ++ E1_zz cA (q + 43) ++ E9_zz cA (q + 157) ++ E0_zz cA (q + 171))) H := hq
  refine cr_putFzz (ci := 10) (C := RX10) (T := TX10) (N := 12) hx hb hts (bc_cl_ok 10 _ rfl).1 tyX10 tyX10_ok nmX10 hown hK hq hS rfl 5 (by decide) (hts (.fieldLink RX10 39 RX10 "criticalSearch" "LBridgeChapel$CriticalSearch;") (bc_wat_ok (pos := 403) sorry)) (fun _ h9 => h9) rfl hin rfl (ty := .object "BridgeChapel$CriticalSearch") (by decide +kernel) rfl rfl (Nat.le_of_ble_eq_true rfl) dX10_67zz (fun H locs hq hS => ?_)
  have hq : cqz_zz D q (.inr (10, [.ref (q + 1), .ref (q + 15), .ref (q + 29), .ref (q + 43), .ref (q + 157), .ref (q + 171), .null, .null, .null, .int (Int32.ofInt 0), .int (Int32.ofInt 0), .int (Int32.ofInt 0)]) :: ([] ++ E6_zz cA (q + 1) ++ E6_zz cA (q + 15) ++ E6_zz cA (q + 29) ++ E1_zz cA (q + 43) ++ E9_zz cA (q + 157) ++ E0_zz cA (q + 171))) H := hq
  refine lv_aload_n hx hb dX10_70zz rfl (lv_at hl 0 rfl) ?_
  refine cr_newzz (ci := 4) (fs := [.null, .null, .null, .null]) (C := RX4) (T := TX4) (N := 4) (k9 := 174) (by simp [E0_lenzz, E1_lenzz, E6_lenzz, E9_lenzz]) hx hb hts (bc_cl_ok 4 _ rfl).1 tyX4 tyX4_ok hown (hts (.classLink RX10 43 RX4) (bc_wat_ok (pos := 333) sorry)) (hts (.instantiable RX4 4) (bc_wat_ok (pos := 334) sorry)) (hts (.initialized RX4) (bc_wat_ok (pos := 104) sorry)) hK hq hS rfl (fun j hj => by rcases (show j = 0 ∨ j = 1 ∨ j = 2 ∨ j = 3 by omega) with rfl | rfl | rfl | rfl <;> rfl) (Nat.le_of_ble_eq_true rfl) (Nat.le_of_ble_eq_true rfl) dX10_71zz (fun H hq hS => ?_)
  refine lv_dup hx hb dX10_74zz rfl ?_
  refine cr_callNzz (host := "BridgeChapel") (Y := mX4_init) (rm := { frames := 2, cells := 20, slots := 160, locals := 20 }) (es := .inr (10, [.ref (q + 1), .ref (q + 15), .ref (q + 29), .ref (q + 43), .ref (q + 157), .ref (q + 171), .null, .null, .null, .int (Int32.ofInt 0), .int (Int32.ofInt 0), .int (Int32.ofInt 0)]) :: ([] ++ E6_zz cA (q + 1) ++ E6_zz cA (q + 15) ++ E6_zz cA (q + 29) ++ E1_zz cA (q + 43) ++ E9_zz cA (q + 157) ++ E0_zz cA (q + 171))) (k9 := 174) (by simp [E0_lenzz, E1_lenzz, E6_lenzz, E9_lenzz]) hx hb hml hown hts (ctX4zz l D cA) (bc_mem_W (bc_tk2 (List.mem_of_getElem? (i := 2) rfl)) rfl) (bc_watN_ok (pos := 335) (by decide +kernel)) (bc_wat_ok (pos := 104) sorry) (bc_wat_ok (pos := 336) sorry) rfl (by decide +kernel) rfl rfl ⟨Nat.le_of_ble_eq_true rfl, Nat.le_of_ble_eq_true rfl⟩ hK hq hS hl.1 (Nat.le_of_ble_eq_true rfl) dX10_75zz ⟨Nat.le_of_ble_eq_true rfl, Nat.le_of_ble_eq_true rfl⟩ (fun H locs hq hS => ?_)
  have hq : cqz_zz D q (.inr (10, [.ref (q + 1), .ref (q + 15), .ref (q + 29), .ref (q + 43), .ref (q + 157), .ref (q + 171), .null, .null, .null, .int (Int32.ofInt 0), .int (Int32.ofInt 0), .int (Int32.ofInt 0)]) :: ([] ++ E6_zz cA (q + 1) ++ E6_zz cA (q + 15) ++ E6_zz cA (q + 29) ++ E1_zz cA (q + 43) ++ E9_zz cA (q + 157) ++ E0_zz cA (q + 171) ++ E4_zz cA (q + 174))) H := hq
  refine cr_putFzz (ci := 10) (C := RX10) (T := TX10) (N := 12) hx hb hts (bc_cl_ok 10 _ rfl).1 tyX10 tyX10_ok nmX10 hown hK hq hS rfl 6 (by decide) (hts (.fieldLink RX10 46 RX10 "repairPlan" "LBridgeChapel$RepairPlan;") (bc_wat_ok (pos := 404) sorry)) (fun _ h9 => h9) rfl hin rfl (ty := .object "BridgeChapel$RepairPlan") (by decide +kernel) rfl rfl (Nat.le_of_ble_eq_true rfl) dX10_78zz (fun H locs hq hS => ?_)
  have hq : cqz_zz D q (.inr (10, [.ref (q + 1), .ref (q + 15), .ref (q + 29), .ref (q + 43), .ref (q + 157), .ref (q + 171), .ref (q + 174), .null, .null, .int (Int32.ofInt 0), .int (Int32.ofInt 0), .int (Int32.ofInt 0)]) :: ([] ++ E6_zz cA (q + 1) ++ E6_zz cA (q + 15) ++ E6_zz cA (q + 29) ++ E1_zz cA (q + 43) ++ E9_zz cA (q + 157) ++ E0_zz cA (q + 171) ++ E4_zz cA (q + 174))) H := hq
  refine lv_aload_n hx hb dX10_81zz rfl (lv_at hl 0 rfl) ?_
  refine cr_newzz (ci := 5) (fs := [.null, .null, .null, .int (Int32.ofInt 0), .int (Int32.ofInt 0)]) (C := RX5) (T := TX5) (N := 5) (k9 := 195) (by simp [E0_lenzz, E1_lenzz, E4_lenzz, E6_lenzz, E9_lenzz]) hx hb hts (bc_cl_ok 5 _ rfl).1 tyX5 tyX5_ok hown (hts (.classLink RX10 50 RX5) (bc_wat_ok (pos := 354) sorry)) (hts (.instantiable RX5 5) (bc_wat_ok (pos := 355) sorry)) (hts (.initialized RX5) (bc_wat_ok (pos := 105) sorry)) hK hq hS rfl (fun j hj => by rcases (show j = 0 ∨ j = 1 ∨ j = 2 ∨ j = 3 ∨ j = 4 by omega) with rfl | rfl | rfl | rfl | rfl <;> rfl) (Nat.le_of_ble_eq_true rfl) (Nat.le_of_ble_eq_true rfl) dX10_82zz (fun H hq hS => ?_)
  refine lv_dup hx hb dX10_85zz rfl ?_
  refine cr_callNzz (host := "BridgeChapel") (Y := mX5_init) (rm := { frames := 4, cells := 20, slots := 142, locals := 60 }) (es := .inr (10, [.ref (q + 1), .ref (q + 15), .ref (q + 29), .ref (q + 43), .ref (q + 157), .ref (q + 171), .ref (q + 174), .null, .null, .int (Int32.ofInt 0), .int (Int32.ofInt 0), .int (Int32.ofInt 0)]) :: ([] ++ E6_zz cA (q + 1) ++ E6_zz cA (q + 15) ++ E6_zz cA (q + 29) ++ E1_zz cA (q + 43) ++ E9_zz cA (q + 157) ++ E0_zz cA (q + 171) ++ E4_zz cA (q + 174))) (k9 := 195) (by simp [E0_lenzz, E1_lenzz, E4_lenzz, E6_lenzz, E9_lenzz]) hx hb hml hown hts (ctX5zz l D cA) (bc_mem_W (bc_tk2 (List.mem_of_getElem? (i := 23) rfl)) rfl) (bc_watN_ok (pos := 356) (by decide +kernel)) (bc_wat_ok (pos := 105) sorry) (bc_wat_ok (pos := 357) sorry) rfl (by decide +kernel) rfl rfl ⟨Nat.le_of_ble_eq_true rfl, Nat.le_of_ble_eq_true rfl⟩ hK hq hS hl.1 (Nat.le_of_ble_eq_true rfl) dX10_86zz ⟨Nat.le_of_ble_eq_true rfl, Nat.le_of_ble_eq_true rfl⟩ (fun H locs hq hS => ?_)
  have hq : cqz_zz D q (.inr (10, [.ref (q + 1), .ref (q + 15), .ref (q + 29), .ref (q + 43), .ref (q + 157), .ref (q + 171), .ref (q + 174), .null, .null, .int (Int32.ofInt 0), .int (Int32.ofInt 0), .int (Int32.ofInt 0)]) :: ([] ++ E6_zz cA (q + 1) ++ E6_zz cA (q + 15) ++ E6_zz cA (q + 29) ++ E1_zz cA (q + 43) ++ E9_zz cA (q + 157) ++ E0_zz cA (q + 171) ++ E4_zz cA (q + 174) ++ E5_zz cA (q + 195))) H := hq
  refine cr_putFzz (ci := 10) (C := RX10) (T := TX10) (N := 12) hx hb hts (bc_cl_ok 10 _ rfl).1 tyX10 tyX10_ok nmX10 hown hK hq hS rfl 7 (by decide) (hts (.fieldLink RX10 53 RX10 "script" "LBridgeChapel$Script;") (bc_wat_ok (pos := 405) sorry)) (fun _ h9 => h9) rfl hin rfl (ty := .object "BridgeChapel$Script") (by decide +kernel) rfl rfl (Nat.le_of_ble_eq_true rfl) dX10_89zz (fun H locs hq hS => ?_)
  have hq : cqz_zz D q (.inr (10, [.ref (q + 1), .ref (q + 15), .ref (q + 29), .ref (q + 43), .ref (q + 157), .ref (q + 171), .ref (q + 174), .ref (q + 195), .null, .int (Int32.ofInt 0), .int (Int32.ofInt 0), .int (Int32.ofInt 0)]) :: ([] ++ E6_zz cA (q + 1) ++ E6_zz cA (q + 15) ++ E6_zz cA (q + 29) ++ E1_zz cA (q + 43) ++ E9_zz cA (q + 157) ++ E0_zz cA (q + 171) ++ E4_zz cA (q + 174) ++ E5_zz cA (q + 195))) H := hq
  refine lv_aload_n hx hb dX10_92zz rfl (lv_at hl 0 rfl) ?_
  refine cr_newzz (ci := 7) (fs := [.null, .int (Int32.ofInt 0)]) (C := RX7) (T := TX7) (N := 2) (k9 := 216) (by simp [E0_lenzz, E1_lenzz, E4_lenzz, E5_lenzz, E6_lenzz, E9_lenzz]) hx hb hts (bc_cl_ok 7 _ rfl).1 tyX7 tyX7_ok hown (hts (.classLink RX10 57 RX7) (bc_wat_ok (pos := 396) sorry)) (hts (.instantiable RX7 2) (bc_wat_ok (pos := 361) sorry)) (hts (.initialized RX7) (bc_wat_ok (pos := 106) sorry)) hK hq hS rfl (fun j hj => by rcases (show j = 0 ∨ j = 1 by omega) with rfl | rfl <;> rfl) (Nat.le_of_ble_eq_true rfl) (Nat.le_of_ble_eq_true rfl) dX10_93zz (fun H hq hS => ?_)
  refine lv_dup hx hb dX10_96zz rfl ?_
  refine cr_callNzz (host := "BridgeChapel") (Y := mX7_init) (rm := { frames := 2, cells := 1, slots := 60, locals := 20 }) (es := .inr (10, [.ref (q + 1), .ref (q + 15), .ref (q + 29), .ref (q + 43), .ref (q + 157), .ref (q + 171), .ref (q + 174), .ref (q + 195), .null, .int (Int32.ofInt 0), .int (Int32.ofInt 0), .int (Int32.ofInt 0)]) :: ([] ++ E6_zz cA (q + 1) ++ E6_zz cA (q + 15) ++ E6_zz cA (q + 29) ++ E1_zz cA (q + 43) ++ E9_zz cA (q + 157) ++ E0_zz cA (q + 171) ++ E4_zz cA (q + 174) ++ E5_zz cA (q + 195))) (k9 := 216) (by simp [E0_lenzz, E1_lenzz, E4_lenzz, E5_lenzz, E6_lenzz, E9_lenzz]) hx hb hml hown hts (ctX7zz l D cA) (bc_mem_W (bc_tk2 (List.mem_of_getElem? (i := 29) rfl)) rfl) (bc_watN_ok (pos := 397) (by decide +kernel)) (bc_wat_ok (pos := 106) sorry) (bc_wat_ok (pos := 363) sorry) rfl (by decide +kernel) rfl rfl ⟨Nat.le_of_ble_eq_true rfl, Nat.le_of_ble_eq_true rfl⟩ hK hq hS hl.1 (Nat.le_of_ble_eq_true rfl) dX10_97zz ⟨Nat.le_of_ble_eq_true rfl, Nat.le_of_ble_eq_true rfl⟩ (fun H locs hq hS => ?_)
  have hq : cqz_zz D q (.inr (10, [.ref (q + 1), .ref (q + 15), .ref (q + 29), .ref (q + 43), .ref (q + 157), .ref (q + 171), .ref (q + 174), .ref (q + 195), .null, .int (Int32.ofInt 0), .int (Int32.ofInt 0), .int (Int32.ofInt 0)]) :: ([] ++ E6_zz cA (q + 1) ++ E6_zz cA (q + 15) ++ E6_zz cA (q + 29) ++ E1_zz cA (q + 43) ++ E9_zz cA (q + 157) ++ E0_zz cA (q + 171) ++ E4_zz cA (q + 174) ++ E5_zz cA (q + 195) ++ E7_zz cA (q + 216))) H := hq
  refine cr_putFzz (ci := 10) (C := RX10) (T := TX10) (N := 12) hx hb hts (bc_cl_ok 10 _ rfl).1 tyX10 tyX10_ok nmX10 hown hK hq hS rfl 8 (by decide) (hts (.fieldLink RX10 60 RX10 "output" "LBridgeChapel$Text;") (bc_wat_ok (pos := 406) sorry)) (fun _ h9 => h9) rfl hin rfl (ty := .object "BridgeChapel$Text") (by decide +kernel) rfl rfl (Nat.le_of_ble_eq_true rfl) dX10_100zz (fun H locs hq hS => ?_)
  have hq : cqz_zz D q (.inr (10, [.ref (q + 1), .ref (q + 15), .ref (q + 29), .ref (q + 43), .ref (q + 157), .ref (q + 171), .ref (q + 174), .ref (q + 195), .ref (q + 216), .int (Int32.ofInt 0), .int (Int32.ofInt 0), .int (Int32.ofInt 0)]) :: ([] ++ E6_zz cA (q + 1) ++ E6_zz cA (q + 15) ++ E6_zz cA (q + 29) ++ E1_zz cA (q + 43) ++ E9_zz cA (q + 157) ++ E0_zz cA (q + 171) ++ E4_zz cA (q + 174) ++ E5_zz cA (q + 195) ++ E7_zz cA (q + 216))) H := hq
  refine lv_aload_n hx hb dX10_103zz rfl (lv_at hl 0 rfl) ?_
  refine lv_iconst (v := Int32.ofInt 0) hx hb dX10_104zz (by decide) ?_
  refine cr_putzz (ci := 10) (C := RX10) (T := TX10) (N := 12) hx hb hts (bc_cl_ok 10 _ rfl).1 tyX10 tyX10_ok nmX10 hown hK hq hS rfl 9 (by decide) (hts (.fieldLink RX10 64 RX10 "hasSnapshot" "Z") (bc_wat_ok (pos := 407) sorry)) (fun _ h9 => h9) rfl (ty := .boolean) (by decide +kernel) rfl rfl (Nat.le_of_ble_eq_true rfl) dX10_105zz (fun H locs hq hS => ?_)
  have hq : cqz_zz D q (.inr (10, [.ref (q + 1), .ref (q + 15), .ref (q + 29), .ref (q + 43), .ref (q + 157), .ref (q + 171), .ref (q + 174), .ref (q + 195), .ref (q + 216), .int (Int32.ofInt 0), .int (Int32.ofInt 0), .int (Int32.ofInt 0)]) :: ([] ++ E6_zz cA (q + 1) ++ E6_zz cA (q + 15) ++ E6_zz cA (q + 29) ++ E1_zz cA (q + 43) ++ E9_zz cA (q + 157) ++ E0_zz cA (q + 171) ++ E4_zz cA (q + 174) ++ E5_zz cA (q + 195) ++ E7_zz cA (q + 216))) H := hq
  refine lv_aload_n hx hb dX10_108zz rfl (lv_at hl 0 rfl) ?_
  refine lv_iconst (v := Int32.ofInt (-1)) hx hb dX10_109zz (by decide) ?_
  refine cr_putzz (ci := 10) (C := RX10) (T := TX10) (N := 12) hx hb hts (bc_cl_ok 10 _ rfl).1 tyX10 tyX10_ok nmX10 hown hK hq hS rfl 10 (by decide) (hts (.fieldLink RX10 68 RX10 "lastErrorPosition" "I") (bc_wat_ok (pos := 408) sorry)) (fun _ h9 => h9) rfl (ty := .int) (by decide +kernel) rfl rfl (Nat.le_of_ble_eq_true rfl) dX10_110zz (fun H locs hq hS => ?_)
  have hq : cqz_zz D q (.inr (10, [.ref (q + 1), .ref (q + 15), .ref (q + 29), .ref (q + 43), .ref (q + 157), .ref (q + 171), .ref (q + 174), .ref (q + 195), .ref (q + 216), .int (Int32.ofInt 0), .int (Int32.ofInt (-1)), .int (Int32.ofInt 0)]) :: ([] ++ E6_zz cA (q + 1) ++ E6_zz cA (q + 15) ++ E6_zz cA (q + 29) ++ E1_zz cA (q + 43) ++ E9_zz cA (q + 157) ++ E0_zz cA (q + 171) ++ E4_zz cA (q + 174) ++ E5_zz cA (q + 195) ++ E7_zz cA (q + 216))) H := hq
  refine lv_aload_n hx hb dX10_113zz rfl (lv_at hl 0 rfl) ?_
  refine lv_iconst (v := Int32.ofInt (-1)) hx hb dX10_114zz (by decide) ?_
  refine cr_putzz (ci := 10) (C := RX10) (T := TX10) (N := 12) hx hb hts (bc_cl_ok 10 _ rfl).1 tyX10 tyX10_ok nmX10 hown hK hq hS rfl 11 (by decide) (hts (.fieldLink RX10 72 RX10 "lastFailedCommand" "I") (bc_wat_ok (pos := 409) sorry)) (fun _ h9 => h9) rfl (ty := .int) (by decide +kernel) rfl rfl (Nat.le_of_ble_eq_true rfl) dX10_115zz (fun H locs hq hS => ?_)
  have hq : cqz_zz D q (.inr (10, [.ref (q + 1), .ref (q + 15), .ref (q + 29), .ref (q + 43), .ref (q + 157), .ref (q + 171), .ref (q + 174), .ref (q + 195), .ref (q + 216), .int (Int32.ofInt 0), .int (Int32.ofInt (-1)), .int (Int32.ofInt (-1))]) :: ([] ++ E6_zz cA (q + 1) ++ E6_zz cA (q + 15) ++ E6_zz cA (q + 29) ++ E1_zz cA (q + 43) ++ E9_zz cA (q + 157) ++ E0_zz cA (q + 171) ++ E4_zz cA (q + 174) ++ E5_zz cA (q + 195) ++ E7_zz cA (q + 216))) H := hq
  refine W.widen (k := 217) (n := 2152) (Nat.le_of_ble_eq_true rfl) (Nat.le_of_ble_eq_true rfl) ?_
  exact W.vret hx hb hr (fun t ht hW => ⟨⟨(), rfl, trivial, by show cqz_zz D q (E10_zz cA q) t.heap; rw [ht]; exact hq⟩, hS.F ht⟩) hS.2.2 dX10_118zz
theorem zX11_inzz : ∀ pc, 115 ≤ pc → pX11_init pc = none := fun _ h => by unfold pX11_init; exact bc_cut_none h
theorem dX11_0zz : decode cX11_init 0 = .ok (.aload_n 0, 1) := ((bc_dec_ok kX11_init zX11_inzz) 0 _ _ _ rfl).1
theorem dX11_1zz : decode cX11_init 1 = .ok (.invokespecial 3, 3) := ((bc_dec_ok kX11_init zX11_inzz) 1 _ _ _ rfl).1
theorem dX11_4zz : decode cX11_init 4 = .ok (.aload_n 0, 1) := ((bc_dec_ok kX11_init zX11_inzz) 4 _ _ _ rfl).1
theorem dX11_5zz : decode cX11_init 5 = .ok (.sipush 136, 3) := ((bc_dec_ok kX11_init zX11_inzz) 5 _ _ _ rfl).1
theorem dX11_8zz : decode cX11_init 8 = .ok (.newarray .int, 2) := ((bc_dec_ok kX11_init zX11_inzz) 8 _ _ _ rfl).1
theorem dX11_10zz : decode cX11_init 10 = .ok (.putfield 9, 3) := ((bc_dec_ok kX11_init zX11_inzz) 10 _ _ _ rfl).1
theorem dX11_13zz : decode cX11_init 13 = .ok (.aload_n 0, 1) := ((bc_dec_ok kX11_init zX11_inzz) 13 _ _ _ rfl).1
theorem dX11_14zz : decode cX11_init 14 = .ok (.sipush 136, 3) := ((bc_dec_ok kX11_init zX11_inzz) 14 _ _ _ rfl).1
theorem dX11_17zz : decode cX11_init 17 = .ok (.newarray .int, 2) := ((bc_dec_ok kX11_init zX11_inzz) 17 _ _ _ rfl).1
theorem dX11_19zz : decode cX11_init 19 = .ok (.putfield 13, 3) := ((bc_dec_ok kX11_init zX11_inzz) 19 _ _ _ rfl).1
theorem dX11_22zz : decode cX11_init 22 = .ok (.aload_n 0, 1) := ((bc_dec_ok kX11_init zX11_inzz) 22 _ _ _ rfl).1
theorem dX11_23zz : decode cX11_init 23 = .ok (.sipush 136, 3) := ((bc_dec_ok kX11_init zX11_inzz) 23 _ _ _ rfl).1
theorem dX11_26zz : decode cX11_init 26 = .ok (.newarray .int, 2) := ((bc_dec_ok kX11_init zX11_inzz) 26 _ _ _ rfl).1
theorem dX11_28zz : decode cX11_init 28 = .ok (.putfield 16, 3) := ((bc_dec_ok kX11_init zX11_inzz) 28 _ _ _ rfl).1
theorem dX11_31zz : decode cX11_init 31 = .ok (.aload_n 0, 1) := ((bc_dec_ok kX11_init zX11_inzz) 31 _ _ _ rfl).1
theorem dX11_32zz : decode cX11_init 32 = .ok (.sipush 1088, 3) := ((bc_dec_ok kX11_init zX11_inzz) 32 _ _ _ rfl).1
theorem dX11_35zz : decode cX11_init 35 = .ok (.newarray .int, 2) := ((bc_dec_ok kX11_init zX11_inzz) 35 _ _ _ rfl).1
theorem dX11_37zz : decode cX11_init 37 = .ok (.putfield 19, 3) := ((bc_dec_ok kX11_init zX11_inzz) 37 _ _ _ rfl).1
theorem dX11_40zz : decode cX11_init 40 = .ok (.aload_n 0, 1) := ((bc_dec_ok kX11_init zX11_inzz) 40 _ _ _ rfl).1
theorem dX11_41zz : decode cX11_init 41 = .ok (.iconst (-1), 1) := ((bc_dec_ok kX11_init zX11_inzz) 41 _ _ _ rfl).1
theorem dX11_42zz : decode cX11_init 42 = .ok (.putfield 22, 3) := ((bc_dec_ok kX11_init zX11_inzz) 42 _ _ _ rfl).1
theorem dX11_45zz : decode cX11_init 45 = .ok (.aload_n 0, 1) := ((bc_dec_ok kX11_init zX11_inzz) 45 _ _ _ rfl).1
theorem dX11_46zz : decode cX11_init 46 = .ok (.iconst (-1), 1) := ((bc_dec_ok kX11_init zX11_inzz) 46 _ _ _ rfl).1
theorem dX11_47zz : decode cX11_init 47 = .ok (.putfield 26, 3) := ((bc_dec_ok kX11_init zX11_inzz) 47 _ _ _ rfl).1
theorem dX11_50zz : decode cX11_init 50 = .ok (.aload_n 0, 1) := ((bc_dec_ok kX11_init zX11_inzz) 50 _ _ _ rfl).1
theorem dX11_51zz : decode cX11_init 51 = .ok (.bipush 8, 2) := ((bc_dec_ok kX11_init zX11_inzz) 51 _ _ _ rfl).1
theorem dX11_53zz : decode cX11_init 53 = .ok (.newarray .int, 2) := ((bc_dec_ok kX11_init zX11_inzz) 53 _ _ _ rfl).1
theorem dX11_55zz : decode cX11_init 55 = .ok (.putfield 29, 3) := ((bc_dec_ok kX11_init zX11_inzz) 55 _ _ _ rfl).1
theorem dX11_58zz : decode cX11_init 58 = .ok (.aload_n 0, 1) := ((bc_dec_ok kX11_init zX11_inzz) 58 _ _ _ rfl).1
theorem dX11_59zz : decode cX11_init 59 = .ok (.bipush 9, 2) := ((bc_dec_ok kX11_init zX11_inzz) 59 _ _ _ rfl).1
theorem dX11_61zz : decode cX11_init 61 = .ok (.newarray .int, 2) := ((bc_dec_ok kX11_init zX11_inzz) 61 _ _ _ rfl).1
theorem dX11_63zz : decode cX11_init 63 = .ok (.putfield 32, 3) := ((bc_dec_ok kX11_init zX11_inzz) 63 _ _ _ rfl).1
theorem dX11_66zz : decode cX11_init 66 = .ok (.aload_n 0, 1) := ((bc_dec_ok kX11_init zX11_inzz) 66 _ _ _ rfl).1
theorem dX11_67zz : decode cX11_init 67 = .ok (.bipush 60, 2) := ((bc_dec_ok kX11_init zX11_inzz) 67 _ _ _ rfl).1
theorem dX11_69zz : decode cX11_init 69 = .ok (.newarray .int, 2) := ((bc_dec_ok kX11_init zX11_inzz) 69 _ _ _ rfl).1
theorem dX11_71zz : decode cX11_init 71 = .ok (.putfield 35, 3) := ((bc_dec_ok kX11_init zX11_inzz) 71 _ _ _ rfl).1
theorem dX11_74zz : decode cX11_init 74 = .ok (.aload_n 0, 1) := ((bc_dec_ok kX11_init zX11_inzz) 74 _ _ _ rfl).1
theorem dX11_75zz : decode cX11_init 75 = .ok (.bipush 60, 2) := ((bc_dec_ok kX11_init zX11_inzz) 75 _ _ _ rfl).1
theorem dX11_77zz : decode cX11_init 77 = .ok (.newarray .int, 2) := ((bc_dec_ok kX11_init zX11_inzz) 77 _ _ _ rfl).1
theorem dX11_79zz : decode cX11_init 79 = .ok (.putfield 38, 3) := ((bc_dec_ok kX11_init zX11_inzz) 79 _ _ _ rfl).1
theorem dX11_82zz : decode cX11_init 82 = .ok (.aload_n 0, 1) := ((bc_dec_ok kX11_init zX11_inzz) 82 _ _ _ rfl).1
theorem dX11_83zz : decode cX11_init 83 = .ok (.bipush 120, 2) := ((bc_dec_ok kX11_init zX11_inzz) 83 _ _ _ rfl).1
theorem dX11_85zz : decode cX11_init 85 = .ok (.newarray .int, 2) := ((bc_dec_ok kX11_init zX11_inzz) 85 _ _ _ rfl).1
theorem dX11_87zz : decode cX11_init 87 = .ok (.putfield 41, 3) := ((bc_dec_ok kX11_init zX11_inzz) 87 _ _ _ rfl).1
theorem dX11_90zz : decode cX11_init 90 = .ok (.aload_n 0, 1) := ((bc_dec_ok kX11_init zX11_inzz) 90 _ _ _ rfl).1
theorem dX11_91zz : decode cX11_init 91 = .ok (.getfield 9, 3) := ((bc_dec_ok kX11_init zX11_inzz) 91 _ _ _ rfl).1
theorem dX11_94zz : decode cX11_init 94 = .ok (.iconst 1, 1) := ((bc_dec_ok kX11_init zX11_inzz) 94 _ _ _ rfl).1
theorem dX11_95zz : decode cX11_init 95 = .ok (.bipush 30, 2) := ((bc_dec_ok kX11_init zX11_inzz) 95 _ _ _ rfl).1
theorem dX11_97zz : decode cX11_init 97 = .ok (.iastore, 1) := ((bc_dec_ok kX11_init zX11_inzz) 97 _ _ _ rfl).1
theorem dX11_98zz : decode cX11_init 98 = .ok (.aload_n 0, 1) := ((bc_dec_ok kX11_init zX11_inzz) 98 _ _ _ rfl).1
theorem dX11_99zz : decode cX11_init 99 = .ok (.getfield 9, 3) := ((bc_dec_ok kX11_init zX11_inzz) 99 _ _ _ rfl).1
theorem dX11_102zz : decode cX11_init 102 = .ok (.iconst 2, 1) := ((bc_dec_ok kX11_init zX11_inzz) 102 _ _ _ rfl).1
theorem dX11_103zz : decode cX11_init 103 = .ok (.iconst 5, 1) := ((bc_dec_ok kX11_init zX11_inzz) 103 _ _ _ rfl).1
theorem dX11_104zz : decode cX11_init 104 = .ok (.iastore, 1) := ((bc_dec_ok kX11_init zX11_inzz) 104 _ _ _ rfl).1
theorem dX11_105zz : decode cX11_init 105 = .ok (.aload_n 0, 1) := ((bc_dec_ok kX11_init zX11_inzz) 105 _ _ _ rfl).1
theorem dX11_106zz : decode cX11_init 106 = .ok (.getfield 9, 3) := ((bc_dec_ok kX11_init zX11_inzz) 106 _ _ _ rfl).1
theorem dX11_109zz : decode cX11_init 109 = .ok (.bipush 11, 2) := ((bc_dec_ok kX11_init zX11_inzz) 109 _ _ _ rfl).1
theorem dX11_111zz : decode cX11_init 111 = .ok (.bipush 99, 2) := ((bc_dec_ok kX11_init zX11_inzz) 111 _ _ _ rfl).1
theorem dX11_113zz : decode cX11_init 113 = .ok (.iastore, 1) := ((bc_dec_ok kX11_init zX11_inzz) 113 _ _ _ rfl).1
theorem dX11_114zz : decode cX11_init 114 = .ok (.return_, 1) := ((bc_dec_ok kX11_init zX11_inzz) 114 _ _ _ rfl).1
noncomputable def E11_zz (cA : Nat → ClassId) (q : Nat) : List va_E := .inr (11, [.ref (q + 1), .ref (q + 2), .ref (q + 3), .ref (q + 4), .int (Int32.ofInt 0), .int (Int32.ofInt 0), .int (Int32.ofInt (-1)), .int (Int32.ofInt (-1)), .ref (q + 5), .ref (q + 6), .ref (q + 7), .int (Int32.ofInt 0), .ref (q + 8), .int (Int32.ofInt 0), .int (Int32.ofInt 0), .int (Int32.ofInt 0), .int (Int32.ofInt 0), .int (Int32.ofInt 0), .int (Int32.ofInt 0), .ref (q + 9)]) :: ([] ++ [.inl (cA 0, 136, .inl (upd (upd (upd (fun _ => Int32.ofInt 0) 1 (Int32.ofInt 30)) 2 (Int32.ofInt 5)) 11 (Int32.ofInt 99)))] ++ [.inl (cA 0, 136, .inl (fun _ => Int32.ofInt 0))] ++ [.inl (cA 0, 136, .inl (fun _ => Int32.ofInt 0))] ++ [.inl (cA 0, 1088, .inl (fun _ => Int32.ofInt 0))] ++ [.inl (cA 0, 8, .inl (fun _ => Int32.ofInt 0))] ++ [.inl (cA 0, 9, .inl (fun _ => Int32.ofInt 0))] ++ [.inl (cA 0, 60, .inl (fun _ => Int32.ofInt 0))] ++ [.inl (cA 0, 60, .inl (fun _ => Int32.ofInt 0))] ++ [.inl (cA 0, 120, .inl (fun _ => Int32.ofInt 0))])
theorem E11_lenzz (cA : Nat → ClassId) (q : Nat) : (E11_zz cA q).length = 10 := by simp [E11_zz]
set_option maxHeartbeats 4000000 in
set_option maxRecDepth 100000 in
theorem ctX11zz (l : Launch) (D : va_G) (cA : Nat → ClassId) : ctc_zz l D cA mX11_init { frames := 2, cells := 9, slots := 1753, locals := 20 } (.inr (11, [.null, .null, .null, .null, .int (Int32.ofInt 0), .int (Int32.ofInt 0), .int (Int32.ofInt 0), .int (Int32.ofInt 0), .null, .null, .null, .int (Int32.ofInt 0), .null, .int (Int32.ofInt 0), .int (Int32.ofInt 0), .int (Int32.ofInt 0), .int (Int32.ofInt 0), .int (Int32.ofInt 0), .int (Int32.ofInt 0), .null])) (fun q => E11_zz cA q) 9 1753 := by
  intro q
  refine Met.ofW (cc := cX11_init) (maxL := 1) (ret := none) (by decide) rfl ?_
  intro p e s m args below meth c s₁ B hml hv
  obtain ⟨rfl, hq, hK⟩ := hv
  have hx := B.exec
  have hb := B.bytes
  have hr := B.returns
  have hts0 := atoms_spec (ws := ctW_zz mX11_init) B.pre
  have hts : ∀ w ∈ bc_W, w.before [Value.ref q].toArray s = true := fun w hw => hts0 w (List.mem_cons_of_mem _ hw)
  have hown : s.vm.findClass RX11 = some m.cls := findClass_of_methodNamed B.named
  have hlocks := B.notSynchronized
  have hin : meth.name = "<init>" := (name_of_methodNamed B.named B.method).1
  have hS : va_S (fun a => q ≤ a) s.heap s.heap [] := va_S.rf
  have hl := lv_entry ([.ref q]) (n := 1) (Nat.le_of_ble_eq_true rfl)
  rw [lg_entry_eq]
  generalize (lg_sl ([.ref q]) ++ List.replicate (1 - (lg_sl ([.ref q])).length) Slot.unset).toArray = ls at hl ⊢
  have hl : lv_has ls 1 [(0, .ref q)] := hl
  have hq : cqz_zz D q (.inr (11, [.null, .null, .null, .null, .int (Int32.ofInt 0), .int (Int32.ofInt 0), .int (Int32.ofInt 0), .int (Int32.ofInt 0), .null, .null, .null, .int (Int32.ofInt 0), .null, .int (Int32.ofInt 0), .int (Int32.ofInt 0), .int (Int32.ofInt 0), .int (Int32.ofInt 0), .int (Int32.ofInt 0), .int (Int32.ofInt 0), .null]) :: []) s.heap := hq
  refine lv_aload_n hx hb dX11_0zz rfl (lv_at hl 0 rfl) ?_
  refine W.objInit hx hb hown (hts (.methodLink RX11 3 objectInit) (bc_wat_ok (pos := 1475) sorry)) (hts (.instanceMethod objectInit) (bc_wat_ok (pos := 132) sorry)) (hts _ (bc_wat_ok (pos := 133) sorry)) rfl (by rw [hml]; exact hl.1) rfl dX11_1zz (Nat.le_of_ble_eq_true rfl) (Nat.le_of_ble_eq_true rfl) ?_
  refine W.eq (g2 := F0 m 4 ls []) rfl ?_
  refine lv_aload_n hx hb dX11_4zz rfl (lv_at hl 0 rfl) ?_
  refine lv_sipush (v := Int32.ofInt 136) hx hb dX11_5zz (by decide) ?_
  refine cr_newazz (atype := .int) (cI := cA 0) (n := Int32.ofInt 136) (N' := 136) (a0 := (136, .inl (fun _ => Int32.ofInt 0))) (k9 := 1) rfl hx hb (hts (.arrayClass .int) (bc_wat_ok (pos := 183) sorry)) (hK.1.2 0 _ rfl).2 hq hS rfl (by decide) (by decide) (Nat.le_of_ble_eq_true rfl) (Nat.le_of_ble_eq_true rfl) (Nat.le_of_ble_eq_true rfl) dX11_8zz (fun H hq hS => ?_)
  have hq : cqz_zz D q (.inr (11, [.null, .null, .null, .null, .int (Int32.ofInt 0), .int (Int32.ofInt 0), .int (Int32.ofInt 0), .int (Int32.ofInt 0), .null, .null, .null, .int (Int32.ofInt 0), .null, .int (Int32.ofInt 0), .int (Int32.ofInt 0), .int (Int32.ofInt 0), .int (Int32.ofInt 0), .int (Int32.ofInt 0), .int (Int32.ofInt 0), .null]) :: ([] ++ [.inl (cA 0, 136, .inl (fun _ => Int32.ofInt 0))])) H := hq
  refine cr_putFzz (ci := 11) (C := RX11) (T := TX11) (N := 20) hx hb hts (bc_cl_ok 11 _ rfl).1 tyX11 tyX11_ok nmX11 hown hK hq hS rfl 0 (by decide) (hts (.fieldLink RX11 9 RX11 "now" "[I") (bc_wat_ok (pos := 1476) sorry)) (fun _ h9 => h9) rfl hin rfl (ty := .array .int) (by decide +kernel) rfl rfl (Nat.le_of_ble_eq_true rfl) dX11_10zz (fun H locs hq hS => ?_)
  have hq : cqz_zz D q (.inr (11, [.ref (q + 1), .null, .null, .null, .int (Int32.ofInt 0), .int (Int32.ofInt 0), .int (Int32.ofInt 0), .int (Int32.ofInt 0), .null, .null, .null, .int (Int32.ofInt 0), .null, .int (Int32.ofInt 0), .int (Int32.ofInt 0), .int (Int32.ofInt 0), .int (Int32.ofInt 0), .int (Int32.ofInt 0), .int (Int32.ofInt 0), .null]) :: ([] ++ [.inl (cA 0, 136, .inl (fun _ => Int32.ofInt 0))])) H := hq
  refine lv_aload_n hx hb dX11_13zz rfl (lv_at hl 0 rfl) ?_
  refine lv_sipush (v := Int32.ofInt 136) hx hb dX11_14zz (by decide) ?_
  refine cr_newazz (atype := .int) (cI := cA 0) (n := Int32.ofInt 136) (N' := 136) (a0 := (136, .inl (fun _ => Int32.ofInt 0))) (k9 := 2) rfl hx hb (hts (.arrayClass .int) (bc_wat_ok (pos := 183) sorry)) (hK.1.2 0 _ rfl).2 hq hS rfl (by decide) (by decide) (Nat.le_of_ble_eq_true rfl) (Nat.le_of_ble_eq_true rfl) (Nat.le_of_ble_eq_true rfl) dX11_17zz (fun H hq hS => ?_)
  have hq : cqz_zz D q (.inr (11, [.ref (q + 1), .null, .null, .null, .int (Int32.ofInt 0), .int (Int32.ofInt 0), .int (Int32.ofInt 0), .int (Int32.ofInt 0), .null, .null, .null, .int (Int32.ofInt 0), .null, .int (Int32.ofInt 0), .int (Int32.ofInt 0), .int (Int32.ofInt 0), .int (Int32.ofInt 0), .int (Int32.ofInt 0), .int (Int32.ofInt 0), .null]) :: ([] ++ [.inl (cA 0, 136, .inl (fun _ => Int32.ofInt 0))] ++ [.inl (cA 0, 136, .inl (fun _ => Int32.ofInt 0))])) H := hq
  refine cr_putFzz (ci := 11) (C := RX11) (T := TX11) (N := 20) hx hb hts (bc_cl_ok 11 _ rfl).1 tyX11 tyX11_ok nmX11 hown hK hq hS rfl 1 (by decide) (hts (.fieldLink RX11 13 RX11 "before" "[I") (bc_wat_ok (pos := 1477) sorry)) (fun _ h9 => h9) rfl hin rfl (ty := .array .int) (by decide +kernel) rfl rfl (Nat.le_of_ble_eq_true rfl) dX11_19zz (fun H locs hq hS => ?_)
  have hq : cqz_zz D q (.inr (11, [.ref (q + 1), .ref (q + 2), .null, .null, .int (Int32.ofInt 0), .int (Int32.ofInt 0), .int (Int32.ofInt 0), .int (Int32.ofInt 0), .null, .null, .null, .int (Int32.ofInt 0), .null, .int (Int32.ofInt 0), .int (Int32.ofInt 0), .int (Int32.ofInt 0), .int (Int32.ofInt 0), .int (Int32.ofInt 0), .int (Int32.ofInt 0), .null]) :: ([] ++ [.inl (cA 0, 136, .inl (fun _ => Int32.ofInt 0))] ++ [.inl (cA 0, 136, .inl (fun _ => Int32.ofInt 0))])) H := hq
  refine lv_aload_n hx hb dX11_22zz rfl (lv_at hl 0 rfl) ?_
  refine lv_sipush (v := Int32.ofInt 136) hx hb dX11_23zz (by decide) ?_
  refine cr_newazz (atype := .int) (cI := cA 0) (n := Int32.ofInt 136) (N' := 136) (a0 := (136, .inl (fun _ => Int32.ofInt 0))) (k9 := 3) rfl hx hb (hts (.arrayClass .int) (bc_wat_ok (pos := 183) sorry)) (hK.1.2 0 _ rfl).2 hq hS rfl (by decide) (by decide) (Nat.le_of_ble_eq_true rfl) (Nat.le_of_ble_eq_true rfl) (Nat.le_of_ble_eq_true rfl) dX11_26zz (fun H hq hS => ?_)
  have hq : cqz_zz D q (.inr (11, [.ref (q + 1), .ref (q + 2), .null, .null, .int (Int32.ofInt 0), .int (Int32.ofInt 0), .int (Int32.ofInt 0), .int (Int32.ofInt 0), .null, .null, .null, .int (Int32.ofInt 0), .null, .int (Int32.ofInt 0), .int (Int32.ofInt 0), .int (Int32.ofInt 0), .int (Int32.ofInt 0), .int (Int32.ofInt 0), .int (Int32.ofInt 0), .null]) :: ([] ++ [.inl (cA 0, 136, .inl (fun _ => Int32.ofInt 0))] ++ [.inl (cA 0, 136, .inl (fun _ => Int32.ofInt 0))] ++ [.inl (cA 0, 136, .inl (fun _ => Int32.ofInt 0))])) H := hq
  refine cr_putFzz (ci := 11) (C := RX11) (T := TX11) (N := 20) hx hb hts (bc_cl_ok 11 _ rfl).1 tyX11 tyX11_ok nmX11 hown hK hq hS rfl 2 (by decide) (hts (.fieldLink RX11 16 RX11 "saved" "[I") (bc_wat_ok (pos := 1478) sorry)) (fun _ h9 => h9) rfl hin rfl (ty := .array .int) (by decide +kernel) rfl rfl (Nat.le_of_ble_eq_true rfl) dX11_28zz (fun H locs hq hS => ?_)
  have hq : cqz_zz D q (.inr (11, [.ref (q + 1), .ref (q + 2), .ref (q + 3), .null, .int (Int32.ofInt 0), .int (Int32.ofInt 0), .int (Int32.ofInt 0), .int (Int32.ofInt 0), .null, .null, .null, .int (Int32.ofInt 0), .null, .int (Int32.ofInt 0), .int (Int32.ofInt 0), .int (Int32.ofInt 0), .int (Int32.ofInt 0), .int (Int32.ofInt 0), .int (Int32.ofInt 0), .null]) :: ([] ++ [.inl (cA 0, 136, .inl (fun _ => Int32.ofInt 0))] ++ [.inl (cA 0, 136, .inl (fun _ => Int32.ofInt 0))] ++ [.inl (cA 0, 136, .inl (fun _ => Int32.ofInt 0))])) H := hq
  refine lv_aload_n hx hb dX11_31zz rfl (lv_at hl 0 rfl) ?_
  refine lv_sipush (v := Int32.ofInt 1088) hx hb dX11_32zz (by decide) ?_
  refine cr_newazz (atype := .int) (cI := cA 0) (n := Int32.ofInt 1088) (N' := 1088) (a0 := (1088, .inl (fun _ => Int32.ofInt 0))) (k9 := 4) rfl hx hb (hts (.arrayClass .int) (bc_wat_ok (pos := 183) sorry)) (hK.1.2 0 _ rfl).2 hq hS rfl (by decide) (by decide) (Nat.le_of_ble_eq_true rfl) (Nat.le_of_ble_eq_true rfl) (Nat.le_of_ble_eq_true rfl) dX11_35zz (fun H hq hS => ?_)
  have hq : cqz_zz D q (.inr (11, [.ref (q + 1), .ref (q + 2), .ref (q + 3), .null, .int (Int32.ofInt 0), .int (Int32.ofInt 0), .int (Int32.ofInt 0), .int (Int32.ofInt 0), .null, .null, .null, .int (Int32.ofInt 0), .null, .int (Int32.ofInt 0), .int (Int32.ofInt 0), .int (Int32.ofInt 0), .int (Int32.ofInt 0), .int (Int32.ofInt 0), .int (Int32.ofInt 0), .null]) :: ([] ++ [.inl (cA 0, 136, .inl (fun _ => Int32.ofInt 0))] ++ [.inl (cA 0, 136, .inl (fun _ => Int32.ofInt 0))] ++ [.inl (cA 0, 136, .inl (fun _ => Int32.ofInt 0))] ++ [.inl (cA 0, 1088, .inl (fun _ => Int32.ofInt 0))])) H := hq
  refine cr_putFzz (ci := 11) (C := RX11) (T := TX11) (N := 20) hx hb hts (bc_cl_ok 11 _ rfl).1 tyX11 tyX11_ok nmX11 hown hK hq hS rfl 3 (by decide) (hts (.fieldLink RX11 19 RX11 "history" "[I") (bc_wat_ok (pos := 1479) sorry)) (fun _ h9 => h9) rfl hin rfl (ty := .array .int) (by decide +kernel) rfl rfl (Nat.le_of_ble_eq_true rfl) dX11_37zz (fun H locs hq hS => ?_)
  have hq : cqz_zz D q (.inr (11, [.ref (q + 1), .ref (q + 2), .ref (q + 3), .ref (q + 4), .int (Int32.ofInt 0), .int (Int32.ofInt 0), .int (Int32.ofInt 0), .int (Int32.ofInt 0), .null, .null, .null, .int (Int32.ofInt 0), .null, .int (Int32.ofInt 0), .int (Int32.ofInt 0), .int (Int32.ofInt 0), .int (Int32.ofInt 0), .int (Int32.ofInt 0), .int (Int32.ofInt 0), .null]) :: ([] ++ [.inl (cA 0, 136, .inl (fun _ => Int32.ofInt 0))] ++ [.inl (cA 0, 136, .inl (fun _ => Int32.ofInt 0))] ++ [.inl (cA 0, 136, .inl (fun _ => Int32.ofInt 0))] ++ [.inl (cA 0, 1088, .inl (fun _ => Int32.ofInt 0))])) H := hq
  refine lv_aload_n hx hb dX11_40zz rfl (lv_at hl 0 rfl) ?_
  refine lv_iconst (v := Int32.ofInt (-1)) hx hb dX11_41zz (by decide) ?_
  refine cr_putzz (ci := 11) (C := RX11) (T := TX11) (N := 20) hx hb hts (bc_cl_ok 11 _ rfl).1 tyX11 tyX11_ok nmX11 hown hK hq hS rfl 6 (by decide) (hts (.fieldLink RX11 22 RX11 "errorAt" "I") (bc_wat_ok (pos := 1482) sorry)) (fun _ h9 => h9) rfl (ty := .int) (by decide +kernel) rfl rfl (Nat.le_of_ble_eq_true rfl) dX11_42zz (fun H locs hq hS => ?_)
  have hq : cqz_zz D q (.inr (11, [.ref (q + 1), .ref (q + 2), .ref (q + 3), .ref (q + 4), .int (Int32.ofInt 0), .int (Int32.ofInt 0), .int (Int32.ofInt (-1)), .int (Int32.ofInt 0), .null, .null, .null, .int (Int32.ofInt 0), .null, .int (Int32.ofInt 0), .int (Int32.ofInt 0), .int (Int32.ofInt 0), .int (Int32.ofInt 0), .int (Int32.ofInt 0), .int (Int32.ofInt 0), .null]) :: ([] ++ [.inl (cA 0, 136, .inl (fun _ => Int32.ofInt 0))] ++ [.inl (cA 0, 136, .inl (fun _ => Int32.ofInt 0))] ++ [.inl (cA 0, 136, .inl (fun _ => Int32.ofInt 0))] ++ [.inl (cA 0, 1088, .inl (fun _ => Int32.ofInt 0))])) H := hq
  refine lv_aload_n hx hb dX11_45zz rfl (lv_at hl 0 rfl) ?_
  refine lv_iconst (v := Int32.ofInt (-1)) hx hb dX11_46zz (by decide) ?_
  refine cr_putzz (ci := 11) (C := RX11) (T := TX11) (N := 20) hx hb hts (bc_cl_ok 11 _ rfl).1 tyX11 tyX11_ok nmX11 hown hK hq hS rfl 7 (by decide) (hts (.fieldLink RX11 26 RX11 "failedAt" "I") (bc_wat_ok (pos := 1483) sorry)) (fun _ h9 => h9) rfl (ty := .int) (by decide +kernel) rfl rfl (Nat.le_of_ble_eq_true rfl) dX11_47zz (fun H locs hq hS => ?_)
  have hq : cqz_zz D q (.inr (11, [.ref (q + 1), .ref (q + 2), .ref (q + 3), .ref (q + 4), .int (Int32.ofInt 0), .int (Int32.ofInt 0), .int (Int32.ofInt (-1)), .int (Int32.ofInt (-1)), .null, .null, .null, .int (Int32.ofInt 0), .null, .int (Int32.ofInt 0), .int (Int32.ofInt 0), .int (Int32.ofInt 0), .int (Int32.ofInt 0), .int (Int32.ofInt 0), .int (Int32.ofInt 0), .null]) :: ([] ++ [.inl (cA 0, 136, .inl (fun _ => Int32.ofInt 0))] ++ [.inl (cA 0, 136, .inl (fun _ => Int32.ofInt 0))] ++ [.inl (cA 0, 136, .inl (fun _ => Int32.ofInt 0))] ++ [.inl (cA 0, 1088, .inl (fun _ => Int32.ofInt 0))])) H := hq
  refine lv_aload_n hx hb dX11_50zz rfl (lv_at hl 0 rfl) ?_
  refine lv_bipush (v := Int32.ofInt 8) hx hb dX11_51zz (by decide) ?_
  refine cr_newazz (atype := .int) (cI := cA 0) (n := Int32.ofInt 8) (N' := 8) (a0 := (8, .inl (fun _ => Int32.ofInt 0))) (k9 := 5) rfl hx hb (hts (.arrayClass .int) (bc_wat_ok (pos := 183) sorry)) (hK.1.2 0 _ rfl).2 hq hS rfl (by decide) (by decide) (Nat.le_of_ble_eq_true rfl) (Nat.le_of_ble_eq_true rfl) (Nat.le_of_ble_eq_true rfl) dX11_53zz (fun H hq hS => ?_)
  have hq : cqz_zz D q (.inr (11, [.ref (q + 1), .ref (q + 2), .ref (q + 3), .ref (q + 4), .int (Int32.ofInt 0), .int (Int32.ofInt 0), .int (Int32.ofInt (-1)), .int (Int32.ofInt (-1)), .null, .null, .null, .int (Int32.ofInt 0), .null, .int (Int32.ofInt 0), .int (Int32.ofInt 0), .int (Int32.ofInt 0), .int (Int32.ofInt 0), .int (Int32.ofInt 0), .int (Int32.ofInt 0), .null]) :: ([] ++ [.inl (cA 0, 136, .inl (fun _ => Int32.ofInt 0))] ++ [.inl (cA 0, 136, .inl (fun _ => Int32.ofInt 0))] ++ [.inl (cA 0, 136, .inl (fun _ => Int32.ofInt 0))] ++ [.inl (cA 0, 1088, .inl (fun _ => Int32.ofInt 0))] ++ [.inl (cA 0, 8, .inl (fun _ => Int32.ofInt 0))])) H := hq
  refine cr_putFzz (ci := 11) (C := RX11) (T := TX11) (N := 20) hx hb hts (bc_cl_ok 11 _ rfl).1 tyX11 tyX11_ok nmX11 hown hK hq hS rfl 8 (by decide) (hts (.fieldLink RX11 29 RX11 "found" "[I") (bc_wat_ok (pos := 1484) sorry)) (fun _ h9 => h9) rfl hin rfl (ty := .array .int) (by decide +kernel) rfl rfl (Nat.le_of_ble_eq_true rfl) dX11_55zz (fun H locs hq hS => ?_)
  have hq : cqz_zz D q (.inr (11, [.ref (q + 1), .ref (q + 2), .ref (q + 3), .ref (q + 4), .int (Int32.ofInt 0), .int (Int32.ofInt 0), .int (Int32.ofInt (-1)), .int (Int32.ofInt (-1)), .ref (q + 5), .null, .null, .int (Int32.ofInt 0), .null, .int (Int32.ofInt 0), .int (Int32.ofInt 0), .int (Int32.ofInt 0), .int (Int32.ofInt 0), .int (Int32.ofInt 0), .int (Int32.ofInt 0), .null]) :: ([] ++ [.inl (cA 0, 136, .inl (fun _ => Int32.ofInt 0))] ++ [.inl (cA 0, 136, .inl (fun _ => Int32.ofInt 0))] ++ [.inl (cA 0, 136, .inl (fun _ => Int32.ofInt 0))] ++ [.inl (cA 0, 1088, .inl (fun _ => Int32.ofInt 0))] ++ [.inl (cA 0, 8, .inl (fun _ => Int32.ofInt 0))])) H := hq
  refine lv_aload_n hx hb dX11_58zz rfl (lv_at hl 0 rfl) ?_
  refine lv_bipush (v := Int32.ofInt 9) hx hb dX11_59zz (by decide) ?_
  refine cr_newazz (atype := .int) (cI := cA 0) (n := Int32.ofInt 9) (N' := 9) (a0 := (9, .inl (fun _ => Int32.ofInt 0))) (k9 := 6) rfl hx hb (hts (.arrayClass .int) (bc_wat_ok (pos := 183) sorry)) (hK.1.2 0 _ rfl).2 hq hS rfl (by decide) (by decide) (Nat.le_of_ble_eq_true rfl) (Nat.le_of_ble_eq_true rfl) (Nat.le_of_ble_eq_true rfl) dX11_61zz (fun H hq hS => ?_)
  have hq : cqz_zz D q (.inr (11, [.ref (q + 1), .ref (q + 2), .ref (q + 3), .ref (q + 4), .int (Int32.ofInt 0), .int (Int32.ofInt 0), .int (Int32.ofInt (-1)), .int (Int32.ofInt (-1)), .ref (q + 5), .null, .null, .int (Int32.ofInt 0), .null, .int (Int32.ofInt 0), .int (Int32.ofInt 0), .int (Int32.ofInt 0), .int (Int32.ofInt 0), .int (Int32.ofInt 0), .int (Int32.ofInt 0), .null]) :: ([] ++ [.inl (cA 0, 136, .inl (fun _ => Int32.ofInt 0))] ++ [.inl (cA 0, 136, .inl (fun _ => Int32.ofInt 0))] ++ [.inl (cA 0, 136, .inl (fun _ => Int32.ofInt 0))] ++ [.inl (cA 0, 1088, .inl (fun _ => Int32.ofInt 0))] ++ [.inl (cA 0, 8, .inl (fun _ => Int32.ofInt 0))] ++ [.inl (cA 0, 9, .inl (fun _ => Int32.ofInt 0))])) H := hq
  refine cr_putFzz (ci := 11) (C := RX11) (T := TX11) (N := 20) hx hb hts (bc_cl_ok 11 _ rfl).1 tyX11 tyX11_ok nmX11 hown hK hq hS rfl 9 (by decide) (hts (.fieldLink RX11 32 RX11 "way" "[I") (bc_wat_ok (pos := 1485) sorry)) (fun _ h9 => h9) rfl hin rfl (ty := .array .int) (by decide +kernel) rfl rfl (Nat.le_of_ble_eq_true rfl) dX11_63zz (fun H locs hq hS => ?_)
  have hq : cqz_zz D q (.inr (11, [.ref (q + 1), .ref (q + 2), .ref (q + 3), .ref (q + 4), .int (Int32.ofInt 0), .int (Int32.ofInt 0), .int (Int32.ofInt (-1)), .int (Int32.ofInt (-1)), .ref (q + 5), .ref (q + 6), .null, .int (Int32.ofInt 0), .null, .int (Int32.ofInt 0), .int (Int32.ofInt 0), .int (Int32.ofInt 0), .int (Int32.ofInt 0), .int (Int32.ofInt 0), .int (Int32.ofInt 0), .null]) :: ([] ++ [.inl (cA 0, 136, .inl (fun _ => Int32.ofInt 0))] ++ [.inl (cA 0, 136, .inl (fun _ => Int32.ofInt 0))] ++ [.inl (cA 0, 136, .inl (fun _ => Int32.ofInt 0))] ++ [.inl (cA 0, 1088, .inl (fun _ => Int32.ofInt 0))] ++ [.inl (cA 0, 8, .inl (fun _ => Int32.ofInt 0))] ++ [.inl (cA 0, 9, .inl (fun _ => Int32.ofInt 0))])) H := hq
  refine lv_aload_n hx hb dX11_66zz rfl (lv_at hl 0 rfl) ?_
  refine lv_bipush (v := Int32.ofInt 60) hx hb dX11_67zz (by decide) ?_
  refine cr_newazz (atype := .int) (cI := cA 0) (n := Int32.ofInt 60) (N' := 60) (a0 := (60, .inl (fun _ => Int32.ofInt 0))) (k9 := 7) rfl hx hb (hts (.arrayClass .int) (bc_wat_ok (pos := 183) sorry)) (hK.1.2 0 _ rfl).2 hq hS rfl (by decide) (by decide) (Nat.le_of_ble_eq_true rfl) (Nat.le_of_ble_eq_true rfl) (Nat.le_of_ble_eq_true rfl) dX11_69zz (fun H hq hS => ?_)
  have hq : cqz_zz D q (.inr (11, [.ref (q + 1), .ref (q + 2), .ref (q + 3), .ref (q + 4), .int (Int32.ofInt 0), .int (Int32.ofInt 0), .int (Int32.ofInt (-1)), .int (Int32.ofInt (-1)), .ref (q + 5), .ref (q + 6), .null, .int (Int32.ofInt 0), .null, .int (Int32.ofInt 0), .int (Int32.ofInt 0), .int (Int32.ofInt 0), .int (Int32.ofInt 0), .int (Int32.ofInt 0), .int (Int32.ofInt 0), .null]) :: ([] ++ [.inl (cA 0, 136, .inl (fun _ => Int32.ofInt 0))] ++ [.inl (cA 0, 136, .inl (fun _ => Int32.ofInt 0))] ++ [.inl (cA 0, 136, .inl (fun _ => Int32.ofInt 0))] ++ [.inl (cA 0, 1088, .inl (fun _ => Int32.ofInt 0))] ++ [.inl (cA 0, 8, .inl (fun _ => Int32.ofInt 0))] ++ [.inl (cA 0, 9, .inl (fun _ => Int32.ofInt 0))] ++ [.inl (cA 0, 60, .inl (fun _ => Int32.ofInt 0))])) H := hq
  refine cr_putFzz (ci := 11) (C := RX11) (T := TX11) (N := 20) hx hb hts (bc_cl_ok 11 _ rfl).1 tyX11 tyX11_ok nmX11 hown hK hq hS rfl 10 (by decide) (hts (.fieldLink RX11 35 RX11 "text" "[I") (bc_wat_ok (pos := 1486) sorry)) (fun _ h9 => h9) rfl hin rfl (ty := .array .int) (by decide +kernel) rfl rfl (Nat.le_of_ble_eq_true rfl) dX11_71zz (fun H locs hq hS => ?_)
  have hq : cqz_zz D q (.inr (11, [.ref (q + 1), .ref (q + 2), .ref (q + 3), .ref (q + 4), .int (Int32.ofInt 0), .int (Int32.ofInt 0), .int (Int32.ofInt (-1)), .int (Int32.ofInt (-1)), .ref (q + 5), .ref (q + 6), .ref (q + 7), .int (Int32.ofInt 0), .null, .int (Int32.ofInt 0), .int (Int32.ofInt 0), .int (Int32.ofInt 0), .int (Int32.ofInt 0), .int (Int32.ofInt 0), .int (Int32.ofInt 0), .null]) :: ([] ++ [.inl (cA 0, 136, .inl (fun _ => Int32.ofInt 0))] ++ [.inl (cA 0, 136, .inl (fun _ => Int32.ofInt 0))] ++ [.inl (cA 0, 136, .inl (fun _ => Int32.ofInt 0))] ++ [.inl (cA 0, 1088, .inl (fun _ => Int32.ofInt 0))] ++ [.inl (cA 0, 8, .inl (fun _ => Int32.ofInt 0))] ++ [.inl (cA 0, 9, .inl (fun _ => Int32.ofInt 0))] ++ [.inl (cA 0, 60, .inl (fun _ => Int32.ofInt 0))])) H := hq
  refine lv_aload_n hx hb dX11_74zz rfl (lv_at hl 0 rfl) ?_
  refine lv_bipush (v := Int32.ofInt 60) hx hb dX11_75zz (by decide) ?_
  refine cr_newazz (atype := .int) (cI := cA 0) (n := Int32.ofInt 60) (N' := 60) (a0 := (60, .inl (fun _ => Int32.ofInt 0))) (k9 := 8) rfl hx hb (hts (.arrayClass .int) (bc_wat_ok (pos := 183) sorry)) (hK.1.2 0 _ rfl).2 hq hS rfl (by decide) (by decide) (Nat.le_of_ble_eq_true rfl) (Nat.le_of_ble_eq_true rfl) (Nat.le_of_ble_eq_true rfl) dX11_77zz (fun H hq hS => ?_)
  have hq : cqz_zz D q (.inr (11, [.ref (q + 1), .ref (q + 2), .ref (q + 3), .ref (q + 4), .int (Int32.ofInt 0), .int (Int32.ofInt 0), .int (Int32.ofInt (-1)), .int (Int32.ofInt (-1)), .ref (q + 5), .ref (q + 6), .ref (q + 7), .int (Int32.ofInt 0), .null, .int (Int32.ofInt 0), .int (Int32.ofInt 0), .int (Int32.ofInt 0), .int (Int32.ofInt 0), .int (Int32.ofInt 0), .int (Int32.ofInt 0), .null]) :: ([] ++ [.inl (cA 0, 136, .inl (fun _ => Int32.ofInt 0))] ++ [.inl (cA 0, 136, .inl (fun _ => Int32.ofInt 0))] ++ [.inl (cA 0, 136, .inl (fun _ => Int32.ofInt 0))] ++ [.inl (cA 0, 1088, .inl (fun _ => Int32.ofInt 0))] ++ [.inl (cA 0, 8, .inl (fun _ => Int32.ofInt 0))] ++ [.inl (cA 0, 9, .inl (fun _ => Int32.ofInt 0))] ++ [.inl (cA 0, 60, .inl (fun _ => Int32.ofInt 0))] ++ [.inl (cA 0, 60, .inl (fun _ => Int32.ofInt 0))])) H := hq
  refine cr_putFzz (ci := 11) (C := RX11) (T := TX11) (N := 20) hx hb hts (bc_cl_ok 11 _ rfl).1 tyX11 tyX11_ok nmX11 hown hK hq hS rfl 12 (by decide) (hts (.fieldLink RX11 38 RX11 "line" "[I") (bc_wat_ok (pos := 1488) sorry)) (fun _ h9 => h9) rfl hin rfl (ty := .array .int) (by decide +kernel) rfl rfl (Nat.le_of_ble_eq_true rfl) dX11_79zz (fun H locs hq hS => ?_)
  have hq : cqz_zz D q (.inr (11, [.ref (q + 1), .ref (q + 2), .ref (q + 3), .ref (q + 4), .int (Int32.ofInt 0), .int (Int32.ofInt 0), .int (Int32.ofInt (-1)), .int (Int32.ofInt (-1)), .ref (q + 5), .ref (q + 6), .ref (q + 7), .int (Int32.ofInt 0), .ref (q + 8), .int (Int32.ofInt 0), .int (Int32.ofInt 0), .int (Int32.ofInt 0), .int (Int32.ofInt 0), .int (Int32.ofInt 0), .int (Int32.ofInt 0), .null]) :: ([] ++ [.inl (cA 0, 136, .inl (fun _ => Int32.ofInt 0))] ++ [.inl (cA 0, 136, .inl (fun _ => Int32.ofInt 0))] ++ [.inl (cA 0, 136, .inl (fun _ => Int32.ofInt 0))] ++ [.inl (cA 0, 1088, .inl (fun _ => Int32.ofInt 0))] ++ [.inl (cA 0, 8, .inl (fun _ => Int32.ofInt 0))] ++ [.inl (cA 0, 9, .inl (fun _ => Int32.ofInt 0))] ++ [.inl (cA 0, 60, .inl (fun _ => Int32.ofInt 0))] ++ [.inl (cA 0, 60, .inl (fun _ => Int32.ofInt 0))])) H := hq
  refine lv_aload_n hx hb dX11_82zz rfl (lv_at hl 0 rfl) ?_
  refine lv_bipush (v := Int32.ofInt 120) hx hb dX11_83zz (by decide) ?_
  refine cr_newazz (atype := .int) (cI := cA 0) (n := Int32.ofInt 120) (N' := 120) (a0 := (120, .inl (fun _ => Int32.ofInt 0))) (k9 := 9) rfl hx hb (hts (.arrayClass .int) (bc_wat_ok (pos := 183) sorry)) (hK.1.2 0 _ rfl).2 hq hS rfl (by decide) (by decide) (Nat.le_of_ble_eq_true rfl) (Nat.le_of_ble_eq_true rfl) (Nat.le_of_ble_eq_true rfl) dX11_85zz (fun H hq hS => ?_)
  have hq : cqz_zz D q (.inr (11, [.ref (q + 1), .ref (q + 2), .ref (q + 3), .ref (q + 4), .int (Int32.ofInt 0), .int (Int32.ofInt 0), .int (Int32.ofInt (-1)), .int (Int32.ofInt (-1)), .ref (q + 5), .ref (q + 6), .ref (q + 7), .int (Int32.ofInt 0), .ref (q + 8), .int (Int32.ofInt 0), .int (Int32.ofInt 0), .int (Int32.ofInt 0), .int (Int32.ofInt 0), .int (Int32.ofInt 0), .int (Int32.ofInt 0), .null]) :: ([] ++ [.inl (cA 0, 136, .inl (fun _ => Int32.ofInt 0))] ++ [.inl (cA 0, 136, .inl (fun _ => Int32.ofInt 0))] ++ [.inl (cA 0, 136, .inl (fun _ => Int32.ofInt 0))] ++ [.inl (cA 0, 1088, .inl (fun _ => Int32.ofInt 0))] ++ [.inl (cA 0, 8, .inl (fun _ => Int32.ofInt 0))] ++ [.inl (cA 0, 9, .inl (fun _ => Int32.ofInt 0))] ++ [.inl (cA 0, 60, .inl (fun _ => Int32.ofInt 0))] ++ [.inl (cA 0, 60, .inl (fun _ => Int32.ofInt 0))] ++ [.inl (cA 0, 120, .inl (fun _ => Int32.ofInt 0))])) H := hq
  refine cr_putFzz (ci := 11) (C := RX11) (T := TX11) (N := 20) hx hb hts (bc_cl_ok 11 _ rfl).1 tyX11 tyX11_ok nmX11 hown hK hq hS rfl 19 (by decide) (hts (.fieldLink RX11 41 RX11 "numbers" "[I") (bc_wat_ok (pos := 1495) sorry)) (fun _ h9 => h9) rfl hin rfl (ty := .array .int) (by decide +kernel) rfl rfl (Nat.le_of_ble_eq_true rfl) dX11_87zz (fun H locs hq hS => ?_)
  have hq : cqz_zz D q (.inr (11, [.ref (q + 1), .ref (q + 2), .ref (q + 3), .ref (q + 4), .int (Int32.ofInt 0), .int (Int32.ofInt 0), .int (Int32.ofInt (-1)), .int (Int32.ofInt (-1)), .ref (q + 5), .ref (q + 6), .ref (q + 7), .int (Int32.ofInt 0), .ref (q + 8), .int (Int32.ofInt 0), .int (Int32.ofInt 0), .int (Int32.ofInt 0), .int (Int32.ofInt 0), .int (Int32.ofInt 0), .int (Int32.ofInt 0), .ref (q + 9)]) :: ([] ++ [.inl (cA 0, 136, .inl (fun _ => Int32.ofInt 0))] ++ [.inl (cA 0, 136, .inl (fun _ => Int32.ofInt 0))] ++ [.inl (cA 0, 136, .inl (fun _ => Int32.ofInt 0))] ++ [.inl (cA 0, 1088, .inl (fun _ => Int32.ofInt 0))] ++ [.inl (cA 0, 8, .inl (fun _ => Int32.ofInt 0))] ++ [.inl (cA 0, 9, .inl (fun _ => Int32.ofInt 0))] ++ [.inl (cA 0, 60, .inl (fun _ => Int32.ofInt 0))] ++ [.inl (cA 0, 60, .inl (fun _ => Int32.ofInt 0))] ++ [.inl (cA 0, 120, .inl (fun _ => Int32.ofInt 0))])) H := hq
  refine lv_aload_n hx hb dX11_90zz rfl (lv_at hl 0 rfl) ?_
  refine va_get (D := D) (ci := 11) (C := RX11) (T := TX11) (N := 20) hx hb hts (bc_cl_ok 11 _ rfl).1 hown hK.1 (cqz_Pzz hq) 0 rfl rfl 0 (by decide) (hts (.fieldLink RX11 9 RX11 "now" "[I") (bc_wat_ok (pos := 1476) sorry)) (fun _ h9 => h9) rfl dX11_91zz ?_
  refine lv_iconst (v := Int32.ofInt 1) hx hb dX11_94zz (by decide) ?_
  refine lv_bipush (v := Int32.ofInt 30) hx hb dX11_95zz (by decide) ?_
  refine cr_iastzz hx hb hK hq hS (k0 := 1) (N := 136) rfl (by unfold vp_in; decide) dX11_97zz (fun H locs hq hS => ?_)
  have hq : cqz_zz D q (.inr (11, [.ref (q + 1), .ref (q + 2), .ref (q + 3), .ref (q + 4), .int (Int32.ofInt 0), .int (Int32.ofInt 0), .int (Int32.ofInt (-1)), .int (Int32.ofInt (-1)), .ref (q + 5), .ref (q + 6), .ref (q + 7), .int (Int32.ofInt 0), .ref (q + 8), .int (Int32.ofInt 0), .int (Int32.ofInt 0), .int (Int32.ofInt 0), .int (Int32.ofInt 0), .int (Int32.ofInt 0), .int (Int32.ofInt 0), .ref (q + 9)]) :: ([] ++ [.inl (cA 0, 136, .inl (upd (fun _ => Int32.ofInt 0) 1 (Int32.ofInt 30)))] ++ [.inl (cA 0, 136, .inl (fun _ => Int32.ofInt 0))] ++ [.inl (cA 0, 136, .inl (fun _ => Int32.ofInt 0))] ++ [.inl (cA 0, 1088, .inl (fun _ => Int32.ofInt 0))] ++ [.inl (cA 0, 8, .inl (fun _ => Int32.ofInt 0))] ++ [.inl (cA 0, 9, .inl (fun _ => Int32.ofInt 0))] ++ [.inl (cA 0, 60, .inl (fun _ => Int32.ofInt 0))] ++ [.inl (cA 0, 60, .inl (fun _ => Int32.ofInt 0))] ++ [.inl (cA 0, 120, .inl (fun _ => Int32.ofInt 0))])) H := hq
  refine lv_aload_n hx hb dX11_98zz rfl (lv_at hl 0 rfl) ?_
  refine va_get (D := D) (ci := 11) (C := RX11) (T := TX11) (N := 20) hx hb hts (bc_cl_ok 11 _ rfl).1 hown hK.1 (cqz_Pzz hq) 0 rfl rfl 0 (by decide) (hts (.fieldLink RX11 9 RX11 "now" "[I") (bc_wat_ok (pos := 1476) sorry)) (fun _ h9 => h9) rfl dX11_99zz ?_
  refine lv_iconst (v := Int32.ofInt 2) hx hb dX11_102zz (by decide) ?_
  refine lv_iconst (v := Int32.ofInt 5) hx hb dX11_103zz (by decide) ?_
  refine cr_iastzz hx hb hK hq hS (k0 := 1) (N := 136) rfl (by unfold vp_in; decide) dX11_104zz (fun H locs hq hS => ?_)
  have hq : cqz_zz D q (.inr (11, [.ref (q + 1), .ref (q + 2), .ref (q + 3), .ref (q + 4), .int (Int32.ofInt 0), .int (Int32.ofInt 0), .int (Int32.ofInt (-1)), .int (Int32.ofInt (-1)), .ref (q + 5), .ref (q + 6), .ref (q + 7), .int (Int32.ofInt 0), .ref (q + 8), .int (Int32.ofInt 0), .int (Int32.ofInt 0), .int (Int32.ofInt 0), .int (Int32.ofInt 0), .int (Int32.ofInt 0), .int (Int32.ofInt 0), .ref (q + 9)]) :: ([] ++ [.inl (cA 0, 136, .inl (upd (upd (fun _ => Int32.ofInt 0) 1 (Int32.ofInt 30)) 2 (Int32.ofInt 5)))] ++ [.inl (cA 0, 136, .inl (fun _ => Int32.ofInt 0))] ++ [.inl (cA 0, 136, .inl (fun _ => Int32.ofInt 0))] ++ [.inl (cA 0, 1088, .inl (fun _ => Int32.ofInt 0))] ++ [.inl (cA 0, 8, .inl (fun _ => Int32.ofInt 0))] ++ [.inl (cA 0, 9, .inl (fun _ => Int32.ofInt 0))] ++ [.inl (cA 0, 60, .inl (fun _ => Int32.ofInt 0))] ++ [.inl (cA 0, 60, .inl (fun _ => Int32.ofInt 0))] ++ [.inl (cA 0, 120, .inl (fun _ => Int32.ofInt 0))])) H := hq
  refine lv_aload_n hx hb dX11_105zz rfl (lv_at hl 0 rfl) ?_
  refine va_get (D := D) (ci := 11) (C := RX11) (T := TX11) (N := 20) hx hb hts (bc_cl_ok 11 _ rfl).1 hown hK.1 (cqz_Pzz hq) 0 rfl rfl 0 (by decide) (hts (.fieldLink RX11 9 RX11 "now" "[I") (bc_wat_ok (pos := 1476) sorry)) (fun _ h9 => h9) rfl dX11_106zz ?_
  refine lv_bipush (v := Int32.ofInt 11) hx hb dX11_109zz (by decide) ?_
  refine lv_bipush (v := Int32.ofInt 99) hx hb dX11_111zz (by decide) ?_
  refine cr_iastzz hx hb hK hq hS (k0 := 1) (N := 136) rfl (by unfold vp_in; decide) dX11_113zz (fun H locs hq hS => ?_)
  have hq : cqz_zz D q (.inr (11, [.ref (q + 1), .ref (q + 2), .ref (q + 3), .ref (q + 4), .int (Int32.ofInt 0), .int (Int32.ofInt 0), .int (Int32.ofInt (-1)), .int (Int32.ofInt (-1)), .ref (q + 5), .ref (q + 6), .ref (q + 7), .int (Int32.ofInt 0), .ref (q + 8), .int (Int32.ofInt 0), .int (Int32.ofInt 0), .int (Int32.ofInt 0), .int (Int32.ofInt 0), .int (Int32.ofInt 0), .int (Int32.ofInt 0), .ref (q + 9)]) :: ([] ++ [.inl (cA 0, 136, .inl (upd (upd (upd (fun _ => Int32.ofInt 0) 1 (Int32.ofInt 30)) 2 (Int32.ofInt 5)) 11 (Int32.ofInt 99)))] ++ [.inl (cA 0, 136, .inl (fun _ => Int32.ofInt 0))] ++ [.inl (cA 0, 136, .inl (fun _ => Int32.ofInt 0))] ++ [.inl (cA 0, 1088, .inl (fun _ => Int32.ofInt 0))] ++ [.inl (cA 0, 8, .inl (fun _ => Int32.ofInt 0))] ++ [.inl (cA 0, 9, .inl (fun _ => Int32.ofInt 0))] ++ [.inl (cA 0, 60, .inl (fun _ => Int32.ofInt 0))] ++ [.inl (cA 0, 60, .inl (fun _ => Int32.ofInt 0))] ++ [.inl (cA 0, 120, .inl (fun _ => Int32.ofInt 0))])) H := hq
  refine W.widen (k := 9) (n := 1753) (Nat.le_of_ble_eq_true rfl) (Nat.le_of_ble_eq_true rfl) ?_
  exact W.vret hx hb hr (fun t ht hW => ⟨⟨(), rfl, trivial, by show cqz_zz D q (E11_zz cA q) t.heap; rw [ht]; exact hq⟩, hS.F ht⟩) hS.2.2 dX11_114zz
end
section
/-! the fresh object: its row, what the class's mirror says of it -/
noncomputable def r0_zz : rw_t := fun j => if j = 1 then 30 else if j = 2 then 5 else if j = 11 then 99 else 0
noncomputable def v0_zz : cs_t := (r0_zz, r0_zz, r0_zz, ([], 0), (fun _ => 0, 0), [], (fun _ => 0, fun _ _ => 0), [], 0, -1, -1)
theorem r0_0zz : r0_zz 0 = 0 := by decide
theorem r0_1zz : r0_zz 1 = 30 := by decide
theorem r0_2zz : r0_zz 2 = 5 := by decide
theorem r0_3zz : r0_zz 3 = 0 := by decide
theorem r0_4zz : r0_zz 4 = 0 := by decide
theorem r0_zzz {j : Int} (h : j ≠ 1 ∧ j ≠ 2 ∧ j ≠ 11) : r0_zz j = 0 := by unfold r0_zz; rw [if_neg h.1, if_neg h.2.1, if_neg h.2.2]
theorem r0_Mzz : wf_M r0_zz := by
  refine ⟨by rw [r0_3zz]; decide, fun k k0 k1 => ?_⟩
  rw [r0_zzz (by omega), r0_zzz (by omega), r0_zzz (by omega), r0_zzz (by omega), r0_zzz (by omega), r0_zzz (by omega)]
  decide
theorem r0_Nzz : wf_N r0_zz := by
  refine ⟨.inl (by decide), by decide, by decide, by decide, by decide⟩
theorem r0_Tzz : wf_T 0 r0_zz := by
  refine ⟨by decide, by decide, by decide, by decide, by decide, by decide, by decide, by decide, by decide, by decide, by decide, by decide, fun k k0 k1 => ?_, fun k k0 k1 => ?_, fun k l k0 k1 l1 => ?_⟩
  · rw [r0_zzz (by omega), r0_zzz (by omega), r0_zzz (by omega)]
    decide
  · rw [r0_4zz] at k1; omega
  · rw [r0_4zz] at l1; omega
end
