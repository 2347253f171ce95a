theorem vp_in32 {j : Int} {n : Nat} (h0 : 0 ≤ j) (h1 : j < (n : Int)) (hn : n < 2147483648) : vp_in (Int32.ofInt j) n ∧ (Int32.ofInt j).toNatClampNeg = j.toNat := by
  have e : (Int32.ofInt j).toNatClampNeg = j.toNat := Int32.toNatClampNeg_ofInt_of_le (by omega) (by omega)
  refine ⟨?_, e⟩
  unfold vp_in
  rw [e]
  rintro (q | q)
  · rw [Int32.lt_iff_toInt_lt, Int32.toInt_ofInt_of_le (by omega) (by omega)] at q
    have : (0 : Int32).toInt = 0 := by decide
    omega
  · omega
/-! CONSTRUCTORS: cells one behind another, from q on -/
def cz_ : Nat → List va_E → va_W
  | _, [] => []
  | q, x :: l => (q, x) :: cz_ (q + 1) l
theorem cz_at : ∀ (es : List va_E) (q i : Nat), (cz_ q es)[i]? = (es[i]?).map (fun x => (q + i, x))
  | [], q, i => by simp [cz_]
  | x :: l, q, 0 => by simp [cz_]
  | x :: l, q, i + 1 => by
    show (cz_ (q + 1) l)[i]? = _
    rw [cz_at l (q + 1) i, show q + 1 + i = q + (i + 1) by omega]
    simp only [List.getElem?_cons_succ]
def cqz_ (D : va_G) (q : Nat) (es : List va_E) (H : Heap) : Prop := H.size = q + es.length ∧ ∀ (i : Nat) (x : va_E), es[i]? = some x → va_at D bc_cl (q + i, x) H
theorem cqz_P {D : va_G} {q : Nat} {es : List va_E} {H : Heap} (h : cqz_ D q es H) : va_P D bc_cl (cz_ q es) H := fun k r hk => by
  rw [cz_at] at hk
  obtain ⟨x, hx, rfl⟩ := Option.map_eq_some_iff.mp hk
  exact h.2 k x hx
theorem cz_D (es : List va_E) (q : Nat) : va_D (fun a => q ≤ a) (cz_ q es) := by
  refine ⟨fun i j p r hi hj e => ?_, fun k r hk => ?_⟩
  · rw [cz_at] at hi hj
    obtain ⟨x, hx, rfl⟩ := Option.map_eq_some_iff.mp hi
    obtain ⟨y, hy, rfl⟩ := Option.map_eq_some_iff.mp hj
    have e : q + i = q + j := e
    omega
  · rw [cz_at] at hk
    obtain ⟨x, hx, rfl⟩ := Option.map_eq_some_iff.mp hk
    exact Nat.le_add_right q k
theorem cqz_lt {D : va_G} {q : Nat} {es : List va_E} {H : Heap} (h : cqz_ D q es H) {i : Nat} {x : va_E} (hx : es[i]? = some x) : q + i < H.size := by
  have := (List.getElem?_eq_some_iff.mp hx).1
  rw [h.1]
  omega
/-- more cells behind -/
theorem cqz_app {D : va_G} {q : Nat} {es w : List va_E} {H H1 : Heap} (h : cqz_ D q es H) (hw : cqz_ D (q + es.length) w H1) (o1 : ∀ a, a < q + es.length → H1[a]? = H[a]?) : cqz_ D q (es ++ w) H1 := by
  refine ⟨by rw [hw.1, List.length_append]; omega, fun i x hx => ?_⟩
  by_cases c : i < es.length
  · rw [List.getElem?_append_left c] at hx
    exact (h.2 i x hx).kept (o1 (q + i) (by omega))
  · rw [List.getElem?_append_right (by omega)] at hx
    have := hw.2 (i - es.length) x hx
    rw [show q + es.length + (i - es.length) = q + i by omega] at this
    exact this
/-- the last cell gives way to more -/
theorem cqz_last {D : va_G} {q : Nat} {es w : List va_E} {e0 : va_E} {H H1 : Heap} (h : cqz_ D q (es ++ [e0]) H) (hw : cqz_ D (q + es.length) w H1) (o1 : ∀ a, a < q + es.length → H1[a]? = H[a]?) : cqz_ D q (es ++ w) H1 := by
  refine ⟨by rw [hw.1, List.length_append]; omega, fun i x hx => ?_⟩
  by_cases c : i < es.length
  · rw [List.getElem?_append_left c] at hx
    exact (h.2 i x (by rw [List.getElem?_append_left c]; exact hx)).kept (o1 (q + i) (by omega))
  · rw [List.getElem?_append_right (by omega)] at hx
    have := hw.2 (i - es.length) x hx
    rw [show q + es.length + (i - es.length) = q + i by omega] at this
    exact this
theorem cqz_push {D : va_G} {q : Nat} {es : List va_E} {e0 : va_E} {H H1 : Heap} (h : cqz_ D q es H) (hz : H1.size = q + es.length + 1) (o1 : ∀ a, a < q + es.length → H1[a]? = H[a]?) (hn : va_at D bc_cl (q + es.length, e0) H1) : cqz_ D q (es ++ [e0]) H1 := by
  refine cqz_app h ⟨by rw [hz]; rfl, fun i x hx => ?_⟩ o1
  cases i with
  | zero => cases hx; exact hn
  | succ i => cases hx
theorem cqz_put {D : va_G} {q : Nat} {es : List va_E} {e0 e1 : va_E} {H H1 : Heap} (h : cqz_ D q (e0 :: es) H) (hz : H1.size = H.size) (o1 : ∀ a, a ≠ q → H1[a]? = H[a]?) (hn : va_at D bc_cl (q, e1) H1) : cqz_ D q (e1 :: es) H1 := by
  refine ⟨by rw [hz, h.1]; rfl, fun i x hx => ?_⟩
  cases i with
  | zero => cases hx; exact hn
  | succ i => exact (h.2 (i + 1) x hx).kept (o1 (q + (i + 1)) (by omega))
theorem cqz_split {D : va_G} {q : Nat} {es w : List va_E} {H : Heap} (h : cqz_ D q (es ++ w) H) : cqz_ D (q + es.length) w H := by
  refine ⟨by rw [h.1, List.length_append]; omega, fun i x hx => ?_⟩
  have := h.2 (es.length + i) x (by rw [List.getElem?_append_right (by omega), show es.length + i - es.length = i by omega]; exact hx)
  rw [← Nat.add_assoc] at this
  exact this
abbrev ty7_ (cA : Nat → ClassId) : List (ClassId × FieldType) := [(cA 0, .int), (cA 1, .char), (cA 2, .boolean), (cA 3, .int), (cA 4, .int), (cA 5, .array .int), (cA 6, .object "BridgeChapel$State")]
def ck_M (w : Cond) : Bool := match w with
  | .methodLinkNest _ _ _ _ => true
  | _ => false
/-- what the tables say that no word says: the classes, and who may call whose constructor -/
def ck_K (D : va_G) (cA : Nat → ClassId) (U : State) : Prop := va_K D bc_cl (ty7_ cA) U ∧ va_AO "BridgeChapel$State" U ∧ (∃ kA : Class, U.vm.classes[cA 5]? = some kA ∧ kA.kind = .array (cA 0) (.array .int)) ∧ ∀ w ∈ lw_tbl, ck_M w = true → va_Nw w U
theorem ck_warm {D : va_G} {cA : Nat → ClassId} {s U : State} (hW : s.WarmedH U.vm) (h : ck_K D cA s) : ck_K D cA U := by
  obtain ⟨h1, h2, ⟨kA, h3, h4⟩, h5⟩ := h
  refine ⟨va_K.moved hW.alike h1, h2.moved hW.alike, ?_, fun w hw hm => ?_⟩
  · obtain ⟨k', hk', he⟩ := hW.alike.2.2 _ _ h3
    exact ⟨k', hk', by rw [he]; exact h4⟩
  · have h8 := h5 w hw hm
    unfold ck_M at hm
    split at hm
    · exact va_Nw.warmM hW h8
    · cases hm
theorem ck_same {D : va_G} {cA : Nat → ClassId} {u U : State} (hv : U.vm = u.vm) (h : ck_K D cA u) : ck_K D cA U := by
  obtain ⟨h1, h2, h3, h5⟩ := h
  have ha : u.vm.Alike U.vm := by rw [hv]; exact Vm.Alike.refl u.vm
  refine ⟨va_K.moved ha h1, h2.moved ha, by rw [hv]; exact h3, fun w hw hm => ?_⟩
  have h8 := h5 w hw hm
  unfold ck_M at hm
  split at hm
  · exact va_Nw.same rfl hv.symm h8
  · cases hm
section CTR
variable {p : Program} {l : Launch} {e : Env} {R : Room} {s : State} {m : MethodId} {args : Array Value} {below : List Frame} {meth : Method} {c : Code} {H : Heap} {locs : List Loc} {cells slots : Nat} {Q : State → Prop} {cc : ByteArray} {pc : Nat} {ls : Array Slot} {rest : List Value} {D : va_G} {cA : Nat → ClassId} {q : Nat} {es : List va_E}
theorem cs_grow (hS : va_S (fun a => q ≤ a) s.heap H locs) (hz : q ≤ H.size) {H1 : Heap} (z1 : H.size ≤ H1.size) (o1 : ∀ a, a < H.size → H1[a]? = H[a]?) : va_S (fun a => q ≤ a) s.heap H1 locs :=
  ⟨Nat.le_trans hS.1 z1, fun x h1 h2 => (o1 x (Nat.lt_of_lt_of_le h1 hS.1)).trans (hS.2.1 x h1 h2), hS.2.2⟩
theorem cr_new {k9 : Nat} (hlen : es.length = k9) (hexec : p.tables.exec = Jvm.exec) (hb : c.code = cc) {own C : String} {T : u_T} {N ci index : Nat} (hts : ∀ w ∈ bc_W, w.before args s = true) (hin : ∀ w ∈ u_ws C T N, w ∈ bc_W) (ty : Nat → FieldType) (hty : ∀ k, k < N → parseFieldDescriptor (T k).2.2.1 = some (ty k)) (hown : s.vm.findClass own = some m.cls) (hcl : (Cond.classLink own index C).before args s = true) (hinst : (Cond.instantiable C N).before args s = true) (hini : (Cond.initialized C).before args s = true) (hK : ck_K D cA s) (hq : cqz_ D q es H) (hS : va_S (fun a => q ≤ a) s.heap H locs) (hc : bc_cl[ci]? = some (C, T, N)) {fs : List Value} (hfs : ∀ j, j < N → defaultValue (ty j) = vp_V fs j) (hcells : cells + 1 ≤ R.cells) (hslots : slots + N ≤ R.slots) (hdg : decode cc pc = .ok (.new index, 3))
    (kk : ∀ H1 : Heap, cqz_ D q (es ++ [.inr (ci, fs)]) H1 → va_S (fun a => q ≤ a) s.heap H1 locs → W p l e R s m args below meth c H1 locs (cells + 1) (slots + N) Q (F0 m (pc + 3) ls (.ref (q + k9) :: rest))) : W p l e R s m args below meth c H locs cells slots Q (F0 m pc ls rest) := by
  subst hlen
  have hKn := hK.1.1 ci _ hc
  have hz := hq.1
  refine W.newcK hexec hb hown hcl hinst hini rfl hdg hcells hslots hKn.2.1 hz fun H1 kC hkC e1 z1 o1 => ?_
  refine kk H1 (cqz_push hq z1 o1 ?_) (cs_grow hS (by omega) (by omega) (fun a ha => o1 a (by omega)))
  exact ⟨_, hc, (u_born ty hts hin hKn hkC e1 hty).to hfs⟩
theorem cr_newa {k9 : Nat} (hlen : es.length = k9) (hexec : p.tables.exec = Jvm.exec) (hb : c.code = cc) {atype : ArrayType} (harr : (Cond.arrayClass (newarray.typeOf atype)).before args s = true) {cI : ClassId} (hnm : s.vm.findClass ("[" ++ (newarray.typeOf atype).toString) = some cI) (hq : cqz_ D q es H) (hS : va_S (fun a => q ≤ a) s.heap H locs) {n : Int32} {N' : Nat} {a0 : vp_A} (ha : vp_cell cI a0 = arrV cI N' (fun _ => defaultValue (newarray.typeOf atype))) (hn : ¬ n < 0) (hN : n.toNatClampNeg = N') (hbytes : N' * componentBytes (newarray.typeOf atype) ≤ 536870912) (hcells : cells + 1 ≤ R.cells) (hslots : slots + N' ≤ R.slots) (hdg : decode cc pc = .ok (.newarray atype, 2))
    (kk : ∀ H1 : Heap, cqz_ D q (es ++ [.inl (cI, a0)]) H1 → va_S (fun a => q ≤ a) s.heap H1 locs → W p l e R s m args below meth c H1 locs (cells + 1) (slots + N') Q (F0 m (pc + 2) ls (.ref (q + k9) :: rest))) : W p l e R s m args below meth c H locs cells slots Q (F0 m pc ls (.int n :: rest)) := by
  subst hlen
  have hz := hq.1
  refine va_newaK hexec hb harr rfl hdg rfl hn hN hbytes hcells hslots hz fun H1 cI' e1 z1 o1 _ hNm => ?_
  have e9 : cI' = cI := Option.some.inj (hNm.symm.trans hnm)
  rw [e9] at e1
  refine kk H1 (cqz_push hq z1 o1 ?_) (cs_grow hS (by omega) (by omega) (fun a ha => o1 a (by omega)))
  show H1[q + es.length]? = some (vp_cell cI a0)
  rw [ha]
  exact e1
theorem cr_newq {k9 : Nat} (hlen : es.length = k9) (hexec : p.tables.exec = Jvm.exec) (hb : c.code = cc) {own C : String} {index : Nat} (hown : s.vm.findClass own = some m.cls) (hclink : (Cond.classLink own index C).before args s = true) (hover : va_AO C s) {cI : ClassId} (hnm : s.vm.findClass ("[" ++ (FieldType.object C).toString) = some cI) (hq : cqz_ D q es H) (hS : va_S (fun a => q ≤ a) s.heap H locs) {n : Int32} {N' : Nat} (hn : ¬ n < 0) (hN : n.toNatClampNeg = N') (hbytes : N' * 4 ≤ 536870912) (hcells : cells + 1 ≤ R.cells) (hslots : slots + N' ≤ R.slots) (hdg : decode cc pc = .ok (.anewarray index, 3))
    (kk : ∀ H1 : Heap, cqz_ D q (es ++ [.inl (cI, N', .inr (.inr (.inr (.inr (fun _ => none)))))]) H1 → va_S (fun a => q ≤ a) s.heap H1 locs → W p l e R s m args below meth c H1 locs (cells + 1) (slots + N') Q (F0 m (pc + 3) ls (.ref (q + k9) :: rest))) : W p l e R s m args below meth c H locs cells slots Q (F0 m pc ls (.int n :: rest)) := by
  subst hlen
  have hz := hq.1
  subst hN
  refine W.anew hexec hb hown hclink (va_AO.use hover) rfl hdg rfl hn hbytes hcells hslots fun cI' kA comp f1 f2 f3 f4 => ?_
  have e9 : cI' = cI := Option.some.inj (f1.symm.trans hnm)
  subst e9
  generalize hH1 : H.push ({ cls := cI', slots := Array.replicate n.toNatClampNeg .null, vm := .none } : Cell) = H1
  have z1 : H1.size = H.size + 1 := by rw [← hH1, Array.size_push]
  have e1 : H1[H.size]? = some (arrV cI' n.toNatClampNeg (fun _ => .null)) := by rw [← hH1, Array.getElem?_push_size, ← arrV_new]
  have o1 : ∀ a : Nat, a < H.size → H1[a]? = H[a]? := fun a ha => by rw [← hH1, Array.getElem?_push, if_neg (Nat.ne_of_lt ha)]
  rw [hz] at e1 ⊢
  refine kk H1 (cqz_push hq (by omega) (fun a ha => o1 a (by omega)) ?_) (cs_grow hS (by omega) (by omega) o1)
  show H1[q + es.length]? = some (vp_cell _ _)
  rw [vp_cell_q]
  exact e1
/-- a grid of ints -/
abbrev cg_r (cI : ClassId) (M : Nat) : va_E := .inl (cI, M, .inl (fun j => if j < M then Int32.ofInt 0 else 0))
abbrev cg_o (cG : ClassId) (N h : Nat) : va_E := .inl (cG, N, .inr (.inr (.inr (.inr (fun j => if j < N then some (h + 1 + j) else none)))))
theorem mt_stand {T : State} {cI comp : ClassId} {N M : Nat} (X : Stand p l e R s m args below meth c T locs cells slots) : ∀ i, ∃ L : List Loc, (∀ x ∈ L, x.base = T.heap.size) ∧ Stand p l e R s m args below meth c (mt_ T cI comp N M i) (locs ++ L) (cells + 1 + i) (slots + N + i * M) := by
  intro i
  induction i with
  | zero =>
    refine ⟨[], (fun x hx => by cases hx), ?_⟩
    have h := X.pushed (mg_ cI N T.heap.size 0)
    rw [arrV_size] at h
    simpa [mt_] using h
  | succ i ih =>
    obtain ⟨L, hL, Xi⟩ := ih
    obtain ⟨f1, f2, f3, f4, f5, f6⟩ := mt_f T cI comp N M i
    have lt0 : T.heap.size < (mt_ T cI comp N M i).heap.size := by omega
    have hcell : ((mt_ T cI comp N M i).pushCell (mi_ comp M)).heap[T.heap.size]? = some (mg_ cI N T.heap.size i) := by rw [State.heap_pushCell_of_lt (h := lt0)]; exact f2
    have h := (Xi.pushed (mi_ comp M)).stored hcell i (.ref (T.heap.size + 1 + i))
    rw [mg_s, arrV_size, List.append_assoc] at h
    refine ⟨L ++ [⟨T.heap.size, i⟩], fun x hx => ?_, ?_⟩
    · rcases List.mem_append.mp hx with hx | hx
      · exact hL x hx
      · rw [List.mem_singleton.mp hx]
    · rw [show slots + N + (i + 1) * M = slots + N + i * M + M by rw [Nat.succ_mul]; omega]
      exact h
theorem cr_multi {k9 : Nat} (hlen : es.length = k9) (hexec : p.tables.exec = Jvm.exec) (hb : c.code = cc) {own : String} {index : Nat} (hown : s.vm.findClass own = some m.cls) (hclink : (Cond.classLink own index "[[I").before args s = true) (hK : ck_K D cA s) (hq : cqz_ D q es H) (hS : va_S (fun a => q ≤ a) s.heap H locs) {n k : Int32} {N M : Nat} (hn : ¬ n < 0) (hn0 : (n == 0) = false) (hk : ¬ k < 0) (hN : n.toNatClampNeg = N) (hM : k.toNatClampNeg = M) (hb1 : N ≤ 1000) (hb2 : M ≤ 1000) (hcells : cells + (1 + N) ≤ R.cells) (hslots : slots + (N + N * M) ≤ R.slots) (hdg : decode cc pc = .ok (.multianewarray index 2, 4))
    (kk : ∀ (H1 : Heap) (locs1 : List Loc), cqz_ D q (es ++ (cg_o (cA 5) N (q + k9) :: List.replicate N (cg_r (cA 0) M))) H1 → va_S (fun a => q ≤ a) s.heap H1 locs1 → W p l e R s m args below meth c H1 locs1 (cells + (1 + N)) (slots + (N + N * M)) Q (F0 m (pc + 4) ls (.ref (q + k9) :: rest))) : W p l e R s m args below meth c H locs cells slots Q (F0 m pc ls (.int k :: .int n :: rest)) := by
  subst hlen
  obtain ⟨hKv, -, ⟨kA, hkA, hkindA⟩, -⟩ := hK
  have hnA : s.vm.findClass "[[I" = some (cA 5) := (hKv.2 5 _ rfl).2
  obtain ⟨-, kC, hkC, cc1, hkindC⟩ := (hKv.2 0 _ rfl).1 0 (fun _ => .null)
  have hkC : s.vm.classes[cA 0]? = some kC := hkC
  have hkindC : kC.kind = .array cc1 .int := hkindC
  intro T hT X
  subst hb
  have hpl : e.platform.magicAccessors = ({} : Platform).magicAccessors := by rw [X.admits.platform]
  obtain ⟨c0, hfc0, hcl⟩ := Cond.classLink_spec hown hclink e.platform hpl
  have ec : cA 5 = c0 := Option.some.inj (hnA.symm.trans hfc0)
  rw [← ec] at hcl
  obtain ⟨hg1, hw1, hr1⟩ := State.classEntry (e := e) X.warmed hcl
  generalize T.vm.noted m.cls index (.cls (cA 5)) = vm1 at hg1 hw1 hr1
  obtain ⟨kA1, hkA1, heA⟩ := hw1.alike.2.2 _ _ hkA
  obtain ⟨kC1, hkC1, heC⟩ := hw1.alike.2.2 _ _ hkC
  have X1 := X.noted hw1
  obtain ⟨r1, r2⟩ := X.roomAbove hcells hslots
  obtain ⟨L, hL, XF⟩ := mt_stand (cI := cA 5) (comp := cA 0) (N := N) (M := M) X1 N
  obtain ⟨f1, f2, f3, f4, f5, f6⟩ := mt_f (T.setVm vm1) (cA 5) (cA 0) N M N
  have hTs : (T.setVm vm1).heap = H := hT
  rw [hTs] at f1 f2 f5 f6 hL
  have hz := hq.1
  rw [hz] at f1 f2 f5 f6 hL
  have hw : cqz_ D (q + es.length) (cg_o (cA 5) N (q + es.length) :: List.replicate N (cg_r (cA 0) M)) (mt_ (T.setVm vm1) (cA 5) (cA 0) N M N).heap := by
    refine ⟨by rw [f1, List.length_cons, List.length_replicate]; omega, fun i x hx => ?_⟩
    cases i with
    | zero =>
      cases hx
      show (mt_ (T.setVm vm1) (cA 5) (cA 0) N M N).heap[q + es.length]? = some (vp_cell _ _)
      rw [f2, vp_cell_q]
      refine congrArg some (congrArg (arrV (cA 5) N) (funext fun j => ?_))
      by_cases h : j < N
      · rw [if_pos h, if_pos h]; rfl
      · rw [if_neg h, if_neg h]; rfl
    | succ i =>
      rw [List.getElem?_cons_succ, List.getElem?_replicate] at hx
      by_cases h : i < N
      · rw [if_pos h] at hx
        cases hx
        have := f6 i h
        show (mt_ (T.setVm vm1) (cA 5) (cA 0) N M N).heap[q + es.length + (i + 1)]? = some (vp_cell _ _)
        rw [show q + es.length + (i + 1) = q + es.length + 1 + i by omega, this]
        have e0 : (fun j : Nat => if j < M then (Int32.ofInt 0) else 0) = fun _ => 0 := by
          funext j
          split <;> rfl
        rw [e0]
        rfl
      · rw [if_neg h] at hx
        cases hx
  have hq1 := cqz_app hq hw (fun a ha => f5 a ha)
  have hS1 : va_S (fun a => q ≤ a) s.heap (mt_ (T.setVm vm1) (cA 5) (cA 0) N M N).heap (locs ++ L) := by
    have h0 := cs_grow (H1 := (mt_ (T.setVm vm1) (cA 5) (cA 0) N M N).heap) hS (by omega) (by omega) (fun a ha => f5 a (by omega))
    refine ⟨h0.1, h0.2.1, fun x hx => ?_⟩
    rcases List.mem_append.mp hx with hx | hx
    · exact hS.2.2 x hx
    · rw [hL x hx]
      exact Nat.le_add_right _ _
  rw [show cells + 1 + N = cells + (1 + N) by omega, show slots + N + N * M = slots + (N + N * M) by omega] at XF
  obtain ⟨t, a1, b1⟩ := kk _ _ hq1 hS1 (mt_ (T.setVm vm1) (cA 5) (cA 0) N M N) rfl XF
  refine ⟨t, ?_, b1⟩
  have l1 : ¬ N > e.platform.arrayLengthLimit := by rw [Launch.admits_arrayLengthLimit X.admits]; omega
  have h1 : ¬ N * componentBytes (.array .int) > e.platform.maxHeapBytes := by rw [Launch.admits_maxHeapBytes X.admits]; show ¬ N * 4 > 536870912; omega
  have l2 : ¬ M > e.platform.arrayLengthLimit := by rw [Launch.admits_arrayLengthLimit X.admits]; omega
  have h2 : ¬ M * componentBytes .int > e.platform.maxHeapBytes := by rw [Launch.admits_maxHeapBytes X.admits]; show ¬ M * 4 > 536870912; omega
  jvm_step X.here [hexec, hdg]
  simp only [multianewarray.sem, wp_bind', W.resolveClassAt_links (State.method?_setTop (F0 m pc ls (.int k :: .int n :: rest)) X.here.top) hg1]
  rw [W.popN, if_neg (by decide)]
  refine ⟨F0 m pc ls (.int k :: .int n :: rest), State.topJava?_setTop' (s := T.setVm vm1) (F0 m pc ls (.int k :: .int n :: rest)) X.here.top, [.int n, .int k], rest, rfl, rfl, ?_⟩
  simp only [List.mapM_cons, List.mapM_nil, wp_bind', wp_pure']
  refine mt_wp (k := kA1) (kc := kC1) (comp := cA 0) (cc := cc1) hkA1 (by rw [heA]; exact hkindA) hkC1 (by rw [heC]; exact hkindC) hn hn0 hk hN hM l1 h1 l2 h2 (by show T.heap.size + 1 + _ ≤ _; omega) (by show T.slotsUsed + _ + _ ≤ _; omega) (fun d' acts' => ?_)
  have eS : ∀ g g' : JFrame, ((T.setTop g).setVm vm1).setTop g' = (T.setVm vm1).setTop g' := fun g g' => by
    show ((T.setVm vm1).setTop g).setTop _ = _
    rw [State.setTop_setTop]
  rw [eS, mt_top]
  simp only [wp_bind', W.mark, W.pushRef, State.topJava?_setTop' _ XF.here.top, Option.some.injEq, exists_eq_left', State.setTop_setTop, State.heap_setTop]
  intro acts
  simp [jvm, XF.here.top]
  have eH : T.heap.size = q + es.length := by rw [hT]; exact hz
  rw [eH]
  exact a1
end CTR
