/-! constructors: fields of the new object, calls of constructors, an object laid into a row -/
abbrev ctW_ (Y : bc_Y) : List Cond := .code Y.1 Y.2.1 (bc_nL Y) none :: bc_W
theorem ctW_good {Y : bc_Y} (h : Cond.code Y.1 Y.2.1 (bc_nL Y) none ∈ bc_W) : GoodIn bc_W (ctW_ Y) := fun w hw => by
  rcases List.mem_cons.mp hw with rfl | hw
  · exact ⟨h, bc_W_good _ h⟩
  · exact ⟨hw, bc_W_good _ hw⟩
/-- a constructor, called on the last cell: cells come behind it, what lies before stays -/
def ctc_ (l : Launch) (D : va_G) (cA : Nat → ClassId) (Y : bc_Y) (rm : Room) (e0 : va_E) (E : Nat → List va_E) (mc ms : Nat) : Prop := ∀ q : Nat, Met l Y.1 (ctW_ Y) rm (va_Pc [.ref q] (fun U => cqz_ D q [e0] U.heap ∧ ck_K D cA U)) (va_Qv (fun _ : Unit => True) (fun _ t => cqz_ D q (E q) t.heap) (fun a => q ≤ a)) mc ms (fun a => q ≤ a)
section CTP
variable {p : Program} {l : Launch} {e : Env} {R : Room} {s : State} {m : MethodId} {args : Array Value} {below : List Frame} {meth : Method} {c : Code} {H : Heap} {locs : List Loc} {cells slots : Nat} {Q : State → Prop} {cc : ByteArray} {pc : Nat} {ls : Array Slot} {rest : List Value} {D : va_G} {cA : Nat → ClassId} {q : Nat} {es : List va_E}
theorem cr_put (hexec : p.tables.exec = Jvm.exec) (hb : c.code = cc) {own ref C : String} {T : u_T} {N ci index : Nat} (hts : ∀ w ∈ bc_W, w.before args s = true) (hin : ∀ w ∈ u_ws C T N, w ∈ bc_W) (ty0 : Nat → FieldType) (hty : ∀ k, k < N → parseFieldDescriptor (T k).2.2.1 = some (ty0 k)) (hnm : ∀ a, a < N → ∀ b, b < N → a ≠ b → (T a).2.1 ≠ (T b).2.1) (hown : s.vm.findClass own = some m.cls) (hK : ck_K D cA s) {fs : List Value} (hq : cqz_ D q (.inr (ci, fs) :: es) H) (hS : va_S (fun a => q ≤ a) s.heap H locs) (hc : bc_cl[ci]? = some (C, T, N)) (k : Nat) (hk : k < N) (hlink : (Cond.fieldLink own index ref (T k).2.1 (T k).2.2.1).before args s = true) (hsame : ∀ x, s.fieldFound? (T k).1 (T k).2.1 (T k).2.2.1 = some x → s.fieldFound? ref (T k).2.1 (T k).2.2.1 = some x) (hfin : (T k).2.2.2 = false) {ty : FieldType} {v : Value} (hd : parseFieldDescriptor (T k).2.2.1 = some ty) (hn : narrow ty v = v) (hfit : fits ty v = true) (hl : k < fs.length)
    (hdg : decode cc pc = .ok (.putfield index, 3)) (kk : ∀ (H1 : Heap) (locs1 : List Loc), cqz_ D q (.inr (ci, fs.set k v) :: es) H1 → va_S (fun a => q ≤ a) s.heap H1 locs1 → W p l e R s m args below meth c H1 locs1 cells slots Q (F0 m (pc + 3) ls rest)) : W p l e R s m args below meth c H locs cells slots Q (F0 m pc ls (v :: .ref q :: rest)) := by
  have hap := va_apart (own := own) hts hin ty0 hty hnm hK.1 hc
  obtain ⟨r, h1, cell, q1, q2, q3, q4⟩ := (hq.2 0 _ rfl : va_at D bc_cl (q, .inr (ci, fs)) H)
  have hr : r = (C, T, N) := Option.some.inj (h1.symm.trans hc)
  subst hr
  obtain ⟨hSs, hfc, kC, hkC, hkind⟩ := hK.1.1 ci _ hc
  obtain ⟨cf, kf, fi, f, hi, hsl⟩ := hSs k hk
  have hlay := hts _ (hin _ (u_in_lay hk))
  unfold u_lay at hlay
  rw [if_neg (by rw [hfin]; decide)] at hlay
  have hst := (u_facts hfc hkC (u_lays hts hin hk) hi).1
  have h6 := u_store hfc hkC hkind hlay hi hd hn hfit
  refine W.putK hexec hb (f := f) ⟨hown, hlink, ⟨_, _, _, hsame _ hi⟩, hst⟩ (by rw [q2]; exact h6) q1 q3 (by rw [hsl]; exact k2_hasslot (q4 k hk)) rfl rfl hdg fun H' e1 e2 e3 => ?_
  rw [hsl] at e1 ⊢
  exact kk H' _ (cqz_put hq e2 e3 ⟨_, hc, t_OB.to (V := updV (vp_V fs) k v) ⟨_, e1, q2, q3, t_set q4 hap hk v⟩ (fun j _ => vp_updV_set hl v j)⟩) (hS.put e2 e3 (Nat.le_refl q))
theorem cr_putF (hexec : p.tables.exec = Jvm.exec) (hb : c.code = cc) {own ref C : String} {T : u_T} {N ci index : Nat} (hts : ∀ w ∈ bc_W, w.before args s = true) (hin : ∀ w ∈ u_ws C T N, w ∈ bc_W) (ty0 : Nat → FieldType) (hty : ∀ k, k < N → parseFieldDescriptor (T k).2.2.1 = some (ty0 k)) (hnm : ∀ a, a < N → ∀ b, b < N → a ≠ b → (T a).2.1 ≠ (T b).2.1) (hown : s.vm.findClass own = some m.cls) (hK : ck_K D cA s) {fs : List Value} (hq : cqz_ D q (.inr (ci, fs) :: es) H) (hS : va_S (fun a => q ≤ a) s.heap H locs) (hc : bc_cl[ci]? = some (C, T, N)) (k : Nat) (hk : k < N) (hlink : (Cond.fieldLink own index ref (T k).2.1 (T k).2.2.1).before args s = true) (hsame : ∀ x, s.fieldFound? (T k).1 (T k).2.1 (T k).2.2.1 = some x → s.fieldFound? ref (T k).2.1 (T k).2.2.1 = some x) (hfin : (T k).2.2.2 = true) (hin2 : meth.name = "<init>") (hdecl : (T k).1 = own) {ty : FieldType} {v : Value} (hd : parseFieldDescriptor (T k).2.2.1 = some ty) (hn : narrow ty v = v) (hfit : fits ty v = true) (hl : k < fs.length)
    (hdg : decode cc pc = .ok (.putfield index, 3)) (kk : ∀ (H1 : Heap) (locs1 : List Loc), cqz_ D q (.inr (ci, fs.set k v) :: es) H1 → va_S (fun a => q ≤ a) s.heap H1 locs1 → W p l e R s m args below meth c H1 locs1 cells slots Q (F0 m (pc + 3) ls rest)) : W p l e R s m args below meth c H locs cells slots Q (F0 m pc ls (v :: .ref q :: rest)) := by
  have hap := va_apart (own := own) hts hin ty0 hty hnm hK.1 hc
  obtain ⟨r, h1, cell, q1, q2, q3, q4⟩ := (hq.2 0 _ rfl : va_at D bc_cl (q, .inr (ci, fs)) H)
  have hr : r = (C, T, N) := Option.some.inj (h1.symm.trans hc)
  subst hr
  obtain ⟨hSs, hfc, kC, hkC, hkind⟩ := hK.1.1 ci _ hc
  obtain ⟨cf, kf, fi, f, hi, hsl⟩ := hSs k hk
  have hlay := hts _ (hin _ (u_in_lay hk))
  unfold u_lay at hlay
  rw [if_pos hfin] at hlay
  have hst := (u_facts hfc hkC (u_lays hts hin hk) hi).1
  have hcf : m.cls = cf := by
    obtain ⟨_, _, c', _, _, _, -, -, hf', -, -, -, hown2, -⟩ := Cond.laysFinal_spec hlay
    have e1 : c' = cf := by have := hi.symm.trans hf'; simp at this; exact this.1.symm
    rw [hdecl] at hown2
    rw [← e1]; exact Option.some.inj (hown.symm.trans hown2)
  have h6 := u_fits hfc hkC hkind (Or.inr hlay) hi hd hn hfit
  refine W.putFinK hexec hb hown hlink (hsame _ hi) hst hcf hin2 (by rw [q2]; exact h6) q1 q3 (by rw [hsl]; exact k2_hasslot (q4 k hk)) rfl rfl hdg fun H' e1 e2 e3 => ?_
  rw [hsl] at e1 ⊢
  exact kk H' _ (cqz_put hq e2 e3 ⟨_, hc, t_OB.to (V := updV (vp_V fs) k v) ⟨_, e1, q2, q3, t_set q4 hap hk v⟩ (fun j _ => vp_updV_set hl v j)⟩) (hS.put e2 e3 (Nat.le_refl q))
theorem ctc_blind {q : Nat} {e0 : va_E} : FrameBlind (va_Pc [.ref q] (fun U => cqz_ D q [e0] U.heap ∧ ck_K D cA U)) := fun a U g mk h => ⟨h.1, h.2.1, ck_same (u := U) (U := U.calling g mk a) rfl h.2.2⟩
theorem cr_callN {k9 : Nat} (hlen : es.length = k9) {Y : bc_Y} {rm : Room} {e0 : va_E} {E : Nat → List va_E} {mc ms nL index : Nat} {own host : String} (hexec : p.tables.exec = Jvm.exec) (hb : c.code = cc) (hml : c.maxLocals = nL) (hown : s.vm.findClass own = some m.cls) (hts : ∀ w ∈ bc_W, w.before args s = true) (hC : ctc_ l D cA Y rm e0 E mc ms) (hcode : Cond.code Y.1 Y.2.1 (bc_nL Y) none ∈ bc_W) (hlk : Cond.methodLinkNest own index Y.1 host ∈ lw_tbl) (hini : Cond.initialized Y.1.cls ∈ bc_W) (hinst : Cond.instanceMethod Y.1 ∈ bc_W) (hy1 : Y.1.name = "<init>") (hd : Y.1.cls ≠ "java/lang/invoke/MethodHandle" ∧ Y.1.cls ≠ "java/lang/invoke/VarHandle" ∧ (parseMethodDescriptor Y.1.desc).map (fun d => d.parameters.length) = some 0) (hrc : rm.cells = mc) (hrs : rm.slots = ms) (hR : rm.frames + 1 ≤ R.frames ∧ 8 + (bc_nL Y + 11) + rm.locals ≤ R.locals)
    (hK : ck_K D cA s) (hq : cqz_ D q (es ++ [e0]) H) (hS : va_S (fun a => q ≤ a) s.heap H locs) (hls : ls.size = nL) (hrm : (rest.map fun v => v.category).sum ≤ 8) (hdg : decode cc pc = .ok (.invokespecial index, 3)) (hf : cells + mc ≤ R.cells ∧ slots + ms ≤ R.slots)
    (kk : ∀ (H1 : Heap) (locs1 : List Loc), cqz_ D q (es ++ E (q + k9)) H1 → va_S (fun a => q ≤ a) s.heap H1 locs1 → W p l e R s m args below meth c H1 locs1 (cells + mc) (slots + ms) Q (F0 m (pc + 3) ls rest)) : W p l e R s m args below meth c H locs cells slots Q (F0 m pc ls (.ref (q + k9) :: rest)) := by
  subst hlen
  have hz := hq.1
  rw [List.length_append, List.length_singleton] at hz
  refine va_callv (A0 := fun a => q ≤ a) (A1 := fun a => q + es.length ≤ a) (va_runIN (As := []) (rest := rest) (Ts := bc_W) ⟨hexec, hb, hml, hown, hts⟩ (hC (q + es.length)) ⟨va_cnB 0 hts (ctW_good hcode) rfl hrc hrs (hK.2.2.2 _ hlk rfl) (hts _ hini) hd hR, hy1, hts _ hinst⟩ ⟨ctc_blind, fun U hU hW => ⟨rfl, by rw [hU]; exact cqz_split hq, ck_warm hW hK⟩⟩ rfl rfl hls rfl (lv_room hrm) hdg hf) hS (fun a _ h => Nat.le_trans (Nat.le_add_right _ _) h) (fun a h => Nat.le_trans (Nat.le_add_right _ _) h) (fun u t H1 locs1 ht hvm _ hB hz1 hk1 hS1 => ?_)
  exact kk H1 locs1 (cqz_last hq (by rw [← ht]; exact hB) (fun a ha => hk1 a (by omega) (by omega))) hS1
theorem cr_callI {k9 : Nat} (hlen : es.length = k9) {Y : bc_Y} {rm : Room} {e0 : va_E} {E : Nat → List va_E} {mc ms nL index : Nat} {own : String} (hexec : p.tables.exec = Jvm.exec) (hb : c.code = cc) (hml : c.maxLocals = nL) (hown : s.vm.findClass own = some m.cls) (hts : ∀ w ∈ bc_W, w.before args s = true) (hC : ctc_ l D cA Y rm e0 E mc ms) (hcode : Cond.code Y.1 Y.2.1 (bc_nL Y) none ∈ bc_W) (hlk : Cond.methodLink own index Y.1 ∈ bc_W) (hini : Cond.initialized Y.1.cls ∈ bc_W) (hinst : Cond.instanceMethod Y.1 ∈ bc_W) (hy1 : Y.1.name = "<init>") (hd : Y.1.cls ≠ "java/lang/invoke/MethodHandle" ∧ Y.1.cls ≠ "java/lang/invoke/VarHandle" ∧ (parseMethodDescriptor Y.1.desc).map (fun d => d.parameters.length) = some 0) (hrc : rm.cells = mc) (hrs : rm.slots = ms) (hR : rm.frames + 1 ≤ R.frames ∧ 8 + (bc_nL Y + 11) + rm.locals ≤ R.locals)
    (hK : ck_K D cA s) (hq : cqz_ D q (es ++ [e0]) H) (hS : va_S (fun a => q ≤ a) s.heap H locs) (hls : ls.size = nL) (hrm : (rest.map fun v => v.category).sum ≤ 8) (hdg : decode cc pc = .ok (.invokespecial index, 3)) (hf : cells + mc ≤ R.cells ∧ slots + ms ≤ R.slots)
    (kk : ∀ (H1 : Heap) (locs1 : List Loc), cqz_ D q (es ++ E (q + k9)) H1 → va_S (fun a => q ≤ a) s.heap H1 locs1 → W p l e R s m args below meth c H1 locs1 (cells + mc) (slots + ms) Q (F0 m (pc + 3) ls rest)) : W p l e R s m args below meth c H locs cells slots Q (F0 m pc ls (.ref (q + k9) :: rest)) := by
  subst hlen
  have hz := hq.1
  rw [List.length_append, List.length_singleton] at hz
  refine va_callv (A0 := fun a => q ≤ a) (A1 := fun a => q + es.length ≤ a) (va_runI (As := []) (rest := rest) (Ts := bc_W) ⟨hexec, hb, hml, hown, hts⟩ (hC (q + es.length)) (cwI 0 hts (ctW_good hcode) rfl hrc hrs (hts _ hini) (hts _ hlk) (hts _ hinst) hy1 hd hR) ⟨ctc_blind, fun U hU hW => ⟨rfl, by rw [hU]; exact cqz_split hq, ck_warm hW hK⟩⟩ rfl rfl hls rfl (lv_room hrm) hdg hf) hS (fun a _ h => Nat.le_trans (Nat.le_add_right _ _) h) (fun a h => Nat.le_trans (Nat.le_add_right _ _) h) (fun u t H1 locs1 ht hvm _ hB hz1 hk1 hS1 => ?_)
  exact kk H1 locs1 (cqz_last hq (by rw [← ht]; exact hB) (fun a ha => hk1 a (by omega) (by omega))) hS1
theorem cqz_set {es : List va_E} {e1 : va_E} {k0 : Nat} {H H1 : Heap} (h : cqz_ D q es H) (hk : k0 < es.length) (hz : H1.size = H.size) (o1 : ∀ a, a ≠ q + k0 → H1[a]? = H[a]?) (hn : va_at D bc_cl (q + k0, e1) H1) : cqz_ D q (es.set k0 e1) H1 := by
  refine ⟨by rw [hz, h.1, List.length_set], fun i x hx => ?_⟩
  by_cases c : i = k0
  · subst c
    rw [List.getElem?_set_self hk] at hx
    cases hx
    exact hn
  · rw [List.getElem?_set_ne (fun q => c q.symm)] at hx
    exact (h.2 i x hx).kept (o1 (q + i) (by omega))
theorem cr_ast (hexec : p.tables.exec = Jvm.exec) (hb : c.code = cc) (hK : ck_K D cA s) (hq : cqz_ D q es H) (hS : va_S (fun a => q ≤ a) s.heap H locs) {k0 kv N : Nat} {f : Nat → Option Nat} {fs : List Value} (ha : es[k0]? = some (.inl (cA 6, N, .inr (.inr (.inr (.inr f)))))) (hv : es[kv]? = some (.inr (6, fs))) {i : Int32} (hin : vp_in i N) (hdg : decode cc pc = .ok (.aastore, 1))
    (kk : ∀ (H1 : Heap) (locs1 : List Loc), cqz_ D q (es.set k0 (.inl (cA 6, N, .inr (.inr (.inr (.inr (va_up f i.toNatClampNeg (some (q + kv))))))))) H1 → va_S (fun a => q ≤ a) s.heap H1 locs1 → W p l e R s m args below meth c H1 locs1 cells slots Q (F0 m (pc + 1) ls rest)) : W p l e R s m args below meth c H locs cells slots Q (F0 m pc ls (.ref (q + kv) :: .int i :: .ref (q + k0) :: rest)) := by
  have hlt : i.toNatClampNeg < N := Nat.not_le.mp fun q => hin (Or.inr q)
  have h0 : ¬ i < 0 := fun q => hin (Or.inl q)
  obtain ⟨r', hr', cellV, g1, g2, g3, -⟩ := (hq.2 kv _ hv : va_at D bc_cl (q + kv, .inr (6, fs)) H)
  have hcls := (hK.1.1 6 _ rfl).2
  obtain ⟨kA, comp, k1, k2, k3, -⟩ := (hK.1.2 6 _ rfl).2
  have hcomp : comp = D.1 6 := Option.some.inj (k3.symm.trans hcls.1)
  subst hcomp
  obtain ⟨kC, hkC, -⟩ := hcls.2
  have hat : H[q + k0]? = some (vp_cell (cA 6) (N, .inr (.inr (.inr (.inr f))))) := hq.2 k0 _ ha
  refine W.aast hexec hb hat (fun q h => by cases h) (fun h => by cases h) k1 k2 rfl hkC ⟨h0, by show _ < (arrV _ _ _).slots.size; rw [arrV_size]; exact hlt⟩ g1 (fun q h => by rw [g3] at h; cases h) (by rw [g2]; exact hkC) (by rw [g2]; exact va_assign hcls) rfl rfl hdg fun H1 e1 z oq => ?_
  refine kk H1 _ (cqz_set hq (List.getElem?_eq_some_iff.mp ha).1 z oq ?_) (hS.put z oq (Nat.le_add_right _ _))
  show H1[q + k0]? = some (vp_cell _ _)
  rw [e1]
  rw [vp_cell_q, vp_cell_q, arrV_store]
  congr 2
  funext j
  by_cases hj : j = i.toNatClampNeg
  · subst hj
    simp [updV, va_up, va_rf]
  · simp [updV, va_up, hj]
theorem cr_iast (hexec : p.tables.exec = Jvm.exec) (hb : c.code = cc) (hK : ck_K D cA s) (hq : cqz_ D q es H) (hS : va_S (fun a => q ≤ a) s.heap H locs) {k0 N : Nat} {f : Nat → Int32} (ha : es[k0]? = some (.inl (cA 0, N, .inl f))) {i x : Int32} (hin : vp_in i N) (hdg : decode cc pc = .ok (.iastore, 1))
    (kk : ∀ (H1 : Heap) (locs1 : List Loc), cqz_ D q (es.set k0 (.inl (cA 0, N, .inl (upd f i.toNatClampNeg x)))) H1 → va_S (fun a => q ≤ a) s.heap H1 locs1 → W p l e R s m args below meth c H1 locs1 cells slots Q (F0 m (pc + 1) ls rest)) : W p l e R s m args below meth c H locs cells slots Q (F0 m pc ls (.int x :: .int i :: .ref (q + k0) :: rest)) := by
  have hat : H[q + k0]? = some (vp_cell (cA 0) (N, .inl f)) := hq.2 k0 _ ha
  refine W.iast hexec hb hat ((hK.1.2 0 _ rfl).1 N (fun j => .int (f j))) (fun q => by cases q) (by show ¬ (i < 0 ∨ (arrV _ _ _).slots.size ≤ _); rw [arrV_size]; exact hin) rfl rfl hdg fun H1 e1 z oq => ?_
  refine kk H1 _ (cqz_set hq (List.getElem?_eq_some_iff.mp ha).1 z oq ?_) (hS.put z oq (Nat.le_add_right _ _))
  show H1[q + k0]? = some (vp_cell _ _)
  rw [e1]
  rw [vp_cell_i, vp_cell_i, arrV_store]
  congr 2
  funext j
  by_cases hj : j = i.toNatClampNeg
  · subst hj
    simp [updV, upd]
  · simp [updV, upd, hj]
end CTP
