section
section BCR
variable {p : Program} {e : Env} {R : Room} {s : State} {m : MethodId} {args : Array Value} {below : List Frame} {meth : Method} {c : Code} {Q : State → Prop} {g : bc_C} {Y : bc_Y} {d : Nat} {pc : Nat} {lv : bc_LV} {st r : List bc_A} {σ : bc_M} {n c0 s0 : Nat}
/-- ireturn, of any type that a number has -/
theorem bc_iret {l : Launch} {H : Heap} {locs : List Loc} {cells slots : Nat} {cc : ByteArray} {Qc : Array Value → State → Outcome → State → Prop} {free : Addr → Prop} {v : Int32} {ty : FieldType} (hexec : p.tables.exec = Jvm.exec) (hb : c.code = cc) (hr : meth.sig.returnType = some ty) (hn : narrow ty (.int v) = .int v)
    (hq : ∀ t : State, t.heap = H → s.WarmedH t.vm → Qc args s (.returned (some (.int v))) t) (hf : ∀ q ∈ locs, free q.base)
    {pc : Nat} {ls : Array Slot} (hdg : decode cc pc = .ok (.ireturn, 1)) (hlocks : meth.locks = false) : W p l e R s m args below meth c H locs cells slots (MQ below Qc args s cells slots free) (F0 m pc ls [.int v]) := by
  intro T hT X
  have hlocks : meth.locks = false := hlocks
  obtain ⟨fs, hret, hrun, hended, hW, hframe⟩ := X.leave (v := some (.int v)) (fun h => by rw [hr] at h; cases h)
  have hmeth' : T.vm.method? m = some meth := X.method'
  refine ⟨T.setFrames fs, ?_, .returned (some (.int v)), hrun, hended, hq _ hT hW, locs, ⟨⟨_, rfl⟩, hW, hframe⟩, hf⟩
  jvm_step X.here [X.here.top, hexec, hb, hdg, hmeth', hr, hn]
  (try refine ⟨rfl, ?_⟩); (try refine ⟨rfl, ?_⟩)
  first | (intro acts; rw [hret _ acts rfl rfl rfl]) | rw [hret _ _ rfl rfl rfl]
  exact Steps.refl _
noncomputable def bc_Qc (g : bc_C) (Rr : Option bc_A → bc_M → Prop) : Array Value → State → Outcome → State → Prop := fun _ st o t => (∃ (r : Option bc_A) (σ' : bc_M), o = .returned (r.map (bc_v g)) ∧ Rr r σ' ∧ bc_H g σ' t.heap) ∧ va_F (bc_Z g) st t
noncomputable def bc_Xc (g : bc_C) (X : Nat → bc_M → Prop) : String → State → State → Prop := fun E st t => ∃ (e : Nat) (σ' : bc_M), E = bc_en e ∧ e < 6 ∧ X e σ' ∧ bc_H g σ' t.heap ∧ va_F (bc_Z g) st t
/-- it returns -/
theorem bc_s_ret {Rr : Option bc_A → bc_M → Prop} {X : Nat → bc_M → Prop} {i : Instr} {len : Nat} {ts : List Nat} {r : Option bc_A} (F : bc_Fx g Y d p R s m args meth c 0 0) (hc : bc_code Y pc = some (i, len, ts)) (hr : bc_rok (bc_ret Y) i r st) (h : Rr r σ) :
    bc_T g Y p e R s m args below meth c (vx_MQ below (bc_Qc g Rr) (bc_Xc g X) args s (bc_cost Y) (6 * bc_cost Y) (bc_Z g)) 0 0 pc lv st σ n := by
  obtain ⟨hx, hb, hml, hts, hown, hlocks, hap, htr, hE, hz, hok, -, -, -, -, hret⟩ := F
  obtain ⟨hd, htg, hln⟩ := hok pc i len ts hc
  intro H locs ls hn hH hS hl
  refine W.widen (k := bc_cost Y) (n := 6 * bc_cost Y) (by omega) (by omega) (vx_ret ?_)
  have post : ∀ r0 : Option bc_A, r0 = r → ∀ t : State, t.heap = H → s.WarmedH t.vm → bc_Qc g Rr args s (.returned (r0.map (bc_v g))) t := fun r0 e t ht hW => ⟨⟨r0, σ, rfl, by rw [e]; exact h, by rw [ht]; exact hH⟩, hS.F ht⟩
  rcases hr with ⟨rfl, x, rfl, rfl, ht⟩ | ⟨rfl, x, rfl, rfl, ht⟩ | ⟨rfl, x, rfl, rfl, ht⟩ | ⟨rfl, x, rfl, rfl, ht⟩ | ⟨rfl, x, rfl, rfl, t, ht⟩ | ⟨rfl, rfl, rfl, ht⟩
  · have hl1 : len = 1 := by simpa [bc_ln] using hln
    subst hl1
    rcases ht with ht | ⟨ht, h0, h1⟩ | ⟨ht, h0, h1⟩
    · exact bc_iret hx hb (hret.trans ht) rfl (post _ rfl) hS.2.2 hd hlocks
    · exact bc_iret hx hb (hret.trans ht) (bc_fit_e (ty := 2) (A := True) ⟨⟨h0, h1⟩, trivial⟩).2.2.1 (post _ rfl) hS.2.2 hd hlocks
    · exact bc_iret hx hb (hret.trans ht) (bc_fit_e (ty := 1) (A := True) ⟨⟨h0, h1⟩, trivial⟩).2.2.1 (post _ rfl) hS.2.2 hd hlocks
  · have hl1 : len = 1 := by simpa [bc_ln] using hln
    subst hl1
    exact W.lret hx hb (hret.trans ht) (post _ rfl) hS.2.2 hd
  · have hl1 : len = 1 := by simpa [bc_ln] using hln
    subst hl1
    exact W.fret hx hb (hret.trans ht) (post _ rfl) hS.2.2 hd
  · have hl1 : len = 1 := by simpa [bc_ln] using hln
    subst hl1
    exact W.dret hx hb (hret.trans ht) (post _ rfl) hS.2.2 hd
  · have hl1 : len = 1 := by simpa [bc_ln] using hln
    subst hl1
    exact W.aret hx hb (hret.trans ht) (Or.inl ⟨_, rfl⟩) (Or.inr ⟨_, rfl⟩) (post _ rfl) hS.2.2 hd
  · have hl1 : len = 1 := by simpa [bc_ln] using hln
    subst hl1
    exact W.vret hx hb (hret.trans ht) (post _ rfl) hS.2.2 hd
/-- it throws, and nothing here catches it -/
theorem bc_s_out {Rr : Option bc_A → bc_M → Prop} {X : Nat → bc_M → Prop} {x : Nat} (F : bc_Fx g Y d p R s m args meth c 0 0) (hnt : ∀ x ∈ c.exceptionTable.toList, False) (hx6 : x < 6) (h : X x σ) :
    bc_TX g Y p e R s m args below meth c (vx_MQ below (bc_Qc g Rr) (bc_Xc g X) args s (bc_cost Y) (6 * bc_cost Y) (bc_Z g)) 0 0 pc lv n x σ := by
  obtain ⟨hx, hb, hml, hts, hown, hlocks, hap, htr, hE, hz, hok, -, -, -, -, hret⟩ := F
  intro H locs ls rest q ce hn hH hS hl hq hv hcl
  exact vx_out (fun z hz => (hnt z hz).elim) hlocks hq hv hcl (fun t ht _ => ⟨x, σ, rfl, hx6, h, by rw [ht]; exact hH, hS.F ht⟩) hS.2.2 (by omega) (by omega)
/-- the calls of a method: none has handlers, all are well read -/
noncomputable def bc_cv (ow : Nat) : Prop := ∀ (ix j pos : Nat), bc_ml ow ix = some (.inl (j, pos)) → bc_vY j ∧ (bc_hh (bc_yt j) = [] ∨ bc_fg j = true)
/-- the JDK's methods, as the machine has them -/
noncomputable def bc_JD (g : bc_C) (Y : bc_Y) (p : Program) (e : Env) (R : Room) (s : State) (m : MethodId) (args : Array Value) (below : List Frame) (meth : Method) (c : Code) (Q : State → Prop) (c0 s0 : Nat) : Prop :=
  ∀ (k : Nat) (i : Instr) (ix pc : Nat) (lv : bc_LV) (st : List bc_A) (σ : bc_M) (n : Nat), bc_ml (bc_own Y) ix = some (.inr k) → (k < 4 ∧ i = .invokestatic ix) ∨ (4 ≤ k ∧ i = .invokevirtual ix) → decode Y.2.1 pc = .ok (i, 3) → bc_jdk k st σ (fun r σ' => bc_T g Y p e R s m args below meth c Q c0 s0 (pc + 3) lv r σ' n) → bc_T g Y p e R s m args below meth c Q c0 s0 pc lv st σ n
/-- MANY STEPS -/
theorem bc_run_ok {L : bc_KT} {Rr : Option bc_A → bc_M → Prop} {X : Nat → bc_M → Prop} {cuts : List Nat} (F : bc_Fx g Y d p R s m args meth c c0 s0) (hv : bc_cv (bc_own Y))
    (hL : ∀ pc lv st σ n, L pc lv st σ n → bc_T g Y p e R s m args below meth c Q c0 s0 pc lv st σ n)
    (hR : ∀ pc i len ts lv st σ n r, bc_code Y pc = some (i, len, ts) → bc_rok (bc_ret Y) i r st → Rr r σ → bc_T g Y p e R s m args below meth c Q c0 s0 pc lv st σ n)
    (hX : ∀ K : bc_KT, (∀ pc lv st σ n, K pc lv st σ n → bc_T g Y p e R s m args below meth c Q c0 s0 pc lv st σ n) → ∀ pc lv n x σ, bc_thr Y K X pc lv n x σ → x < 6 → bc_TX g Y p e R s m args below meth c Q c0 s0 pc lv n x σ)
    (hN : ∀ pc ix len ts lv st σ n, bc_code Y pc = some (.new ix, len, ts) → n + 1 ≤ bc_cost Y → ts.length = 1 → st.length ≤ 4 → X (ts.getD 0 0) σ → bc_T g Y p e R s m args below meth c Q c0 s0 pc lv st σ n)
    (hJ : bc_JD g Y p e R s m args below meth c Q c0 s0) :
    ∀ (f : Nat) (pc : Nat) (lv : bc_LV) (st : List bc_A) (σ : bc_M) (n : Nat), bc_run Y L Rr X (bc_Sem g d) cuts f pc lv st σ n → bc_T g Y p e R s m args below meth c Q c0 s0 pc lv st σ n := by
  intro f
  induction f with
  | zero => exact hL
  | succ f ih =>
    intro pc lv st σ n h
    have hK : ∀ pc lv st σ n, (bif cuts.elem pc then L pc lv st σ n else bc_run Y L Rr X (bc_Sem g d) cuts f pc lv st σ n) → bc_T g Y p e R s m args below meth c Q c0 s0 pc lv st σ n := by
      intro pc lv st σ n h
      cases hc : cuts.elem pc with
      | true => rw [hc] at h; exact hL _ _ _ _ _ h
      | false => rw [hc] at h; exact ih _ _ _ _ _ h
    change (match bc_code Y pc with
      | some (i, len, ts) => bc_stp Y (fun pc lv st σ n => bif cuts.elem pc then L pc lv st σ n else bc_run Y L Rr X (bc_Sem g d) cuts f pc lv st σ n) Rr X
        (fun pc lv n Y' as σ k => bc_Sem g d Y' as σ k (bc_thr Y (fun pc lv st σ n => bif cuts.elem pc then L pc lv st σ n else bc_run Y L Rr X (bc_Sem g d) cuts f pc lv st σ n) X pc lv n)) i len ts pc lv st σ n
      | none => False) at h
    split at h
    · rename_i i len ts hc
      exact bc_step (K := fun pc lv st σ n => bif cuts.elem pc then L pc lv st σ n else bc_run Y L Rr X (bc_Sem g d) cuts f pc lv st σ n) (XX := bc_thr Y (fun pc lv st σ n => bif cuts.elem pc then L pc lv st σ n else bc_run Y L Rr X (bc_Sem g d) cuts f pc lv st σ n) X) F hv hK (hX _ hK) hR hN hJ hc h
    · exact h.elim
/-- a continuation that a body may use: it takes what runs to it, and more locals -/
noncomputable def bc_Good (g : bc_C) (Y : bc_Y) (d : Nat) (Rr : Option bc_A → bc_M → Prop) (X : Nat → bc_M → Prop) (K : bc_KT) : Prop :=
  (∀ (cuts : List Nat) (f : Nat) (pc : Nat) (lv : bc_LV) (st : List bc_A) (σ : bc_M) (n : Nat), bc_run Y K Rr X (bc_Sem g d) cuts f pc lv st σ n → K pc lv st σ n) ∧
  (∀ (pc : Nat) (lv lv' : bc_LV) (st : List bc_A) (σ : bc_M) (n : Nat), (∀ q ∈ lv', q ∈ lv) → K pc lv' st σ n → K pc lv st σ n)
theorem bc_T_sub {lv lv' : bc_LV} (hs : ∀ q ∈ lv', q ∈ lv) (h : bc_T g Y p e R s m args below meth c Q c0 s0 pc lv' st σ n) : bc_T g Y p e R s m args below meth c Q c0 s0 pc lv st σ n := by
  intro H locs ls hn hH hS hl
  refine h H locs ls hn hH hS ⟨hl.1, hl.2.1, fun q hq => hl.2.2 q ?_⟩
  obtain ⟨z, hz, rfl⟩ := List.mem_map.mp hq
  exact List.mem_map.mpr ⟨z, hs z hz, rfl⟩
/-- the locals at the entry -/
noncomputable def bc_lv0 : Nat → List bc_A → bc_LV
  | _, [] => []
  | k, v :: l => (k, v) :: bc_lv0 (k + 1) l
theorem bc_lv0_args (g : bc_C) : ∀ (l : List bc_A) (k : Nat), (∀ v ∈ l, bc_wide v = false) → lv_args k (l.map (bc_v g)) = bc_lv g (bc_lv0 k l) ∧ (lg_sl (l.map (bc_v g))).length = l.length
  | [], k, _ => ⟨rfl, rfl⟩
  | v :: l, k, h => by
    obtain ⟨h1, h2⟩ := bc_lv0_args g l (k + 1) (fun v hv => h v (List.mem_cons_of_mem _ hv))
    have hw : (bc_v g v).category = 1 := by rw [bc_v_wide, h v List.mem_cons_self]; rfl
    refine ⟨?_, ?_⟩
    · simp [lv_args, hw, h1, bc_lv0, bc_lv]
    · have e : lg_sl ((v :: l).map (bc_v g)) = (if (bc_v g v).category = 2 then [.val (bc_v g v), .second] else [.val (bc_v g v)]) ++ lg_sl (l.map (bc_v g)) := by simp [lg_sl]
      rw [e, hw]
      simp [h2, Nat.add_comm]
end BCR
end
section
set_option maxRecDepth 20000 in
theorem bc_loc (d : Nat) : 60 * d + 460 ≤ 60 * (d + 1) + 400 := by omega
/-- what the throws of a method owe -/
noncomputable def bc_NW (g : bc_C) (Y : bc_Y) (d : Nat) : Prop := ∀ (p : Program) (e : Env) (R : Room) (s : State) (m : MethodId) (args : Array Value) (below : List Frame) (meth : Method) (c : Code) (Rr : Option bc_A → bc_M → Prop) (X : Nat → bc_M → Prop),
  bc_Fx g Y d p R s m args meth c 0 0 → (∀ x ∈ c.exceptionTable.toList, False) → ∀ (pc ix len : Nat) (ts : List Nat) (lv : bc_LV) (st : List bc_A) (σ : bc_M) (n : Nat), bc_code Y pc = some (.new ix, len, ts) → n + 1 ≤ bc_cost Y → ts.length = 1 → st.length ≤ 4 → X (ts.getD 0 0) σ →
    bc_T g Y p e R s m args below meth c (vx_MQ below (bc_Qc g Rr) (bc_Xc g X) args s (bc_cost Y) (6 * bc_cost Y) (bc_Z g)) 0 0 pc lv st σ n
noncomputable def bc_nn (Y : bc_Y) : Prop := ∀ (pc ix len : Nat) (ts : List Nat), bc_code Y pc = some (.new ix, len, ts) → False
theorem bc_NW_no {g : bc_C} {Y : bc_Y} {d : Nat} (h : bc_nn Y) : bc_NW g Y d := fun _ _ _ _ _ _ _ _ _ _ _ _ _ pc ix len ts _ _ _ _ hc _ _ _ _ => (h pc ix len ts hc).elim
/-- the JDK's methods are right -/
noncomputable def bc_JDK (g : bc_C) (Y : bc_Y) (d : Nat) : Prop := ∀ (p : Program) (e : Env) (R : Room) (s : State) (m : MethodId) (args : Array Value) (below : List Frame) (meth : Method) (c : Code) (Q : State → Prop) (c0 s0 : Nat), bc_Fx g Y d p R s m args meth c c0 s0 → bc_JD g Y p e R s m args below meth c Q c0 s0
/-- A METHOD, from its entry -/
theorem bc_enter {g : bc_C} {Y : bc_Y} {fg : Bool} {d : Nat} {as : List bc_A} {σ : bc_M} {Rr : Option bc_A → bc_M → Prop} {X : Nat → bc_M → Prop} (hv : bc_vP Y fg) (hh : bc_hh Y = []) (hcv : bc_cv (bc_own Y)) (hN : bc_NW g Y d) (hJ : bc_JDK g Y d)
    (has : ∀ v ∈ as, bc_wide v = false) (hlen : as.length ≤ bc_nL Y) (body : ∀ K : bc_KT, bc_Good g Y d Rr X K → K 0 (bc_lv0 0 as) [] σ 0) : bc_Sem g (d + 1) Y as σ Rr X := by
  obtain ⟨w1, w2, w3, w4, w5, w6, w7, w8, w9, w10⟩ := hv
  refine ⟨trivial, vx_ofW (cc := Y.2.1) (maxL := bc_nL Y) (ret := bc_ret Y) w3 (bc_wsm_hd hh) ?_⟩
  intro p e s m args below meth c s₁ B hml hnt hP
  obtain ⟨rfl, hap, htr, hH, hE, hz⟩ := hP
  have hx := B.exec
  have hb := B.bytes
  have hr := B.returns
  have hts := atoms_spec (ws := bc_wsm Y) B.pre
  have hown := findClass_of_methodNamed B.named
  have hlocks := B.notSynchronized
  have htW : ∀ w ∈ bc_W, w.before (as.map (bc_v g)).toArray s = true := fun w hw => hts w (by rw [bc_wsm_hd hh]; exact List.mem_cons_of_mem _ hw)
  obtain ⟨e1, e2⟩ := bc_lv0_args g as 0 has
  have hl := lv_entry (as.map (bc_v g)) (n := bc_nL Y) (by rw [e2]; exact hlen)
  rw [e1] at hl
  rw [lg_entry_eq]
  have F : bc_Fx g Y d p (headSpec (bc_wsm Y) (bc_rm (d + 1) (bc_cost Y))).room s m (as.map (bc_v g)).toArray meth c 0 0 := by
    refine ⟨hx, hb, hml, htW, by rw [← w7]; exact hown, hlocks, hap, htr, hE, hz, w9, ?_, ?_, ?_, ?_, hr⟩
    · exact Nat.le_refl _
    · exact bc_loc d
    · exact Nat.le_of_eq (Nat.zero_add _)
    · exact Nat.le_of_eq (Nat.zero_add _)
  have G : bc_Good g Y d Rr X (bc_T g Y p e (headSpec (bc_wsm Y) (bc_rm (d + 1) (bc_cost Y))).room s m (as.map (bc_v g)).toArray below meth c (vx_MQ below (bc_Qc g Rr) (bc_Xc g X) (as.map (bc_v g)).toArray s (bc_cost Y) (6 * bc_cost Y) (bc_Z g)) 0 0) := by
    refine ⟨fun cuts f pc lv st σ n h => ?_, fun pc lv lv' st σ n hs h => bc_T_sub hs h⟩
    refine bc_run_ok F hcv (fun _ _ _ _ _ h => h) (fun pc i len ts lv st σ n r hc hr h => bc_s_ret F hc hr h) (fun K hK pc lv n x σ h hx6 => ?_) (fun pc ix len ts lv st σ n hc h1 h2 h3 h4 => hN p e _ s m _ below meth c Rr X F hnt pc ix len ts lv st σ n hc h1 h2 h3 h4) (hJ p e _ s m _ below meth c _ 0 0 F) f pc lv st σ n h
    unfold bc_thr at h
    rw [show bc_find (bc_hh Y) pc x = none by rw [hh]; rfl] at h
    exact bc_s_out F hnt hx6 h
  have := body _ G s.heap [] _ (Nat.zero_le _) hH va_S.rf hl
  exact this
theorem bc_go {g : bc_C} {Y : bc_Y} {fg : Bool} {d : Nat} {as : List bc_A} {σ : bc_M} {Rr : Option bc_A → bc_M → Prop} {X : Nat → bc_M → Prop} (hv : bc_vP Y fg) (hh : bc_hh Y = []) (hcv : bc_cv (bc_own Y)) (hN : bc_NW g Y d) (hJ : bc_JDK g Y d)
    (ha : (as.all (fun v => !bc_wide v) && Nat.ble as.length (bc_nL Y)) = true) (body : ∀ K : bc_KT, bc_Good g Y d Rr X K → K 0 (bc_lv0 0 as) [] σ 0) : bc_Sem g (d + 1) Y as σ Rr X := by
  rw [Bool.and_eq_true] at ha
  refine bc_enter hv hh hcv hN hJ (fun v hvm => ?_) (Nat.le_of_ble_eq_true ha.2) body
  have := List.all_eq_true.mp ha.1 v hvm
  simpa using this
end
