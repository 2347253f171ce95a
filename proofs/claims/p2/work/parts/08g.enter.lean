set_option maxRecDepth 20000 in
theorem bc_loc (d : Nat) : 60 * d + 460 ≤ 60 * (d + 1) + 400 := by omega
/-- what the throws of a method owe -/
def bc_NW (g : bc_C) (Y : bc_Y) (d : Nat) : Prop := ∀ (p : Program) (e : Env) (R : Room) (s : State) (m : MethodId) (args : Array Value) (below : List Frame) (meth : Method) (c : Code) (Rr : Option bc_A → bc_M → Prop) (X : Nat → bc_M → Prop),
  bc_Fx g Y d p R s m args meth c 0 0 → (∀ x ∈ c.exceptionTable.toList, False) → ∀ (pc ix len : Nat) (ts : List Nat) (lv : bc_LV) (st : List bc_A) (σ : bc_M) (n : Nat), bc_code Y pc = some (.new ix, len, ts) → n + 1 ≤ bc_cost Y → ts.length = 1 → st.length ≤ 4 → X (ts.getD 0 0) σ →
    bc_T g Y p e R s m args below meth c (vx_MQ below (bc_Qc g Rr) (bc_Xc g X) args s (bc_cost Y) (6 * bc_cost Y) (bc_Z g)) 0 0 pc lv st σ n
def bc_nn (Y : bc_Y) : Prop := ∀ (pc ix len : Nat) (ts : List Nat), bc_code Y pc = some (.new ix, len, ts) → False
theorem bc_NW_no {g : bc_C} {Y : bc_Y} {d : Nat} (h : bc_nn Y) : bc_NW g Y d := fun _ _ _ _ _ _ _ _ _ _ _ _ _ pc ix len ts _ _ _ _ hc _ _ _ _ => (h pc ix len ts hc).elim
theorem bc_NW_0 {g : bc_C} {Y : bc_Y} {d : Nat} (h : bc_cost Y = 0) : bc_NW g Y d := fun _ _ _ _ _ _ _ _ _ _ _ _ _ pc ix len ts _ _ _ n hc h1 _ _ _ => absurd h1 (by omega)
/-- the JDK's methods are right -/
def bc_JDK (g : bc_C) (Y : bc_Y) (d : Nat) : Prop := ∀ (p : Program) (e : Env) (R : Room) (s : State) (m : MethodId) (args : Array Value) (below : List Frame) (meth : Method) (c : Code) (Q : State → Prop) (c0 s0 : Nat), bc_Fx g Y d p R s m args meth c c0 s0 → bc_JD g Y p e R s m args below meth c Q c0 s0
/-- A METHOD, from its entry -/
theorem bc_enter {g : bc_C} {Y : bc_Y} {fg : Bool} {d : Nat} {as : List bc_A} {σ : bc_M} {Rr : Option bc_A → bc_M → Prop} {X : Nat → bc_M → Prop} (hv : bc_vP Y fg) (hh : bc_hh Y = []) (hcv : bc_cv (bc_own Y)) (hN : bc_NW g Y d) (hJ : bc_JDK g Y d)
    (has : ∀ v ∈ as, bc_wide v = false) (hlen : as.length ≤ bc_nL Y) (body : ∀ K : bc_KT, bc_Good g Y d Rr X K → K 0 (bc_lv0 0 as) [] σ 0) : bc_Sem g (d + 1) Y as σ Rr X := by
  obtain ⟨w1, w2, w3, w4, w5, w6, w7, w8, w9, w10⟩ := hv
  refine ⟨trivial, vx_ofW (cc := Y.2.1) (maxL := bc_nL Y) (ret := bc_ret Y) w3 (bc_wsm_hd hh) ?_⟩
  intro p e s m args below meth c s₁ B hml hnt hP
  obtain ⟨rfl, hap, htr, hH, hE, hz⟩ := hP
  have hx := B.exec
  have hb := B.bytes
  have hr := B.returns
  have hts := atoms_spec (ws := bc_wsm Y) B.pre
  have hown := findClass_of_methodNamed B.named
  have hlocks := B.notSynchronized
  have htW : ∀ w ∈ bc_W, w.before (as.map (bc_v g)).toArray s = true := fun w hw => hts w (by rw [bc_wsm_hd hh]; exact List.mem_cons_of_mem _ hw)
  obtain ⟨e1, e2⟩ := bc_lv0_args g as 0 has
  have hl := lv_entry (as.map (bc_v g)) (n := bc_nL Y) (by rw [e2]; exact hlen)
  rw [e1] at hl
  rw [lg_entry_eq]
  have F : bc_Fx g Y d p (headSpec (bc_wsm Y) (bc_rm (d + 1) (bc_cost Y))).room s m (as.map (bc_v g)).toArray meth c 0 0 := by
    refine ⟨hx, hb, hml, htW, by rw [← w7]; exact hown, hlocks, hap, htr, hE, hz, w9, ?_, ?_, ?_, ?_, hr⟩
    · exact Nat.le_refl _
    · exact bc_loc d
    · exact Nat.le_of_eq (Nat.zero_add _)
    · exact Nat.le_of_eq (Nat.zero_add _)
  have G : bc_Good g Y d Rr X (bc_T g Y p e (headSpec (bc_wsm Y) (bc_rm (d + 1) (bc_cost Y))).room s m (as.map (bc_v g)).toArray below meth c (vx_MQ below (bc_Qc g Rr) (bc_Xc g X) (as.map (bc_v g)).toArray s (bc_cost Y) (6 * bc_cost Y) (bc_Z g)) 0 0) := by
    refine ⟨fun cuts f pc lv st σ n h => ?_, fun pc lv lv' st σ n hs h => bc_T_sub hs h⟩
    refine bc_run_ok F hcv (fun _ _ _ _ _ h => h) (fun pc i len ts lv st σ n r hc hr h => bc_s_ret F hc hr h) (fun K hK pc lv n x σ h hx6 => ?_) (fun pc ix len ts lv st σ n hc h1 h2 h3 h4 => hN p e _ s m _ below meth c Rr X F hnt pc ix len ts lv st σ n hc h1 h2 h3 h4) (hJ p e _ s m _ below meth c _ 0 0 F) f pc lv st σ n h
    unfold bc_thr at h
    rw [show bc_find (bc_hh Y) pc x = none by rw [hh]; rfl] at h
    exact bc_s_out F hnt hx6 h
  have := body _ G s.heap [] _ (Nat.zero_le _) hH va_S.rf hl
  exact this
theorem bc_go {g : bc_C} {Y : bc_Y} {fg : Bool} {d : Nat} {as : List bc_A} {σ : bc_M} {Rr : Option bc_A → bc_M → Prop} {X : Nat → bc_M → Prop} (hv : bc_vP Y fg) (hh : bc_hh Y = []) (hcv : bc_cv (bc_own Y)) (hN : bc_NW g Y d) (hJ : bc_JDK g Y d)
    (ha : (as.all (fun v => !bc_wide v) && Nat.ble as.length (bc_nL Y)) = true) (body : ∀ K : bc_KT, bc_Good g Y d Rr X K → K 0 (bc_lv0 0 as) [] σ 0) : bc_Sem g (d + 1) Y as σ Rr X := by
  rw [Bool.and_eq_true] at ha
  refine bc_enter hv hh hcv hN hJ (fun v hvm => ?_) (Nat.le_of_ble_eq_true ha.2) body
  have := List.all_eq_true.mp ha.1 v hvm
  simpa using this
