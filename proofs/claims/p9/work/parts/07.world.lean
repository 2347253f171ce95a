/-- what is fixed: launch, classes, array classes, the cells' places, where the law's own heap begins, the script (length, numbers) -/
noncomputable abbrev bc_C : Type := Launch × va_G × (Nat → ClassId) × (Nat → Nat) × Nat
noncomputable abbrev bc_l (g : bc_C) : Launch := g.1
noncomputable abbrev bc_Dd (g : bc_C) : va_G := g.2.1
noncomputable abbrev bc_cA (g : bc_C) : Nat → ClassId := g.2.2.1
noncomputable abbrev bc_ad (g : bc_C) : Nat → Nat := g.2.2.2.1
noncomputable abbrev bc_z (g : bc_C) : Nat := g.2.2.2.2
noncomputable def bc_v (g : bc_C) : bc_A → Value
  | .inl x => .int (Int32.ofInt x)
  | .inr (.inl k) => .ref (bc_ad g k)
  | .inr (.inr (.inl q)) => .ref (bc_ad g (q.1 + 1 + q.2.toNat))
  | .inr (.inr (.inr (.inl x))) => .long x
  | .inr (.inr (.inr (.inr (.inl x)))) => .float x
  | .inr (.inr (.inr (.inr (.inr x)))) => .double x
theorem bc_v_I (g : bc_C) (x : Int) : bc_v g (bc_I x) = .int (Int32.ofInt x) := rfl
theorem bc_v_R (g : bc_C) (k : Nat) : bc_v g (bc_R k) = .ref (bc_ad g k) := rfl
theorem bc_v_J (g : bc_C) (x : Int64) : bc_v g (bc_J x) = .long x := rfl
theorem bc_v_wide (g : bc_C) (v : bc_A) : (bc_v g v).category = if bc_wide v then 2 else 1 := by
  obtain v | v | v | v | v | v := v <;> rfl
noncomputable def bc_lv (g : bc_C) (l : bc_LV) : List (Nat × Value) := l.map (fun q => (q.1, bc_v g q.2))
noncomputable def bc_fv (g : bc_C) (σ : bc_M) (k j : Nat) (o : Option Nat) : Value := match o with
  | none => .int (Int32.ofInt (σ.1 k (j : Int)))
  | some t => .ref (bc_ad g t)
noncomputable def bc_fs (g : bc_C) (σ : bc_M) (k : Nat) (fs : List (Option Nat)) : List Value := fs.mapIdx (fun j o => bc_fv g σ k j o)
noncomputable def bc_e (g : bc_C) (σ : bc_M) (k : Nat) : va_E := match bc_sh k with
  | some (.inl (ci, fs)) => .inr (ci, bc_fs g σ k fs)
  | some (.inr (.inl (ty, n))) => .inl (bc_cA g ty, n, .inl (fun j => Int32.ofInt (σ.1 k (j : Int))))
  | some (.inr (.inr (.inl (b, i, w)))) => .inl (bc_cA g 0, w, .inl (fun j => if j < w then Int32.ofInt (σ.1 b ((w : Int) * (i : Int) + (j : Int))) else 0))
  | some (.inr (.inr (.inr (.inl (n, _))))) => .inl (bc_cA g 5, n, .inr (.inr (.inr (.inr (fun j => if j < n then some (bc_ad g (k + 1 + j)) else none)))))
  | some (.inr (.inr (.inr (.inr (.inl (n, b, d)))))) => .inl (bc_cA g 6, n, .inr (.inr (.inr (.inr (fun j => if j < n then some (bc_ad g (b + d * j)) else none)))))
  | some (.inr (.inr (.inr (.inr (.inr b))))) => if b then .inl (bc_cA g 4, 1, .inr (.inr (.inr (.inl (fun j => if j = 0 then σ.2.2 else 0))))) else .inl (bc_cA g 3, 1, .inr (.inl (fun j => if j = 0 then σ.2.1 else 0)))
  | none => .inl (bc_cA g 0, 0, .inl (fun _ => 0))
noncomputable def bc_ws (g : bc_C) (σ : bc_M) : va_W := (List.range 230).map (fun k => (bc_ad g k, bc_e g σ k))
theorem bc_ws_len (g : bc_C) (σ : bc_M) : (bc_ws g σ).length = 230 := by simp [bc_ws]
theorem bc_ws_at {g : bc_C} {σ : bc_M} {k : Nat} (h : k < 230) : (bc_ws g σ)[k]? = some (bc_ad g k, bc_e g σ k) := by
  simp [bc_ws, List.getElem?_map, List.getElem?_range h]
theorem bc_ws_set {g : bc_C} {σ σ' : bc_M} {k : Nat} {e : va_E} (h : k < 230) (he : bc_e g σ' k = e) (ho : ∀ j, j < 230 → j ≠ k → bc_e g σ' j = bc_e g σ j) : (bc_ws g σ).set k (bc_ad g k, e) = bc_ws g σ' := by
  apply List.ext_getElem?
  intro j
  by_cases hj : j < 230
  · by_cases hk : j = k
    · subst hk
      rw [List.getElem?_set_self (by rw [bc_ws_len]; exact hj), bc_ws_at hj, he]
    · rw [List.getElem?_set_ne (fun q => hk q.symm), bc_ws_at hj, bc_ws_at hj, ho j hj hk]
  · rw [List.getElem?_eq_none (by rw [List.length_set, bc_ws_len]; omega), List.getElem?_eq_none (by rw [bc_ws_len]; omega)]
noncomputable abbrev bc_tys (g : bc_C) : List (ClassId × FieldType) := [(bc_cA g 0, .int), (bc_cA g 1, .char), (bc_cA g 2, .boolean), (bc_cA g 3, .long), (bc_cA g 4, .double), (bc_cA g 5, .array .int), (bc_cA g 6, .object "BridgeChapel$State")]
noncomputable def bc_Z (g : bc_C) : Nat → Prop := fun q => bc_z g ≤ q
/-- the cells are apart, and of the law's own heap -/
noncomputable def bc_ap (g : bc_C) : Prop := (∀ i j : Nat, i < 230 → j < 230 → bc_ad g i = bc_ad g j → i = j) ∧ ∀ i : Nat, i < 230 → bc_Z g (bc_ad g i)
theorem bc_ap_D {g : bc_C} (h : bc_ap g) (σ : bc_M) : va_D (bc_Z g) (bc_ws g σ) := by
  have key : ∀ (k : Nat) (q : Nat × va_E), (bc_ws g σ)[k]? = some q → k < 230 ∧ q.1 = bc_ad g k := by
    intro k q hk
    have hlt : k < 230 := by
      have := (List.getElem?_eq_some_iff.mp hk).1
      rwa [bc_ws_len] at this
    rw [bc_ws_at hlt] at hk
    cases hk
    exact ⟨hlt, rfl⟩
  refine ⟨fun i j p q hi hj e => ?_, fun k q hk => ?_⟩
  · obtain ⟨h1, e1⟩ := key i p hi
    obtain ⟨h2, e2⟩ := key j q hj
    exact h.1 i j h1 h2 (by rw [← e1, ← e2]; exact e)
  · obtain ⟨h1, e1⟩ := key k q hk
    rw [e1]
    exact h.2 k h1
/-- the heap holds σ -/
noncomputable def bc_H (g : bc_C) (σ : bc_M) (H : Heap) : Prop := va_P (bc_Dd g) bc_cl (bc_ws g σ) H
/-- the texts: owner, entry, text -/
noncomputable abbrev bc_st : List (String × Nat × String) := [(RX10, 375, "there is no such index"), (RX10, 378, "an argument is not allowed"), (RX10, 380, "the chapel is not in a state for this call"), (RX10, 384, "there is no such thing"), (RX10, 389, "this is not possible now"), (RX10, 394, "there is nothing to divide by"), (RX10, 359, "the script does not have the required form"), (RX10, 369, "a command of the script failed")]
noncomputable abbrev bc_tx_len : List Nat := (List.range 17).map (fun i => (bc_tx i).length)
noncomputable abbrev bc_tx_byt : List (List Int32) := (List.range 17).map (fun i => (bc_tx i).map Int32.ofNat)
/-- the word constants: owner, entry, text -/
noncomputable abbrev bc_ts : List (String × Nat × String) := [(RX5, 74, "member "), (RX5, 76, "walk "), (RX5, 78, "vow "), (RX5, 80, "forge "), (RX5, 82, "repair "), (RX5, 84, "abandon "), (RX5, 86, "resume "), (RX5, 88, "niche "), (RX5, 90, "put "), (RX5, 92, "day"), (RX5, 94, "dd n"), (RX5, 96, "n n"), (RX5, 98, "k"), (RX5, 100, "d kn"), (RX5, 102, " n"), (RX5, 104, "n"), (RX11, 248, "member walk vow forge repair abandon resume niche put day")]
/-- the words that speak of nest mates -/
noncomputable def bc_isN (w : Cond) : Bool := match w with
  | .fieldLinkNest _ _ _ _ _ _ => true
  | .castable _ _ => true
  | .declares _ => true
  | _ => false
theorem bc_isN_t {w : Cond} (h : bc_isN w = true) : w.onTables = true := by
  unfold bc_isN at h
  split at h <;> first | rfl | cases h
noncomputable abbrev bc_ncl : List (Nat × Nat) := [(1, 0), (2, 0), (2, 1), (2, 4), (3, 0), (3, 1), (4, 0), (4, 1), (4, 2), (4, 3), (5, 0)]
/-- what the world outside holds: the tables, the statics of Throwable, the texts -/
noncomputable def bc_E (g : bc_C) (U : State) (H : Heap) : Prop :=
  va_K (bc_Dd g) bc_cl (bc_tys g) U ∧ vx_Zq Bundle.tN "UNASSIGNED_STACK" Bundle.steD (bc_Z g) U H ∧ vx_Zq Bundle.tN "SUPPRESSED_SENTINEL" Bundle.listD (bc_Z g) U H ∧
  (∀ (i : Nat) (q : String × Nat × String), bc_st[i]? = some q → ∃ a : Nat, vk_R q.1 q.2.1 q.2.2 a U) ∧
  (∀ (i : Nat) (q : String × Nat × String), bc_ts[i]? = some q → vk_R q.1 q.2.1 q.2.2 (bc_ad g (1000 + i)) U) ∧
  (∀ w ∈ lw_tbl, bc_isN w = true → va_Nw w U) ∧ (∀ q ∈ bc_ncl, va_Nc (bc_en q.1) (bc_en q.2) U) ∧ (∃ adV : Nat → Nat, vk_S 17 bc_tx_len bc_tx_byt (fun i => bc_ad g (1000 + i)) adV (bc_Z g) U H) ∧
  va_Z "java/lang/String" "COMPACT_STRINGS" "Z" (.int 1) (bc_Z g) U H ∧ va_Zq "jdk/internal/util/Preconditions" "SIOOBE_FORMATTER" "Ljava/util/function/BiFunction;" (bc_Z g) U H
theorem bc_E_warm {g : bc_C} {s U : State} {H H1 : Heap} (hW : s.WarmedH U.vm) (h : bc_E g s H) (hq : ∀ a : Nat, a < H.size → ¬ bc_Z g a → H1[a]? = H[a]?) : bc_E g U H1 := by
  obtain ⟨h1, h2, h3, h4, h5, h7, h9, ⟨adV, h6⟩, h10, h11⟩ := h
  refine ⟨va_K.moved hW.alike h1, (h2.moved hW.alike).kept hq, (h3.moved hW.alike).kept hq, fun i q hi => ?_, fun i q hi => (h5 i q hi).warm hW, fun w hw hn => ?_, fun q hq => (h9 q hq).moved hW.alike, ⟨adV, (h6.moved hW.alike).kept hq⟩, (h10.moved hW.alike).kept hq, (h11.moved hW.alike).kept hq⟩
  · obtain ⟨a, ha⟩ := h4 i q hi
    exact ⟨a, ha.warm hW⟩
  · have h8 := h7 w hw hn
    unfold bc_isN at hn
    split at hn
    · exact va_Nw.warmF hW h8
    · exact va_Nw.warmC hW h8
    · exact va_Nw.warmD hW h8
    · cases hn
theorem bc_E_same {g : bc_C} {u U : State} {H : Heap} (hv : U.vm = u.vm) (h : bc_E g u H) : bc_E g U H := by
  obtain ⟨h1, h2, h3, h4, h5, h7, h9, ⟨adV, h6⟩, h10, h11⟩ := h
  have ha : u.vm.Alike U.vm := by rw [hv]; exact Vm.Alike.refl u.vm
  refine ⟨va_K.moved ha h1, h2.moved ha, h3.moved ha, fun i q hi => ?_, fun i q hi => (h5 i q hi).same hv, fun w hw hn => ?_, fun q hq => (h9 q hq).moved ha, ⟨adV, h6.moved ha⟩, h10.moved ha, h11.moved ha⟩
  · obtain ⟨a, hh⟩ := h4 i q hi
    exact ⟨a, hh.same hv⟩
  · have h8 := h7 w hw hn
    unfold bc_isN at hn
    split at hn
    · exact va_Nw.same rfl hv.symm h8
    · exact va_Nw.same rfl hv.symm h8
    · exact va_Nw.same rfl hv.symm h8
    · cases hn
/-- the words: of each method its own code first, then all of the tables that may be handed on -/
noncomputable def bc_wsm (Y : bc_Y) : List Cond := match bc_hh Y with
  | [] => .code Y.1 Y.2.1 (bc_nL Y) (bc_ret Y) :: bc_W
  | hh => .codeWith Y.1 Y.2.1 (bc_nL Y) (bc_ret Y) hh :: bc_W
noncomputable def bc_rm (d n : Nat) : Room := { frames := d + 12, cells := n, slots := 6 * n, locals := 60 * d + 400 }
/-- THE MEANING OF A CALL: Y called on as in σ, with d deep to go, ends as R and X say -/
noncomputable def bc_Sem (g : bc_C) (d : Nat) (Y : bc_Y) (as : List bc_A) (σ : bc_M) (R : Option bc_A → bc_M → Prop) (X : Nat → bc_M → Prop) : Prop := ∃ _ : True,
  vx_Met (bc_l g) Y.1 (bc_wsm Y) (bc_rm d (bc_cost Y))
    (fun v U => v = (as.map (bc_v g)).toArray ∧ bc_ap g ∧ (bc_l g).stackTraces = false ∧ bc_H g σ U.heap ∧ bc_E g U U.heap ∧ bc_z g ≤ U.heap.size)
    (fun _ st o t => (∃ (r : Option bc_A) (σ' : bc_M), o = .returned (r.map (bc_v g)) ∧ R r σ' ∧ bc_H g σ' t.heap) ∧ va_F (bc_Z g) st t)
    (fun E st t => ∃ (e : Nat) (σ' : bc_M), E = bc_en e ∧ e < 6 ∧ X e σ' ∧ bc_H g σ' t.heap ∧ va_F (bc_Z g) st t)
    (bc_cost Y) (6 * bc_cost Y) (bc_Z g)
section BCT
variable {p : Program} {e : Env} {R : Room} {s : State} {m : MethodId} {args : Array Value} {below : List Frame} {meth : Method} {c : Code} {Q : State → Prop} {g : bc_C} {nL : Nat}
/-- the machine stands at pc, and all goes well -/
noncomputable def bc_T (g : bc_C) (Y : bc_Y) (p : Program) (e : Env) (R : Room) (s : State) (m : MethodId) (args : Array Value) (below : List Frame) (meth : Method) (c : Code) (Q : State → Prop) (c0 s0 : Nat) : bc_KT := fun pc lv st σ n =>
  ∀ (H : Heap) (locs : List Loc) (ls : Array Slot), n ≤ bc_cost Y → bc_H g σ H → va_S (bc_Z g) s.heap H locs → lv_has ls (bc_nL Y) (bc_lv g lv) → W p (bc_l g) e R s m args below meth c H locs (c0 + n) (s0 + 6 * n) Q (F0 m pc ls (st.map (bc_v g)))
theorem bc_lget_mem : ∀ {l : bc_LV} {k : Nat} {v : bc_A}, bc_lget l k = some v → (k, v) ∈ l
  | [], _, _, h => by cases h
  | (i, u) :: l, k, v, h => by
    unfold bc_lget at h
    cases hb : Nat.beq i k with
    | true =>
      rw [hb] at h
      have e := Nat.eq_of_beq_eq_true hb
      subst e
      cases h
      exact List.mem_cons_self
    | false =>
      rw [hb] at h
      exact List.mem_cons_of_mem _ (bc_lget_mem h)
theorem bc_lv_at {ls : Array Slot} {lv : bc_LV} {k : Nat} {v : bc_A} (h : lv_has ls nL (bc_lv g lv)) (hk : bc_lget lv k = some v) : ls[k]? = some (.val (bc_v g v)) :=
  h.2.2 (k, bc_v g v) (List.mem_map.mpr ⟨(k, v), bc_lget_mem hk, rfl⟩)
theorem bc_lins_mem : ∀ {l : bc_LV} {k : Nat} {v : bc_A} {q : Nat × bc_A}, q ∈ bc_lins l k v → q = (k, v) ∨ q ∈ l
  | [], _, _, _, h => Or.inl (List.mem_singleton.mp h)
  | (i, u) :: l, k, v, q, h => by
    unfold bc_lins at h
    cases hb : Nat.blt i k with
    | true =>
      rw [hb] at h
      rcases List.mem_cons.mp h with h | h
      · exact Or.inr (by rw [h]; exact List.mem_cons_self)
      · rcases bc_lins_mem h with h | h
        · exact Or.inl h
        · exact Or.inr (List.mem_cons_of_mem _ h)
    | false =>
      rw [hb] at h
      rcases List.mem_cons.mp h with h | h
      · exact Or.inl h
      · exact Or.inr h
theorem bc_beq (a b : Nat) : Nat.beq a b = (a == b) := by
  rw [Bool.eq_iff_iff]
  simp
/-- what is held behind a store -/
theorem bc_keep_has {ls : Array Slot} {lv : bc_LV} {k : Nat} {w : Bool} {v : Value} (hv : v.category = if w then 2 else 1) {l2 : bc_LV} (hl2 : ∀ q ∈ l2, q ∈ lv.filter (bc_keep k w))
    (h : lv_has ls nL ((k, v) :: (bc_lv g lv).filter (fun q => !(q.1 == k) && !(q.1 + 1 == k && q.2.category == 2) && !(w && q.1 == k + 1)))) : lv_has ls nL (bc_lv g l2) := by
  refine ⟨h.1, h.2.1, fun q hq => h.2.2 q (List.mem_cons_of_mem _ ?_)⟩
  obtain ⟨z, hz, rfl⟩ := List.mem_map.mp hq
  obtain ⟨h1, h2⟩ := List.mem_filter.mp (hl2 z hz)
  refine List.mem_filter.mpr ⟨List.mem_map.mpr ⟨z, h1, rfl⟩, ?_⟩
  unfold bc_keep at h2
  rw [bc_beq, bc_beq, bc_beq] at h2
  show (!(z.1 == k) && !(z.1 + 1 == k && (bc_v g z.2).category == 2) && !(w && z.1 == k + 1)) = true
  rw [bc_v_wide]
  revert h2
  cases bc_wide z.2 <;> exact fun h => h
theorem bc_lset_has {ls : Array Slot} {lv : bc_LV} {k : Nat} {v : bc_A} (h : lv_has ls nL ((k, bc_v g v) :: (bc_lv g lv).filter (fun q => !(q.1 == k) && !(q.1 + 1 == k && q.2.category == 2) && !(bc_wide v && q.1 == k + 1)))) : lv_has ls nL (bc_lv g (bc_lset lv k v)) := by
  have h2 := bc_keep_has (w := bc_wide v) (bc_v_wide g v) (l2 := lv.filter (bc_keep k (bc_wide v))) (fun q hq => hq) h
  refine ⟨h.1, h.2.1, fun q hq => ?_⟩
  obtain ⟨z, hz, rfl⟩ := List.mem_map.mp hq
  rcases bc_lins_mem hz with e | hz
  · subst e
    exact h.2.2 _ List.mem_cons_self
  · exact h2.2.2 _ (List.mem_map.mpr ⟨z, hz, rfl⟩)
end BCT
