section BCO
variable {p : Program} {e : Env} {R : Room} {s : State} {m : MethodId} {args : Array Value} {below : List Frame} {meth : Method} {c : Code} {Q : State → Prop} {g : bc_C} {Y : bc_Y} {d : Nat} {pc : Nat} {lv : bc_LV} {st r : List bc_A} {σ : bc_M} {n c0 s0 : Nat}
theorem bc_kn_Rk : (List.range 12).all (fun ow => (List.range 512).all (fun k => match bc_kn ow k with
    | some (.inr (.inl v), _) => Nat.ble 1000 v && decide ((bc_ts[v - 1000]?).map (fun q => (q.1, q.2.1)) = some (bc_rn ow, k))
    | _ => true)) = true := by decide +kernel
/-- a text constant -/
theorem bc_kn_R {ow k : Nat} {v : Nat} {pos : Nat} (h : bc_kn ow k = some (.inr (.inl v), pos)) : ∃ (j : Nat) (tx : String), bc_ts[j]? = some (bc_rn ow, k, tx) ∧ v = 1000 + j := by
  obtain ⟨h1, h2⟩ := bc_kn_ok h
  have h3 := List.all_eq_true.mp (List.all_eq_true.mp bc_kn_Rk ow (List.mem_range.mpr h1)) k (List.mem_range.mpr h2)
  rw [h] at h3
  simp only [Bool.and_eq_true, decide_eq_true_eq] at h3
  obtain ⟨h4, h5⟩ := h3
  have h4 := Nat.le_of_ble_eq_true h4
  cases hq : bc_ts[v - 1000]? with
  | none => rw [hq] at h5; cases h5
  | some q =>
    rw [hq] at h5
    obtain ⟨q1, q2, q3⟩ := q
    simp only [Option.map_some, Option.some.injEq, Prod.mk.injEq] at h5
    obtain ⟨rfl, rfl⟩ := h5
    exact ⟨v - 1000, q3, hq, by omega⟩
theorem bc_i2c (x : Int) : ((Int32.ofInt x).toUInt32 % 65536).toInt32 = Int32.ofInt (x % 65536) := by
  apply Int32.toBitVec_inj.mp
  apply BitVec.eq_of_toNat_eq
  show ((BitVec.ofInt 32 x) % (65536#32)).toNat = (BitVec.ofInt 32 (x % 65536)).toNat
  rw [BitVec.toNat_umod, BitVec.toNat_ofInt, BitVec.toNat_ofInt]
  show _ % 65536 = _
  omega
theorem bc_pI_mono {st : List bc_A} {k k' : Int → List bc_A → Prop} (hm : ∀ x r, k x r → k' x r) (h : bc_pI st k) : bc_pI st k' := by
  unfold bc_pI at h ⊢
  split at h
  · exact hm _ _ h
  · exact h.elim
theorem bc_pR_mono {st : List bc_A} {k k' : Nat → List bc_A → Prop} (hm : ∀ x r, k x r → k' x r) (h : bc_pR st k) : bc_pR st k' := by
  unfold bc_pR at h ⊢
  split at h
  · exact hm _ _ h
  · exact h.elim
theorem bc_pF_mono {st : List bc_A} {k k' : UInt32 → List bc_A → Prop} (hm : ∀ x r, k x r → k' x r) (h : bc_pF st k) : bc_pF st k' := by
  unfold bc_pF at h ⊢
  split at h
  · exact hm _ _ h
  · exact h.elim
theorem bc_pR2_mono {st : List bc_A} {k k' : bc_A → List bc_A → Prop} (hm : ∀ x r, k x r → k' x r) (h : bc_pR2 st k) : bc_pR2 st k' := by
  unfold bc_pR2 at h ⊢
  split at h
  · exact hm _ _ h
  · exact hm _ _ h
  · exact h.elim
theorem bc_fit_mono {ty : Nat} {x : Int} {A B : Prop} (hm : A → B) (h : bc_fit ty x A) : bc_fit ty x B := by
  unfold bc_fit at h ⊢
  split at h
  · exact hm h
  · exact ⟨h.1, hm h.2⟩
  · exact ⟨h.1, hm h.2⟩
  · exact h.elim
theorem bc_ix_mono {v : bc_A} {j : Int} {f f' : Nat → Int → Nat → Prop} (hm : ∀ k j t, f k j t → f' k j t) : bc_ix v j f → bc_ix v j f' := by
  unfold bc_ix
  split
  · split
    · exact fun h => ⟨h.1, hm _ _ _ h.2⟩
    · exact fun h => h
  · split
    · exact fun h => ⟨h.1, hm _ _ _ h.2⟩
    · exact fun h => h
  · exact fun h => h
theorem bc_bif_mono {b : Bool} {A B : Prop} (hm : A → B) : (bif b then A else False) → (bif b then B else False) := by
  cases b
  · exact fun h => h
  · exact hm
theorem bc_ald_mono {ty : Nat} {st : List bc_A} {K K' : Int → List bc_A → Prop} {σ : bc_M} (hm : ∀ x r, K x r → K' x r) (h : bc_ald ty st K σ) : bc_ald ty st K' σ :=
  bc_pI_mono (fun _ _ => bc_pR2_mono (fun _ _ => bc_ix_mono (fun _ _ _ => bc_bif_mono (hm _ _)))) h
theorem bc_ast_mono {ty : Nat} {st : List bc_A} {K K' : bc_M → List bc_A → Prop} {σ : bc_M} (hm : ∀ x r, K x r → K' x r) (h : bc_ast ty st K σ) : bc_ast ty st K' σ :=
  bc_pI_mono (fun _ _ => bc_pI_mono (fun _ _ => bc_pR2_mono (fun _ _ => bc_ix_mono (fun _ _ _ => bc_bif_mono (bc_fit_mono (hm _ _)))))) h
theorem bc_aald_mono {st : List bc_A} {K K' : bc_A → List bc_A → Prop} (hm : ∀ x r, K x r → K' x r) (h : bc_aald st K) : bc_aald st K' := by
  refine bc_pI_mono (fun j r => bc_pR_mono (fun k r => ?_)) h
  split
  · exact fun h => ⟨h.1, hm _ _ h.2⟩
  · exact fun h => ⟨h.1, fun t ht hj => hm _ _ (h.2 t ht hj)⟩
  · exact fun h => h
theorem bc_jdk_mono {k : Nat} {st : List bc_A} {σ : bc_M} {K K' : List bc_A → bc_M → Prop} (hm : ∀ r σ', K r σ' → K' r σ') (h : bc_jdk k st σ K) : bc_jdk k st σ K' := by
  unfold bc_jdk at h ⊢
  split at h
  · exact bc_pI_mono (fun _ _ => bc_pI_mono (fun _ _ h => ⟨h.1, hm _ _ h.2⟩)) h
  · exact bc_pI_mono (fun _ _ => bc_pI_mono (fun _ _ h => ⟨h.1, hm _ _ h.2⟩)) h
  · refine bc_pI_mono (fun _ _ => bc_pI_mono (fun _ _ => bc_pR_mono (fun _ _ => bc_pI_mono (fun _ _ => bc_pR_mono (fun _ _ => ?_))))) h
    split
    · exact fun h => ⟨h.1, hm _ _ h.2⟩
    · exact fun h => h
  · exact bc_pF_mono (fun _ _ h => ⟨h.1, hm _ _ h.2⟩) h
  · exact bc_pR_mono (fun _ _ h => ⟨h.1, hm _ _ h.2⟩) h
  · exact bc_pI_mono (fun _ _ => bc_pR_mono (fun _ _ h => ⟨h.1, hm _ _ h.2⟩)) h
  · exact h.elim
theorem bc_ml_w {ow ix j pos : Nat} (h : bc_ml ow ix = some (.inl (j, pos))) : Cond.methodLink (bc_rn ow) ix (bc_yt j).1 ∈ bc_W ∧ j < 331 := by
  have h1 := bc_ml_ok (by rw [h]; rfl)
  unfold bc_mlc at h1
  rw [h] at h1
  simp only [Bool.and_eq_true, decide_eq_true_eq] at h1
  exact ⟨bc_wat_ok h1.2, h1.1⟩
/-- an instruction returns r, with st on the stack -/
noncomputable def bc_rok (ret : Option FieldType) (i : Instr) (r : Option bc_A) (st : List bc_A) : Prop :=
  (i = .ireturn ∧ ∃ x : Int, r = some (bc_I x) ∧ st = [bc_I x] ∧ (ret = some .int ∨ (ret = some .boolean ∧ 0 ≤ x ∧ x ≤ 1) ∨ (ret = some .char ∧ 0 ≤ x ∧ x ≤ 65535))) ∨
  (i = .lreturn ∧ ∃ x : Int64, r = some (bc_J x) ∧ st = [bc_J x] ∧ ret = some .long) ∨
  (i = .freturn ∧ ∃ x : UInt32, r = some (bc_F x) ∧ st = [bc_F x] ∧ ret = some .float) ∨
  (i = .dreturn ∧ ∃ x : UInt64, r = some (bc_D x) ∧ st = [bc_D x] ∧ ret = some .double) ∨
  (i = .areturn ∧ ∃ x : Nat, r = some (bc_R x) ∧ st = [bc_R x] ∧ ∃ t, ret = some (.object t)) ∨
  (i = .return_ ∧ r = none ∧ st = [] ∧ ret = none)
theorem bc_rt_e {ret : Option FieldType} {x : Int} {A : Prop} (h : bc_rt ret x A) : A ∧ (ret = some .int ∨ (ret = some .boolean ∧ 0 ≤ x ∧ x ≤ 1) ∨ (ret = some .char ∧ 0 ≤ x ∧ x ≤ 65535)) := by
  unfold bc_rt at h
  split at h
  · exact ⟨h, Or.inl rfl⟩
  · exact ⟨h.2, Or.inr (Or.inl ⟨rfl, h.1⟩)⟩
  · exact ⟨h.2, Or.inr (Or.inr ⟨rfl, h.1⟩)⟩
  · exact h.elim
theorem bc_rq_e {ret : Option FieldType} {q : FieldType → Bool} {A : Prop} (h : bc_rq ret q A) : A ∧ ∃ t, ret = some t ∧ q t = true := by
  unfold bc_rq at h
  split at h
  · rename_i t
    cases hq : q t with
    | true => rw [hq] at h; exact ⟨h, t, rfl, hq⟩
    | false => rw [hq] at h; exact h.elim
  · exact h.elim
set_option maxHeartbeats 4000000 in
/-- ONE STEP -/
theorem bc_step {K : bc_KT} {Rr : Option bc_A → bc_M → Prop} {X : Nat → bc_M → Prop} {XX : Nat → bc_LV → Nat → Nat → bc_M → Prop} {i : Instr} {len : Nat} {ts : List Nat} (F : bc_Fx g Y d p R s m args meth c c0 s0)
    (hv : ∀ (ix j pos : Nat), bc_ml (bc_own Y) ix = some (.inl (j, pos)) → bc_vY j ∧ (bc_hh (bc_yt j) = [] ∨ bc_fg j = true))
    (hK : ∀ pc lv st σ n, K pc lv st σ n → bc_T g Y p e R s m args below meth c Q c0 s0 pc lv st σ n)
    (hX : ∀ pc lv n x σ, XX pc lv n x σ → x < 6 → bc_TX g Y p e R s m args below meth c Q c0 s0 pc lv n x σ)
    (hR : ∀ pc i len ts lv st σ n r, bc_code Y pc = some (i, len, ts) → bc_rok (bc_ret Y) i r st → Rr r σ → bc_T g Y p e R s m args below meth c Q c0 s0 pc lv st σ n)
    (hN : ∀ pc ix len ts lv st σ n, bc_code Y pc = some (.new ix, len, ts) → n + 1 ≤ bc_cost Y → ts.length = 1 → st.length ≤ 4 → X (ts.getD 0 0) σ → bc_T g Y p e R s m args below meth c Q c0 s0 pc lv st σ n)
    (hJ : ∀ (k : Nat) (i : Instr) (ix pc : Nat) (lv : bc_LV) (st : List bc_A) (σ : bc_M) (n : Nat), bc_ml (bc_own Y) ix = some (.inr k) → (k < 4 ∧ i = .invokestatic ix) ∨ (4 ≤ k ∧ i = .invokevirtual ix) → decode Y.2.1 pc = .ok (i, 3) → bc_jdk k st σ (fun r σ' => bc_T g Y p e R s m args below meth c Q c0 s0 (pc + 3) lv r σ' n) → bc_T g Y p e R s m args below meth c Q c0 s0 pc lv st σ n)
    (hc : bc_code Y pc = some (i, len, ts)) (h : bc_stp Y K Rr X (fun pc lv n Y' as σ k => bc_Sem g d Y' as σ k (XX pc lv n)) i len ts pc lv st σ n) :
    bc_T g Y p e R s m args below meth c Q c0 s0 pc lv st σ n := by
  have FX := F
  obtain ⟨hx, hb, hml, hts, hown, hlocks, hap, htr, hE, hz, hok, -⟩ := F
  obtain ⟨hd, htg, hln⟩ := hok pc i len ts hc
  cases i with
  | iconst v =>
    have hl : len = 1 := eq_of_beq hln
    subst hl
    exact fun H locs ls hn hH hS hlv => lv_iconst hx hb hd rfl (hK _ _ _ _ _ h H locs ls hn hH hS hlv)
  | bipush v =>
    have hl : len = 2 := eq_of_beq hln
    subst hl
    have hr : -128 ≤ v ∧ v ≤ 127 := of_decide_eq_true htg
    refine fun H locs ls hn hH hS hlv => lv_bipush (v := Int32.ofInt v) hx hb hd ?_ (hK _ _ _ _ _ h H locs ls hn hH hS hlv)
    apply Int32.toInt_inj.mp
    rw [bc_i_t ⟨by omega, by omega⟩, Int8.toInt_toInt32, Int8.toInt_ofInt_of_le (by omega) (by omega)]
  | sipush v =>
    have hl : len = 3 := eq_of_beq hln
    subst hl
    have hr : -32768 ≤ v ∧ v ≤ 32767 := of_decide_eq_true htg
    refine fun H locs ls hn hH hS hlv => lv_sipush (v := Int32.ofInt v) hx hb hd ?_ (hK _ _ _ _ _ h H locs ls hn hH hS hlv)
    apply Int32.toInt_inj.mp
    rw [bc_i_t ⟨by omega, by omega⟩, Int16.toInt_toInt32, Int16.toInt_ofInt_of_le (by omega) (by omega)]
  | ldc k =>
    have hl : len = 2 := eq_of_beq hln
    subst hl
    dsimp only [bc_stp] at h
    split at h
    · rename_i v pos hkn
      exact fun H locs ls hn hH hS hlv => lv_ldc hx hb hown (hts _ (bc_kn_w hkn)) hd (hK _ _ _ _ _ h H locs ls hn hH hS hlv)
    · rename_i v pos hkn
      obtain ⟨j, tx, hj, hv2⟩ := bc_kn_R hkn
      subst hv2
      intro H locs ls hn hH hS hlv T hT2 X
      obtain ⟨t, a, b⟩ := hK _ _ _ _ _ h H locs ls hn hH hS hlv T hT2 X
      exact ⟨t, X.ldcString hx hown (hE.2.2.2.2.1 j _ hj).1 (hE.2.2.2.2.1 j _ hj).2 (g := F0 m pc ls (st.map (bc_v g))) rfl (by rw [hb]; exact hd) t a, b⟩
    · exact h.elim
  | ldc_w k =>
    have hl : len = 3 := eq_of_beq hln
    subst hl
    dsimp only [bc_stp] at h
    split at h
    · rename_i v pos hkn
      exact fun H locs ls hn hH hS hlv => lv_ldcw hx hb hown (hts _ (bc_kn_w hkn)) hd (hK _ _ _ _ _ h H locs ls hn hH hS hlv)
    · rename_i v pos hkn
      have hw : Cond.constantFloat (bc_rn (bc_own Y)) k v ∈ bc_W := by
        obtain ⟨e1, e2, e3⟩ := bc_kn_F hkn
        rw [e1, e2, e3]
        exact bc_mem_W (by decide +kernel) rfl
      intro H locs ls hn hH hS hlv T hT X
      obtain ⟨t, a, b⟩ := hK _ _ _ _ _ h H locs ls hn hH hS hlv T hT X
      exact ⟨t, bc_ldcwF X hx hown (hts _ hw) (g := F0 m pc ls (st.map (bc_v g))) rfl (by rw [hb]; exact hd) t a, b⟩
    · exact h.elim
  | lconst v =>
    have hl : len = 1 := eq_of_beq hln
    subst hl
    exact fun H locs ls hn hH hS hlv => lv_lconst hx hb hd rfl (hK _ _ _ _ _ h H locs ls hn hH hS hlv)
  | fconst v =>
    have hl : len = 1 := eq_of_beq hln
    subst hl
    dsimp only [bc_stp] at h
    match v, hd, h with
    | ⟨0, _⟩, hd, h => exact fun H locs ls hn hH hS hlv => lv_fconst0 hx hb hd (hK _ _ _ _ _ h H locs ls hn hH hS hlv)
    | ⟨1, _⟩, hd, h => exact fun H locs ls hn hH hS hlv => lv_fconst1 hx hb hd (hK _ _ _ _ _ h H locs ls hn hH hS hlv)
    | ⟨2, _⟩, hd, h => exact fun H locs ls hn hH hS hlv => lv_fconst2 hx hb hd (hK _ _ _ _ _ h H locs ls hn hH hS hlv)
  | dconst v =>
    have hl : len = 1 := eq_of_beq hln
    subst hl
    dsimp only [bc_stp] at h
    match v, hd, h with
    | ⟨0, _⟩, hd, h => exact fun H locs ls hn hH hS hlv => lv_dconst0 hx hb hd (hK _ _ _ _ _ h H locs ls hn hH hS hlv)
    | ⟨1, _⟩, hd, h => exact fun H locs ls hn hH hS hlv => lv_dconst1 hx hb hd (hK _ _ _ _ _ h H locs ls hn hH hS hlv)
  | iload k =>
    have hl : len = 2 := eq_of_beq hln
    subst hl
    obtain ⟨x, hg, h⟩ := bc_lI_e h
    exact fun H locs ls hn hH hS hlv => lv_iload hx hb hd (bc_lv_at hlv hg) (hK _ _ _ _ _ h H locs ls hn hH hS hlv)
  | iload_n k =>
    have hl : len = 1 := eq_of_beq hln
    subst hl
    obtain ⟨x, hg, h⟩ := bc_lI_e h
    exact fun H locs ls hn hH hS hlv => lv_iload_n hx hb hd rfl (bc_lv_at hlv hg) (hK _ _ _ _ _ h H locs ls hn hH hS hlv)
  | lload k =>
    have hl : len = 2 := eq_of_beq hln
    subst hl
    obtain ⟨x, hg, h⟩ := bc_lJ_e h
    exact fun H locs ls hn hH hS hlv => lv_lload hx hb hd (bc_lv_at hlv hg) (hK _ _ _ _ _ h H locs ls hn hH hS hlv)
  | lload_n k =>
    have hl : len = 1 := eq_of_beq hln
    subst hl
    obtain ⟨x, hg, h⟩ := bc_lJ_e h
    exact fun H locs ls hn hH hS hlv => lv_lload_n hx hb hd rfl (bc_lv_at hlv hg) (hK _ _ _ _ _ h H locs ls hn hH hS hlv)
  | fload k =>
    have hl : len = 2 := eq_of_beq hln
    subst hl
    obtain ⟨x, hg, h⟩ := bc_lF_e h
    exact fun H locs ls hn hH hS hlv => lv_fload hx hb hd (bc_lv_at hlv hg) (hK _ _ _ _ _ h H locs ls hn hH hS hlv)
  | fload_n k =>
    have hl : len = 1 := eq_of_beq hln
    subst hl
    obtain ⟨x, hg, h⟩ := bc_lF_e h
    exact fun H locs ls hn hH hS hlv => lv_fload_n hx hb hd rfl (bc_lv_at hlv hg) (hK _ _ _ _ _ h H locs ls hn hH hS hlv)
  | dload k =>
    have hl : len = 2 := eq_of_beq hln
    subst hl
    obtain ⟨x, hg, h⟩ := bc_lD_e h
    exact fun H locs ls hn hH hS hlv => lv_dload hx hb hd (bc_lv_at hlv hg) (hK _ _ _ _ _ h H locs ls hn hH hS hlv)
  | dload_n k =>
    have hl : len = 1 := eq_of_beq hln
    subst hl
    obtain ⟨x, hg, h⟩ := bc_lD_e h
    exact fun H locs ls hn hH hS hlv => lv_dload_n hx hb hd rfl (bc_lv_at hlv hg) (hK _ _ _ _ _ h H locs ls hn hH hS hlv)
  | aload k =>
    have hl : len = 2 := eq_of_beq hln
    subst hl
    dsimp only [bc_stp] at h
    obtain ⟨v, a, hg, hv2, -, h⟩ := bc_lR_e (g := g) h
    intro H locs ls hn hH hS hlv
    have q := hK _ _ _ _ _ h H locs ls hn hH hS hlv
    rw [List.map_cons, hv2] at q
    exact lv_aload hx hb hd (by have q2 := bc_lv_at hlv hg; rw [hv2] at q2; exact q2) q
  | aload_n k =>
    have hl : len = 1 := eq_of_beq hln
    subst hl
    dsimp only [bc_stp] at h
    obtain ⟨v, a, hg, hv2, -, h⟩ := bc_lR_e (g := g) h
    intro H locs ls hn hH hS hlv
    have q := hK _ _ _ _ _ h H locs ls hn hH hS hlv
    rw [List.map_cons, hv2] at q
    exact lv_aload_n hx hb hd rfl (by have q2 := bc_lv_at hlv hg; rw [hv2] at q2; exact q2) q
  | istore k =>
    have hl : len = 2 := eq_of_beq hln
    subst hl
    obtain ⟨x, r1, rfl, hA⟩ := bc_pI_e h
    cases hbk : Nat.blt k (bc_nL Y) with
    | false => rw [hbk] at hA; exact hA.elim
    | true =>
      rw [hbk] at hA
      dsimp only [cond] at hA
      rw [bc_force_eq] at hA
      have hkn := Nat.le_of_ble_eq_true hbk
      exact bc_s_store1 (v := bc_I x) (k := k) rfl (fun H locs ls rest hl kk => lv_istore hx hb hd hl hkn rfl kk) (hK _ _ _ _ _ hA)
  | istore_n k =>
    have hl : len = 1 := eq_of_beq hln
    subst hl
    obtain ⟨x, r1, rfl, hA⟩ := bc_pI_e h
    cases hbk : Nat.blt k.val (bc_nL Y) with
    | false => rw [hbk] at hA; exact hA.elim
    | true =>
      rw [hbk] at hA
      dsimp only [cond] at hA
      rw [bc_force_eq] at hA
      have hkn := Nat.le_of_ble_eq_true hbk
      exact bc_s_store1 (v := bc_I x) (k := k.val) rfl (fun H locs ls rest hl kk => lv_istore_n hx hb hd rfl hl hkn rfl kk) (hK _ _ _ _ _ hA)
  | fstore k =>
    have hl : len = 2 := eq_of_beq hln
    subst hl
    obtain ⟨x, r1, rfl, hA⟩ := bc_pF_e h
    cases hbk : Nat.blt k (bc_nL Y) with
    | false => rw [hbk] at hA; exact hA.elim
    | true =>
      rw [hbk] at hA
      dsimp only [cond] at hA
      rw [bc_force_eq] at hA
      have hkn := Nat.le_of_ble_eq_true hbk
      exact bc_s_store1 (v := bc_F x) (k := k) rfl (fun H locs ls rest hl kk => lv_fstore hx hb hd hl hkn rfl kk) (hK _ _ _ _ _ hA)
  | fstore_n k =>
    have hl : len = 1 := eq_of_beq hln
    subst hl
    obtain ⟨x, r1, rfl, hA⟩ := bc_pF_e h
    cases hbk : Nat.blt k.val (bc_nL Y) with
    | false => rw [hbk] at hA; exact hA.elim
    | true =>
      rw [hbk] at hA
      dsimp only [cond] at hA
      rw [bc_force_eq] at hA
      have hkn := Nat.le_of_ble_eq_true hbk
      exact bc_s_store1 (v := bc_F x) (k := k.val) rfl (fun H locs ls rest hl kk => lv_fstore_n hx hb hd rfl hl hkn rfl kk) (hK _ _ _ _ _ hA)
  | lstore k =>
    have hl : len = 2 := eq_of_beq hln
    subst hl
    obtain ⟨x, r1, rfl, hA⟩ := bc_pJ_e h
    cases hbk : Nat.blt (k + 1) (bc_nL Y) with
    | false => rw [hbk] at hA; exact hA.elim
    | true =>
      rw [hbk] at hA
      dsimp only [cond] at hA
      rw [bc_force_eq] at hA
      have hkn := Nat.le_of_ble_eq_true hbk
      exact bc_s_store2 (v := bc_J x) (k := k) rfl (fun H locs ls rest hl kk => lv_lstore hx hb hd hl hkn rfl kk) (hK _ _ _ _ _ hA)
  | lstore_n k =>
    have hl : len = 1 := eq_of_beq hln
    subst hl
    obtain ⟨x, r1, rfl, hA⟩ := bc_pJ_e h
    cases hbk : Nat.blt (k.val + 1) (bc_nL Y) with
    | false => rw [hbk] at hA; exact hA.elim
    | true =>
      rw [hbk] at hA
      dsimp only [cond] at hA
      rw [bc_force_eq] at hA
      have hkn := Nat.le_of_ble_eq_true hbk
      exact bc_s_store2 (v := bc_J x) (k := k.val) rfl (fun H locs ls rest hl kk => lv_lstore_n hx hb hd rfl hl hkn rfl kk) (hK _ _ _ _ _ hA)
  | dstore k =>
    have hl : len = 2 := eq_of_beq hln
    subst hl
    obtain ⟨x, r1, rfl, hA⟩ := bc_pD_e h
    cases hbk : Nat.blt (k + 1) (bc_nL Y) with
    | false => rw [hbk] at hA; exact hA.elim
    | true =>
      rw [hbk] at hA
      dsimp only [cond] at hA
      rw [bc_force_eq] at hA
      have hkn := Nat.le_of_ble_eq_true hbk
      exact bc_s_store2 (v := bc_D x) (k := k) rfl (fun H locs ls rest hl kk => lv_dstore hx hb hd hl hkn rfl kk) (hK _ _ _ _ _ hA)
  | dstore_n k =>
    have hl : len = 1 := eq_of_beq hln
    subst hl
    obtain ⟨x, r1, rfl, hA⟩ := bc_pD_e h
    cases hbk : Nat.blt (k.val + 1) (bc_nL Y) with
    | false => rw [hbk] at hA; exact hA.elim
    | true =>
      rw [hbk] at hA
      dsimp only [cond] at hA
      rw [bc_force_eq] at hA
      have hkn := Nat.le_of_ble_eq_true hbk
      exact bc_s_store2 (v := bc_D x) (k := k.val) rfl (fun H locs ls rest hl kk => lv_dstore_n hx hb hd rfl hl hkn rfl kk) (hK _ _ _ _ _ hA)
  | astore k =>
    have hl : len = 2 := eq_of_beq hln
    subst hl
    dsimp only [bc_stp] at h
    obtain ⟨v, a, r1, rfl, hv2, hw2, hA⟩ := bc_pR2_g (g := g) h
    cases hbk : Nat.blt k (bc_nL Y) with
    | false => rw [hbk] at hA; exact hA.elim
    | true =>
      rw [hbk] at hA
      dsimp only [cond] at hA
      rw [bc_force_eq] at hA
      have hkn := Nat.le_of_ble_eq_true hbk
      exact bc_s_store1 (v := v) (k := k) hw2 (fun H locs ls rest hl kk => by rw [hv2] at kk ⊢; exact lv_astore hx hb hd hl hkn rfl kk) (hK _ _ _ _ _ hA)
  | astore_n k =>
    have hl : len = 1 := eq_of_beq hln
    subst hl
    dsimp only [bc_stp] at h
    obtain ⟨v, a, r1, rfl, hv2, hw2, hA⟩ := bc_pR2_g (g := g) h
    cases hbk : Nat.blt k.val (bc_nL Y) with
    | false => rw [hbk] at hA; exact hA.elim
    | true =>
      rw [hbk] at hA
      dsimp only [cond] at hA
      rw [bc_force_eq] at hA
      have hkn := Nat.le_of_ble_eq_true hbk
      exact bc_s_store1 (v := v) (k := k.val) hw2 (fun H locs ls rest hl kk => by rw [hv2] at kk ⊢; exact lv_astore_n hx hb hd rfl hl hkn rfl kk) (hK _ _ _ _ _ hA)
  | iinc k dd =>
    have hl : len = 3 := eq_of_beq hln
    subst hl
    obtain ⟨x, hg, h⟩ := bc_lI_e h
    cases hbk : Nat.blt k (bc_nL Y) with
    | false => rw [hbk] at h; exact h.elim
    | true =>
      rw [hbk] at h
      dsimp only [cond] at h
      rw [bc_force_eq] at h
      have hkn := Nat.le_of_ble_eq_true hbk
      intro H locs ls hn hH hS hlv
      have hmem : (k, bc_v g (bc_I x)) ∈ bc_lv g lv := List.mem_map.mpr ⟨(k, bc_I x), bc_lget_mem hg, rfl⟩
      obtain ⟨q, hq⟩ := List.getElem?_of_mem hmem
      refine lv_iinc (v := Int32.ofInt (x + dd)) (k := q) hx hb hd hlv hq (Int32.ofInt_add x dd).symm hkn rfl (fun ls' hl' => ?_)
      exact hK _ _ _ _ _ h H locs ls' hn hH hS (bc_lset_has (v := bc_I (x + dd)) (by simpa [bc_wide, bc_v] using hl'))
  | iadd =>
    have hl : len = 1 := eq_of_beq hln
    subst hl
    obtain ⟨y, r1, rfl, hA⟩ := bc_pI_e h
    obtain ⟨x, r2, rfl, hB⟩ := bc_pI_e hA
    intro H locs ls hn hH hS hlv
    have q := hK _ _ _ _ _ hB H locs ls hn hH hS hlv
    rw [List.map_cons, bc_v_I, Int32.ofInt_add] at q
    exact lv_iadd hx hb hd q
  | isub =>
    have hl : len = 1 := eq_of_beq hln
    subst hl
    obtain ⟨y, r1, rfl, hA⟩ := bc_pI_e h
    obtain ⟨x, r2, rfl, hB⟩ := bc_pI_e hA
    intro H locs ls hn hH hS hlv
    have q := hK _ _ _ _ _ hB H locs ls hn hH hS hlv
    rw [List.map_cons, bc_v_I, Int32.ofInt_sub] at q
    exact lv_isub hx hb hd q
  | imul =>
    have hl : len = 1 := eq_of_beq hln
    subst hl
    obtain ⟨y, r1, rfl, hA⟩ := bc_pI_e h
    obtain ⟨x, r2, rfl, hB⟩ := bc_pI_e hA
    intro H locs ls hn hH hS hlv
    have q := hK _ _ _ _ _ hB H locs ls hn hH hS hlv
    rw [List.map_cons, bc_v_I, Int32.ofInt_mul] at q
    exact lv_imul hx hb hd q
  | iand =>
    have hl : len = 1 := eq_of_beq hln
    subst hl
    obtain ⟨y, r1, rfl, hA⟩ := bc_pI_e h
    obtain ⟨x, r2, rfl, hB⟩ := bc_pI_e hA
    intro H locs ls hn hH hS hlv
    have q := hK _ _ _ _ _ hB H locs ls hn hH hS hlv
    rw [List.map_cons, bc_v_I, Int32.ofInt_toInt] at q
    exact lv_iand hx hb hd q
  | ior =>
    have hl : len = 1 := eq_of_beq hln
    subst hl
    obtain ⟨y, r1, rfl, hA⟩ := bc_pI_e h
    obtain ⟨x, r2, rfl, hB⟩ := bc_pI_e hA
    intro H locs ls hn hH hS hlv
    have q := hK _ _ _ _ _ hB H locs ls hn hH hS hlv
    rw [List.map_cons, bc_v_I, Int32.ofInt_toInt] at q
    exact lv_ior hx hb hd q
  | ishl =>
    have hl : len = 1 := eq_of_beq hln
    subst hl
    obtain ⟨y, r1, rfl, hA⟩ := bc_pI_e h
    obtain ⟨x, r2, rfl, hB⟩ := bc_pI_e hA
    intro H locs ls hn hH hS hlv
    have q := hK _ _ _ _ _ hB H locs ls hn hH hS hlv
    rw [List.map_cons, bc_v_I, Int32.ofInt_toInt] at q
    exact lv_ishl hx hb hd q
  | i2l =>
    have hl : len = 1 := eq_of_beq hln
    subst hl
    obtain ⟨x, r1, rfl, hA⟩ := bc_pI_e h
    exact fun H locs ls hn hH hS hlv => lv_i2l hx hb hd rfl (hK _ _ _ _ _ hA H locs ls hn hH hS hlv)
  | i2f =>
    have hl : len = 1 := eq_of_beq hln
    subst hl
    obtain ⟨x, r1, rfl, hA⟩ := bc_pI_e h
    exact fun H locs ls hn hH hS hlv => lv_i2f hx hb hd (hK _ _ _ _ _ hA H locs ls hn hH hS hlv)
  | i2d =>
    have hl : len = 1 := eq_of_beq hln
    subst hl
    obtain ⟨x, r1, rfl, hA⟩ := bc_pI_e h
    exact fun H locs ls hn hH hS hlv => lv_i2d hx hb hd (hK _ _ _ _ _ hA H locs ls hn hH hS hlv)
  | lor =>
    have hl : len = 1 := eq_of_beq hln
    subst hl
    obtain ⟨y, r1, rfl, hA⟩ := bc_pJ_e h
    obtain ⟨x, r2, rfl, hB⟩ := bc_pJ_e hA
    exact fun H locs ls hn hH hS hlv => lv_lor hx hb hd (hK _ _ _ _ _ hB H locs ls hn hH hS hlv)
  | lshl =>
    have hl : len = 1 := eq_of_beq hln
    subst hl
    obtain ⟨y, r1, rfl, hA⟩ := bc_pI_e h
    obtain ⟨x, r2, rfl, hB⟩ := bc_pJ_e hA
    exact fun H locs ls hn hH hS hlv => lv_lshl hx hb hd rfl (hK _ _ _ _ _ hB H locs ls hn hH hS hlv)
  | lcmp =>
    have hl : len = 1 := eq_of_beq hln
    subst hl
    obtain ⟨y, r1, rfl, hA⟩ := bc_pJ_e h
    obtain ⟨x, r2, rfl, hB⟩ := bc_pJ_e hA
    intro H locs ls hn hH hS hlv
    have q := hK _ _ _ _ _ hB H locs ls hn hH hS hlv
    rw [List.map_cons, bc_v_I, Int32.ofInt_toInt] at q
    exact W.lcmp hx hb hd q
  | fdiv =>
    have hl : len = 1 := eq_of_beq hln
    subst hl
    obtain ⟨y, r1, rfl, hA⟩ := bc_pF_e h
    obtain ⟨x, r2, rfl, hB⟩ := bc_pF_e hA
    exact fun H locs ls hn hH hS hlv => lv_fdiv hx hb hd hB.1 (hK _ _ _ _ _ hB.2 H locs ls hn hH hS hlv)
  | fmul =>
    have hl : len = 1 := eq_of_beq hln
    subst hl
    obtain ⟨y, r1, rfl, hA⟩ := bc_pF_e h
    obtain ⟨x, r2, rfl, hB⟩ := bc_pF_e hA
    exact fun H locs ls hn hH hS hlv => lv_fmul hx hb hd hB.1 (hK _ _ _ _ _ hB.2 H locs ls hn hH hS hlv)
  | fsub =>
    have hl : len = 1 := eq_of_beq hln
    subst hl
    obtain ⟨y, r1, rfl, hA⟩ := bc_pF_e h
    obtain ⟨x, r2, rfl, hB⟩ := bc_pF_e hA
    exact fun H locs ls hn hH hS hlv => lv_fsub hx hb hd hB.1 (hK _ _ _ _ _ hB.2 H locs ls hn hH hS hlv)
  | ddiv =>
    have hl : len = 1 := eq_of_beq hln
    subst hl
    obtain ⟨y, r1, rfl, hA⟩ := bc_pD_e h
    obtain ⟨x, r2, rfl, hB⟩ := bc_pD_e hA
    exact fun H locs ls hn hH hS hlv => lv_ddiv hx hb hd hB.1 (hK _ _ _ _ _ hB.2 H locs ls hn hH hS hlv)
  | fneg =>
    have hl : len = 1 := eq_of_beq hln
    subst hl
    obtain ⟨x, r1, rfl, hA⟩ := bc_pF_e h
    exact fun H locs ls hn hH hS hlv => lv_fneg hx hb hd (hK _ _ _ _ _ hA H locs ls hn hH hS hlv)
  | f2d =>
    have hl : len = 1 := eq_of_beq hln
    subst hl
    obtain ⟨x, r1, rfl, hA⟩ := bc_pF_e h
    exact fun H locs ls hn hH hS hlv => lv_f2d hx hb hd hA.1 (hK _ _ _ _ _ hA.2 H locs ls hn hH hS hlv)
  | f2i =>
    have hl : len = 1 := eq_of_beq hln
    subst hl
    obtain ⟨x, r1, rfl, hA⟩ := bc_pF_e h
    intro H locs ls hn hH hS hlv
    have q := hK _ _ _ _ _ hA H locs ls hn hH hS hlv
    rw [List.map_cons, bc_v_I, Int32.ofInt_toInt] at q
    exact lv_f2i hx hb hd q
  | fcmp op =>
    have hl : len = 1 := eq_of_beq hln
    subst hl
    obtain ⟨y, r1, rfl, hA⟩ := bc_pF_e h
    obtain ⟨x, r2, rfl, hB⟩ := bc_pF_e hA
    intro H locs ls hn hH hS hlv
    have q := hK _ _ _ _ _ hB H locs ls hn hH hS hlv
    rw [List.map_cons, bc_v_I, Int32.ofInt_toInt] at q
    exact lv_fcmp hx hb hd q
  | dcmp op =>
    have hl : len = 1 := eq_of_beq hln
    subst hl
    obtain ⟨y, r1, rfl, hA⟩ := bc_pD_e h
    obtain ⟨x, r2, rfl, hB⟩ := bc_pD_e hA
    intro H locs ls hn hH hS hlv
    have q := hK _ _ _ _ _ hB H locs ls hn hH hS hlv
    rw [List.map_cons, bc_v_I, Int32.ofInt_toInt] at q
    exact lv_dcmp hx hb hd q
  | idiv =>
    have hl : len = 1 := eq_of_beq hln
    subst hl
    obtain ⟨y, r1, rfl, hA⟩ := bc_pI_e h
    obtain ⟨x, r2, rfl, hB⟩ := bc_pI_e hA
    obtain ⟨⟨h1, h2⟩, hC⟩ := hB
    refine fun H locs ls hn hH hS hlv => lv_idiv hx hb hd (bc_ne0 h2) ?_
    rw [bc_div h1 h2]
    exact hK _ _ _ _ _ hC H locs ls hn hH hS hlv
  | irem =>
    have hl : len = 1 := eq_of_beq hln
    subst hl
    obtain ⟨y, r1, rfl, hA⟩ := bc_pI_e h
    obtain ⟨x, r2, rfl, hB⟩ := bc_pI_e hA
    obtain ⟨⟨h1, h2⟩, hC⟩ := hB
    refine fun H locs ls hn hH hS hlv => lv_irem hx hb hd (bc_ne0 h2) ?_
    rw [bc_rem h1 h2]
    exact hK _ _ _ _ _ hC H locs ls hn hH hS hlv
  | i2c =>
    have hl : len = 1 := eq_of_beq hln
    subst hl
    obtain ⟨x, r1, rfl, hA⟩ := bc_pI_e h
    refine fun H locs ls hn hH hS hlv => lv_i2c (v := Int32.ofInt (x % 65536)) hx hb hd ?_ (hK _ _ _ _ _ hA H locs ls hn hH hS hlv)
    exact bc_i2c x
  | dup =>
    have hl : len = 1 := eq_of_beq hln
    subst hl
    obtain ⟨v, r1, rfl, hA⟩ := bc_pA_e h
    cases hw : bc_wide v with
    | true => rw [hw] at hA; exact hA.elim
    | false =>
      rw [hw] at hA
      exact fun H locs ls hn hH hS hlv => lv_dup hx hb hd (by rw [bc_v_wide, hw]; rfl) (hK _ _ _ _ _ hA H locs ls hn hH hS hlv)
  | pop =>
    have hl : len = 1 := eq_of_beq hln
    subst hl
    obtain ⟨v, r1, rfl, hA⟩ := bc_pA_e h
    cases hw : bc_wide v with
    | true => rw [hw] at hA; exact hA.elim
    | false =>
      rw [hw] at hA
      exact fun H locs ls hn hH hS hlv => lv_pop hx hb hd (by rw [bc_v_wide, hw]; rfl) (hK _ _ _ _ _ hA H locs ls hn hH hS hlv)
  | dup2 =>
    have hl : len = 1 := eq_of_beq hln
    subst hl
    obtain ⟨v, r1, rfl, hA⟩ := bc_pA_e h
    obtain ⟨u, r2, rfl, hB⟩ := bc_pA_e hA
    cases hw : bc_wide v with
    | true => rw [hw] at hB; exact hB.elim
    | false =>
      rw [hw] at hB
      cases hw2 : bc_wide u with
      | true => rw [hw2] at hB; exact hB.elim
      | false =>
        rw [hw2] at hB
        exact fun H locs ls hn hH hS hlv => lv_dup2_11 hx hb hd (by rw [bc_v_wide, hw]; rfl) (by rw [bc_v_wide, hw2]; rfl) (hK _ _ _ _ _ hB H locs ls hn hH hS hlv)
  | goto o =>
    have hl : len = 3 := eq_of_beq hln
    subst hl
    have ht : (pc : Int) + o = ((ts.getD 0 0 : Nat) : Int) := by
      exact of_decide_eq_true (Bool.and_eq_true_iff.mp (show (ts.length == 1 && decide ((pc : Int) + o = ((ts.getD 0 0 : Nat) : Int))) = true from htg)).2
    exact fun H locs ls hn hH hS hlv => lv_goto hx hb hd ht (hK _ _ _ _ _ h H locs ls hn hH hS hlv)
  | ifCond cd o =>
    have hl : len = 3 := eq_of_beq hln
    subst hl
    have ht : (pc : Int) + o = ((ts.getD 0 0 : Nat) : Int) := by
      exact of_decide_eq_true (Bool.and_eq_true_iff.mp (show (ts.length == 1 && decide ((pc : Int) + o = ((ts.getD 0 0 : Nat) : Int))) = true from htg)).2
    obtain ⟨x, r1, rfl, hA⟩ := bc_pI_e h
    obtain ⟨hin, hB⟩ := hA
    have hC := bc_s_cmp (off := o) (TT := fun t => K t lv r1 σ n) hin bc_in_0 hB
    intro H locs ls hn hH hS hlv
    have go : ∀ t, K t lv r1 σ n → W p (bc_l g) e R s m args below meth c H locs (c0 + n) (s0 + 6 * n) Q (F0 m t ls (r1.map (bc_v g))) := fun t q => hK _ _ _ _ _ q H locs ls hn hH hS hlv
    cases cd with
    | eq => exact lv_if_eq hx hb hd ht (fun q => go _ (hC.1 q)) (fun q => go _ (hC.2 q))
    | ne => exact lv_if_ne hx hb hd ht (fun q => go _ (hC.1 q)) (fun q => go _ (hC.2 q))
    | lt => exact lv_if_lt hx hb hd ht (fun q => go _ (hC.1 q)) (fun q => go _ (hC.2 q))
    | ge => exact lv_if_ge hx hb hd ht (fun q => go _ (hC.1 q)) (fun q => go _ (hC.2 q))
    | gt => exact lv_if_gt hx hb hd ht (fun q => go _ (hC.1 q)) (fun q => go _ (hC.2 q))
    | le => exact lv_if_le hx hb hd ht (fun q => go _ (hC.1 q)) (fun q => go _ (hC.2 q))
  | if_icmp cd o =>
    have hl : len = 3 := eq_of_beq hln
    subst hl
    have ht : (pc : Int) + o = ((ts.getD 0 0 : Nat) : Int) := by
      exact of_decide_eq_true (Bool.and_eq_true_iff.mp (show (ts.length == 1 && decide ((pc : Int) + o = ((ts.getD 0 0 : Nat) : Int))) = true from htg)).2
    obtain ⟨y, r1, rfl, hA⟩ := bc_pI_e h
    obtain ⟨x, r2, rfl, hA⟩ := bc_pI_e hA
    obtain ⟨⟨hin, hin2⟩, hB⟩ := hA
    have hC := bc_s_cmp (off := o) (TT := fun t => K t lv r2 σ n) hin hin2 hB
    intro H locs ls hn hH hS hlv
    have go : ∀ t, K t lv r2 σ n → W p (bc_l g) e R s m args below meth c H locs (c0 + n) (s0 + 6 * n) Q (F0 m t ls (r2.map (bc_v g))) := fun t q => hK _ _ _ _ _ q H locs ls hn hH hS hlv
    cases cd with
    | eq => exact lv_icmp_eq hx hb hd ht (fun q => go _ (hC.1 q)) (fun q => go _ (hC.2 q))
    | ne => exact lv_icmp_ne hx hb hd ht (fun q => go _ (hC.1 q)) (fun q => go _ (hC.2 q))
    | lt => exact lv_icmp_lt hx hb hd ht (fun q => go _ (hC.1 q)) (fun q => go _ (hC.2 q))
    | ge => exact lv_icmp_ge hx hb hd ht (fun q => go _ (hC.1 q)) (fun q => go _ (hC.2 q))
    | gt => exact lv_icmp_gt hx hb hd ht (fun q => go _ (hC.1 q)) (fun q => go _ (hC.2 q))
    | le => exact lv_icmp_le hx hb hd ht (fun q => go _ (hC.1 q)) (fun q => go _ (hC.2 q))
  | tableswitch df lo hi offs =>
    obtain ⟨x, r1, rfl, hA⟩ := bc_pI_e h
    obtain ⟨hin, hB⟩ := hA
    obtain ⟨h1, h2⟩ := bc_sw_e hB
    have htg : (decide ((pc : Int) + df = ((ts.getD 0 0 : Nat) : Int)) && decide (hi + 1 = lo + ((ts.length - 1 : Nat) : Int)) && decide (-2147483648 ≤ lo ∧ hi ≤ 2147483647) && decide (0 < ts.length) && decide (offs.size + 1 = ts.length) && (List.range (ts.length - 1)).all (fun j => decide ((pc : Int) + offs[j]! = ((ts.getD (j + 1) 0 : Nat) : Int)))) = true := htg
    simp only [Bool.and_eq_true, decide_eq_true_eq] at htg
    obtain ⟨⟨⟨⟨⟨t1, t2⟩, t3⟩, t4⟩, t5⟩, t6⟩ := htg
    intro H locs ls hn hH hS hlv
    have go : ∀ t, K t lv r1 σ n → W p (bc_l g) e R s m args below meth c H locs (c0 + n) (s0 + 6 * n) Q (F0 m t ls (r1.map (bc_v g))) := fun t q => hK _ _ _ _ _ q H locs ls hn hH hS hlv
    have hxt : (Int32.ofInt x).toInt = x := bc_i_t hin
    have hlen : (ts.drop 1).length = ts.length - 1 := by simp
    by_cases hout : x < lo ∨ hi < x
    · exact lv_tableOut hx hb hd (by rw [hxt]; exact hout) t1 (go _ (h2 (by rw [hlen]; omega)))
    · have hlo : ¬ x < lo := fun q => hout (Or.inl q)
      have hhi : ¬ hi < x := fun q => hout (Or.inr q)
      have hj : (x - lo).toNat < ts.length - 1 := by omega
      have hoff : offs[(x - lo).toNat]? = some (offs[(x - lo).toNat]!) := by
        have : (x - lo).toNat < offs.size := by omega
        rw [Array.getElem?_eq_getElem this, getElem!_pos offs _ this]
      have htt := List.all_eq_true.mp t6 (x - lo).toNat (List.mem_range.mpr hj)
      simp only [decide_eq_true_eq] at htt
      have hgo := h1 (x - lo).toNat (by rw [hlen]; exact hj) (by omega)
      rw [show (ts.drop 1).getD (x - lo).toNat 0 = ts.getD ((x - lo).toNat + 1) 0 by simp [List.getD, List.getElem?_drop, Nat.add_comm]] at hgo
      exact lv_tableIn hx hb hd (by rw [hxt]; exact hlo) (by rw [hxt]; exact hhi) (by rw [hxt]; exact hoff) htt (go _ hgo)
  | getfield ix =>
    have hl : len = 3 := eq_of_beq hln
    subst hl
    obtain ⟨k, r1, rfl, hA⟩ := bc_pR_e h
    refine bc_s_get FX hd ?_
    obtain ⟨ci, j, ty, nest, pos, fs, o, h1, h2, h3, h4⟩ := bc_fd_e hA
    unfold bc_fd
    rw [h1, h2]
    dsimp only
    rw [show Nat.beq ci ci = true from Nat.beq_refl ci, h3]
    dsimp only [cond]
    cases o with
    | none => exact hK _ _ _ _ _ h4
    | some t => exact hK _ _ _ _ _ h4
  | putfield ix =>
    have hl : len = 3 := eq_of_beq hln
    subst hl
    obtain ⟨x, r0, rfl, hA0⟩ := bc_pI_e h
    obtain ⟨k, r1, rfl, hA⟩ := bc_pR_e hA0
    refine bc_s_put FX hd ?_
    obtain ⟨ci, j, ty, nest, pos, fs, o, h1, h2, h3, h4⟩ := bc_fd_e hA
    unfold bc_fd
    rw [h1, h2]
    dsimp only
    rw [show Nat.beq ci ci = true from Nat.beq_refl ci, h3]
    dsimp only [cond]
    cases o with
    | none => exact bc_fit_mono (fun q => hK _ _ _ _ _ q) h4
    | some t => exact h4.elim
  | iaload =>
    have hl : len = 1 := eq_of_beq hln
    subst hl
    exact bc_s_ald FX (Or.inl ⟨rfl, rfl⟩) hd (bc_ald_mono (fun x r q => hK _ _ _ _ _ q) h)
  | caload =>
    have hl : len = 1 := eq_of_beq hln
    subst hl
    exact bc_s_ald FX (Or.inr (Or.inl ⟨rfl, rfl⟩)) hd (bc_ald_mono (fun x r q => hK _ _ _ _ _ q) h)
  | baload =>
    have hl : len = 1 := eq_of_beq hln
    subst hl
    exact bc_s_ald FX (Or.inr (Or.inr ⟨rfl, rfl⟩)) hd (bc_ald_mono (fun x r q => hK _ _ _ _ _ q) h)
  | iastore =>
    have hl : len = 1 := eq_of_beq hln
    subst hl
    exact bc_s_ast FX (Or.inl ⟨rfl, rfl⟩) hd (bc_ast_mono (fun x r q => hK _ _ _ _ _ q) h)
  | castore =>
    have hl : len = 1 := eq_of_beq hln
    subst hl
    exact bc_s_ast FX (Or.inr (Or.inl ⟨rfl, rfl⟩)) hd (bc_ast_mono (fun x r q => hK _ _ _ _ _ q) h)
  | bastore =>
    have hl : len = 1 := eq_of_beq hln
    subst hl
    exact bc_s_ast FX (Or.inr (Or.inr ⟨rfl, rfl⟩)) hd (bc_ast_mono (fun x r q => hK _ _ _ _ _ q) h)
  | aaload =>
    have hl : len = 1 := eq_of_beq hln
    subst hl
    exact bc_s_aald FX hd (bc_aald_mono (fun x r q => hK _ _ _ _ _ q) h)
  | laload =>
    have hl : len = 1 := eq_of_beq hln
    subst hl
    obtain ⟨j, r0, rfl, hA0⟩ := bc_pI_e h
    obtain ⟨k, r1, rfl, hA⟩ := bc_pR_e hA0
    cases hk : bc_lng k with
    | false => rw [hk] at hA; exact hA.elim
    | true =>
      rw [hk] at hA
      obtain ⟨rfl, hB⟩ := hA
      exact bc_s_lald FX hk hd (hK _ _ _ _ _ hB)
  | daload =>
    have hl : len = 1 := eq_of_beq hln
    subst hl
    obtain ⟨j, r0, rfl, hA0⟩ := bc_pI_e h
    obtain ⟨k, r1, rfl, hA⟩ := bc_pR_e hA0
    cases hk : bc_dbl k with
    | false => rw [hk] at hA; exact hA.elim
    | true =>
      rw [hk] at hA
      obtain ⟨rfl, hB⟩ := hA
      exact bc_s_dald FX hk hd (hK _ _ _ _ _ hB)
  | lastore =>
    have hl : len = 1 := eq_of_beq hln
    subst hl
    obtain ⟨x, r9, rfl, hA9⟩ := bc_pJ_e h
    obtain ⟨j, r0, rfl, hA0⟩ := bc_pI_e hA9
    obtain ⟨k, r1, rfl, hA⟩ := bc_pR_e hA0
    cases hk : bc_lng k with
    | false => rw [hk] at hA; exact hA.elim
    | true =>
      rw [hk] at hA
      obtain ⟨rfl, hB⟩ := hA
      exact bc_s_last FX hk hd (hK _ _ _ _ _ hB)
  | dastore =>
    have hl : len = 1 := eq_of_beq hln
    subst hl
    obtain ⟨x, r9, rfl, hA9⟩ := bc_pD_e h
    obtain ⟨j, r0, rfl, hA0⟩ := bc_pI_e hA9
    obtain ⟨k, r1, rfl, hA⟩ := bc_pR_e hA0
    cases hk : bc_dbl k with
    | false => rw [hk] at hA; exact hA.elim
    | true =>
      rw [hk] at hA
      obtain ⟨rfl, hB⟩ := hA
      exact bc_s_dast FX hk hd (hK _ _ _ _ _ hB)
  | invokevirtual ix =>
    have hl : len = 3 := eq_of_beq hln
    subst hl
    dsimp only [bc_stp] at h
    split at h
    · rename_i j pos hml2
      cases hf : bc_fg j with
      | true => rw [hf] at h; exact h.elim
      | false =>
        rw [hf] at h
        obtain ⟨v1, v2⟩ := hv ix j pos hml2
        exact bc_s_inv (Y' := bc_yt j) (fg := bc_fg j) (KK := K) (XX := XX) v1 v2 FX (bc_ml_w hml2).1 (Or.inr ⟨hf, hd, rfl⟩) hK hX (by rw [hf]; exact h)
    · rename_i k hml2
      cases hk : Nat.ble 4 k with
      | false => rw [hk] at h; exact h.elim
      | true =>
        rw [hk] at h
        exact hJ k _ ix pc lv st σ n hml2 (Or.inr ⟨Nat.le_of_ble_eq_true hk, rfl⟩) hd (bc_jdk_mono (fun r σ' q => hK _ _ _ _ _ q) h)
    · exact h.elim
  | invokestatic ix =>
    have hl : len = 3 := eq_of_beq hln
    subst hl
    dsimp only [bc_stp] at h
    split at h
    · rename_i j pos hml2
      cases hf : bc_fg j with
      | false => rw [hf] at h; exact h.elim
      | true =>
        rw [hf] at h
        obtain ⟨v1, v2⟩ := hv ix j pos hml2
        exact bc_s_inv (Y' := bc_yt j) (fg := bc_fg j) (KK := K) (XX := XX) v1 v2 FX (bc_ml_w hml2).1 (Or.inl ⟨hf, hd, rfl⟩) hK hX (by rw [hf]; exact h)
    · rename_i k hml2
      cases hk : Nat.ble 4 k with
      | true => rw [hk] at h; exact h.elim
      | false =>
        rw [hk] at h
        exact hJ k _ ix pc lv st σ n hml2 (Or.inl ⟨by have := Nat.not_le_of_not_ble_eq_true (by rw [hk]; decide : ¬ Nat.ble 4 k = true); omega, rfl⟩) hd (bc_jdk_mono (fun r σ' q => hK _ _ _ _ _ q) h)
    · exact h.elim
  | new ix =>
    dsimp only [bc_stp] at h
    cases hg : (Nat.ble (n + 1) (bc_cost Y) && Nat.beq ts.length 1 && Nat.ble st.length 4) with
    | false => rw [hg] at h; exact h.elim
    | true =>
      rw [hg] at h
      simp only [Bool.and_eq_true] at hg
      exact hN pc ix len ts lv st σ n hc (Nat.le_of_ble_eq_true hg.1.1) (Nat.eq_of_beq_eq_true hg.1.2) (Nat.le_of_ble_eq_true hg.2) h
  | ireturn =>
    obtain ⟨x, r1, rfl, hA⟩ := bc_pI_e h
    obtain ⟨rfl, hB⟩ := bc_pE_e hA
    obtain ⟨h1, h2⟩ := bc_rt_e hB
    exact hR pc _ len ts lv _ σ n _ hc (Or.inl ⟨rfl, x, rfl, rfl, h2⟩) h1
  | lreturn =>
    obtain ⟨x, r1, rfl, hA⟩ := bc_pJ_e h
    obtain ⟨rfl, hB⟩ := bc_pE_e hA
    obtain ⟨h1, t, h2, h3⟩ := bc_rq_e hB
    exact hR pc _ len ts lv _ σ n _ hc (Or.inr (Or.inl ⟨rfl, x, rfl, rfl, by rw [h2]; cases t <;> first | rfl | cases h3⟩)) h1
  | freturn =>
    obtain ⟨x, r1, rfl, hA⟩ := bc_pF_e h
    obtain ⟨rfl, hB⟩ := bc_pE_e hA
    obtain ⟨h1, t, h2, h3⟩ := bc_rq_e hB
    exact hR pc _ len ts lv _ σ n _ hc (Or.inr (Or.inr (Or.inl ⟨rfl, x, rfl, rfl, by rw [h2]; cases t <;> first | rfl | cases h3⟩))) h1
  | dreturn =>
    obtain ⟨x, r1, rfl, hA⟩ := bc_pD_e h
    obtain ⟨rfl, hB⟩ := bc_pE_e hA
    obtain ⟨h1, t, h2, h3⟩ := bc_rq_e hB
    exact hR pc _ len ts lv _ σ n _ hc (Or.inr (Or.inr (Or.inr (Or.inl ⟨rfl, x, rfl, rfl, by rw [h2]; cases t <;> first | rfl | cases h3⟩)))) h1
  | areturn =>
    obtain ⟨x, r1, rfl, hA⟩ := bc_pR_e h
    obtain ⟨rfl, hB⟩ := bc_pE_e hA
    obtain ⟨h1, t, h2, h3⟩ := bc_rq_e hB
    exact hR pc _ len ts lv _ σ n _ hc (Or.inr (Or.inr (Or.inr (Or.inr (Or.inl ⟨rfl, x, rfl, rfl, by rw [h2]; cases t <;> first | exact ⟨_, rfl⟩ | cases h3⟩))))) h1
  | return_ =>
    obtain ⟨rfl, hB⟩ := bc_pE_e h
    split at hB
    · rename_i hr
      exact hR pc _ len ts lv _ σ n _ hc (Or.inr (Or.inr (Or.inr (Or.inr (Or.inr ⟨rfl, rfl, rfl, hr⟩))))) hB
    · exact hB.elim
  | _ => exact False.elim h
end BCO
