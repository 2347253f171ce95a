noncomputable def bc_wq : List Nat → List Cond → Bool
  | p :: ps, w :: ws => bc_watN p w && bc_wq ps ws
  | [], [] => true
  | _, _ => false
theorem bc_wl : ∀ {ps : List Nat} {ws : List Cond}, bc_wq ps ws = true → ∀ w ∈ ws, w ∈ lw_tbl
  | p :: ps, w :: ws, h, v, hv => by
    have h : (bc_watN p w && bc_wq ps ws) = true := h
    rw [Bool.and_eq_true] at h
    rcases List.mem_cons.mp hv with e | hv
    · rw [e]; exact bc_watN_ok h.1
    · exact bc_wl h.2 v hv
  | [], [], _, v, hv => absurd hv List.not_mem_nil
  | _ :: _, [], _, v, hv => absurd hv List.not_mem_nil
  | [], _ :: _, h, _, _ => absurd h Bool.false_ne_true
section BCF
variable {p : Program} {e : Env} {R : Room} {s : State} {m : MethodId} {args : Array Value} {below : List Frame} {meth : Method} {c : Code} {Q : State → Prop} {g : bc_C} {Y : bc_Y} {d : Nat} {pc : Nat} {lv : bc_LV} {st r : List bc_A} {σ : bc_M} {n c0 s0 : Nat}
/-- what a body may rest on -/
noncomputable def bc_Fx (g : bc_C) (Y : bc_Y) (d : Nat) (p : Program) (R : Room) (s : State) (m : MethodId) (args : Array Value) (meth : Method) (c : Code) (c0 s0 : Nat) : Prop :=
  p.tables.exec = Jvm.exec ∧ c.code = Y.2.1 ∧ c.maxLocals = bc_nL Y ∧ (∀ w ∈ bc_W, w.before args s = true) ∧ s.vm.findClass (bc_rn (bc_own Y)) = some m.cls ∧ meth.locks = false ∧ bc_ap g ∧ (bc_l g).stackTraces = false ∧ bc_E g s s.heap ∧ bc_z g ≤ s.heap.size ∧ bc_ok1 Y.2.1 (bc_code Y) ∧
  d + 13 ≤ R.frames ∧ 60 * d + 460 ≤ R.locals ∧ c0 + bc_cost Y ≤ R.cells ∧ s0 + 6 * bc_cost Y ≤ R.slots ∧ meth.sig.returnType = bc_ret Y
theorem bc_cl_ok : ∀ (ci : Nat) (q : vw_C), bc_cl[ci]? = some q → (∀ w ∈ u_ws q.1 q.2.1 q.2.2, w ∈ bc_W) ∧ (∀ a, a < q.2.2 → ∀ b, b < q.2.2 → a ≠ b → (q.2.1 a).2.1 ≠ (q.2.1 b).2.1) ∧ ∃ ty : Nat → FieldType, ∀ k, k < q.2.2 → parseFieldDescriptor (q.2.1 k).2.2.1 = some (ty k) := by
  intro ci q h
  match ci, h with
  | 0, h => cases h; exact ⟨fun w hw => bc_mem_W (bc_wl (ps := [326, 328, 330]) (by decide +kernel) w hw) ((by decide +kernel : ∀ w ∈ wsX00, goodWord w = true) w hw), nmX0, tyX0, tyX0_ok⟩
  | 1, h => cases h; exact ⟨fun w hw => bc_mem_W (bc_wl (ps := [280, 282, 284]) (by decide +kernel) w hw) ((by decide +kernel : ∀ w ∈ wsX10, goodWord w = true) w hw), nmX1, tyX1, tyX1_ok⟩
  | 2, h => cases h; exact ⟨fun w hw => bc_mem_W (bc_wl (ps := [168, 170, 172, 174, 176, 178, 180]) (by decide +kernel) w hw) ((by decide +kernel : ∀ w ∈ wsX20, goodWord w = true) w hw), nmX2, tyX2, tyX2_ok⟩
  | 3, h => cases h; exact ⟨fun w hw => bc_mem_W (bc_wl (ps := [195, 197]) (by decide +kernel) w hw) ((by decide +kernel : ∀ w ∈ wsX30, goodWord w = true) w hw), nmX3, tyX3, tyX3_ok⟩
  | 4, h => cases h; exact ⟨fun w hw => bc_mem_W (bc_wl (ps := [345, 347, 349, 351]) (by decide +kernel) w hw) ((by decide +kernel : ∀ w ∈ wsX40, goodWord w = true) w hw), nmX4, tyX4, tyX4_ok⟩
  | 5, h => cases h; exact ⟨fun w hw => bc_mem_W (bc_wl (ps := [385, 387, 389, 391, 393]) (by decide +kernel) w hw) ((by decide +kernel : ∀ w ∈ wsX50, goodWord w = true) w hw), nmX5, tyX5, tyX5_ok⟩
  | 6, h => cases h; exact ⟨fun w hw => bc_mem_W (bc_wl (ps := [260, 262, 264]) (by decide +kernel) w hw) ((by decide +kernel : ∀ w ∈ wsX60, goodWord w = true) w hw), nmX6, tyX6, tyX6_ok⟩
  | 7, h => cases h; exact ⟨fun w hw => bc_mem_W (bc_wl (ps := [370, 372]) (by decide +kernel) w hw) ((by decide +kernel : ∀ w ∈ wsX70, goodWord w = true) w hw), nmX7, tyX7, tyX7_ok⟩
  | 8, h => cases h; exact ⟨fun w hw => bc_mem_W (bc_wl (ps := [227, 229, 231, 233, 235, 237, 239, 241, 243, 245, 247, 249, 251]) (by decide +kernel) w hw) ((by decide +kernel : ∀ w ∈ wsX80, goodWord w = true) w hw), nmX8, tyX8, tyX8_ok⟩
  | 9, h => cases h; exact ⟨fun w hw => bc_mem_W (bc_wl (ps := [304, 306, 308, 310, 312, 314]) (by decide +kernel) w hw) ((by decide +kernel : ∀ w ∈ wsX90, goodWord w = true) w hw), nmX9, tyX9, tyX9_ok⟩
  | 10, h => cases h; exact ⟨fun w hw => bc_mem_W (bc_wl (ps := [410, 412, 414, 416, 418, 420, 422, 424, 426, 428, 430, 432]) (by decide +kernel) w hw) ((by decide +kernel : ∀ w ∈ wsX100, goodWord w = true) w hw), nmX10, tyX10, tyX10_ok⟩
  | 11, h => cases h; exact ⟨fun w hw => bc_mem_W (bc_wl (ps := [1496, 1498, 1500, 1502, 1504, 1506, 1508, 1510, 1512, 1514, 1516, 1518, 1520, 1522, 1524, 1526, 1528, 1530, 1532, 1534]) (by decide +kernel) w hw) ((by decide +kernel : ∀ w ∈ wsX110, goodWord w = true) w hw), nmX11, tyX11, tyX11_ok⟩
  | k + 12, h => simp [bc_cl] at h
theorem bc_lI_e {l : bc_LV} {i : Nat} {k : Int → Prop} (h : bc_lI l i k) : ∃ x, bc_lget l i = some (bc_I x) ∧ k x := by
  unfold bc_lI at h; split at h
  · exact ⟨_, by assumption, h⟩
  · exact h.elim
theorem bc_lJ_e {l : bc_LV} {i : Nat} {k : Int64 → Prop} (h : bc_lJ l i k) : ∃ x, bc_lget l i = some (bc_J x) ∧ k x := by
  unfold bc_lJ at h; split at h
  · exact ⟨_, by assumption, h⟩
  · exact h.elim
theorem bc_lF_e {l : bc_LV} {i : Nat} {k : UInt32 → Prop} (h : bc_lF l i k) : ∃ x, bc_lget l i = some (bc_F x) ∧ k x := by
  unfold bc_lF at h; split at h
  · exact ⟨_, by assumption, h⟩
  · exact h.elim
theorem bc_lD_e {l : bc_LV} {i : Nat} {k : UInt64 → Prop} (h : bc_lD l i k) : ∃ x, bc_lget l i = some (bc_D x) ∧ k x := by
  unfold bc_lD at h; split at h
  · exact ⟨_, by assumption, h⟩
  · exact h.elim
theorem bc_lR_e {l : bc_LV} {i : Nat} {k : bc_A → Prop} (h : bc_lR l i k) : ∃ (v : bc_A) (a : Nat), bc_lget l i = some v ∧ bc_v g v = .ref a ∧ bc_wide v = false ∧ k v := by
  unfold bc_lR at h; split at h
  · exact ⟨_, _, by assumption, rfl, rfl, h⟩
  · exact ⟨_, _, by assumption, rfl, rfl, h⟩
  · exact h.elim
theorem bc_pR2_g {st : List bc_A} {k : bc_A → List bc_A → Prop} (h : bc_pR2 st k) : ∃ (v : bc_A) (a : Nat) (r : List bc_A), st = v :: r ∧ bc_v g v = .ref a ∧ bc_wide v = false ∧ k v r := by
  unfold bc_pR2 at h; split at h
  · exact ⟨_, _, _, rfl, rfl, rfl, h⟩
  · exact ⟨_, _, _, rfl, rfl, rfl, h⟩
  · exact h.elim
theorem bc_fd_e {ow ix k : Nat} {f : Nat → Nat → Option Nat → Prop} (h : bc_fd ow ix k f) : ∃ (ci j ty : Nat) (nest : Bool) (pos : Nat) (fs : List (Option Nat)) (o : Option Nat), bc_fl ow ix = some (ci, j, ty, nest, pos) ∧ bc_sh k = some (.inl (ci, fs)) ∧ fs[j]? = some o ∧ f j ty o := by
  unfold bc_fd at h
  split at h
  · rename_i ci j ty nest pos ci' fs h1 h2
    cases hb : Nat.beq ci ci' with
    | true =>
      rw [hb] at h
      have e := Nat.eq_of_beq_eq_true hb
      subst e
      dsimp only [cond] at h
      split at h
      · rename_i o ho
        exact ⟨ci, j, ty, nest, pos, fs, o, h1, h2, ho, h⟩
      · exact h.elim
    | false => rw [hb] at h; exact h.elim
  · exact h.elim
theorem bc_fs_at {k : Nat} {fs : List (Option Nat)} {j : Nat} {o : Option Nat} (h : fs[j]? = some o) : (bc_fs g σ k fs)[j]? = some (bc_fv g σ k j o) := by
  unfold bc_fs
  rw [List.getElem?_mapIdx, h]
  rfl
/-- a field is read -/
theorem bc_s_get {ix k : Nat} (F : bc_Fx g Y d p R s m args meth c c0 s0) (hd : decode Y.2.1 pc = .ok (.getfield ix, 3))
    (h : bc_fd (bc_own Y) ix k fun j _ o => (match o with | none => bc_T g Y p e R s m args below meth c Q c0 s0 (pc + 3) lv (bc_I (σ.1 k (j : Int)) :: r) σ n | some t => bc_T g Y p e R s m args below meth c Q c0 s0 (pc + 3) lv (bc_R t :: r) σ n)) :
    bc_T g Y p e R s m args below meth c Q c0 s0 pc lv (bc_R k :: r) σ n := by
  obtain ⟨hx, hb, hml, hts, hown, hlocks, hap, htr, hE, hz, -⟩ := F
  obtain ⟨ci, j, ty, nest, pos, fs, o, h1, h2, h3, h4⟩ := bc_fd_e h
  have hc := bc_fl_ok (by rw [h1]; rfl)
  unfold bc_flc at hc
  rw [h1] at hc
  dsimp only at hc
  intro H locs ls hn hH hS hl
  have hks := bc_sh_lt h2
  split at hc
  · cases hc
  · rename_i C T N hcl
    simp only [Bool.and_eq_true, decide_eq_true_eq] at hc
    obtain ⟨⟨⟨hj, hC⟩, -⟩, hw⟩ := hc
    obtain ⟨hin, -, -⟩ := bc_cl_ok ci _ hcl
    have hat : (bc_ws g σ)[k]? = some (bc_ad g k, .inr (ci, bc_fs g σ k fs)) := by rw [bc_ws_at hks, bc_e_obj h2]
    have hv := bc_fs_at (g := g) (σ := σ) (k := k) h3
    have hsame : ∀ x, s.fieldFound? (T j).1 (T j).2.1 (T j).2.2.1 = some x → s.fieldFound? C (T j).2.1 (T j).2.2.1 = some x := fun x hx => by rw [← hC]; exact hx
    have hgo : W p (bc_l g) e R s m args below meth c H locs (c0 + n) (s0 + 6 * n) Q (F0 m (pc + 3) ls (bc_fv g σ k j o :: r.map (bc_v g))) := by
      cases o with
      | none => exact h4 H locs ls hn hH hS hl
      | some t => exact h4 H locs ls hn hH hS hl
    cases nest with
    | false =>
      exact va_get (D := bc_Dd g) (cl := bc_cl) (ws := bc_ws g σ) (tys := bc_tys g) hx hb hts hin hown hE.1 hH k hat hcl j hj (hts _ (bc_wat_ok hw)) hsame hv hd hgo
    | true =>
      exact va_getN (D := bc_Dd g) (cl := bc_cl) (ws := bc_ws g σ) (tys := bc_tys g) hx hb hts hin hown hE.1 hH k hat hcl j hj (va_Nw.use (A := args) rfl (hE.2.2.2.2.2.1 _ (bc_watN_ok hw) rfl)) hsame hv hd hgo
/-- what fits a field or a row of kind ty -/
noncomputable def bc_fty (ty : Nat) : FieldType := match ty with
  | 0 => .int
  | 1 => .char
  | _ => .boolean
theorem bc_fit_e {ty : Nat} {x : Int} {A : Prop} (h : bc_fit ty x A) : ty < 3 ∧ A ∧ narrow (bc_fty ty) (.int (Int32.ofInt x)) = .int (Int32.ofInt x) ∧ fits (bc_fty ty) (.int (Int32.ofInt x)) = true ∧ vp_nar (bc_fty ty) (Int32.ofInt x) = Int32.ofInt x := by
  unfold bc_fit at h
  split at h
  · exact ⟨by decide, h, rfl, rfl, rfl⟩
  · obtain ⟨⟨h0, h1⟩, h2⟩ := h
    obtain ⟨q, hq⟩ : ∃ q : Nat, x = (q : Int) := ⟨x.toNat, (Int.toNat_of_nonneg h0).symm⟩
    subst hq
    have e : Int32.ofInt (q : Int) = nI q := Int32.ofInt_eq_ofNat
    obtain ⟨a, b⟩ := pk_charN (q := q) (by omega)
    have a' : narrow (bc_fty 1) (.int (nI q)) = .int (nI q) := a
    refine ⟨by decide, h2, by rw [e]; exact a', by rw [e]; exact b, ?_⟩
    unfold vp_nar
    rw [e, a']
  · obtain ⟨⟨h0, h1⟩, h2⟩ := h
    have hh : x = 0 ∨ x = 1 := by omega
    rcases hh with rfl | rfl
    · exact ⟨by decide, h2, by decide +kernel, by decide +kernel, by decide +kernel⟩
    · exact ⟨by decide, h2, by decide +kernel, by decide +kernel, by decide +kernel⟩
  · exact h.elim
theorem bc_fs_set {k j ci : Nat} {x : Int} {fs : List (Option Nat)} (hs : bc_sh k = some (.inl (ci, fs))) (h3 : fs[j]? = some none) : (bc_ws g σ).set k (bc_ad g k, .inr (ci, (bc_fs g σ k fs).set j (.int (Int32.ofInt x)))) = bc_ws g (bc_wr σ k (j : Int) x) := by
  refine bc_ws_set (bc_sh_lt hs) ?_ (fun i hi hne => bc_e_same (fun i hi => bc_wr_ne hi) rfl hne (fun b i w hr hb => ?_))
  · rw [bc_e_obj hs]
    congr 2
    apply List.ext_getElem?
    intro i
    have hj : j < (bc_fs g σ k fs).length := by
      have := (List.getElem?_eq_some_iff.mp h3).1
      simpa [bc_fs] using this
    by_cases hi : i = j
    · subst hi
      rw [bc_fs_at h3, List.getElem?_set_self hj]
      show some (Value.int (Int32.ofInt ((bc_wr σ k (i : Int) x).1 k (i : Int)))) = _
      rw [bc_wr_at, if_pos rfl]
    · rw [List.getElem?_set_ne (fun q => hi q.symm)]
      cases ho : fs[i]? with
      | none => unfold bc_fs; rw [List.getElem?_mapIdx, List.getElem?_mapIdx, ho]; rfl
      | some o =>
        rw [bc_fs_at ho, bc_fs_at ho]
        cases o with
        | none =>
          show some (Value.int (Int32.ofInt ((bc_wr σ k (j : Int) x).1 k (i : Int)))) = some (Value.int (Int32.ofInt (σ.1 k (i : Int))))
          rw [bc_wr_at, if_neg (by omega)]
        | some t => rfl
  · obtain ⟨u, h5, -⟩ := bc_row_grid hr
    rw [hb, hs] at h5
    cases h5
/-- a field is written -/
theorem bc_s_put {ix k : Nat} {x : Int} (F : bc_Fx g Y d p R s m args meth c c0 s0) (hd : decode Y.2.1 pc = .ok (.putfield ix, 3))
    (h : bc_fd (bc_own Y) ix k fun j ty o => (match o with | none => bc_fit ty x (bc_T g Y p e R s m args below meth c Q c0 s0 (pc + 3) lv r (bc_wr σ k (j : Int) x) n) | some _ => False)) :
    bc_T g Y p e R s m args below meth c Q c0 s0 pc lv (bc_I x :: bc_R k :: r) σ n := by
  obtain ⟨hx, hb, hml, hts, hown, hlocks, hap, htr, hE, hz, -⟩ := F
  obtain ⟨ci, j, ty, nest, pos, fs, o, h1, h2, h3, h4⟩ := bc_fd_e h
  cases o with
  | some t => exact h4.elim
  | none =>
  obtain ⟨hty, h5, hnw, hf, -⟩ := bc_fit_e h4
  have hc := bc_fl_ok (by rw [h1]; rfl)
  unfold bc_flc at hc
  rw [h1] at hc
  dsimp only at hc
  intro H locs ls hn hH hS hl
  have hks := bc_sh_lt h2
  split at hc
  · cases hc
  · rename_i C T N hcl
    simp only [Bool.and_eq_true, decide_eq_true_eq] at hc
    obtain ⟨⟨⟨hj, hC⟩, hpf⟩, hw⟩ := hc
    obtain ⟨hin, hnm, ty0, hty0⟩ := bc_cl_ok ci _ hcl
    have hat : (bc_ws g σ)[k]? = some (bc_ad g k, .inr (ci, bc_fs g σ k fs)) := by rw [bc_ws_at hks, bc_e_obj h2]
    have hlen : j < (bc_fs g σ k fs).length := by
      have := (List.getElem?_eq_some_iff.mp h3).1
      simpa [bc_fs] using this
    have hsame : ∀ x, s.fieldFound? (T j).1 (T j).2.1 (T j).2.2.1 = some x → s.fieldFound? C (T j).2.1 (T j).2.2.1 = some x := fun x hx => by rw [← hC]; exact hx
    have hpf2 : parseFieldDescriptor (T j).2.2.1 = some (bc_fty ty) ∧ (T j).2.2.2 = false := by
      have hh : ty = 0 ∨ ty = 1 ∨ ty = 2 := by omega
      rcases hh with rfl | rfl | rfl
      · simpa [bc_fty] using hpf
      · simpa [bc_fty] using hpf
      · simpa [bc_fty] using hpf
    have hgo : ∀ (H1 : Heap) (locs1 : List Loc), va_P (bc_Dd g) bc_cl ((bc_ws g σ).set k (bc_ad g k, .inr (ci, (bc_fs g σ k fs).set j (.int (Int32.ofInt x))))) H1 → va_D (bc_Z g) ((bc_ws g σ).set k (bc_ad g k, .inr (ci, (bc_fs g σ k fs).set j (.int (Int32.ofInt x))))) → va_S (bc_Z g) s.heap H1 locs1 → W p (bc_l g) e R s m args below meth c H1 locs1 (c0 + n) (s0 + 6 * n) Q (F0 m (pc + 3) ls (r.map (bc_v g))) := by
      intro H1 locs1 q1 _ q3
      rw [bc_fs_set h2 h3] at q1
      exact h5 H1 locs1 ls hn q1 q3 hl
    cases nest with
    | false =>
      exact va_put (D := bc_Dd g) (cl := bc_cl) (ws := bc_ws g σ) (tys := bc_tys g) (A := bc_Z g) hx hb hts hin ty0 hty0 hnm hown hE.1 hH (bc_ap_D hap σ) hS k hat hcl j hj (hts _ (bc_wat_ok hw)) hsame hpf2.2 hpf2.1 hnw hf hlen hd hgo
    | true =>
      exact va_putN (D := bc_Dd g) (cl := bc_cl) (ws := bc_ws g σ) (tys := bc_tys g) (A := bc_Z g) hx hb hts hin ty0 hty0 hnm hown hE.1 hH (bc_ap_D hap σ) hS k hat hcl j hj (va_Nw.use (A := args) rfl (hE.2.2.2.2.2.1 _ (bc_watN_ok hw) rfl)) hsame hpf2.2 hpf2.1 hnw hf hlen hd hgo
/-- a number of a row is read -/
theorem bc_s_ald {ty : Nat} {i : Instr} (F : bc_Fx g Y d p R s m args meth c c0 s0) (hi : (ty = 0 ∧ i = .iaload) ∨ (ty = 1 ∧ i = .caload) ∨ (ty = 2 ∧ i = .baload)) (hd : decode Y.2.1 pc = .ok (i, 1))
    (h : bc_ald ty st (fun x r => bc_T g Y p e R s m args below meth c Q c0 s0 (pc + 1) lv (bc_I x :: r) σ n) σ) : bc_T g Y p e R s m args below meth c Q c0 s0 pc lv st σ n := by
  obtain ⟨hx, hb, hml, hts, hown, hlocks, hap, htr, hE, hz, -⟩ := F
  unfold bc_ald at h
  obtain ⟨j, r1, rfl, hA⟩ := bc_pI_e h
  obtain ⟨v, r2, rfl, hB⟩ := bc_pR2_e hA
  clear h
  obtain ⟨b, j', t, ⟨k0, w, f, hv, hk0, ht3, hw, h0, h1, he, hf, -⟩, h⟩ := bc_ix_e (g := g) (σ := σ) hB
  cases hbt : Nat.beq t ty with
  | false => rw [hbt] at h; exact h.elim
  | true =>
    rw [hbt] at h
    have e := Nat.eq_of_beq_eq_true hbt
    subst e
    intro H locs ls hn hH hS hl
    obtain ⟨hin, hcl⟩ := bc_vp h0 h1 hw
    have hat : (bc_ws g σ)[k0]? = some (bc_ad g k0, .inl (bc_cA g t, w, .inl f)) := by rw [bc_ws_at hk0, he]
    have h2 := h H locs ls hn hH hS hl
    show W _ _ _ _ _ _ _ _ _ _ _ _ _ _ _ (F0 m pc ls (.int (Int32.ofInt j) :: bc_v g v :: r2.map (bc_v g)))
    rw [hv]
    have h3 : W p (bc_l g) e R s m args below meth c H locs (c0 + n) (s0 + 6 * n) Q (F0 m (pc + 1) ls (.int (f (Int32.ofInt j).toNatClampNeg) :: r2.map (bc_v g))) := by
      rw [hcl, hf]
      exact h2
    rcases hi with ⟨rfl, rfl⟩ | ⟨rfl, rfl⟩ | ⟨rfl, rfl⟩
    · exact va_iald (D := bc_Dd g) (cl := bc_cl) (tys := bc_tys g) hx hb hE.1 hH k0 0 hat rfl hin hd h3
    · exact va_cald (D := bc_Dd g) (cl := bc_cl) (tys := bc_tys g) hx hb hE.1 hH k0 1 hat rfl hin hd h3
    · exact va_zald (D := bc_Dd g) (cl := bc_cl) (tys := bc_tys g) hx hb hE.1 hH k0 2 hat rfl hin hd h3
/-- a number of a row is written -/
theorem bc_s_ast {ty : Nat} {i : Instr} (F : bc_Fx g Y d p R s m args meth c c0 s0) (hi : (ty = 0 ∧ i = .iastore) ∨ (ty = 1 ∧ i = .castore) ∨ (ty = 2 ∧ i = .bastore)) (hd : decode Y.2.1 pc = .ok (i, 1))
    (h : bc_ast ty st (fun σ' r => bc_T g Y p e R s m args below meth c Q c0 s0 (pc + 1) lv r σ' n) σ) : bc_T g Y p e R s m args below meth c Q c0 s0 pc lv st σ n := by
  obtain ⟨hx, hb, hml, hts, hown, hlocks, hap, htr, hE, hz, -⟩ := F
  unfold bc_ast at h
  obtain ⟨x, r0, rfl, hA⟩ := bc_pI_e h
  obtain ⟨j, r1, rfl, hB⟩ := bc_pI_e hA
  obtain ⟨v, r2, rfl, hC⟩ := bc_pR2_e hB
  clear h
  obtain ⟨b, j', t, ⟨k0, w, f, hv, hk0, ht3, hw, h0, h1, he, hf, hset⟩, h⟩ := bc_ix_e (g := g) (σ := σ) hC
  cases hbt : Nat.beq t ty with
  | false => rw [hbt] at h; exact h.elim
  | true =>
    rw [hbt] at h
    have e := Nat.eq_of_beq_eq_true hbt
    subst e
    dsimp only [cond] at h
    obtain ⟨-, h, -, -, hnar⟩ := bc_fit_e h
    intro H locs ls hn hH hS hl
    obtain ⟨hin, hcl⟩ := bc_vp h0 h1 hw
    have hat : (bc_ws g σ)[k0]? = some (bc_ad g k0, .inl (bc_cA g t, w, .inl f)) := by rw [bc_ws_at hk0, he]
    show W _ _ _ _ _ _ _ _ _ _ _ _ _ _ _ (F0 m pc ls (.int (Int32.ofInt x) :: .int (Int32.ofInt j) :: bc_v g v :: r2.map (bc_v g)))
    rw [hv]
    have h3 : ∀ (H1 : Heap) (locs1 : List Loc), va_P (bc_Dd g) bc_cl ((bc_ws g σ).set k0 (bc_ad g k0, .inl (bc_cA g t, w, .inl (upd f (Int32.ofInt j).toNatClampNeg (Int32.ofInt x))))) H1 → va_D (bc_Z g) ((bc_ws g σ).set k0 (bc_ad g k0, .inl (bc_cA g t, w, .inl (upd f (Int32.ofInt j).toNatClampNeg (Int32.ofInt x))))) → va_S (bc_Z g) s.heap H1 locs1 → W p (bc_l g) e R s m args below meth c H1 locs1 (c0 + n) (s0 + 6 * n) Q (F0 m (pc + 1) ls (r2.map (bc_v g))) := by
      intro H1 locs1 q1 _ q3
      rw [hcl, hset x] at q1
      exact h H1 locs1 ls hn q1 q3 hl
    rcases hi with ⟨rfl, rfl⟩ | ⟨rfl, rfl⟩ | ⟨rfl, rfl⟩
    · exact va_iast (D := bc_Dd g) (cl := bc_cl) (tys := bc_tys g) hx hb hE.1 hH (bc_ap_D hap σ) hS k0 0 hat rfl hin hd h3
    · have e1 : vp_nar .char (Int32.ofInt x) = Int32.ofInt x := hnar
      exact va_cast (D := bc_Dd g) (cl := bc_cl) (tys := bc_tys g) hx hb hE.1 hH (bc_ap_D hap σ) hS k0 1 hat rfl hin hd (by rw [e1]; exact h3)
    · have e1 : vp_nar .boolean (Int32.ofInt x) = Int32.ofInt x := hnar
      exact va_zast (D := bc_Dd g) (cl := bc_cl) (tys := bc_tys g) hx hb hE.1 hH (bc_ap_D hap σ) hS k0 2 hat rfl hin hd (by rw [e1]; exact h3)
end BCF
