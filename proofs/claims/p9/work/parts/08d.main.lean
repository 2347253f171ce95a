section BCM
variable {p : Program} {e : Env} {R : Room} {s : State} {m : MethodId} {args : Array Value} {below : List Frame} {meth : Method} {c : Code} {Q : State → Prop} {g : bc_C} {Y : bc_Y} {d : Nat} {pc : Nat} {lv : bc_LV} {st r : List bc_A} {σ : bc_M} {n c0 s0 : Nat}
/-- a constant is loaded -/
theorem bc_kn_ok : ∀ {ow k : Nat} {v : bc_A} {pos : Nat}, bc_kn ow k = some (v, pos) → ow < 12 ∧ k < 512 := by
  intro ow k v pos h
  unfold bc_kn at h
  split at h
  · cases hb : Nat.beq k 62 with
    | true => exact ⟨by decide, by rw [Nat.eq_of_beq_eq_true hb]; decide⟩
    | false => rw [hb] at h; cases h
  · cases hp : Nat.beq (k % 2) 0 with
    | false => rw [hp] at h; cases h
    | true =>
    rw [hp] at h
    dsimp only [cond] at h
    cases hb : Nat.blt k 93 with
    | true =>
      refine ⟨by decide, ?_⟩
      have := Nat.le_of_ble_eq_true hb
      omega
    | false =>
      rw [hb] at h
      cases hc : Nat.ble k 104 with
      | true =>
        refine ⟨by decide, ?_⟩
        have := Nat.le_of_ble_eq_true hc
        omega
      | false => rw [hc] at h; cases h
  · cases hb : Nat.beq k 424 with
    | true => exact ⟨by decide, by rw [Nat.eq_of_beq_eq_true hb]; decide⟩
    | false =>
      rw [hb] at h
      cases hc : Nat.beq k 425 with
      | true => exact ⟨by decide, by rw [Nat.eq_of_beq_eq_true hc]; decide⟩
      | false => rw [hc] at h; cases h
  · cases hb : Nat.beq k 96 with
    | true => exact ⟨by decide, by rw [Nat.eq_of_beq_eq_true hb]; decide⟩
    | false =>
      rw [hb] at h
      cases hc : Nat.beq k 248 with
      | true => exact ⟨by decide, by rw [Nat.eq_of_beq_eq_true hc]; decide⟩
      | false => rw [hc] at h; cases h
  · cases h
theorem bc_kn_I : ∀ {ow k : Nat} {v : Int} {pos : Nat}, bc_kn ow k = some (.inl v, pos) → (v = 1000000 ∧ ow = 4 ∧ k = 62) ∨ (v = -2147483648 ∧ ow = 10 ∧ k = 424) ∨ (v = 99999 ∧ ow = 11 ∧ k = 96) := by
  intro ow k v pos h
  unfold bc_kn at h
  split at h
  · cases hb : Nat.beq k 62 with
    | true => rw [hb] at h; cases h; exact Or.inl ⟨rfl, rfl, Nat.eq_of_beq_eq_true hb⟩
    | false => rw [hb] at h; cases h
  · cases hp : Nat.beq (k % 2) 0 <;> rw [hp] at h
    · cases h
    dsimp only [cond] at h
    cases hb : Nat.blt k 93 <;> rw [hb] at h
    · cases hc : Nat.ble k 104 <;> rw [hc] at h <;> cases h
    · cases hc : Nat.ble 74 k <;> rw [hc] at h <;> cases h
  · cases hb : Nat.beq k 424 with
    | true => rw [hb] at h; cases h; exact Or.inr (Or.inl ⟨rfl, rfl, Nat.eq_of_beq_eq_true hb⟩)
    | false =>
      rw [hb] at h
      cases hc : Nat.beq k 425 <;> rw [hc] at h <;> cases h
  · cases hb : Nat.beq k 96 with
    | true => rw [hb] at h; cases h; exact Or.inr (Or.inr ⟨rfl, rfl, Nat.eq_of_beq_eq_true hb⟩)
    | false =>
      rw [hb] at h
      cases hc : Nat.beq k 248 <;> rw [hc] at h <;> cases h
  · cases h
theorem bc_kn_w {ow k : Nat} {v : Int} {pos : Nat} (h : bc_kn ow k = some (.inl v, pos)) : Cond.constant (bc_rn ow) k (Int32.ofInt v) ∈ bc_W := by
  rcases bc_kn_I h with ⟨rfl, rfl, rfl⟩ | ⟨rfl, rfl, rfl⟩ | ⟨rfl, rfl, rfl⟩
  · exact bc_mem_W (by decide +kernel) rfl
  · exact bc_mem_W (by decide +kernel) rfl
  · exact bc_mem_W (by decide +kernel) rfl
theorem bc_kn_F {ow k : Nat} {v : UInt32} {pos : Nat} (h : bc_kn ow k = some (bc_F v, pos)) : v = 1258291200 ∧ ow = 10 ∧ k = 425 := by
  unfold bc_kn at h
  split at h
  · cases hb : Nat.beq k 62 <;> rw [hb] at h <;> cases h
  · cases hp : Nat.beq (k % 2) 0 <;> rw [hp] at h
    · cases h
    dsimp only [cond] at h
    cases hb : Nat.blt k 93 <;> rw [hb] at h
    · cases hc : Nat.ble k 104 <;> rw [hc] at h <;> cases h
    · cases hc : Nat.ble 74 k <;> rw [hc] at h <;> cases h
  · cases hb : Nat.beq k 424 with
    | true => rw [hb] at h; cases h
    | false =>
      rw [hb] at h
      cases hc : Nat.beq k 425 with
      | true => rw [hc] at h; cases h; exact ⟨rfl, rfl, Nat.eq_of_beq_eq_true hc⟩
      | false => rw [hc] at h; cases h
  · cases hb : Nat.beq k 96 with
    | true => rw [hb] at h; cases h
    | false =>
      rw [hb] at h
      cases hc : Nat.beq k 248 <;> rw [hc] at h <;> cases h
  · cases h
end BCM
section BCN
variable {p : Program} {e : Env} {R : Room} {s : State} {m : MethodId} {args : Array Value} {below : List Frame} {meth : Method} {c : Code} {Q : State → Prop} {g : bc_C} {Y : bc_Y} {d : Nat} {pc : Nat} {lv : bc_LV} {st r : List bc_A} {σ : bc_M} {n c0 s0 : Nat}
theorem bc_ldcwF {T : State} {locs : List Loc} {cells slots : Nat} {l : Launch} (X : Stand p l e R s m args below meth c T locs cells slots) (hexec : p.tables.exec = Jvm.exec) {own : String} {index : Nat} {v : UInt32} (hown : s.vm.findClass own = some m.cls)
    (hconst : (Cond.constantFloat own index v).before args s = true) {g : JFrame} (hg : g.method = m) (hdg : decode c.code g.pc = .ok (.ldc_w index, 3)) :
    ∀ target, Steps p.tables e below (T.setTop { g with pc := g.pc + 3, stack := .float v :: g.stack }) target → Steps p.tables e below (T.setTop g) target := by
  obtain ⟨k, cf, hk, hcf, hcp⟩ := Cond.constantFloat_spec hown hconst
  obtain ⟨k', hk', he⟩ := X.warmed.alike.2.2 _ _ hk
  intro target hrest
  subst hg
  jvm_step X.here [hexec, hdg, ldc_w.wp_float (s := T) (f := g) X.here.top hk' (by rw [he]; exact hcf) hcp]
  exact hrest
theorem bc_nle {x y : Int} (h : ¬ y ≤ x) : x < y := by omega
/-- a comparison of two numbers -/
theorem bc_s_cmp {cd : ClassFile.Cond} {off : Int} {t : Nat} {x y : Int} {TT : Nat → Prop} (hx : bc_in x) (hy : bc_in y) (h : bc_cmp cd x y (TT t) (TT (pc + 3))) :
    match cd with
    | .eq => (Int32.ofInt x = Int32.ofInt y → TT t) ∧ (¬ Int32.ofInt x = Int32.ofInt y → TT (pc + 3))
    | .ne => (¬ Int32.ofInt x = Int32.ofInt y → TT t) ∧ (Int32.ofInt x = Int32.ofInt y → TT (pc + 3))
    | .lt => (Int32.ofInt x < Int32.ofInt y → TT t) ∧ (¬ Int32.ofInt x < Int32.ofInt y → TT (pc + 3))
    | .ge => (Int32.ofInt y ≤ Int32.ofInt x → TT t) ∧ (¬ Int32.ofInt y ≤ Int32.ofInt x → TT (pc + 3))
    | .gt => (Int32.ofInt y < Int32.ofInt x → TT t) ∧ (¬ Int32.ofInt y < Int32.ofInt x → TT (pc + 3))
    | .le => (Int32.ofInt x ≤ Int32.ofInt y → TT t) ∧ (¬ Int32.ofInt x ≤ Int32.ofInt y → TT (pc + 3)) := by
  cases cd with
  | eq => exact ⟨fun q => h.1 ((bc_i_eq hx hy).mp q), fun q => h.2 (fun z => q ((bc_i_eq hx hy).mpr z))⟩
  | ne => exact ⟨fun q => h.2 (fun z => q ((bc_i_eq hx hy).mpr z)), fun q => h.1 ((bc_i_eq hx hy).mp q)⟩
  | lt => exact ⟨fun q => h.1 ((bc_i_lt hx hy).mp q), fun q => h.2 (fun z => q ((bc_i_lt hx hy).mpr z))⟩
  | ge => exact ⟨fun q => h.2 (fun z => absurd ((bc_i_le hy hx).mp q) (by omega)), fun q => h.1 (bc_nle (fun z => q ((bc_i_le hy hx).mpr z)))⟩
  | gt => exact ⟨fun q => h.1 ((bc_i_lt hy hx).mp q), fun q => h.2 (fun z => q ((bc_i_lt hy hx).mpr z))⟩
  | le => exact ⟨fun q => h.2 (fun z => absurd ((bc_i_le hx hy).mp q) (by omega)), fun q => h.1 (bc_nle (fun z => q ((bc_i_le hx hy).mpr z)))⟩
/-- a switch -/
theorem bc_sw_e {x : Int} {K : Nat → Prop} : ∀ {lo : Int} {ts : List Nat} {dd : Nat}, bc_sw x K lo ts dd → (∀ j : Nat, j < ts.length → x = lo + j → K (ts.getD j 0)) ∧ ((x < lo ∨ lo + ts.length ≤ x) → K dd)
  | lo, [], dd, h => ⟨fun j hj => absurd hj (Nat.not_lt_zero _), fun _ => h⟩
  | lo, t :: ts, dd, h => by
    obtain ⟨h1, h2⟩ := h
    refine ⟨fun j hj hx => ?_, fun hx => ?_⟩
    · cases j with
      | zero => exact h1 (by omega)
      | succ j =>
        have h3 := bc_sw_e (h2 (by omega))
        have := h3.1 j (by simpa using hj) (by omega)
        simpa using this
    · have hne : ¬ x = lo := by
        simp only [List.length_cons] at hx
        omega
      have h3 := bc_sw_e (h2 hne)
      refine h3.2 ?_
      simp only [List.length_cons] at hx
      omega
/-- a row of objects is read -/
theorem bc_s_aald (F : bc_Fx g Y d p R s m args meth c c0 s0) (hd : decode Y.2.1 pc = .ok (.aaload, 1))
    (h : bc_aald st (fun v r => bc_T g Y p e R s m args below meth c Q c0 s0 (pc + 1) lv (v :: r) σ n)) : bc_T g Y p e R s m args below meth c Q c0 s0 pc lv st σ n := by
  obtain ⟨hx, hb, hml, hts, hown, hlocks, hap, htr, hE, hz, -⟩ := F
  unfold bc_aald at h
  obtain ⟨j, r1, rfl, hA⟩ := bc_pI_e h
  obtain ⟨k, r2, rfl, hB⟩ := bc_pR_e hA
  clear h
  intro H locs ls hn hH hS hl
  split at hB
  · rename_i u w hs
    obtain ⟨⟨h0, h1⟩, h⟩ := hB
    have hck := bc_sh_ok (bc_sh_lt hs)
    unfold bc_shc at hck
    rw [hs] at hck
    simp only [Bool.and_eq_true, decide_eq_true_eq] at hck
    obtain ⟨hin, hcl⟩ := bc_vp h0 h1 hck.1
    have hat : (bc_ws g σ)[k]? = some (bc_ad g k, .inl (bc_cA g 5, u, .inr (.inr (.inr (.inr (fun j => if j < u then some (bc_ad g (k + 1 + j)) else none)))))) := by
      rw [bc_ws_at (bc_sh_lt hs)]
      unfold bc_e
      rw [hs]
    have hlt : (Int32.ofInt j).toNatClampNeg < u := by rw [hcl]; omega
    have h2 := h H locs ls hn hH hS hl
    refine W.aald (v := .ref (bc_ad g (k + 1 + j.toNat))) (ty := .array .int) hx hb (hH k _ hat) ((hE.1.2 5 _ rfl).1 u (fun j => va_rf (if j < u then some (bc_ad g (k + 1 + j)) else none))) rfl (fun q => by cases q) (by show ¬ (_ < 0 ∨ (arrV _ _ _).slots.size ≤ _); rw [arrV_size]; exact hin) ?_ rfl rfl hd h2
    show (arrV _ _ _).slots[_]? = _
    rw [arrV_read _ _ hlt]
    dsimp only
    rw [if_pos hlt, hcl]
    rfl
  · rename_i u b w hs
    obtain ⟨⟨h0, h1⟩, h⟩ := hB
    have hck := bc_sh_ok (bc_sh_lt hs)
    unfold bc_shc at hck
    rw [hs] at hck
    simp only [Bool.and_eq_true, decide_eq_true_eq] at hck
    obtain ⟨hin, hcl⟩ := bc_vp h0 h1 hck.1
    have hat : (bc_ws g σ)[k]? = some (bc_ad g k, .inl (bc_cA g 6, u, .inr (.inr (.inr (.inr (fun j => if j < u then some (bc_ad g (b + w * j)) else none)))))) := by
      rw [bc_ws_at (bc_sh_lt hs)]
      unfold bc_e
      rw [hs]
    have hlt : (Int32.ofInt j).toNatClampNeg < u := by rw [hcl]; omega
    have h2 := h j.toNat (by omega) (by omega) H locs ls hn hH hS hl
    refine W.aald (v := .ref (bc_ad g (b + w * j.toNat))) (ty := .object "BridgeChapel$State") hx hb (hH k _ hat) ((hE.1.2 6 _ rfl).1 u (fun j => va_rf (if j < u then some (bc_ad g (b + w * j)) else none))) rfl (fun q => by cases q) (by show ¬ (_ < 0 ∨ (arrV _ _ _).slots.size ≤ _); rw [arrV_size]; exact hin) ?_ rfl rfl hd h2
    show (arrV _ _ _).slots[_]? = _
    rw [arrV_read _ _ hlt]
    dsimp only
    rw [if_pos hlt, hcl]
    rfl
  · exact hB.elim
theorem bc_lng_1 : (List.range 230).all (fun k => !bc_lng k || Nat.beq k 228) = true := by decide +kernel
theorem bc_dbl_1 : (List.range 230).all (fun k => !bc_dbl k || Nat.beq k 229) = true := by decide +kernel
theorem bc_lng_sh {k : Nat} (h : bc_lng k = true) : bc_sh k = some (.inr (.inr (.inr (.inr (.inr false))))) ∧ k < 230 ∧ k = 228 := by
  unfold bc_lng at h
  split at h
  · rename_i b hs
    have hb : b = false := by simpa using h
    subst hb
    have hlt := bc_sh_lt hs
    refine ⟨hs, hlt, ?_⟩
    have h1 := List.all_eq_true.mp bc_lng_1 k (List.mem_range.mpr hlt)
    have h2 : bc_lng k = true := by unfold bc_lng; rw [hs]; rfl
    rw [h2] at h1
    exact Nat.eq_of_beq_eq_true h1
  · cases h
theorem bc_dbl_sh {k : Nat} (h : bc_dbl k = true) : bc_sh k = some (.inr (.inr (.inr (.inr (.inr true))))) ∧ k < 230 ∧ k = 229 := by
  unfold bc_dbl at h
  split at h
  · rename_i b hs
    subst h
    have hlt := bc_sh_lt hs
    refine ⟨hs, hlt, ?_⟩
    have h1 := List.all_eq_true.mp bc_dbl_1 k (List.mem_range.mpr hlt)
    have h2 : bc_dbl k = true := by unfold bc_dbl; rw [hs]
    rw [h2] at h1
    exact Nat.eq_of_beq_eq_true h1
  · cases h
theorem bc_e_2 {σ' : bc_M} {i : Nat} (h1 : σ'.1 = σ.1) (h2 : bc_lng i = true → σ'.2.1 = σ.2.1) (h3 : bc_dbl i = true → σ'.2.2 = σ.2.2) : bc_e g σ' i = bc_e g σ i := by
  unfold bc_e
  cases hs : bc_sh i with
  | none => rfl
  | some q =>
    obtain ⟨ci, fs⟩ | ⟨ty, w⟩ | ⟨b, i, w⟩ | ⟨w, u⟩ | ⟨w, b, d⟩ | b := q
    · show Sum.inr (ci, bc_fs g σ' _ fs) = Sum.inr (ci, bc_fs g σ _ fs)
      unfold bc_fs bc_fv
      rw [h1]
    · show (Sum.inl (_, _, Sum.inl fun x : Nat => Int32.ofInt (σ'.1 _ (x : Int))) : va_E) = Sum.inl (_, _, Sum.inl fun x : Nat => Int32.ofInt (σ.1 _ (x : Int)))
      rw [h1]
    · show (Sum.inl (_, _, Sum.inl fun x : Nat => if x < w then Int32.ofInt (σ'.1 b _) else 0) : va_E) = Sum.inl (_, _, Sum.inl fun x : Nat => if x < w then Int32.ofInt (σ.1 b _) else 0)
      rw [h1]
    · rfl
    · rfl
    · cases b with
      | false =>
        have := h2 (by unfold bc_lng; rw [hs]; rfl)
        show (Sum.inl (_, _, Sum.inr (Sum.inl fun j : Nat => if j = 0 then σ'.2.1 else 0)) : va_E) = Sum.inl (_, _, Sum.inr (Sum.inl fun j : Nat => if j = 0 then σ.2.1 else 0))
        rw [this]
      | true =>
        have := h3 (by unfold bc_dbl; rw [hs])
        show (Sum.inl (_, _, Sum.inr (Sum.inr (Sum.inr (Sum.inl fun j : Nat => if j = 0 then σ'.2.2 else 0)))) : va_E) = Sum.inl (_, _, Sum.inr (Sum.inr (Sum.inr (Sum.inl fun j : Nat => if j = 0 then σ.2.2 else 0))))
        rw [this]
theorem bc_vp0 : vp_in (Int32.ofInt 0) 1 ∧ (Int32.ofInt 0).toNatClampNeg = 0 := ⟨by unfold vp_in; decide +kernel, by decide +kernel⟩
theorem bc_s_lald {k : Nat} (F : bc_Fx g Y d p R s m args meth c c0 s0) (hk : bc_lng k = true) (hd : decode Y.2.1 pc = .ok (.laload, 1))
    (h : bc_T g Y p e R s m args below meth c Q c0 s0 (pc + 1) lv (bc_J σ.2.1 :: r) σ n) : bc_T g Y p e R s m args below meth c Q c0 s0 pc lv (bc_I 0 :: bc_R k :: r) σ n := by
  obtain ⟨hx, hb, hml, hts, hown, hlocks, hap, htr, hE, hz, -⟩ := F
  obtain ⟨hs, hlt, -⟩ := bc_lng_sh hk
  intro H locs ls hn hH hS hl
  have hat : (bc_ws g σ)[k]? = some (bc_ad g k, .inl (bc_cA g 3, 1, .inr (.inl (fun j => if j = 0 then σ.2.1 else 0)))) := by rw [bc_ws_at hlt]; unfold bc_e; rw [hs]; rfl
  refine va_lald (D := bc_Dd g) (cl := bc_cl) (tys := bc_tys g) hx hb hE.1 hH k 3 hat rfl bc_vp0.1 hd ?_
  rw [bc_vp0.2]
  exact h H locs ls hn hH hS hl
theorem bc_s_dald {k : Nat} (F : bc_Fx g Y d p R s m args meth c c0 s0) (hk : bc_dbl k = true) (hd : decode Y.2.1 pc = .ok (.daload, 1))
    (h : bc_T g Y p e R s m args below meth c Q c0 s0 (pc + 1) lv (bc_D σ.2.2 :: r) σ n) : bc_T g Y p e R s m args below meth c Q c0 s0 pc lv (bc_I 0 :: bc_R k :: r) σ n := by
  obtain ⟨hx, hb, hml, hts, hown, hlocks, hap, htr, hE, hz, -⟩ := F
  obtain ⟨hs, hlt, -⟩ := bc_dbl_sh hk
  intro H locs ls hn hH hS hl
  have hat : (bc_ws g σ)[k]? = some (bc_ad g k, .inl (bc_cA g 4, 1, .inr (.inr (.inr (.inl (fun j => if j = 0 then σ.2.2 else 0)))))) := by rw [bc_ws_at hlt]; unfold bc_e; rw [hs]; rfl
  refine va_dald (D := bc_Dd g) (cl := bc_cl) (tys := bc_tys g) hx hb hE.1 hH k 4 hat rfl bc_vp0.1 hd ?_
  rw [bc_vp0.2]
  exact h H locs ls hn hH hS hl
theorem bc_s_last {k : Nat} {x : Int64} (F : bc_Fx g Y d p R s m args meth c c0 s0) (hk : bc_lng k = true) (hd : decode Y.2.1 pc = .ok (.lastore, 1))
    (h : bc_T g Y p e R s m args below meth c Q c0 s0 (pc + 1) lv r (σ.1, x, σ.2.2) n) : bc_T g Y p e R s m args below meth c Q c0 s0 pc lv (bc_J x :: bc_I 0 :: bc_R k :: r) σ n := by
  obtain ⟨hx, hb, hml, hts, hown, hlocks, hap, htr, hE, hz, -⟩ := F
  obtain ⟨hs, hlt, hk8⟩ := bc_lng_sh hk
  intro H locs ls hn hH hS hl
  have hat : (bc_ws g σ)[k]? = some (bc_ad g k, .inl (bc_cA g 3, 1, .inr (.inl (fun j => if j = 0 then σ.2.1 else 0)))) := by rw [bc_ws_at hlt]; unfold bc_e; rw [hs]; rfl
  refine va_last (D := bc_Dd g) (cl := bc_cl) (tys := bc_tys g) hx hb hE.1 hH (bc_ap_D hap σ) hS k 3 hat rfl bc_vp0.1 hd (fun H1 locs1 q1 _ q3 => ?_)
  have he : bc_e g (σ.1, x, σ.2.2) k = .inl (bc_cA g 3, 1, .inr (.inl (vp_updL (fun j => if j = 0 then σ.2.1 else 0) 0 x))) := by
    unfold bc_e
    rw [hs]
    show (Sum.inl (_, _, Sum.inr (Sum.inl fun j : Nat => if j = 0 then x else 0)) : va_E) = Sum.inl (_, _, Sum.inr (Sum.inl _))
    congr 5
    funext j
    unfold vp_updL
    by_cases hj : j = 0
    · rw [if_pos hj, if_pos hj]
    · rw [if_neg hj, if_neg hj]; exact (if_neg hj).symm
  rw [bc_vp0.2, bc_ws_set (g := g) (σ := σ) (σ' := (σ.1, x, σ.2.2)) hlt he (fun i hi hne => bc_e_2 (σ := σ) (σ' := (σ.1, x, σ.2.2)) rfl (fun hh => absurd ((bc_lng_sh hh).2.2.trans hk8.symm) hne) (fun _ => rfl))] at q1
  exact h H1 locs1 ls hn q1 q3 hl
theorem bc_s_dast {k : Nat} {x : UInt64} (F : bc_Fx g Y d p R s m args meth c c0 s0) (hk : bc_dbl k = true) (hd : decode Y.2.1 pc = .ok (.dastore, 1))
    (h : bc_T g Y p e R s m args below meth c Q c0 s0 (pc + 1) lv r (σ.1, σ.2.1, x) n) : bc_T g Y p e R s m args below meth c Q c0 s0 pc lv (bc_D x :: bc_I 0 :: bc_R k :: r) σ n := by
  obtain ⟨hx, hb, hml, hts, hown, hlocks, hap, htr, hE, hz, -⟩ := F
  obtain ⟨hs, hlt, hk8⟩ := bc_dbl_sh hk
  intro H locs ls hn hH hS hl
  have hat : (bc_ws g σ)[k]? = some (bc_ad g k, .inl (bc_cA g 4, 1, .inr (.inr (.inr (.inl (fun j => if j = 0 then σ.2.2 else 0)))))) := by rw [bc_ws_at hlt]; unfold bc_e; rw [hs]; rfl
  refine va_dast (D := bc_Dd g) (cl := bc_cl) (tys := bc_tys g) hx hb hE.1 hH (bc_ap_D hap σ) hS k 4 hat rfl bc_vp0.1 hd (fun H1 locs1 q1 _ q3 => ?_)
  have he : bc_e g (σ.1, σ.2.1, x) k = .inl (bc_cA g 4, 1, .inr (.inr (.inr (.inl (vf_upd (fun j => if j = 0 then σ.2.2 else 0) 0 x))))) := by
    unfold bc_e
    rw [hs]
    show (Sum.inl (_, _, Sum.inr (Sum.inr (Sum.inr (Sum.inl fun j : Nat => if j = 0 then x else 0)))) : va_E) = Sum.inl (_, _, Sum.inr (Sum.inr (Sum.inr (Sum.inl _))))
    congr 7
    funext j
    unfold vf_upd
    by_cases hj : j = 0
    · rw [if_pos hj, if_pos hj]
    · rw [if_neg hj, if_neg hj]; exact (if_neg hj).symm
  rw [bc_vp0.2, bc_ws_set (g := g) (σ := σ) (σ' := (σ.1, σ.2.1, x)) hlt he (fun i hi hne => bc_e_2 (σ := σ) (σ' := (σ.1, σ.2.1, x)) rfl (fun _ => rfl) (fun hh => absurd ((bc_dbl_sh hh).2.2.trans hk8.symm) hne))] at q1
  exact h H1 locs1 ls hn q1 q3 hl
end BCN
