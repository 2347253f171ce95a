section BCM
variable {p : Program} {e : Env} {R : Room} {s : State} {m : MethodId} {args : Array Value} {below : List Frame} {meth : Method} {c : Code} {Q : State → Prop} {g : bc_C} {Y : bc_Y} {d : Nat} {pc : Nat} {lv : bc_LV} {st r : List bc_A} {σ : bc_M} {n c0 s0 : Nat}
/-- a constant is loaded -/
theorem bc_knf_e : ∀ {l : List (Nat × Nat × bc_A)} {ow k : Nat} {v : bc_A} {pos : Nat}, bc_knf l ow k = some (v, pos) → (ow, k, v) ∈ l
  | [], _, _, _, _, h => by cases h
  | (o, i, u) :: r, ow, k, v, pos, h => by
    unfold bc_knf at h
    cases hb : (Nat.beq o ow && Nat.beq i k) with
    | true =>
      rw [hb] at h
      obtain ⟨h1, h2⟩ := Bool.and_eq_true_iff.mp hb
      cases h
      rw [Nat.eq_of_beq_eq_true h1, Nat.eq_of_beq_eq_true h2]
      exact List.mem_cons_self
    | false =>
      rw [hb] at h
      exact List.mem_cons_of_mem _ (bc_knf_e h)
theorem bc_kn_e {ow k : Nat} {v : bc_A} {pos : Nat} (h : bc_kn ow k = some (v, pos)) : (ow, k, v) ∈ bc_knl := bc_knf_e h
theorem bc_kn_w {ow k : Nat} {v : Int} {pos : Nat} (h : bc_kn ow k = some (.inl v, pos)) : Cond.constant (bc_rn ow) k (Int32.ofInt v) ∈ bc_W := by
  have h := bc_kn_e h
  simp only [bc_knl, List.mem_cons, List.not_mem_nil, or_false, Prod.mk.injEq, Sum.inl.injEq, reduceCtorEq, and_false, or_false, false_or] at h
  rcases h with ⟨rfl, rfl, rfl⟩ | ⟨rfl, rfl, rfl⟩ | ⟨rfl, rfl, rfl⟩ | ⟨rfl, rfl, rfl⟩
  · exact bc_mem_W (by decide +kernel) rfl
  · exact bc_mem_W (by decide +kernel) rfl
  · exact bc_mem_W (by decide +kernel) rfl
  · exact bc_mem_W (by decide +kernel) rfl
theorem bc_kn_F {ow k : Nat} {v : UInt32} {pos : Nat} (h : bc_kn ow k = some (bc_F v, pos)) : v = 1258291200 ∧ ow = 10 ∧ k = 425 := by
  have h := bc_kn_e h
  simp only [bc_knl, List.mem_cons, List.not_mem_nil, or_false, Prod.mk.injEq, Sum.inr.injEq, Sum.inl.injEq, reduceCtorEq, and_false, or_false, false_or] at h
  exact ⟨h.2.2, h.1, h.2.1⟩
end BCM
section BCN
variable {p : Program} {e : Env} {R : Room} {s : State} {m : MethodId} {args : Array Value} {below : List Frame} {meth : Method} {c : Code} {Q : State → Prop} {g : bc_C} {Y : bc_Y} {d : Nat} {pc : Nat} {lv : bc_LV} {st r : List bc_A} {σ : bc_M} {n c0 s0 : Nat}
theorem bc_ldcwF {T : State} {locs : List Loc} {cells slots : Nat} {l : Launch} (X : Stand p l e R s m args below meth c T locs cells slots) (hexec : p.tables.exec = Jvm.exec) {own : String} {index : Nat} {v : UInt32} (hown : s.vm.findClass own = some m.cls)
    (hconst : (Cond.constantFloat own index v).before args s = true) {g : JFrame} (hg : g.method = m) (hdg : decode c.code g.pc = .ok (.ldc_w index, 3)) :
    ∀ target, Steps p.tables e below (T.setTop { g with pc := g.pc + 3, stack := .float v :: g.stack }) target → Steps p.tables e below (T.setTop g) target := by
  obtain ⟨k, cf, hk, hcf, hcp⟩ := Cond.constantFloat_spec hown hconst
  obtain ⟨k', hk', he⟩ := X.warmed.alike.2.2 _ _ hk
  intro target hrest
  subst hg
  jvm_step X.here [hexec, hdg, ldc_w.wp_float (s := T) (f := g) X.here.top hk' (by rw [he]; exact hcf) hcp]
  exact hrest
theorem bc_nle {x y : Int} (h : ¬ y ≤ x) : x < y := by omega
/-- a comparison of two numbers -/
theorem bc_s_cmp {cd : ClassFile.Cond} {off : Int} {t : Nat} {x y : Int} {TT : Nat → Prop} (hx : bc_in x) (hy : bc_in y) (h : bc_cmp cd x y (TT t) (TT (pc + 3))) :
    match cd with
    | .eq => (Int32.ofInt x = Int32.ofInt y → TT t) ∧ (¬ Int32.ofInt x = Int32.ofInt y → TT (pc + 3))
    | .ne => (¬ Int32.ofInt x = Int32.ofInt y → TT t) ∧ (Int32.ofInt x = Int32.ofInt y → TT (pc + 3))
    | .lt => (Int32.ofInt x < Int32.ofInt y → TT t) ∧ (¬ Int32.ofInt x < Int32.ofInt y → TT (pc + 3))
    | .ge => (Int32.ofInt y ≤ Int32.ofInt x → TT t) ∧ (¬ Int32.ofInt y ≤ Int32.ofInt x → TT (pc + 3))
    | .gt => (Int32.ofInt y < Int32.ofInt x → TT t) ∧ (¬ Int32.ofInt y < Int32.ofInt x → TT (pc + 3))
    | .le => (Int32.ofInt x ≤ Int32.ofInt y → TT t) ∧ (¬ Int32.ofInt x ≤ Int32.ofInt y → TT (pc + 3)) := by
  cases cd with
  | eq => exact ⟨fun q => h.1 ((bc_i_eq hx hy).mp q), fun q => h.2 (fun z => q ((bc_i_eq hx hy).mpr z))⟩
  | ne => exact ⟨fun q => h.2 (fun z => q ((bc_i_eq hx hy).mpr z)), fun q => h.1 ((bc_i_eq hx hy).mp q)⟩
  | lt => exact ⟨fun q => h.1 ((bc_i_lt hx hy).mp q), fun q => h.2 (fun z => q ((bc_i_lt hx hy).mpr z))⟩
  | ge => exact ⟨fun q => h.2 (fun z => absurd ((bc_i_le hy hx).mp q) (by omega)), fun q => h.1 (bc_nle (fun z => q ((bc_i_le hy hx).mpr z)))⟩
  | gt => exact ⟨fun q => h.1 ((bc_i_lt hy hx).mp q), fun q => h.2 (fun z => q ((bc_i_lt hy hx).mpr z))⟩
  | le => exact ⟨fun q => h.2 (fun z => absurd ((bc_i_le hx hy).mp q) (by omega)), fun q => h.1 (bc_nle (fun z => q ((bc_i_le hx hy).mpr z)))⟩
/-- a switch -/
theorem bc_sw_e {x : Int} {K : Nat → Prop} : ∀ {lo : Int} {ts : List Nat} {dd : Nat}, bc_sw x K lo ts dd → (∀ j : Nat, j < ts.length → x = lo + j → K (ts.getD j 0)) ∧ ((x < lo ∨ lo + ts.length ≤ x) → K dd)
  | lo, [], dd, h => ⟨fun j hj => absurd hj (Nat.not_lt_zero _), fun _ => h⟩
  | lo, t :: ts, dd, h => by
    obtain ⟨h1, h2⟩ := h
    refine ⟨fun j hj hx => ?_, fun hx => ?_⟩
    · cases j with
      | zero => exact h1 (by omega)
      | succ j =>
        have h3 := bc_sw_e (h2 (by omega))
        have := h3.1 j (by simpa using hj) (by omega)
        simpa using this
    · have hne : ¬ x = lo := by
        simp only [List.length_cons] at hx
        omega
      have h3 := bc_sw_e (h2 hne)
      refine h3.2 ?_
      simp only [List.length_cons] at hx
      omega
/-- a row of objects is read -/
theorem bc_s_aald (F : bc_Fx g Y d p R s m args meth c c0 s0) (hd : decode Y.2.1 pc = .ok (.aaload, 1))
    (h : bc_aald st (fun v r => bc_T g Y p e R s m args below meth c Q c0 s0 (pc + 1) lv (v :: r) σ n)) : bc_T g Y p e R s m args below meth c Q c0 s0 pc lv st σ n := by
  obtain ⟨hx, hb, hml, hts, hown, hlocks, hap, htr, hE, hz, -⟩ := F
  unfold bc_aald at h
  obtain ⟨j, r1, rfl, hA⟩ := bc_pI_e h
  obtain ⟨k, r2, rfl, hB⟩ := bc_pR_e hA
  clear h
  intro H locs ls hn hH hS hl
  split at hB
  · rename_i u w hs
    obtain ⟨⟨h0, h1⟩, h⟩ := hB
    have hck := bc_sh_ok (bc_sh_lt hs)
    unfold bc_shc at hck
    rw [hs] at hck
    simp only [Bool.and_eq_true, decide_eq_true_eq] at hck
    obtain ⟨hin, hcl⟩ := bc_vp h0 h1 hck.1
    have hat : (bc_ws g σ)[k]? = some (bc_ad g k, .inl (bc_cA g 5, u, .inr (.inr (.inr (.inr (fun j => if j < u then some (bc_ad g (k + 1 + j)) else none)))))) := by
      rw [bc_ws_at (bc_sh_lt hs)]
      unfold bc_e
      rw [hs]
    have hlt : (Int32.ofInt j).toNatClampNeg < u := by rw [hcl]; omega
    have h2 := h H locs ls hn hH hS hl
    refine W.aald (v := .ref (bc_ad g (k + 1 + j.toNat))) (ty := .array .int) hx hb (hH.1 k _ hat) ((hE.1.2 5 _ rfl).1 u (fun j => va_rf (if j < u then some (bc_ad g (k + 1 + j)) else none))) rfl (fun q => by cases q) (by show ¬ (_ < 0 ∨ (arrV _ _ _).slots.size ≤ _); rw [arrV_size]; exact hin) ?_ rfl rfl hd h2
    show (arrV _ _ _).slots[_]? = _
    rw [arrV_read _ _ hlt]
    dsimp only
    rw [if_pos hlt, hcl]
    rfl
  · rename_i u b w hs
    obtain ⟨⟨h0, h1⟩, h⟩ := hB
    have hck := bc_sh_ok (bc_sh_lt hs)
    unfold bc_shc at hck
    rw [hs] at hck
    simp only [Bool.and_eq_true, decide_eq_true_eq] at hck
    obtain ⟨hin, hcl⟩ := bc_vp h0 h1 hck.1
    have hat : (bc_ws g σ)[k]? = some (bc_ad g k, .inl (bc_cA g 6, u, .inr (.inr (.inr (.inr (fun j => if j < u then some (bc_ad g (b + w * j)) else none)))))) := by
      rw [bc_ws_at (bc_sh_lt hs)]
      unfold bc_e
      rw [hs]
    have hlt : (Int32.ofInt j).toNatClampNeg < u := by rw [hcl]; omega
    have h2 := h j.toNat (by omega) (by omega) H locs ls hn hH hS hl
    refine W.aald (v := .ref (bc_ad g (b + w * j.toNat))) (ty := .object "BridgeChapel$State") hx hb (hH.1 k _ hat) ((hE.1.2 6 _ rfl).1 u (fun j => va_rf (if j < u then some (bc_ad g (b + w * j)) else none))) rfl (fun q => by cases q) (by show ¬ (_ < 0 ∨ (arrV _ _ _).slots.size ≤ _); rw [arrV_size]; exact hin) ?_ rfl rfl hd h2
    show (arrV _ _ _).slots[_]? = _
    rw [arrV_read _ _ hlt]
    dsimp only
    rw [if_pos hlt, hcl]
    rfl
  · exact hB.elim
end BCN
