/-! methods with handlers: the law's wrappers -/
/-- the rows of a table: entries that the law has, and one that stands ahead names no class of a later one -/
def bc_hok : bc_HH → Bool
  | [] => true
  | (_, _, _, t) :: r => bc_hts.contains t && r.all (fun q => bc_ncl.contains (bc_ct q.2.2.2, bc_ct t)) && bc_hok r
theorem bc_hts_ok : ∀ t, t ∈ bc_hts → Cond.classLink RL t (bc_en (bc_ct t)) ∈ bc_W ∧ Cond.castable (bc_en (bc_ct t)) (bc_en (bc_ct t)) ∈ lw_tbl ∧ bc_ct t < 6 ∧ t ≠ 0 := by
  intro t ht
  simp only [bc_hts, List.mem_cons, List.not_mem_nil, or_false] at ht
  rcases ht with rfl | rfl | rfl | rfl | rfl | rfl
  · exact ⟨bc_wat_ok (pos := 642) (by decide +kernel), bc_watN_ok (pos := 747) (by decide +kernel), by decide, by decide⟩
  · exact ⟨bc_wat_ok (pos := 722) (by decide +kernel), bc_watN_ok (pos := 760) (by decide +kernel), by decide, by decide⟩
  · exact ⟨bc_wat_ok (pos := 723) (by decide +kernel), bc_watN_ok (pos := 776) (by decide +kernel), by decide, by decide⟩
  · exact ⟨bc_wat_ok (pos := 853) (by decide +kernel), bc_watN_ok (pos := 792) (by decide +kernel), by decide, by decide⟩
  · exact ⟨bc_wat_ok (pos := 854) (by decide +kernel), bc_watN_ok (pos := 808) (by decide +kernel), by decide, by decide⟩
  · exact ⟨bc_wat_ok (pos := 1082) (by decide +kernel), bc_watN_ok (pos := 824) (by decide +kernel), by decide, by decide⟩
theorem bc_find_e : ∀ {hh : bc_HH} {pc e h : Nat}, bc_hok hh = true → bc_find hh pc e = some h → ∃ (pre suf : bc_HH) (a b t : Nat), hh = pre ++ (a, b, h, t) :: suf ∧ a ≤ pc ∧ pc < b ∧ bc_ct t = e ∧ t ∈ bc_hts ∧ ∀ q ∈ pre, (¬ (q.1 ≤ pc ∧ pc < q.2.1)) ∨ (q.2.2.2 ∈ bc_hts ∧ (e, bc_ct q.2.2.2) ∈ bc_ncl)
  | [], pc, e, h, _, hf => by cases hf
  | (a, b, h', t) :: r, pc, e, h, hok, hf => by
    unfold bc_hok at hok
    simp only [Bool.and_eq_true] at hok
    obtain ⟨⟨h1, h2⟩, h3⟩ := hok
    have h1 : t ∈ bc_hts := by simpa using h1
    unfold bc_find at hf
    cases hc : (Nat.ble a pc && Nat.blt pc b && Nat.beq (bc_ct t) e) with
    | true =>
      rw [hc] at hf
      simp only [Bool.and_eq_true] at hc
      cases hf
      exact ⟨[], r, a, b, t, rfl, Nat.le_of_ble_eq_true hc.1.1, Nat.le_of_ble_eq_true hc.1.2, Nat.eq_of_beq_eq_true hc.2, h1, fun q hq => by cases hq⟩
    | false =>
      rw [hc] at hf
      obtain ⟨pre, suf, a2, b2, t2, e1, e2, e3, e4, e5, e6⟩ := bc_find_e (hh := r) h3 hf
      refine ⟨(a, b, h', t) :: pre, suf, a2, b2, t2, by rw [e1]; rfl, e2, e3, e4, e5, fun q hq => ?_⟩
      rcases List.mem_cons.mp hq with rfl | hq
      · refine Or.inr ⟨h1, ?_⟩
        have h4 := List.all_eq_true.mp h2 (a2, b2, h, t2) (by rw [e1]; exact List.mem_append_right _ List.mem_cons_self)
        rw [e4] at h4
        simpa using h4
      · exact e6 q hq
section BCHAND
variable {p : Program} {e : Env} {R : Room} {s : State} {m : MethodId} {args : Array Value} {below : List Frame} {meth : Method} {c : Code} {Q : State → Prop} {g : bc_C} {Y : bc_Y} {d : Nat} {pc : Nat} {lv : bc_LV} {st r : List bc_A} {σ : bc_M} {n c0 s0 : Nat}
theorem bc_s_catch {K : bc_KT} {x : Nat} (F : bc_Fx g Y d p R s m args meth c c0 s0) (how : bc_own Y = 12) (hhok : bc_hok (bc_hh Y) = true) (htab : c.exceptionTable.toList.map (fun h => (h.startPc, h.endPc, h.handlerPc, h.catchType)) = bc_hh Y)
    (hK : ∀ pc lv st σ n, K pc lv st σ n → bc_T g Y p e R s m args below meth c Q c0 s0 pc lv st σ n) (h : bc_thr Y K (fun _ _ => False) pc lv n x σ) : bc_TX g Y p e R s m args below meth c Q c0 s0 pc lv n x σ := by
  obtain ⟨hx, hb, hml, hts, hown, hlocks, hap, htr, hE, hz, hok, -⟩ := F
  rw [how] at hown
  unfold bc_thr at h
  cases hf : bc_find (bc_hh Y) pc x with
  | none => rw [hf] at h; exact h.elim
  | some hd =>
  rw [hf] at h
  dsimp only at h
  obtain ⟨pre, suf, a, b, t, e1, e2, e3, e4, e5, e6⟩ := bc_find_e hhok hf
  rw [e1] at htab
  obtain ⟨l1, l2, f1, f2, f3⟩ := List.map_eq_append_iff.mp htab
  obtain ⟨y, l3, rfl, g2, g3⟩ := List.map_eq_cons_iff.mp f3
  simp only [Prod.mk.injEq] at g2
  obtain ⟨k1, k2, k3, k4⟩ := g2
  obtain ⟨w1, w2, w3, w4⟩ := bc_hts_ok t e5
  intro H locs ls rest q ce hn hH hS hl hq hv hcl
  refine vx_catch (own := RL) (name := bc_en (bc_ct t)) (E := bc_en x) hown l1 y l3 f1 (fun z hz => ?_) (by unfold covers; rw [k1, k2]; simp [e2, e3]) (by rw [k4]; exact w4) (by rw [k4]; exact hts _ w1) (by rw [← e4]; exact va_Nw.use (A := args) rfl (hE.2.2.2.2.2.1 _ w2 rfl)) hq hv hcl ?_
  · have hzm : (z.startPc, z.endPc, z.handlerPc, z.catchType) ∈ pre := by rw [← f2]; exact List.mem_map.mpr ⟨z, hz, rfl⟩
    rcases e6 _ hzm with h9 | ⟨h9, h10⟩
    · refine Or.inl ?_
      unfold covers
      cases hc : (decide (z.startPc ≤ pc) && decide (pc < z.endPc)) with
      | false => rfl
      | true =>
        simp only [Bool.and_eq_true, decide_eq_true_eq] at hc
        exact absurd hc h9
    · obtain ⟨u1, u2, u3, u4⟩ := bc_hts_ok _ h9
      exact Or.inr ⟨u4, _, hts _ u1, hE.2.2.2.2.2.2.1 _ h10⟩
  · rw [k3]
    split at h
    · rename_i k len ts hcode
      obtain ⟨d1, -, q1⟩ := hok _ _ _ _ hcode
      have hl2 : len = 2 := by simpa [bc_ln] using q1
      subst hl2
      cases hbk : Nat.blt k (bc_nL Y) with
      | false => rw [hbk] at h; exact h.elim
      | true =>
        rw [hbk] at h
        dsimp only [cond] at h
        rw [bc_force_eq] at h
        refine lv_astore hx hb d1 hl (Nat.le_of_ble_eq_true hbk) rfl (fun ls' hl' => ?_)
        exact hK _ _ _ _ _ h H locs ls' hn hH hS (bc_keep_has (w := false) (v := .ref q) rfl (fun z hz => hz) (by simpa using hl'))
    · rename_i k len ts hcode
      obtain ⟨d1, -, q1⟩ := hok _ _ _ _ hcode
      have hl2 : len = 1 := by simpa [bc_ln] using q1
      subst hl2
      cases hbk : Nat.blt k.val (bc_nL Y) with
      | false => rw [hbk] at h; exact h.elim
      | true =>
        rw [hbk] at h
        dsimp only [cond] at h
        rw [bc_force_eq] at h
        refine lv_astore_n hx hb d1 rfl hl (Nat.le_of_ble_eq_true hbk) rfl (fun ls' hl' => ?_)
        exact hK _ _ _ _ _ h H locs ls' hn hH hS (bc_keep_has (w := false) (v := .ref q) rfl (fun z hz => hz) (by simpa using hl'))
    · exact h.elim
end BCHAND
/-- A METHOD WITH HANDLERS, from its entry: nothing goes out of it -/
theorem bc_enterH {g : bc_C} {Y : bc_Y} {fg : Bool} {d : Nat} {as : List bc_A} {σ : bc_M} {Rr : Option bc_A → bc_M → Prop} (hv : bc_vP Y fg) (hh : bc_hh Y ≠ []) (how : bc_own Y = 12) (hhok : bc_hok (bc_hh Y) = true) (hcv : bc_cv (bc_own Y)) (hnn : bc_nn Y)
    (ha : (as.all (fun v => !bc_wide v) && Nat.ble as.length (bc_nL Y)) = true) (body : ∀ K : bc_KT, bc_Good g Y d Rr (fun _ _ => False) K → K 0 (bc_lv0 0 as) [] σ 0) : bc_Sem g (d + 1) Y as σ Rr (fun _ _ => False) := by
  rw [Bool.and_eq_true] at ha
  have has : ∀ v ∈ as, bc_wide v = false := fun v hvm => by simpa using List.all_eq_true.mp ha.1 v hvm
  have hlen := Nat.le_of_ble_eq_true ha.2
  obtain ⟨w1, w2, w3, w4, w5, w6, w7, w8, w9, w10⟩ := hv
  obtain ⟨q1, q2⟩ := bc_wsm_hdW hh
  refine ⟨trivial, vx_ofWH (cc := Y.2.1) (maxL := bc_nL Y) (ret := bc_ret Y) (hh := bc_hh Y) w3 q1 ?_⟩
  intro p e s m args below meth c s₁ B hml hP
  obtain ⟨rfl, hap, htr, hH, hE, hz⟩ := hP
  have hx := B.exec
  have hb := B.bytes
  have hr := B.returns
  have hts := atoms_spec (ws := bc_wsm Y) B.pre
  have hown := findClass_of_methodNamed B.named
  have hlocks := B.notSynchronized
  have htW : ∀ w ∈ bc_W, w.before (as.map (bc_v g)).toArray s = true := fun w hw => hts w (by rw [q1]; exact List.mem_cons_of_mem _ hw)
  have htab : c.exceptionTable.toList.map (fun h => (h.startPc, h.endPc, h.handlerPc, h.catchType)) = bc_hh Y := by
    obtain ⟨m9, meth9, c9, hn9, hm9, hc9, -, -, ht9, -⟩ := Cond.codeWith_spec (hts _ (by rw [q1]; exact List.mem_cons_self))
    cases B.named.symm.trans hn9
    cases B.method.symm.trans hm9
    cases (Stand.of_body B).code.symm.trans hc9
    exact ht9
  obtain ⟨e1, e2⟩ := bc_lv0_args g as 0 has
  have hl := lv_entry (as.map (bc_v g)) (n := bc_nL Y) (by rw [e2]; exact hlen)
  rw [e1] at hl
  rw [lg_entry_eq]
  have F : bc_Fx g Y d p (headSpec (bc_wsm Y) (bc_rm (d + 1) (bc_cost Y))).room s m (as.map (bc_v g)).toArray meth c 0 0 := by
    refine ⟨hx, hb, hml, htW, by rw [← w7]; exact hown, hlocks, hap, htr, hE, hz, w9, ?_, ?_, ?_, ?_, hr⟩
    · exact Nat.le_refl _
    · exact bc_loc d
    · exact Nat.le_of_eq (Nat.zero_add _)
    · exact Nat.le_of_eq (Nat.zero_add _)
  have G : bc_Good g Y d Rr (fun _ _ => False) (bc_T g Y p e (headSpec (bc_wsm Y) (bc_rm (d + 1) (bc_cost Y))).room s m (as.map (bc_v g)).toArray below meth c (vx_MQ below (bc_Qc g Rr) (bc_Xc g (fun _ _ => False)) (as.map (bc_v g)).toArray s (bc_cost Y) (6 * bc_cost Y) (bc_Z g)) 0 0) := by
    refine ⟨fun cuts f pc lv st σ n h => ?_, fun pc lv lv' st σ n hs h => bc_T_sub hs h⟩
    exact bc_run_ok F hcv (fun _ _ _ _ _ h => h) (fun pc i len ts lv st σ n r hc hr h => bc_s_ret F hc hr h) (fun K hK pc lv n x σ h hx6 => bc_s_catch F how hhok htab hK h) (fun pc ix len ts lv st σ n hc h1 h2 h3 h4 => (hnn pc ix len ts hc).elim) (bc_jdk_all g Y d p e _ s m _ below meth c _ 0 0 F) f pc lv st σ n h
  have := body _ G s.heap [] _ (Nat.zero_le _) hH va_S.rf hl
  exact this
