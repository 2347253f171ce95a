section BDG
variable {p : Program} {e : Env} {R : Room} {s : State} {m : MethodId} {args : Array Value} {below : List Frame} {meth : Method} {c : Code} {Q : State → Prop} {g : bc_C} {Y : bc_Y} {d : Nat} {pc : Nat} {lv : bc_LV} {st r : List bc_A} {σ : bc_M} {n c0 s0 : Nat} {D : List bd_O} {sc : Nat × (Nat → Int32)}
/-- what a body of a law's method may rest on, at the cells of the moment -/
def bd_Fx (sc : Nat × (Nat → Int32)) (g : bc_C) (Y : bc_Y) (d : Nat) (p : Program) (R : Room) (s : State) (m : MethodId) (args : Array Value) (meth : Method) (c : Code) (c0 s0 : Nat) : Prop := bc_Fx g Y d p R s m args meth c c0 s0 ∧ bd_W sc g s s.heap
/-- all continuations are right, whatever the law's own cells are -/
def bd_KO (sc : Nat × (Nat → Int32)) (Y : bc_Y) (d : Nat) (p : Program) (e : Env) (R : Room) (s : State) (m : MethodId) (args : Array Value) (below : List Frame) (meth : Method) (c : Code) (Q : State → Prop) (c0 s0 : Nat) (A : bc_C → List bd_O → Prop) (K : bd_KT) : Prop :=
  ∀ (g : bc_C) (D : List bd_O) (pc : Nat) (lv : bc_LV) (st : List bc_A) (σ : bc_M) (n : Nat), A g D → bd_Fx sc g Y d p R s m args meth c c0 s0 → K g D pc lv st σ n → bd_T Y p e R s m args below meth c Q c0 s0 g D pc lv st σ n
theorem bd_W_up {k a : Nat} {U : State} {H : Heap} (hk : k ≠ 999) (h : bd_W sc g U H) : bd_W sc (bd_up g k a) U H := by
  unfold bd_W at h ⊢
  rw [bd_up_ad (fun q => hk q.symm)]
  exact h
theorem bd_Fx_up {k a : Nat} (h0 : 218 ≤ k) (h1 : k < 999) (F : bd_Fx sc g Y d p R s m args meth c c0 s0) : bd_Fx sc (bd_up g k a) Y d p R s m args meth c c0 s0 := ⟨bd_up_F h0 (by omega) F.1, bd_W_up (by omega) F.2⟩
/-- the script's length, a number of the script -/
theorem bd_s_slen (F : bd_Fx sc g Y d p R s m args meth c c0 s0) (hd : decode Y.2.1 pc = .ok (.arraylength, 1)) (h : bd_T Y p e R s m args below meth c Q c0 s0 g D (pc + 1) lv (bc_I (sc.1 : Int) :: r) σ n) : bd_T Y p e R s m args below meth c Q c0 s0 g D pc lv (bc_R 999 :: r) σ n := by
  obtain ⟨⟨hx, hb, hml, hts, hown, hlocks, hap, htr, hE, hz, -⟩, hX, hlt, hnZ, -⟩ := F
  intro hok H locs ls hn hH hS hl
  have h2 := h hok H locs ls hn hH hS hl
  have h3 : W p (bc_l g) e R s m args below meth c H locs (c0 + n) (s0 + 6 * n) Q (F0 m (pc + 1) ls (.int (Int32.ofInt (sc.1 : Int)) :: r.map (bc_v g))) := h2
  rw [Int32.ofInt_eq_ofNat] at h3
  exact va_slen hx hb hX hlt hnZ hS hd h3
theorem bd_s_sld {j : Int} (F : bd_Fx sc g Y d p R s m args meth c c0 s0) (hd : decode Y.2.1 pc = .ok (.iaload, 1)) (h0 : 0 ≤ j ∧ j < (sc.1 : Int)) (hL : sc.1 < 2000) (h : bd_T Y p e R s m args below meth c Q c0 s0 g D (pc + 1) lv (bc_I (sc.2 j.toNat).toInt :: r) σ n) : bd_T Y p e R s m args below meth c Q c0 s0 g D pc lv (bc_I j :: bc_R 999 :: r) σ n := by
  obtain ⟨⟨hx, hb, hml, hts, hown, hlocks, hap, htr, hE, hz, -⟩, hX, hlt, hnZ, -⟩ := F
  intro hok H locs ls hn hH hS hl
  obtain ⟨hin, hcl⟩ := bc_vp h0.1 h0.2 hL
  have h2 := h hok H locs ls hn hH hS hl
  have h3 : W p (bc_l g) e R s m args below meth c H locs (c0 + n) (s0 + 6 * n) Q (F0 m (pc + 1) ls (.int (Int32.ofInt (sc.2 j.toNat).toInt) :: r.map (bc_v g))) := h2
  rw [Int32.ofInt_toInt, ← hcl] at h3
  exact va_sld hx hb hX hlt hnZ hS hin hd h3
/-- a call of the class -/
theorem bd_s_call {Y' : bc_Y} {fg : Bool} {ix k : Nat} {K : bd_KT} {A : bc_C → List bd_O → Prop} (hA : A g D) (hYv : bc_vP Y' fg) (hcw0 : bc_hh Y' = [] ∨ fg = true) (F : bd_Fx sc g Y d p R s m args meth c c0 s0) (hl : Cond.methodLink (bc_rn (bc_own Y)) ix Y'.1 ∈ bc_W)
    (hst : (fg = true ∧ decode Y.2.1 pc = .ok (.invokestatic ix, 3) ∧ k = bc_np Y') ∨ (fg = false ∧ decode Y.2.1 pc = .ok (.invokevirtual ix, 3) ∧ k = bc_np Y' + 1))
    (hK : bd_KO sc Y d p e R s m args below meth c Q c0 s0 A K) (h : bd_inv Y (bd_C1 d) Y' k g D pc lv st σ n K (if fg then (fun _ => true) else bc_rcv (bc_own Y'))) : bd_T Y p e R s m args below meth c Q c0 s0 g D pc lv st σ n := by
  intro hok H locs ls hn hH hS hlv
  have hJ : bd_J g s D H := hH.2
  unfold bd_inv at h
  split at h
  · rename_i as r hpop
    have hok2 : (if fg then (fun _ => true) else bc_rcv (bc_own Y')) as = (if fg then true else bc_rcv (bc_own Y') as) := by cases fg <;> rfl
    rw [hok2] at h
    cases hg : (Nat.ble (n + bc_cost Y') (bc_cost Y) && (if fg then true else bc_rcv (bc_own Y') as) && (Nat.ble r.length 8 && r.all (fun v => !bc_wide v))) with
    | false => rw [hg] at h; exact h.elim
    | true =>
      rw [hg] at h
      simp only [Bool.and_eq_true] at hg
      obtain ⟨⟨hg1, hg2⟩, hg3, hg4⟩ := hg
      have hg1 := Nat.le_of_ble_eq_true hg1
      have hg3 := Nat.le_of_ble_eq_true hg3
      have hgo := bd_s_inv (Q := Q) (e := e) (below := below) (RR := fun v σ' => K g D (pc + 3) lv (v.toList ++ r) σ' (n + bc_cost Y')) hYv hcw0 F.1 hl hst hpop hg1 (by cases fg <;> exact hg2) ⟨hg3, hg4⟩ (fun Z => h Z) hH.1 hS hlv (fun r' σ' H1 locs1 hkk hP1 hS1 hk1 hz1 => ?_)
      · exact hgo
      · refine hK g D (pc + 3) lv (r'.toList ++ r) σ' (n + bc_cost Y') hA F hkk hok H1 locs1 ls hg1 ⟨hP1, ?_⟩ hS1 hlv
        have hlive : ∀ k : Nat, bd_lv D k → 218 ≤ k → H1[bc_ad g k]? = H[bc_ad g k]? := by
          intro k hk h218
          refine hk1 _ (bd_J_lt hJ hk h218) (fun hz => ?_)
          rcases hz with ⟨k', hk', q⟩ | hz
          · have := hok.2.1 k k' hk (Or.inl hk') q
            omega
          · have := bd_J_lt hJ hk h218
            omega
        refine bd_J_kept hJ hlive (fun a ha hna => hk1 a ha (fun hz => hna ?_))
        rcases hz with ⟨k', hk', q⟩ | hz
        · rw [q]
          exact hok.2.2 k' (Or.inl hk')
        · omega
  · exact h.elim
theorem bd_ok_two {D' : List bd_O} (hm : D'.map bd_two = D.map bd_two) (h : bd_ok g D) : bd_ok g D' := by
  have hlen : D'.length = D.length := by
    have := congrArg List.length hm
    rwa [List.length_map, List.length_map] at this
  have key : ∀ k : Nat, bd_lv D' k → bd_lv D k := by
    intro k hk
    rcases hk with hk | ⟨i, o, ho, hk⟩
    · exact Or.inl hk
    · have h1 : (D'.map bd_two)[i]? = (D.map bd_two)[i]? := by rw [hm]
      rw [List.getElem?_map, List.getElem?_map, ho] at h1
      cases ho2 : D[i]? with
      | none => rw [ho2] at h1; cases h1
      | some o2 =>
        rw [ho2] at h1
        have h3 : bd_two o = bd_two o2 := Option.some.inj h1
        exact Or.inr ⟨i, o2, ho2, hk.imp id (fun z => ⟨z.1, by rw [← h3]; exact z.2⟩)⟩
  exact ⟨by rw [hlen]; exact h.1, fun k k' a b => h.2.1 k k' (key k a) (key k' b), fun k a => h.2.2 k (key k a)⟩
theorem bd_blind {as : List bc_A} : FrameBlind (bd_Pc sc g D as σ) := by
  intro a U gg mk h
  obtain ⟨h1, h2, h3, h4, h5, h6, h7, h8⟩ := h
  exact ⟨h1, h2, h3, (bc_E_same (u := U) (U := U.calling gg mk a) (H := U.heap) rfl h4 : bc_E g (U.calling gg mk a) U.heap), h5, h6, bd_J_al (U := U) (U' := U.calling gg mk a) (Vm.Alike.refl U.vm) h7, va_X.moved (u := U) (U := U.calling gg mk a) (Vm.Alike.refl U.vm) h8.1, h8.2.1, h8.2.2.1, by
    obtain ⟨E, cB, d1, d2, h9⟩ := h8.2.2.2
    exact ⟨E, cB, d1, d2, sj_I.go (u := U) (U := U.calling gg mk a) (Vm.Alike.refl U.vm) (Nat.le_refl _) (fun _ _ _ => rfl) h9⟩⟩
/-- a call of a law's method -/
theorem bd_s_call2 {Y' : bc_Y} {ix k : Nat} {K : bd_KT} {A : bc_C → List bd_O → Prop} (hA : ∀ D' : List bd_O, D'.map bd_two = D.map bd_two → A g D') (hYv : bc_vP Y' true) (h0 : bc_hh Y' = []) (F : bd_Fx sc g Y d p R s m args meth c c0 s0) (hl : Cond.methodLink (bc_rn (bc_own Y)) ix Y'.1 ∈ bc_W)
    (hd : decode Y.2.1 pc = .ok (.invokestatic ix, 3)) (hk : k = bc_np Y')
    (hK : bd_KO sc Y d p e R s m args below meth c Q c0 s0 A K) (h : bd_inv2 Y (bd_C2 sc d) Y' k g D pc lv st σ n K) : bd_T Y p e R s m args below meth c Q c0 s0 g D pc lv st σ n := by
  have FF := F
  obtain ⟨⟨hx, hb, hml, hts, hown, hlocks, hap, htr, hE, hz, -, hRf, hRl, hRc, hRs, -⟩, hX, hXl, hXz, hX4⟩ := F
  obtain ⟨w1, w2, w3, w4, w5, w6, w7, w8, -, w9⟩ := hYv
  intro hok H locs ls hn hH hS hlv
  have hJ : bd_J g s D H := hH.2
  unfold bd_inv2 at h
  split at h
  · rename_i as r hpop
    cases hg : (Nat.ble (n + bc_cost Y') (bc_cost Y) && (Nat.ble r.length 8 && r.all (fun v => !bc_wide v))) with
    | false => rw [hg] at h; exact h.elim
    | true =>
      rw [hg] at h
      simp only [Bool.and_eq_true] at hg
      obtain ⟨hg1, hg3, hg4⟩ := hg
      have hg1 := Nat.le_of_ble_eq_true hg1
      have hg3 := Nat.le_of_ble_eq_true hg3
      obtain ⟨l, hl1, hl2, hl3⟩ := bc_pop_e hpop
      rw [List.append_nil] at hl3
      obtain ⟨-, hM⟩ := (h : bd_Sem sc g D d Y' as σ _)
      have hcell : c0 + n + bc_cost Y' ≤ R.cells ∧ s0 + 6 * n + 6 * bc_cost Y' ≤ R.slots := ⟨by omega, by omega⟩
      have hr1 : (bc_rm d (bc_cost Y')).frames + 1 ≤ R.frames := hRf
      have hr2 : 8 + (bc_nL Y' + 11) + (bc_rm d (bc_cost Y')).locals ≤ R.locals := bc_room_ok (z := bc_nL Y') w8 hRl
      have hPc : ∀ U : State, U.heap = H → s.WarmedH U.vm → bd_Pc sc g D as σ (as.map (bc_v g)).toArray U := by
        intro U hU hW
        refine ⟨rfl, htr, by rw [hU]; exact hH.1, ?_, ?_, hok, ?_, ?_⟩
        · rw [hU]
          exact bc_E_warm hW hE (fun a ha hna => hS.2.1 a ha hna)
        · rw [hU]
          exact fun q hq => hz q (Nat.le_trans hS.1 hq)
        · rw [hU]
          exact bd_J_al hW.alike hJ
        · rw [hU]
          obtain ⟨E, cB, d1, d2, h9⟩ := hX4
          exact ⟨(va_X.moved hW.alike hX).kept (hS.2.1 _ hXl hXz), Nat.lt_of_lt_of_le hXl hS.1, hXz, E, cB, d1, d2, sj_I.go hW.alike hS.1 (fun a ha hna => hS.2.1 a ha hna) h9⟩
      have hsk : st.map (bc_v g) = (as.map (bc_v g)).reverse ++ r.map (bc_v g) := by
        rw [hl2, hl3, List.map_append, List.map_reverse, List.reverse_reverse]
      have hmem : bc_cw Y' = Cond.code Y'.1 Y'.2.1 (bc_nL Y') (bc_ret Y') := by
        show (match Y'.2.2.2.2.2.2.2.1 with | [] => _ | hh => _) = _
        rw [show Y'.2.2.2.2.2.2.2.1 = [] from h0]
      have hG : GoodIn bc_W (bc_wsm Y') := by
        rw [bc_wsm_hd h0]
        intro w hw
        rcases List.mem_cons.mp hw with e | hw
        · subst e
          rw [← hmem]
          exact ⟨w1, bc_W_good _ w1⟩
        · exact ⟨hw, bc_W_good _ hw⟩
      have hB := callB_of (R := R) (s := s) (args := args) (own := bc_rn (bc_own Y)) (index := ix) (mc := bc_cost Y') (ms := 6 * bc_cost Y') (rm := bc_rm d (bc_cost Y')) (bc_np Y') hts hG (bc_wsm_hd h0) (Eq.refl (bc_cost Y')) (Eq.refl (6 * bc_cost Y')) (hts _ w2) (hts _ hl) ⟨w4, w5, w6⟩ ⟨hr1, hr2⟩
      have hr := vx_runS (e := e) (below := below) (meth := meth) (locs := locs) (g := F0 m pc ls (st.map (bc_v g))) (As := as.map (bc_v g)) (rest := r.map (bc_v g)) (Ts := bc_W) (cc := Y.2.1) (nL := bc_nL Y) ⟨hx, hb, hml, hown, hts⟩ hM ⟨hB, hts _ w9⟩ ⟨bd_blind, hPc⟩ rfl (by rw [List.length_map, hl3, List.length_reverse, hl1, hk]) hlv.1 hsk (lv_room (bd_room ⟨hg3, hg4⟩)) hd hcell
      intro T hT X
      rcases hr T hT X with ⟨v, st₀, t, T', L, h0, X', hL, e1, e2, ⟨⟨r', D', σ', hv, hp, hm, hP1, hJ1⟩, hF⟩, st9⟩ | ⟨q, st₀, t, T', L, E, ce, h0, X', hL, e1, e2, hfalse, hce, hcv, hcl, st9⟩
      · cases hv
        obtain ⟨k1, k2, k3⟩ := vx_keep h0 e1 hS (fun q _ h => h) (fun q h => h) hL hF
        have hal : t.vm.Alike s.vm := by
          rw [← e2]
          exact X'.warmed.alike.symm
        have h5 := hK g D' (pc + 3) lv (r'.toList ++ r) σ' (n + bc_cost Y') (hA D' hm) FF hp (bd_ok_two hm hok) T'.heap (locs ++ L) ls hg1 ⟨by rw [e1]; exact hP1, by show bd_J g s D' T'.heap; rw [e1]; exact bd_J_al hal hJ1⟩ k3 hlv
        have h6 : W p (bc_l g) e R s m args below meth c T'.heap (locs ++ L) (c0 + (n + bc_cost Y')) (s0 + 6 * (n + bc_cost Y')) Q (F0 m (pc + 3) ls ((r'.toList ++ r).map (bc_v g))) := h5
        rw [bc_toL] at h6
        rw [show c0 + (n + bc_cost Y') = c0 + n + bc_cost Y' by omega, show s0 + 6 * (n + bc_cost Y') = s0 + 6 * n + 6 * bc_cost Y' by omega] at h6
        obtain ⟨t2, a1, b1⟩ := h6 T' rfl X'
        exact ⟨t2, st9 t2 a1, b1⟩
      · exact hfalse.elim
  · exact h.elim
end BDG
