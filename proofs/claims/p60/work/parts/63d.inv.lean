section BDV
variable {p : Program} {e : Env} {R : Room} {s : State} {m : MethodId} {args : Array Value} {below : List Frame} {meth : Method} {c : Code} {Q : State → Prop} {g : bc_C} {Y : bc_Y} {d : Nat} {pc : Nat} {lv : bc_LV} {st r : List bc_A} {σ : bc_M} {n c0 s0 : Nat}
theorem bd_cat : ∀ {r : List bc_A}, r.all (fun v => !bc_wide v) = true → ((r.map (bc_v g)).map fun v => v.category).sum = r.length
  | [], _ => rfl
  | a :: l, h => by
    rw [List.all_cons, Bool.and_eq_true] at h
    have h1 := bd_cat (r := l) h.2
    have h2 : bc_wide a = false := by simpa using h.1
    simp only [List.map_cons, List.sum_cons, List.length_cons, h1]
    rw [bc_v_wide, h2]
    simp only [Bool.false_eq_true, if_false]
    omega
theorem bd_room {r : List bc_A} (h : r.length ≤ 8 ∧ r.all (fun v => !bc_wide v) = true) : ((r.map (bc_v g)).map fun v => v.category).sum ≤ 8 := by
  rw [bd_cat h.2]
  exact h.1
/-- what a call at other bounds leaves -/
theorem bd_run_go {Z : Nat → Prop} {H : Heap} {locs : List Loc} {ls : Array Slot} {cells slots mc ms : Nat} {st0 rest : List Value} {a : Array Value} {RR : Option bc_A → bc_M → Prop}
    (hr : vx_Run p (bc_l g) e R s m args below meth c H locs cells slots mc ms (F0 m pc ls st0) rest
      ((fun (_ : Array Value) (st : State) (o : Outcome) (t : State) => (∃ (r : Option bc_A) (σ' : bc_M), o = .returned (r.map (bc_v g)) ∧ RR r σ' ∧ bc_H (bd_gq g Z (fun _ => True)) σ' t.heap) ∧ va_F Z st t) a)
      (fun E st t => ∃ (e : Nat) (σ' : bc_M), E = bc_en e ∧ e < 6 ∧ False ∧ bc_H (bd_gq g Z (fun _ => True)) σ' t.heap ∧ va_F Z st t) Z)
    (hZ : ∀ q, Z q → bc_Z g q) (hS : va_S (bc_Z g) s.heap H locs)
    (kk : ∀ (r : Option bc_A) (σ' : bc_M) (H1 : Heap) (locs1 : List Loc), RR r σ' → va_P (bc_Dd g) bc_cl (bc_ws g σ') H1 → va_S (bc_Z g) s.heap H1 locs1 → (∀ q : Nat, q < H.size → ¬ Z q → H1[q]? = H[q]?) → H.size ≤ H1.size → W p (bc_l g) e R s m args below meth c H1 locs1 (cells + mc) (slots + ms) Q (F0 m (pc + 3) ls ((r.map (bc_v g)).toList ++ rest))) :
    W p (bc_l g) e R s m args below meth c H locs cells slots Q (F0 m pc ls st0) := by
  intro T hT X
  rcases hr T hT X with ⟨v, st₀, t, T', L, h0, X', hL, e1, e2, ⟨⟨r, σ', hv, hp, hb⟩, hF⟩, st⟩ | ⟨q, st₀, t, T', L, E, ce, h0, X', hL, e1, e2, ⟨x, σ', hE, hx6, hp, hb, hF⟩, hce, hcv, hcl, st⟩
  · cases hv
    obtain ⟨k1, k2, k3⟩ := vx_keep h0 e1 hS (fun q _ h => hZ q h) (fun q h => hZ q h) hL hF
    obtain ⟨t2, a1, b1⟩ := kk r σ' T'.heap (locs ++ L) hp (by rw [e1]; exact hb.1) k3 k2 k1 T' rfl X'
    exact ⟨t2, st t2 a1, b1⟩
  · exact hp.elim
/-- what a call may change: the class's cells, and what is new -/
def bd_Z (g : bc_C) (N : Nat) : Nat → Prop := fun q => (∃ k : Nat, k < 218 ∧ q = bc_ad g k) ∨ N ≤ q
/-- A CALL OF THE CLASS: her cells alone change -/
theorem bd_s_inv {Y' : bc_Y} {fg : Bool} {ix k : Nat} {as : List bc_A} {RR : Option bc_A → bc_M → Prop} {H : Heap} {locs : List Loc} {ls : Array Slot} (hYv : bc_vP Y' fg) (hcw0 : bc_hh Y' = [] ∨ fg = true) (F : bc_Fx g Y d p R s m args meth c c0 s0)
    (hl : Cond.methodLink (bc_rn (bc_own Y)) ix Y'.1 ∈ bc_W)
    (hst : (fg = true ∧ decode Y.2.1 pc = .ok (.invokestatic ix, 3) ∧ k = bc_np Y') ∨ (fg = false ∧ decode Y.2.1 pc = .ok (.invokevirtual ix, 3) ∧ k = bc_np Y' + 1))
    (hpop : bc_pop k st [] = some (as, r)) (hg1 : n + bc_cost Y' ≤ bc_cost Y) (hg2 : (if fg then true else bc_rcv (bc_own Y') as) = true) (hg3 : r.length ≤ 8 ∧ r.all (fun v => !bc_wide v) = true)
    (hM0 : ∀ Z : Nat → Prop, bc_Sem (bd_gq g Z (fun _ => True)) d Y' as σ RR (fun _ _ => False))
    (hP : va_P (bc_Dd g) bc_cl (bc_ws g σ) H) (hS : va_S (bc_Z g) s.heap H locs) (hlv : lv_has ls (bc_nL Y) (bc_lv g lv))
    (kk : ∀ (r' : Option bc_A) (σ' : bc_M) (H1 : Heap) (locs1 : List Loc), RR r' σ' → va_P (bc_Dd g) bc_cl (bc_ws g σ') H1 → va_S (bc_Z g) s.heap H1 locs1 → (∀ q : Nat, q < H.size → ¬ bd_Z g H.size q → H1[q]? = H[q]?) → H.size ≤ H1.size →
      W p (bc_l g) e R s m args below meth c H1 locs1 (c0 + (n + bc_cost Y')) (s0 + 6 * (n + bc_cost Y')) Q (F0 m (pc + 3) ls ((r'.toList ++ r).map (bc_v g)))) :
    W p (bc_l g) e R s m args below meth c H locs (c0 + n) (s0 + 6 * n) Q (F0 m pc ls (st.map (bc_v g))) := by
  obtain ⟨hx, hb, hml, hts, hown, hlocks, hap, htr, hE, hz, -, hRf, hRl, hRc, hRs, -⟩ := F
  obtain ⟨w1, w2, w3, w4, w5, w6, w7, w8, -, w9⟩ := hYv
  obtain ⟨l, hl1, hl2, hl3⟩ := bc_pop_e hpop
  rw [List.append_nil] at hl3
  have hZ : ∀ q, bd_Z g H.size q → bc_Z g q := by
    intro q hq
    rcases hq with ⟨k, hk, rfl⟩ | hq
    · exact hap.2 k hk
    · exact hz q (Nat.le_trans hS.1 hq)
  obtain ⟨-, hM⟩ := hM0 (bd_Z g H.size)
  have hcell : c0 + n + bc_cost Y' ≤ R.cells ∧ s0 + 6 * n + 6 * bc_cost Y' ≤ R.slots := ⟨by omega, by omega⟩
  have hr1 : (bc_rm d (bc_cost Y')).frames + 1 ≤ R.frames := hRf
  have hr2 : 8 + (bc_nL Y' + 11) + (bc_rm d (bc_cost Y')).locals ≤ R.locals := bc_room_ok (z := bc_nL Y') w8 hRl
  have hPc : ∀ U : State, U.heap = H → s.WarmedH U.vm → (fun (v : Array Value) (U : State) => v = (as.map (bc_v (bd_gq g (bd_Z g H.size) (fun _ => True)))).toArray ∧ bc_ap (bd_gq g (bd_Z g H.size) (fun _ => True)) ∧ (bc_l (bd_gq g (bd_Z g H.size) (fun _ => True))).stackTraces = false ∧ bc_H (bd_gq g (bd_Z g H.size) (fun _ => True)) σ U.heap ∧ bc_E (bd_gq g (bd_Z g H.size) (fun _ => True)) U U.heap ∧ bc_zz (bd_gq g (bd_Z g H.size) (fun _ => True)) U.heap.size ∧ ∀ H1 : Heap, bc_jh (bd_gq g (bd_Z g H.size) (fun _ => True)) H1) (as.map (bc_v g)).toArray U := by
    intro U hU hW
    refine ⟨rfl, ⟨hap.1, fun i hi => Or.inl ⟨i, hi, rfl⟩⟩, htr, ⟨by rw [hU]; exact hP, trivial⟩, bc_E_narrow ?_ hZ, ?_, fun _ => trivial⟩
    · rw [hU]
      exact bc_E_warm hW hE (fun a ha hna => hS.2.1 a ha hna)
    · intro q hq
      rw [hU] at hq
      exact Or.inr hq
  have hgo : ∀ {st0 : List Value} {a : Array Value}, vx_Run p (bc_l g) e R s m args below meth c H locs (c0 + n) (s0 + 6 * n) (bc_cost Y') (6 * bc_cost Y') (F0 m pc ls st0) (r.map (bc_v g))
      ((fun (_ : Array Value) (st : State) (o : Outcome) (t : State) => (∃ (r' : Option bc_A) (σ' : bc_M), o = .returned (r'.map (bc_v g)) ∧ RR r' σ' ∧ bc_H (bd_gq g (bd_Z g H.size) (fun _ => True)) σ' t.heap) ∧ va_F (bd_Z g H.size) st t) a)
      (fun E st t => ∃ (e : Nat) (σ' : bc_M), E = bc_en e ∧ e < 6 ∧ False ∧ bc_H (bd_gq g (bd_Z g H.size) (fun _ => True)) σ' t.heap ∧ va_F (bd_Z g H.size) st t) (bd_Z g H.size) →
      W p (bc_l g) e R s m args below meth c H locs (c0 + n) (s0 + 6 * n) Q (F0 m pc ls st0) := by
    intro st0 a hr
    refine bd_run_go (a := a) (RR := RR) hr hZ hS (fun r' σ' H1 locs1 hkk hH1 hS1 hk1 hz1 => ?_)
    have := kk r' σ' H1 locs1 hkk hH1 hS1 hk1 hz1
    rw [bc_toL] at this
    rw [show c0 + n + bc_cost Y' = c0 + (n + bc_cost Y') by omega, show s0 + 6 * n + 6 * bc_cost Y' = s0 + 6 * (n + bc_cost Y') by omega]
    exact this
  rcases hst with ⟨hf, hd, hk⟩ | ⟨hf, hd, hk⟩
  · rw [hf] at w9
    have hsk : st.map (bc_v g) = (as.map (bc_v g)).reverse ++ r.map (bc_v g) := by
      rw [hl2, hl3, List.map_append, List.map_reverse, List.reverse_reverse]
    by_cases h0 : bc_hh Y' = []
    · have hmem : bc_cw Y' = Cond.code Y'.1 Y'.2.1 (bc_nL Y') (bc_ret Y') := by
        show (match Y'.2.2.2.2.2.2.2.1 with | [] => _ | hh => _) = _
        rw [show Y'.2.2.2.2.2.2.2.1 = [] from h0]
      have hG : GoodIn bc_W (bc_wsm Y') := by
        rw [bc_wsm_hd h0]
        intro w hw
        rcases List.mem_cons.mp hw with e | hw
        · subst e
          rw [← hmem]
          exact ⟨w1, bc_W_good _ w1⟩
        · exact ⟨hw, bc_W_good _ hw⟩
      have hB := callB_of (R := R) (s := s) (args := args) (own := bc_rn (bc_own Y)) (index := ix) (mc := bc_cost Y') (ms := 6 * bc_cost Y') (rm := bc_rm d (bc_cost Y')) (bc_np Y') hts hG (bc_wsm_hd h0) (Eq.refl (bc_cost Y')) (Eq.refl (6 * bc_cost Y')) (hts _ w2) (hts _ hl) ⟨w4, w5, w6⟩ ⟨hr1, hr2⟩
      exact hgo (a := #[]) (vx_runS (As := as.map (bc_v g)) (rest := r.map (bc_v g)) (Ts := bc_W) (cc := Y.2.1) (nL := bc_nL Y) ⟨hx, hb, hml, hown, hts⟩ hM ⟨hB, hts _ w9⟩ ⟨bc_blind, hPc⟩ rfl (by rw [List.length_map, hl3, List.length_reverse, hl1, hk]) hlv.1 hsk (lv_room (bd_room hg3)) hd hcell)
    · obtain ⟨q1, q2⟩ := bc_wsm_hdW h0
      have hin : Cond.codeWith Y'.1 Y'.2.1 (bc_nL Y') (bc_ret Y') (bc_hh Y') ∈ bc_W := by rw [← q2]; exact w1
      have hG : GoodIn bc_W (bc_wsm Y') := by
        rw [q1]
        intro w hw
        rcases List.mem_cons.mp hw with e | hw
        · subst e
          exact ⟨hin, bc_W_good _ hin⟩
        · exact ⟨hw, bc_W_good _ hw⟩
      exact hgo (a := #[]) (vx_runSX (hh := bc_hh Y') (bytes := Y'.2.1) (maxL := bc_nL Y') (ret := bc_ret Y') (n := bc_np Y') (own := bc_rn (bc_own Y)) (index := ix) (As := as.map (bc_v g)) (rest := r.map (bc_v g)) (Ts := bc_W) (cc := Y.2.1) (nL := bc_nL Y) ⟨hx, hb, hml, hown, hts⟩ hM ⟨⟨rfl, rfl, hr1, hr2, pay_in hts hG, by rw [q1]; exact List.mem_cons_self⟩, hts _ hin, hts _ w2, ⟨w4, w5⟩, fun sig h => by rw [h] at w6; exact (Option.some.inj w6).symm, hts _ hl, hts _ w9⟩ ⟨bc_blind, hPc⟩ rfl (by rw [List.length_map, hl3, List.length_reverse, hl1, hk]) hlv.1 hsk (lv_room (bd_room hg3)) hd hcell)
  · rw [hf] at w9
    have h0 : bc_hh Y' = [] := by
      rcases hcw0 with h0 | h0
      · exact h0
      · rw [hf] at h0; cases h0
    have hmem : bc_cw Y' = Cond.code Y'.1 Y'.2.1 (bc_nL Y') (bc_ret Y') := by
      show (match Y'.2.2.2.2.2.2.2.1 with | [] => _ | hh => _) = _
      rw [show Y'.2.2.2.2.2.2.2.1 = [] from h0]
    have hG : GoodIn bc_W (bc_wsm Y') := by
      rw [bc_wsm_hd h0]
      intro w hw
      rcases List.mem_cons.mp hw with e | hw
      · subst e
        rw [← hmem]
        exact ⟨w1, bc_W_good _ w1⟩
      · exact ⟨hw, bc_W_good _ hw⟩
    have hB := callB_of (R := R) (s := s) (args := args) (own := bc_rn (bc_own Y)) (index := ix) (mc := bc_cost Y') (ms := 6 * bc_cost Y') (rm := bc_rm d (bc_cost Y')) (bc_np Y') hts hG (bc_wsm_hd h0) (Eq.refl (bc_cost Y')) (Eq.refl (6 * bc_cost Y')) (hts _ w2) (hts _ hl) ⟨w4, w5, w6⟩ ⟨hr1, hr2⟩
    obtain ⟨w9, w10⟩ := w9
    rw [if_neg (by rw [hf]; decide)] at hg2
    unfold bc_rcv at hg2
    obtain ⟨rv, as', has⟩ : ∃ (rv : bc_A) (as' : List bc_A), as = rv :: as' := by
      cases as with
      | nil => cases hg2
      | cons a b => exact ⟨a, b, rfl⟩
    subst has
    have hrv : ∃ kk : Nat, rv = bc_R kk ∧ ∃ fs, bc_sh kk = some (.inl (bc_own Y', fs)) := by
      split at hg2
      · rename_i kk _ heq
        cases heq
        split at hg2
        · rename_i ci fs hsh
          have e := Nat.eq_of_beq_eq_true hg2
          exact ⟨kk, rfl, fs, by rw [hsh, e]⟩
        · cases hg2
      · cases hg2
    obtain ⟨kk', rfl, fs, hsh⟩ := hrv
    have hck := bc_sh_ok (bc_sh_lt hsh)
    unfold bc_shc at hck
    rw [hsh] at hck
    dsimp only at hck
    obtain ⟨C0, T0, N0, hcl⟩ : ∃ C0 T0 N0, bc_cl[bc_own Y']? = some (C0, T0, N0) := by
      split at hck
      · rename_i a b N0 h9; exact ⟨a, b, N0, h9⟩
      · cases hck
    have hname : C0 = bc_rn (bc_own Y') := bc_cl_name hcl
    have hrecv := va_recv (D := bc_Dd g) (cl := bc_cl) (ws := bc_ws g σ) (tys := bc_tys g) (a := bc_ad g kk') (q0 := kk') (fs := bc_fs g σ kk' fs) hE.1 hP hcl (by rw [bc_ws_at (bc_sh_lt hsh), bc_e_obj hsh])
    rw [hname, ← w7] at hrecv
    refine hgo (a := #[]) (vx_runV (As := as'.map (bc_v g)) (rest := r.map (bc_v g)) (Ts := bc_W) (cc := Y.2.1) (nL := bc_nL Y) (C := Y'.1.cls) (b := bc_ad g kk') ⟨hx, hb, hml, hown, hts⟩ hM ⟨hB, hts _ w9, hts _ w10⟩ ⟨bc_blind, hrecv, hPc⟩ rfl ?_ hlv.1 ?_ (lv_room (bd_room hg3)) hd hcell)
    · have h9 := congrArg List.length hl3
      rw [List.length_reverse, hl1, hk, List.length_cons] at h9
      rw [List.length_map]
      omega
    · show st.map (bc_v g) = _
      have h9 : l = as'.reverse ++ [bc_R kk'] := by
        have := congrArg List.reverse hl3
        rw [List.reverse_reverse, List.reverse_cons] at this
        exact this.symm
      rw [hl2, h9, List.map_append, List.map_append, List.map_reverse]
      simp [bc_v]
end BDV
