theorem bc_pop_e : ∀ {a : Nat} {st acc as r : List bc_A}, bc_pop a st acc = some (as, r) → ∃ l : List bc_A, l.length = a ∧ st = l ++ r ∧ as = l.reverse ++ acc
  | 0, st, acc, as, r, h => by cases h; exact ⟨[], rfl, rfl, rfl⟩
  | a + 1, [], acc, as, r, h => by cases h
  | a + 1, v :: st, acc, as, r, h => by
    obtain ⟨l, h1, h2, h3⟩ := bc_pop_e (a := a) (st := st) (acc := v :: acc) h
    refine ⟨v :: l, by simp [h1], by simp [h2], by simp [h3]⟩
theorem bc_cl_name : ∀ {ci : Nat} {C : String} {T : u_T} {N : Nat}, bc_cl[ci]? = some (C, T, N) → C = bc_rn ci := by
  intro ci C T N h
  match ci, h with
  | 0, h => cases h; rfl
  | 1, h => cases h; rfl
  | 2, h => cases h; rfl
  | 3, h => cases h; rfl
  | 4, h => cases h; rfl
  | 5, h => cases h; rfl
  | 6, h => cases h; rfl
  | 7, h => cases h; rfl
  | 8, h => cases h; rfl
  | 9, h => cases h; rfl
  | 10, h => cases h; rfl
  | 11, h => cases h; rfl
  | k + 12, h => simp [bc_cl] at h
set_option maxRecDepth 20000 in
theorem bc_room_ok {d z L : Nat} (h30 : z ≤ 30) (h : 60 * d + 460 ≤ L) : 8 + (z + 11) + (60 * d + 400) ≤ L := by omega
section BCK
variable {p : Program} {e : Env} {R : Room} {s : State} {m : MethodId} {args : Array Value} {below : List Frame} {meth : Method} {c : Code} {Q : State → Prop} {g : bc_C} {Y : bc_Y} {d : Nat} {pc : Nat} {lv : bc_LV} {st r : List bc_A} {σ : bc_M} {n c0 s0 : Nat}
/-- what a call's outcome may be -/
theorem bc_run_go {H : Heap} {locs : List Loc} {ls : Array Slot} {cells slots mc ms : Nat} {st0 rest : List Value} {a : Array Value} {RR : Option bc_A → bc_M → Prop} {XX : Nat → bc_M → Prop}
    (hr : vx_Run p (bc_l g) e R s m args below meth c H locs cells slots mc ms (F0 m pc ls st0) rest
      ((fun (_ : Array Value) (st : State) (o : Outcome) (t : State) => (∃ (r : Option bc_A) (σ' : bc_M), o = .returned (r.map (bc_v g)) ∧ RR r σ' ∧ bc_H g σ' t.heap) ∧ va_F (bc_Z g) st t) a)
      (fun E st t => ∃ (e : Nat) (σ' : bc_M), E = bc_en e ∧ e < 6 ∧ XX e σ' ∧ bc_H g σ' t.heap ∧ va_F (bc_Z g) st t) (bc_Z g))
    (hS : va_S (bc_Z g) s.heap H locs)
    (kx : ∀ (x : Nat) (σ' : bc_M) (q : Nat) (ce : Cell) (H1 : Heap) (locs1 : List Loc), x < 6 → XX x σ' → bc_H g σ' H1 → va_S (bc_Z g) s.heap H1 locs1 → H1[q]? = some ce → ce.vm = .none → s.vm.findClass (bc_en x) = some ce.cls → vx_W p (bc_l g) e R s m args below meth c H1 locs1 (cells + mc) (slots + ms) Q (F0 m pc ls rest) q)
    (kk : ∀ (r : Option bc_A) (σ' : bc_M) (H1 : Heap) (locs1 : List Loc), RR r σ' → bc_H g σ' H1 → va_S (bc_Z g) s.heap H1 locs1 → W p (bc_l g) e R s m args below meth c H1 locs1 (cells + mc) (slots + ms) Q (F0 m (pc + 3) ls ((r.map (bc_v g)).toList ++ rest))) :
    W p (bc_l g) e R s m args below meth c H locs cells slots Q (F0 m pc ls st0) := by
  intro T hT X
  rcases hr T hT X with ⟨v, st₀, t, T', L, h0, X', hL, e1, e2, ⟨⟨r, σ', hv, hp, hb⟩, hF⟩, st⟩ | ⟨q, st₀, t, T', L, E, ce, h0, X', hL, e1, e2, ⟨x, σ', hE, hx6, hp, hb, hF⟩, hce, hcv, hcl, st⟩
  · cases hv
    obtain ⟨k1, k2, k3⟩ := vx_keep h0 e1 hS (fun q _ h => h) (fun q h => h) hL hF
    obtain ⟨t2, a1, b1⟩ := kk r σ' T'.heap (locs ++ L) hp (by rw [e1]; exact hb) k3 T' rfl X'
    exact ⟨t2, st t2 a1, b1⟩
  · obtain ⟨k1, k2, k3⟩ := vx_keep h0 e1 hS (fun q _ h => h) (fun q h => h) hL hF
    subst hE
    obtain ⟨t2, a1, b1⟩ := kx x σ' q ce T'.heap (locs ++ L) hx6 hp (by rw [e1]; exact hb) k3 (by rw [e1]; exact hce) hcv hcl T' rfl X'
    exact ⟨t2, st.trans a1, b1⟩
/-- an exception stands at pc -/
noncomputable def bc_TX (g : bc_C) (Y : bc_Y) (p : Program) (e : Env) (R : Room) (s : State) (m : MethodId) (args : Array Value) (below : List Frame) (meth : Method) (c : Code) (Q : State → Prop) (c0 s0 : Nat) (pc : Nat) (lv : bc_LV) (n : Nat) (x : Nat) (σ : bc_M) : Prop :=
  ∀ (H : Heap) (locs : List Loc) (ls : Array Slot) (rest : List Value) (q : Nat) (ce : Cell), n ≤ bc_cost Y → bc_H g σ H → va_S (bc_Z g) s.heap H locs → lv_has ls (bc_nL Y) (bc_lv g lv) → H[q]? = some ce → ce.vm = .none → s.vm.findClass (bc_en x) = some ce.cls →
    vx_W p (bc_l g) e R s m args below meth c H locs (c0 + n) (s0 + 6 * n) Q (F0 m pc ls rest) q
theorem bc_blind {as : List bc_A} {σ : bc_M} : FrameBlind (fun v U => v = (as.map (bc_v g)).toArray ∧ bc_ap g ∧ (bc_l g).stackTraces = false ∧ bc_H g σ U.heap ∧ bc_E g U U.heap ∧ bc_z g ≤ U.heap.size) := by
  intro a U gg mk h
  obtain ⟨h1, h2, h3, h4, h5, h6⟩ := h
  exact ⟨h1, h2, h3, h4, (bc_E_same (u := U) (U := U.calling gg mk a) (H := U.heap) rfl h5 : bc_E g (U.calling gg mk a) U.heap), h6⟩
theorem bc_cat {r : List bc_A} (h : r.length ≤ 4) : ((r.map (bc_v g)).map fun v => v.category).sum ≤ 8 := by
  have h1 : ∀ l : List bc_A, ((l.map (bc_v g)).map fun v => v.category).sum ≤ 2 * l.length := by
    intro l
    induction l with
    | nil => simp
    | cons a l ih =>
      simp only [List.map_cons, List.sum_cons, List.length_cons]
      have : (bc_v g a).category ≤ 2 := by rw [bc_v_wide]; split <;> omega
      omega
  have := h1 r
  omega
theorem bc_wsm_hd {Y' : bc_Y} (h : bc_hh Y' = []) : bc_wsm Y' = Cond.code Y'.1 Y'.2.1 (bc_nL Y') (bc_ret Y') :: bc_W := by unfold bc_wsm; rw [h]
theorem bc_wsm_hdW {Y' : bc_Y} (h : bc_hh Y' ≠ []) : bc_wsm Y' = Cond.codeWith Y'.1 Y'.2.1 (bc_nL Y') (bc_ret Y') (bc_hh Y') :: bc_W ∧ bc_cw Y' = Cond.codeWith Y'.1 Y'.2.1 (bc_nL Y') (bc_ret Y') (bc_hh Y') := by
  unfold bc_wsm bc_cw
  cases hq : bc_hh Y' with
  | nil => exact absurd hq h
  | cons a l =>
    rw [show Y'.2.2.2.2.2.2.2.1 = a :: l from hq]
    exact ⟨rfl, rfl⟩
theorem bc_toL (r : Option bc_A) (rest : List bc_A) : ((r.toList ++ rest).map (bc_v g)) = (r.map (bc_v g)).toList ++ rest.map (bc_v g) := by cases r <;> rfl
/-- a call of a plain method -/
theorem bc_s_inv {Y' : bc_Y} {fg : Bool} {ix k : Nat} {st : List bc_A} {KK : bc_KT} {XX : Nat → bc_LV → Nat → Nat → bc_M → Prop} (hYv : bc_vP Y' fg) (hcw0 : bc_hh Y' = [] ∨ fg = true) (F : bc_Fx g Y d p R s m args meth c c0 s0)
    (hl : Cond.methodLink (bc_rn (bc_own Y)) ix Y'.1 ∈ bc_W)
    (hst : (fg = true ∧ decode Y.2.1 pc = .ok (.invokestatic ix, 3) ∧ k = bc_np Y') ∨ (fg = false ∧ decode Y.2.1 pc = .ok (.invokevirtual ix, 3) ∧ k = bc_np Y' + 1))
    (hK : ∀ pc lv st σ n, KK pc lv st σ n → bc_T g Y p e R s m args below meth c Q c0 s0 pc lv st σ n)
    (hX : ∀ pc lv n x σ, XX pc lv n x σ → x < 6 → bc_TX g Y p e R s m args below meth c Q c0 s0 pc lv n x σ)
    (h : bc_inv Y (fun pc lv n Y' as σ k => bc_Sem g d Y' as σ k (XX pc lv n)) Y' k pc lv st σ n KK (if fg then (fun _ => true) else bc_rcv (bc_own Y'))) :
    bc_T g Y p e R s m args below meth c Q c0 s0 pc lv st σ n := by
  obtain ⟨hx, hb, hml, hts, hown, hlocks, hap, htr, hE, hz, -, hRf, hRl, hRc, hRs, -⟩ := F
  obtain ⟨w1, w2, w3, w4, w5, w6, w7, w8, -, w9⟩ := hYv
  unfold bc_inv at h
  split at h
  · rename_i as r hpop
    obtain ⟨l, hl1, hl2, hl3⟩ := bc_pop_e hpop
    rw [List.append_nil] at hl3
    have hok : (if fg then (fun _ => true) else bc_rcv (bc_own Y')) as = (if fg then true else bc_rcv (bc_own Y') as) := by cases fg <;> rfl
    rw [hok] at h
    cases hg : (Nat.ble (n + bc_cost Y') (bc_cost Y) && (if fg then true else bc_rcv (bc_own Y') as) && Nat.ble r.length 4) with
    | false => rw [hg] at h; exact h.elim
    | true =>
      rw [hg] at h
      simp only [Bool.and_eq_true] at hg
      obtain ⟨⟨hg1, hg2⟩, hg3⟩ := hg
      have hg1 := Nat.le_of_ble_eq_true hg1
      have hg3 := Nat.le_of_ble_eq_true hg3
      dsimp only [cond] at h
      obtain ⟨-, hM⟩ := h
      intro H locs ls hn hH hS hlv
      have hcell : c0 + n + bc_cost Y' ≤ R.cells ∧ s0 + 6 * n + 6 * bc_cost Y' ≤ R.slots := ⟨by omega, by omega⟩
      have hr1 : (bc_rm d (bc_cost Y')).frames + 1 ≤ R.frames := hRf
      have hr2 : 8 + (bc_nL Y' + 11) + (bc_rm d (bc_cost Y')).locals ≤ R.locals := bc_room_ok (z := bc_nL Y') w8 hRl
      have hPc : ∀ U : State, U.heap = H → s.WarmedH U.vm → (fun (v : Array Value) (U : State) => v = (as.map (bc_v g)).toArray ∧ bc_ap g ∧ (bc_l g).stackTraces = false ∧ bc_H g σ U.heap ∧ bc_E g U U.heap ∧ bc_z g ≤ U.heap.size) (as.map (bc_v g)).toArray U := by
        intro U hU hW
        refine ⟨rfl, hap, htr, by rw [hU]; exact hH, ?_, ?_⟩
        · rw [hU]
          exact bc_E_warm hW hE (fun a ha hna => hS.2.1 a ha hna)
        · rw [hU]
          exact Nat.le_trans hz hS.1
      have hgo : ∀ {st0 : List Value} {a : Array Value}, vx_Run p (bc_l g) e R s m args below meth c H locs (c0 + n) (s0 + 6 * n) (bc_cost Y') (6 * bc_cost Y') (F0 m pc ls st0) (r.map (bc_v g))
          ((fun (_ : Array Value) (st : State) (o : Outcome) (t : State) => (∃ (r' : Option bc_A) (σ' : bc_M), o = .returned (r'.map (bc_v g)) ∧ KK (pc + 3) lv (r'.toList ++ r) σ' (n + bc_cost Y') ∧ bc_H g σ' t.heap) ∧ va_F (bc_Z g) st t) a)
          (fun E st t => ∃ (e : Nat) (σ' : bc_M), E = bc_en e ∧ e < 6 ∧ XX pc lv (n + bc_cost Y') e σ' ∧ bc_H g σ' t.heap ∧ va_F (bc_Z g) st t) (bc_Z g) →
          W p (bc_l g) e R s m args below meth c H locs (c0 + n) (s0 + 6 * n) Q (F0 m pc ls st0) := by
        intro st0 a hr
        refine bc_run_go (a := a) (RR := fun r' σ' => KK (pc + 3) lv (r'.toList ++ r) σ' (n + bc_cost Y')) (XX := XX pc lv (n + bc_cost Y')) hr hS (fun x σ' q ce H1 locs1 hx6 hxx hH1 hS1 hq hv hcl => ?_) (fun r' σ' H1 locs1 hkk hH1 hS1 => ?_)
        · have := hX pc lv (n + bc_cost Y') x σ' hxx hx6 H1 locs1 ls (r.map (bc_v g)) q ce hg1 hH1 hS1 hlv hq hv hcl
          rw [show c0 + n + bc_cost Y' = c0 + (n + bc_cost Y') by omega, show s0 + 6 * n + 6 * bc_cost Y' = s0 + 6 * (n + bc_cost Y') by omega]
          exact this
        · have := hK _ _ _ _ _ hkk H1 locs1 ls hg1 hH1 hS1 hlv
          rw [bc_toL] at this
          rw [show c0 + n + bc_cost Y' = c0 + (n + bc_cost Y') by omega, show s0 + 6 * n + 6 * bc_cost Y' = s0 + 6 * (n + bc_cost Y') by omega]
          exact this
      rcases hst with ⟨hf, hd, hk⟩ | ⟨hf, hd, hk⟩
      · rw [hf] at w9
        have hsk : st.map (bc_v g) = (as.map (bc_v g)).reverse ++ r.map (bc_v g) := by
          rw [hl2, hl3, List.map_append, List.map_reverse, List.reverse_reverse]
        by_cases h0 : bc_hh Y' = []
        · have hmem : bc_cw Y' = Cond.code Y'.1 Y'.2.1 (bc_nL Y') (bc_ret Y') := by
            show (match Y'.2.2.2.2.2.2.2.1 with | [] => _ | hh => _) = _
            rw [show Y'.2.2.2.2.2.2.2.1 = [] from h0]
          have hG : GoodIn bc_W (bc_wsm Y') := by
            rw [bc_wsm_hd h0]
            intro w hw
            rcases List.mem_cons.mp hw with e | hw
            · subst e
              rw [← hmem]
              exact ⟨w1, bc_W_good _ w1⟩
            · exact ⟨hw, bc_W_good _ hw⟩
          have hB := callB_of (R := R) (s := s) (args := args) (own := bc_rn (bc_own Y)) (index := ix) (mc := bc_cost Y') (ms := 6 * bc_cost Y') (rm := bc_rm d (bc_cost Y')) (bc_np Y') hts hG (bc_wsm_hd h0) (Eq.refl (bc_cost Y')) (Eq.refl (6 * bc_cost Y')) (hts _ w2) (hts _ hl) ⟨w4, w5, w6⟩ ⟨hr1, hr2⟩
          exact hgo (a := #[]) (vx_runS (As := as.map (bc_v g)) (rest := r.map (bc_v g)) (Ts := bc_W) (cc := Y.2.1) (nL := bc_nL Y) ⟨hx, hb, hml, hown, hts⟩ hM ⟨hB, hts _ w9⟩ ⟨bc_blind, hPc⟩ rfl (by rw [List.length_map, hl3, List.length_reverse, hl1, hk]) hlv.1 hsk (lv_room (bc_cat hg3)) hd hcell)
        · obtain ⟨q1, q2⟩ := bc_wsm_hdW h0
          have hin : Cond.codeWith Y'.1 Y'.2.1 (bc_nL Y') (bc_ret Y') (bc_hh Y') ∈ bc_W := by rw [← q2]; exact w1
          have hG : GoodIn bc_W (bc_wsm Y') := by
            rw [q1]
            intro w hw
            rcases List.mem_cons.mp hw with e | hw
            · subst e
              exact ⟨hin, bc_W_good _ hin⟩
            · exact ⟨hw, bc_W_good _ hw⟩
          exact hgo (a := #[]) (vx_runSX (hh := bc_hh Y') (bytes := Y'.2.1) (maxL := bc_nL Y') (ret := bc_ret Y') (n := bc_np Y') (own := bc_rn (bc_own Y)) (index := ix) (As := as.map (bc_v g)) (rest := r.map (bc_v g)) (Ts := bc_W) (cc := Y.2.1) (nL := bc_nL Y) ⟨hx, hb, hml, hown, hts⟩ hM ⟨⟨rfl, rfl, hr1, hr2, pay_in hts hG, by rw [q1]; exact List.mem_cons_self⟩, hts _ hin, hts _ w2, ⟨w4, w5⟩, fun sig h => by rw [h] at w6; exact (Option.some.inj w6).symm, hts _ hl, hts _ w9⟩ ⟨bc_blind, hPc⟩ rfl (by rw [List.length_map, hl3, List.length_reverse, hl1, hk]) hlv.1 hsk (lv_room (bc_cat hg3)) hd hcell)
      · rw [hf] at w9
        have h0 : bc_hh Y' = [] := by
          rcases hcw0 with h0 | h0
          · exact h0
          · rw [hf] at h0; cases h0
        have hmem : bc_cw Y' = Cond.code Y'.1 Y'.2.1 (bc_nL Y') (bc_ret Y') := by
          show (match Y'.2.2.2.2.2.2.2.1 with | [] => _ | hh => _) = _
          rw [show Y'.2.2.2.2.2.2.2.1 = [] from h0]
        have hG : GoodIn bc_W (bc_wsm Y') := by
          rw [bc_wsm_hd h0]
          intro w hw
          rcases List.mem_cons.mp hw with e | hw
          · subst e
            rw [← hmem]
            exact ⟨w1, bc_W_good _ w1⟩
          · exact ⟨hw, bc_W_good _ hw⟩
        have hB := callB_of (R := R) (s := s) (args := args) (own := bc_rn (bc_own Y)) (index := ix) (mc := bc_cost Y') (ms := 6 * bc_cost Y') (rm := bc_rm d (bc_cost Y')) (bc_np Y') hts hG (bc_wsm_hd h0) (Eq.refl (bc_cost Y')) (Eq.refl (6 * bc_cost Y')) (hts _ w2) (hts _ hl) ⟨w4, w5, w6⟩ ⟨hr1, hr2⟩
        obtain ⟨w9, w10⟩ := w9
        rw [if_neg (by rw [hf]; decide)] at hg2
        unfold bc_rcv at hg2
        obtain ⟨rv, as', has⟩ : ∃ (rv : bc_A) (as' : List bc_A), as = rv :: as' := by
          cases as with
          | nil => cases hg2
          | cons a b => exact ⟨a, b, rfl⟩
        subst has
        have hrv : ∃ kk : Nat, rv = bc_R kk ∧ ∃ fs, bc_sh kk = some (.inl (bc_own Y', fs)) := by
          split at hg2
          · rename_i kk _ heq
            cases heq
            split at hg2
            · rename_i ci fs hsh
              have e := Nat.eq_of_beq_eq_true hg2
              exact ⟨kk, rfl, fs, by rw [hsh, e]⟩
            · cases hg2
          · cases hg2
        obtain ⟨kk, rfl, fs, hsh⟩ := hrv
        have hck := bc_sh_ok (bc_sh_lt hsh)
        unfold bc_shc at hck
        rw [hsh] at hck
        dsimp only at hck
        obtain ⟨C0, T0, N0, hcl⟩ : ∃ C0 T0 N0, bc_cl[bc_own Y']? = some (C0, T0, N0) := by
          split at hck
          · rename_i a b N0 h9; exact ⟨a, b, N0, h9⟩
          · cases hck
        have hname : C0 = bc_rn (bc_own Y') := bc_cl_name hcl
        have hrecv := va_recv (D := bc_Dd g) (cl := bc_cl) (ws := bc_ws g σ) (tys := bc_tys g) (a := bc_ad g kk) (q0 := kk) (fs := bc_fs g σ kk fs) hE.1 hH hcl (by rw [bc_ws_at (bc_sh_lt hsh), bc_e_obj hsh])
        rw [hname, ← w7] at hrecv
        refine hgo (a := #[]) (vx_runV (As := as'.map (bc_v g)) (rest := r.map (bc_v g)) (Ts := bc_W) (cc := Y.2.1) (nL := bc_nL Y) (C := Y'.1.cls) (b := bc_ad g kk) ⟨hx, hb, hml, hown, hts⟩ hM ⟨hB, hts _ w9, hts _ w10⟩ ⟨bc_blind, hrecv, hPc⟩ rfl ?_ hlv.1 ?_ (lv_room (bc_cat hg3)) hd hcell)
        · have h9 := congrArg List.length hl3
          rw [List.length_reverse, hl1, hk, List.length_cons] at h9
          rw [List.length_map]
          omega
        · show st.map (bc_v g) = _
          have h9 : l = as'.reverse ++ [bc_R kk] := by
            have := congrArg List.reverse hl3
            rw [List.reverse_reverse, List.reverse_cons] at this
            exact this.symm
          rw [hl2, h9, List.map_append, List.map_append, List.map_reverse]
          simp [bc_v]
  · exact h.elim
end BCK
