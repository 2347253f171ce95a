/-! THE CLAIM OUT OF ONE WALK OF THE LAW'S BODY. Your part is whole_start (and what it stands on); all else here is the same for every law, but numbers. -/
def R_law : String := "BridgeChapelLaw"
def lw_P (b : Addr) (xs : List Int32) (args : Array Value) (s : State) : Prop := args = #[.ref b] ∧ s.IntsAt b xs ∧ xs.length ≤ 260 ∧ (Jvm.Cond.and given_1 narrow_1).before args s = true
/-- what a walk over the start with the record d0 says of its end, said of the start itself -/
theorem lw_closed {s t : State} {o : Outcome} {d0 : Drawn} {L : List Loc} {k n : Nat} (hd0 : s.drawn.sameBut d0 lw_cs) (hv : ∃ v, o = .returned v) (hW : (s.setDrawn d0).WarmedH t.vm) (hs : (s.setDrawn d0).sameButNew ({ t with vm := s.vm } : State) L k n) : State.butDraws s t lw_cs (fun t1 => Framed s o t1 L k n) := by
  have h2 : t.drawn = d0 := congrArg State.drawn hs.1
  refine ⟨⟨hv, hW, State.sameButNew.setDrawn hs s.drawn⟩, ?_, by decide⟩
  rw [h2]
  exact hd0
def lw_Q (_ : Array Value) (s : State) (o : Outcome) (t : State) : Prop := o = .returned (some (.int 1)) ∧ State.butDraws s t lw_cs (fun t1 => Framed s o t1 [] 600390 7286520)
def lw_Z (below : List Frame) (a : Array Value) (s : State) : State → Prop := fun t => ∃ o, t.status = .running ∧ Ended t below o ∧ lw_Q a s o t
/-- the law's own end, with 1 on the stack, nothing written that was there before, its room as the claim has it; d0: the record of draws at this point (at the entry s.drawn: begin with 'refine W.base ?_' and 'have hd0 := Drawn.sameBut.refl s.drawn lw_cs') -/
theorem lw_ret {p : Program} {l : Launch} {e : Env} {s : State} {m : MethodId} {below : List Frame} {meth : Method} {c : Code} {b : Nat} {d0 : Drawn} (hd0 : s.drawn.sameBut d0 lw_cs) (hx : p.tables.exec = Jvm.exec) (hb : c.code = code) (hr : meth.sig.returnType = ret) (hlocks : meth.locks = false) {pc : Nat} {H : Heap} {ls : Array Slot} (hdg : decode code pc = .ok (.ireturn, 1)) : W p l e room_1 (s.setDrawn d0) m #[Value.ref b] below meth c H [] 600390 7286520 (lw_Z below #[Value.ref b] s) (F0 m pc ls [.int 1]) := by
  intro T hT X
  obtain ⟨fs, hret, hrun, hended, hW, hframe⟩ := X.leave (v := some (.int 1)) (hlocks := hlocks) (fun h => by rw [hr] at h; cases h)
  have hmeth' : T.vm.method? m = some meth := X.method'
  refine ⟨T.setFrames fs, ?_, .returned (some (.int 1)), hrun, hended, rfl, lw_closed hd0 ⟨_, rfl⟩ hW hframe⟩
  jvm_step X.here [X.here.top, hx, hb, hdg, hmeth', hr, ret, narrow_b1]
  (try refine ⟨rfl, ?_⟩); (try refine ⟨rfl, ?_⟩)
  first | (intro acts; rw [hret _ acts rfl rfl rfl]) | rw [hret _ _ rfl rfl rfl]
  exact Steps.refl _
/-- what holds at the law's entry: the machine, the code, the tables' words (any of lw_tbl by 'hts w (by decide +kernel)'), the script of L ints xs at the cell b, what the Statement gives of the start (any of its parts by flat_of_before) -/
def lw_At (p : Program) (s : State) (m : MethodId) (meth : Method) (c : Code) (b L : Nat) (xs : Nat → Int32) : Prop :=
  p.tables.exec = Jvm.exec ∧ c.code = code ∧ meth.sig.returnType = ret ∧ c.maxLocals = 6 ∧ s.vm.findClass R_law = some m.cls ∧ (∀ w ∈ lw_tbl, w.before #[Value.ref b] s = true) ∧ va_X b L xs s s.heap ∧ b < s.heap.size ∧ meth.locks = false ∧ (Jvm.Cond.and given_1 narrow_1).before #[Value.ref b] s = true
/-! THE LAW'S OWN BODY: the script is cell 999 -/
theorem z_L_law : ∀ pc, 120 ≤ pc → pL_law pc = none := fun _ h => by unfold pL_law; exact bc_cut_none h
theorem kL_law : bc_ok1 code pL_law := bc_dec_ok kL_lawD z_L_law
theorem mt_L_law : bd_mt mL_law := ⟨bd_cd_e (n := 120) (by decide +kernel) z_L_law, cv_all _, fun _ _ _ h h2 => bd_hk_ok h h2, fun t h => by cases h⟩
section BDLAW
variable {p : Program} {e : Env} {s : State} {m : MethodId} {below : List Frame} {meth : Method} {c : Code} {g : bc_C} {d : Nat} {c0 s0 : Nat} {b : Nat} {sc : Nat × (Nat → Int32)}
/-- it returns 1 -/
theorem lw_hR (F : bd_Fx sc g mL_law d p room_1 s m #[Value.ref b] meth c c0 s0) (hz : ∀ q : Nat, bc_Z g q → s.heap.size ≤ q) (hc : c0 + 200000 ≤ 600390 ∧ s0 + 1200000 ≤ 7286520) {D : List bd_O} {pc len : Nat} {i : Instr} {ts : List Nat} {lv : bc_LV} {st : List bc_A} {σ : bc_M} {n : Nat} {r : Option bc_A} (hcd : bc_code mL_law pc = some (i, len, ts)) (hr : bc_rok (bc_ret mL_law) i r st) (h : r = some (bc_I 1)) : bd_T mL_law p e room_1 s m #[Value.ref b] below meth c (lw_Z below #[Value.ref b] s) c0 s0 g D pc lv st σ n := by
  obtain ⟨⟨hx, hb, hml, hts, hown, hlocks, hap, htr, hE, hz0, hok, -, -, -, -, hret⟩, -⟩ := F
  obtain ⟨hd, htg, hln⟩ := hok pc i len ts hcd
  intro _ H locs ls hn hH hS hl
  have hn : n ≤ 200000 := hn
  subst h
  have hst : i = .ireturn ∧ st = [bc_I 1] := by
    rcases hr with ⟨q, x, e1, e2, -⟩ | ⟨q, x, e1, e2, -⟩ | ⟨q, x, e1, e2, -⟩ | ⟨q, x, e1, e2, -⟩ | ⟨q, x, e1, e2, -⟩ | ⟨q, e1, -⟩
    · have e3 : (1 : Int) = x := Sum.inl.inj (Option.some.inj e1)
      rw [← e3] at e2
      exact ⟨q, e2⟩
    · cases e1
    · cases e1
    · cases e1
    · cases e1
    · cases e1
  obtain ⟨rfl, rfl⟩ := hst
  have hl1 : len = 1 := eq_of_beq hln
  subst hl1
  refine va_forget (fun q hq => hz _ (hS.2.2 q hq)) ?_
  refine W.widen (k := 600390) (n := 7286520) (by omega) (by omega) ?_
  refine W.base ?_
  exact lw_ret (Drawn.sameBut.refl s.drawn lw_cs) hx hb hret hlocks hd
theorem lw2_good (hsc : sc.1 < 2000) (hz : ∀ q : Nat, bc_Z g q → s.heap.size ≤ q) (hc : c0 + 200000 ≤ 600390 ∧ s0 + 1200000 ≤ 7286520) : bd_Good sc mL_law d (fun r _ _ => r = some (bc_I 1)) (fun g' D' pc lv st σ n => bd_rel g [] g' D' → bd_Fx sc g' mL_law d p room_1 s m #[Value.ref b] meth c c0 s0 → bd_T mL_law p e room_1 s m #[Value.ref b] below meth c (lw_Z below #[Value.ref b] s) c0 s0 g' D' pc lv st σ n) := by
  refine ⟨fun cuts f g' D' pc lv st σ n h hA F' => ?_, fun g' D' pc lv lv' st σ n hs h hA F' hok' => bc_T_sub hs (h hA F' hok')⟩
  refine bd_run_ok (A := bd_rel g []) mt_L_law hsc bd_rel_s bd_rel_n bd_rel_m (fun g' D' pc lv st σ n hA F' h => h hA F') (fun g' D' pc i len ts lv st σ n r hA F' hc9 hr h => lw_hR F' (fun q hq => ?_) hc hc9 hr h) f g' D' pc lv st σ n hA F' h
  obtain ⟨⟨ad, rfl, -⟩, -⟩ := hA
  exact hz q hq
/-- a call of a law's method, its cost not looked at -/
theorem bd_call2 {Y : bc_Y} {K : bd_KT} {Rr : Option bc_A → List bd_O → bc_M → Prop} {cuts : List Nat} {f : Nat} {D : List bd_O} {pc ix len j pos : Nat} {ts : List Nat} {lv : bc_LV} {st as r : List bc_A} {σ : bc_M} {n : Nat} (hc : bc_code Y pc = some (.invokestatic ix, len, ts)) (hm : bc_ml (bc_own Y) ix = some (.inl (j, pos))) (hf : bc_fg j = true) (h2 : bd_m2 j = true) (hp : bc_pop (bc_np (bc_yt j)) st [] = some (as, r)) (hn : n + bc_cost (bc_yt j) ≤ bc_cost Y) (hr : r.length ≤ 8 ∧ r.all (fun v => !bc_wide v) = true)
    (h : ∀ w : Nat, w = n + bc_cost (bc_yt j) → bd_Sem sc g D d (bc_yt j) as σ (fun v D' σ' => bif cuts.elem (pc + 3) then K g D' (pc + 3) lv (v.toList ++ r) σ' w else bd_run sc Y K Rr (bd_C1 d) (bd_C2 sc d) cuts f g D' (pc + 3) lv (v.toList ++ r) σ' w)) : bd_run sc Y K Rr (bd_C1 d) (bd_C2 sc d) cuts (f + 1) g D pc lv st σ n := by
  show (match bc_code Y pc with
    | some (i, len, ts) => bd_stp sc Y (fun g D pc lv st σ n => bif cuts.elem pc then K g D pc lv st σ n else bd_run sc Y K Rr (bd_C1 d) (bd_C2 sc d) cuts f g D pc lv st σ n) Rr (bd_C1 d) (bd_C2 sc d) i len ts g D pc lv st σ n
    | none => False)
  rw [hc]
  show (match bc_ml (bc_own Y) ix with
    | some (.inl (j, _)) => bif bc_fg j then (bif bd_m2 j then bd_inv2 Y (bd_C2 sc d) (bc_yt j) (bc_np (bc_yt j)) g D pc lv st σ n (fun g D pc lv st σ n => bif cuts.elem pc then K g D pc lv st σ n else bd_run sc Y K Rr (bd_C1 d) (bd_C2 sc d) cuts f g D pc lv st σ n) else bd_inv Y (bd_C1 d) (bc_yt j) (bc_np (bc_yt j)) g D pc lv st σ n (fun g D pc lv st σ n => bif cuts.elem pc then K g D pc lv st σ n else bd_run sc Y K Rr (bd_C1 d) (bd_C2 sc d) cuts f g D pc lv st σ n) (fun _ => true)) else False
    | some (.inr k) => bif Nat.ble 4 k || Nat.beq k 2 then False else bc_jdk k st σ (fun r σ' => (fun g D pc lv st σ n => bif cuts.elem pc then K g D pc lv st σ n else bd_run sc Y K Rr (bd_C1 d) (bd_C2 sc d) cuts f g D pc lv st σ n) g D (pc + 3) lv r σ' n)
    | none => False)
  rw [hm]
  show (bif bc_fg j then _ else False)
  rw [hf]
  show (bif bd_m2 j then _ else _)
  rw [h2]
  dsimp only [cond]
  unfold bd_inv2
  rw [hp]
  show (bif Nat.ble (n + bc_cost (bc_yt j)) (bc_cost Y) && (Nat.ble r.length 8 && r.all (fun v => !bc_wide v)) then _ else False)
  rw [Nat.ble_eq_true_of_le hn, Nat.ble_eq_true_of_le hr.1, hr.2]
  exact h _ rfl
theorem bd_call1 {Y : bc_Y} {K : bd_KT} {Rr : Option bc_A → List bd_O → bc_M → Prop} {cuts : List Nat} {f : Nat} {D : List bd_O} {pc ix len j pos : Nat} {ts : List Nat} {lv : bc_LV} {st as r : List bc_A} {σ : bc_M} {n : Nat} (hc : bc_code Y pc = some (.invokestatic ix, len, ts)) (hm : bc_ml (bc_own Y) ix = some (.inl (j, pos))) (hf : bc_fg j = true) (h2 : bd_m2 j = false) (hp : bc_pop (bc_np (bc_yt j)) st [] = some (as, r)) (hn : n + bc_cost (bc_yt j) ≤ bc_cost Y) (hr : r.length ≤ 8 ∧ r.all (fun v => !bc_wide v) = true)
    (h : ∀ w : Nat, w = n + bc_cost (bc_yt j) → ∀ Z : Nat → Prop, bc_Sem (bd_gq g Z (fun _ => True)) d (bc_yt j) as σ (fun v σ' => bif cuts.elem (pc + 3) then K g D (pc + 3) lv (v.toList ++ r) σ' w else bd_run sc Y K Rr (bd_C1 d) (bd_C2 sc d) cuts f g D (pc + 3) lv (v.toList ++ r) σ' w) (fun _ _ => False)) : bd_run sc Y K Rr (bd_C1 d) (bd_C2 sc d) cuts (f + 1) g D pc lv st σ n := by
  show (match bc_code Y pc with
    | some (i, len, ts) => bd_stp sc Y (fun g D pc lv st σ n => bif cuts.elem pc then K g D pc lv st σ n else bd_run sc Y K Rr (bd_C1 d) (bd_C2 sc d) cuts f g D pc lv st σ n) Rr (bd_C1 d) (bd_C2 sc d) i len ts g D pc lv st σ n
    | none => False)
  rw [hc]
  show (match bc_ml (bc_own Y) ix with
    | some (.inl (j, _)) => bif bc_fg j then (bif bd_m2 j then bd_inv2 Y (bd_C2 sc d) (bc_yt j) (bc_np (bc_yt j)) g D pc lv st σ n (fun g D pc lv st σ n => bif cuts.elem pc then K g D pc lv st σ n else bd_run sc Y K Rr (bd_C1 d) (bd_C2 sc d) cuts f g D pc lv st σ n) else bd_inv Y (bd_C1 d) (bc_yt j) (bc_np (bc_yt j)) g D pc lv st σ n (fun g D pc lv st σ n => bif cuts.elem pc then K g D pc lv st σ n else bd_run sc Y K Rr (bd_C1 d) (bd_C2 sc d) cuts f g D pc lv st σ n) (fun _ => true)) else False
    | some (.inr k) => bif Nat.ble 4 k || Nat.beq k 2 then False else bc_jdk k st σ (fun r σ' => (fun g D pc lv st σ n => bif cuts.elem pc then K g D pc lv st σ n else bd_run sc Y K Rr (bd_C1 d) (bd_C2 sc d) cuts f g D pc lv st σ n) g D (pc + 3) lv r σ' n)
    | none => False)
  rw [hm]
  show (bif bc_fg j then _ else False)
  rw [hf]
  show (bif bd_m2 j then _ else _)
  rw [h2]
  dsimp only [cond]
  unfold bd_inv
  rw [hp]
  show (bif Nat.ble (n + bc_cost (bc_yt j)) (bc_cost Y) && true && (Nat.ble r.length 8 && r.all (fun v => !bc_wide v)) then _ else False)
  rw [Nat.ble_eq_true_of_le hn, Nat.ble_eq_true_of_le hr.1, hr.2]
  exact h _ rfl
set_option maxRecDepth 50000 in
/-- seven turns -/
theorem lw2_body {K : bd_KT} {σ : bc_M} {v : cs_t} (hsc : sc.1 < 2000) (hK : bd_Good sc mL_law (d + 32) (fun r _ _ => r = some (bc_I 1)) K) (hF : fa_ 0 σ v) (hU : uj_ (c_r v)) (h30 : (c_r v) 1 = 30) : K g [] 8 [(0, bc_R 999), (1, bc_R 0)] [] σ 0 := by
  have k170 : bc_cost (bc_yt 170) = 20000 := rfl
  have k171 : bc_cost (bc_yt 171) = 1500 := rfl
  have k172 : bc_cost (bc_yt 172) = 2000 := rfl
  have k178 : bc_cost (bc_yt 178) = 3000 := rfl
  have k182 : bc_cost (bc_yt 182) = 0 := rfl
  have kL : bc_cost mL_law = 200000 := rfl
  have L : ∀ k : Int, ∀ (g' : bc_C) (σ1 : bc_M) (v1 : cs_t) (B1 : Int) (z : bc_LV) (n : Nat), 0 ≤ k → k ≤ 7 → fa_ B1 σ1 v1 → uj_ (c_r v1) → B1 ≤ 1500 + 200 * k → (c_r v1) 1 ≤ 30 + 600 * k → (n : Int) ≤ 500 + 27000 * k → K g' [] 15 ([(0, bc_R 999), (1, bc_R 0), (2, bc_I k)] ++ z) [] σ1 n := by
    refine up_ind 7 (fun k hk g' σ1 v1 B1 z n k0 k1 F1 U1 b1 s1 hn => ?_) (fun k hk ih g' σ1 v1 B1 z n k0 k1 F1 U1 b1 s1 hn => ?_)
    · refine hK.2 _ _ _ _ [(0, bc_R 999), (1, bc_R 0), (2, bc_I k)] _ _ _ (ls_ _ _) ?_
      refine hK.1 [15] 60 _ _ _ _ _ _ _ ?_
      refine bc_ob_i (by first | omega | decide | (constructor <;> omega) | (constructor <;> constructor <;> omega)) ?_
      refine bc_br_i (fun c => (by omega : False).elim) (fun _ => ?_)
      refine bc_ob_i (by first | omega | decide | (constructor <;> omega) | (constructor <;> constructor <;> omega)) ?_
      exact rfl
    · refine hK.2 _ _ _ _ [(0, bc_R 999), (1, bc_R 0), (2, bc_I k)] _ _ _ (ls_ _ _) ?_
      refine hK.1 [15, 62] 120 _ _ _ _ _ _ _ ?_
      refine bc_ob_i (by first | omega | decide | (constructor <;> omega) | (constructor <;> constructor <;> omega)) ?_
      refine bc_br_i (fun _ => ?_) (fun c => (by omega : False).elim)
      refine bd_nb_i (by show n + 110 ≤ 200000; omega) rfl ?_
      refine t_L_any hsc ⟨by omega, by omega⟩ F1 U1 (by omega) (fun x σ2 v2 F2 U2 s2 => ?_)
      refine bd_nb_i (by show n + 110 ≤ 200000; omega) rfl ?_
      refine t_L_pick hsc ⟨by omega, by omega⟩ ⟨by decide, by decide⟩ (fun a a0 a1 => ?_)
      refine bd_nb_i (by show n + 110 ≤ 200000; omega) rfl ?_
      refine t_L_pick hsc ⟨by omega, by omega⟩ ⟨by decide, by decide⟩ (fun b b0 b9 => ?_)
      have P62 : ∀ n' : Nat, n' = n + 110 → K g' [] 62 [(0, bc_R 999), (1, bc_R 0), (2, bc_I k), (3, bc_I x), (4, bc_I a), (5, bc_I b)] [bc_R 0] σ2 n' := by
        intro n1 hn1
        refine hK.1 [15, 73] 60 _ _ _ _ _ _ _ ?_
        refine bd_call2 (f := 59) (pc := 62) (ix := 312) (len := 3) (ts := []) (j := 170) (as := [bc_R 0]) (r := []) rfl rfl rfl rfl rfl (by omega) ⟨by decide, rfl⟩ (fun n2 hn2 => ?_)
        refine t_L_areMembersRight hsc F2 U2 (by omega) (fun σ3 v3 F3 e3 => ?_)
        have U3 : uj_ (c_r v3) := by rw [e3]; exact U2
        refine bc_ob_i (by first | omega | decide | (constructor <;> omega) | (constructor <;> constructor <;> omega)) ?_
        refine bc_br_i (fun c => absurd c (by decide)) (fun _ => ?_)
        refine hK.1 [15, 84] 60 _ _ _ _ _ _ _ ?_
        refine bd_call2 (f := 59) (pc := 73) (ix := 316) (len := 3) (ts := []) (j := 172) (as := [bc_R 0, bc_I a, bc_I b]) (r := []) rfl rfl rfl rfl rfl (by omega) ⟨by decide, rfl⟩ (fun n3 hn3 => ?_)
        refine t_L_areWaysRight hsc F3 U3 (by omega) a0 a1 b0 b9 (fun σ4 v4 F4 e4 => ?_)
        have U4 : uj_ (c_r v4) := by rw [e4]; exact U3
        refine bc_ob_i (by first | omega | decide | (constructor <;> omega) | (constructor <;> constructor <;> omega)) ?_
        refine bc_br_i (fun c => absurd c (by decide)) (fun _ => ?_)
        refine hK.1 [15, 104] 60 _ _ _ _ _ _ _ ?_
        refine bd_call2 (f := 59) (pc := 84) (ix := 320) (len := 3) (ts := []) (j := 178) (as := [bc_R 0, bc_I a, bc_I b]) (r := []) rfl rfl rfl rfl rfl (by omega) ⟨by decide, rfl⟩ (fun n4 hn4 => ?_)
        refine t_L_isAffordableRight hsc F4 U4 (by omega) a0 a1 b0 b9 (by rw [e4, e3]; omega) (fun σ5 v5 F5 e5 => ?_)
        have U5 : uj_ (c_r v5) := by rw [e5]; exact U4
        refine bc_ob_i (by first | omega | decide | (constructor <;> omega) | (constructor <;> constructor <;> omega)) ?_
        refine bc_br_i (fun c => absurd c (by decide)) (fun _ => ?_)
        refine bd_nb_i (by show n4 + 0 ≤ 200000; omega) rfl ?_
        refine t_L_pick hsc ⟨by omega, by omega⟩ ⟨by decide, by decide⟩ (fun y y0 y1 => ?_)
        refine hK.1 [15] 60 _ _ _ _ _ _ _ ?_
        refine bd_call1 (f := 59) (pc := 104) (ix := 323) (len := 3) (ts := []) (j := 171) (as := [bc_R 0, bc_I (1 + y)]) (r := []) rfl rfl rfl rfl rfl (by omega) ⟨by decide, rfl⟩ (fun n5 hn5 Z => ?_)
        refine t_L_areVowsRight F5 (by omega) ⟨by omega, by omega⟩ (fun σ6 v6 F6 e6 => ?_)
        have U6 : uj_ (c_r v6) := by rw [e6]; exact U5
        refine bc_ob_i (by first | omega | decide | (constructor <;> omega) | (constructor <;> constructor <;> omega)) ?_
        refine bc_br_i (fun c => absurd c (by decide)) (fun _ => ?_)
        exact ih g' σ6 v6 (B1 + 30 + 100) [(3, bc_I x), (4, bc_I a), (5, bc_I b)] n5 (by omega) (by omega) F6 U6 (by omega) (by rw [e6, e5, e4, e3]; omega) (by omega)
      exact P62 (n + 110) rfl
  refine hK.1 [15] 60 _ _ _ _ _ _ _ ?_
  refine t_L_lay hsc hF hU (by decide) (fun σ1 v1 F1 U1 s1 => ?_)
  exact L 0 g σ1 v1 _ [] 500 (by decide) (by decide) F1 U1 (by decide) (by omega) (by decide)
end BDLAW
