/-- a value that means no object m -/
def bd_old (m : Nat) (v : bc_A) : Bool := match v with
  | .inr (.inl k) => !(Nat.beq k (500 + m)) && !(Nat.beq k (700 + m))
  | .inr (.inr (.inl _)) => false
  | _ => true
def bd_olds (m : Nat) (lv : bc_LV) (st : List bc_A) : Bool := lv.all (fun q => bd_old m q.2) && st.all (bd_old m)
/-- the row that a reference means -/
def bd_ro (D : List bd_O) (k : Nat) (f : Nat → Nat → (Int → Int) → Prop) : Prop := match D[k - 500]? with
  | some (.inl (w, u)) => bif Nat.ble 500 k then f (k - 500) w u else False
  | _ => False
theorem bd_ro_e {D : List bd_O} {k : Nat} {f : Nat → Nat → (Int → Int) → Prop} (h : bd_ro D k f) : ∃ (i w : Nat) (u : Int → Int), k = 500 + i ∧ D[i]? = some (bd_row w u) ∧ f i w u := by
  unfold bd_ro at h
  split at h
  · rename_i w u hq
    cases hb : Nat.ble 500 k with
    | false => rw [hb] at h; exact h.elim
    | true =>
      rw [hb] at h
      have := Nat.le_of_ble_eq_true hb
      exact ⟨k - 500, w, u, by omega, hq, h⟩
  · exact h.elim
/-- the builder, the text that a reference means -/
def bd_bo (D : List bd_O) (k : Nat) (f : Nat → List Nat → Prop) : Prop := match D[k - 500]? with
  | some (.inr (.inr l)) => bif Nat.ble 500 k then f (k - 500) l else False
  | _ => False
def bd_to (D : List bd_O) (k : Nat) (f : Nat → List Nat → Prop) : Prop := match D[k - 500]? with
  | some (.inr (.inl l)) => bif Nat.ble 500 k then f (k - 500) l else False
  | _ => False
theorem bd_bo_e {D : List bd_O} {k : Nat} {f : Nat → List Nat → Prop} (h : bd_bo D k f) : ∃ (i : Nat) (l : List Nat), k = 500 + i ∧ D[i]? = some (bd_bld l) ∧ f i l := by
  unfold bd_bo at h
  split at h
  · rename_i l hq
    cases hb : Nat.ble 500 k with
    | false => rw [hb] at h; exact h.elim
    | true =>
      rw [hb] at h
      have := Nat.le_of_ble_eq_true hb
      exact ⟨k - 500, l, by omega, hq, h⟩
  · exact h.elim
theorem bd_to_e {D : List bd_O} {k : Nat} {f : Nat → List Nat → Prop} (h : bd_to D k f) : ∃ (i : Nat) (l : List Nat), k = 500 + i ∧ D[i]? = some (bd_txt l) ∧ f i l := by
  unfold bd_to at h
  split at h
  · rename_i l hq
    cases hb : Nat.ble 500 k with
    | false => rw [hb] at h; exact h.elim
    | true =>
      rw [hb] at h
      have := Nat.le_of_ble_eq_true hb
      exact ⟨k - 500, l, by omega, hq, h⟩
  · exact h.elim
/-- a number's signs -/
def bd_dg (x : Int) : List Nat := if x < 10 then [48 + x.toNat] else [48 + x.toNat / 10, 48 + x.toNat % 10]
/-- room on the stack -/
def bd_rr (r : List bc_A) : Bool := Nat.ble r.length 7 && r.all (fun v => !bc_wide v)
theorem bd_rr_e {r : List bc_A} (h : bd_rr r = true) : r.length ≤ 7 ∧ r.all (fun v => !bc_wide v) = true := by
  obtain ⟨h1, h2⟩ := Bool.and_eq_true_iff.mp h
  exact ⟨Nat.le_of_ble_eq_true h1, h2⟩
theorem bd_rr_8 {r : List bc_A} (h : bd_rr r = true) : r.length ≤ 8 ∧ r.all (fun v => !bc_wide v) = true := ⟨by have := (bd_rr_e h).1; omega, (bd_rr_e h).2⟩
/-- behind `new`: dup and the constructor -/
def bd_nw (Y : bc_Y) (pc : Nat) : Bool := match bc_code Y (pc + 3), bc_code Y (pc + 4) with
  | some (.dup, _, _), some (.invokespecial ix, b, _) => Nat.beq ix 206 && Nat.beq b 3
  | _, _ => false
theorem bd_nw_e {Y : bc_Y} {pc : Nat} (h : bd_nw Y pc = true) : ∃ (a : Nat) (ts us : List Nat), bc_code Y (pc + 3) = some (.dup, a, ts) ∧ bc_code Y (pc + 4) = some (.invokespecial 206, 3, us) := by
  unfold bd_nw at h
  split at h
  · rename_i a ts ix b us h1 h2
    obtain ⟨e1, e2⟩ := Bool.and_eq_true_iff.mp h
    rw [Nat.eq_of_beq_eq_true e1, Nat.eq_of_beq_eq_true e2] at h2
    exact ⟨a, ts, us, h1, h2⟩
  · cases h
/-- a call of the class, and of a law's method -/
abbrev bd_CC : Type := bc_Y → List bc_A → bc_C → bc_M → (Option bc_A → bc_M → Prop) → Prop
abbrev bd_CD : Type := bc_Y → List bc_A → bc_C → List bd_O → bc_M → (Option bc_A → List bd_O → bc_M → Prop) → Prop
def bd_inv (Y : bc_Y) (C : bd_CC) (Y' : bc_Y) (a : Nat) (g : bc_C) (D : List bd_O) (pc : Nat) (lv : bc_LV) (st : List bc_A) (σ : bc_M) (n : Nat) (K : bd_KT) (ok : List bc_A → Bool) : Prop :=
  match bc_pop a st [] with
  | some (as, r) => bif Nat.ble (n + bc_cost Y') (bc_cost Y) && ok as && (Nat.ble r.length 8 && r.all (fun v => !bc_wide v)) then C Y' as g σ (fun v σ' => K g D (pc + 3) lv (v.toList ++ r) σ' (n + bc_cost Y')) else False
  | none => False
def bd_inv2 (Y : bc_Y) (C2 : bd_CD) (Y' : bc_Y) (a : Nat) (g : bc_C) (D : List bd_O) (pc : Nat) (lv : bc_LV) (st : List bc_A) (σ : bc_M) (n : Nat) (K : bd_KT) : Prop :=
  match bc_pop a st [] with
  | some (as, r) => bif Nat.ble (n + bc_cost Y') (bc_cost Y) && (Nat.ble r.length 8 && r.all (fun v => !bc_wide v)) then C2 Y' as g D σ (fun v D' σ' => K g D' (pc + 3) lv (v.toList ++ r) σ' (n + bc_cost Y')) else False
  | none => False
/-- instructions that look at the law's own objects, and calls -/
def bd_sp (i : Instr) : Bool := match i with
  | .newarray _ => true
  | .iaload => true
  | .iastore => true
  | .arraylength => true
  | .new _ => true
  | .invokevirtual _ => true
  | .invokestatic _ => true
  | _ => false
/-- texts: a number, a text put behind a builder's; a builder's text -/
def bd_sst (Y : bc_Y) (ix : Nat) (g : bc_C) (D : List bd_O) (pc : Nat) (lv : bc_LV) (st : List bc_A) (σ : bc_M) (n : Nat) (K : bd_KT) : Prop :=
  bif Nat.beq (bc_own Y) 12 then (bif Nat.beq ix 207 then bc_pI st fun x r => bc_pR r fun k r => bd_bo D k fun i l => bc_ob ((0 ≤ x ∧ x ≤ 99) ∧ l.length + (bd_dg x).length ≤ 15) (bif bd_rr r then K g (D.set i (bd_bld (l ++ bd_dg x))) (pc + 3) lv (bc_R k :: r) σ n else False)
    else bif Nat.beq ix 213 then bc_pR st fun q r => bc_pR r fun k r => bd_bo D k fun i l => (bif Nat.ble 1000 q && Nat.blt q 1024 then bc_ob (l.length + (bc_tx (q - 1000)).length ≤ 15) (bif bd_rr r then K g (D.set i (bd_bld (l ++ bc_tx (q - 1000)))) (pc + 3) lv (bc_R k :: r) σ n else False)
      else bd_to D q fun _ w => bc_ob (l.length + w.length ≤ 15) (bif bd_rr r then K g (D.set i (bd_bld (l ++ w))) (pc + 3) lv (bc_R k :: r) σ n else False))
    else bif Nat.beq ix 228 then bc_pR st fun k r => bd_bo D k fun _ l => bc_ob (n + 4 ≤ bc_cost Y) (bif Nat.ble D.length 90 && bd_olds D.length lv r && bd_rr r then ∀ a b : Nat, K (bd_up (bd_up g (500 + D.length) a) (700 + D.length) b) (D ++ [bd_txt l]) (pc + 3) lv (bc_R (500 + D.length) :: r) σ (n + 4) else False)
    else False) else False
/-- a text's length, a sign of it -/
def bd_stl (k : Nat) (g : bc_C) (D : List bd_O) (pc : Nat) (lv : bc_LV) (st : List bc_A) (σ : bc_M) (n : Nat) (K : bd_KT) : Prop :=
  bif Nat.beq k 4 then bc_pR st fun q r => bd_to D q fun _ w => (bif bd_rr r then K g D (pc + 3) lv (bc_I (w.length : Int) :: r) σ n else False)
  else bif Nat.beq k 5 then bc_pI st fun j r => bc_pR r fun q r => bd_to D q fun _ w => bc_ob (0 ≤ j ∧ j < (w.length : Int)) (bif bd_rr r then K g D (pc + 3) lv (bc_I ((w.getD j.toNat 0 : Nat) : Int) :: r) σ n else False)
  else False
/-- ONE INSTRUCTION of a law's method -/
def bd_stp (sc : Nat × (Nat → Int32)) (Y : bc_Y) (K : bd_KT) (R : Option bc_A → List bd_O → bc_M → Prop) (C : bd_CC) (C2 : bd_CD) (i : Instr) (len : Nat) (ts : List Nat) (g : bc_C) (D : List bd_O) (pc : Nat) (lv : bc_LV) (st : List bc_A) (σ : bc_M) (n : Nat) : Prop :=
  bif bd_sp i then (match i with
    | .newarray .int => bc_pI st fun x r => bc_ob (0 ≤ x ∧ x ≤ 18) (bif Nat.ble (n + 3) (bc_cost Y) && Nat.ble D.length 90 && bd_olds D.length lv r then ∀ a : Nat, K (bd_up g (500 + D.length) a) (D ++ [bd_row x.toNat (fun _ => 0)]) (pc + 2) lv (bc_R (500 + D.length) :: r) σ (n + 3) else False)
    | .iaload => bc_pI st fun j r => bc_pR r fun k r => bif Nat.beq k 999 then bc_ob (0 ≤ j ∧ j < (sc.1 : Int)) (K g D (pc + 1) lv (bc_I (sc.2 j.toNat).toInt :: r) σ n) else bd_ro D k fun _ w f => bc_ob ((0 ≤ j ∧ j < (w : Int)) ∧ w < 2000) (K g D (pc + 1) lv (bc_I (f j) :: r) σ n)
    | .iastore => bc_pI st fun x r => bc_pI r fun j r => bc_pR r fun k r => bd_ro D k fun i w f => bif D.all (fun o => !bd_two o) then bc_ob ((0 ≤ j ∧ j < (w : Int)) ∧ w < 2000) (K g (D.set i (bd_row w (fun q => if q = j then x else f q))) (pc + 1) lv r σ n) else False
    | .arraylength => bc_pR st fun k r => bif Nat.beq k 999 then K g D (pc + 1) lv (bc_I (sc.1 : Int) :: r) σ n else bd_ro D k fun _ w _ => K g D (pc + 1) lv (bc_I (w : Int) :: r) σ n
    | .invokevirtual ix => (match bc_ml (bc_own Y) ix with
      | some (.inl (j, _)) => bif bc_fg j then False else bd_inv Y C (bd_yt j) (bc_np (bc_yt j) + 1) g D pc lv st σ n K (bc_rcv (bc_own (bc_yt j)))
      | some (.inr k) => bd_stl k g D pc lv st σ n K
      | none => bd_sst Y ix g D pc lv st σ n K)
    | .new ix => bc_ob (n + 4 ≤ bc_cost Y) (bif Nat.beq (bc_own Y) 12 && Nat.beq ix 204 && bd_nw Y pc && Nat.ble D.length 90 && bd_olds D.length lv st && bd_rr st then ∀ a b : Nat, K (bd_up (bd_up g (500 + D.length) a) (700 + D.length) b) (D ++ [bd_bld []]) (pc + 7) lv (bc_R (500 + D.length) :: st) σ (n + 4) else False)
    | .invokestatic ix => (match bc_ml (bc_own Y) ix with
      | some (.inl (j, _)) => bif bc_fg j then (bif bd_m2 j then bd_inv2 Y C2 (bc_yt j) (bc_np (bc_yt j)) g D pc lv st σ n K else bd_inv Y C (bc_yt j) (bc_np (bc_yt j)) g D pc lv st σ n K (fun _ => true)) else False
      | some (.inr k) => bif Nat.ble 4 k || Nat.beq k 2 then False else bc_jdk k st σ (fun r σ' => K g D (pc + 3) lv r σ' n)
      | none => False)
    | _ => False)
  else bc_stp Y (K g D) (fun r σ' => R r D σ') (fun _ _ => False) (fun _ _ _ _ _ _ _ => False) i len ts pc lv st σ n
/-- up to f instructions, not beyond a cut -/
def bd_run (sc : Nat × (Nat → Int32)) (Y : bc_Y) (L : bd_KT) (R : Option bc_A → List bd_O → bc_M → Prop) (C : bd_CC) (C2 : bd_CD) (cuts : List Nat) (f : Nat) : bd_KT :=
  Nat.rec (motive := fun _ => bd_KT) L (fun _ K g D pc lv st σ n => match bc_code Y pc with
    | some (i, len, ts) => bd_stp sc Y (fun g' D' pc' lv' st' σ' n' => bif cuts.elem pc' then L g' D' pc' lv' st' σ' n' else K g' D' pc' lv' st' σ' n') R C C2 i len ts g D pc lv st σ n
    | none => False) f
/-- the script, behind the cell 999 -/
def bd_W (sc : Nat × (Nat → Int32)) (g : bc_C) (U : State) (H : Heap) : Prop := va_X (bc_ad g 999) sc.1 sc.2 U H ∧ bc_ad g 999 < H.size ∧ ¬ bc_Z g (bc_ad g 999) ∧ ∃ (E : va_G) (cB : ClassId) (d1 d2 : Nat), sj_I (E, cB, d1, d2, bc_Z g) [] U H
/-- THE MEANING OF A CALL of a law's method -/
def bd_Pc (sc : Nat × (Nat → Int32)) (g : bc_C) (D : List bd_O) (as : List bc_A) (σ : bc_M) : Array Value → State → Prop := fun v U => v = (as.map (bc_v g)).toArray ∧ (bc_l g).stackTraces = false ∧ va_P (bc_Dd g) bc_cl (bc_ws g σ) U.heap ∧ bc_E g U U.heap ∧ bc_zz g U.heap.size ∧ bd_ok g D ∧ bd_J g U D U.heap ∧ bd_W sc g U U.heap
def bd_Qc (g : bc_C) (D : List bd_O) (R : Option bc_A → List bd_O → bc_M → Prop) : Array Value → State → Outcome → State → Prop := fun _ st o t => (∃ (r : Option bc_A) (D' : List bd_O) (σ' : bc_M), o = .returned (r.map (bc_v g)) ∧ R r D' σ' ∧ D'.map bd_two = D.map bd_two ∧ va_P (bc_Dd g) bc_cl (bc_ws g σ') t.heap ∧ bd_J g t D' t.heap) ∧ va_F (bc_Z g) st t
def bd_Sem (sc : Nat × (Nat → Int32)) (g : bc_C) (D : List bd_O) (d : Nat) (Y : bc_Y) (as : List bc_A) (σ : bc_M) (R : Option bc_A → List bd_O → bc_M → Prop) : Prop := ∃ _ : True,
  vx_Met (bc_l g) Y.1 (bc_wsm Y) (bc_rm d (bc_cost Y)) (bd_Pc sc g D as σ) (bd_Qc g D R) (fun _ _ _ => False) (bc_cost Y) (6 * bc_cost Y) (bc_Z g)
def bd_C1 (d : Nat) : bd_CC := fun Y' as g σ k => ∀ Z : Nat → Prop, bc_Sem (bd_gq g Z (fun _ => True)) d Y' as σ k (fun _ _ => False)
def bd_C2 (sc : Nat × (Nat → Int32)) (d : Nat) : bd_CD := fun Y' as g D σ k => bd_Sem sc g D d Y' as σ k
/-- the same bounds, the same cells but the law's objects from m on -/
def bd_ag (g g' : bc_C) (m : Nat) : Prop := ∃ ad : Nat → Nat, g' = (g.1, g.2.1, g.2.2.1, ad, g.2.2.2.2) ∧ ∀ k : Nat, (k < 500 + m ∨ (700 ≤ k ∧ k < 700 + m) ∨ 900 ≤ k) → ad k = bc_ad g k
theorem bd_ag_rf (g : bc_C) (m : Nat) : bd_ag g g m := ⟨g.2.2.2.1, rfl, fun _ _ => rfl⟩
theorem bd_ag_up {g g' : bc_C} {m k a : Nat} (h : bd_ag g g' m) (hk : (500 + m ≤ k ∧ k < 700) ∨ (700 + m ≤ k ∧ k < 900)) : bd_ag g (bd_up g' k a) m := by
  obtain ⟨ad, rfl, h2⟩ := h
  refine ⟨fun j => if j = k then a else ad j, rfl, fun j hj => ?_⟩
  show (if j = k then a else ad j) = _
  rw [if_neg (by omega)]
  exact h2 j hj
theorem bd_J_al {g : bc_C} {U U' : State} {D : List bd_O} {H : Heap} (hal : U.vm.Alike U'.vm) (h : bd_J g U D H) : bd_J g U' D H := by
  intro i o ho
  have h0 := h i o ho
  obtain q | l | l := o
  · exact h0
  · obtain ⟨f, h1, h2, h3, h4, h5⟩ := h0
    exact ⟨f, h1.moved hal, h2.moved hal, h3.moved hal, h4.moved hal, h5⟩
  · obtain ⟨E, cB, ml, f, h1, h2⟩ := h0
    exact ⟨E, cB, ml, f, va_K.moved hal h1, h2⟩
section BDS
variable {p : Program} {e : Env} {R : Room} {s : State} {m : MethodId} {args : Array Value} {below : List Frame} {meth : Method} {c : Code} {Q : State → Prop} {g : bc_C} {Y : bc_Y} {d : Nat} {pc : Nat} {lv : bc_LV} {st r : List bc_A} {σ : bc_M} {n c0 s0 : Nat} {D : List bd_O}
/-- the law's machine stands at pc, and all goes well -/
def bd_T (Y : bc_Y) (p : Program) (e : Env) (R : Room) (s : State) (m : MethodId) (args : Array Value) (below : List Frame) (meth : Method) (c : Code) (Q : State → Prop) (c0 s0 : Nat) : bd_KT := fun g D pc lv st σ n =>
  bd_ok g D → bc_T (bd_gq g (bc_Z g) (bd_J g s D)) Y p e R s m args below meth c Q c0 s0 pc lv st σ n
theorem bd_stp_C {i : Instr} {len : Nat} {ts : List Nat} {K : bc_KT} {R0 : Option bc_A → bc_M → Prop} {X : Nat → bc_M → Prop} {C C' : Nat → bc_LV → Nat → bc_Y → List bc_A → bc_M → (Option bc_A → bc_M → Prop) → Prop} (hi : bd_sp i = false) (h : bc_stp Y K R0 X C i len ts pc lv st σ n) : bc_stp Y K R0 X C' i len ts pc lv st σ n := by
  cases i <;> first | exact h | cases hi
theorem bd_sp_pur {i : Instr} (hi : bd_sp i = false) (h9 : ∀ x, i ≠ .putfield x) (h8 : i ≠ .castore) (h7 : i ≠ .bastore) : bc_pur Y i = true := by
  cases i <;> first | rfl | exact absurd rfl (h9 _) | exact absurd rfl h8 | exact absurd rfl h7 | cases hi
/-- the law's code has no such instruction -/
def bd_cd (f : Nat → Option bc_IC) (n : Nat) : Bool := (List.range n).all fun pc => match f pc with
  | some (.putfield _, _, _) => false
  | some (.castore, _, _) => false
  | some (.bastore, _, _) => false
  | _ => true
end BDS
