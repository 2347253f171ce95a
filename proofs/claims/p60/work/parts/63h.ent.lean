section BDN
variable {p : Program} {e : Env} {R : Room} {s : State} {m : MethodId} {args : Array Value} {below : List Frame} {meth : Method} {c : Code} {Q : State → Prop} {g : bc_C} {Y : bc_Y} {d : Nat} {pc : Nat} {lv : bc_LV} {st r : List bc_A} {σ : bc_M} {n c0 s0 : Nat} {D : List bd_O} {sc : Nat × (Nat → Int32)}
theorem bd_map_set {i w : Nat} {f f' : Int → Int} (ho : D[i]? = some (bd_row w f)) : (D.set i (bd_row w f')).map bd_two = D.map bd_two := by
  apply List.ext_getElem?
  intro j
  rw [List.getElem?_map, List.getElem?_map]
  by_cases hj : j = i
  · subst hj
    rw [List.getElem?_set_self (List.getElem?_eq_some_iff.mp ho).1, ho]
    rfl
  · rw [List.getElem?_set_ne (fun q => hj q.symm)]
/-- what a law's method is: no writes to the class's cells, calls well read -/
def bd_mt (Y : bc_Y) : Prop := (∀ (pc : Nat) (i : Instr) (len : Nat) (ts : List Nat), bc_code Y pc = some (i, len, ts) → (∀ x, i ≠ .putfield x) ∧ i ≠ .castore ∧ i ≠ .bastore) ∧ bc_cv (bc_own Y) ∧
  (∀ (ix j pos : Nat), bc_ml (bc_own Y) ix = some (.inl (j, pos)) → bd_m2 j = true → bc_hh (bc_yt j) = []) ∧ ∀ t, bc_ret Y ≠ some (.object t)
/-- texts: one step -/
theorem bd_step_tl {K : bd_KT} {A : bc_C → List bd_O → Prop} {k ix : Nat} (hA : A g D) (F : bd_Fx sc g Y d p R s m args meth c c0 s0) (hK : bd_KO sc Y d p e R s m args below meth c Q c0 s0 A K) (hml2 : bc_ml (bc_own Y) ix = some (.inr k)) (hd : decode Y.2.1 pc = .ok (.invokevirtual ix, 3)) (h : bd_stl k g D pc lv st σ n K) : bd_T Y p e R s m args below meth c Q c0 s0 g D pc lv st σ n := by
  unfold bd_stl at h
  cases h4 : Nat.beq k 4 with
  | true =>
    rw [h4] at h
    dsimp only [cond] at h
    obtain rfl := Nat.eq_of_beq_eq_true h4
    obtain ⟨q, r1, rfl, h1⟩ := bc_pR_e h
    obtain ⟨i, w, rfl, ho, h2⟩ := bd_to_e h1
    cases hr : bd_rr r1 with
    | false => rw [hr] at h2; exact h2.elim
    | true =>
      rw [hr] at h2
      exact bd_s_tlen F hml2 hd ho (bd_rr_8 hr) (hK _ _ _ _ _ _ _ hA F h2)
  | false =>
    rw [h4] at h
    dsimp only [cond] at h
    cases h5 : Nat.beq k 5 with
    | true =>
      rw [h5] at h
      dsimp only [cond] at h
      obtain rfl := Nat.eq_of_beq_eq_true h5
      obtain ⟨j, r0, rfl, h0⟩ := bc_pI_e h
      obtain ⟨q, r1, rfl, h1⟩ := bc_pR_e h0
      obtain ⟨i, w, rfl, ho, ⟨j0, j1⟩, h2⟩ := bd_to_e h1
      cases hr : bd_rr r1 with
      | false => rw [hr] at h2; exact h2.elim
      | true =>
        rw [hr] at h2
        exact bd_s_tch F hml2 hd ho j0 j1 (bd_rr_8 hr) (hK _ _ _ _ _ _ _ hA F h2)
    | false => rw [h5] at h; exact h.elim
theorem bd_map_sb {i : Nat} {l l' : List Nat} (ho : D[i]? = some (bd_bld l)) : (D.set i (bd_bld l')).map bd_two = D.map bd_two := by
  apply List.ext_getElem?
  intro j
  rw [List.getElem?_map, List.getElem?_map]
  by_cases hj : j = i
  · subst hj
    rw [List.getElem?_set_self (List.getElem?_eq_some_iff.mp ho).1, ho]
    rfl
  · rw [List.getElem?_set_ne (fun q => hj q.symm)]
theorem bd_step_st {K : bd_KT} {A : bc_C → List bd_O → Prop} {ix : Nat} (hA : A g D)
    (hAs : ∀ (g : bc_C) (D D' : List bd_O), A g D → D'.map bd_two = D.map bd_two → A g D')
    (hAm : ∀ (g : bc_C) (D : List bd_O) (a b : Nat) (o : bd_O), A g D → D.length ≤ 90 → A (bd_up (bd_up g (500 + D.length) a) (700 + D.length) b) (D ++ [o]))
    (F : bd_Fx sc g Y d p R s m args meth c c0 s0) (hK : bd_KO sc Y d p e R s m args below meth c Q c0 s0 A K) (hd : decode Y.2.1 pc = .ok (.invokevirtual ix, 3)) (h : bd_sst Y ix g D pc lv st σ n K) : bd_T Y p e R s m args below meth c Q c0 s0 g D pc lv st σ n := by
  unfold bd_sst at h
  cases ho9 : Nat.beq (bc_own Y) 12 with
  | false => rw [ho9] at h; exact h.elim
  | true =>
    rw [ho9] at h
    have hY := Nat.eq_of_beq_eq_true ho9
    dsimp only [cond] at h
    cases h7 : Nat.beq ix 207 with
    | true =>
      rw [h7] at h
      dsimp only [cond] at h
      obtain rfl := Nat.eq_of_beq_eq_true h7
      obtain ⟨x, r0, rfl, h0⟩ := bc_pI_e h
      obtain ⟨k, r1, rfl, h1⟩ := bc_pR_e h0
      obtain ⟨i, l, rfl, ho, ⟨⟨x0, x1⟩, hl⟩, h2⟩ := bd_bo_e h1
      cases hr : bd_rr r1 with
      | false => rw [hr] at h2; exact h2.elim
      | true =>
        rw [hr] at h2
        have k2 := hK _ _ _ _ _ _ _ (hAs g D _ hA (bd_map_sb ho)) F h2
        by_cases hx : x < 10
        · have ew : bd_dg x = [48 + x.toNat] := if_pos hx
          rw [ew] at hl
          exact bd_s_api1 x0 hx ew F hY hd ho hl (bd_rr_8 hr) k2
        · have ew : bd_dg x = [48 + x.toNat / 10, 48 + x.toNat % 10] := if_neg hx
          rw [ew] at hl
          exact bd_s_api2 (by omega) (by omega) ew F hY hd ho hl (bd_rr_8 hr) k2
    | false =>
      rw [h7] at h
      dsimp only [cond] at h
      cases h3 : Nat.beq ix 213 with
      | true =>
        rw [h3] at h
        dsimp only [cond] at h
        obtain rfl := Nat.eq_of_beq_eq_true h3
        obtain ⟨q, r0, rfl, h0⟩ := bc_pR_e h
        obtain ⟨k, r1, rfl, h1⟩ := bc_pR_e h0
        obtain ⟨i, l, rfl, ho, h4⟩ := bd_bo_e h1
        cases hq : (Nat.ble 1000 q && Nat.blt q 1024) with
        | true =>
          rw [hq] at h4
          obtain ⟨hl, h2⟩ := h4
          obtain ⟨q1, q2⟩ := Bool.and_eq_true_iff.mp hq
          have q1 := Nat.le_of_ble_eq_true q1
          have q2 : q < 1024 := Nat.le_of_ble_eq_true q2
          cases hr : bd_rr r1 with
          | false => rw [hr] at h2; exact h2.elim
          | true =>
            rw [hr] at h2
            have k2 := hK _ _ _ _ _ _ _ (hAs g D _ hA (bd_map_sb ho)) F h2
            refine bd_s_apt F hY hd ho hl (bd_rr_8 hr) (fun H locs hok hJ hS => ?_) k2
            have h9 := bx_Tk (j := q - 1000) (by omega) ho F.1.2.2.2.2.2.2.2.2.1 hok hS
            rw [show 1000 + (q - 1000) = q by omega] at h9
            exact h9
        | false =>
          rw [hq] at h4
          obtain ⟨i2, w, rfl, ho2, hl, h2⟩ := bd_to_e h4
          cases hr : bd_rr r1 with
          | false => rw [hr] at h2; exact h2.elim
          | true =>
            rw [hr] at h2
            have k2 := hK _ _ _ _ _ _ _ (hAs g D _ hA (bd_map_sb ho)) F h2
            exact bd_s_apt F hY hd ho hl (bd_rr_8 hr) (fun H locs hok hJ hS => bx_Td ho ho2 hok hJ) k2
      | false =>
        rw [h3] at h
        dsimp only [cond] at h
        cases h8 : Nat.beq ix 228 with
        | false => rw [h8] at h; exact h.elim
        | true =>
          rw [h8] at h
          dsimp only [cond] at h
          obtain rfl := Nat.eq_of_beq_eq_true h8
          obtain ⟨k, r1, rfl, h1⟩ := bc_pR_e h
          obtain ⟨i, l, rfl, ho, hn4, h2⟩ := bd_bo_e h1
          cases hq : (Nat.ble D.length 90 && bd_olds D.length lv r1 && bd_rr r1) with
          | false => rw [hq] at h2; exact h2.elim
          | true =>
            rw [hq] at h2
            simp only [Bool.and_eq_true] at hq
            obtain ⟨⟨q1, q2⟩, q3⟩ := hq
            have q1 := Nat.le_of_ble_eq_true q1
            exact bd_s_tos F hY hd ho hn4 q1 q2 (bd_rr_8 q3) (fun a b => hK _ _ _ _ _ _ _ (hAm g D a b _ hA q1) (bd_Fx_up (by omega) (by have := q1; omega) (bd_Fx_up (by omega) (by have := q1; omega) F)) (h2 a b))
/-- ONE STEP of a law's method -/
theorem bd_step {K : bd_KT} {Rr : Option bc_A → List bd_O → bc_M → Prop} {A : bc_C → List bd_O → Prop} {i : Instr} {len : Nat} {ts : List Nat} (hm : bd_mt Y) (hsc : sc.1 < 2000) (F : bd_Fx sc g Y d p R s m args meth c c0 s0) (hA : A g D)
    (hAs : ∀ (g : bc_C) (D D' : List bd_O), A g D → D'.map bd_two = D.map bd_two → A g D')
    (hAn : ∀ (g : bc_C) (D : List bd_O) (a : Nat) (o : bd_O), A g D → D.length ≤ 90 → A (bd_up g (500 + D.length) a) (D ++ [o]))
    (hAm : ∀ (g : bc_C) (D : List bd_O) (a b : Nat) (o : bd_O), A g D → D.length ≤ 90 → A (bd_up (bd_up g (500 + D.length) a) (700 + D.length) b) (D ++ [o]))
    (hK : bd_KO sc Y d p e R s m args below meth c Q c0 s0 A K)
    (hR : ∀ (g : bc_C) (D : List bd_O) (pc : Nat) (i : Instr) (len : Nat) (ts : List Nat) (lv : bc_LV) (st : List bc_A) (σ : bc_M) (n : Nat) (r : Option bc_A), A g D → bd_Fx sc g Y d p R s m args meth c c0 s0 → bc_code Y pc = some (i, len, ts) → bc_rok (bc_ret Y) i r st → Rr r D σ → bd_T Y p e R s m args below meth c Q c0 s0 g D pc lv st σ n)
    (hc : bc_code Y pc = some (i, len, ts)) (h : bd_stp sc Y K Rr (bd_C1 d) (bd_C2 sc d) i len ts g D pc lv st σ n) : bd_T Y p e R s m args below meth c Q c0 s0 g D pc lv st σ n := by
  obtain ⟨m1, hv, m3, m4⟩ := hm
  unfold bd_stp at h
  cases hb : bd_sp i with
  | false =>
    rw [hb] at h
    dsimp only [cond] at h
    intro hok
    obtain ⟨n1, n2, n3⟩ := m1 pc i len ts hc
    exact bc_step (g := bd_gq g (bc_Z g) (bd_J g s D)) (K := K g D) (Rr := fun r σ' => Rr r D σ') (X := fun _ _ => False) (XX := fun _ _ _ _ _ => False) (Or.inl (bd_sp_pur hb n1 n2 n3)) F.1 hv (fun pc lv st σ n hk => hK g D pc lv st σ n hA F hk hok) (fun _ _ _ _ _ hx _ => hx.elim)
      (fun pc i len ts lv st σ n r hc hr hq => hR g D pc i len ts lv st σ n r hA F hc hr hq hok) (fun _ _ _ _ _ _ _ _ _ _ _ _ hx => hx.elim) (bc_jdk_all (bd_gq g (bc_Z g) (bd_J g s D)) Y d p e R s m args below meth c Q c0 s0 F.1) hc (bd_stp_C hb h)
  | true =>
    rw [hb] at h
    dsimp only [cond] at h
    obtain ⟨hd, htg, hln⟩ := F.1.2.2.2.2.2.2.2.2.2.2.1 pc i len ts hc
    cases i with
    | newarray at9 =>
      have hl : len = 2 := eq_of_beq hln
      subst hl
      cases at9 with
      | int =>
        have h : bc_pI st fun x r => bc_ob (0 ≤ x ∧ x ≤ 18) (bif Nat.ble (n + 3) (bc_cost Y) && Nat.ble D.length 90 && bd_olds D.length lv r then ∀ a : Nat, K (bd_up g (500 + D.length) a) (D ++ [bd_row x.toNat (fun _ => 0)]) (pc + 2) lv (bc_R (500 + D.length) :: r) σ (n + 3) else False) := h
        obtain ⟨x, r1, rfl, hx0, hA2⟩ := bc_pI_e h
        cases hq : (Nat.ble (n + 3) (bc_cost Y) && Nat.ble D.length 90 && bd_olds D.length lv r1) with
        | false => rw [hq] at hA2; exact hA2.elim
        | true =>
          rw [hq] at hA2
          simp only [Bool.and_eq_true] at hq
          obtain ⟨⟨q1, q2⟩, q3⟩ := hq
          have q2 := Nat.le_of_ble_eq_true q2
          exact bd_s_new F.1 hd hx0 (Nat.le_of_ble_eq_true q1) q2 q3 (fun a => hK _ _ _ _ _ _ _ (hAn g D a _ hA q2) (bd_Fx_up (by omega) (by omega) F) (hA2 a))
      | _ => exact False.elim h
    | iaload =>
      have hl : len = 1 := eq_of_beq hln
      subst hl
      have h : bc_pI st fun j r => bc_pR r fun k r => bif Nat.beq k 999 then bc_ob (0 ≤ j ∧ j < (sc.1 : Int)) (K g D (pc + 1) lv (bc_I (sc.2 j.toNat).toInt :: r) σ n) else bd_ro D k fun _ w f => bc_ob ((0 ≤ j ∧ j < (w : Int)) ∧ w < 2000) (K g D (pc + 1) lv (bc_I (f j) :: r) σ n) := h
      obtain ⟨j, r1, rfl, hA1⟩ := bc_pI_e h
      obtain ⟨k, r2, rfl, hA2⟩ := bc_pR_e hA1
      cases hk : Nat.beq k 999 with
      | true =>
        rw [hk] at hA2
        obtain rfl := Nat.eq_of_beq_eq_true hk
        exact bd_s_sld F hd hA2.1 hsc (hK _ _ _ _ _ _ _ hA F hA2.2)
      | false =>
        rw [hk] at hA2
        dsimp only [cond] at hA2
        obtain ⟨i9, w, f, rfl, ho, ⟨h1, h2⟩, h3⟩ := bd_ro_e hA2
        exact bd_s_ld F.1 hd ho h1 h2 (hK _ _ _ _ _ _ _ hA F h3)
    | iastore =>
      have hl : len = 1 := eq_of_beq hln
      subst hl
      have h : bc_pI st fun x r => bc_pI r fun j r => bc_pR r fun k r => bd_ro D k fun i w f => bif D.all (fun o => !bd_two o) then bc_ob ((0 ≤ j ∧ j < (w : Int)) ∧ w < 2000) (K g (D.set i (bd_row w (fun q => if q = j then x else f q))) (pc + 1) lv r σ n) else False := h
      obtain ⟨x, r0, rfl, hA0⟩ := bc_pI_e h
      obtain ⟨j, r1, rfl, hA1⟩ := bc_pI_e hA0
      obtain ⟨k, r2, rfl, hA2⟩ := bc_pR_e hA1
      obtain ⟨i9, w, f, rfl, ho, hA4⟩ := bd_ro_e hA2
      cases hq : D.all (fun o => !bd_two o) with
      | false => rw [hq] at hA4; exact hA4.elim
      | true =>
        rw [hq] at hA4
        obtain ⟨⟨h1, h2⟩, h3⟩ := hA4
        exact bd_s_st F.1 hd ho hq h1 h2 (hK _ _ _ _ _ _ _ (hAs g D _ hA (bd_map_set ho)) F h3)
    | arraylength =>
      have hl : len = 1 := eq_of_beq hln
      subst hl
      have h : bc_pR st fun k r => bif Nat.beq k 999 then K g D (pc + 1) lv (bc_I (sc.1 : Int) :: r) σ n else bd_ro D k fun _ w _ => K g D (pc + 1) lv (bc_I (w : Int) :: r) σ n := h
      obtain ⟨k, r2, rfl, hA2⟩ := bc_pR_e h
      cases hk : Nat.beq k 999 with
      | true =>
        rw [hk] at hA2
        obtain rfl := Nat.eq_of_beq_eq_true hk
        exact bd_s_slen F hd (hK _ _ _ _ _ _ _ hA F hA2)
      | false =>
        rw [hk] at hA2
        dsimp only [cond] at hA2
        obtain ⟨i9, w, f, rfl, ho, h3⟩ := bd_ro_e hA2
        exact bd_s_len F.1 hd ho (hK _ _ _ _ _ _ _ hA F h3)
    | invokevirtual ix =>
      have hl : len = 3 := eq_of_beq hln
      subst hl
      have h : (match bc_ml (bc_own Y) ix with
        | some (.inl (j, _)) => bif bc_fg j then False else bd_inv Y (bd_C1 d) (bd_yt j) (bc_np (bc_yt j) + 1) g D pc lv st σ n K (bc_rcv (bc_own (bc_yt j)))
        | some (.inr k) => bd_stl k g D pc lv st σ n K
        | none => bd_sst Y ix g D pc lv st σ n K) := h
      split at h
      · rename_i j pos hml2
        cases hf : bc_fg j with
        | true => rw [hf] at h; exact h.elim
        | false =>
          rw [hf] at h
          obtain ⟨v1, v2⟩ := hv ix j pos hml2
          rcases bd_yt_c j with e9 | e9
          · rw [e9] at h
            exact bd_s_call (Y' := bc_yt j) (fg := bc_fg j) hA v1 v2 F (bc_ml_w hml2).1 (Or.inr ⟨hf, hd, rfl⟩) hK (by rw [hf]; exact h)
          · rw [e9] at h
            exact bd_s_call (Y' := bc_twin (bc_yt j)) (fg := bc_fg j) hA (bc_vP_twin v1) v2 F (bc_ml_w hml2).1 (Or.inr ⟨hf, hd, rfl⟩) hK (by rw [hf]; exact h)
      · rename_i k hml2
        exact bd_step_tl hA F hK hml2 hd h
      · exact bd_step_st hA hAs hAm F hK hd h
    | new ix =>
      have hl : len = 3 := eq_of_beq hln
      subst hl
      have h5 : bc_ob (n + 4 ≤ bc_cost Y) (bif Nat.beq (bc_own Y) 12 && Nat.beq ix 204 && bd_nw Y pc && Nat.ble D.length 90 && bd_olds D.length lv st && bd_rr st then ∀ a b : Nat, K (bd_up (bd_up g (500 + D.length) a) (700 + D.length) b) (D ++ [bd_bld []]) (pc + 7) lv (bc_R (500 + D.length) :: st) σ (n + 4) else False) := h
      clear h
      obtain ⟨hn4, h6⟩ := h5
      cases hq : (Nat.beq (bc_own Y) 12 && Nat.beq ix 204 && bd_nw Y pc && Nat.ble D.length 90 && bd_olds D.length lv st && bd_rr st) with
      | false => rw [hq] at h6; exact h6.elim
      | true =>
        rw [hq] at h6
        simp only [Bool.and_eq_true] at hq
        obtain ⟨⟨⟨⟨⟨q1, q2⟩, q3⟩, q4⟩, q5⟩, q6⟩ := hq
        obtain rfl := Nat.eq_of_beq_eq_true q2
        have q4 := Nat.le_of_ble_eq_true q4
        obtain ⟨a3, t3, u3, c3, c4⟩ := bd_nw_e q3
        obtain ⟨d3, -, l3⟩ := F.1.2.2.2.2.2.2.2.2.2.2.1 _ _ _ _ c3
        obtain ⟨d4, -, -⟩ := F.1.2.2.2.2.2.2.2.2.2.2.1 _ _ _ _ c4
        have l3 : a3 = 1 := eq_of_beq l3
        subst l3
        exact bd_s_bnew F (Nat.eq_of_beq_eq_true q1) hd d3 d4 hn4 q4 q5 (bd_rr_e q6) (fun a b => hK _ _ _ _ _ _ _ (hAm g D a b _ hA q4) (bd_Fx_up (by omega) (by have := q4; omega) (bd_Fx_up (by omega) (by have := q4; omega) F)) (h6 a b))
    | invokestatic ix =>
      have hl : len = 3 := eq_of_beq hln
      subst hl
      have h : (match bc_ml (bc_own Y) ix with
        | some (.inl (j, _)) => bif bc_fg j then (bif bd_m2 j then bd_inv2 Y (bd_C2 sc d) (bc_yt j) (bc_np (bc_yt j)) g D pc lv st σ n K else bd_inv Y (bd_C1 d) (bc_yt j) (bc_np (bc_yt j)) g D pc lv st σ n K (fun _ => true)) else False
        | some (.inr k) => bif Nat.ble 4 k || Nat.beq k 2 then False else bc_jdk k st σ (fun r σ' => K g D (pc + 3) lv r σ' n)
        | none => False) := h
      split at h
      · rename_i j pos hml2
        cases hf : bc_fg j with
        | false => rw [hf] at h; exact h.elim
        | true =>
          rw [hf] at h
          obtain ⟨v1, v2⟩ := hv ix j pos hml2
          cases h2 : bd_m2 j with
          | false =>
            rw [h2] at h
            exact bd_s_call (Y' := bc_yt j) (fg := bc_fg j) hA v1 v2 F (bc_ml_w hml2).1 (Or.inl ⟨hf, hd, rfl⟩) hK (by rw [hf]; exact h)
          | true =>
            rw [h2] at h
            exact bd_s_call2 (Y' := bc_yt j) (fun D' hD' => hAs g D D' hA hD') (by have v9 : bc_vP (bc_yt j) (bc_fg j) := v1; rw [hf] at v9; exact v9) (m3 ix j pos hml2 h2) F (bc_ml_w hml2).1 hd rfl hK h
      · rename_i k hml2
        cases hk : (Nat.ble 4 k || Nat.beq k 2) with
        | true => rw [hk] at h; exact h.elim
        | false =>
          rw [hk] at h
          rw [Bool.or_eq_false_iff] at hk
          intro hok
          exact bc_jdk_all (bd_gq g (bc_Z g) (bd_J g s D)) Y d p e R s m args below meth c Q c0 s0 F.1 k _ ix pc lv st σ n hml2 (Or.inl ⟨by have := Nat.not_le_of_not_ble_eq_true (by rw [hk.1]; decide : ¬ Nat.ble 4 k = true); omega, rfl⟩) hd (fun e2 => by rw [e2] at hk; exact absurd hk.2 (by decide)) (bc_jdk_mono (fun r σ' q => hK _ _ _ _ _ _ _ hA F q hok) h)
      · exact h.elim
    | _ => first | exact False.elim h | cases hb
/-- MANY STEPS -/
theorem bd_run_ok {L : bd_KT} {Rr : Option bc_A → List bd_O → bc_M → Prop} {A : bc_C → List bd_O → Prop} {cuts : List Nat} (hm : bd_mt Y) (hsc : sc.1 < 2000)
    (hAs : ∀ (g : bc_C) (D D' : List bd_O), A g D → D'.map bd_two = D.map bd_two → A g D')
    (hAn : ∀ (g : bc_C) (D : List bd_O) (a : Nat) (o : bd_O), A g D → D.length ≤ 90 → A (bd_up g (500 + D.length) a) (D ++ [o]))
    (hAm : ∀ (g : bc_C) (D : List bd_O) (a b : Nat) (o : bd_O), A g D → D.length ≤ 90 → A (bd_up (bd_up g (500 + D.length) a) (700 + D.length) b) (D ++ [o]))
    (hL : bd_KO sc Y d p e R s m args below meth c Q c0 s0 A L)
    (hR : ∀ (g : bc_C) (D : List bd_O) (pc : Nat) (i : Instr) (len : Nat) (ts : List Nat) (lv : bc_LV) (st : List bc_A) (σ : bc_M) (n : Nat) (r : Option bc_A), A g D → bd_Fx sc g Y d p R s m args meth c c0 s0 → bc_code Y pc = some (i, len, ts) → bc_rok (bc_ret Y) i r st → Rr r D σ → bd_T Y p e R s m args below meth c Q c0 s0 g D pc lv st σ n) :
    ∀ f : Nat, bd_KO sc Y d p e R s m args below meth c Q c0 s0 A (bd_run sc Y L Rr (bd_C1 d) (bd_C2 sc d) cuts f) := by
  intro f
  induction f with
  | zero => exact hL
  | succ f ih =>
    intro g D pc lv st σ n hA F h
    have hK : bd_KO sc Y d p e R s m args below meth c Q c0 s0 A (fun g D pc lv st σ n => bif cuts.elem pc then L g D pc lv st σ n else bd_run sc Y L Rr (bd_C1 d) (bd_C2 sc d) cuts f g D pc lv st σ n) := by
      intro g D pc lv st σ n hA F h
      cases hc : cuts.elem pc with
      | true => rw [hc] at h; exact hL _ _ _ _ _ _ _ hA F h
      | false => rw [hc] at h; exact ih _ _ _ _ _ _ _ hA F h
    change (match bc_code Y pc with
      | some (i, len, ts) => bd_stp sc Y (fun g D pc lv st σ n => bif cuts.elem pc then L g D pc lv st σ n else bd_run sc Y L Rr (bd_C1 d) (bd_C2 sc d) cuts f g D pc lv st σ n) Rr (bd_C1 d) (bd_C2 sc d) i len ts g D pc lv st σ n
      | none => False) at h
    split at h
    · rename_i i len ts hc
      exact bd_step hm hsc F hA hAs hAn hAm hK hR hc h
    · exact h.elim
/-- how the cells of the moment stand to those of the entry -/
def bd_rel (g0 : bc_C) (D0 : List bd_O) (g : bc_C) (D : List bd_O) : Prop := bd_ag g0 g D0.length ∧ ∃ l, D.map bd_two = D0.map bd_two ++ l
theorem bd_rel_s {g0 : bc_C} {D0 : List bd_O} (g : bc_C) (D D' : List bd_O) (h : bd_rel g0 D0 g D) (hm : D'.map bd_two = D.map bd_two) : bd_rel g0 D0 g D' := ⟨h.1, by rw [hm]; exact h.2⟩
theorem bd_rel_len {g0 : bc_C} {D0 : List bd_O} (h : bd_rel g0 D0 g D) : D0.length ≤ D.length := by
  obtain ⟨-, l, h⟩ := h
  have := congrArg List.length h
  rw [List.length_map, List.length_append, List.length_map] at this
  omega
theorem bd_rel_n {g0 : bc_C} {D0 : List bd_O} (g : bc_C) (D : List bd_O) (a : Nat) (o : bd_O) (h : bd_rel g0 D0 g D) (h90 : D.length ≤ 90) : bd_rel g0 D0 (bd_up g (500 + D.length) a) (D ++ [o]) := by
  have hl := bd_rel_len h
  obtain ⟨h1, l, h2⟩ := h
  exact ⟨bd_ag_up h1 (Or.inl ⟨by omega, by omega⟩), l ++ [bd_two o], by rw [List.map_append, h2, List.append_assoc]; rfl⟩
theorem bd_rel_m {g0 : bc_C} {D0 : List bd_O} (g : bc_C) (D : List bd_O) (a b : Nat) (o : bd_O) (h : bd_rel g0 D0 g D) (h90 : D.length ≤ 90) : bd_rel g0 D0 (bd_up (bd_up g (500 + D.length) a) (700 + D.length) b) (D ++ [o]) := by
  have hl := bd_rel_len h
  obtain ⟨h1, l, h2⟩ := h
  exact ⟨bd_ag_up (bd_ag_up h1 (Or.inl ⟨by omega, by omega⟩)) (Or.inr ⟨by omega, by omega⟩), l ++ [bd_two o], by rw [List.map_append, h2, List.append_assoc]; rfl⟩
theorem bd_is_ag {g0 : bc_C} {ad : Nat → Nat} {U : State} {i : Nat} {o : bd_O} {H : Heap} (h1 : ad (500 + i) = bc_ad g0 (500 + i)) (h2 : ad (700 + i) = bc_ad g0 (700 + i)) (h : bd_is (g0.1, g0.2.1, g0.2.2.1, ad, g0.2.2.2.2) U i o H) : bd_is g0 U i o H := by
  obtain q | l | l := o
  · show H[bc_ad g0 (500 + i)]? = _
    rw [← h1]
    exact h
  · have h : bd_tx (g0.1, g0.2.1, g0.2.2.1, ad, g0.2.2.2.2) U i l H := h
    show bd_tx g0 U i l H
    unfold bd_tx at h ⊢
    rw [← h1, ← h2]
    exact h
  · have h : bd_bl (g0.1, g0.2.1, g0.2.2.1, ad, g0.2.2.2.2) U i l H := h
    show bd_bl g0 U i l H
    unfold bd_bl at h ⊢
    rw [← h1, ← h2]
    exact h
/-- what lives is forgotten -/
theorem bd_lv_tk {k j : Nat} (h : bd_lv (D.take k) j) : bd_lv D j := by
  rcases h with h | ⟨i, o, ho, h⟩
  · exact Or.inl h
  · have hi : i < k := by
      have := (List.getElem?_eq_some_iff.mp ho).1
      rw [List.length_take] at this
      omega
    rw [List.getElem?_take_of_lt hi] at ho
    exact Or.inr ⟨i, o, ho, h⟩
theorem bd_ok_tk {k : Nat} (h : bd_ok g D) : bd_ok g (D.take k) := ⟨by rw [List.length_take]; have := h.1; omega, fun a b ha hb => h.2.1 a b (bd_lv_tk ha) (bd_lv_tk hb), fun a ha => h.2.2 a (bd_lv_tk ha)⟩
theorem bd_J_tk {U : State} {k : Nat} {H : Heap} (h : bd_J g U D H) : bd_J g U (D.take k) H := by
  intro i o ho
  have hi : i < k := by
    have := (List.getElem?_eq_some_iff.mp ho).1
    rw [List.length_take] at this
    omega
  rw [List.getElem?_take_of_lt hi] at ho
  exact h i o ho
theorem bd_rel_tk {g0 : bc_C} {D0 : List bd_O} {k : Nat} (hk : D0.length ≤ k) (h : bd_rel g0 D0 g D) : bd_rel g0 D0 g (D.take k) := by
  obtain ⟨h1, l, h2⟩ := h
  refine ⟨h1, l.take (k - D0.length), ?_⟩
  rw [List.map_take, h2, List.take_append, List.length_map, List.take_of_length_le (by rw [List.length_map]; exact hk)]
/-- a text moves -/
def bd_mvv (i j : Nat) (v : bc_A) : bc_A := match v with
  | .inr (.inl k) => bif Nat.beq k (500 + j) then bc_R (500 + i) else bc_R k
  | v => v
def bd_mok (i j : Nat) (v : bc_A) : Bool := match v with
  | .inr (.inl k) => Nat.beq k (500 + j) || (!(Nat.beq k (500 + i)) && !(Nat.beq k (700 + i)))
  | .inr (.inr (.inl _)) => false
  | _ => true
def bd_mg (g : bc_C) (i j : Nat) : bc_C := bd_up (bd_up g (500 + i) (bc_ad g (500 + j))) (700 + i) (bc_ad g (700 + j))
theorem bd_mg_5 {i j : Nat} (hi : i < 200) : bc_ad (bd_mg g i j) (500 + i) = bc_ad g (500 + j) := by
  unfold bd_mg
  rw [bd_up_ad (by omega), bd_up_at]
theorem bd_mg_7 {i j : Nat} : bc_ad (bd_mg g i j) (700 + i) = bc_ad g (700 + j) := bd_up_at
theorem bd_mg_o {i j k : Nat} (h5 : k ≠ 500 + i) (h7 : k ≠ 700 + i) : bc_ad (bd_mg g i j) k = bc_ad g k := by
  unfold bd_mg
  rw [bd_up_ad h7, bd_up_ad h5]
theorem bd_mv_v {i j : Nat} {v : bc_A} (hi : i < 200) (h : bd_mok i j v = true) : bc_v (bd_mg g i j) (bd_mvv i j v) = bc_v g v := by
  obtain v | v | v | v | v | v := v
  · rfl
  · show bc_v (bd_mg g i j) (bif Nat.beq v (500 + j) then bc_R (500 + i) else bc_R v) = Value.ref (bc_ad g v)
    cases hb : Nat.beq v (500 + j) with
    | true =>
      obtain rfl := Nat.eq_of_beq_eq_true hb
      exact congrArg Value.ref (bd_mg_5 hi)
    | false =>
      have h : (Nat.beq v (500 + j) || (!(Nat.beq v (500 + i)) && !(Nat.beq v (700 + i)))) = true := h
      rw [hb, Bool.false_or] at h
      obtain ⟨h1, h2⟩ := Bool.and_eq_true_iff.mp h
      exact congrArg Value.ref (bd_mg_o (fun e => by rw [e, Nat.beq_refl] at h1; cases h1) (fun e => by rw [e, Nat.beq_refl] at h2; cases h2))
  · cases h
  · rfl
  · rfl
  · rfl
/-- where a live cell stood before a text was moved -/
theorem bd_mv_lv {i j : Nat} {w : List Nat} (hij : i ≤ j) (hj : D[j]? = some (bd_txt w)) (h100 : D.length ≤ 100) {k : Nat} (h : bd_lv (D.take i ++ [bd_txt w]) k) : ∃ k' : Nat, bd_lv D k' ∧ bc_ad (bd_mg g i j) k = bc_ad g k' ∧ ((k = 500 + i ∧ k' = 500 + j) ∨ (k = 700 + i ∧ k' = 700 + j) ∨ (k' = k ∧ (k < 500 + i ∨ (700 ≤ k ∧ k < 700 + i)))) := by
  have jlt := (List.getElem?_eq_some_iff.mp hj).1
  have hlen : (D.take i).length = i := by rw [List.length_take]; omega
  rcases h with h | ⟨t, o, ho, h⟩
  · exact ⟨k, Or.inl h, bd_mg_o (by omega) (by omega), Or.inr (Or.inr ⟨rfl, by omega⟩)⟩
  · by_cases ht : t < i
    · rw [List.getElem?_append_left (by rw [hlen]; exact ht), List.getElem?_take_of_lt ht] at ho
      refine ⟨k, Or.inr ⟨t, o, ho, h⟩, bd_mg_o ?_ ?_, Or.inr (Or.inr ⟨rfl, ?_⟩)⟩ <;> rcases h with h | ⟨h, -⟩ <;> omega
    · have e : t = i := by
        have := (List.getElem?_eq_some_iff.mp ho).1
        rw [List.length_append, hlen] at this
        simp only [List.length_cons, List.length_nil] at this
        omega
      subst e
      rcases h with h | ⟨h, -⟩
      · subst h
        exact ⟨500 + j, Or.inr ⟨j, _, hj, Or.inl rfl⟩, bd_mg_5 (by omega), Or.inl ⟨rfl, rfl⟩⟩
      · subst h
        exact ⟨700 + j, Or.inr ⟨j, _, hj, Or.inr ⟨rfl, rfl⟩⟩, bd_mg_7, Or.inr (Or.inl ⟨rfl, rfl⟩)⟩
theorem bd_ok_mv {i j : Nat} {w : List Nat} (hij : i ≤ j) (hj : D[j]? = some (bd_txt w)) (h : bd_ok g D) : bd_ok (bd_mg g i j) (D.take i ++ [bd_txt w]) := by
  have jlt := (List.getElem?_eq_some_iff.mp hj).1
  have h100 := h.1
  refine ⟨by rw [List.length_append, List.length_take]; simp only [List.length_cons, List.length_nil]; omega, fun k k' hk hk' q => ?_, fun k hk => ?_⟩
  · obtain ⟨a, a1, a2, a3⟩ := bd_mv_lv (g := g) hij hj h100 hk
    obtain ⟨b, b1, b2, b3⟩ := bd_mv_lv (g := g) hij hj h100 hk'
    rw [a2, b2] at q
    have e := h.2.1 a b a1 b1 q
    omega
  · obtain ⟨a, a1, a2, -⟩ := bd_mv_lv (g := g) hij hj h100 hk
    rw [a2]
    exact h.2.2 a a1
theorem bd_J_mv {U : State} {i j : Nat} {w : List Nat} {H : Heap} (hij : i ≤ j) (hj : D[j]? = some (bd_txt w)) (h100 : D.length ≤ 100) (h : bd_J g U D H) : bd_J (bd_mg g i j) U (D.take i ++ [bd_txt w]) H := by
  have jlt := (List.getElem?_eq_some_iff.mp hj).1
  have hlen : (D.take i).length = i := by rw [List.length_take]; omega
  intro t o ho
  by_cases ht : t < i
  · rw [List.getElem?_append_left (by rw [hlen]; exact ht), List.getElem?_take_of_lt ht] at ho
    exact bd_is_ag (g0 := bd_mg g i j) (ad := bc_ad g) (bd_mg_o (by omega) (by omega)).symm (bd_mg_o (by omega) (by omega)).symm (h t o ho)
  · have e : t = i := by
      have := (List.getElem?_eq_some_iff.mp ho).1
      rw [List.length_append, hlen] at this
      simp only [List.length_cons, List.length_nil] at this
      omega
    subst e
    rw [List.getElem?_append_right (by rw [hlen]; exact Nat.le_refl _), hlen, Nat.sub_self] at ho
    cases ho
    have h1 : bd_tx g U j w H := h j _ hj
    show bd_tx (bd_mg g t j) U t w H
    unfold bd_tx at h1 ⊢
    rw [bd_mg_5 (by omega), bd_mg_7]
    exact h1
/-- it returns -/
theorem bd_s_ret {g0 : bc_C} {D0 : List bd_O} {R0 : Option bc_A → List bd_O → bc_M → Prop} {i : Instr} {len : Nat} {ts : List Nat} {r0 : Option bc_A} (hno : ∀ t, bc_ret Y ≠ some (.object t)) (hA : bd_rel g0 D0 g D) (F : bd_Fx sc g Y d p R s m args meth c 0 0) (hc : bc_code Y pc = some (i, len, ts)) (hr : bc_rok (bc_ret Y) i r0 st) (h : R0 r0 (D.take D0.length) σ) :
    bd_T Y p e R s m args below meth c (vx_MQ below (bd_Qc g0 D0 R0) (fun _ _ _ => False) args s (bc_cost Y) (6 * bc_cost Y) (bc_Z g0)) 0 0 g D pc lv st σ n := by
  have hlen := bd_rel_len hA
  obtain ⟨⟨ad, rfl, had⟩, l, hl9⟩ := hA
  obtain ⟨⟨hx, hb, hml, hts, hown, hlocks, hap, htr, hE, hz, hok1, -, -, -, -, hret⟩, -⟩ := F
  obtain ⟨hd, htg, hln⟩ := hok1 pc i len ts hc
  intro hok H locs ls hn hH hS hl
  have hJ : bd_J (g0.1, g0.2.1, g0.2.2.1, ad, g0.2.2.2.2) s D H := hH.2
  refine W.widen (k := bc_cost Y) (n := 6 * bc_cost Y) (by omega) (by omega) (vx_ret ?_)
  have hm : (D.take D0.length).map bd_two = D0.map bd_two := by
    rw [List.map_take, hl9, List.take_append_of_le_length (by rw [List.length_map]; exact Nat.le_refl _), List.take_of_length_le (by rw [List.length_map]; exact Nat.le_refl _)]
  have hJ0 : bd_J g0 s (D.take D0.length) H := by
    intro j o ho
    have hj : j < D0.length := by
      have := (List.getElem?_eq_some_iff.mp ho).1
      rw [List.length_take] at this
      omega
    rw [List.getElem?_take_of_lt hj] at ho
    exact bd_is_ag (had _ (Or.inl (by omega))) (had _ (Or.inr (Or.inl ⟨by omega, by omega⟩))) (hJ j o ho)
  have hP0 : va_P (bc_Dd g0) bc_cl (bc_ws g0 σ) H := by
    have h9 : va_P (bc_Dd g0) bc_cl (bc_ws (g0.1, g0.2.1, g0.2.2.1, ad, g0.2.2.2.2) σ) H := hH.1
    rw [bd_ws_eq (fun k hk => had k (Or.inl (by omega)))] at h9
    exact h9
  have post : ∀ v : Option Value, v = r0.map (bc_v g0) → ∀ t : State, t.heap = H → s.WarmedH t.vm → bd_Qc g0 D0 R0 args s (.returned v) t := fun v e t ht hW => ⟨⟨r0, _, σ, by rw [e], h, hm, by rw [ht]; exact hP0, by rw [ht]; exact bd_J_al hW.alike hJ0⟩, va_S.F (A := bc_Z g0) hS ht⟩
  have hS2 : ∀ q ∈ locs, bc_Z g0 q.base := hS.2.2
  rcases hr with ⟨rfl, x, rfl, rfl, ht⟩ | ⟨rfl, x, rfl, rfl, ht⟩ | ⟨rfl, x, rfl, rfl, ht⟩ | ⟨rfl, x, rfl, rfl, ht⟩ | ⟨rfl, x, rfl, rfl, t, ht⟩ | ⟨rfl, rfl, rfl, ht⟩
  · have hl1 : len = 1 := eq_of_beq hln
    subst hl1
    rcases ht with ht | ⟨ht, h0, h1⟩ | ⟨ht, h0, h1⟩
    · exact bc_iret hx hb (hret.trans ht) rfl (post _ rfl) hS2 hd hlocks
    · exact bc_iret hx hb (hret.trans ht) (bc_fit_e (ty := 2) (A := True) ⟨⟨h0, h1⟩, trivial⟩).2.2.1 (post _ rfl) hS2 hd hlocks
    · exact bc_iret hx hb (hret.trans ht) (bc_fit_e (ty := 1) (A := True) ⟨⟨h0, h1⟩, trivial⟩).2.2.1 (post _ rfl) hS2 hd hlocks
  · have hl1 : len = 1 := eq_of_beq hln
    subst hl1
    exact W.lret hx hb (hret.trans ht) (post _ rfl) hS2 hd
  · have hl1 : len = 1 := eq_of_beq hln
    subst hl1
    exact W.fret hx hb (hret.trans ht) (post _ rfl) hS2 hd
  · have hl1 : len = 1 := eq_of_beq hln
    subst hl1
    exact W.dret hx hb (hret.trans ht) (post _ rfl) hS2 hd
  · exact absurd ht (hno t)
  · have hl1 : len = 1 := eq_of_beq hln
    subst hl1
    exact W.vret hx hb (hret.trans ht) (post _ rfl) hS2 hd
/-- a continuation that the body of a law's method may use -/
def bd_Good (sc : Nat × (Nat → Int32)) (Y : bc_Y) (d : Nat) (Rr : Option bc_A → List bd_O → bc_M → Prop) (K : bd_KT) : Prop :=
  (∀ (cuts : List Nat) (f : Nat) (g : bc_C) (D : List bd_O) (pc : Nat) (lv : bc_LV) (st : List bc_A) (σ : bc_M) (n : Nat), bd_run sc Y K Rr (bd_C1 d) (bd_C2 sc d) cuts f g D pc lv st σ n → K g D pc lv st σ n) ∧
  (∀ (g : bc_C) (D : List bd_O) (pc : Nat) (lv lv' : bc_LV) (st : List bc_A) (σ : bc_M) (n : Nat), (∀ q ∈ lv', q ∈ lv) → K g D pc lv' st σ n → K g D pc lv st σ n)
/-- what it may do besides: forget what it made, move a text to the front -/
def bd_Fg (m : Nat) (K : bd_KT) : Prop :=
  (∀ (k : Nat) (g : bc_C) (D : List bd_O) (pc : Nat) (lv : bc_LV) (st : List bc_A) (σ : bc_M) (n : Nat), m ≤ k → K g (D.take k) pc lv st σ n → K g D pc lv st σ n) ∧
  (∀ (i j : Nat) (w : List Nat) (g : bc_C) (D : List bd_O) (pc : Nat) (lv : bc_LV) (st : List bc_A) (σ : bc_M) (n : Nat), m ≤ i → i ≤ j → j < 100 → D[j]? = some (bd_txt w) → (lv.all (fun q => bd_mok i j q.2) && st.all (bd_mok i j)) = true → K (bd_mg g i j) (D.take i ++ [bd_txt w]) pc (lv.map (fun q => (q.1, bd_mvv i j q.2))) (st.map (bd_mvv i j)) σ n → K g D pc lv st σ n)
end BDN
/-- A LAW'S METHOD, from its entry -/
theorem bd_enter2 {sc : Nat × (Nat → Int32)} {g : bc_C} {D : List bd_O} {Y : bc_Y} {d : Nat} {as : List bc_A} {σ : bc_M} {Rr : Option bc_A → List bd_O → bc_M → Prop} (hsc : sc.1 < 2000) (hv : bc_vP Y true) (hh : bc_hh Y = []) (hmt : bd_mt Y)
    (ha : (as.all (fun v => !bc_wide v) && Nat.ble as.length (bc_nL Y)) = true) (body : ∀ K : bd_KT, bd_Good sc Y d (fun r D' σ' => Rr r (D'.take D.length) σ') K → bd_Fg D.length K → K g D 0 (bc_lv0 0 as) [] σ 0) : bd_Sem sc g D (d + 1) Y as σ Rr := by
  rw [Bool.and_eq_true] at ha
  have has : ∀ v ∈ as, bc_wide v = false := fun v hvm => by simpa using List.all_eq_true.mp ha.1 v hvm
  have hlen := Nat.le_of_ble_eq_true ha.2
  obtain ⟨w1, w2, w3, w4, w5, w6, w7, w8, w9, w10⟩ := hv
  refine ⟨trivial, vx_ofW (cc := Y.2.1) (maxL := bc_nL Y) (ret := bc_ret Y) w3 (bc_wsm_hd hh) ?_⟩
  intro p e s m args below meth c s₁ B hml hnt hP
  obtain ⟨rfl, htr, hP1, hE, hz, hok, hJ, hW⟩ := hP
  have hx := B.exec
  have hb := B.bytes
  have hr := B.returns
  have hts := atoms_spec (ws := bc_wsm Y) B.pre
  have hown := findClass_of_methodNamed B.named
  have hlocks := B.notSynchronized
  have htW : ∀ w ∈ bc_W, w.before (as.map (bc_v g)).toArray s = true := fun w hw => hts w (by rw [bc_wsm_hd hh]; exact List.mem_cons_of_mem _ hw)
  obtain ⟨e1, e2⟩ := bc_lv0_args g as 0 has
  have hl := lv_entry (as.map (bc_v g)) (n := bc_nL Y) (by rw [e2]; exact hlen)
  rw [e1] at hl
  rw [lg_entry_eq]
  have hap : bc_ap g := ⟨fun i j hi hj q => hok.2.1 i j (Or.inl hi) (Or.inl hj) q, fun i hi => hok.2.2 i (Or.inl hi)⟩
  have F : bd_Fx sc g Y d p (headSpec (bc_wsm Y) (bc_rm (d + 1) (bc_cost Y))).room s m (as.map (bc_v g)).toArray meth c 0 0 := by
    refine ⟨⟨hx, hb, hml, htW, by rw [← w7]; exact hown, hlocks, hap, htr, hE, hz, w9, ?_, ?_, ?_, ?_, hr⟩, hW⟩
    · exact Nat.le_refl _
    · exact bc_loc d
    · exact Nat.le_of_eq (Nat.zero_add _)
    · exact Nat.le_of_eq (Nat.zero_add _)
  let L : bd_KT := fun g' D' pc lv st σ n => bd_rel g D g' D' → bd_Fx sc g' Y d p (headSpec (bc_wsm Y) (bc_rm (d + 1) (bc_cost Y))).room s m (as.map (bc_v g)).toArray meth c 0 0 → bd_T Y p e (headSpec (bc_wsm Y) (bc_rm (d + 1) (bc_cost Y))).room s m (as.map (bc_v g)).toArray below meth c (vx_MQ below (bd_Qc g D Rr) (fun _ _ _ => False) (as.map (bc_v g)).toArray s (bc_cost Y) (6 * bc_cost Y) (bc_Z g)) 0 0 g' D' pc lv st σ n
  have G : bd_Good sc Y d (fun r D' σ' => Rr r (D'.take D.length) σ') L := by
    refine ⟨fun cuts f g' D' pc lv st σ n h hA F' => ?_, fun g' D' pc lv lv' st σ n hs h hA F' hok' => bc_T_sub hs (h hA F' hok')⟩
    exact bd_run_ok (A := bd_rel g D) hmt hsc bd_rel_s bd_rel_n bd_rel_m (fun g' D' pc lv st σ n hA F' h => h hA F') (fun g' D' pc i len ts lv st σ n r hA F' hc hr h => bd_s_ret hmt.2.2.2 hA F' hc hr h) f g' D' pc lv st σ n hA F' h
  have G2 : bd_Fg D.length L := by
    refine ⟨fun k g' D' pc lv st σ n hk h hA F' hok' H locs ls hn hH hS hl => ?_, fun i j w g' D' pc lv st σ n hi hij h100 hj hv2 h hA F' hok' H locs ls hn hH hS hl => ?_⟩
    · exact h (bd_rel_tk hk hA) F' (bd_ok_tk hok') H locs ls hn ⟨hH.1, bd_J_tk hH.2⟩ hS hl
    · obtain ⟨v1, v2⟩ := Bool.and_eq_true_iff.mp hv2
      have jlt := (List.getElem?_eq_some_iff.mp hj).1
      have hrel : bd_rel g D (bd_mg g' i j) (D'.take i ++ [bd_txt w]) := by
        obtain ⟨h1, l, h2⟩ := hA
        refine ⟨bd_ag_up (bd_ag_up h1 (Or.inl ⟨by omega, by omega⟩)) (Or.inr ⟨by omega, by omega⟩), l.take (i - D.length) ++ [true], ?_⟩
        rw [List.map_append, List.map_take, h2, List.take_append, List.length_map, List.take_of_length_le (by rw [List.length_map]; exact hi), List.append_assoc]
        rfl
      have e1 : bc_lv (bd_mg g' i j) (lv.map (fun q => (q.1, bd_mvv i j q.2))) = bc_lv g' lv := by
        unfold bc_lv
        rw [List.map_map]
        exact List.map_congr_left (fun z hz => by show (z.1, bc_v (bd_mg g' i j) (bd_mvv i j z.2)) = _; rw [bd_mv_v (by omega) (List.all_eq_true.mp v1 z hz)])
      have e2 : (st.map (bd_mvv i j)).map (bc_v (bd_mg g' i j)) = st.map (bc_v g') := by
        rw [List.map_map]
        exact List.map_congr_left (fun z hz => bd_mv_v (by omega) (List.all_eq_true.mp v2 z hz))
      have h5 := h hrel (bd_Fx_up (by omega) (by omega) (bd_Fx_up (by omega) (by omega) F')) (bd_ok_mv hij hj hok') H locs ls hn ⟨?_, bd_J_mv hij hj hok'.1 hH.2⟩ hS (by show lv_has ls (bc_nL Y) (bc_lv (bd_mg g' i j) (lv.map (fun q => (q.1, bd_mvv i j q.2)))); rw [e1]; exact hl)
      · have h6 : W p (bc_l g') e (headSpec (bc_wsm Y) (bc_rm (d + 1) (bc_cost Y))).room s m (as.map (bc_v g)).toArray below meth c H locs (0 + n) (0 + 6 * n) (vx_MQ below (bd_Qc g D Rr) (fun _ _ _ => False) (as.map (bc_v g)).toArray s (bc_cost Y) (6 * bc_cost Y) (bc_Z g)) (F0 m pc ls ((st.map (bd_mvv i j)).map (bc_v (bd_mg g' i j)))) := h5
        rw [e2] at h6
        exact h6
      · show va_P (bc_Dd g') bc_cl (bc_ws (bd_mg g' i j) σ) H
        unfold bd_mg
        rw [bd_up_ws (by omega), bd_up_ws (by omega)]
        exact hH.1
  have := body L G G2 ⟨bd_ag_rf g D.length, [], by rw [List.append_nil]⟩ F hok s.heap [] _ (Nat.zero_le _) ⟨hP1, hJ⟩ va_S.rf hl
  exact this
theorem bd_enter {sc : Nat × (Nat → Int32)} {g : bc_C} {D : List bd_O} {Y : bc_Y} {d : Nat} {as : List bc_A} {σ : bc_M} {Rr : Option bc_A → List bd_O → bc_M → Prop} (hsc : sc.1 < 2000) (hv : bc_vP Y true) (hh : bc_hh Y = []) (hmt : bd_mt Y)
    (ha : (as.all (fun v => !bc_wide v) && Nat.ble as.length (bc_nL Y)) = true) (body : ∀ K : bd_KT, bd_Good sc Y d (fun r D' σ' => Rr r (D'.take D.length) σ') K → K g D 0 (bc_lv0 0 as) [] σ 0) : bd_Sem sc g D (d + 1) Y as σ Rr := bd_enter2 hsc hv hh hmt ha (fun K h _ => body K h)
