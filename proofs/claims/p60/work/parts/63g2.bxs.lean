/-! calls of the JDK's builders and texts from a law's method -/
theorem sj_I.at {θ : sj_w} {E : va_G} {cB : ClassId} {A : Nat → Prop} {ss : List sj_s} {U : State} {H : Heap} (h : sj_I (E, cB, θ.2.2.1, θ.2.2.2.1, A) [] U H) (hz : ∀ q, θ.2.2.2.2 q → A q) (hn : ∀ q : Nat, H.size ≤ q → θ.2.2.2.2 q) (hK : va_K θ.1 sj_cl [(θ.2.1, .byte)] U) (hs : ∀ q ∈ ss, sj_S θ q U H) : sj_I θ ss U H :=
  ⟨hK, ⟨h.2.1.1.narrow hz, h.2.1.2.narrow hz⟩, ⟨h.2.2.1.1.narrow hz, h.2.2.1.2.narrow hz⟩, ⟨h.2.2.2.1.1.narrow hz, h.2.2.2.1.2.narrow hz⟩, hn, h.2.2.2.2.2.1, hs⟩
section BXA
variable {l : Launch} {θ : sj_w} {E : va_G} {cB : ClassId} {A : Nat → Prop} {ss : List sj_s} {ws : va_W} {post : Option Value → Heap → Prop} {mc ms : Nat}
variable {p : Program} {e : Env} {R : Room} {s : State} {m : MethodId} {args : Array Value} {below : List Frame} {meth : Method} {c : Code} {Q : State → Prop} {H : Heap} {locs : List Loc} {cells slots : Nat} {pc : Nat} {ls : Array Slot} {st0 rest : List Value} {cc : ByteArray}
/-- what a call leaves, at other bounds -/
theorem bx_go {a : Array Value} (hr : va_Run p l e R s m args below meth c H locs cells slots mc ms (F0 m pc ls st0) rest (sj_Q θ.2.2.2.2 post a) θ.2.2.2.2) (hZ : ∀ q, θ.2.2.2.2 q → A q) (hS : va_S A s.heap H locs)
    (kk : ∀ (r : Option Value) (H1 : Heap) (locs1 : List Loc), post r H1 → (∀ q : Nat, q < H.size → ¬ θ.2.2.2.2 q → H1[q]? = H[q]?) → H.size ≤ H1.size → va_S A s.heap H1 locs1 → W p l e R s m args below meth c H1 locs1 (cells + mc) (slots + ms) Q (F0 m (pc + 3) ls (r.toList ++ rest))) : W p l e R s m args below meth c H locs cells slots Q (F0 m pc ls st0) := by
  intro T hT X
  obtain ⟨v, st₀, t, T', L, h0, X', hL, e1, e2, ⟨⟨r, hv, hp⟩, hF⟩, st⟩ := hr T hT X
  cases hv
  obtain ⟨k1, k2, k3⟩ := vx_keep h0 e1 hS (fun q _ h => hZ q h) (fun q h => hZ q h) hL hF
  obtain ⟨t2, a1, b1⟩ := kk _ T'.heap (locs ++ L) (by rw [e1]; exact hp) k2 k1 k3 T' rfl X'
  exact ⟨t2, st t2 a1, b1⟩
theorem bx_pre {as : List Value} (hI : sj_I (E, cB, θ.2.2.1, θ.2.2.2.1, A) [] s s.heap) (hS : va_S A s.heap H locs) (hz : ∀ q, θ.2.2.2.2 q → A q) (hn : ∀ q : Nat, H.size ≤ q → θ.2.2.2.2 q) (hK : va_K θ.1 sj_cl [(θ.2.1, .byte)] s) (hP : va_P θ.1 sj_cl ws H) (hs : ∀ q ∈ ss, sj_S θ q s H) : ∀ U : State, U.heap = H → s.WarmedH U.vm → sj_Pc θ ss as ws H as.toArray U := fun U hU hW =>
  ⟨rfl, hU, hP, sj_I.at (sj_I.go (θ := (E, cB, θ.2.2.1, θ.2.2.2.1, A)) hW.alike hS.1 (fun a ha hna => hS.2.1 a ha hna) hI) hz hn (va_K.moved hW.alike hK) (fun q hq => (hs q hq).go hW.alike (fun _ _ _ => rfl))⟩
/-- a method of an object of class C, at other bounds -/
theorem bx_cV {C : String} {y : MethodName} {bytes : ByteArray} {mL : Nat} {ret : Option FieldType} {k n ix b : Nat} {own : String} {As : List Value} (hx : p.tables.exec = Jvm.exec) (hb : c.code = cc) (hml : c.maxLocals = ls.size) (hown : s.vm.findClass own = some m.cls) (hts : ∀ w ∈ bc_W, w.before args s = true) (hZ : ∀ q, θ.2.2.2.2 q → A q) (hS : va_S A s.heap H locs) (hpre : ∀ U : State, U.heap = H → s.WarmedH U.vm → sj_Pc θ ss (.ref b :: As) ws H (Value.ref b :: As).toArray U)
    (hM : sj_M l θ ss y bytes mL ret k mc ms (.ref b :: As) ws H post) (hcw : Cond.code y bytes mL ret ∈ bc_W) (hini : Cond.initialized y.cls ∈ bc_W) (hl : Cond.methodLink own ix y ∈ bc_W) (hin : Cond.instanceMethod y ∈ bc_W) (hse : Cond.selects C y y ∈ bc_W) (hrc : ∃ cellB : Cell, H[b]? = some cellB ∧ cellB.vm.isStatics = false ∧ s.vm.findClass C = some cellB.cls)
    (hd : y.cls ≠ "java/lang/invoke/MethodHandle" ∧ y.cls ≠ "java/lang/invoke/VarHandle" ∧ (parseMethodDescriptor y.desc).map (fun d => d.parameters.length) = some n) (hR : k + 1 ≤ R.frames ∧ 8 + (mL + 11) + 50 * k ≤ R.locals) (hf : cells + mc ≤ R.cells ∧ slots + ms ≤ R.slots) (hn : As.length = n) (hs0 : st0 = As.reverse ++ .ref b :: rest) (hW : (rest.map fun v => v.category).sum ≤ 8) (hdg : decode cc pc = .ok (.invokevirtual ix, 3))
    (kk : ∀ (r : Option Value) (H1 : Heap) (locs1 : List Loc), post r H1 → (∀ q : Nat, q < H.size → ¬ θ.2.2.2.2 q → H1[q]? = H[q]?) → H.size ≤ H1.size → va_S A s.heap H1 locs1 → W p l e R s m args below meth c H1 locs1 (cells + mc) (slots + ms) Q (F0 m (pc + 3) ls (r.toList ++ rest))) : W p l e R s m args below meth c H locs cells slots Q (F0 m pc ls st0) :=
  bx_go (va_runV (C := C) (b := b) (As := As) (rest := rest) (Ts := bc_W) (cc := cc) (nL := ls.size) ⟨hx, hb, hml, hown, hts⟩ hM ⟨callB_of n hts (jd_good hcw) rfl rfl rfl (hts _ hini) (hts _ hl) hd hR, hts _ hin, hts _ hse⟩ ⟨sj_blind, hrc, hpre⟩ rfl hn rfl hs0 (lv_room hW) hdg hf) hZ hS kk
/-- a constructor, at other bounds -/
theorem bx_cI {y : MethodName} {bytes : ByteArray} {mL : Nat} {k n ix b : Nat} {own : String} {As : List Value} (hx : p.tables.exec = Jvm.exec) (hb : c.code = cc) (hml : c.maxLocals = ls.size) (hown : s.vm.findClass own = some m.cls) (hts : ∀ w ∈ bc_W, w.before args s = true) (hZ : ∀ q, θ.2.2.2.2 q → A q) (hS : va_S A s.heap H locs) (hpre : ∀ U : State, U.heap = H → s.WarmedH U.vm → sj_Pc θ ss (.ref b :: As) ws H (Value.ref b :: As).toArray U)
    (hM : sj_M l θ ss y bytes mL none k mc ms (.ref b :: As) ws H post) (hcw : Cond.code y bytes mL none ∈ bc_W) (hini : Cond.initialized y.cls ∈ bc_W) (hl : Cond.methodLink own ix y ∈ bc_W) (hin : Cond.instanceMethod y ∈ bc_W) (hy1 : y.name = "<init>")
    (hd : y.cls ≠ "java/lang/invoke/MethodHandle" ∧ y.cls ≠ "java/lang/invoke/VarHandle" ∧ (parseMethodDescriptor y.desc).map (fun d => d.parameters.length) = some n) (hR : k + 1 ≤ R.frames ∧ 8 + (mL + 11) + 50 * k ≤ R.locals) (hf : cells + mc ≤ R.cells ∧ slots + ms ≤ R.slots) (hn : As.length = n) (hs0 : st0 = As.reverse ++ .ref b :: rest) (hW : (rest.map fun v => v.category).sum ≤ 8) (hdg : decode cc pc = .ok (.invokespecial ix, 3))
    (kk : ∀ (r : Option Value) (H1 : Heap) (locs1 : List Loc), post r H1 → (∀ q : Nat, q < H.size → ¬ θ.2.2.2.2 q → H1[q]? = H[q]?) → H.size ≤ H1.size → va_S A s.heap H1 locs1 → W p l e R s m args below meth c H1 locs1 (cells + mc) (slots + ms) Q (F0 m (pc + 3) ls (r.toList ++ rest))) : W p l e R s m args below meth c H locs cells slots Q (F0 m pc ls st0) :=
  bx_go (va_runI (b := b) (As := As) (rest := rest) (Ts := bc_W) (cc := cc) (nL := ls.size) ⟨hx, hb, hml, hown, hts⟩ hM (cwI n hts (jd_good hcw) rfl rfl rfl (hts _ hini) (hts _ hl) (hts _ hin) hy1 hd hR) ⟨sj_blind, hpre⟩ rfl hn rfl hs0 (lv_room hW) hdg hf) hZ hS kk
end BXA
theorem sj_fit9 : ∀ d : Fin 128, fits .byte (.int (Int32.ofInt ((d.val : Nat) : Int))) = true := by decide +kernel
theorem sj_fit {y : Int} (h0 : 0 ≤ y) (h1 : y < 128) : fits .byte (.int (Int32.ofInt y)) = true := by
  have h := sj_fit9 ⟨y.toNat, by omega⟩
  rw [show (((⟨y.toNat, by omega⟩ : Fin 128).val : Nat) : Int) = y from Int.toNat_of_nonneg h0] at h
  exact h
section BXB
variable {p : Program} {e : Env} {R : Room} {s : State} {m : MethodId} {args : Array Value} {below : List Frame} {meth : Method} {c : Code} {Q : State → Prop} {g : bc_C} {Y : bc_Y} {d : Nat} {pc : Nat} {lv : bc_LV} {st r : List bc_A} {σ : bc_M} {n c0 s0 : Nat} {D : List bd_O} {sc : Nat × (Nat → Int32)}
/-- a text of the law's, as the JDK's walks see it -/
theorem bx_tx {θ : sj_w} {U : State} {k : Nat} {w : List Nat} {H : Heap} (h : bd_tx g U k w H) (z1 : ¬ θ.2.2.2.2 (bc_ad g (500 + k))) (z2 : ¬ θ.2.2.2.2 (bc_ad g (700 + k))) : ∃ f : Nat → Int32, sj_S θ (bc_ad g (500 + k), bc_ad g (700 + k), w.length, f) U H ∧ ∀ j : Nat, j < w.length → f j = Int32.ofInt ((w.getD j 0 : Nat) : Int) ∧ w.getD j 0 < 128 := by
  obtain ⟨f, ⟨c1, a1, a2, a3, -⟩, ⟨cf, kf, i, fd, c2, b1, b2, b3, b4, b5, -⟩, ⟨cf', kf', i', fd', c3, e1, e2, e3, e4, e5, -⟩, ⟨c4, t1, t2, t3, t4, t5, t6, -⟩, h5, h6⟩ := h
  refine ⟨f, ⟨⟨c1, a1, a2, a3, z1⟩, ⟨cf, kf, i, fd, c2, b1, b2, b3, b4, b5, z1⟩, ⟨cf', kf', i', fd', c3, e1, e2, e3, e4, e5, z1⟩, ⟨c4, t1, t2, t3, t4, t5, t6, z2⟩, h5, fun j hj => ?_⟩, h6⟩
  have hj : j < w.length := hj
  show fits .byte (.int (f j)) = true
  rw [(h6 j hj).1]
  exact sj_fit (Int.natCast_nonneg _) (by have := (h6 j hj).2; omega)
/-- live cells below the heap's end -/
theorem bx_lt {H : Heap} (hH : va_P (bc_Dd g) bc_cl (bc_ws g σ) H) (hJ : bd_J g s D H) : ∀ k : Nat, bd_lv D k → bc_ad g k < H.size := by
  intro k hk
  by_cases h0 : 218 ≤ k
  · exact bd_J_lt hJ hk h0
  · have hk2 : k < 218 := by omega
    exact (hH k _ (bc_ws_at hk2)).lt
/-- what a text on the stack is -/
def bx_T (g : bc_C) (s : State) (H : Heap) (i : Nat) (tv : bc_A) (w : List Nat) : Prop := ∃ (a dd : Nat) (f : Nat → Int32), bc_v g tv = .ref a ∧ (∀ θ : sj_w, ¬ θ.2.2.2.2 a → ¬ θ.2.2.2.2 dd → sj_S θ (a, dd, w.length, f) s H) ∧ (∀ j : Nat, j < w.length → f j = Int32.ofInt ((w.getD j 0 : Nat) : Int) ∧ w.getD j 0 < 128) ∧ (a < H.size ∧ dd < H.size) ∧ (a ≠ bc_ad g (500 + i) ∧ a ≠ bc_ad g (700 + i)) ∧ dd ≠ bc_ad g (500 + i) ∧ dd ≠ bc_ad g (700 + i)
theorem bx_getD {l w : List Nat} {j : Nat} : (l ++ w).getD j 0 = if j < l.length then l.getD j 0 else w.getD (j - l.length) 0 := by
  rw [List.getD_eq_getElem?_getD, List.getD_eq_getElem?_getD, List.getD_eq_getElem?_getD]
  by_cases h : j < l.length
  · rw [if_pos h, List.getElem?_append_left h]
  · rw [if_neg h, List.getElem?_append_right (by omega)]
/-- a text is put behind a builder's -/
theorem bd_s_apt {i : Nat} {l w : List Nat} {tv : bc_A} (F : bd_Fx sc g Y d p R s m args meth c c0 s0) (hY : bc_own Y = 12) (hd : decode Y.2.1 pc = .ok (.invokevirtual 213, 3)) (ho : D[i]? = some (bd_bld l)) (hlen : l.length + w.length ≤ 15) (hr : r.length ≤ 8 ∧ r.all (fun v => !bc_wide v) = true)
    (ht : ∀ (H : Heap) (locs : List Loc), bd_ok g D → bd_J g s D H → va_S (bc_Z g) s.heap H locs → bx_T g s H i tv w)
    (h : bd_T Y p e R s m args below meth c Q c0 s0 g (D.set i (bd_bld (l ++ w))) (pc + 3) lv (bc_R (500 + i) :: r) σ n) : bd_T Y p e R s m args below meth c Q c0 s0 g D pc lv (tv :: bc_R (500 + i) :: r) σ n := by
  obtain ⟨⟨hx, hb, hml, hts, hown, hlocks, hap, htr, hE, hz, hok1, hRf, hRl, hRc, hRs, -⟩, hX, hXl, hXz, E, cB, d1, d2, hI⟩ := F
  intro hok H locs ls hn hH hS hl
  have hJ : bd_J g s D H := hH.2
  have hlt : ∀ k : Nat, bd_lv D k → bc_ad g k < H.size := bx_lt hH.1 hJ
  have hi9 : i < 100 := Nat.lt_of_lt_of_le (List.getElem?_eq_some_iff.mp ho).1 hok.1
  have l1 : bd_lv D (500 + i) := Or.inr ⟨i, _, ho, Or.inl rfl⟩
  have l2 : bd_lv D (700 + i) := Or.inr ⟨i, _, ho, Or.inr ⟨rfl, rfl⟩⟩
  obtain ⟨E2, cB2, ml, f, b1, b2, b3, b4⟩ := (hJ i _ ho : bd_bl g s i l H)
  obtain ⟨a, dd, ft, e1, e2, e3, ⟨e4, e5⟩, ⟨e6, e7⟩, e8, e9⟩ := ht H locs hok hJ hS
  have hZ : ∀ q : Nat, (q = bc_ad g (500 + i) ∨ q = bc_ad g (700 + i) ∨ H.size ≤ q) → bc_Z g q := by
    intro q hq
    rcases hq with rfl | rfl | hq
    · exact hok.2.2 _ l1
    · exact hok.2.2 _ l2
    · exact hz q (Nat.le_trans hS.1 hq)
  have hne : bc_ad g (500 + i) ≠ bc_ad g (700 + i) := fun q => by have := hok.2.1 _ _ l1 l2 q; omega
  have hD : va_D (fun q : Nat => q = bc_ad g (500 + i) ∨ q = bc_ad g (700 + i) ∨ H.size ≤ q) [(bc_ad g (500 + i), .inr (0, [.ref (bc_ad g (700 + i)), .int 0, .int ml, .int (Int32.ofInt (l.length : Int))])), (bc_ad g (700 + i), .inl (cB2, 16, .inl f))] := by
    refine ⟨fun k k' x y hk hk' q => ?_, fun k x hk => ?_⟩
    · match k, k', hk, hk' with
      | 0, 0, _, _ => rfl
      | 1, 1, _, _ => rfl
      | 0, 1, hk, hk' => cases hk; cases hk'; exact absurd q hne
      | 1, 0, hk, hk' => cases hk; cases hk'; exact absurd q.symm hne
      | k + 2, _, hk, _ => cases hk
      | _, k + 2, _, hk' => cases hk'
    · match k, hk with
      | 0, hk => cases hk; exact Or.inl rfl
      | 1, hk => cases hk; exact Or.inr (Or.inl rfl)
      | k + 2, hk => cases hk
  have hown9 : s.vm.findClass "BridgeChapelLaw" = some m.cls := by
    rw [hY] at hown
    exact hown
  refine bx_cV (θ := (E2, cB2, d1, d2, fun q : Nat => q = bc_ad g (500 + i) ∨ q = bc_ad g (700 + i) ∨ H.size ≤ q)) (A := bc_Z g) (ss := [(a, dd, w.length, ft)]) (C := "java/lang/StringBuilder") (b := bc_ad g (500 + i)) (As := [.ref a]) (rest := r.map (bc_v g)) (n := 1) hx hb (hml.trans hl.1.symm) hown9 hts hZ hS (bx_pre (E := E) (cB := cB) hI hS hZ (fun q hq => Or.inr (Or.inr hq)) b1 b2 (fun q hq => by rw [List.mem_singleton.mp hq]; exact e2 _ (fun z => by rcases z with z | z | z; exact e6 z; exact e7 z; omega) (fun z => by rcases z with z | z | z; exact e8 z; exact e9 z; omega))) (sj_aps (n := l.length) (List.mem_singleton.mpr rfl) hD (by show l.length + w.length ≤ 16; omega)) sj_w_aps (bc_wat_ok (pos := 72) (by decide +kernel)) (bc_wat_ok (pos := 1288) (by decide +kernel)) (bc_wat_ok (pos := 1289) (by decide +kernel)) (bc_wat_ok (pos := 1290) (by decide +kernel)) (va_recv (q := ("java/lang/StringBuilder", sj_T0, 4)) (q0 := 0) b1 b2 rfl rfl) ⟨by decide +kernel, by decide +kernel, by decide +kernel⟩ ⟨by omega, by omega⟩ ⟨by omega, by omega⟩ rfl (by show bc_v g tv :: Value.ref (bc_ad g (500 + i)) :: List.map (bc_v g) r = _; rw [e1]; rfl) (bd_room hr) hd (fun r9 H1 locs1 hp hk hz1 hS1 => ?_)
  obtain ⟨rfl, hP1⟩ := hp
  have hkeep : ∀ k : Nat, bd_lv D k → k ≠ 500 + i → k ≠ 700 + i → H1[bc_ad g k]? = H[bc_ad g k]? := fun k hkl n1 n2 => hk _ (hlt k hkl) (fun z => by
    rcases z with z | z | z
    · exact n1 (hok.2.1 _ _ hkl l1 z)
    · exact n2 (hok.2.1 _ _ hkl l2 z)
    · have := hlt k hkl
      omega)
  refine h (bd_ok_set hok ho rfl) H1 locs1 ls hn ⟨va_P.kept hH.1 (fun k q hkq => ?_), fun k o hko => ?_⟩ hS1 hl
  · obtain ⟨h1, h2⟩ := bd_ws_key hkq
    rw [h2]
    exact hkeep k (Or.inl h1) (by omega) (by omega)
  · by_cases hki : k = i
    · subst hki
      rw [List.getElem?_set_self (List.getElem?_eq_some_iff.mp ho).1] at hko
      cases hko
      refine ⟨E2, cB2, ml, va_cpy ft f 0 l.length w.length, b1, ?_, by rw [List.length_append]; exact hlen, fun j hj => ?_⟩
      · rw [List.length_append, show ((l.length + w.length : Nat) : Int) = (l.length : Int) + (w.length : Int) from Int.natCast_add _ _]
        exact hP1
      · rw [List.length_append] at hj
        rw [bx_getD]
        by_cases hjl : j < l.length
        · rw [if_pos hjl, pk_cpy_out (Or.inl hjl)]
          exact b4 j hjl
        · rw [if_neg hjl, pk_cpy_in (by omega) hj, Nat.zero_add]
          exact e3 _ (by omega)
    · rw [List.getElem?_set_ne (fun q => hki q.symm)] at hko
      have l3 : bd_lv D (500 + k) := Or.inr ⟨k, _, hko, Or.inl rfl⟩
      have hk9 : k < 100 := Nat.lt_of_lt_of_le (List.getElem?_eq_some_iff.mp hko).1 hok.1
      have h9 := hJ k o hko
      obtain q | q | q := o
      · exact bd_is_row (n := q.1) (f := q.2) h9 (hkeep _ l3 (by omega) (by omega))
      · exact bd_tx_kept h9 (hkeep _ l3 (by omega) (by omega)) (hkeep _ (Or.inr ⟨k, _, hko, Or.inr ⟨rfl, rfl⟩⟩) (by omega) (by omega))
      · exact bd_bl_kept h9 (hkeep _ l3 (by omega) (by omega)) (hkeep _ (Or.inr ⟨k, _, hko, Or.inr ⟨rfl, rfl⟩⟩) (by omega) (by omega))
/-- a number of 1 is put behind a builder's -/
theorem bd_s_api1 {i : Nat} {l w : List Nat} {x : Int} (h0 : 0 ≤ x) (h1 : x < 10) (ew : w = [48 + x.toNat]) (F : bd_Fx sc g Y d p R s m args meth c c0 s0) (hY : bc_own Y = 12) (hd : decode Y.2.1 pc = .ok (.invokevirtual 207, 3)) (ho : D[i]? = some (bd_bld l)) (hlen : l.length + 1 ≤ 15) (hr : r.length ≤ 8 ∧ r.all (fun v => !bc_wide v) = true)
    (h : bd_T Y p e R s m args below meth c Q c0 s0 g (D.set i (bd_bld (l ++ w))) (pc + 3) lv (bc_R (500 + i) :: r) σ n) : bd_T Y p e R s m args below meth c Q c0 s0 g D pc lv (bc_I x :: bc_R (500 + i) :: r) σ n := by
  obtain ⟨⟨hx, hb, hml, hts, hown, hlocks, hap, htr, hE, hz, hok1, hRf, hRl, hRc, hRs, -⟩, hX, hXl, hXz, E, cB, d1, d2, hI⟩ := F
  intro hok H locs ls hn hH hS hl
  have hJ : bd_J g s D H := hH.2
  have hlt : ∀ k : Nat, bd_lv D k → bc_ad g k < H.size := bx_lt hH.1 hJ
  have hi9 : i < 100 := Nat.lt_of_lt_of_le (List.getElem?_eq_some_iff.mp ho).1 hok.1
  have l1 : bd_lv D (500 + i) := Or.inr ⟨i, _, ho, Or.inl rfl⟩
  have l2 : bd_lv D (700 + i) := Or.inr ⟨i, _, ho, Or.inr ⟨rfl, rfl⟩⟩
  obtain ⟨E2, cB2, ml, f, b1, b2, b3, b4⟩ := (hJ i _ ho : bd_bl g s i l H)
  have hZ : ∀ q : Nat, (q = bc_ad g (500 + i) ∨ q = bc_ad g (700 + i) ∨ H.size ≤ q) → bc_Z g q := by
    intro q hq
    rcases hq with rfl | rfl | hq
    · exact hok.2.2 _ l1
    · exact hok.2.2 _ l2
    · exact hz q (Nat.le_trans hS.1 hq)
  have hne : bc_ad g (500 + i) ≠ bc_ad g (700 + i) := fun q => by have := hok.2.1 _ _ l1 l2 q; omega
  have hD : va_D (fun q : Nat => q = bc_ad g (500 + i) ∨ q = bc_ad g (700 + i) ∨ H.size ≤ q) [(bc_ad g (500 + i), .inr (0, [.ref (bc_ad g (700 + i)), .int 0, .int ml, .int (Int32.ofInt (l.length : Int))])), (bc_ad g (700 + i), .inl (cB2, 16, .inl f))] := by
    refine ⟨fun k k' x y hk hk' q => ?_, fun k x hk => ?_⟩
    · match k, k', hk, hk' with
      | 0, 0, _, _ => rfl
      | 1, 1, _, _ => rfl
      | 0, 1, hk, hk' => cases hk; cases hk'; exact absurd q hne
      | 1, 0, hk, hk' => cases hk; cases hk'; exact absurd q.symm hne
      | k + 2, _, hk, _ => cases hk
      | _, k + 2, _, hk' => cases hk'
    · match k, hk with
      | 0, hk => cases hk; exact Or.inl rfl
      | 1, hk => cases hk; exact Or.inr (Or.inl rfl)
      | k + 2, hk => cases hk
  have hown9 : s.vm.findClass "BridgeChapelLaw" = some m.cls := by
    rw [hY] at hown
    exact hown
  have ew9 : w.length = 1 := by rw [ew]; rfl
  refine bx_cV (θ := (E2, cB2, d1, d2, fun q : Nat => q = bc_ad g (500 + i) ∨ q = bc_ad g (700 + i) ∨ H.size ≤ q)) (A := bc_Z g) (ss := []) (C := "java/lang/StringBuilder") (b := bc_ad g (500 + i)) (As := [.int (Int32.ofInt x)]) (rest := r.map (bc_v g)) (n := 1) hx hb (hml.trans hl.1.symm) hown9 hts hZ hS (bx_pre (E := E) (cB := cB) hI hS hZ (fun q hq => Or.inr (Or.inr hq)) b1 b2 (fun q hq => by cases hq)) (sj_apn1 (n := l.length) hD h0 h1 (by omega)) sj_w_apn (bc_wat_ok (pos := 72) (by decide +kernel)) (bc_wat_ok (pos := 1216) (by decide +kernel)) (bc_wat_ok (pos := 1217) (by decide +kernel)) (bc_wat_ok (pos := 1218) (by decide +kernel)) (va_recv (q := ("java/lang/StringBuilder", sj_T0, 4)) (q0 := 0) b1 b2 rfl rfl) ⟨by decide +kernel, by decide +kernel, by decide +kernel⟩ ⟨by omega, by omega⟩ ⟨by omega, by omega⟩ rfl rfl (bd_room hr) hd (fun r9 H1 locs1 hp hk hz1 hS1 => ?_)
  obtain ⟨rfl, hP1⟩ := hp
  have hkeep : ∀ k : Nat, bd_lv D k → k ≠ 500 + i → k ≠ 700 + i → H1[bc_ad g k]? = H[bc_ad g k]? := fun k hkl n1 n2 => hk _ (hlt k hkl) (fun z => by
    rcases z with z | z | z
    · exact n1 (hok.2.1 _ _ hkl l1 z)
    · exact n2 (hok.2.1 _ _ hkl l2 z)
    · have := hlt k hkl
      omega)
  refine h (bd_ok_set hok ho rfl) H1 locs1 ls hn ⟨va_P.kept hH.1 (fun k q hkq => ?_), fun k o hko => ?_⟩ hS1 hl
  · obtain ⟨h1, h2⟩ := bd_ws_key hkq
    rw [h2]
    exact hkeep k (Or.inl h1) (by omega) (by omega)
  · by_cases hki : k = i
    · subst hki
      rw [List.getElem?_set_self (List.getElem?_eq_some_iff.mp ho).1] at hko
      cases hko
      refine ⟨E2, cB2, ml, upd f l.length (Int32.ofInt (48 + x % 10)), b1, ?_, by rw [List.length_append, ew9]; exact hlen, fun j hj => ?_⟩
      · rw [List.length_append, ew9, show ((l.length + 1 : Nat) : Int) = (l.length : Int) + 1 from Int.natCast_add _ _]
        exact hP1
      · rw [List.length_append, ew9] at hj
        rw [bx_getD]
        by_cases hjl : j < l.length
        · rw [if_pos hjl]
          unfold upd
          rw [if_neg (by omega)]
          exact b4 j hjl
        · obtain rfl : j = l.length := by omega
          rw [if_neg hjl, Nat.sub_self, ew]
          unfold upd
          rw [if_pos rfl]
          show Int32.ofInt (48 + x % 10) = Int32.ofInt ((48 + x.toNat : Nat) : Int) ∧ 48 + x.toNat < 128
          exact ⟨by congr 1; omega, by omega⟩
    · rw [List.getElem?_set_ne (fun q => hki q.symm)] at hko
      have l3 : bd_lv D (500 + k) := Or.inr ⟨k, _, hko, Or.inl rfl⟩
      have hk9 : k < 100 := Nat.lt_of_lt_of_le (List.getElem?_eq_some_iff.mp hko).1 hok.1
      have h9 := hJ k o hko
      obtain q | q | q := o
      · exact bd_is_row (n := q.1) (f := q.2) h9 (hkeep _ l3 (by omega) (by omega))
      · exact bd_tx_kept h9 (hkeep _ l3 (by omega) (by omega)) (hkeep _ (Or.inr ⟨k, _, hko, Or.inr ⟨rfl, rfl⟩⟩) (by omega) (by omega))
      · exact bd_bl_kept h9 (hkeep _ l3 (by omega) (by omega)) (hkeep _ (Or.inr ⟨k, _, hko, Or.inr ⟨rfl, rfl⟩⟩) (by omega) (by omega))
/-- a number of 2 is put behind a builder's -/
theorem bd_s_api2 {i : Nat} {l w : List Nat} {x : Int} (h0 : 10 ≤ x) (h1 : x < 100) (ew : w = [48 + x.toNat / 10, 48 + x.toNat % 10]) (F : bd_Fx sc g Y d p R s m args meth c c0 s0) (hY : bc_own Y = 12) (hd : decode Y.2.1 pc = .ok (.invokevirtual 207, 3)) (ho : D[i]? = some (bd_bld l)) (hlen : l.length + 2 ≤ 15) (hr : r.length ≤ 8 ∧ r.all (fun v => !bc_wide v) = true)
    (h : bd_T Y p e R s m args below meth c Q c0 s0 g (D.set i (bd_bld (l ++ w))) (pc + 3) lv (bc_R (500 + i) :: r) σ n) : bd_T Y p e R s m args below meth c Q c0 s0 g D pc lv (bc_I x :: bc_R (500 + i) :: r) σ n := by
  obtain ⟨⟨hx, hb, hml, hts, hown, hlocks, hap, htr, hE, hz, hok1, hRf, hRl, hRc, hRs, -⟩, hX, hXl, hXz, E, cB, d1, d2, hI⟩ := F
  intro hok H locs ls hn hH hS hl
  have hJ : bd_J g s D H := hH.2
  have hlt : ∀ k : Nat, bd_lv D k → bc_ad g k < H.size := bx_lt hH.1 hJ
  have hi9 : i < 100 := Nat.lt_of_lt_of_le (List.getElem?_eq_some_iff.mp ho).1 hok.1
  have l1 : bd_lv D (500 + i) := Or.inr ⟨i, _, ho, Or.inl rfl⟩
  have l2 : bd_lv D (700 + i) := Or.inr ⟨i, _, ho, Or.inr ⟨rfl, rfl⟩⟩
  obtain ⟨E2, cB2, ml, f, b1, b2, b3, b4⟩ := (hJ i _ ho : bd_bl g s i l H)
  have hZ : ∀ q : Nat, (q = bc_ad g (500 + i) ∨ q = bc_ad g (700 + i) ∨ H.size ≤ q) → bc_Z g q := by
    intro q hq
    rcases hq with rfl | rfl | hq
    · exact hok.2.2 _ l1
    · exact hok.2.2 _ l2
    · exact hz q (Nat.le_trans hS.1 hq)
  have hne : bc_ad g (500 + i) ≠ bc_ad g (700 + i) := fun q => by have := hok.2.1 _ _ l1 l2 q; omega
  have hD : va_D (fun q : Nat => q = bc_ad g (500 + i) ∨ q = bc_ad g (700 + i) ∨ H.size ≤ q) [(bc_ad g (500 + i), .inr (0, [.ref (bc_ad g (700 + i)), .int 0, .int ml, .int (Int32.ofInt (l.length : Int))])), (bc_ad g (700 + i), .inl (cB2, 16, .inl f))] := by
    refine ⟨fun k k' x y hk hk' q => ?_, fun k x hk => ?_⟩
    · match k, k', hk, hk' with
      | 0, 0, _, _ => rfl
      | 1, 1, _, _ => rfl
      | 0, 1, hk, hk' => cases hk; cases hk'; exact absurd q hne
      | 1, 0, hk, hk' => cases hk; cases hk'; exact absurd q.symm hne
      | k + 2, _, hk, _ => cases hk
      | _, k + 2, _, hk' => cases hk'
    · match k, hk with
      | 0, hk => cases hk; exact Or.inl rfl
      | 1, hk => cases hk; exact Or.inr (Or.inl rfl)
      | k + 2, hk => cases hk
  have hown9 : s.vm.findClass "BridgeChapelLaw" = some m.cls := by
    rw [hY] at hown
    exact hown
  have ew9 : w.length = 2 := by rw [ew]; rfl
  refine bx_cV (θ := (E2, cB2, d1, d2, fun q : Nat => q = bc_ad g (500 + i) ∨ q = bc_ad g (700 + i) ∨ H.size ≤ q)) (A := bc_Z g) (ss := []) (C := "java/lang/StringBuilder") (b := bc_ad g (500 + i)) (As := [.int (Int32.ofInt x)]) (rest := r.map (bc_v g)) (n := 1) hx hb (hml.trans hl.1.symm) hown9 hts hZ hS (bx_pre (E := E) (cB := cB) hI hS hZ (fun q hq => Or.inr (Or.inr hq)) b1 b2 (fun q hq => by cases hq)) (sj_apn2 (n := l.length) hD h0 h1 (by omega)) sj_w_apn (bc_wat_ok (pos := 72) (by decide +kernel)) (bc_wat_ok (pos := 1216) (by decide +kernel)) (bc_wat_ok (pos := 1217) (by decide +kernel)) (bc_wat_ok (pos := 1218) (by decide +kernel)) (va_recv (q := ("java/lang/StringBuilder", sj_T0, 4)) (q0 := 0) b1 b2 rfl rfl) ⟨by decide +kernel, by decide +kernel, by decide +kernel⟩ ⟨by omega, by omega⟩ ⟨by omega, by omega⟩ rfl rfl (bd_room hr) hd (fun r9 H1 locs1 hp hk hz1 hS1 => ?_)
  obtain ⟨rfl, hP1⟩ := hp
  have hkeep : ∀ k : Nat, bd_lv D k → k ≠ 500 + i → k ≠ 700 + i → H1[bc_ad g k]? = H[bc_ad g k]? := fun k hkl n1 n2 => hk _ (hlt k hkl) (fun z => by
    rcases z with z | z | z
    · exact n1 (hok.2.1 _ _ hkl l1 z)
    · exact n2 (hok.2.1 _ _ hkl l2 z)
    · have := hlt k hkl
      omega)
  refine h (bd_ok_set hok ho rfl) H1 locs1 ls hn ⟨va_P.kept hH.1 (fun k q hkq => ?_), fun k o hko => ?_⟩ hS1 hl
  · obtain ⟨h1, h2⟩ := bd_ws_key hkq
    rw [h2]
    exact hkeep k (Or.inl h1) (by omega) (by omega)
  · by_cases hki : k = i
    · subst hki
      rw [List.getElem?_set_self (List.getElem?_eq_some_iff.mp ho).1] at hko
      cases hko
      refine ⟨E2, cB2, ml, upd (upd f (l.length + 1) (Int32.ofInt (48 + x % 10))) l.length (Int32.ofInt (48 + x / 10)), b1, ?_, by rw [List.length_append, ew9]; exact hlen, fun j hj => ?_⟩
      · rw [List.length_append, ew9, show ((l.length + 2 : Nat) : Int) = (l.length : Int) + 2 from Int.natCast_add _ _]
        exact hP1
      · rw [List.length_append, ew9] at hj
        rw [bx_getD]
        by_cases hjl : j < l.length
        · rw [if_pos hjl]
          unfold upd
          rw [if_neg (by omega)]
          rw [if_neg (by omega)]
          exact b4 j hjl
        · rw [if_neg hjl, ew]
          unfold upd
          by_cases hj0 : j = l.length
          · subst hj0
            rw [Nat.sub_self, if_pos rfl]
            show Int32.ofInt (48 + x / 10) = Int32.ofInt ((48 + x.toNat / 10 : Nat) : Int) ∧ 48 + x.toNat / 10 < 128
            exact ⟨by congr 1; omega, by omega⟩
          · obtain rfl : j = l.length + 1 := by omega
            rw [if_neg (by omega), if_pos rfl, Nat.add_sub_cancel_left]
            show Int32.ofInt (48 + x % 10) = Int32.ofInt ((48 + x.toNat % 10 : Nat) : Int) ∧ 48 + x.toNat % 10 < 128
            exact ⟨by congr 1; omega, by omega⟩
    · rw [List.getElem?_set_ne (fun q => hki q.symm)] at hko
      have l3 : bd_lv D (500 + k) := Or.inr ⟨k, _, hko, Or.inl rfl⟩
      have hk9 : k < 100 := Nat.lt_of_lt_of_le (List.getElem?_eq_some_iff.mp hko).1 hok.1
      have h9 := hJ k o hko
      obtain q | q | q := o
      · exact bd_is_row (n := q.1) (f := q.2) h9 (hkeep _ l3 (by omega) (by omega))
      · exact bd_tx_kept h9 (hkeep _ l3 (by omega) (by omega)) (hkeep _ (Or.inr ⟨k, _, hko, Or.inr ⟨rfl, rfl⟩⟩) (by omega) (by omega))
      · exact bd_bl_kept h9 (hkeep _ l3 (by omega) (by omega)) (hkeep _ (Or.inr ⟨k, _, hko, Or.inr ⟨rfl, rfl⟩⟩) (by omega) (by omega))
theorem bx_lvn {o : bd_O} {k : Nat} (hk : bd_lv (D ++ [o]) k) : bd_lv D k ∨ k = 500 + D.length ∨ k = 700 + D.length := by
  rcases hk with hk | ⟨i, o2, ho, hk⟩
  · exact Or.inl (Or.inl hk)
  · by_cases hi : i < D.length
    · rw [List.getElem?_append_left hi] at ho
      exact Or.inl (Or.inr ⟨i, o2, ho, hk⟩)
    · have hle : i = D.length := by
        have := (List.getElem?_eq_some_iff.mp ho).1
        rw [List.length_append] at this
        simp only [List.length_cons, List.length_nil] at this
        omega
      subst hle
      rcases hk with hk | ⟨hk, -⟩
      · exact Or.inr (Or.inl hk)
      · exact Or.inr (Or.inr hk)
/-- the cells of one object more -/
theorem bx_grw {o : bd_O} {a b : Nat} {H : Heap} (hok : bd_ok g D) (h90 : D.length ≤ 90) (hlt : ∀ k : Nat, bd_lv D k → bc_ad g k < H.size) (ha : H.size ≤ a) (hb : H.size ≤ b) (hab : a ≠ b) (hza : bc_Z g a) (hzb : bc_Z g b) : bd_ok (bd_up (bd_up g (500 + D.length) a) (700 + D.length) b) (D ++ [o]) ∧ ∀ k : Nat, bd_lv D k → bc_ad (bd_up (bd_up g (500 + D.length) a) (700 + D.length) b) k = bc_ad g k := by
  have hdk : ∀ k : Nat, bd_lv D k → k ≠ 500 + D.length ∧ k ≠ 700 + D.length := by
    intro k hk
    rcases hk with hk | ⟨i, o2, ho, hk⟩
    · omega
    · have := (List.getElem?_eq_some_iff.mp ho).1
      omega
  have hadk : ∀ k : Nat, bd_lv D k → bc_ad (bd_up (bd_up g (500 + D.length) a) (700 + D.length) b) k = bc_ad g k := fun k hk => by rw [bd_up_ad (hdk k hk).2, bd_up_ad (hdk k hk).1]
  have e5 : bc_ad (bd_up (bd_up g (500 + D.length) a) (700 + D.length) b) (500 + D.length) = a := by rw [bd_up_ad (by omega), bd_up_at]
  have e7 : bc_ad (bd_up (bd_up g (500 + D.length) a) (700 + D.length) b) (700 + D.length) = b := bd_up_at
  refine ⟨⟨by rw [List.length_append]; simp only [List.length_cons, List.length_nil]; omega, fun k k' hk hk' q => ?_, fun k hk => ?_⟩, hadk⟩
  · rcases bx_lvn hk with h1 | rfl | rfl <;> rcases bx_lvn hk' with h2 | rfl | rfl
    · rw [hadk k h1, hadk k' h2] at q
      exact hok.2.1 k k' h1 h2 q
    · rw [hadk k h1, e5] at q
      have := hlt k h1
      omega
    · rw [hadk k h1, e7] at q
      have := hlt k h1
      omega
    · rw [e5, hadk k' h2] at q
      have := hlt k' h2
      omega
    · rfl
    · rw [e5, e7] at q
      exact absurd q hab
    · rw [e7, hadk k' h2] at q
      have := hlt k' h2
      omega
    · rw [e7, e5] at q
      exact absurd q.symm hab
    · rfl
  · rcases bx_lvn hk with h1 | rfl | rfl
    · rw [hadk k h1]
      exact hok.2.2 k h1
    · rw [e5]
      exact hza
    · rw [e7]
      exact hzb
/-- the objects, and one more -/
theorem bx_grj {g' : bc_C} {o : bd_O} {H : Heap} (hcA : bc_cA g' = bc_cA g) (hadk : ∀ k : Nat, bd_lv D k → bc_ad g' k = bc_ad g k) (hJ : bd_J g s D H) (hn : bd_is g' s D.length o H) : bd_J g' s (D ++ [o]) H := by
  intro i o2 ho
  by_cases hi : i < D.length
  · rw [List.getElem?_append_left hi] at ho
    have l1 : bd_lv D (500 + i) := Or.inr ⟨i, o2, ho, Or.inl rfl⟩
    have h1 := hJ i o2 ho
    obtain q | q | q := o2
    · show H[bc_ad g' (500 + i)]? = some (vp_cell (bc_cA g' 0) _)
      rw [hadk _ l1, hcA]
      exact h1
    · have l2 : bd_lv D (700 + i) := Or.inr ⟨i, _, ho, Or.inr ⟨rfl, rfl⟩⟩
      have h2 : bd_tx g s i q H := h1
      show bd_tx g' s i q H
      unfold bd_tx at h2 ⊢
      rw [hadk _ l1, hadk _ l2]
      exact h2
    · have l2 : bd_lv D (700 + i) := Or.inr ⟨i, _, ho, Or.inr ⟨rfl, rfl⟩⟩
      have h2 : bd_bl g s i q H := h1
      show bd_bl g' s i q H
      unfold bd_bl at h2 ⊢
      rw [hadk _ l1, hadk _ l2]
      exact h2
  · have hle : i = D.length := by
      have := (List.getElem?_eq_some_iff.mp ho).1
      rw [List.length_append] at this
      simp only [List.length_cons, List.length_nil] at this
      omega
    subst hle
    rw [List.getElem?_append_right (Nat.le_refl _), Nat.sub_self] at ho
    cases ho
    exact hn
/-- a text that was made is a text -/
theorem bx_txof {E2 : va_G} {cB2 : ClassId} {U : State} {i : Nat} {w : List Nat} {f : Nat → Int32} {H : Heap} (hts : ∀ w ∈ bc_W, w.before args U = true) (hK : va_K E2 sj_cl [(cB2, .byte)] U) (hP : va_P E2 sj_cl [(bc_ad g (500 + i), .inr (1, [.ref (bc_ad g (700 + i)), .int 0, .int 0, .int 0])), (bc_ad g (700 + i), .inl (cB2, w.length, .inl f))] H) (hw : w.length ≤ 16) (hf : ∀ j : Nat, j < w.length → f j = Int32.ofInt ((w.getD j 0 : Nat) : Int) ∧ w.getD j 0 < 128) : bd_tx g U i w H := by
  obtain ⟨q, h1, cell, q1, q2, q3, q4⟩ := (hP 0 _ rfl : va_at E2 sj_cl (bc_ad g (500 + i), .inr (1, [.ref (bc_ad g (700 + i)), .int 0, .int 0, .int 0])) H)
  have hq : q = ("java/lang/String", sj_T1, 4) := Option.some.inj (h1.symm.trans rfl)
  subst hq
  obtain ⟨hS, hfc, kC, hkC, hkind⟩ := hK.1 1 _ rfl
  obtain ⟨cf, kf, fi, fd, hi, hsl⟩ := hS 1 (by decide)
  obtain ⟨cf', kf', fi', fd', hi', hsl'⟩ := hS 0 (by decide)
  refine ⟨f, ⟨cell, q1, ?_, ?_, fun h => h⟩, ⟨cf, kf, fi, fd, cell, hi, ?_, q1, ?_, ?_, fun h => h⟩, ⟨cf', kf', fi', fd', cell, hi', ?_, q1, ?_, ?_, fun h => h⟩, ⟨_, hP 1 _ rfl, ?_, ?_, ?_, ?_, ?_, fun h => h⟩, hw, hf⟩
  · rw [q3]; rfl
  · rw [q2]; exact hfc
  · exact (u_facts hfc hkC (u_lays hts sj_w1 (by decide : 1 < 4)) hi).1
  · rw [q3]; exact fun h => by cases h
  · rw [hsl]; exact q4 1 (by decide)
  · exact (u_facts hfc hkC (u_lays hts sj_w1 (by decide : 0 < 4)) hi').1
  · rw [q3]; exact fun h => by cases h
  · rw [hsl']; exact q4 0 (by decide)
  · exact (hK.2 0 _ rfl).1 w.length (fun j => .int (f j))
  · exact fun h => by cases h
  · show _ ≤ (arrV _ _ _).slots.size
    rw [arrV_size]
    exact Nat.le_refl _
  · show (arrV _ _ _).slots.size.toInt32 = _
    rw [arrV_size]
  · exact fun j hj => arrV_read _ _ hj
/-- a builder's text is made -/
theorem bd_s_tos {i : Nat} {l : List Nat} (F : bd_Fx sc g Y d p R s m args meth c c0 s0) (hY : bc_own Y = 12) (hd : decode Y.2.1 pc = .ok (.invokevirtual 228, 3)) (ho : D[i]? = some (bd_bld l)) (hn4 : n + 4 ≤ bc_cost Y) (h90 : D.length ≤ 90) (hold : bd_olds D.length lv r = true) (hr : r.length ≤ 8 ∧ r.all (fun v => !bc_wide v) = true)
    (h : ∀ a b : Nat, bd_T Y p e R s m args below meth c Q c0 s0 (bd_up (bd_up g (500 + D.length) a) (700 + D.length) b) (D ++ [bd_txt l]) (pc + 3) lv (bc_R (500 + D.length) :: r) σ (n + 4)) : bd_T Y p e R s m args below meth c Q c0 s0 g D pc lv (bc_R (500 + i) :: r) σ n := by
  obtain ⟨o1, o2⟩ := Bool.and_eq_true_iff.mp hold
  obtain ⟨⟨hx, hb, hml, hts, hown, hlocks, hap, htr, hE, hz, hok1, hRf, hRl, hRc, hRs, -⟩, hX, hXl, hXz, E, cB, d1, d2, hI⟩ := F
  intro hok H locs ls hn hH hS hl
  have hJ : bd_J g s D H := hH.2
  have hlt : ∀ k : Nat, bd_lv D k → bc_ad g k < H.size := bx_lt hH.1 hJ
  have hi9 : i < 100 := Nat.lt_of_lt_of_le (List.getElem?_eq_some_iff.mp ho).1 hok.1
  have l1 : bd_lv D (500 + i) := Or.inr ⟨i, _, ho, Or.inl rfl⟩
  have l2 : bd_lv D (700 + i) := Or.inr ⟨i, _, ho, Or.inr ⟨rfl, rfl⟩⟩
  obtain ⟨E2, cB2, ml, f, b1, b2, b3, b4⟩ := (hJ i _ ho : bd_bl g s i l H)
  have hZ : ∀ q : Nat, (q = bc_ad g (500 + i) ∨ q = bc_ad g (700 + i) ∨ H.size ≤ q) → bc_Z g q := by
    intro q hq
    rcases hq with rfl | rfl | hq
    · exact hok.2.2 _ l1
    · exact hok.2.2 _ l2
    · exact hz q (Nat.le_trans hS.1 hq)
  have hne : bc_ad g (500 + i) ≠ bc_ad g (700 + i) := fun q => by have := hok.2.1 _ _ l1 l2 q; omega
  have hD : va_D (fun q : Nat => q = bc_ad g (500 + i) ∨ q = bc_ad g (700 + i) ∨ H.size ≤ q) [(bc_ad g (500 + i), .inr (0, [.ref (bc_ad g (700 + i)), .int 0, .int ml, .int (Int32.ofInt (l.length : Int))])), (bc_ad g (700 + i), .inl (cB2, 16, .inl f))] := by
    refine ⟨fun k k' x y hk hk' q => ?_, fun k x hk => ?_⟩
    · match k, k', hk, hk' with
      | 0, 0, _, _ => rfl
      | 1, 1, _, _ => rfl
      | 0, 1, hk, hk' => cases hk; cases hk'; exact absurd q hne
      | 1, 0, hk, hk' => cases hk; cases hk'; exact absurd q.symm hne
      | k + 2, _, hk, _ => cases hk
      | _, k + 2, _, hk' => cases hk'
    · match k, hk with
      | 0, hk => cases hk; exact Or.inl rfl
      | 1, hk => cases hk; exact Or.inr (Or.inl rfl)
      | k + 2, hk => cases hk
  have hown9 : s.vm.findClass "BridgeChapelLaw" = some m.cls := by
    rw [hY] at hown
    exact hown
  have hf9 : ∀ j : Nat, j < l.length → fits .byte (.int (f j)) = true := fun j hj => by
    rw [(b4 j hj).1]
    exact sj_fit (Int.natCast_nonneg _) (by have := (b4 j hj).2; omega)
  refine bx_cV (θ := (E2, cB2, d1, d2, fun q : Nat => q = bc_ad g (500 + i) ∨ q = bc_ad g (700 + i) ∨ H.size ≤ q)) (A := bc_Z g) (ss := []) (C := "java/lang/StringBuilder") (b := bc_ad g (500 + i)) (As := []) (rest := r.map (bc_v g)) (n := 0) hx hb (hml.trans hl.1.symm) hown9 hts hZ hS (bx_pre (E := E) (cB := cB) hI hS hZ (fun q hq => Or.inr (Or.inr hq)) b1 b2 (fun q hq => by cases hq)) (sj_tos (n := l.length) b3 hf9 hD) sj_w_tos (bc_wat_ok (pos := 72) (by decide +kernel)) (bc_wat_ok (pos := 1347) (by decide +kernel)) (bc_wat_ok (pos := 1348) (by decide +kernel)) (bc_wat_ok (pos := 1349) (by decide +kernel)) (va_recv (q := ("java/lang/StringBuilder", sj_T0, 4)) (q0 := 0) b1 b2 rfl rfl) ⟨by decide +kernel, by decide +kernel, by decide +kernel⟩ ⟨by omega, by omega⟩ ⟨by omega, by omega⟩ rfl rfl (bd_room hr) hd (fun r9 H1 locs1 hp hk hz1 hS1 => ?_)
  obtain ⟨u, dd, hu, hdd, rfl, hP1, hD1⟩ := hp
  have hne2 : u ≠ dd := fun q => by have := hD1.1 2 3 _ _ rfl rfl q; omega
  obtain ⟨g1, g2⟩ := bx_grw (o := bd_txt l) hok h90 hlt hu hdd hne2 (hz u (Nat.le_trans hS.1 hu)) (hz dd (Nat.le_trans hS.1 hdd))
  have hkeep : ∀ k : Nat, bd_lv D k → H1[bc_ad g k]? = H[bc_ad g k]? ∨ k = 500 + i ∨ k = 700 + i := fun k hkl => by
    by_cases n1 : k = 500 + i
    · exact Or.inr (Or.inl n1)
    · by_cases n2 : k = 700 + i
      · exact Or.inr (Or.inr n2)
      · refine Or.inl (hk _ (hlt k hkl) (fun z => ?_))
        rcases z with z | z | z
        · exact n1 (hok.2.1 _ _ hkl l1 z)
        · exact n2 (hok.2.1 _ _ hkl l2 z)
        · have := hlt k hkl
          omega
  have hJ1 : bd_J g s D H1 := fun k o hko => by
    have h9 := hJ k o hko
    have hk9 : k < 100 := Nat.lt_of_lt_of_le (List.getElem?_eq_some_iff.mp hko).1 hok.1
    by_cases hki : k = i
    · subst hki
      rw [ho] at hko
      cases hko
      refine ⟨E2, cB2, ml, f, b1, fun k2 q hk2 => ?_, b3, b4⟩
      match k2, hk2 with
      | 0, hk2 => exact hP1 0 q hk2
      | 1, hk2 => exact hP1 1 q hk2
      | k2 + 2, hk2 => cases hk2
    · have l3 : bd_lv D (500 + k) := Or.inr ⟨k, _, hko, Or.inl rfl⟩
      have k5 : H1[bc_ad g (500 + k)]? = H[bc_ad g (500 + k)]? := by
        rcases hkeep _ l3 with z | z | z
        · exact z
        · omega
        · omega
      obtain q | q | q := o
      · exact bd_is_row (n := q.1) (f := q.2) h9 k5
      · refine bd_tx_kept h9 k5 ?_
        rcases hkeep _ (Or.inr ⟨k, _, hko, Or.inr ⟨rfl, rfl⟩⟩ : bd_lv D (700 + k)) with z | z | z
        · exact z
        · omega
        · omega
      · refine bd_bl_kept h9 k5 ?_
        rcases hkeep _ (Or.inr ⟨k, _, hko, Or.inr ⟨rfl, rfl⟩⟩ : bd_lv D (700 + k)) with z | z | z
        · exact z
        · omega
        · omega
  have e5 : bc_ad (bd_up (bd_up g (500 + D.length) u) (700 + D.length) dd) (500 + D.length) = u := by rw [bd_up_ad (by omega), bd_up_at]
  have e7 : bc_ad (bd_up (bd_up g (500 + D.length) u) (700 + D.length) dd) (700 + D.length) = dd := bd_up_at
  have hlv' : bc_lv (bd_up (bd_up g (500 + D.length) u) (700 + D.length) dd) lv = bc_lv g lv := (bd_old_lv (Or.inr rfl) o1).trans (bd_old_lv (Or.inl rfl) o1)
  have hst' : r.map (bc_v (bd_up (bd_up g (500 + D.length) u) (700 + D.length) dd)) = r.map (bc_v g) := (bd_old_st (Or.inr rfl) o2).trans (bd_old_st (Or.inl rfl) o2)
  refine W.widen (k := c0 + (n + 4)) (n := s0 + 6 * (n + 4)) (by omega) (by omega) ?_
  have h5 := h u dd g1 H1 locs1 ls hn4 ⟨?_, bx_grj (g := g) rfl g2 hJ1 ?_⟩ hS1 (by show lv_has ls (bc_nL Y) (bc_lv (bd_up (bd_up g (500 + D.length) u) (700 + D.length) dd) lv); rw [hlv']; exact hl)
  · have e6 : (bc_R (500 + D.length) :: r).map (bc_v (bd_up (bd_up g (500 + D.length) u) (700 + D.length) dd)) = .ref u :: r.map (bc_v g) := by
      rw [List.map_cons, hst', bc_v_R, e5]
    have h6 : W p (bc_l g) e R s m args below meth c H1 locs1 (c0 + (n + 4)) (s0 + 6 * (n + 4)) Q (F0 m (pc + 3) ls ((bc_R (500 + D.length) :: r).map (bc_v (bd_up (bd_up g (500 + D.length) u) (700 + D.length) dd)))) := h5
    rw [e6] at h6
    exact h6
  · show va_P (bc_Dd g) bc_cl (bc_ws (bd_up (bd_up g (500 + D.length) u) (700 + D.length) dd) σ) H1
    rw [bd_up_ws (by omega), bd_up_ws (by omega)]
    refine va_P.kept hH.1 (fun k q hkq => ?_)
    obtain ⟨h1, h2⟩ := bd_ws_key hkq
    rw [h2]
    rcases hkeep k (Or.inl h1) with z | z | z
    · exact z
    · omega
    · omega
  · show bd_tx (bd_up (bd_up g (500 + D.length) u) (700 + D.length) dd) s D.length l H1
    have hP9 : va_P E2 sj_cl _ H1 := hP1
    obtain ⟨f9, hf8⟩ := bx_txof (i := D.length) (g := bd_up (bd_up g (500 + D.length) u) (700 + D.length) dd) (w := l) (f := va_cpy f (fun _ => 0) 0 0 l.length) hts b1 (by rw [e5, e7]; exact fun k q hk => by match k, hk with | 0, hk => exact hP1 2 q hk | 1, hk => exact hP1 3 q hk | k + 2, hk => cases hk) (by omega) (fun j hj => by rw [pk_cpy_in (by omega) (by omega), show 0 + (j - 0) = j by omega]; exact b4 j hj)
    exact ⟨f9, hf8⟩
/-- a builder is made: new, dup and the constructor as one -/
theorem bd_s_bnew (F : bd_Fx sc g Y d p R s m args meth c c0 s0) (hY : bc_own Y = 12) (q0 : decode Y.2.1 pc = .ok (.new 204, 3)) (q3 : decode Y.2.1 (pc + 3) = .ok (.dup, 1)) (q4 : decode Y.2.1 (pc + 4) = .ok (.invokespecial 206, 3)) (hn4 : n + 4 ≤ bc_cost Y) (h90 : D.length ≤ 90) (hold : bd_olds D.length lv r = true) (hr : r.length ≤ 7 ∧ r.all (fun v => !bc_wide v) = true)
    (h : ∀ a b : Nat, bd_T Y p e R s m args below meth c Q c0 s0 (bd_up (bd_up g (500 + D.length) a) (700 + D.length) b) (D ++ [bd_bld []]) (pc + 7) lv (bc_R (500 + D.length) :: r) σ (n + 4)) : bd_T Y p e R s m args below meth c Q c0 s0 g D pc lv r σ n := by
  obtain ⟨o1, o2⟩ := Bool.and_eq_true_iff.mp hold
  obtain ⟨⟨hx, hb, hml, hts, hown, hlocks, hap, htr, hE, hz, hok1, hRf, hRl, hRc, hRs, -⟩, hX, hXl, hXz, E, cB, d1, d2, hI⟩ := F
  intro hok H locs ls hn hH hS hl
  have hJ : bd_J g s D H := hH.2
  have hlt : ∀ k : Nat, bd_lv D k → bc_ad g k < H.size := bx_lt hH.1 hJ
  have hown9 : s.vm.findClass "BridgeChapelLaw" = some m.cls := by
    rw [hY] at hown
    exact hown
  refine sj_newo (θ := (E, cB, d1, d2, bc_Z g)) (ss := []) (ws := []) (own := "BridgeChapelLaw") (index := 204) (ci := 0) rfl sj_w0 sj_t0 (by decide) hx hb hown9 hts (bc_wat_ok (pos := 1186) (by decide +kernel)) (bc_wat_ok (pos := 1187) (by decide +kernel)) (bc_wat_ok (pos := 72) (by decide +kernel)) hI (fun k q hk => by cases hk) ⟨(fun i j p q hi => by cases hi), (fun k q hk => by cases hk)⟩ hS (by omega) (by omega) q0 (fun H1 z1 k1 hP1 hD1 hS1 => ?_)
  have hP1 : va_P E sj_cl [(H.size, .inr (0, [.null, .int 0, .int 0, .int 0]))] H1 := hP1
  refine lv_dup hx hb q3 rfl ?_
  have hZ : ∀ q : Nat, (q = H.size ∨ H1.size ≤ q) → bc_Z g q := by
    intro q hq
    rcases hq with rfl | hq
    · exact hz _ hS.1
    · exact hz q (Nat.le_trans hS1.1 hq)
  have hD2 : va_D (fun q : Nat => q = H.size ∨ H1.size ≤ q) [(H.size, .inr (0, [.null, .int 0, .int 0, .int 0]))] := by
    refine ⟨fun k k' x y hk hk' q => ?_, fun k x hk => ?_⟩
    · match k, k', hk, hk' with
      | 0, 0, _, _ => rfl
      | k + 1, _, hk, _ => cases hk
      | _, k + 1, _, hk' => cases hk'
    · match k, hk with
      | 0, hk => cases hk; exact Or.inl rfl
      | k + 1, hk => cases hk
  refine bx_cI (θ := (E, cB, d1, d2, fun q : Nat => q = H.size ∨ H1.size ≤ q)) (A := bc_Z g) (ss := []) (b := H.size) (As := []) (rest := .ref H.size :: r.map (bc_v g)) (n := 0) hx hb (hml.trans hl.1.symm) hown9 hts hZ hS1 (bx_pre (E := E) (cB := cB) hI hS1 hZ (fun q hq => Or.inr hq) hI.1 hP1 (fun q hq => by cases hq)) (sj_sbi hD2) sj_w_sbi (bc_wat_ok (pos := 72) (by decide +kernel)) (bc_wat_ok (pos := 1188) (by decide +kernel)) (bc_wat_ok (pos := 1189) (by decide +kernel)) rfl ⟨by decide +kernel, by decide +kernel, by decide +kernel⟩ ⟨by omega, by omega⟩ ⟨by omega, by omega⟩ rfl rfl (by rw [List.map_cons, List.sum_cons, bd_cat hr.2]; show 1 + r.length ≤ 8; omega) q4 (fun r9 H2 locs2 hp hk hz2 hS2 => ?_)
  obtain ⟨rfl, hP2⟩ := hp
  obtain ⟨g1, g2⟩ := bx_grw (o := bd_bld []) (a := H.size) (b := H1.size) hok h90 hlt (Nat.le_refl _) (by omega) (by omega) (hz _ hS.1) (hz _ hS1.1)
  have hkeep : ∀ k : Nat, bd_lv D k → H2[bc_ad g k]? = H[bc_ad g k]? := fun k hkl => by
    have h9 := hlt k hkl
    exact (hk _ (by omega) (fun z => by rcases z with z | z <;> omega)).trans (k1 _ h9)
  have hJ1 : bd_J g s D H2 := bd_J_kept hJ (fun k hkl _ => hkeep k hkl) (fun a ha _ => (hk _ (by omega) (fun z => by rcases z with z | z <;> omega)).trans (k1 _ ha))
  have e5 : bc_ad (bd_up (bd_up g (500 + D.length) H.size) (700 + D.length) H1.size) (500 + D.length) = H.size := by rw [bd_up_ad (by omega), bd_up_at]
  have e7 : bc_ad (bd_up (bd_up g (500 + D.length) H.size) (700 + D.length) H1.size) (700 + D.length) = H1.size := bd_up_at
  have hlv' : bc_lv (bd_up (bd_up g (500 + D.length) H.size) (700 + D.length) H1.size) lv = bc_lv g lv := (bd_old_lv (Or.inr rfl) o1).trans (bd_old_lv (Or.inl rfl) o1)
  have hst' : r.map (bc_v (bd_up (bd_up g (500 + D.length) H.size) (700 + D.length) H1.size)) = r.map (bc_v g) := (bd_old_st (Or.inr rfl) o2).trans (bd_old_st (Or.inl rfl) o2)
  refine W.widen (k := c0 + (n + 4)) (n := s0 + 6 * (n + 4)) (by omega) (by omega) ?_
  have h5 := h H.size H1.size g1 H2 locs2 ls hn4 ⟨?_, bx_grj (g := g) rfl g2 hJ1 ?_⟩ hS2 (by show lv_has ls (bc_nL Y) (bc_lv (bd_up (bd_up g (500 + D.length) H.size) (700 + D.length) H1.size) lv); rw [hlv']; exact hl)
  · have e6 : (bc_R (500 + D.length) :: r).map (bc_v (bd_up (bd_up g (500 + D.length) H.size) (700 + D.length) H1.size)) = .ref H.size :: r.map (bc_v g) := by
      rw [List.map_cons, hst', bc_v_R, e5]
    have h6 : W p (bc_l g) e R s m args below meth c H2 locs2 (c0 + (n + 4)) (s0 + 6 * (n + 4)) Q (F0 m (pc + 7) ls ((bc_R (500 + D.length) :: r).map (bc_v (bd_up (bd_up g (500 + D.length) H.size) (700 + D.length) H1.size)))) := h5
    rw [e6] at h6
    exact h6
  · show va_P (bc_Dd g) bc_cl (bc_ws (bd_up (bd_up g (500 + D.length) H.size) (700 + D.length) H1.size) σ) H2
    rw [bd_up_ws (by omega), bd_up_ws (by omega)]
    refine va_P.kept hH.1 (fun k q hkq => ?_)
    obtain ⟨h1, h2⟩ := bd_ws_key hkq
    rw [h2]
    exact hkeep k (Or.inl h1)
  · show bd_bl (bd_up (bd_up g (500 + D.length) H.size) (700 + D.length) H1.size) s D.length [] H2
    refine ⟨E, cB, 0, fun _ => 0, hI.1, ?_, by decide, fun j hj => absurd hj (Nat.not_lt_zero j)⟩
    rw [e5, e7, show Int32.ofInt ((([] : List Nat).length : Nat) : Int) = 0 by decide]
    exact hP2
theorem sj_tab : ∀ i : Nat, i < 24 → bc_tx_len.getD i 0 = (bc_tx i).length ∧ (bc_tx i).length ≤ 16 ∧ ∀ j : Nat, j < (bc_tx i).length → (bc_tx_byt.getD i []).getD j 0 = Int32.ofInt (((bc_tx i).getD j 0 : Nat) : Int) ∧ (bc_tx i).getD j 0 < 128 := by decide +kernel
/-- a constant on the stack -/
theorem bx_Tk {i j : Nat} {l : List Nat} {H : Heap} {locs : List Loc} (hj : j < 24) (ho : D[i]? = some (bd_bld l)) (hE : bc_E g s s.heap) (hok : bd_ok g D) (hS : va_S (bc_Z g) s.heap H locs) : bx_T g s H i (bc_R (1000 + j)) (bc_tx j) := by
  obtain ⟨-, -, -, -, -, -, -, ⟨adV, h6⟩, -, -⟩ := hE
  obtain ⟨k1, k2, k3, k4⟩ := h6.1 j hj
  obtain ⟨t1, t2, t3⟩ := sj_tab j hj
  rw [t1] at k4
  obtain ⟨c1, a1, a2, a3, a4⟩ := k1.kept hS.2.1
  obtain ⟨cf, kf, i1, fd, c2, b1, b2, b3, b4, b5, -⟩ := k2.kept hS.2.1
  obtain ⟨cf', kf', i2, fd', c3, e1, e2, e3, e4, e5, -⟩ := k3.kept hS.2.1
  obtain ⟨c4, u1, u2, u3, u4, u5, u6, u7⟩ := k4.kept hS.2.1
  have z5 : bc_Z g (bc_ad g (500 + i)) := hok.2.2 _ (Or.inr ⟨i, _, ho, Or.inl rfl⟩)
  have z7 : bc_Z g (bc_ad g (700 + i)) := hok.2.2 _ (Or.inr ⟨i, _, ho, Or.inr ⟨rfl, rfl⟩⟩)
  refine ⟨bc_ad g (1000 + j), adV j, fun k => (bc_tx_byt.getD j []).getD k 0, rfl, fun θ n1 n2 => ⟨⟨c1, a1, a2, a3, n1⟩, ⟨cf, kf, i1, fd, c2, b1, b2, b3, b4, b5, n1⟩, ⟨cf', kf', i2, fd', c3, e1, e2, e3, e4, e5, n1⟩, ⟨c4, u1, u2, u3, u4, u5, u6, n2⟩, t2, fun k hk => ?_⟩, t3, ⟨(Array.getElem?_eq_some_iff.mp a1).1, (Array.getElem?_eq_some_iff.mp u1).1⟩, ⟨fun q => a4 (by show bc_Z g (bc_ad g (1000 + j)); rw [q]; exact z5), fun q => a4 (by show bc_Z g (bc_ad g (1000 + j)); rw [q]; exact z7)⟩, fun q => u7 (by rw [q]; exact z5), fun q => u7 (by rw [q]; exact z7)⟩
  have hk : k < (bc_tx j).length := hk
  show fits .byte (.int ((bc_tx_byt.getD j []).getD k 0)) = true
  rw [(t3 k hk).1]
  exact sj_fit (Int.natCast_nonneg _) (by have := (t3 k hk).2; omega)
/-- a text of the law's own on the stack -/
theorem bx_Td {i k : Nat} {l w : List Nat} {H : Heap} (ho : D[i]? = some (bd_bld l)) (hk : D[k]? = some (bd_txt w)) (hok : bd_ok g D) (hJ : bd_J g s D H) : bx_T g s H i (bc_R (500 + k)) w := by
  have l5 : bd_lv D (500 + k) := Or.inr ⟨k, _, hk, Or.inl rfl⟩
  have l7 : bd_lv D (700 + k) := Or.inr ⟨k, _, hk, Or.inr ⟨rfl, rfl⟩⟩
  have m5 : bd_lv D (500 + i) := Or.inr ⟨i, _, ho, Or.inl rfl⟩
  have m7 : bd_lv D (700 + i) := Or.inr ⟨i, _, ho, Or.inr ⟨rfl, rfl⟩⟩
  have hne : k ≠ i := fun e => by
    rw [e, ho] at hk
    cases hk
  have hi9 : i < 100 := Nat.lt_of_lt_of_le (List.getElem?_eq_some_iff.mp ho).1 hok.1
  have hk9 : k < 100 := Nat.lt_of_lt_of_le (List.getElem?_eq_some_iff.mp hk).1 hok.1
  have ht : bd_tx g s k w H := hJ k _ hk
  obtain ⟨f0, -, -, -, -, -, h6⟩ := ht
  obtain ⟨f, hf⟩ : ∃ f : Nat → Int32, (∀ θ : sj_w, ¬ θ.2.2.2.2 (bc_ad g (500 + k)) → ¬ θ.2.2.2.2 (bc_ad g (700 + k)) → sj_S θ (bc_ad g (500 + k), bc_ad g (700 + k), w.length, f) s H) ∧ ∀ j : Nat, j < w.length → f j = Int32.ofInt ((w.getD j 0 : Nat) : Int) ∧ w.getD j 0 < 128 := by
    obtain ⟨f, ⟨c1, a1, a2, a3, -⟩, ⟨cf, kf, i1, fd, c2, b1, b2, b3, b4, b5, -⟩, ⟨cf', kf', i2, fd', c3, e1, e2, e3, e4, e5, -⟩, ⟨c4, t1, t2, t3, t4, t5, t6, -⟩, h5, h6⟩ := (hJ k _ hk : bd_tx g s k w H)
    refine ⟨f, fun θ z1 z2 => ⟨⟨c1, a1, a2, a3, z1⟩, ⟨cf, kf, i1, fd, c2, b1, b2, b3, b4, b5, z1⟩, ⟨cf', kf', i2, fd', c3, e1, e2, e3, e4, e5, z1⟩, ⟨c4, t1, t2, t3, t4, t5, t6, z2⟩, h5, fun j hj => ?_⟩, h6⟩
    have hj : j < w.length := hj
    show fits .byte (.int (f j)) = true
    rw [(h6 j hj).1]
    exact sj_fit (Int.natCast_nonneg _) (by have := (h6 j hj).2; omega)
  exact ⟨bc_ad g (500 + k), bc_ad g (700 + k), f, rfl, hf.1, hf.2, ⟨bd_J_lt hJ l5 (by omega), bd_J_lt hJ l7 (by omega)⟩, ⟨fun q => by have := hok.2.1 _ _ l5 m5 q; omega, fun q => by have := hok.2.1 _ _ l5 m7 q; omega⟩, fun q => by have := hok.2.1 _ _ l7 m5 q; omega, fun q => by have := hok.2.1 _ _ l7 m7 q; omega⟩
/-- tlen of a text of the law's own -/
theorem bd_s_tlen {k ix : Nat} {w : List Nat} (F : bd_Fx sc g Y d p R s m args meth c c0 s0) (hm4 : bc_ml (bc_own Y) ix = some (.inr 4)) (hd : decode Y.2.1 pc = .ok (.invokevirtual ix, 3)) (ho : D[k]? = some (bd_txt w)) (hr : r.length ≤ 8 ∧ r.all (fun v => !bc_wide v) = true)
    (h : bd_T Y p e R s m args below meth c Q c0 s0 g D (pc + 3) lv (bc_I (w.length : Int) :: r) σ n) : bd_T Y p e R s m args below meth c Q c0 s0 g D pc lv (bc_R (500 + k) :: r) σ n := by
  obtain ⟨⟨hx, hb, hml, hts, hown, hlocks, hap, htr, hE, hz, hok1, hRf, hRl, hRc, hRs, -⟩, hX, hXl, hXz, E, cB, d1, d2, hI⟩ := F
  intro hok H locs ls hn hH hS hl
  have hJ : bd_J g s D H := hH.2
  have l5 : bd_lv D (500 + k) := Or.inr ⟨k, _, ho, Or.inl rfl⟩
  have l7 : bd_lv D (700 + k) := Or.inr ⟨k, _, ho, Or.inr ⟨rfl, rfl⟩⟩
  have n5 := bd_J_lt hJ l5 (by omega)
  have n7 := bd_J_lt hJ l7 (by omega)
  have hZ : ∀ q : Nat, H.size ≤ q → bc_Z g q := fun q hq => hz q (Nat.le_trans hS.1 hq)
  obtain ⟨f, hq, h6⟩ := bx_tx (θ := (E, cB, d1, d2, fun q : Nat => H.size ≤ q)) (hJ k _ ho : bd_tx g s k w H) (fun z => by have z : H.size ≤ bc_ad g (500 + k) := z; omega) (fun z => by have z : H.size ≤ bc_ad g (700 + k) := z; omega)
  have hrc : ∃ cellB : Cell, H[bc_ad g (500 + k)]? = some cellB ∧ cellB.vm.isStatics = false ∧ s.vm.findClass "java/lang/String" = some cellB.cls := by
    obtain ⟨⟨c1, a1, a2, a3, -⟩, -⟩ := hq
    exact ⟨c1, a1, a2, a3⟩
  refine bx_cV (θ := (E, cB, d1, d2, fun q : Nat => H.size ≤ q)) (A := bc_Z g) (ss := [(bc_ad g (500 + k), bc_ad g (700 + k), w.length, f)]) (ws := []) (C := "java/lang/String") (b := bc_ad g (500 + k)) (As := []) (rest := r.map (bc_v g)) (n := 0) (y := sj_y_tlen) hx hb (hml.trans hl.1.symm) hown hts hZ hS (bx_pre (E := E) (cB := cB) hI hS hZ (fun q hq => hq) hI.1 (fun k q hk => by cases hk) (fun q hh => by rw [List.mem_singleton.mp hh]; exact hq)) (sj_tlen (ws := []) (List.mem_singleton.mpr rfl)) sj_w_tlen (bc_wat_ok (pos := 60) (by decide +kernel)) (bc_j_ok hm4).1 (bc_wat_ok (pos := 839) (by decide +kernel)) (bc_wat_ok (pos := 840) (by decide +kernel)) hrc ⟨by decide +kernel, by decide +kernel, by decide +kernel⟩ ⟨by omega, by omega⟩ ⟨by omega, by omega⟩ rfl rfl (bd_room hr) hd (fun r9 H1 locs1 hp hk hz1 hS1 => ?_)
  obtain ⟨rfl, rfl⟩ := hp
  exact h hok _ locs1 ls hn hH hS1 hl
/-- tch of a text of the law's own -/
theorem bd_s_tch {k ix : Nat} {w : List Nat} {j : Int} (F : bd_Fx sc g Y d p R s m args meth c c0 s0) (hm4 : bc_ml (bc_own Y) ix = some (.inr 5)) (hd : decode Y.2.1 pc = .ok (.invokevirtual ix, 3)) (ho : D[k]? = some (bd_txt w)) (h0 : 0 ≤ j) (h1 : j < (w.length : Int)) (hr : r.length ≤ 8 ∧ r.all (fun v => !bc_wide v) = true)
    (h : bd_T Y p e R s m args below meth c Q c0 s0 g D (pc + 3) lv (bc_I ((w.getD j.toNat 0 : Nat) : Int) :: r) σ n) : bd_T Y p e R s m args below meth c Q c0 s0 g D pc lv (bc_I j :: bc_R (500 + k) :: r) σ n := by
  obtain ⟨⟨hx, hb, hml, hts, hown, hlocks, hap, htr, hE, hz, hok1, hRf, hRl, hRc, hRs, -⟩, hX, hXl, hXz, E, cB, d1, d2, hI⟩ := F
  intro hok H locs ls hn hH hS hl
  have hJ : bd_J g s D H := hH.2
  have l5 : bd_lv D (500 + k) := Or.inr ⟨k, _, ho, Or.inl rfl⟩
  have l7 : bd_lv D (700 + k) := Or.inr ⟨k, _, ho, Or.inr ⟨rfl, rfl⟩⟩
  have n5 := bd_J_lt hJ l5 (by omega)
  have n7 := bd_J_lt hJ l7 (by omega)
  have hZ : ∀ q : Nat, H.size ≤ q → bc_Z g q := fun q hq => hz q (Nat.le_trans hS.1 hq)
  obtain ⟨f, hq, h6⟩ := bx_tx (θ := (E, cB, d1, d2, fun q : Nat => H.size ≤ q)) (hJ k _ ho : bd_tx g s k w H) (fun z => by have z : H.size ≤ bc_ad g (500 + k) := z; omega) (fun z => by have z : H.size ≤ bc_ad g (700 + k) := z; omega)
  have hrc : ∃ cellB : Cell, H[bc_ad g (500 + k)]? = some cellB ∧ cellB.vm.isStatics = false ∧ s.vm.findClass "java/lang/String" = some cellB.cls := by
    obtain ⟨⟨c1, a1, a2, a3, -⟩, -⟩ := hq
    exact ⟨c1, a1, a2, a3⟩
  refine bx_cV (θ := (E, cB, d1, d2, fun q : Nat => H.size ≤ q)) (A := bc_Z g) (ss := [(bc_ad g (500 + k), bc_ad g (700 + k), w.length, f)]) (ws := []) (C := "java/lang/String") (b := bc_ad g (500 + k)) (As := [.int (Int32.ofInt j)]) (rest := r.map (bc_v g)) (n := 1) (y := sj_y_cha) hx hb (hml.trans hl.1.symm) hown hts hZ hS (bx_pre (E := E) (cB := cB) hI hS hZ (fun q hq => hq) hI.1 (fun k q hk => by cases hk) (fun q hh => by rw [List.mem_singleton.mp hh]; exact hq)) (sj_cha (ws := []) (cv := ((w.getD j.toNat 0 : Nat) : Int)) (List.mem_singleton.mpr rfl) h0 h1 (h6 j.toNat (by omega)).1 (Int.natCast_nonneg _) (by have := (h6 j.toNat (by omega)).2; omega)) sj_w_cha (bc_wat_ok (pos := 60) (by decide +kernel)) (bc_j_ok hm4).1 (bc_wat_ok (pos := 857) (by decide +kernel)) (bc_wat_ok (pos := 858) (by decide +kernel)) hrc ⟨by decide +kernel, by decide +kernel, by decide +kernel⟩ ⟨by omega, by omega⟩ ⟨by omega, by omega⟩ rfl rfl (bd_room hr) hd (fun r9 H1 locs1 hp hk hz1 hS1 => ?_)
  obtain ⟨rfl, rfl⟩ := hp
  exact h hok _ locs1 ls hn hH hS1 hl
end BXB
