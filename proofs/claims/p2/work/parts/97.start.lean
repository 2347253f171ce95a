/-! the law makes its objects, and runs -/
theorem st_aL (cA : Nat → ClassId) : vp_cell (cA 3) (1, .inr (.inl (fun j => if j = 0 then 0 else 0))) = arrV (cA 3) 1 (fun _ => defaultValue (newarray.typeOf .long)) := by
  show arrV (cA 3) 1 (fun j => Value.long (if j = 0 then 0 else 0)) = _
  congr 1
  funext j
  by_cases h : j = 0 <;> simp [h] <;> rfl
theorem st_aD (cA : Nat → ClassId) : vp_cell (cA 4) (1, .inr (.inr (.inr (.inl (fun j => if j = 0 then 0 else 0))))) = arrV (cA 4) 1 (fun _ => defaultValue (newarray.typeOf .double)) := by
  show arrV (cA 4) 1 (fun j => Value.double (if j = 0 then 0 else 0)) = _
  congr 1
  funext j
  by_cases h : j = 0 <;> simp [h] <;> rfl
theorem dL_0 : decode code 0 = .ok (.new 8, 3) := (kL_law 0 _ _ _ rfl).1
theorem dL_3 : decode code 3 = .ok (.dup, 1) := (kL_law 3 _ _ _ rfl).1
theorem dL_4 : decode code 4 = .ok (.invokespecial 161, 3) := (kL_law 4 _ _ _ rfl).1
theorem dL_7 : decode code 7 = .ok (.astore_n 1, 1) := (kL_law 7 _ _ _ rfl).1
theorem dL_8 : decode code 8 = .ok (.new 162, 3) := (kL_law 8 _ _ _ rfl).1
theorem dL_11 : decode code 11 = .ok (.dup, 1) := (kL_law 11 _ _ _ rfl).1
theorem dL_12 : decode code 12 = .ok (.invokespecial 164, 3) := (kL_law 12 _ _ _ rfl).1
theorem dL_15 : decode code 15 = .ok (.astore_n 2, 1) := (kL_law 15 _ _ _ rfl).1
theorem dL_16 : decode code 16 = .ok (.iconst 1, 1) := (kL_law 16 _ _ _ rfl).1
theorem dL_17 : decode code 17 = .ok (.newarray .long, 2) := (kL_law 17 _ _ _ rfl).1
theorem dL_19 : decode code 19 = .ok (.astore_n 3, 1) := (kL_law 19 _ _ _ rfl).1
theorem dL_20 : decode code 20 = .ok (.iconst 1, 1) := (kL_law 20 _ _ _ rfl).1
theorem dL_21 : decode code 21 = .ok (.newarray .double, 2) := (kL_law 21 _ _ _ rfl).1
theorem dL_23 : decode code 23 = .ok (.astore 4, 2) := (kL_law 23 _ _ _ rfl).1
theorem dL_25 : decode code 25 = .ok (.iconst 0, 1) := (kL_law 25 _ _ _ rfl).1
theorem dL_26 : decode code 26 = .ok (.istore 5, 2) := (kL_law 26 _ _ _ rfl).1
theorem whole_start {p : Program} {e : Env} {s : State} {m : MethodId} {below : List Frame} {meth : Method} {c : Code} (l : Launch) (hflags : l.flags = flags0) {b L : Nat} {xs : Nat → Int32} (hL : L ≤ 2048) (C0 : lw_At p s m meth c b L xs) : W p l e room_1 s m #[Value.ref b] below meth c s.heap [] 0 0 (lw_Z below #[Value.ref b] s) (entryFrame m ([Value.ref b] : List Value).toArray 9) := by
  obtain ⟨hx, hb, hret, hml, hown, hts0, hX, hbl, hlocks, hgv⟩ := C0
  have hn : ∀ w ∈ nar_, w.before #[Value.ref b] s = true := flat_of_before _ hgv
  obtain ⟨D, cA, adK, hK, hE⟩ := sta_E hts0 hn
  have hts : ∀ w ∈ bc_W, w.before #[Value.ref b] s = true := fun w hw => hts0 w (List.mem_filter.mp hw).1
  have hS : va_S (fun a => s.heap.size ≤ a) s.heap s.heap [] := va_S.rf
  have hq : cqz_ D s.heap.size [] s.heap := ⟨rfl, fun i x h => by cases h⟩
  have hl := lv_entry ([.ref b]) (n := 9) (Nat.le_of_ble_eq_true rfl)
  rw [lg_entry_eq]
  generalize (lg_sl ([.ref b]) ++ List.replicate (9 - (lg_sl ([.ref b])).length) Slot.unset).toArray = ls at hl ⊢
  have hl : lv_has ls 9 [(0, .ref b)] := hl
  generalize hzz : s.heap.size = z at hq hS hE
  refine cr_new (ci := 10) (fs := [.null, .null, .null, .null, .null, .null, .null, .null, .null, .int (Int32.ofInt 0), .int (Int32.ofInt 0), .int (Int32.ofInt 0)]) (C := RX10) (T := TX10) (N := 12) (k9 := 0) rfl hx hb hts (bc_cl_ok 10 _ rfl).1 tyX10 tyX10_ok hown (hts (.classLink R_law 8 RX10) (bc_wat_ok (pos := 126) (by decide +kernel))) (hts (.instantiable RX10 12) (bc_wat_ok (pos := 127) (by decide +kernel))) (hts (.initialized RX10) (bc_wat_ok (pos := 96) (by decide +kernel))) hK hq hS rfl (fun j hj => by rcases (show j = 0 ∨ j = 1 ∨ j = 2 ∨ j = 3 ∨ j = 4 ∨ j = 5 ∨ j = 6 ∨ j = 7 ∨ j = 8 ∨ j = 9 ∨ j = 10 ∨ j = 11 by omega) with rfl | rfl | rfl | rfl | rfl | rfl | rfl | rfl | rfl | rfl | rfl | rfl <;> rfl) (Nat.le_of_ble_eq_true rfl) (Nat.le_of_ble_eq_true rfl) dL_0 (fun H hq hS => ?_)
  refine lv_dup hx hb dL_3 rfl ?_
  refine cr_callI (Y := mX10_init) (rm := { frames := 10, cells := 217, slots := 2152, locals := 200 }) (es := []) (k9 := 0) rfl hx hb hml hown hts (ctX10 l D cA) (bc_mem_W (bc_tk1 (List.mem_of_getElem? (i := 35) rfl)) rfl) (bc_wat_ok (pos := 128) (by decide +kernel)) (bc_wat_ok (pos := 96) (by decide +kernel)) (bc_wat_ok (pos := 129) (by decide +kernel)) rfl (by decide +kernel) rfl rfl ⟨Nat.le_of_ble_eq_true rfl, Nat.le_of_ble_eq_true rfl⟩ hK hq hS hl.1 (Nat.le_of_ble_eq_true rfl) dL_4 ⟨Nat.le_of_ble_eq_true rfl, Nat.le_of_ble_eq_true rfl⟩ (fun H locs hq hS => ?_)
  have hq : cqz_ D z (E10_ cA (z + 0)) H := hq
  refine lv_astore_n (lv' := [(1, .ref (z + 0)), (0, .ref b)]) hx hb dL_7 rfl hl (by decide) rfl (fun ls hl => ?_)
  refine cr_new (ci := 11) (fs := [.null, .null, .null, .null, .int (Int32.ofInt 0), .int (Int32.ofInt 0), .int (Int32.ofInt 0), .int (Int32.ofInt 0), .null, .null, .null, .int (Int32.ofInt 0), .null, .int (Int32.ofInt 0), .int (Int32.ofInt 0), .int (Int32.ofInt 0), .int (Int32.ofInt 0), .int (Int32.ofInt 0), .int (Int32.ofInt 0), .null]) (C := RX11) (T := TX11) (N := 20) (k9 := 218) (E10_len cA _) hx hb hts (bc_cl_ok 11 _ rfl).1 tyX11 tyX11_ok hown (hts (.classLink R_law 162 RX11) (bc_wat_ok (pos := 1470) (by decide +kernel))) (hts (.instantiable RX11 20) (bc_wat_ok (pos := 1471) (by decide +kernel))) (hts (.initialized RX11) (bc_wat_ok (pos := 107) (by decide +kernel))) hK hq hS rfl (fun j hj => by rcases (show j = 0 ∨ j = 1 ∨ j = 2 ∨ j = 3 ∨ j = 4 ∨ j = 5 ∨ j = 6 ∨ j = 7 ∨ j = 8 ∨ j = 9 ∨ j = 10 ∨ j = 11 ∨ j = 12 ∨ j = 13 ∨ j = 14 ∨ j = 15 ∨ j = 16 ∨ j = 17 ∨ j = 18 ∨ j = 19 by omega) with rfl | rfl | rfl | rfl | rfl | rfl | rfl | rfl | rfl | rfl | rfl | rfl | rfl | rfl | rfl | rfl | rfl | rfl | rfl | rfl <;> rfl) (Nat.le_of_ble_eq_true rfl) (Nat.le_of_ble_eq_true rfl) dL_8 (fun H hq hS => ?_)
  refine lv_dup hx hb dL_11 rfl ?_
  refine cr_callI (Y := mX11_init) (rm := { frames := 2, cells := 9, slots := 1753, locals := 20 }) (es := E10_ cA (z + 0)) (k9 := 218) (E10_len cA _) hx hb hml hown hts (ctX11 l D cA) (bc_mem_W (bc_tk6 (List.mem_of_getElem? (i := 179) rfl)) rfl) (bc_wat_ok (pos := 1472) (by decide +kernel)) (bc_wat_ok (pos := 107) (by decide +kernel)) (bc_wat_ok (pos := 1473) (by decide +kernel)) rfl (by decide +kernel) rfl rfl ⟨Nat.le_of_ble_eq_true rfl, Nat.le_of_ble_eq_true rfl⟩ hK hq hS hl.1 (Nat.le_of_ble_eq_true rfl) dL_12 ⟨Nat.le_of_ble_eq_true rfl, Nat.le_of_ble_eq_true rfl⟩ (fun H locs hq hS => ?_)
  refine lv_astore_n (lv' := [(2, .ref (z + 218)), (1, .ref (z + 0)), (0, .ref b)]) hx hb dL_15 rfl hl (by decide) rfl (fun ls hl => ?_)
  refine lv_iconst (v := Int32.ofInt 1) hx hb dL_16 (by decide) ?_
  refine cr_newa (atype := .long) (cI := cA 3) (n := Int32.ofInt 1) (N' := 1) (a0 := (1, .inr (.inl (fun j => if j = 0 then 0 else 0)))) (k9 := 228) (by simp [E10_len, E11_len]) hx hb (hts (.arrayClass .long) (bc_wat_ok (pos := 2007) (by decide +kernel))) (hK.1.2 3 _ rfl).2 hq hS (st_aL cA) (by decide) (by decide) (Nat.le_of_ble_eq_true rfl) (Nat.le_of_ble_eq_true rfl) (Nat.le_of_ble_eq_true rfl) dL_17 (fun H hq hS => ?_)
  refine lv_astore_n (lv' := [(3, .ref (z + 228)), (2, .ref (z + 218)), (1, .ref (z + 0)), (0, .ref b)]) hx hb dL_19 rfl hl (by decide) rfl (fun ls hl => ?_)
  refine lv_iconst (v := Int32.ofInt 1) hx hb dL_20 (by decide) ?_
  refine cr_newa (atype := .double) (cI := cA 4) (n := Int32.ofInt 1) (N' := 1) (a0 := (1, .inr (.inr (.inr (.inl (fun j => if j = 0 then 0 else 0)))))) (k9 := 229) (by simp [E10_len, E11_len]) hx hb (hts (.arrayClass .double) (bc_wat_ok (pos := 2008) (by decide +kernel))) (hK.1.2 4 _ rfl).2 hq hS (st_aD cA) (by decide) (by decide) (Nat.le_of_ble_eq_true rfl) (Nat.le_of_ble_eq_true rfl) (Nat.le_of_ble_eq_true rfl) dL_21 (fun H hq hS => ?_)
  refine lv_astore (lv' := [(4, .ref (z + 229)), (3, .ref (z + 228)), (2, .ref (z + 218)), (1, .ref (z + 0)), (0, .ref b)]) hx hb dL_23 hl (by decide) rfl (fun ls hl => ?_)
  refine lv_iconst (v := Int32.ofInt 0) hx hb dL_25 (by decide) ?_
  refine lv_istore (lv' := [(5, .int (Int32.ofInt 0)), (4, .ref (z + 229)), (3, .ref (z + 228)), (2, .ref (z + 218)), (1, .ref (z + 0)), (0, .ref b)]) hx hb dL_26 hl (by decide) rfl (fun ls hl => ?_)
  have hq : cqz_ D z (EX_ cA z) H := hq
  subst hzz
  have hH := fz_H l D cA b s.heap.size adK hq
  have hF : bc_Fx (gg_ l D cA b s.heap.size adK) mL_law 20 p room_1 s m #[Value.ref b] meth c 230 3939 := ⟨hx, hb, hml, hts, hown, hlocks, gg_ap l D cA b s.heap.size adK, (by show l.stackTraces = false; unfold Launch.stackTraces; rw [hflags]; rfl), hE l b, Nat.le_refl _, kL_law, Nat.le_of_ble_eq_true rfl, Nat.le_of_ble_eq_true rfl, Nat.le_of_ble_eq_true rfl, Nat.le_of_ble_eq_true rfl, hret⟩
  have hB := lw_loop (e := e) (below := below) hF rfl rfl hX hbl hL 513 0 230 3939 s0_ v0_ (by decide) (by decide) (by decide) s0_jn
  exact hB H _ ls (Nat.zero_le _) hH hS (lv_sub hl [5, 4, 3, 2, 1, 0] rfl)
