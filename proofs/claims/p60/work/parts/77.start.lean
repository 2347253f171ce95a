/-! the law makes its object, and runs -/
theorem dL_0 : decode code 0 = .ok (.new 16, 3) := (kL_law 0 _ _ _ rfl).1
theorem dL_3 : decode code 3 = .ok (.dup, 1) := (kL_law 3 _ _ _ rfl).1
theorem dL_4 : decode code 4 = .ok (.invokespecial 303, 3) := (kL_law 4 _ _ _ rfl).1
theorem dL_7 : decode code 7 = .ok (.astore_n 1, 1) := (kL_law 7 _ _ _ rfl).1
theorem s0_uj : uj_ r0_ := by
  refine ⟨fun k k0 k1 => ?_, fun k l k0 k1 k2 => ?_⟩
  · have h : k < r0_ 3 := k1
    rw [r0_3] at h
    omega
  · have h : l < r0_ 3 := k2
    rw [r0_3] at h
    omega
theorem whole_start {p : Program} {e : Env} {s : State} {m : MethodId} {below : List Frame} {meth : Method} {c : Code} (l : Launch) (hflags : l.flags = flags0) {b L : Nat} {xs : Nat → Int32} (hL : L ≤ 260) (C0 : lw_At p s m meth c b L xs) : W p l e room_1 s m #[Value.ref b] below meth c s.heap [] 0 0 (lw_Z below #[Value.ref b] s) (entryFrame m ([Value.ref b] : List Value).toArray 6) := by
  obtain ⟨hx, hb, hret, hml, hown, hts0, hX, hbl, hlocks, hgv⟩ := C0
  have hn : ∀ w ∈ nar_, w.before #[Value.ref b] s = true := flat_of_before _ hgv
  obtain ⟨D, cA, adK, hK, hE⟩ := sta_E hts0 hn
  obtain ⟨E, cB, d1, d2, hI⟩ := sta_I hts0 hn
  have hts : ∀ w ∈ bc_W, w.before #[Value.ref b] s = true := fun w hw => hts0 w (List.mem_filter.mp hw).1
  have hS : va_S (fun a => s.heap.size ≤ a) s.heap s.heap [] := va_S.rf
  have hq : cqz_ D s.heap.size [] s.heap := ⟨rfl, fun i x h => by cases h⟩
  have hl := lv_entry ([.ref b]) (n := 6) (Nat.le_of_ble_eq_true rfl)
  rw [lg_entry_eq]
  generalize (lg_sl ([.ref b]) ++ List.replicate (6 - (lg_sl ([.ref b])).length) Slot.unset).toArray = ls at hl ⊢
  have hl : lv_has ls 6 [(0, .ref b)] := hl
  generalize hzz : s.heap.size = z at hq hS hE hI
  refine cr_new (ci := 10) (fs := [.null, .null, .null, .null, .null, .null, .null, .null, .null, .int (Int32.ofInt 0), .int (Int32.ofInt 0), .int (Int32.ofInt 0)]) (C := RX10) (T := TX10) (N := 12) (k9 := 0) rfl hx hb hts (bc_cl_ok 10 _ rfl).1 tyX10 tyX10_ok hown (hts (.classLink R_law 16 RX10) (bc_wat_ok (pos := 78) (by decide +kernel))) (hts (.instantiable RX10 12) (bc_wat_ok (pos := 79) (by decide +kernel))) (hts (.initialized RX10) (bc_wat_ok (pos := 44) (by decide +kernel))) hK hq hS rfl (fun j hj => by rcases (show j = 0 ∨ j = 1 ∨ j = 2 ∨ j = 3 ∨ j = 4 ∨ j = 5 ∨ j = 6 ∨ j = 7 ∨ j = 8 ∨ j = 9 ∨ j = 10 ∨ j = 11 by omega) with rfl | rfl | rfl | rfl | rfl | rfl | rfl | rfl | rfl | rfl | rfl | rfl <;> rfl) (Nat.le_of_ble_eq_true rfl) (Nat.le_of_ble_eq_true rfl) dL_0 (fun H hq hS => ?_)
  refine lv_dup hx hb dL_3 rfl ?_
  refine cr_callI (Y := mX10_init) (rm := { frames := 10, cells := 217, slots := 2152, locals := 200 }) (es := []) (k9 := 0) rfl hx hb hml hown hts (ctX10 l D cA) (bc_mem_W (bc_tk1 (List.mem_of_getElem? (i := 39) rfl)) rfl) (bc_wat_ok (pos := 80) (by decide +kernel)) (bc_wat_ok (pos := 44) (by decide +kernel)) (bc_wat_ok (pos := 81) (by decide +kernel)) rfl (by decide +kernel) rfl rfl ⟨Nat.le_of_ble_eq_true rfl, Nat.le_of_ble_eq_true rfl⟩ hK hq hS hl.1 (Nat.le_of_ble_eq_true rfl) dL_4 ⟨Nat.le_of_ble_eq_true rfl, Nat.le_of_ble_eq_true rfl⟩ (fun H locs hq hS => ?_)
  have hq : cqz_ D z (E10_ cA (z + 0)) H := hq
  refine lv_astore_n (lv' := [(1, .ref (z + 0)), (0, .ref b)]) hx hb dL_7 rfl hl (by decide) rfl (fun ls hl => ?_)
  have hq : cqz_ D z (EX_ cA z) H := hq
  subst hzz
  have hP := fz_H l D cA b s.heap.size adK hq
  have hF : bc_Fx (gg_ l D cA b s.heap.size adK) mL_law 32 p room_1 s m #[Value.ref b] meth c 218 2164 := ⟨hx, hb, hml, hts, hown, hlocks, gg_ap l D cA b s.heap.size adK, (by show l.stackTraces = false; unfold Launch.stackTraces; rw [hflags]; rfl), hE l b, fun q hq => hq, kL_law, Nat.le_of_ble_eq_true rfl, Nat.le_of_ble_eq_true rfl, Nat.le_of_ble_eq_true rfl, Nat.le_of_ble_eq_true rfl, hret⟩
  have hW : bd_W (L, xs) (gg_ l D cA b s.heap.size adK) s s.heap := ⟨hX, hbl, fun q => absurd hbl (Nat.not_lt.mpr q), E, cB, d1, d2, hI⟩
  have hap := gg_ap l D cA b s.heap.size adK
  have hlv : ∀ k : Nat, bd_lv [] k → k < 218 := fun k hk => by
    rcases hk with hk | ⟨i, o, ho, -⟩
    · exact hk
    · cases ho
  have hok : bd_ok (gg_ l D cA b s.heap.size adK) [] := ⟨Nat.zero_le _, fun k k' h1 h2 => hap.1 k k' (hlv k h1) (hlv k' h2), fun k h1 => hap.2 k (hlv k h1)⟩
  have hsc : ((L, xs) : Nat × (Nat → Int32)).1 < 2000 := by show L < 2000; omega
  have hB := lw2_body (g := gg_ l D cA b s.heap.size adK) (d := 0) (sc := (L, xs)) hsc (lw2_good (g := gg_ l D cA b s.heap.size adK) (e := e) (below := below) (b := b) (m := m) (meth := meth) (c := c) (p := p) (s := s) (c0 := 218) (s0 := 2164) hsc (fun q hq => hq) ⟨Nat.le_of_ble_eq_true rfl, Nat.le_of_ble_eq_true rfl⟩) s0_fa s0_uj (by decide)
  exact hB ⟨bd_ag_rf _ _, [], rfl⟩ ⟨hF, hW⟩ hok H _ ls (Nat.zero_le _) ⟨hP, fun i o ho => by cases ho⟩ hS (lv_sub hl [1, 0] rfl)
