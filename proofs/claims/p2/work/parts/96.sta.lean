/-! at the law's entry the world outside is as it must be -/
def nar_ : List Cond := flatC (Jvm.Cond.and given_1 narrow_1)
def nd_t (i : Nat) : Term := .string (if i < 16 then RX5 else RX11) (if i < 16 then 74 + 2 * i else 248)
def nd_l (t : Term) (n : Nat) (bs : List Int32) : List Cond := .exactly t "java/lang/String" :: .eq (.field t "java/lang/String" "coder" "B") (.int 0) :: .arrayOf (.field t "java/lang/String" "value" "[B") .byte :: .eq (.length (.field t "java/lang/String" "value" "[B")) (.int (Int32.ofNat n)) :: (List.range n).map (fun j => .eq (.elem (.field t "java/lang/String" "value" "[B") (.int (Int32.ofNat j))) (.int (bs.getD j 0)))
def nd_c (i p q : Nat) : Bool := decide ((nar_.drop p).take (4 + bc_tx_len.getD i 0) = nd_l (nd_t i) (bc_tx_len.getD i 0) (bc_tx_byt.getD i [])) && decide ((nar_.drop q).take i = (List.range i).map (fun j => .not (.eq (nd_t j) (nd_t i))))
theorem nd_0 : nd_c 0 322 0 = true := by decide +kernel
theorem nd_1 : nd_c 1 339 354 = true := by decide +kernel
theorem nd_2 : nd_c 2 355 369 = true := by decide +kernel
theorem nd_3 : nd_c 3 371 387 = true := by decide +kernel
theorem nd_4 : nd_c 4 390 407 = true := by decide +kernel
theorem nd_5 : nd_c 5 411 429 = true := by decide +kernel
theorem nd_6 : nd_c 6 434 451 = true := by decide +kernel
theorem nd_7 : nd_c 7 457 473 = true := by decide +kernel
theorem nd_8 : nd_c 8 480 494 = true := by decide +kernel
theorem nd_9 : nd_c 9 502 515 = true := by decide +kernel
theorem nd_10 : nd_c 10 524 538 = true := by decide +kernel
theorem nd_11 : nd_c 11 548 561 = true := by decide +kernel
theorem nd_12 : nd_c 12 572 583 = true := by decide +kernel
theorem nd_13 : nd_c 13 595 609 = true := by decide +kernel
theorem nd_14 : nd_c 14 622 634 = true := by decide +kernel
theorem nd_15 : nd_c 15 648 659 = true := by decide +kernel
theorem nd_16 : nd_c 16 799 866 = true := by decide +kernel
theorem nd_all (i : Nat) (h : i < 17) : ∃ p q : Nat, nd_c i p q = true := by
  match i, h with
  | 0, _ => exact ⟨_, _, nd_0⟩
  | 1, _ => exact ⟨_, _, nd_1⟩
  | 2, _ => exact ⟨_, _, nd_2⟩
  | 3, _ => exact ⟨_, _, nd_3⟩
  | 4, _ => exact ⟨_, _, nd_4⟩
  | 5, _ => exact ⟨_, _, nd_5⟩
  | 6, _ => exact ⟨_, _, nd_6⟩
  | 7, _ => exact ⟨_, _, nd_7⟩
  | 8, _ => exact ⟨_, _, nd_8⟩
  | 9, _ => exact ⟨_, _, nd_9⟩
  | 10, _ => exact ⟨_, _, nd_10⟩
  | 11, _ => exact ⟨_, _, nd_11⟩
  | 12, _ => exact ⟨_, _, nd_12⟩
  | 13, _ => exact ⟨_, _, nd_13⟩
  | 14, _ => exact ⟨_, _, nd_14⟩
  | 15, _ => exact ⟨_, _, nd_15⟩
  | 16, _ => exact ⟨_, _, nd_16⟩
  | k + 17, h => exact absurd h (by omega)
theorem nd_mem {l l' : List Cond} {p n : Nat} (h : (l.drop p).take n = l') {w : Cond} (hw : w ∈ l') : w ∈ l := by
  rw [← h] at hw
  exact List.mem_of_mem_drop (List.mem_of_mem_take hw)
theorem nd_len : ∀ i, i < 17 → bc_tx_len.getD i 0 < 2 ^ 31 := by decide +kernel
theorem sta_tx {args : Array Value} {s : State} (hn : ∀ w ∈ nar_, w.before args s = true) : ∃ adK adV : Nat → Nat, vk_S 17 bc_tx_len bc_tx_byt adK adV (fun q => s.heap.size ≤ q) s s.heap ∧ ∀ i : Nat, i < 17 → (nd_t i).eval args s none [] s = some (.ref (adK i)) := by
  have key : ∀ i, i < 17 → (∀ w ∈ nd_l (nd_t i) (bc_tx_len.getD i 0) (bc_tx_byt.getD i []), w.before args s = true) ∧ ∀ j, j < i → (Cond.not (.eq (nd_t j) (nd_t i))).before args s = true := by
    intro i hi
    obtain ⟨p, q, h⟩ := nd_all i hi
    unfold nd_c at h
    rw [Bool.and_eq_true, decide_eq_true_eq, decide_eq_true_eq] at h
    exact ⟨fun w hw => hn w (nd_mem h.1 hw), fun j hj => hn _ (nd_mem h.2 (List.mem_map.mpr ⟨j, List.mem_range.mpr hj, rfl⟩))⟩
  refine vk_Sof (tm := nd_t) nd_len (fun i hi => (key i hi).1 _ (by simp [nd_l])) (fun i hi => (key i hi).1 _ (by simp [nd_l])) (fun i hi => (key i hi).1 _ (by simp [nd_l])) (fun i hi => (key i hi).1 _ (by simp [nd_l])) (fun i hi j hj => (key i hi).1 _ ?_) (fun i j hi hj hne => ?_) (fun a h1 h2 => absurd h1 (Nat.not_lt.mpr h2))
  · unfold nd_l
    exact List.mem_cons_of_mem _ (List.mem_cons_of_mem _ (List.mem_cons_of_mem _ (List.mem_cons_of_mem _ (List.mem_map.mpr ⟨j, List.mem_range.mpr hj, rfl⟩))))
  · rcases Nat.lt_or_gt_of_ne hne with h | h
    · exact .inl ((key j hj).2 i h)
    · exact .inr ((key i hi).2 j h)
theorem sta_in {args : Array Value} {s : State} (hts : ∀ w ∈ lw_tbl, w.before args s = true) : ∀ (c : Nat) (q : vw_C), bc_cl[c]? = some q → (Cond.instantiable q.1 q.2.2).before args s = true := by
  intro c q h
  match c, h with
  | 0, h => cases h; exact hts _ (List.mem_of_getElem? (i := 318) (by decide +kernel))
  | 1, h => cases h; exact hts _ (List.mem_of_getElem? (i := 268) (by decide +kernel))
  | 2, h => cases h; exact hts _ (List.mem_of_getElem? (i := 141) (by decide +kernel))
  | 3, h => cases h; exact hts _ (List.mem_of_getElem? (i := 186) (by decide +kernel))
  | 4, h => cases h; exact hts _ (List.mem_of_getElem? (i := 334) (by decide +kernel))
  | 5, h => cases h; exact hts _ (List.mem_of_getElem? (i := 355) (by decide +kernel))
  | 6, h => cases h; exact hts _ (List.mem_of_getElem? (i := 135) (by decide +kernel))
  | 7, h => cases h; exact hts _ (List.mem_of_getElem? (i := 361) (by decide +kernel))
  | 8, h => cases h; exact hts _ (List.mem_of_getElem? (i := 201) (by decide +kernel))
  | 9, h => cases h; exact hts _ (List.mem_of_getElem? (i := 288) (by decide +kernel))
  | 10, h => cases h; exact hts _ (List.mem_of_getElem? (i := 127) (by decide +kernel))
  | 11, h => cases h; exact hts _ (List.mem_of_getElem? (i := 1471) (by decide +kernel))
  | k + 12, h => cases h
theorem sta_D {args : Array Value} {s : State} (hts : ∀ w ∈ lw_tbl, w.before args s = true) : ∃ D : va_G, ∀ (c : Nat) (q : vw_C), bc_cl[c]? = some q → u_Kn s q.1 q.2.1 q.2.2 (D.1 c) (D.2 c) := by
  have h0 : ∀ c : Nat, ∃ x : ClassId × (Nat → Nat), ∀ q : vw_C, bc_cl[c]? = some q → u_Kn s q.1 q.2.1 q.2.2 x.1 x.2 := by
    intro c
    cases hc : bc_cl[c]? with
    | none => exact ⟨(0, fun _ => 0), fun q h => by cases h⟩
    | some q0 =>
      obtain ⟨cC, iS, h⟩ := u_known (T := q0.2.1) (N := q0.2.2) (ws := bc_W) (fun w hw => hts w (List.mem_filter.mp hw).1) (bc_cl_ok c q0 hc).1 (sta_in hts c q0 hc)
      exact ⟨(cC, iS), fun q hq => by cases hq; exact h⟩
  obtain ⟨f, hf⟩ := Classical.axiomOfChoice h0
  exact ⟨(fun c => (f c).1, fun c => (f c).2), fun c q hq => hf c q hq⟩
theorem sta_A {args : Array Value} {s : State} {t : FieldType} (ht : ∀ C, t ≠ .object C) (h : (Cond.arrayClass t).before args s = true) : ∃ c : ClassId, ArrOfT s c t ∧ va_RA s c t := by
  obtain ⟨c, k, comp, h1, h2, h3⟩ := Cond.arrayClass_spec h
  refine ⟨c, fun n z => ⟨fun k h => (by cases h), k, h2, comp, h3⟩, ?_⟩
  cases t with
  | object C => exact absurd rfl (ht C)
  | _ => exact h1
theorem sta_K {args : Array Value} {s : State} (hts : ∀ w ∈ lw_tbl, w.before args s = true) : ∃ (D : va_G) (cA : Nat → ClassId), ck_K D cA s := by
  obtain ⟨D, hD⟩ := sta_D hts
  obtain ⟨c0, a0, b0⟩ := sta_A (by simp) (hts (.arrayClass .int) (List.mem_of_getElem? (i := 183) (by decide +kernel)))
  obtain ⟨c1, a1, b1⟩ := sta_A (by simp) (hts (.arrayClass .char) (List.mem_of_getElem? (i := 375) (by decide +kernel)))
  obtain ⟨c2, a2, b2⟩ := sta_A (by simp) (hts (.arrayClass .boolean) (List.mem_of_getElem? (i := 184) (by decide +kernel)))
  obtain ⟨c3, a3, b3⟩ := sta_A (by simp) (hts (.arrayClass .long) (List.mem_of_getElem? (i := 2007) (by decide +kernel)))
  obtain ⟨c4, a4, b4⟩ := sta_A (by simp) (hts (.arrayClass .double) (List.mem_of_getElem? (i := 2008) (by decide +kernel)))
  have hi := hts (.arrayOver (.array .int)) (List.mem_of_getElem? (i := 294) (by decide +kernel))
  have ho := hts (.arrayOver (.object "BridgeChapel$State")) (List.mem_of_getElem? (i := 274) (by decide +kernel))
  obtain ⟨comp5, c5, k5, d1, d2, d3, d4, d5⟩ := arrayOverA_spec hi
  obtain ⟨comp6, c6, k6, e1, e2, e3, e4, e5⟩ := Cond.arrayOver_spec ho
  have h50 : comp5 = c0 := by
    have : s.vm.findClass ("[" ++ FieldType.int.toString) = some c0 := b0
    exact Option.some.inj (d1.symm.trans this)
  refine ⟨D, fun i => match i with | 0 => c0 | 1 => c1 | 2 => c2 | 3 => c3 | 4 => c4 | 5 => c5 | _ => c6, ⟨hD, fun k q hk => ?_⟩, va_AO.of ho, ⟨k5, d3, (by rw [d4, h50]; rfl)⟩, fun w hw hm => va_Nw.of ?_ (hts w hw)⟩
  · match k, hk with
    | 0, hk => cases hk; exact ⟨a0, b0⟩
    | 1, hk => cases hk; exact ⟨a1, b1⟩
    | 2, hk => cases hk; exact ⟨a2, b2⟩
    | 3, hk => cases hk; exact ⟨a3, b3⟩
    | 4, hk => cases hk; exact ⟨a4, b4⟩
    | 5, hk => cases hk; exact ⟨fun n z => ⟨fun k h => (by cases h), k5, d3, comp5, d4⟩, d5⟩
    | 6, hk => cases hk; exact ⟨fun n z => ⟨fun k h => (by cases h), k6, e3, comp6, e4⟩, k6, comp6, e3, e4, e1, e5⟩
    | k + 7, hk => cases hk
  · unfold ck_M at hm
    split at hm <;> first | rfl | cases hm
theorem sta_r {args : Array Value} {s : State} {own tx : String} {k : Nat} (h : (Cond.stringRef own k tx).before args s = true) : ∃ a : Nat, vk_R own k tx a s := by
  have hcur : ∃ cur, s.vm.findClass own = some cur := by
    have h1 := h
    simp only [Cond.before, Cond.holds, Cond.value] at h1
    cases hc : s.vm.findClass own with
    | none => simp [hc] at h1
    | some cur => exact ⟨cur, rfl⟩
  obtain ⟨cur, hcur⟩ := hcur
  obtain ⟨-, -, -, a, -, -, -, -, -, ha⟩ := Cond.stringRef_spec hcur h
  exact ⟨a, vk_R.of h ha⟩
theorem sta_st {args : Array Value} {s : State} (hts : ∀ w ∈ lw_tbl, w.before args s = true) : ∀ (i : Nat) (q : String × Nat × String), bc_st[i]? = some q → (Cond.stringRef q.1 q.2.1 q.2.2).before args s = true := by
  intro i q h
  match i, h with
  | 0, h => cases h; exact hts _ (List.mem_of_getElem? (i := 754) (by decide +kernel))
  | 1, h => cases h; exact hts _ (List.mem_of_getElem? (i := 767) (by decide +kernel))
  | 2, h => cases h; exact hts _ (List.mem_of_getElem? (i := 783) (by decide +kernel))
  | 3, h => cases h; exact hts _ (List.mem_of_getElem? (i := 799) (by decide +kernel))
  | 4, h => cases h; exact hts _ (List.mem_of_getElem? (i := 815) (by decide +kernel))
  | 5, h => cases h; exact hts _ (List.mem_of_getElem? (i := 831) (by decide +kernel))
  | 6, h => cases h; exact hts _ (List.mem_of_getElem? (i := 1412) (by decide +kernel))
  | 7, h => cases h; exact hts _ (List.mem_of_getElem? (i := 1433) (by decide +kernel))
  | k + 8, h => cases h
theorem sta_ts {args : Array Value} {s : State} (hts : ∀ w ∈ lw_tbl, w.before args s = true) : ∀ (i : Nat) (q : String × Nat × String), bc_ts[i]? = some q → i < 17 ∧ nd_t i = .string q.1 q.2.1 ∧ (Cond.stringRef q.1 q.2.1 q.2.2).before args s = true := by
  intro i q h
  match i, h with
  | 0, h => cases h; exact ⟨by decide, rfl, hts _ (List.mem_of_getElem? (i := 1324) (by decide +kernel))⟩
  | 1, h => cases h; exact ⟨by decide, rfl, hts _ (List.mem_of_getElem? (i := 1325) (by decide +kernel))⟩
  | 2, h => cases h; exact ⟨by decide, rfl, hts _ (List.mem_of_getElem? (i := 1326) (by decide +kernel))⟩
  | 3, h => cases h; exact ⟨by decide, rfl, hts _ (List.mem_of_getElem? (i := 1327) (by decide +kernel))⟩
  | 4, h => cases h; exact ⟨by decide, rfl, hts _ (List.mem_of_getElem? (i := 1328) (by decide +kernel))⟩
  | 5, h => cases h; exact ⟨by decide, rfl, hts _ (List.mem_of_getElem? (i := 1329) (by decide +kernel))⟩
  | 6, h => cases h; exact ⟨by decide, rfl, hts _ (List.mem_of_getElem? (i := 1330) (by decide +kernel))⟩
  | 7, h => cases h; exact ⟨by decide, rfl, hts _ (List.mem_of_getElem? (i := 1331) (by decide +kernel))⟩
  | 8, h => cases h; exact ⟨by decide, rfl, hts _ (List.mem_of_getElem? (i := 1332) (by decide +kernel))⟩
  | 9, h => cases h; exact ⟨by decide, rfl, hts _ (List.mem_of_getElem? (i := 1333) (by decide +kernel))⟩
  | 10, h => cases h; exact ⟨by decide, rfl, hts _ (List.mem_of_getElem? (i := 1395) (by decide +kernel))⟩
  | 11, h => cases h; exact ⟨by decide, rfl, hts _ (List.mem_of_getElem? (i := 1396) (by decide +kernel))⟩
  | 12, h => cases h; exact ⟨by decide, rfl, hts _ (List.mem_of_getElem? (i := 1397) (by decide +kernel))⟩
  | 13, h => cases h; exact ⟨by decide, rfl, hts _ (List.mem_of_getElem? (i := 1398) (by decide +kernel))⟩
  | 14, h => cases h; exact ⟨by decide, rfl, hts _ (List.mem_of_getElem? (i := 1399) (by decide +kernel))⟩
  | 15, h => cases h; exact ⟨by decide, rfl, hts _ (List.mem_of_getElem? (i := 1400) (by decide +kernel))⟩
  | 16, h => cases h; exact ⟨by decide, rfl, hts _ (List.mem_of_getElem? (i := 1969) (by decide +kernel))⟩
  | k + 17, h => cases h
theorem sta_nc {args : Array Value} {s : State} (hn : ∀ w ∈ nar_, w.before args s = true) : ∀ q ∈ bc_ncl, va_Nc (bc_en q.1) (bc_en q.2) s := by
  intro q hq
  simp only [List.mem_cons, List.not_mem_nil, or_false] at hq
  rcases hq with rfl | rfl | rfl | rfl | rfl | rfl | rfl | rfl | rfl | rfl | rfl
  · exact va_Nc.of (hn (.not (.castable "java/lang/IllegalArgumentException" "java/lang/IndexOutOfBoundsException")) (List.mem_of_getElem? (i := 23) (by decide +kernel)))
  · exact va_Nc.of (hn (.not (.castable "java/lang/IllegalStateException" "java/lang/IndexOutOfBoundsException")) (List.mem_of_getElem? (i := 24) (by decide +kernel)))
  · exact va_Nc.of (hn (.not (.castable "java/lang/IllegalStateException" "java/lang/IllegalArgumentException")) (List.mem_of_getElem? (i := 42) (by decide +kernel)))
  · exact va_Nc.of (hn (.not (.castable "java/lang/IllegalStateException" "java/lang/UnsupportedOperationException")) (List.mem_of_getElem? (i := 97) (by decide +kernel)))
  · exact va_Nc.of (hn (.not (.castable "java/util/NoSuchElementException" "java/lang/IndexOutOfBoundsException")) (List.mem_of_getElem? (i := 25) (by decide +kernel)))
  · exact va_Nc.of (hn (.not (.castable "java/util/NoSuchElementException" "java/lang/IllegalArgumentException")) (List.mem_of_getElem? (i := 43) (by decide +kernel)))
  · exact va_Nc.of (hn (.not (.castable "java/lang/UnsupportedOperationException" "java/lang/IndexOutOfBoundsException")) (List.mem_of_getElem? (i := 26) (by decide +kernel)))
  · exact va_Nc.of (hn (.not (.castable "java/lang/UnsupportedOperationException" "java/lang/IllegalArgumentException")) (List.mem_of_getElem? (i := 44) (by decide +kernel)))
  · exact va_Nc.of (hn (.not (.castable "java/lang/UnsupportedOperationException" "java/lang/IllegalStateException")) (List.mem_of_getElem? (i := 62) (by decide +kernel)))
  · exact va_Nc.of (hn (.not (.castable "java/lang/UnsupportedOperationException" "java/util/NoSuchElementException")) (List.mem_of_getElem? (i := 80) (by decide +kernel)))
  · exact va_Nc.of (hn (.not (.castable "java/lang/ArithmeticException" "java/lang/IndexOutOfBoundsException")) (List.mem_of_getElem? (i := 27) (by decide +kernel)))
theorem gg_adK (l : Launch) (D : va_G) (cA : Nat → ClassId) (b z : Nat) (adK : Nat → Nat) (i : Nat) : bc_ad (gg_ l D cA b z adK) (1000 + i) = adK i := by
  show (if 1000 + i < 230 then z + (1000 + i) else if 1000 + i = 999 then b else adK (1000 + i - 1000)) = adK i
  rw [if_neg (by omega), if_neg (by omega), show 1000 + i - 1000 = i by omega]
theorem sta_E {args : Array Value} {s : State} (hts : ∀ w ∈ lw_tbl, w.before args s = true) (hn : ∀ w ∈ nar_, w.before args s = true) : ∃ (D : va_G) (cA : Nat → ClassId) (adK : Nat → Nat), ck_K D cA s ∧ ∀ (l : Launch) (b : Nat), bc_E (gg_ l D cA b s.heap.size adK) s s.heap := by
  obtain ⟨D, cA, hK⟩ := sta_K hts
  obtain ⟨adK, adV, hS, hev⟩ := sta_tx hn
  refine ⟨D, cA, adK, hK, fun l b => ?_⟩
  have hA : ∀ a : Nat, a < s.heap.size → ¬ bc_Z (gg_ l D cA b s.heap.size adK) a := fun a h1 h2 => absurd h1 (Nat.not_lt.mpr h2)
  refine ⟨hK.1, vx_Zqof (hts _ (List.mem_of_getElem? (i := 660) (by decide +kernel))) (hts _ (List.mem_of_getElem? (i := 108) (by decide +kernel))) (hn (.isRef (.static Bundle.tN "UNASSIGNED_STACK" Bundle.steD)) (List.mem_of_getElem? (i := 4) (by decide +kernel))) hA, vx_Zqof (hts _ (List.mem_of_getElem? (i := 662) (by decide +kernel))) (hts _ (List.mem_of_getElem? (i := 108) (by decide +kernel))) (hn (.isRef (.static Bundle.tN "SUPPRESSED_SENTINEL" Bundle.listD)) (List.mem_of_getElem? (i := 5) (by decide +kernel))) hA, fun i q hq => sta_r (sta_st hts i q hq), fun i q hq => ?_, fun w hw hi => va_Nw.of (bc_isN_t hi) (hts w hw), sta_nc hn, ⟨adV, ?_⟩, va_Zof (hts _ (List.mem_of_getElem? (i := 1347) (by decide +kernel))) (hts _ (List.mem_of_getElem? (i := 113) (by decide +kernel))) (va_eqt (hn (.eq (.static "java/lang/String" "COMPACT_STRINGS" "Z") (.int 1)) (List.mem_of_getElem? (i := 6) (by decide +kernel)))) hA, va_Zqof (hts _ (List.mem_of_getElem? (i := 1364) (by decide +kernel))) (hts _ (List.mem_of_getElem? (i := 124) (by decide +kernel))) (hn (.isRef (.static "jdk/internal/util/Preconditions" "SIOOBE_FORMATTER" "Ljava/util/function/BiFunction;")) (List.mem_of_getElem? (i := 7) (by decide +kernel))) hA⟩
  · obtain ⟨h1, h2, h3⟩ := sta_ts hts i q hq
    rw [gg_adK]
    have h4 := hev i h1
    rw [h2] at h4
    exact vk_R.of h3 h4
  · have e : (fun i => bc_ad (gg_ l D cA b s.heap.size adK) (1000 + i)) = adK := funext fun i => gg_adK l D cA b s.heap.size adK i
    rw [e]
    exact hS
