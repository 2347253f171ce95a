/-! at the law's entry the world outside is as it must be -/
def nar_ : List Cond := flatC (Jvm.Cond.and given_1 narrow_1)
def nd_k (i : Nat) : Nat := if i < 16 then 74 + 2 * i else [211, 216, 218, 220, 222, 224, 226, 278].getD (i - 16) 0
def nd_t (i : Nat) : Term := .string (if i < 16 then RX5 else RL) (nd_k i)
def nd_l (t : Term) (n : Nat) (bs : List Int32) : List Cond := .exactly t "java/lang/String" :: .eq (.field t "java/lang/String" "coder" "B") (.int 0) :: .arrayOf (.field t "java/lang/String" "value" "[B") .byte :: .eq (.length (.field t "java/lang/String" "value" "[B")) (.int (Int32.ofNat n)) :: (List.range n).map (fun j => .eq (.elem (.field t "java/lang/String" "value" "[B") (.int (Int32.ofNat j))) (.int (bs.getD j 0)))
def nd_c (i p : Nat) : Bool := decide ((nar_.drop p).take (4 + bc_tx_len.getD i 0) = nd_l (nd_t i) (bc_tx_len.getD i 0) (bc_tx_byt.getD i []))
theorem nd_0 : nd_c 0 500 = true := by decide +kernel
theorem nd_1 : nd_c 1 511 = true := by decide +kernel
theorem nd_2 : nd_c 2 520 = true := by decide +kernel
theorem nd_3 : nd_c 3 528 = true := by decide +kernel
theorem nd_4 : nd_c 4 538 = true := by decide +kernel
theorem nd_5 : nd_c 5 549 = true := by decide +kernel
theorem nd_6 : nd_c 6 561 = true := by decide +kernel
theorem nd_7 : nd_c 7 572 = true := by decide +kernel
theorem nd_8 : nd_c 8 582 = true := by decide +kernel
theorem nd_9 : nd_c 9 590 = true := by decide +kernel
theorem nd_10 : nd_c 10 597 = true := by decide +kernel
theorem nd_11 : nd_c 11 605 = true := by decide +kernel
theorem nd_12 : nd_c 12 612 = true := by decide +kernel
theorem nd_13 : nd_c 13 617 = true := by decide +kernel
theorem nd_14 : nd_c 14 625 = true := by decide +kernel
theorem nd_15 : nd_c 15 631 = true := by decide +kernel
theorem nd_16 : nd_c 16 716 = true := by decide +kernel
theorem nd_17 : nd_c 17 721 = true := by decide +kernel
theorem nd_18 : nd_c 18 726 = true := by decide +kernel
theorem nd_19 : nd_c 19 731 = true := by decide +kernel
theorem nd_20 : nd_c 20 736 = true := by decide +kernel
theorem nd_21 : nd_c 21 741 = true := by decide +kernel
theorem nd_22 : nd_c 22 746 = true := by decide +kernel
theorem nd_23 : nd_c 23 757 = true := by decide +kernel
theorem nd_all (i : Nat) (h : i < 24) : ∃ p : Nat, nd_c i p = true := by
  match i, h with
  | 0, _ => exact ⟨_, nd_0⟩
  | 1, _ => exact ⟨_, nd_1⟩
  | 2, _ => exact ⟨_, nd_2⟩
  | 3, _ => exact ⟨_, nd_3⟩
  | 4, _ => exact ⟨_, nd_4⟩
  | 5, _ => exact ⟨_, nd_5⟩
  | 6, _ => exact ⟨_, nd_6⟩
  | 7, _ => exact ⟨_, nd_7⟩
  | 8, _ => exact ⟨_, nd_8⟩
  | 9, _ => exact ⟨_, nd_9⟩
  | 10, _ => exact ⟨_, nd_10⟩
  | 11, _ => exact ⟨_, nd_11⟩
  | 12, _ => exact ⟨_, nd_12⟩
  | 13, _ => exact ⟨_, nd_13⟩
  | 14, _ => exact ⟨_, nd_14⟩
  | 15, _ => exact ⟨_, nd_15⟩
  | 16, _ => exact ⟨_, nd_16⟩
  | 17, _ => exact ⟨_, nd_17⟩
  | 18, _ => exact ⟨_, nd_18⟩
  | 19, _ => exact ⟨_, nd_19⟩
  | 20, _ => exact ⟨_, nd_20⟩
  | 21, _ => exact ⟨_, nd_21⟩
  | 22, _ => exact ⟨_, nd_22⟩
  | 23, _ => exact ⟨_, nd_23⟩
  | k + 24, h => exact absurd h (by omega)
theorem nd_mem {l l' : List Cond} {p n : Nat} (h : (l.drop p).take n = l') {w : Cond} (hw : w ∈ l') : w ∈ l := by
  rw [← h] at hw
  exact List.mem_of_mem_drop (List.mem_of_mem_take hw)
theorem nd_len : ∀ i, i < 24 → bc_tx_len.getD i 0 < 2 ^ 31 := by decide +kernel
theorem sta_t1 {args : Array Value} {s : State} (hn : ∀ w ∈ nar_, w.before args s = true) (i : Nat) (hi : i < 24) : ∃ a b : Nat, bw_1 a b (bc_tx_len.getD i 0) (fun j => (bc_tx_byt.getD i []).getD j 0) (fun q => s.heap.size ≤ q) s s.heap ∧ (nd_t i).eval args s none [] s = some (.ref a) := by
  obtain ⟨p, h⟩ := nd_all i hi
  unfold nd_c at h
  rw [decide_eq_true_eq] at h
  have key : ∀ w ∈ nd_l (nd_t i) (bc_tx_len.getD i 0) (bc_tx_byt.getD i []), w.before args s = true := fun w hw => hn w (nd_mem h hw)
  obtain ⟨adK, adV, h1, h2⟩ := vk_Sof (N := 1) (tm := fun _ => nd_t i) (len := [bc_tx_len.getD i 0]) (byt := [bc_tx_byt.getD i []]) (A := fun q => s.heap.size ≤ q) (args := args) (s := s) (fun k hk => by
      obtain rfl : k = 0 := by omega
      exact nd_len i hi) (fun k hk => key _ (by simp [nd_l])) (fun k hk => key _ (by simp [nd_l])) (fun k hk => key _ (by simp [nd_l])) (fun k hk => by
      obtain rfl : k = 0 := by omega
      exact key _ (by simp [nd_l])) (fun k hk j hj => by
      obtain rfl : k = 0 := by omega
      refine key _ ?_
      unfold nd_l
      exact List.mem_cons_of_mem _ (List.mem_cons_of_mem _ (List.mem_cons_of_mem _ (List.mem_cons_of_mem _ (List.mem_map.mpr ⟨j, List.mem_range.mpr hj, rfl⟩))))) (fun k j hk hj hne => absurd (show k = j by omega) hne) (fun a h1 h2 => absurd h1 (Nat.not_lt.mpr h2))
  exact ⟨adK 0, adV 0, h1.1 0 (by decide), h2 0 (by decide)⟩
theorem sta_tx {args : Array Value} {s : State} (hn : ∀ w ∈ nar_, w.before args s = true) : ∃ adK adV : Nat → Nat, bw_S 24 bc_tx_len bc_tx_byt adK adV (fun q => s.heap.size ≤ q) s s.heap ∧ ∀ i : Nat, i < 24 → (nd_t i).eval args s none [] s = some (.ref (adK i)) := by
  have h0 : ∀ i : Nat, ∃ x : Nat × Nat, i < 24 → bw_1 x.1 x.2 (bc_tx_len.getD i 0) (fun j => (bc_tx_byt.getD i []).getD j 0) (fun q => s.heap.size ≤ q) s s.heap ∧ (nd_t i).eval args s none [] s = some (.ref x.1) := by
    intro i
    by_cases hi : i < 24
    · obtain ⟨a, b, h1, h2⟩ := sta_t1 hn i hi
      exact ⟨(a, b), fun _ => ⟨h1, h2⟩⟩
    · exact ⟨(0, 0), fun h => absurd h hi⟩
  obtain ⟨f, hf⟩ := Classical.axiomOfChoice h0
  exact ⟨fun i => (f i).1, fun i => (f i).2, ⟨fun i hi => (hf i hi).1, trivial⟩, fun i hi => (hf i hi).2⟩
theorem sta_in {args : Array Value} {s : State} (hts : ∀ w ∈ lw_tbl, w.before args s = true) : ∀ (c : Nat) (q : vw_C), bc_cl[c]? = some q → (Cond.instantiable q.1 q.2.2).before args s = true := by
  intro c q h
  match c, h with
  | 0, h => cases h; exact hts _ (List.mem_of_getElem? (i := 269) (by decide +kernel))
  | 1, h => cases h; exact hts _ (List.mem_of_getElem? (i := 220) (by decide +kernel))
  | 2, h => cases h; exact hts _ (List.mem_of_getElem? (i := 93) (by decide +kernel))
  | 3, h => cases h; exact hts _ (List.mem_of_getElem? (i := 138) (by decide +kernel))
  | 4, h => cases h; exact hts _ (List.mem_of_getElem? (i := 285) (by decide +kernel))
  | 5, h => cases h; exact hts _ (List.mem_of_getElem? (i := 306) (by decide +kernel))
  | 6, h => cases h; exact hts _ (List.mem_of_getElem? (i := 87) (by decide +kernel))
  | 7, h => cases h; exact hts _ (List.mem_of_getElem? (i := 312) (by decide +kernel))
  | 8, h => cases h; exact hts _ (List.mem_of_getElem? (i := 153) (by decide +kernel))
  | 9, h => cases h; exact hts _ (List.mem_of_getElem? (i := 239) (by decide +kernel))
  | 10, h => cases h; exact hts _ (List.mem_of_getElem? (i := 79) (by decide +kernel))
  | k + 11, h => cases h
theorem sta_D {args : Array Value} {s : State} (hts : ∀ w ∈ lw_tbl, w.before args s = true) : ∃ D : va_G, ∀ (c : Nat) (q : vw_C), bc_cl[c]? = some q → u_Kn s q.1 q.2.1 q.2.2 (D.1 c) (D.2 c) := by
  have h0 : ∀ c : Nat, ∃ x : ClassId × (Nat → Nat), ∀ q : vw_C, bc_cl[c]? = some q → u_Kn s q.1 q.2.1 q.2.2 x.1 x.2 := by
    intro c
    cases hc : bc_cl[c]? with
    | none => exact ⟨(0, fun _ => 0), fun q h => by cases h⟩
    | some q0 =>
      obtain ⟨cC, iS, h⟩ := u_known (T := q0.2.1) (N := q0.2.2) (ws := bc_W) (fun w hw => hts w (List.mem_filter.mp hw).1) (bc_cl_ok c q0 hc).1 (sta_in hts c q0 hc)
      exact ⟨(cC, iS), fun q hq => by cases hq; exact h⟩
  obtain ⟨f, hf⟩ := Classical.axiomOfChoice h0
  exact ⟨(fun c => (f c).1, fun c => (f c).2), fun c q hq => hf c q hq⟩
theorem sta_A {args : Array Value} {s : State} {t : FieldType} (ht : ∀ C, t ≠ .object C) (h : (Cond.arrayClass t).before args s = true) : ∃ c : ClassId, ArrOfT s c t ∧ va_RA s c t := by
  obtain ⟨c, k, comp, h1, h2, h3⟩ := Cond.arrayClass_spec h
  refine ⟨c, fun n z => ⟨fun k h => (by cases h), k, h2, comp, h3⟩, ?_⟩
  cases t with
  | object C => exact absurd rfl (ht C)
  | _ => exact h1
theorem sta_K {args : Array Value} {s : State} (hts : ∀ w ∈ lw_tbl, w.before args s = true) : ∃ (D : va_G) (cA : Nat → ClassId), ck_K D cA s := by
  obtain ⟨D, hD⟩ := sta_D hts
  obtain ⟨c0, a0, b0⟩ := sta_A (by simp) (hts (.arrayClass .int) (List.mem_of_getElem? (i := 135) (by decide +kernel)))
  obtain ⟨c1, a1, b1⟩ := sta_A (by simp) (hts (.arrayClass .char) (List.mem_of_getElem? (i := 326) (by decide +kernel)))
  obtain ⟨c2, a2, b2⟩ := sta_A (by simp) (hts (.arrayClass .boolean) (List.mem_of_getElem? (i := 136) (by decide +kernel)))
  have hi := hts (.arrayOver (.array .int)) (List.mem_of_getElem? (i := 245) (by decide +kernel))
  have ho := hts (.arrayOver (.object "BridgeChapel$State")) (List.mem_of_getElem? (i := 226) (by decide +kernel))
  obtain ⟨comp5, c5, k5, d1, d2, d3, d4, d5⟩ := arrayOverA_spec hi
  obtain ⟨comp6, c6, k6, e1, e2, e3, e4, e5⟩ := Cond.arrayOver_spec ho
  have h50 : comp5 = c0 := by
    have : s.vm.findClass ("[" ++ FieldType.int.toString) = some c0 := b0
    exact Option.some.inj (d1.symm.trans this)
  refine ⟨D, fun i => match i with | 0 => c0 | 1 => c1 | 2 => c2 | 3 => c0 | 4 => c0 | 5 => c5 | _ => c6, ⟨hD, fun k q hk => ?_⟩, va_AO.of ho, ⟨k5, d3, (by rw [d4, h50]; rfl)⟩, fun w hw hm => va_Nw.of ?_ (hts w hw)⟩
  · match k, hk with
    | 0, hk => cases hk; exact ⟨a0, b0⟩
    | 1, hk => cases hk; exact ⟨a1, b1⟩
    | 2, hk => cases hk; exact ⟨a2, b2⟩
    | 3, hk => cases hk; exact ⟨a0, b0⟩
    | 4, hk => cases hk; exact ⟨a0, b0⟩
    | 5, hk => cases hk; exact ⟨fun n z => ⟨fun k h => (by cases h), k5, d3, comp5, d4⟩, d5⟩
    | 6, hk => cases hk; exact ⟨fun n z => ⟨fun k h => (by cases h), k6, e3, comp6, e4⟩, k6, comp6, e3, e4, e1, e5⟩
    | k + 7, hk => cases hk
  · unfold ck_M at hm
    split at hm <;> first | rfl | cases hm
theorem sta_r {args : Array Value} {s : State} {own tx : String} {k : Nat} (h : (Cond.stringRef own k tx).before args s = true) : ∃ a : Nat, vk_R own k tx a s := by
  have hcur : ∃ cur, s.vm.findClass own = some cur := by
    have h1 := h
    simp only [Cond.before, Cond.holds, Cond.value] at h1
    cases hc : s.vm.findClass own with
    | none => simp [hc] at h1
    | some cur => exact ⟨cur, rfl⟩
  obtain ⟨cur, hcur⟩ := hcur
  obtain ⟨-, -, -, a, -, -, -, -, -, ha⟩ := Cond.stringRef_spec hcur h
  exact ⟨a, vk_R.of h ha⟩
theorem sta_st {args : Array Value} {s : State} (hts : ∀ w ∈ lw_tbl, w.before args s = true) : ∀ (i : Nat) (q : String × Nat × String), bc_st[i]? = some q → (Cond.stringRef q.1 q.2.1 q.2.2).before args s = true := by
  intro i q h
  match i, h with
  | 0, h => cases h; exact hts _ (List.mem_of_getElem? (i := 517) (by decide +kernel))
  | 1, h => cases h; exact hts _ (List.mem_of_getElem? (i := 530) (by decide +kernel))
  | 2, h => cases h; exact hts _ (List.mem_of_getElem? (i := 546) (by decide +kernel))
  | 3, h => cases h; exact hts _ (List.mem_of_getElem? (i := 562) (by decide +kernel))
  | 4, h => cases h; exact hts _ (List.mem_of_getElem? (i := 578) (by decide +kernel))
  | 5, h => cases h; exact hts _ (List.mem_of_getElem? (i := 594) (by decide +kernel))
  | 6, h => cases h; exact hts _ (List.mem_of_getElem? (i := 923) (by decide +kernel))
  | 7, h => cases h; exact hts _ (List.mem_of_getElem? (i := 945) (by decide +kernel))
  | k + 8, h => cases h
theorem sta_ts {args : Array Value} {s : State} (hts : ∀ w ∈ lw_tbl, w.before args s = true) : ∀ (i : Nat) (q : String × Nat × String), bc_ts[i]? = some q → i < 24 ∧ nd_t i = .string q.1 q.2.1 ∧ (Cond.stringRef q.1 q.2.1 q.2.2).before args s = true := by
  intro i q h
  match i, h with
  | 0, h => cases h; exact ⟨by decide, rfl, hts _ (List.mem_of_getElem? (i := 824) (by decide +kernel))⟩
  | 1, h => cases h; exact ⟨by decide, rfl, hts _ (List.mem_of_getElem? (i := 825) (by decide +kernel))⟩
  | 2, h => cases h; exact ⟨by decide, rfl, hts _ (List.mem_of_getElem? (i := 826) (by decide +kernel))⟩
  | 3, h => cases h; exact ⟨by decide, rfl, hts _ (List.mem_of_getElem? (i := 827) (by decide +kernel))⟩
  | 4, h => cases h; exact ⟨by decide, rfl, hts _ (List.mem_of_getElem? (i := 828) (by decide +kernel))⟩
  | 5, h => cases h; exact ⟨by decide, rfl, hts _ (List.mem_of_getElem? (i := 829) (by decide +kernel))⟩
  | 6, h => cases h; exact ⟨by decide, rfl, hts _ (List.mem_of_getElem? (i := 830) (by decide +kernel))⟩
  | 7, h => cases h; exact ⟨by decide, rfl, hts _ (List.mem_of_getElem? (i := 831) (by decide +kernel))⟩
  | 8, h => cases h; exact ⟨by decide, rfl, hts _ (List.mem_of_getElem? (i := 832) (by decide +kernel))⟩
  | 9, h => cases h; exact ⟨by decide, rfl, hts _ (List.mem_of_getElem? (i := 833) (by decide +kernel))⟩
  | 10, h => cases h; exact ⟨by decide, rfl, hts _ (List.mem_of_getElem? (i := 902) (by decide +kernel))⟩
  | 11, h => cases h; exact ⟨by decide, rfl, hts _ (List.mem_of_getElem? (i := 903) (by decide +kernel))⟩
  | 12, h => cases h; exact ⟨by decide, rfl, hts _ (List.mem_of_getElem? (i := 904) (by decide +kernel))⟩
  | 13, h => cases h; exact ⟨by decide, rfl, hts _ (List.mem_of_getElem? (i := 905) (by decide +kernel))⟩
  | 14, h => cases h; exact ⟨by decide, rfl, hts _ (List.mem_of_getElem? (i := 906) (by decide +kernel))⟩
  | 15, h => cases h; exact ⟨by decide, rfl, hts _ (List.mem_of_getElem? (i := 907) (by decide +kernel))⟩
  | 16, h => cases h; exact ⟨by decide, rfl, hts _ (List.mem_of_getElem? (i := 1287) (by decide +kernel))⟩
  | 17, h => cases h; exact ⟨by decide, rfl, hts _ (List.mem_of_getElem? (i := 1337) (by decide +kernel))⟩
  | 18, h => cases h; exact ⟨by decide, rfl, hts _ (List.mem_of_getElem? (i := 1338) (by decide +kernel))⟩
  | 19, h => cases h; exact ⟨by decide, rfl, hts _ (List.mem_of_getElem? (i := 1339) (by decide +kernel))⟩
  | 20, h => cases h; exact ⟨by decide, rfl, hts _ (List.mem_of_getElem? (i := 1340) (by decide +kernel))⟩
  | 21, h => cases h; exact ⟨by decide, rfl, hts _ (List.mem_of_getElem? (i := 1345) (by decide +kernel))⟩
  | 22, h => cases h; exact ⟨by decide, rfl, hts _ (List.mem_of_getElem? (i := 1346) (by decide +kernel))⟩
  | 23, h => cases h; exact ⟨by decide, rfl, hts _ (List.mem_of_getElem? (i := 1505) (by decide +kernel))⟩
  | k + 24, h => cases h
theorem sta_nc {args : Array Value} {s : State} (hn : ∀ w ∈ nar_, w.before args s = true) : ∀ q ∈ bc_ncl, va_Nc (bc_en q.1) (bc_en q.2) s := by
  intro q hq
  simp only [List.mem_cons, List.not_mem_nil, or_false] at hq
  rcases hq with rfl | rfl | rfl | rfl | rfl | rfl | rfl | rfl | rfl | rfl
  · exact va_Nc.of (hn (.not (.castable "java/lang/IllegalArgumentException" "java/lang/IndexOutOfBoundsException")) (List.mem_of_getElem? (i := 228) (by decide +kernel)))
  · exact va_Nc.of (hn (.not (.castable "java/lang/IllegalStateException" "java/lang/IndexOutOfBoundsException")) (List.mem_of_getElem? (i := 229) (by decide +kernel)))
  · exact va_Nc.of (hn (.not (.castable "java/lang/IllegalStateException" "java/lang/IllegalArgumentException")) (List.mem_of_getElem? (i := 248) (by decide +kernel)))
  · exact va_Nc.of (hn (.not (.castable "java/lang/UnsupportedOperationException" "java/lang/IndexOutOfBoundsException")) (List.mem_of_getElem? (i := 231) (by decide +kernel)))
  · exact va_Nc.of (hn (.not (.castable "java/lang/UnsupportedOperationException" "java/lang/IllegalArgumentException")) (List.mem_of_getElem? (i := 250) (by decide +kernel)))
  · exact va_Nc.of (hn (.not (.castable "java/lang/UnsupportedOperationException" "java/lang/IllegalStateException")) (List.mem_of_getElem? (i := 269) (by decide +kernel)))
  · exact va_Nc.of (hn (.not (.castable "java/util/NoSuchElementException" "java/lang/IndexOutOfBoundsException")) (List.mem_of_getElem? (i := 230) (by decide +kernel)))
  · exact va_Nc.of (hn (.not (.castable "java/util/NoSuchElementException" "java/lang/IllegalArgumentException")) (List.mem_of_getElem? (i := 249) (by decide +kernel)))
  · exact va_Nc.of (hn (.not (.castable "java/util/NoSuchElementException" "java/lang/IllegalStateException")) (List.mem_of_getElem? (i := 268) (by decide +kernel)))
  · exact va_Nc.of (hn (.not (.castable "java/util/NoSuchElementException" "java/lang/UnsupportedOperationException")) (List.mem_of_getElem? (i := 288) (by decide +kernel)))
theorem gg_adK (l : Launch) (D : va_G) (cA : Nat → ClassId) (b z : Nat) (adK : Nat → Nat) (i : Nat) : bc_ad (gg_ l D cA b z adK) (1000 + i) = adK i := by
  show (if 1000 + i < 218 then z + (1000 + i) else if 1000 + i = 999 then b else adK (1000 + i - 1000)) = adK i
  rw [if_neg (by omega), if_neg (by omega), show 1000 + i - 1000 = i by omega]
theorem sta_E {args : Array Value} {s : State} (hts : ∀ w ∈ lw_tbl, w.before args s = true) (hn : ∀ w ∈ nar_, w.before args s = true) : ∃ (D : va_G) (cA : Nat → ClassId) (adK : Nat → Nat), ck_K D cA s ∧ ∀ (l : Launch) (b : Nat), bc_E (gg_ l D cA b s.heap.size adK) s s.heap := by
  obtain ⟨D, cA, hK⟩ := sta_K hts
  obtain ⟨adK, adV, hS, hev⟩ := sta_tx hn
  refine ⟨D, cA, adK, hK, fun l b => ?_⟩
  have hA : ∀ a : Nat, a < s.heap.size → ¬ bc_Z (gg_ l D cA b s.heap.size adK) a := fun a h1 h2 => absurd h1 (Nat.not_lt.mpr h2)
  refine ⟨hK.1, vx_Zqof (hts _ (List.mem_of_getElem? (i := 418) (by decide +kernel))) (hts _ (List.mem_of_getElem? (i := 55) (by decide +kernel))) (hn (.isRef (.static Bundle.tN "UNASSIGNED_STACK" Bundle.steD)) (List.mem_of_getElem? (i := 4) (by decide +kernel))) hA, vx_Zqof (hts _ (List.mem_of_getElem? (i := 420) (by decide +kernel))) (hts _ (List.mem_of_getElem? (i := 55) (by decide +kernel))) (hn (.isRef (.static Bundle.tN "SUPPRESSED_SENTINEL" Bundle.listD)) (List.mem_of_getElem? (i := 5) (by decide +kernel))) hA, fun i q hq => sta_r (sta_st hts i q hq), fun i q hq => ?_, fun w hw hi => va_Nw.of (bc_isN_t hi) (hts w hw), sta_nc hn, ⟨adV, ?_⟩, va_Zof (hts _ (List.mem_of_getElem? (i := 847) (by decide +kernel))) (hts _ (List.mem_of_getElem? (i := 60) (by decide +kernel))) (va_eqt (hn (.eq (.static "java/lang/String" "COMPACT_STRINGS" "Z") (.int 1)) (List.mem_of_getElem? (i := 6) (by decide +kernel)))) hA, va_Zqof (hts _ (List.mem_of_getElem? (i := 871) (by decide +kernel))) (hts _ (List.mem_of_getElem? (i := 69) (by decide +kernel))) (hn (.isRef (.static "jdk/internal/util/Preconditions" "SIOOBE_FORMATTER" "Ljava/util/function/BiFunction;")) (List.mem_of_getElem? (i := 7) (by decide +kernel))) hA⟩
  · obtain ⟨h1, h2, h3⟩ := sta_ts hts i q hq
    rw [gg_adK]
    have h4 := hev i h1
    rw [h2] at h4
    exact vk_R.of h3 h4
  · have e : (fun i => bc_ad (gg_ l D cA b s.heap.size adK) (1000 + i)) = adK := funext fun i => gg_adK l D cA b s.heap.size adK i
    rw [e]
    exact hS
/-- the digits -/
def ng_t (n : String) : Term := .static "java/lang/Integer" n "[B"
def ng_l (n : String) (f : Nat → Int32) : List Cond := .arrayOf (ng_t n) .byte :: .eq (.length (ng_t n)) (.int (Int32.ofNat 100)) :: (List.range 100).map (fun j => .eq (.elem (ng_t n) (.int (Int32.ofNat j))) (.int (f j)))
def ng_1 : Nat → Int32 := fun j => Int32.ofInt (48 + (j : Int) % 10)
def ng_2 : Nat → Int32 := fun j => Int32.ofInt (48 + (j : Int) / 10)
theorem ng_c1 : (nar_.drop 12).take 102 = ng_l "DigitOnes" ng_1 := of_decide_eq_true (by decide +kernel)
theorem ng_c2 : (nar_.drop 115).take 102 = ng_l "DigitTens" ng_2 := of_decide_eq_true (by decide +kernel)
theorem ng_go {args : Array Value} {s : State} {n : String} {f : Nat → Int32} (hk : ∀ w ∈ ng_l n f, w.before args s = true) (hL : (Cond.laysStatic "java/lang/Integer" n "[B").before args s = true) (hI : (Cond.initialized "java/lang/Integer").before args s = true) : ∃ a : Nat, va_Z "java/lang/Integer" n "[B" (.ref a) (fun q => s.heap.size ≤ q) s s.heap ∧ va_T .byte a 100 (fun j => .int (f j)) (fun q => s.heap.size ≤ q) s s.heap := by
  have hA : ∀ a : Nat, a < s.heap.size → ¬ (s.heap.size ≤ a) := fun a h1 h2 => absurd h1 (Nat.not_lt.mpr h2)
  obtain ⟨t, ht, hT⟩ := va_Tof (tm := ng_t n) (ty := .byte) (f := fun j => .int (f j)) (A := fun q => s.heap.size ≤ q) (N := 100) (by decide) (hk _ (by simp [ng_l])) (va_eqt (hk _ (by simp [ng_l]))) (fun j hj => va_eqt (hk (.eq (.elem (ng_t n) (.int (Int32.ofNat j))) (.int (f j))) (List.mem_cons_of_mem _ (List.mem_cons_of_mem _ (List.mem_map.mpr ⟨j, List.mem_range.mpr hj, rfl⟩))))) hA
  exact ⟨t, va_Zof hL hI ht hA, hT⟩
