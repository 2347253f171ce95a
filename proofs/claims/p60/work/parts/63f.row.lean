section BDR
variable {p : Program} {e : Env} {R : Room} {s : State} {m : MethodId} {args : Array Value} {below : List Frame} {meth : Method} {c : Code} {Q : State → Prop} {g : bc_C} {Y : bc_Y} {d : Nat} {pc : Nat} {lv : bc_LV} {st r : List bc_A} {σ : bc_M} {n c0 s0 : Nat} {D : List bd_O}
theorem bd_ws_key {k : Nat} {q : Nat × va_E} (hk : (bc_ws g σ)[k]? = some q) : k < 218 ∧ q.1 = bc_ad g k := by
  have hlt : k < 218 := by
    have := (List.getElem?_eq_some_iff.mp hk).1
    rwa [bc_ws_len] at this
  rw [bc_ws_at hlt] at hk
  cases hk
  exact ⟨hlt, rfl⟩
theorem bd_lv_set {i : Nat} {o o' : bd_O} (ho : D[i]? = some o) (ht : bd_two o' = bd_two o) (k : Nat) : bd_lv (D.set i o') k ↔ bd_lv D k := by
  have hlt := (List.getElem?_eq_some_iff.mp ho).1
  constructor
  · intro h
    rcases h with h | ⟨j, u, hu, hk⟩
    · exact Or.inl h
    · by_cases hj : j = i
      · subst hj
        rw [List.getElem?_set_self hlt] at hu
        cases hu
        exact Or.inr ⟨j, o, ho, hk.imp id (fun z => ⟨z.1, by rw [← ht]; exact z.2⟩)⟩
      · rw [List.getElem?_set_ne (fun q => hj q.symm)] at hu
        exact Or.inr ⟨j, u, hu, hk⟩
  · intro h
    rcases h with h | ⟨j, u, hu, hk⟩
    · exact Or.inl h
    · by_cases hj : j = i
      · subst hj
        rw [ho] at hu
        cases hu
        exact Or.inr ⟨j, o', List.getElem?_set_self hlt, hk.imp id (fun z => ⟨z.1, by rw [ht]; exact z.2⟩)⟩
      · exact Or.inr ⟨j, u, by rw [List.getElem?_set_ne (fun q => hj q.symm)]; exact hu, hk⟩
theorem bd_ok_set {i : Nat} {o o' : bd_O} (h : bd_ok g D) (ho : D[i]? = some o) (ht : bd_two o' = bd_two o) : bd_ok g (D.set i o') :=
  ⟨by rw [List.length_set]; exact h.1, fun k k' a b => h.2.1 k k' ((bd_lv_set ho ht k).mp a) ((bd_lv_set ho ht k').mp b), fun k a => h.2.2 k ((bd_lv_set ho ht k).mp a)⟩
/-- a number of a row is read -/
theorem bd_s_ld {i w : Nat} {f : Int → Int} {j : Int} (F : bc_Fx g Y d p R s m args meth c c0 s0) (hd : decode Y.2.1 pc = .ok (.iaload, 1)) (ho : D[i]? = some (bd_row w f)) (h0 : 0 ≤ j ∧ j < (w : Int)) (hw : w < 2000)
    (h : bd_T Y p e R s m args below meth c Q c0 s0 g D (pc + 1) lv (bc_I (f j) :: r) σ n) : bd_T Y p e R s m args below meth c Q c0 s0 g D pc lv (bc_I j :: bc_R (500 + i) :: r) σ n := by
  obtain ⟨hx, hb, hml, hts, hown, hlocks, hap, htr, hE, hz, -⟩ := F
  intro hok H locs ls hn hH hS hl
  have hJ : bd_J g s D H := hH.2
  have hc : H[bc_ad g (500 + i)]? = some (vp_cell (bc_cA g 0) (w, .inl (fun q : Nat => Int32.ofInt (f (q : Int))))) := hJ i _ ho
  obtain ⟨hin, hcl⟩ := bc_vp h0.1 h0.2 hw
  have hlt : (Int32.ofInt j).toNatClampNeg < w := by rw [hcl]; omega
  have h3 : W p (bc_l g) e R s m args below meth c H locs (c0 + n) (s0 + 6 * n) Q (F0 m (pc + 1) ls (.int (Int32.ofInt (f (((Int32.ofInt j).toNatClampNeg : Nat) : Int))) :: r.map (bc_v g))) := by
    rw [hcl, Int.toNat_of_nonneg h0.1]
    exact h hok H locs ls hn hH hS hl
  exact W.iald (v := .int (Int32.ofInt (f (((Int32.ofInt j).toNatClampNeg : Nat) : Int)))) hx hb hc ((hE.1.2 0 _ rfl).1 w (fun q => .int (Int32.ofInt (f (q : Int))))) (fun q => by cases q) (by show ¬ (_ < 0 ∨ (arrV _ _ _).slots.size ≤ _); rw [arrV_size]; exact hin) (by show (arrV _ _ _).slots[_]? = _; rw [arrV_read _ _ hlt]) rfl rfl hd h3
/-- a row's length -/
theorem bd_s_len {i w : Nat} {f : Int → Int} (F : bc_Fx g Y d p R s m args meth c c0 s0) (hd : decode Y.2.1 pc = .ok (.arraylength, 1)) (ho : D[i]? = some (bd_row w f))
    (h : bd_T Y p e R s m args below meth c Q c0 s0 g D (pc + 1) lv (bc_I (w : Int) :: r) σ n) : bd_T Y p e R s m args below meth c Q c0 s0 g D pc lv (bc_R (500 + i) :: r) σ n := by
  obtain ⟨hx, hb, hml, hts, hown, hlocks, hap, htr, hE, hz, -⟩ := F
  intro hok H locs ls hn hH hS hl
  have hJ : bd_J g s D H := hH.2
  have hc : H[bc_ad g (500 + i)]? = some (vp_cell (bc_cA g 0) (w, .inl (fun q : Nat => Int32.ofInt (f (q : Int))))) := hJ i _ ho
  exact W.alen (n := Int32.ofInt (w : Int)) hx hb hc ((hE.1.2 0 _ rfl).1 w (fun q => .int (Int32.ofInt (f (q : Int))))) (by rw [vp_cell_i, arrV_size]; exact Int32.ofInt_eq_ofNat.symm) rfl rfl hd (h hok H locs ls hn hH hS hl)
/-- a number of a row is written -/
theorem bd_s_st {i w : Nat} {f : Int → Int} {j x : Int} (F : bc_Fx g Y d p R s m args meth c c0 s0) (hd : decode Y.2.1 pc = .ok (.iastore, 1)) (ho : D[i]? = some (bd_row w f)) (hall : D.all (fun o => !bd_two o) = true) (h0 : 0 ≤ j ∧ j < (w : Int)) (hw : w < 2000)
    (h : bd_T Y p e R s m args below meth c Q c0 s0 g (D.set i (bd_row w (fun q => if q = j then x else f q))) (pc + 1) lv r σ n) : bd_T Y p e R s m args below meth c Q c0 s0 g D pc lv (bc_I x :: bc_I j :: bc_R (500 + i) :: r) σ n := by
  obtain ⟨hx, hb, hml, hts, hown, hlocks, hap, htr, hE, hz, -⟩ := F
  intro hok H locs ls hn hH hS hl
  have hJ : bd_J g s D H := hH.2
  have hlive : bd_lv D (500 + i) := Or.inr ⟨i, _, ho, Or.inl rfl⟩
  have hc : H[bc_ad g (500 + i)]? = some (vp_cell (bc_cA g 0) (w, .inl (fun q : Nat => Int32.ofInt (f (q : Int))))) := hJ i _ ho
  obtain ⟨hin, hcl⟩ := bc_vp h0.1 h0.2 hw
  refine W.iast (x := Int32.ofInt x) hx hb hc ((hE.1.2 0 _ rfl).1 w (fun q => .int (Int32.ofInt (f (q : Int))))) (fun q => by cases q) (by show ¬ (_ < 0 ∨ (arrV _ _ _).slots.size ≤ _); rw [arrV_size]; exact hin) rfl rfl hd fun H1 e1 z oq => ?_
  have hne : ∀ k : Nat, bd_lv D k → k ≠ 500 + i → H1[bc_ad g k]? = H[bc_ad g k]? := fun k hk hki => oq _ (fun q => hki (hok.2.1 k (500 + i) hk hlive q))
  refine h (bd_ok_set hok ho rfl) H1 _ ls hn ⟨va_P.kept hH.1 (fun k q hk => ?_), fun k o hko => ?_⟩ (va_S.put hS z oq (hok.2.2 _ hlive)) hl
  · obtain ⟨h1, h2⟩ := bd_ws_key hk
    rw [h2]
    exact hne k (Or.inl h1) (by omega)
  · by_cases hki : k = i
    · subst hki
      rw [List.getElem?_set_self (List.getElem?_eq_some_iff.mp ho).1] at hko
      cases hko
      show H1[bc_ad g (500 + k)]? = some (vp_cell _ _)
      rw [e1, vp_cell_i, vp_cell_i, arrV_store, hcl]
      congr 2
      funext q
      unfold updV
      by_cases hq : q = j.toNat
      · rw [if_pos hq]
        show Value.int (Int32.ofInt x) = Value.int (Int32.ofInt (if ((q : Nat) : Int) = j then x else f (q : Int)))
        rw [if_pos (by omega)]
      · rw [if_neg hq]
        show Value.int (Int32.ofInt (f (q : Int))) = Value.int (Int32.ofInt (if ((q : Nat) : Int) = j then x else f (q : Int)))
        rw [if_neg (by omega)]
    · rw [List.getElem?_set_ne (fun q => hki q.symm)] at hko
      have h1 := List.all_eq_true.mp hall o (List.mem_of_getElem? hko)
      obtain q | q | q := o
      · exact bd_is_row (n := q.1) (f := q.2) (hJ k _ hko) (hne _ (Or.inr ⟨k, _, hko, Or.inl rfl⟩) (by omega))
      · cases h1
      · cases h1
theorem bd_old_v {k a : Nat} {v : bc_A} {q : Nat} (hk : k = 500 + q ∨ k = 700 + q) (h : bd_old q v = true) : bc_v (bd_up g k a) v = bc_v g v := by
  obtain v | v | v | v | v | v := v
  · rfl
  · unfold bd_old at h
    obtain ⟨h1, h2⟩ := Bool.and_eq_true_iff.mp h
    have n1 : v ≠ 500 + q := fun e => by rw [e, Nat.beq_refl] at h1; cases h1
    have n2 : v ≠ 700 + q := fun e => by rw [e, Nat.beq_refl] at h2; cases h2
    show Value.ref (bc_ad (bd_up g k a) v) = Value.ref (bc_ad g v)
    rw [bd_up_ad (by omega)]
  · cases h
  · rfl
  · rfl
  · rfl
theorem bd_old_st {k a q : Nat} (hk : k = 500 + q ∨ k = 700 + q) : ∀ {l : List bc_A}, l.all (bd_old q) = true → l.map (bc_v (bd_up g k a)) = l.map (bc_v g) := fun {l} h => List.map_congr_left (fun v hv => bd_old_v hk (List.all_eq_true.mp h v hv))
theorem bd_old_lv {k a q : Nat} (hk : k = 500 + q ∨ k = 700 + q) {l : bc_LV} (h : l.all (fun z => bd_old q z.2) = true) : bc_lv (bd_up g k a) l = bc_lv g l := List.map_congr_left (fun z hz => by rw [bd_old_v hk (List.all_eq_true.mp h z hz)])
/-- a row is made -/
theorem bd_s_new {x : Int} (F : bc_Fx g Y d p R s m args meth c c0 s0) (hd : decode Y.2.1 pc = .ok (.newarray .int, 2)) (hx0 : 0 ≤ x ∧ x ≤ 18) (hn3 : n + 3 ≤ bc_cost Y) (h90 : D.length ≤ 90) (hold : bd_olds D.length lv r = true)
    (h : ∀ a : Nat, bd_T Y p e R s m args below meth c Q c0 s0 (bd_up g (500 + D.length) a) (D ++ [bd_row x.toNat (fun _ => 0)]) (pc + 2) lv (bc_R (500 + D.length) :: r) σ (n + 3)) : bd_T Y p e R s m args below meth c Q c0 s0 g D pc lv (bc_I x :: r) σ n := by
  obtain ⟨hx, hb, hml, hts, hown, hlocks, hap, htr, hE, hz, hok1, hRf, hRl, hRc, hRs, -⟩ := F
  intro hok H locs ls hn hH hS hl
  have hJ : bd_J g s D H := hH.2
  obtain ⟨o1, o2⟩ := Bool.and_eq_true_iff.mp hold
  obtain ⟨a1, a2⟩ := bc_nng hx0.1 (by omega)
  refine va_newaK (atype := .int) (N := x.toNat) (h := H.size) hx hb (hts _ (bc_wat_ok (pos := 135) (by decide +kernel))) rfl hd rfl a1 a2 (by show x.toNat * 4 ≤ 536870912; omega) (by omega) (by omega) rfl (fun H1 cA e1 z1 k1 hAr hNm => ?_)
  have hcA : cA = bc_cA g 0 := by
    have h9 : s.vm.findClass ("[" ++ FieldType.int.toString) = some (bc_cA g 0) := (hE.1.2 0 _ rfl).2
    exact Option.some.inj (hNm.symm.trans h9)
  subst hcA
  have hlt : ∀ k : Nat, bd_lv D k → bc_ad g k < H.size := by
    intro k hk
    by_cases h0 : 218 ≤ k
    · exact bd_J_lt hJ hk h0
    · have hk2 : k < 218 := by omega
      exact (hH.1 k _ (bc_ws_at hk2)).lt
  have hnew : ∀ k : Nat, bd_lv (D ++ [bd_row x.toNat (fun _ => 0)]) k → bd_lv D k ∨ k = 500 + D.length := by
    intro k hk
    rcases hk with hk | ⟨i, o, ho, hk⟩
    · exact Or.inl (Or.inl hk)
    · by_cases hi : i < D.length
      · rw [List.getElem?_append_left hi] at ho
        exact Or.inl (Or.inr ⟨i, o, ho, hk⟩)
      · have hle : i = D.length := by
          have := (List.getElem?_eq_some_iff.mp ho).1
          rw [List.length_append] at this
          simp only [List.length_cons, List.length_nil] at this
          omega
        subst hle
        rw [List.getElem?_append_right (Nat.le_refl _), Nat.sub_self] at ho
        cases ho
        rcases hk with hk | ⟨-, hk⟩
        · exact Or.inr hk
        · cases hk
  have hdk : ∀ k : Nat, bd_lv D k → k ≠ 500 + D.length := by
    intro k hk e9
    rcases hk with hk | ⟨i, o, ho, hk⟩
    · omega
    · have := (List.getElem?_eq_some_iff.mp ho).1
      omega
  have hadk : ∀ k : Nat, bd_lv D k → bc_ad (bd_up g (500 + D.length) H.size) k = bc_ad g k := fun k hk => bd_up_ad (hdk k hk)
  have hok' : bd_ok (bd_up g (500 + D.length) H.size) (D ++ [bd_row x.toNat (fun _ => 0)]) := by
    refine ⟨by rw [List.length_append]; simp only [List.length_cons, List.length_nil]; omega, fun k k' hk hk' q => ?_, fun k hk => ?_⟩
    · rcases hnew k hk with h1 | h1 <;> rcases hnew k' hk' with h2 | h2
      · rw [hadk k h1, hadk k' h2] at q
        exact hok.2.1 k k' h1 h2 q
      · rw [hadk k h1, h2, bd_up_at] at q
        have := hlt k h1
        omega
      · rw [h1, bd_up_at, hadk k' h2] at q
        have := hlt k' h2
        omega
      · rw [h1, h2]
    · rcases hnew k hk with h1 | h1
      · rw [hadk k h1]
        exact hok.2.2 k h1
      · rw [h1, bd_up_at]
        exact hz H.size hS.1
  have hlv' : bc_lv (bd_up g (500 + D.length) H.size) lv = bc_lv g lv := bd_old_lv (Or.inl rfl) o1
  have hst' : r.map (bc_v (bd_up g (500 + D.length) H.size)) = r.map (bc_v g) := bd_old_st (Or.inl rfl) o2
  have hJ' : bd_J (bd_up g (500 + D.length) H.size) s (D ++ [bd_row x.toNat (fun _ => 0)]) H1 := by
    intro i o ho
    by_cases hi : i < D.length
    · rw [List.getElem?_append_left hi] at ho
      have l1 : bd_lv D (500 + i) := Or.inr ⟨i, o, ho, Or.inl rfl⟩
      have h1 := hJ i o ho
      obtain q | q | q := o
      · show H1[bc_ad (bd_up g (500 + D.length) H.size) (500 + i)]? = _
        rw [hadk _ l1, k1 _ (hlt _ l1)]
        exact h1
      · have l2 : bd_lv D (700 + i) := Or.inr ⟨i, _, ho, Or.inr ⟨rfl, rfl⟩⟩
        have h2 := bd_tx_kept h1 (k1 _ (hlt _ l1)) (k1 _ (hlt _ l2))
        unfold bd_tx at h2
        show bd_tx _ _ _ _ _
        unfold bd_tx
        rw [hadk _ l1, hadk _ l2]
        exact h2
      · have l2 : bd_lv D (700 + i) := Or.inr ⟨i, _, ho, Or.inr ⟨rfl, rfl⟩⟩
        have h2 := bd_bl_kept h1 (k1 _ (hlt _ l1)) (k1 _ (hlt _ l2))
        unfold bd_bl at h2
        show bd_bl _ _ _ _ _
        unfold bd_bl
        rw [hadk _ l1, hadk _ l2]
        exact h2
    · have hle : i = D.length := by
        have := (List.getElem?_eq_some_iff.mp ho).1
        rw [List.length_append] at this
        simp only [List.length_cons, List.length_nil] at this
        omega
      subst hle
      rw [List.getElem?_append_right (Nat.le_refl _), Nat.sub_self] at ho
      cases ho
      show H1[bc_ad (bd_up g (500 + D.length) H.size) (500 + D.length)]? = some (vp_cell _ _)
      rw [bd_up_at, e1]
      rfl
  refine W.widen (k := c0 + (n + 3)) (n := s0 + 6 * (n + 3)) (by omega) (by omega) ?_
  have h5 := h H.size hok' H1 locs ls hn3 ⟨?_, hJ'⟩ ⟨Nat.le_trans hS.1 (by omega), fun q h1 h2 => (k1 q (Nat.lt_of_lt_of_le h1 hS.1)).trans (hS.2.1 q h1 h2), hS.2.2⟩ (by show lv_has ls (bc_nL Y) (bc_lv (bd_up g (500 + D.length) H.size) lv); rw [hlv']; exact hl)
  · have e5 : (bc_R (500 + D.length) :: r).map (bc_v (bd_up g (500 + D.length) H.size)) = .ref H.size :: r.map (bc_v g) := by
      rw [List.map_cons, hst', bc_v_R, bd_up_at]
    have h6 : W p (bc_l g) e R s m args below meth c H1 locs (c0 + (n + 3)) (s0 + 6 * (n + 3)) Q (F0 m (pc + 2) ls ((bc_R (500 + D.length) :: r).map (bc_v (bd_up g (500 + D.length) H.size)))) := h5
    rw [e5] at h6
    exact h6
  · show va_P (bc_Dd g) bc_cl (bc_ws (bd_up g (500 + D.length) H.size) σ) H1
    rw [bd_up_ws (by omega)]
    exact va_P.kept hH.1 (fun k q hk => k1 q.1 (hH.1 k q hk).lt)
end BDR
