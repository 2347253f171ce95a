/-! THE LAW'S OWN MACHINE: what a law's method makes itself is a list D of objects; object i is cell 500 + i, what it holds besides is cell 700 + i; the script is cell 999 -/
abbrev bd_O : Type := (Nat × (Int → Int)) ⊕ (List Nat) ⊕ (List Nat)
abbrev bd_row (n : Nat) (f : Int → Int) : bd_O := Sum.inl (n, f)
abbrev bd_txt (l : List Nat) : bd_O := Sum.inr (Sum.inl l)
abbrev bd_bld (l : List Nat) : bd_O := Sum.inr (Sum.inr l)
abbrev bd_KT : Type := bc_C → List bd_O → bc_KT
/-- the address of a cell is set -/
def bd_up (g : bc_C) (k a : Nat) : bc_C := (g.1, g.2.1, g.2.2.1, (fun j => if j = k then a else g.2.2.2.1 j), g.2.2.2.2)
/-- other bounds: what may change, what else the heap holds -/
def bd_gq (g : bc_C) (Z : Nat → Prop) (J : Heap → Prop) : bc_C := (g.1, g.2.1, g.2.2.1, g.2.2.2.1, Z, J)
theorem bd_up_ad {g : bc_C} {k a j : Nat} (h : j ≠ k) : bc_ad (bd_up g k a) j = bc_ad g j := if_neg h
theorem bd_up_at {g : bc_C} {k a : Nat} : bc_ad (bd_up g k a) k = a := if_pos rfl
/-- texts and builders -/
def bd_n0 : Nat → Prop := fun _ => False
def bd_tx (g : bc_C) (U : State) (i : Nat) (l : List Nat) (H : Heap) : Prop := ∃ f : Nat → Int32, va_O "java/lang/String" (bc_ad g (500 + i)) bd_n0 U H ∧ va_OF "java/lang/String" "coder" "B" (.int 0) (bc_ad g (500 + i)) bd_n0 U H ∧ va_OF "java/lang/String" "value" "[B" (.ref (bc_ad g (700 + i))) (bc_ad g (500 + i)) bd_n0 U H ∧ va_T .byte (bc_ad g (700 + i)) l.length (fun j => .int (f j)) bd_n0 U H ∧ l.length ≤ 16 ∧ ∀ j : Nat, j < l.length → f j = Int32.ofInt ((l.getD j 0 : Nat) : Int) ∧ l.getD j 0 < 128
def bd_bl (g : bc_C) (U : State) (i : Nat) (l : List Nat) (H : Heap) : Prop := ∃ (D : va_G) (cB : ClassId) (ml : Int32) (f : Nat → Int32), va_K D sj_cl [(cB, .byte)] U ∧ va_P D sj_cl [(bc_ad g (500 + i), .inr (0, [.ref (bc_ad g (700 + i)), .int 0, .int ml, .int (Int32.ofInt (l.length : Int))])), (bc_ad g (700 + i), .inl (cB, 16, .inl f))] H ∧ l.length ≤ 15 ∧ ∀ j : Nat, j < l.length → f j = Int32.ofInt ((l.getD j 0 : Nat) : Int) ∧ l.getD j 0 < 128
def bd_is (g : bc_C) (U : State) (i : Nat) (o : bd_O) (H : Heap) : Prop := match o with
  | .inl q => H[bc_ad g (500 + i)]? = some (vp_cell (bc_cA g 0) (q.1, .inl (fun j : Nat => Int32.ofInt (q.2 (j : Int)))))
  | .inr (.inl l) => bd_tx g U i l H
  | .inr (.inr l) => bd_bl g U i l H
def bd_two (o : bd_O) : Bool := match o with | .inl _ => false | _ => true
/-- the cells that live -/
def bd_lv (D : List bd_O) (k : Nat) : Prop := k < 218 ∨ ∃ (i : Nat) (o : bd_O), D[i]? = some o ∧ (k = 500 + i ∨ (k = 700 + i ∧ bd_two o = true))
def bd_ok (g : bc_C) (D : List bd_O) : Prop := D.length ≤ 100 ∧ (∀ k k' : Nat, bd_lv D k → bd_lv D k' → bc_ad g k = bc_ad g k' → k = k') ∧ ∀ k : Nat, bd_lv D k → bc_Z g (bc_ad g k)
def bd_J (g : bc_C) (U : State) (D : List bd_O) (H : Heap) : Prop := ∀ (i : Nat) (o : bd_O), D[i]? = some o → bd_is g U i o H
theorem bd_is_row {g : bc_C} {U : State} {i n : Nat} {f : Int → Int} {H H1 : Heap} (h : bd_is g U i (bd_row n f) H) (e : H1[bc_ad g (500 + i)]? = H[bc_ad g (500 + i)]?) : bd_is g U i (bd_row n f) H1 := e.trans h
theorem bd_gq_F {p : Program} {R : Room} {s : State} {m : MethodId} {args : Array Value} {meth : Method} {c : Code} {g : bc_C} {Y : bc_Y} {d c0 s0 : Nat} {J : Heap → Prop} (F : bc_Fx g Y d p R s m args meth c c0 s0) : bc_Fx (bd_gq g (bc_Z g) J) Y d p R s m args meth c c0 s0 := F
/-- the world outside is the same where an address from 218 to 999 is set -/
theorem bd_up_E {g : bc_C} {k a : Nat} {U : State} {H : Heap} (hk : k < 1000) (h : bc_E g U H) : bc_E (bd_up g k a) U H := by
  have e : (fun i => bc_ad (bd_up g k a) (1000 + i)) = (fun i => bc_ad g (1000 + i)) := funext fun i => bd_up_ad (by omega)
  obtain ⟨h1, h2, h3, h4, h5, h7, h9, ⟨adV, h6⟩, h10, h11⟩ := h
  refine ⟨h1, h2, h3, h4, fun i q hi => ?_, h7, h9, ⟨adV, ?_⟩, h10, h11⟩
  · rw [bd_up_ad (by omega)]
    exact h5 i q hi
  · show bw_S 24 bc_tx_len bc_tx_byt (fun i => bc_ad (bd_up g k a) (1000 + i)) adV (bc_Z g) U H
    rw [e]
    exact h6
theorem bd_up_ap {g : bc_C} {k a : Nat} (hk : 218 ≤ k) (h : bc_ap g) : bc_ap (bd_up g k a) := by
  refine ⟨fun i j hi hj q => ?_, fun i hi => ?_⟩
  · rw [bd_up_ad (by omega), bd_up_ad (by omega)] at q
    exact h.1 i j hi hj q
  · rw [bd_up_ad (by omega)]
    exact h.2 i hi
theorem bd_up_F {p : Program} {R : Room} {s : State} {m : MethodId} {args : Array Value} {meth : Method} {c : Code} {g : bc_C} {Y : bc_Y} {d c0 s0 k a : Nat} (h0 : 218 ≤ k) (h1 : k < 1000) (F : bc_Fx g Y d p R s m args meth c c0 s0) : bc_Fx (bd_up g k a) Y d p R s m args meth c c0 s0 := by
  obtain ⟨hx, hb, hml, hts, hown, hlocks, hap, htr, hE, hz, hok, hRf, hRl, hRc, hRs, hret⟩ := F
  exact ⟨hx, hb, hml, hts, hown, hlocks, bd_up_ap h0 hap, htr, bd_up_E h1 hE, hz, hok, hRf, hRl, hRc, hRs, hret⟩
theorem bd_fsk : (List.range 218).all (fun k => match bc_sh k with | some (.inl (_, fs)) => fs.all (fun o => match o with | none => true | some t => Nat.blt t 218) | _ => true) = true := by decide +kernel
theorem bd_fs_lt {k ci i t : Nat} {fs : List (Option Nat)} (hs : bc_sh k = some (.inl (ci, fs))) (ho : fs[i]? = some (some t)) : t < 218 := by
  have h1 := List.all_eq_true.mp bd_fsk k (List.mem_range.mpr (bc_sh_lt hs))
  rw [hs] at h1
  exact Nat.le_of_ble_eq_true (List.all_eq_true.mp h1 (some t) (List.mem_of_getElem? ho))
theorem bd_ws_eq {g : bc_C} {σ : bc_M} {ad : Nat → Nat} (h : ∀ k : Nat, k < 218 → ad k = bc_ad g k) : bc_ws (g.1, g.2.1, g.2.2.1, ad, g.2.2.2.2) σ = bc_ws g σ := by
  have hsh : ∀ j : Nat, bc_sh j = none ∨ j < 218 := fun j => by
    cases hs : bc_sh j with
    | none => exact Or.inl rfl
    | some q => exact Or.inr (bc_sh_lt hs)
  apply List.map_congr_left
  intro j hj
  have hlt : j < 218 := List.mem_range.mp hj
  show (ad j, bc_e (g.1, g.2.1, g.2.2.1, ad, g.2.2.2.2) σ j) = (bc_ad g j, bc_e g σ j)
  rw [h j hlt]
  congr 1
  have hck := bc_sh_ok hlt
  unfold bc_shc at hck
  unfold bc_e
  cases hs : bc_sh j with
  | none => rfl
  | some q =>
    rw [hs] at hck
    obtain ⟨ci, fs⟩ | ⟨ty, w⟩ | ⟨b, i, w⟩ | ⟨w, u⟩ | ⟨w, b, dd⟩ | b := q
    · dsimp only
      congr 2
      unfold bc_fs
      apply List.ext_getElem?
      intro i
      rw [List.getElem?_mapIdx, List.getElem?_mapIdx]
      cases ho : fs[i]? with
      | none => rfl
      | some o =>
        cases o with
        | none => rfl
        | some t =>
          have ht : t < 218 := bd_fs_lt hs ho
          show some (Value.ref (ad t)) = some (Value.ref (bc_ad g t))
          rw [h t ht]
    · rfl
    · rfl
    · dsimp only
      congr 7
      funext x
      simp only [Bool.and_eq_true, decide_eq_true_eq] at hck
      by_cases hx : x < w
      · have h2 := List.all_eq_true.mp hck.2 x (List.mem_range.mpr hx)
        have h3 : (bc_sh (j + 1 + x)).isSome = true := by
          cases hq : bc_sh (j + 1 + x) with
          | none => rw [hq] at h2; exact absurd h2 Bool.false_ne_true
          | some _ => rfl
        obtain ⟨y, hy⟩ := Option.isSome_iff_exists.mp h3
        rw [if_pos hx, if_pos hx]
        exact congrArg some (h _ (bc_sh_lt hy))
      · rw [if_neg hx, if_neg hx]
    · dsimp only
      congr 7
      funext x
      simp only [Bool.and_eq_true, decide_eq_true_eq] at hck
      by_cases hx : x < w
      · have h2 := List.all_eq_true.mp hck.2 x (List.mem_range.mpr hx)
        simp only [decide_eq_true_eq] at h2
        obtain ⟨y, hy⟩ := Option.isSome_iff_exists.mp h2
        rw [if_pos hx, if_pos hx]
        exact congrArg some (h _ (bc_sh_lt hy))
      · rw [if_neg hx, if_neg hx]
    · rfl
theorem bd_up_ws {g : bc_C} {σ : bc_M} {k a : Nat} (h : 218 ≤ k) : bc_ws (bd_up g k a) σ = bc_ws g σ := bd_ws_eq (ad := fun j => if j = k then a else g.2.2.2.1 j) (fun j hj => if_neg (by omega))
theorem bd_O_at {E : String} {t : Nat} {A : Nat → Prop} {U : State} {H H1 : Heap} (k : H1[t]? = H[t]?) (h : va_O E t A U H) : va_O E t A U H1 := by
  obtain ⟨cell, h1, h2, h3, h4⟩ := h
  exact ⟨cell, k.trans h1, h2, h3, h4⟩
theorem bd_OF_at {o n d : String} {v : Value} {t : Nat} {A : Nat → Prop} {U : State} {H H1 : Heap} (k : H1[t]? = H[t]?) (h : va_OF o n d v t A U H) : va_OF o n d v t A U H1 := by
  obtain ⟨cf, kf, i, f, cell, h1, h2, h3, h4, h5, h6⟩ := h
  exact ⟨cf, kf, i, f, cell, h1, h2, k.trans h3, h4, h5, h6⟩
theorem bd_T_at {ty : FieldType} {t N : Nat} {f : Nat → Value} {A : Nat → Prop} {U : State} {H H1 : Heap} (k : H1[t]? = H[t]?) (h : va_T ty t N f A U H) : va_T ty t N f A U H1 := by
  obtain ⟨cell, h1, h2⟩ := h
  exact ⟨cell, k.trans h1, h2⟩
/-- a text stays where its two cells stay -/
theorem bd_tx_kept {g : bc_C} {U : State} {i : Nat} {l : List Nat} {H H1 : Heap} (h : bd_tx g U i l H) (k1 : H1[bc_ad g (500 + i)]? = H[bc_ad g (500 + i)]?) (k2 : H1[bc_ad g (700 + i)]? = H[bc_ad g (700 + i)]?) : bd_tx g U i l H1 := by
  obtain ⟨f, h1, h2, h3, h4, h5⟩ := h
  exact ⟨f, bd_O_at k1 h1, bd_OF_at k1 h2, bd_OF_at k1 h3, bd_T_at k2 h4, h5⟩
/-- a builder stays where her two cells stay -/
theorem bd_bl_kept {g : bc_C} {U : State} {i : Nat} {l : List Nat} {H H1 : Heap} (h : bd_bl g U i l H) (k1 : H1[bc_ad g (500 + i)]? = H[bc_ad g (500 + i)]?) (k2 : H1[bc_ad g (700 + i)]? = H[bc_ad g (700 + i)]?) : bd_bl g U i l H1 := by
  obtain ⟨D, cB, ml, f, h1, h2, h3⟩ := h
  refine ⟨D, cB, ml, f, h1, h2.kept (fun k q hk => ?_), h3⟩
  match k, hk with
  | 0, hk => cases hk; exact k1
  | 1, hk => cases hk; exact k2
  | k + 2, hk => cases hk
/-- the objects stay where their cells stay, and all that may not change -/
theorem bd_J_kept {g : bc_C} {U : State} {D : List bd_O} {H H1 : Heap} (h : bd_J g U D H) (k1 : ∀ k : Nat, bd_lv D k → 218 ≤ k → H1[bc_ad g k]? = H[bc_ad g k]?) (k3 : ∀ a : Nat, a < H.size → ¬ bc_Z g a → H1[a]? = H[a]?) : bd_J g U D H1 := by
  intro i o ho
  have h0 := h i o ho
  have a1 : H1[bc_ad g (500 + i)]? = H[bc_ad g (500 + i)]? := k1 _ (Or.inr ⟨i, o, ho, Or.inl rfl⟩) (by omega)
  obtain q | l | l := o
  · exact bd_is_row (n := q.1) (f := q.2) h0 a1
  · exact bd_tx_kept h0 a1 (k1 _ (Or.inr ⟨i, _, ho, Or.inr ⟨rfl, rfl⟩⟩) (by omega))
  · exact bd_bl_kept h0 a1 (k1 _ (Or.inr ⟨i, _, ho, Or.inr ⟨rfl, rfl⟩⟩) (by omega))
/-- an object lives in the heap -/
theorem bd_J_lt {g : bc_C} {U : State} {D : List bd_O} {H : Heap} (h : bd_J g U D H) {k : Nat} (hk : bd_lv D k) (h0 : 218 ≤ k) : bc_ad g k < H.size := by
  rcases hk with hk | ⟨i, o, ho, hk⟩
  · omega
  · have h1 := h i o ho
    rcases hk with rfl | ⟨rfl, h2⟩
    · obtain q | l | l := o
      · exact (Array.getElem?_eq_some_iff.mp (show H[bc_ad g (500 + i)]? = some _ from h1)).1
      · obtain ⟨f, ⟨cell, a1, -⟩, -⟩ := h1
        exact (Array.getElem?_eq_some_iff.mp a1).1
      · obtain ⟨E, cB, ml, f, a1, a2, -⟩ := h1
        exact (a2 0 _ rfl).lt
    · obtain q | l | l := o
      · cases h2
      · obtain ⟨f, -, -, -, ⟨cell, a1, -⟩, -⟩ := h1
        exact (Array.getElem?_eq_some_iff.mp a1).1
      · obtain ⟨E, cB, ml, f, a1, a2, -⟩ := h1
        exact (a2 1 _ rfl).lt
theorem bc_E_narrow {g : bc_C} {Z : Nat → Prop} {J : Heap → Prop} {U : State} {H : Heap} (h : bc_E g U H) (hz : ∀ q, Z q → bc_Z g q) : bc_E (bd_gq g Z J) U H := by
  obtain ⟨h1, h2, h3, h4, h5, h7, h9, ⟨adV, h6⟩, h10, h11⟩ := h
  exact ⟨h1, h2.narrow hz, h3.narrow hz, h4, h5, h7, h9, ⟨adV, h6.narrow hz⟩, h10.narrow hz, h11.narrow hz⟩
/-- the methods of the law that this machine has -/
def bd_m2 (j : Nat) : Bool := [169, 170, 172, 175, 177, 178, 179, 180, 182, 187].contains j
/-- the readers whose twin is called -/
def bd_tws : List Nat := [89, 96, 106, 112, 141, 147, 165]
def bd_yt (j : Nat) : bc_Y := bif bd_tws.contains j then bc_twin (bc_yt j) else bc_yt j
theorem bd_yt_c (j : Nat) : bd_yt j = bc_yt j ∨ bd_yt j = bc_twin (bc_yt j) := by
  unfold bd_yt
  cases bd_tws.contains j with
  | true => exact Or.inr rfl
  | false => exact Or.inl rfl
