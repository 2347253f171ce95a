/-! THE LAW'S OWN BODY, over the abstract machine: the script is cell 999 -/
theorem z_L_law : ∀ pc, 1839 ≤ pc → pL_law pc = none := fun _ h => by unfold pL_law; exact bc_cut_none h
theorem kL_law : bc_ok1 code pL_law := bc_dec_ok kL_lawD z_L_law
theorem i32_in (x : Int32) : bc_in x.toInt := by
  have h1 := Int32.le_toInt x
  have h2 := Int32.toInt_lt x
  constructor <;> omega
theorem vp_in32 {j : Int} {n : Nat} (h0 : 0 ≤ j) (h1 : j < (n : Int)) (hn : n < 2147483648) : vp_in (Int32.ofInt j) n ∧ (Int32.ofInt j).toNatClampNeg = j.toNat := by
  have e : (Int32.ofInt j).toNatClampNeg = j.toNat := Int32.toNatClampNeg_ofInt_of_le (by omega) (by omega)
  refine ⟨?_, e⟩
  unfold vp_in
  rw [e]
  rintro (q | q)
  · rw [Int32.lt_iff_toInt_lt, Int32.toInt_ofInt_of_le (by omega) (by omega)] at q
    have : (0 : Int32).toInt = 0 := by decide
    omega
  · omega
/-- a continuation that the law's body may use -/
def lw_G (g : bc_C) (d L : Nat) (xs : Nat → Int32) (K : bc_KT) : Prop := bc_Good g mL_law d (fun r _ => r = some (bc_I 1)) (fun _ _ => False) K ∧
  (∀ (pc : Nat) (lv : bc_LV) (st : List bc_A) (σ : bc_M) (n : Nat) (j : Int), bc_code mL_law pc = some (.iaload, 1, []) → 0 ≤ j → j < (L : Int) → K (pc + 1) lv (bc_I (xs j.toNat).toInt :: st) σ n → K pc lv (bc_I j :: bc_R 999 :: st) σ n) ∧
  (∀ (pc : Nat) (lv : bc_LV) (st : List bc_A) (σ : bc_M) (n : Nat), bc_code mL_law pc = some (.arraylength, 1, []) → K (pc + 1) lv (bc_I (L : Int) :: st) σ n → K pc lv (bc_R 999 :: st) σ n) ∧
  (∀ (pc : Nat) (lv : bc_LV) (st : List bc_A) (σ : bc_M) (n : Nat) (x : Int64), bc_code mL_law pc = some (.pop2, 1, []) → K (pc + 1) lv st σ n → K pc lv (bc_J x :: st) σ n)
section LAW
variable {p : Program} {e : Env} {s : State} {m : MethodId} {below : List Frame} {meth : Method} {c : Code} {g : bc_C} {d : Nat} {c0 s0 : Nat} {b L : Nat} {xs : Nat → Int32}
theorem lw_hR (F : bc_Fx g mL_law d p room_1 s m #[Value.ref b] meth c c0 s0) (hz : bc_z g = s.heap.size) (hc : c0 + 50 ≤ 603072 ∧ s0 + 300 ≤ 7178346) {pc len : Nat} {i : Instr} {ts : List Nat} {lv : bc_LV} {st : List bc_A} {σ : bc_M} {n : Nat} {r : Option bc_A} (hcd : bc_code mL_law pc = some (i, len, ts)) (hr : bc_rok (bc_ret mL_law) i r st) (h : r = some (bc_I 1)) : bc_T g mL_law p e room_1 s m #[Value.ref b] below meth c (lw_Z below #[Value.ref b] s) c0 s0 pc lv st σ n := by
  obtain ⟨hx, hb, hml, hts, hown, hlocks, hap, htr, hE, hz0, hok, -, -, -, -, hret⟩ := F
  obtain ⟨hd, htg, hln⟩ := hok pc i len ts hcd
  intro H locs ls hn hH hS hl
  have hn : n ≤ 50 := hn
  subst h
  have hst : i = .ireturn ∧ st = [bc_I 1] := by
    rcases hr with ⟨q, x, e1, e2, -⟩ | ⟨q, x, e1, e2, -⟩ | ⟨q, x, e1, e2, -⟩ | ⟨q, x, e1, e2, -⟩ | ⟨q, x, e1, e2, -⟩ | ⟨q, e1, -⟩
    · have e3 : (1 : Int) = x := Sum.inl.inj (Option.some.inj e1)
      rw [← e3] at e2
      exact ⟨q, e2⟩
    · cases e1
    · cases e1
    · cases e1
    · cases e1
    · cases e1
  obtain ⟨rfl, rfl⟩ := hst
  have hl1 : len = 1 := by simpa [bc_ln] using hln
  subst hl1
  refine va_forget (fun q hq => by have := hS.2.2 q hq; unfold bc_Z at this; omega) ?_
  refine W.widen (k := 603072) (n := 7178346) (by omega) (by omega) ?_
  refine W.base ?_
  exact lw_ret (Drawn.sameBut.refl s.drawn lw_cs) hx hb hret hlocks hd
theorem lw_good (F : bc_Fx g mL_law d p room_1 s m #[Value.ref b] meth c c0 s0) (hz : bc_z g = s.heap.size) (hc : c0 + 50 ≤ 603072 ∧ s0 + 300 ≤ 7178346) (had : bc_ad g 999 = b) (hX : va_X b L xs s s.heap) (hbl : b < s.heap.size) (hL : L < 2147483648) : lw_G g d L xs (bc_T g mL_law p e room_1 s m #[Value.ref b] below meth c (lw_Z below #[Value.ref b] s) c0 s0) := by
  have F0 := F
  obtain ⟨hx, hb, hml, hts, hown, hlocks, hap, htr, hE, hz0, hok, -, -, -, -, hret⟩ := F
  have hbA : ¬ bc_Z g b := fun q => by unfold bc_Z at q; omega
  refine ⟨⟨fun cuts f pc lv st σ n h => ?_, fun pc lv lv' st σ n hs h => bc_T_sub hs h⟩, fun pc lv st σ n j hcd h0 h1 h => ?_, fun pc lv st σ n hcd h => ?_, fun pc lv st σ n x hcd h => ?_⟩
  · refine bc_run_ok F0 (cv_all _) (fun _ _ _ _ _ h => h) (fun pc i len ts lv st σ n r hcd hr h => lw_hR F0 hz hc hcd hr h) (fun K hK pc lv n x σ h hx6 => ?_) (fun pc ix len ts lv st σ n _ _ _ _ h => h.elim) (bc_jdk_all g mL_law d p e _ s m _ below meth c _ c0 s0 F0) f pc lv st σ n h
    unfold bc_thr at h
    rw [show bc_find (bc_hh mL_law) pc x = none from rfl] at h
    exact h.elim
  · obtain ⟨hd, -, -⟩ := hok pc _ _ _ hcd
    intro H locs ls hn hH hS hl
    obtain ⟨v1, v2⟩ := vp_in32 h0 h1 hL
    have h2 := h H locs ls hn hH hS hl
    have e1 : bc_v g (bc_R 999) = .ref b := by rw [bc_v_R, had]
    rw [List.map_cons, List.map_cons, bc_v_I, e1]
    refine va_sld hx hb hX hbl hbA hS v1 hd ?_
    rw [v2]
    rw [List.map_cons, bc_v_I, Int32.ofInt_toInt] at h2
    exact h2
  · obtain ⟨hd, -, -⟩ := hok pc _ _ _ hcd
    intro H locs ls hn hH hS hl
    have h2 := h H locs ls hn hH hS hl
    have e1 : bc_v g (bc_R 999) = .ref b := by rw [bc_v_R, had]
    rw [List.map_cons, e1]
    refine va_slen hx hb hX hbl hbA hS hd ?_
    rw [List.map_cons, bc_v_I] at h2
    exact h2
  · obtain ⟨hd, -, -⟩ := hok pc _ _ _ hcd
    intro H locs ls hn hH hS hl
    have h2 := h H locs ls hn hH hS hl
    rw [List.map_cons, bc_v_J]
    exact lv_pop2_2 hx hb hd rfl h2
end LAW
theorem lg0 (x : Int64) : lg_cmp x x = 0 := by
  unfold lg_cmp
  rw [if_neg (by simp), if_pos rfl]
