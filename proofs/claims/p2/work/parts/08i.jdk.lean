/-- the places of the links to the JDK's methods -/
def bc_jp (ow k : Nat) : Nat := match ow with
  | 0 => (bif Nat.beq k 26 then 609 else 0)
  | 1 => (bif Nat.beq k 29 then 843 else 0)
  | 2 => (bif Nat.blt k 41 then (bif Nat.beq k 35 then 626 else 0) else (bif Nat.blt k 47 then (bif Nat.beq k 41 then 848 else 0) else (bif Nat.beq k 47 then 849 else 0)))
  | 3 => (bif Nat.beq k 19 then 633 else 0)
  | 4 => (bif Nat.beq k 80 then 549 else 0)
  | 5 => (bif Nat.blt k 61 then (bif Nat.beq k 57 then 1338 else 0) else (bif Nat.blt k 71 then (bif Nat.beq k 61 then 1387 else 0) else (bif Nat.beq k 71 then 1349 else 0)))
  | 8 => (bif Nat.blt k 72 then (bif Nat.beq k 52 then 638 else 0) else (bif Nat.beq k 72 then 1233 else 0))
  | 9 => (bif Nat.blt k 59 then (bif Nat.beq k 53 then 564 else 0) else (bif Nat.beq k 59 then 565 else 0))
  | 11 => (bif Nat.blt k 187 then (bif Nat.blt k 89 then (bif Nat.beq k 84 then 1598 else 0) else (bif Nat.beq k 89 then 1599 else 0)) else (bif Nat.blt k 250 then (bif Nat.beq k 187 then 1776 else 0) else (bif Nat.beq k 250 then 1970 else 0)))
  | _ => 0
def bc_jn (k : Nat) : MethodName := match k with
  | 0 => jd_y_max
  | 1 => jd_y_min
  | 2 => jd_y_arr
  | 3 => jd_y_f2i
  | 4 => jd_y_length
  | _ => jd_y_charAt
def bc_jc (ow ix : Nat) : Bool := match bc_ml ow ix with
  | some (.inr k) => bc_wat (bc_jp ow ix) (.methodLink (bc_rn ow) ix (bc_jn k)) && Nat.blt k 6
  | _ => true
theorem bc_jk0 : (List.range 10).all (fun ow => (List.range 512).all (fun ix => bc_jc ow ix)) = true := by decide +kernel
theorem bc_jk1 : (List.range 512).all (fun ix => bc_jc 10 ix) = true := by decide +kernel
theorem bc_jk2 : (List.range 512).all (fun ix => bc_jc 11 ix) = true := by decide +kernel
theorem bc_jk3 : (List.range 512).all (fun ix => bc_jc 12 ix) = true := by decide +kernel
theorem bc_j_ok {ow ix k : Nat} (h : bc_ml ow ix = some (.inr k)) : Cond.methodLink (bc_rn ow) ix (bc_jn k) ∈ bc_W ∧ k < 6 := by
  obtain ⟨h1, h2⟩ := bc_ml_lt h
  have h3 := List.mem_range.mpr h2
  have key : bc_jc ow ix = true := by
    by_cases h4 : ow < 10
    · exact List.all_eq_true.mp (List.all_eq_true.mp bc_jk0 ow (List.mem_range.mpr h4)) ix h3
    · have h5 : ow = 10 ∨ ow = 11 ∨ ow = 12 := by omega
      rcases h5 with h5 | h5 | h5
      · rw [h5]; exact List.all_eq_true.mp bc_jk1 ix h3
      · rw [h5]; exact List.all_eq_true.mp bc_jk2 ix h3
      · rw [h5]; exact List.all_eq_true.mp bc_jk3 ix h3
  unfold bc_jc at key
  rw [h] at key
  simp only [Bool.and_eq_true] at key
  exact ⟨bc_wat_ok key.1, Nat.le_of_ble_eq_true key.2⟩
theorem bc_nng {x : Int} (h0 : 0 ≤ x) (h1 : x < 2000) : ¬ Int32.ofInt x < 0 ∧ (Int32.ofInt x).toNatClampNeg = x.toNat := by
  have ht : (Int32.ofInt x).toInt = x := bc_i_t ⟨by omega, by omega⟩
  refine ⟨fun h => ?_, ?_⟩
  · have := (bc_i_lt (y := 0) ⟨by omega, by omega⟩ bc_in_0).mp h
    omega
  · show (Int32.ofInt x).toInt.toNat = _
    rw [ht]
section BCJ
variable {p : Program} {e : Env} {R : Room} {s : State} {m : MethodId} {args : Array Value} {below : List Frame} {meth : Method} {c : Code} {Q : State → Prop} {g : bc_C} {Y : bc_Y} {d : Nat} {pc : Nat} {lv : bc_LV} {st r : List bc_A} {σ : bc_M} {n c0 s0 : Nat}
theorem bc_cat8 {r : List bc_A} (h : r.length ≤ 8) : ((r.map (bc_v g)).map fun v => v.category).sum ≤ 16 := by
  have h1 : ∀ l : List bc_A, ((l.map (bc_v g)).map fun v => v.category).sum ≤ 2 * l.length := by
    intro l
    induction l with
    | nil => simp
    | cons a l ih =>
      simp only [List.map_cons, List.sum_cons, List.length_cons]
      have : (bc_v g a).category ≤ 2 := by rw [bc_v_wide]; split <;> omega
      omega
  have := h1 r
  omega
set_option maxRecDepth 20000 in
theorem bc_rl {L d z k : Nat} (h : 60 * d + 460 ≤ L) (hz : z ≤ 16) (hk : k ≤ 40) : z + k ≤ L := by omega
set_option maxRecDepth 20000 in
theorem bc_rl2 {L d z k : Nat} (h : 60 * d + 460 ≤ L) (hz : z ≤ 2) (hk : k ≤ 3) : 8 + (z + 11) + 40 * k ≤ L := by omega
theorem bc_max {x y : Int} (hx : bc_in x) (hy : bc_in y) : (if Int32.ofInt x < Int32.ofInt y then Int32.ofInt y else Int32.ofInt x) = Int32.ofInt (max x y) := by
  by_cases h : x < y
  · rw [if_pos ((bc_i_lt hx hy).mpr h), Int.max_eq_right (by omega)]
  · rw [if_neg (fun q => h ((bc_i_lt hx hy).mp q)), Int.max_eq_left (by omega)]
theorem bc_min {x y : Int} (hx : bc_in x) (hy : bc_in y) : (if Int32.ofInt y < Int32.ofInt x then Int32.ofInt y else Int32.ofInt x) = Int32.ofInt (min x y) := by
  by_cases h : y < x
  · rw [if_pos ((bc_i_lt hy hx).mpr h), Int.min_eq_right (by omega)]
  · rw [if_neg (fun q => h ((bc_i_lt hy hx).mp q)), Int.min_eq_left (by omega)]
theorem bc_jdI (h : bc_E g s s.heap) : ∃ adV, jd_I g adV s s.heap := by
  obtain ⟨h1, h2, h3, h4, h5, h7, h9, ⟨adV, h6⟩, h10, h11⟩ := h
  exact ⟨adV, h6, h10, h11⟩
theorem bc_sh_arr0 {k w : Nat} (hs : bc_sh k = some (.inr (.inl (0, w)))) : w < 2000 := by
  have h3 := bc_sh_ok (bc_sh_lt hs)
  unfold bc_shc at h3
  rw [hs] at h3
  simp only [Bool.and_eq_true, decide_eq_true_eq] at h3
  exact h3.2
/-- what a copy makes -/
theorem bc_ws_cy {ks kd n0 n1 : Nat} {sp dp z : Int} (hs0 : bc_sh ks = some (.inr (.inl (0, n0)))) (hs1 : bc_sh kd = some (.inr (.inl (0, n1)))) (h0 : 0 ≤ sp) (h1 : 0 ≤ dp) (h2 : 0 ≤ z) :
    (bc_ws g σ).set kd (bc_ad g kd, .inl (bc_cA g 0, n1, .inl (va_cpy (fun j : Nat => Int32.ofInt (σ.1 ks (j : Int))) (fun j : Nat => Int32.ofInt (σ.1 kd (j : Int))) sp.toNat dp.toNat z.toNat))) = bc_ws g (bc_cy σ ks kd sp dp z) := by
  refine bc_ws_set (bc_sh_lt hs1) ?_ (fun i hi hne => bc_e_same (fun i hi => by funext x; simp [bc_cy, hi]) rfl hne (fun b i w hr hb => ?_))
  · rw [bc_e_arr hs1]
    congr 3
    congr 1
    funext q
    unfold va_cpy bc_cy
    dsimp only
    rw [if_pos rfl]
    by_cases hq : dp ≤ (q : Int) ∧ (q : Int) < dp + z
    · have e9 : ((sp.toNat + (q - dp.toNat) : Nat) : Int) = sp + ((q : Int) - dp) := by omega
      rw [if_pos hq, if_pos (by omega), e9]
    · rw [if_neg hq, if_neg (by omega)]
  · obtain ⟨u, h5, -⟩ := bc_row_grid hr
    rw [hb, hs1] at h5
    cases h5
theorem bc_jdk_all (g : bc_C) (Y : bc_Y) (d : Nat) : bc_JDK g Y d := by
  intro p e R s m args below meth c Q c0 s0 F k i ix pc lv st σ n hml hi hd h
  obtain ⟨hx, hb, hmL, hts, hown, hlocks, hap, htr, hE, hz, hok, hRf, hRl, hRc, hRs, -⟩ := F
  obtain ⟨hlink, hk6⟩ := bc_j_ok hml
  obtain ⟨adV, hI⟩ := bc_jdI hE
  have hfr : 1 ≤ R.frames := by omega
  intro H locs ls hn hH hS hl
  have hcell : c0 + n ≤ R.cells ∧ s0 + 6 * n ≤ R.slots := ⟨by omega, by omega⟩
  have hls : c.maxLocals = ls.size := hmL.trans hl.1.symm
  have hh : k = 0 ∨ k = 1 ∨ k = 2 ∨ k = 3 ∨ k = 4 ∨ k = 5 := by omega
  rcases hh with rfl | rfl | rfl | rfl | rfl | rfl
  · obtain ⟨-, rfl⟩ : (0 : Nat) < 4 ∧ i = .invokestatic ix := by rcases hi with q | q; exact q; omega
    obtain ⟨y, r1, rfl, hA⟩ := bc_pI_e (show bc_pI st _ from h)
    obtain ⟨x, r2, rfl, ⟨hx1, hy1, hr8⟩, hB⟩ := bc_pI_e hA
    refine va_mmax hx hb hls hown (hts _ hlink) (hts _ (bc_wat_ok (pos := 566) (by decide +kernel))) (hts _ (bc_wat_ok (pos := 120) (by decide +kernel))) (hts _ jd_w_max) hfr (bc_rl hRl (bc_cat8 hr8) (by decide)) hcell.1 hcell.2 hd ?_
    rw [bc_max hx1 hy1]
    exact hB H locs ls hn hH hS hl
  · obtain ⟨-, rfl⟩ : (1 : Nat) < 4 ∧ i = .invokestatic ix := by rcases hi with q | q; exact q; omega
    obtain ⟨y, r1, rfl, hA⟩ := bc_pI_e (show bc_pI st _ from h)
    obtain ⟨x, r2, rfl, ⟨hx1, hy1, hr8⟩, hB⟩ := bc_pI_e hA
    refine va_mmin hx hb hls hown (hts _ hlink) (hts _ (bc_wat_ok (pos := 550) (by decide +kernel))) (hts _ (bc_wat_ok (pos := 120) (by decide +kernel))) (hts _ jd_w_min) hfr (bc_rl hRl (bc_cat8 hr8) (by decide)) hcell.1 hcell.2 hd ?_
    rw [bc_min hx1 hy1]
    exact hB H locs ls hn hH hS hl
  · obtain ⟨-, rfl⟩ : (2 : Nat) < 4 ∧ i = .invokestatic ix := by rcases hi with q | q; exact q; omega
    obtain ⟨z, r1, rfl, hA⟩ := bc_pI_e (show bc_pI st _ from h)
    obtain ⟨dp, r2, rfl, hA2⟩ := bc_pI_e hA
    obtain ⟨kd, r3, rfl, hA3⟩ := bc_pR_e hA2
    obtain ⟨sp, r4, rfl, hA4⟩ := bc_pI_e hA3
    obtain ⟨ks, r5, rfl, hA5⟩ := bc_pR_e hA4
    clear h hA hA2 hA3 hA4
    split at hA5
    · rename_i n0 n1 hs0 hs1
      obtain ⟨⟨⟨h0, h1, h2⟩, ⟨h3, h4⟩, hr8⟩, hB⟩ := hA5
      have w0 := bc_sh_arr0 hs0
      have w1 := bc_sh_arr0 hs1
      obtain ⟨a1, a2⟩ := bc_nng h0 (by omega)
      obtain ⟨b1, b2⟩ := bc_nng h1 (by omega)
      obtain ⟨c1, c2⟩ := bc_nng h2 (by omega)
      refine va_copyi (D := bc_Dd g) (cl := bc_cl) (ws := bc_ws g σ) (tys := bc_tys g) (A := bc_Z g) hx hb hls hown (hts _ hlink) (hts _ (bc_wat_ok (pos := 628) (by decide +kernel))) (hts _ (bc_wat_ok (pos := 627) (by decide +kernel))) (hts _ (bc_wat_ok (pos := 119) (by decide +kernel))) hE.1 hH (bc_ap_D hap σ) hS ks kd 0 0 (by rw [bc_ws_at (bc_sh_lt hs0), bc_e_arr hs0]) (by rw [bc_ws_at (bc_sh_lt hs1), bc_e_arr hs1]) rfl rfl rfl a1 b1 c1 (by rw [a2, c2]; omega) (by rw [b2, c2]; omega) (fun _ _ => rfl) hfr ?_ hd (fun H1 locs1 q1 _ q3 => ?_)
      · exact bc_rl hRl (bc_cat8 hr8) (by decide)
      · rw [a2, b2, c2, bc_ws_cy hs0 hs1 h0 h1 h2] at q1
        exact hB H1 locs1 ls hn q1 q3 hl
    · exact hA5.elim
  · obtain ⟨-, rfl⟩ : (3 : Nat) < 4 ∧ i = .invokestatic ix := by rcases hi with q | q; exact q; omega
    obtain ⟨x, r1, rfl, ⟨hx1, hr4⟩, hB⟩ := bc_pF_e (show bc_pF st _ from h)
    refine jd_cS (n := 1) (As := [.float x]) (rest := r1.map (bc_v g)) hx hb hls hown hts hI hS (jd_f2i hx1) jd_w_f2i (bc_wat_ok (pos := 122) (by decide +kernel)) hlink (bc_wat_ok (pos := 1777) (by decide +kernel)) ⟨by decide +kernel, by decide +kernel, by decide +kernel⟩ ⟨by omega, bc_rl2 hRl (by decide) (by decide)⟩ hcell rfl rfl ?_ hd (fun locs1 hS1 => ?_)
    · exact bc_cat hr4
    · have := hB H locs1 ls hn hH hS1 hl
      rw [List.map_cons, bc_v_I, Int32.ofInt_toInt] at this
      exact this
  · obtain ⟨-, rfl⟩ : 4 ≤ (4 : Nat) ∧ i = .invokevirtual ix := by rcases hi with q | q; omega; exact q
    obtain ⟨kk, r1, rfl, ⟨⟨hk0, hk1⟩, hr4⟩, hB⟩ := bc_pR_e (show bc_pR st _ from h)
    obtain ⟨j, rfl⟩ : ∃ j, kk = 1000 + j := ⟨kk - 1000, by omega⟩
    have hj : j < 17 := by omega
    rw [show 1000 + j - 1000 = j by omega] at hB
    refine jd_cV (n := 0) (As := []) (rest := r1.map (bc_v g)) hx hb hls hown hts hI hS (jd_length hj) jd_w_length (bc_wat_ok (pos := 113) (by decide +kernel)) hlink (bc_wat_ok (pos := 1339) (by decide +kernel)) (bc_wat_ok (pos := 1340) (by decide +kernel)) (vk_recv (i := j) hI.1 hj hS) ⟨jd_dS.1, jd_dS.2, by decide +kernel⟩ ⟨by omega, bc_rl2 hRl (by decide) (by decide)⟩ hcell rfl rfl ?_ hd (fun locs1 hS1 => ?_)
    · exact bc_cat hr4
    · exact hB H locs1 ls hn hH hS1 hl
  · obtain ⟨-, rfl⟩ : 4 ≤ (5 : Nat) ∧ i = .invokevirtual ix := by rcases hi with q | q; omega; exact q
    obtain ⟨jj, r1, rfl, hA⟩ := bc_pI_e (show bc_pI st _ from h)
    obtain ⟨kk, r2, rfl, ⟨⟨⟨hk0, hk1⟩, hr4⟩, h0, h1⟩, hB⟩ := bc_pR_e hA
    obtain ⟨j, rfl⟩ : ∃ j, kk = 1000 + j := ⟨kk - 1000, by omega⟩
    have hj : j < 17 := by omega
    rw [show 1000 + j - 1000 = j by omega] at hB h1
    refine jd_cV (n := 1) (As := [.int (Int32.ofInt jj)]) (rest := r2.map (bc_v g)) hx hb hls hown hts hI hS (jd_charAt hj h0 h1) jd_w_charAt (bc_wat_ok (pos := 113) (by decide +kernel)) hlink (bc_wat_ok (pos := 1350) (by decide +kernel)) (bc_wat_ok (pos := 1351) (by decide +kernel)) (vk_recv (i := j) hI.1 hj hS) ⟨jd_dS.1, jd_dS.2, by decide +kernel⟩ ⟨by omega, bc_rl2 hRl (by decide) (by decide)⟩ hcell rfl rfl ?_ hd (fun locs1 hS1 => ?_)
    · exact bc_cat hr4
    · exact hB H locs1 ls hn hH hS1 hl
end BCJ
