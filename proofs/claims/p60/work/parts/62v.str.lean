theorem sj_nlt0 {x : Int} (h0 : 0 ≤ x) (h1 : x < 2000) : ¬ Int32.ofInt x < 0 := (bc_nng h0 h1).1
theorem sj_le {x y : Int} (hx : -1000 ≤ x ∧ x ≤ 1000 := by omega) (hy : -1000 ≤ y ∧ y ≤ 1000 := by omega) (h : x ≤ y) : Int32.ofInt x ≤ Int32.ofInt y := by
  rw [Int32.le_iff_toInt_le, bc_i_t ⟨by omega, by omega⟩, bc_i_t ⟨by omega, by omega⟩]
  exact h
theorem sj_nle {x y : Int} (hx : -1000 ≤ x ∧ x ≤ 1000 := by omega) (hy : -1000 ≤ y ∧ y ≤ 1000 := by omega) (h : y < x) : ¬ Int32.ofInt x ≤ Int32.ofInt y := by
  rw [Int32.le_iff_toInt_le, bc_i_t ⟨by omega, by omega⟩, bc_i_t ⟨by omega, by omega⟩]
  omega
theorem sj_ge0 {x : Int} (h0 : 0 ≤ x) (h1 : x < 2000) : Int32.ofInt x ≥ 0 := Int32.not_lt.mp (bc_nng h0 h1).1
theorem sj_gt {x y : Int} (hx : -1000 ≤ x ∧ x ≤ 1000 := by omega) (hy : -1000 ≤ y ∧ y ≤ 1000 := by omega) (h : y < x) : Int32.ofInt x > Int32.ofInt y := by
  show Int32.ofInt y < Int32.ofInt x
  rw [Int32.lt_iff_toInt_lt, bc_i_t ⟨by omega, by omega⟩, bc_i_t ⟨by omega, by omega⟩]
  exact h
theorem sj_nar9 : ∀ d : Fin 128, vp_nar .byte (Int32.ofInt ((d.val : Nat) : Int)) = Int32.ofInt ((d.val : Nat) : Int) := by decide +kernel
theorem sj_nar {y : Int} (h0 : 0 ≤ y) (h1 : y < 128) : vp_nar .byte (Int32.ofInt y) = Int32.ofInt y := by
  have h := sj_nar9 ⟨y.toNat, by omega⟩
  rw [show (((⟨y.toNat, by omega⟩ : Fin 128).val : Nat) : Int) = y from Int.toNat_of_nonneg h0] at h
  exact h
theorem sj_ne {x y : Int} (hx : -1000 ≤ x ∧ x ≤ 1000 := by omega) (hy : -1000 ≤ y ∧ y ≤ 1000 := by omega) (h : x ≠ y) : ¬ Int32.ofInt x = Int32.ofInt y := fun e => h (by
  have h1 := congrArg Int32.toInt e
  rwa [bc_i_t ⟨by omega, by omega⟩, bc_i_t ⟨by omega, by omega⟩] at h1)
theorem sj_P2 {D : va_G} {cl : List vw_C} {x y : Nat × va_E} {r : va_W} {H : Heap} (h : va_P D cl (x :: y :: r) H) : va_P D cl [x, y] H := fun k q hk => by
  match k, hk with
  | 0, hk => exact h 0 q hk
  | 1, hk => exact h 1 q hk
  | k + 2, hk => cases hk
theorem sj_lt {x y : Int} (hx : -1000 ≤ x ∧ x ≤ 1000 := by omega) (hy : -1000 ≤ y ∧ y ≤ 1000 := by omega) (h : x < y) : Int32.ofInt x < Int32.ofInt y := sj_gt hy hx h
theorem sj_i2c9 : ∀ d : Fin 128, (Int32.ofInt ((d.val : Nat) : Int) &&& 255) = Int32.ofInt ((d.val : Nat) : Int) ∧ ((Int32.ofInt ((d.val : Nat) : Int)).toUInt32 % 65536).toInt32 = Int32.ofInt ((d.val : Nat) : Int) := by decide +kernel
theorem sj_i2c {y : Int} (h0 : 0 ≤ y) (h1 : y < 128) : (Int32.ofInt y &&& 255) = Int32.ofInt y ∧ ((Int32.ofInt y).toUInt32 % 65536).toInt32 = Int32.ofInt y := by
  have h := sj_i2c9 ⟨y.toNat, by omega⟩
  rw [show (((⟨y.toNat, by omega⟩ : Fin 128).val : Nat) : Int) = y from Int.toNat_of_nonneg h0] at h
  exact h
theorem sj_D2 {Z : Nat → Prop} {x y : Nat} {e e' d d' : va_E} (h : va_D Z [(x, e), (y, d)]) : va_D Z [(x, e'), (y, d')] := by
  have key : ∀ (i : Nat) (p : Nat × va_E), ([(x, e'), (y, d')] : va_W)[i]? = some p → ∃ q : Nat × va_E, ([(x, e), (y, d)] : va_W)[i]? = some q ∧ q.1 = p.1 := by
    intro i p hp
    match i, hp with
    | 0, hp => exact ⟨_, rfl, by cases hp; rfl⟩
    | 1, hp => exact ⟨_, rfl, by cases hp; rfl⟩
    | i + 2, hp => cases hp
  refine ⟨fun i j p q hi hj e1 => ?_, fun k q hk => ?_⟩
  · obtain ⟨p2, h1, e2⟩ := key i p hi
    obtain ⟨q2, h3, e3⟩ := key j q hj
    exact h.1 i j p2 q2 h1 h3 (by rw [e2, e3]; exact e1)
  · obtain ⟨q2, h1, e2⟩ := key k q hk
    rw [← e2]
    exact h.2 k q2 h1
theorem sj_le0 {x : Int} (h1 : -1000 ≤ x) (h0 : x ≤ 0) : Int32.ofInt x ≤ 0 := by
  rw [Int32.le_iff_toInt_le, bc_i_t ⟨by omega, by omega⟩]
  exact h0
abbrev sj_y_coder : MethodName := ⟨"java/lang/String", "coder", "()B"⟩
abbrev sj_c_coder : ByteArray := prog_31_method_152_code
theorem sj_w_coder : Cond.code sj_y_coder sj_c_coder 1 (some .byte) ∈ bc_W := (bc_mem_W (bc_tk4 (List.mem_of_getElem? (i := 82) rfl)) rfl)
theorem sj_d_coder_0 : decode sj_c_coder 0 = .ok (.getstatic 38, 3) := by decide +kernel
theorem sj_d_coder_3 : decode sj_c_coder 3 = .ok (.ifCond .eq 10, 3) := by decide +kernel
theorem sj_d_coder_6 : decode sj_c_coder 6 = .ok (.aload_n 0, 1) := by decide +kernel
theorem sj_d_coder_7 : decode sj_c_coder 7 = .ok (.getfield 15, 3) := by decide +kernel
theorem sj_d_coder_10 : decode sj_c_coder 10 = .ok (.goto (4), 3) := by decide +kernel
theorem sj_d_coder_14 : decode sj_c_coder 14 = .ok (.ireturn, 1) := by decide +kernel
theorem sj_coder {l : Launch} {θ : sj_w} {ss : List sj_s} {H : Heap} {q : sj_s} {ws : va_W} (hq : q ∈ ss) : sj_M l θ ss sj_y_coder sj_c_coder 1 (some .byte) 0 0 0 [.ref q.1] ws H (fun r K => r = some (.int 0) ∧ K = H) := by
  refine sj_ofW (by decide +kernel) (Nat.le_of_ble_eq_true rfl) (fun p e R s m args below meth c ls F hH hP hl => ?_)
  obtain ⟨hx, hb, hml, hts, hown, hlocks, hI, hRf, hRl, hRc, hRs, hr, hnm⟩ := F
  have hl : lv_has ls 1 [(0, .ref q.1)] := hl
  have hS : va_S θ.2.2.2.2 s.heap s.heap [] := va_S.rf
  obtain ⟨kO, kC, kV, kT, kn, kf⟩ := hI.2.2.2.2.2.2 q hq
  refine va_gets hx hb hI.2.1.1 hS hown (hts (.fieldLink "java/lang/String" 38 "java/lang/String" "COMPACT_STRINGS" "Z") (bc_wat_ok (pos := 846) (by decide +kernel))) (fun _ h => h) sj_d_coder_0 ?_
  refine lv_if_eq (tgt := 13) hx hb sj_d_coder_3 (by decide) (fun h => absurd h (by decide)) (fun _ => ?_)
  refine lv_aload_n hx hb sj_d_coder_6 rfl (lv_at hl 0 rfl) ?_
  refine vk_getf hx hb kC hS hown (hts (.fieldLink "java/lang/String" 15 "java/lang/String" "coder" "B") (bc_wat_ok (pos := 1401) (by decide +kernel))) (fun _ h => h) sj_d_coder_7 ?_
  refine lv_goto (tgt := 14) hx hb sj_d_coder_10 (by decide) ?_
  refine W.widen (k := 0) (n := 0) (Nat.le_of_ble_eq_true rfl) (Nat.le_of_ble_eq_true rfl) ?_
  exact bc_iret hx hb hr (by decide) (fun t ht hW => ⟨⟨_, rfl, by rw [ht]; exact ⟨rfl, hH⟩⟩, hS.F ht⟩) hS.2.2 sj_d_coder_14 hlocks
abbrev sj_y_tlen : MethodName := ⟨"java/lang/String", "length", "()I"⟩
abbrev sj_c_tlen : ByteArray := prog_31_method_54_code
theorem sj_w_tlen : Cond.code sj_y_tlen sj_c_tlen 1 (some .int) ∈ bc_W := (bc_mem_W (bc_tk4 (List.mem_of_getElem? (i := 78) rfl)) rfl)
theorem sj_d_tlen_0 : decode sj_c_tlen 0 = .ok (.aload_n 0, 1) := by decide +kernel
theorem sj_d_tlen_1 : decode sj_c_tlen 1 = .ok (.getfield 9, 3) := by decide +kernel
theorem sj_d_tlen_4 : decode sj_c_tlen 4 = .ok (.arraylength, 1) := by decide +kernel
theorem sj_d_tlen_5 : decode sj_c_tlen 5 = .ok (.aload_n 0, 1) := by decide +kernel
theorem sj_d_tlen_6 : decode sj_c_tlen 6 = .ok (.invokevirtual 335, 3) := by decide +kernel
theorem sj_d_tlen_9 : decode sj_c_tlen 9 = .ok (.ishr, 1) := by decide +kernel
theorem sj_d_tlen_10 : decode sj_c_tlen 10 = .ok (.ireturn, 1) := by decide +kernel
theorem sj_tlen {l : Launch} {θ : sj_w} {ss : List sj_s} {H : Heap} {q : sj_s} {ws : va_W} (hq : q ∈ ss) : sj_M l θ ss sj_y_tlen sj_c_tlen 1 (some .int) 1 0 0 [.ref q.1] ws H (fun r K => r = some (.int (Int32.ofInt (q.2.2.1 : Int))) ∧ K = H) := by
  refine sj_ofW (by decide +kernel) (Nat.le_of_ble_eq_true rfl) (fun p e R s m args below meth c ls F hH hP hl => ?_)
  obtain ⟨hx, hb, hml, hts, hown, hlocks, hI, hRf, hRl, hRc, hRs, hr, hnm⟩ := F
  have hl : lv_has ls 1 [(0, .ref q.1)] := hl
  have hS : va_S θ.2.2.2.2 s.heap s.heap [] := va_S.rf
  obtain ⟨kO, kC, kV, kT, kn, kf⟩ := hI.2.2.2.2.2.2 q hq
  refine lv_aload_n hx hb sj_d_tlen_0 rfl (lv_at hl 0 rfl) ?_
  refine vk_getf hx hb kV hS hown (hts (.fieldLink "java/lang/String" 9 "java/lang/String" "value" "[B") (bc_wat_ok (pos := 1400) (by decide +kernel))) (fun _ h => h) sj_d_tlen_1 ?_
  refine va_tlen (v := Int32.ofInt (q.2.2.1 : Int)) hx hb kT hS Int32.ofInt_eq_ofNat.symm sj_d_tlen_4 ?_
  refine lv_aload_n hx hb sj_d_tlen_5 rfl (lv_at hl 0 rfl) ?_
  refine sj_cV (C := "java/lang/String") (n := 0) (As := []) (rest := [.int (Int32.ofInt (q.2.2.1 : Int))]) hx hb (hml.trans hl.1.symm) hown hts hI hS hP (fun _ h => h) (sj_coder hq) sj_w_coder (bc_wat_ok (pos := 60) (by decide +kernel)) (bc_wat_ok (pos := 842) (by decide +kernel)) (bc_wat_ok (pos := 843) (by decide +kernel)) (hts _ (bc_wat_ok (pos := 844) (by decide +kernel))) (by obtain ⟨cell, h1, h2, h3, -⟩ := kO.kept hS.2.1; exact ⟨cell, h1, h2, h3⟩) ⟨by decide +kernel, by decide +kernel, by decide +kernel⟩ ⟨by rw [hRf]; exact Nat.le_of_ble_eq_true rfl, by rw [hRl]; exact Nat.le_of_ble_eq_true rfl⟩ ⟨by rw [hRc]; exact Nat.le_of_ble_eq_true rfl, by rw [hRs]; exact Nat.le_of_ble_eq_true rfl⟩ rfl rfl (Nat.le_of_ble_eq_true rfl) sj_d_tlen_6 (fun r H2 locs2 hp hk hz hS => ?_)
  obtain ⟨rfl, rfl⟩ := hp
  refine lv_ishr hx hb sj_d_tlen_9 ?_
  rw [sj_shr]
  refine W.widen (k := 0) (n := 0) (Nat.le_of_ble_eq_true rfl) (Nat.le_of_ble_eq_true rfl) ?_
  exact bc_iret hx hb hr rfl (fun t ht hW => ⟨⟨_, rfl, by rw [ht]; exact ⟨rfl, hH⟩⟩, hS.F ht⟩) hS.2.2 sj_d_tlen_10 hlocks
abbrev sj_y_lat : MethodName := ⟨"java/lang/AbstractStringBuilder", "isLatin1", "()Z"⟩
abbrev sj_c_lat : ByteArray := prog_15_method_68_code
theorem sj_w_lat : Cond.code sj_y_lat sj_c_lat 1 (some .boolean) ∈ bc_W := (bc_mem_W (bc_tk6 (List.mem_of_getElem? (i := 16) rfl)) rfl)
theorem sj_d_lat_0 : decode sj_c_lat 0 = .ok (.getstatic 18, 3) := by decide +kernel
theorem sj_d_lat_3 : decode sj_c_lat 3 = .ok (.ifCond .eq 14, 3) := by decide +kernel
theorem sj_d_lat_6 : decode sj_c_lat 6 = .ok (.aload_n 0, 1) := by decide +kernel
theorem sj_d_lat_7 : decode sj_c_lat 7 = .ok (.getfield 22, 3) := by decide +kernel
theorem sj_d_lat_10 : decode sj_c_lat 10 = .ok (.ifCond .ne 7, 3) := by decide +kernel
theorem sj_d_lat_13 : decode sj_c_lat 13 = .ok (.iconst 1, 1) := by decide +kernel
theorem sj_d_lat_14 : decode sj_c_lat 14 = .ok (.goto (4), 3) := by decide +kernel
theorem sj_d_lat_18 : decode sj_c_lat 18 = .ok (.ireturn, 1) := by decide +kernel
theorem sj_lat {l : Launch} {θ : sj_w} {ss : List sj_s} {H : Heap} {b da n : Nat} {ml : Int32} {f : Nat → Int32} : sj_M l θ ss sj_y_lat sj_c_lat 1 (some .boolean) 0 0 0 [.ref b] [(b, .inr (0, [.ref da, .int 0, .int ml, .int (Int32.ofInt (n : Int))])), (da, .inl (θ.2.1, 16, .inl f))] H (fun r K => r = some (.int 1) ∧ K = H) := by
  refine sj_ofW (by decide +kernel) (Nat.le_of_ble_eq_true rfl) (fun p e R s m args below meth c ls F hH hP hl => ?_)
  obtain ⟨hx, hb, hml, hts, hown, hlocks, hI, hRf, hRl, hRc, hRs, hr, hnm⟩ := F
  have hl : lv_has ls 1 [(0, .ref b)] := hl
  have hS : va_S θ.2.2.2.2 s.heap s.heap [] := va_S.rf
  refine va_gets hx hb hI.2.1.1 hS hown (hts (.fieldLink "java/lang/AbstractStringBuilder" 18 "java/lang/String" "COMPACT_STRINGS" "Z") (bc_wat_ok (pos := 1195) (by decide +kernel))) (fun _ h => h) sj_d_lat_0 ?_
  refine lv_if_eq (tgt := 17) hx hb sj_d_lat_3 (by decide) (fun h => absurd h (by decide)) (fun _ => ?_)
  refine lv_aload_n hx hb sj_d_lat_6 rfl (lv_at hl 0 rfl) ?_
  refine va_get (D := θ.1) (cl := sj_cl) (ws := [(b, .inr (0, [.ref da, .int 0, .int ml, .int (Int32.ofInt (n : Int))])), (da, .inl (θ.2.1, 16, .inl f))]) (tys := [(θ.2.1, .byte)]) (C := "java/lang/StringBuilder") (T := sj_T0) (N := 4) (ci := 0) hx hb hts sj_w0 hown hI.1 hP 0 rfl rfl 1 (by decide) (hts (.fieldLink "java/lang/AbstractStringBuilder" 22 "java/lang/AbstractStringBuilder" "coder" "B") (bc_wat_ok (pos := 1204) (by decide +kernel))) (fun _ h9 => h9) rfl sj_d_lat_7 ?_
  refine lv_if_ne (tgt := 17) hx hb sj_d_lat_10 (by decide) (fun h => absurd h (by decide)) (fun _ => ?_)
  refine lv_iconst (v := 1) hx hb sj_d_lat_13 (by decide) ?_
  refine lv_goto (tgt := 18) hx hb sj_d_lat_14 (by decide) ?_
  refine W.widen (k := 0) (n := 0) (Nat.le_of_ble_eq_true rfl) (Nat.le_of_ble_eq_true rfl) ?_
  exact bc_iret hx hb hr (by decide) (fun t ht hW => ⟨⟨_, rfl, by rw [ht]; exact ⟨rfl, hH⟩⟩, hS.F ht⟩) hS.2.2 sj_d_lat_18 hlocks
abbrev sj_y_val : MethodName := ⟨"java/lang/AbstractStringBuilder", "getValue", "()[B"⟩
abbrev sj_c_val : ByteArray := prog_15_method_64_code
theorem sj_w_val : Cond.code sj_y_val sj_c_val 1 (some (.array .byte)) ∈ bc_W := (bc_mem_W (bc_tk6 (List.mem_of_getElem? (i := 120) rfl)) rfl)
theorem sj_d_val_0 : decode sj_c_val 0 = .ok (.aload_n 0, 1) := by decide +kernel
theorem sj_d_val_1 : decode sj_c_val 1 = .ok (.getfield 15, 3) := by decide +kernel
theorem sj_d_val_4 : decode sj_c_val 4 = .ok (.areturn, 1) := by decide +kernel
theorem sj_val {l : Launch} {θ : sj_w} {ss : List sj_s} {H : Heap} {b da n : Nat} {ml : Int32} {f : Nat → Int32} : sj_M l θ ss sj_y_val sj_c_val 1 (some (.array .byte)) 0 0 0 [.ref b] [(b, .inr (0, [.ref da, .int 0, .int ml, .int (Int32.ofInt (n : Int))])), (da, .inl (θ.2.1, 16, .inl f))] H (fun r K => r = some (.ref da) ∧ K = H) := by
  refine sj_ofW (by decide +kernel) (Nat.le_of_ble_eq_true rfl) (fun p e R s m args below meth c ls F hH hP hl => ?_)
  obtain ⟨hx, hb, hml, hts, hown, hlocks, hI, hRf, hRl, hRc, hRs, hr, hnm⟩ := F
  have hl : lv_has ls 1 [(0, .ref b)] := hl
  have hS : va_S θ.2.2.2.2 s.heap s.heap [] := va_S.rf
  refine lv_aload_n hx hb sj_d_val_0 rfl (lv_at hl 0 rfl) ?_
  refine va_get (D := θ.1) (cl := sj_cl) (ws := [(b, .inr (0, [.ref da, .int 0, .int ml, .int (Int32.ofInt (n : Int))])), (da, .inl (θ.2.1, 16, .inl f))]) (tys := [(θ.2.1, .byte)]) (C := "java/lang/StringBuilder") (T := sj_T0) (N := 4) (ci := 0) hx hb hts sj_w0 hown hI.1 hP 0 rfl rfl 0 (by decide) (hts (.fieldLink "java/lang/AbstractStringBuilder" 15 "java/lang/AbstractStringBuilder" "value" "[B") (bc_wat_ok (pos := 1203) (by decide +kernel))) (fun _ h9 => h9) rfl sj_d_val_1 ?_
  refine W.widen (k := 0) (n := 0) (Nat.le_of_ble_eq_true rfl) (Nat.le_of_ble_eq_true rfl) ?_
  exact W.aret hx hb hr (Or.inr ⟨_, rfl⟩) (Or.inr ⟨_, rfl⟩) (fun t ht hW => ⟨⟨_, rfl, by rw [ht]; exact ⟨rfl, hH⟩⟩, hS.F ht⟩) hS.2.2 sj_d_val_4
abbrev sj_y_lena : MethodName := ⟨"java/lang/AbstractStringBuilder", "length", "()I"⟩
abbrev sj_c_lena : ByteArray := prog_15_method_6_code
theorem sj_w_lena : Cond.code sj_y_lena sj_c_lena 1 (some .int) ∈ bc_W := (bc_mem_W (bc_tk6 (List.mem_of_getElem? (i := 128) rfl)) rfl)
theorem sj_d_lena_0 : decode sj_c_lena 0 = .ok (.aload_n 0, 1) := by decide +kernel
theorem sj_d_lena_1 : decode sj_c_lena 1 = .ok (.getfield 79, 3) := by decide +kernel
theorem sj_d_lena_4 : decode sj_c_lena 4 = .ok (.ireturn, 1) := by decide +kernel
theorem sj_lena {l : Launch} {θ : sj_w} {ss : List sj_s} {H : Heap} {b da n : Nat} {ml : Int32} {f : Nat → Int32} : sj_M l θ ss sj_y_lena sj_c_lena 1 (some .int) 0 0 0 [.ref b] [(b, .inr (0, [.ref da, .int 0, .int ml, .int (Int32.ofInt (n : Int))])), (da, .inl (θ.2.1, 16, .inl f))] H (fun r K => r = some (.int (Int32.ofInt (n : Int))) ∧ K = H) := by
  refine sj_ofW (by decide +kernel) (Nat.le_of_ble_eq_true rfl) (fun p e R s m args below meth c ls F hH hP hl => ?_)
  obtain ⟨hx, hb, hml, hts, hown, hlocks, hI, hRf, hRl, hRc, hRs, hr, hnm⟩ := F
  have hl : lv_has ls 1 [(0, .ref b)] := hl
  have hS : va_S θ.2.2.2.2 s.heap s.heap [] := va_S.rf
  refine lv_aload_n hx hb sj_d_lena_0 rfl (lv_at hl 0 rfl) ?_
  refine va_get (D := θ.1) (cl := sj_cl) (ws := [(b, .inr (0, [.ref da, .int 0, .int ml, .int (Int32.ofInt (n : Int))])), (da, .inl (θ.2.1, 16, .inl f))]) (tys := [(θ.2.1, .byte)]) (C := "java/lang/StringBuilder") (T := sj_T0) (N := 4) (ci := 0) hx hb hts sj_w0 hown hI.1 hP 0 rfl rfl 3 (by decide) (hts (.fieldLink "java/lang/AbstractStringBuilder" 79 "java/lang/AbstractStringBuilder" "count" "I") (bc_wat_ok (pos := 1206) (by decide +kernel))) (fun _ h9 => h9) rfl sj_d_lena_1 ?_
  refine W.widen (k := 0) (n := 0) (Nat.le_of_ble_eq_true rfl) (Nat.le_of_ble_eq_true rfl) ?_
  exact bc_iret hx hb hr rfl (fun t ht hW => ⟨⟨_, rfl, by rw [ht]; exact ⟨rfl, hH⟩⟩, hS.F ht⟩) hS.2.2 sj_d_lena_4 hlocks
abbrev sj_y_lenb : MethodName := ⟨"java/lang/StringBuilder", "length", "()I"⟩
abbrev sj_c_lenb : ByteArray := prog_32_method_93_code
theorem sj_w_lenb : Cond.code sj_y_lenb sj_c_lenb 1 (some .int) ∈ bc_W := (bc_mem_W (bc_tk6 (List.mem_of_getElem? (i := 126) rfl)) rfl)
theorem sj_d_lenb_0 : decode sj_c_lenb 0 = .ok (.aload_n 0, 1) := by decide +kernel
theorem sj_d_lenb_1 : decode sj_c_lenb 1 = .ok (.invokespecial 343, 3) := by decide +kernel
theorem sj_d_lenb_4 : decode sj_c_lenb 4 = .ok (.ireturn, 1) := by decide +kernel
theorem sj_lenb {l : Launch} {θ : sj_w} {ss : List sj_s} {H : Heap} {b da n : Nat} {ml : Int32} {f : Nat → Int32} : sj_M l θ ss sj_y_lenb sj_c_lenb 1 (some .int) 1 0 0 [.ref b] [(b, .inr (0, [.ref da, .int 0, .int ml, .int (Int32.ofInt (n : Int))])), (da, .inl (θ.2.1, 16, .inl f))] H (fun r K => r = some (.int (Int32.ofInt (n : Int))) ∧ K = H) := by
  refine sj_ofW (by decide +kernel) (Nat.le_of_ble_eq_true rfl) (fun p e R s m args below meth c ls F hH hP hl => ?_)
  obtain ⟨hx, hb, hml, hts, hown, hlocks, hI, hRf, hRl, hRc, hRs, hr, hnm⟩ := F
  have hl : lv_has ls 1 [(0, .ref b)] := hl
  have hS : va_S θ.2.2.2.2 s.heap s.heap [] := va_S.rf
  refine lv_aload_n hx hb sj_d_lenb_0 rfl (lv_at hl 0 rfl) ?_
  refine sj_cU (q0 := 0) (n := 0) (As := []) (rest := []) hx hb (hml.trans hl.1.symm) hown hts hI hS hP (fun _ h => h) sj_lena sj_w_lena (bc_wat_ok (pos := 71) (by decide +kernel)) (bc_wat_ok (pos := 1370) (by decide +kernel)) (bc_wat_ok (pos := 1366) (by decide +kernel)) (bc_wat_ok (pos := 1215) (by decide +kernel)) (bc_wat_ok (pos := 1365) (by decide +kernel)) rfl ⟨by decide +kernel, by decide +kernel⟩ ⟨by rw [hRf]; exact Nat.le_of_ble_eq_true rfl, by rw [hRl]; exact Nat.le_of_ble_eq_true rfl⟩ ⟨by rw [hRc]; exact Nat.le_of_ble_eq_true rfl, by rw [hRs]; exact Nat.le_of_ble_eq_true rfl⟩ rfl rfl (Nat.le_of_ble_eq_true rfl) sj_d_lenb_1 (fun r H2 locs2 hp hk hz hS => ?_)
  obtain ⟨rfl, rfl⟩ := hp
  refine W.widen (k := 0) (n := 0) (Nat.le_of_ble_eq_true rfl) (Nat.le_of_ble_eq_true rfl) ?_
  exact bc_iret hx hb hr rfl (fun t ht hW => ⟨⟨_, rfl, by rw [ht]; exact ⟨rfl, hH⟩⟩, hS.F ht⟩) hS.2.2 sj_d_lenb_4 hlocks
abbrev sj_y_ens : MethodName := ⟨"java/lang/AbstractStringBuilder", "ensureCapacityInternal", "(I)V"⟩
abbrev sj_c_ens : ByteArray := prog_15_method_9_code
theorem sj_w_ens : Cond.code sj_y_ens sj_c_ens 3 none ∈ bc_W := (bc_mem_W (bc_tk5 (List.mem_of_getElem? (i := 226) rfl)) rfl)
theorem sj_d_ens_0 : decode sj_c_ens 0 = .ok (.aload_n 0, 1) := by decide +kernel
theorem sj_d_ens_1 : decode sj_c_ens 1 = .ok (.getfield 15, 3) := by decide +kernel
theorem sj_d_ens_4 : decode sj_c_ens 4 = .ok (.arraylength, 1) := by decide +kernel
theorem sj_d_ens_5 : decode sj_c_ens 5 = .ok (.aload_n 0, 1) := by decide +kernel
theorem sj_d_ens_6 : decode sj_c_ens 6 = .ok (.getfield 22, 3) := by decide +kernel
theorem sj_d_ens_9 : decode sj_c_ens 9 = .ok (.ishr, 1) := by decide +kernel
theorem sj_d_ens_10 : decode sj_c_ens 10 = .ok (.istore_n 2, 1) := by decide +kernel
theorem sj_d_ens_11 : decode sj_c_ens 11 = .ok (.iload_n 1, 1) := by decide +kernel
theorem sj_d_ens_12 : decode sj_c_ens 12 = .ok (.iload_n 2, 1) := by decide +kernel
theorem sj_d_ens_13 : decode sj_c_ens 13 = .ok (.isub, 1) := by decide +kernel
theorem sj_d_ens_14 : decode sj_c_ens 14 = .ok (.ifCond .le 24, 3) := by decide +kernel
theorem sj_d_ens_38 : decode sj_c_ens 38 = .ok (.return_, 1) := by decide +kernel
theorem sj_ens {l : Launch} {θ : sj_w} {ss : List sj_s} {H : Heap} {b da n : Nat} {ml : Int32} {f : Nat → Int32} {x : Int} (h0 : 0 ≤ x) (h1 : x ≤ 16) : sj_M l θ ss sj_y_ens sj_c_ens 3 none 0 0 0 [.ref b, .int (Int32.ofInt x)] [(b, .inr (0, [.ref da, .int 0, .int ml, .int (Int32.ofInt (n : Int))])), (da, .inl (θ.2.1, 16, .inl f))] H (fun r K => r = none ∧ K = H) := by
  refine sj_ofW (by decide +kernel) (Nat.le_of_ble_eq_true rfl) (fun p e R s m args below meth c ls F hH hP hl => ?_)
  obtain ⟨hx, hb, hml, hts, hown, hlocks, hI, hRf, hRl, hRc, hRs, hr, hnm⟩ := F
  have hl : lv_has ls 3 [(0, .ref b), (1, .int (Int32.ofInt x))] := hl
  have hS : va_S θ.2.2.2.2 s.heap s.heap [] := va_S.rf
  refine lv_aload_n hx hb sj_d_ens_0 rfl (lv_at hl 0 rfl) ?_
  refine va_get (D := θ.1) (cl := sj_cl) (ws := [(b, .inr (0, [.ref da, .int 0, .int ml, .int (Int32.ofInt (n : Int))])), (da, .inl (θ.2.1, 16, .inl f))]) (tys := [(θ.2.1, .byte)]) (C := "java/lang/StringBuilder") (T := sj_T0) (N := 4) (ci := 0) hx hb hts sj_w0 hown hI.1 hP 0 rfl rfl 0 (by decide) (hts (.fieldLink "java/lang/AbstractStringBuilder" 15 "java/lang/AbstractStringBuilder" "value" "[B") (bc_wat_ok (pos := 1203) (by decide +kernel))) (fun _ h9 => h9) rfl sj_d_ens_1 ?_
  refine va_alen (v := Int32.ofInt 16) hx hb hI.1 hP 1 0 rfl rfl (show Int32.ofNat 16 = Int32.ofInt 16 by decide) sj_d_ens_4 ?_
  refine lv_aload_n hx hb sj_d_ens_5 rfl (lv_at hl 0 rfl) ?_
  refine va_get (D := θ.1) (cl := sj_cl) (ws := [(b, .inr (0, [.ref da, .int 0, .int ml, .int (Int32.ofInt (n : Int))])), (da, .inl (θ.2.1, 16, .inl f))]) (tys := [(θ.2.1, .byte)]) (C := "java/lang/StringBuilder") (T := sj_T0) (N := 4) (ci := 0) hx hb hts sj_w0 hown hI.1 hP 0 rfl rfl 1 (by decide) (hts (.fieldLink "java/lang/AbstractStringBuilder" 22 "java/lang/AbstractStringBuilder" "coder" "B") (bc_wat_ok (pos := 1204) (by decide +kernel))) (fun _ h9 => h9) rfl sj_d_ens_6 ?_
  refine lv_ishr hx hb sj_d_ens_9 ?_
  rw [sj_shr]
  refine lv_istore_n (lv' := [(2, .int (Int32.ofInt 16)), (0, .ref b), (1, .int (Int32.ofInt x))]) hx hb sj_d_ens_10 rfl hl (by decide) rfl (fun ls hl => ?_)
  refine lv_iload_n hx hb sj_d_ens_11 rfl (lv_at hl 2 rfl) ?_
  refine lv_iload_n hx hb sj_d_ens_12 rfl (lv_at hl 0 rfl) ?_
  refine lv_isub hx hb sj_d_ens_13 ?_
  rw [← Int32.ofInt_sub]
  refine lv_if_le (tgt := 38) hx hb sj_d_ens_14 (by decide) (fun _ => ?_) (fun h => absurd (sj_le0 (by omega) (by omega)) h)
  refine W.widen (k := 0) (n := 0) (Nat.le_of_ble_eq_true rfl) (Nat.le_of_ble_eq_true rfl) ?_
  exact W.vret hx hb hr (fun t ht hW => ⟨⟨_, rfl, by rw [ht]; exact ⟨rfl, hH⟩⟩, hS.F ht⟩) hS.2.2 sj_d_ens_38
abbrev sj_y_infl : MethodName := ⟨"java/lang/AbstractStringBuilder", "inflateIfNeededFor", "(Ljava/lang/String;)V"⟩
abbrev sj_c_infl : ByteArray := prog_15_method_71_code
theorem sj_w_infl : Cond.code sj_y_infl sj_c_infl 2 none ∈ bc_W := (bc_mem_W (bc_tk6 (List.mem_of_getElem? (i := 67) rfl)) rfl)
theorem sj_d_infl_0 : decode sj_c_infl 0 = .ok (.getstatic 18, 3) := by decide +kernel
theorem sj_d_infl_3 : decode sj_c_infl 3 = .ok (.ifCond .eq 18, 3) := by decide +kernel
theorem sj_d_infl_6 : decode sj_c_infl 6 = .ok (.aload_n 0, 1) := by decide +kernel
theorem sj_d_infl_7 : decode sj_c_infl 7 = .ok (.getfield 22, 3) := by decide +kernel
theorem sj_d_infl_10 : decode sj_c_infl 10 = .ok (.aload_n 1, 1) := by decide +kernel
theorem sj_d_infl_11 : decode sj_c_infl 11 = .ok (.invokevirtual 40, 3) := by decide +kernel
theorem sj_d_infl_14 : decode sj_c_infl 14 = .ok (.if_icmp .eq 7, 3) := by decide +kernel
theorem sj_d_infl_21 : decode sj_c_infl 21 = .ok (.return_, 1) := by decide +kernel
theorem sj_infl {l : Launch} {θ : sj_w} {ss : List sj_s} {H : Heap} {b da n : Nat} {ml : Int32} {f : Nat → Int32} {q : sj_s} (hq : q ∈ ss) : sj_M l θ ss sj_y_infl sj_c_infl 2 none 1 0 0 [.ref b, .ref q.1] [(b, .inr (0, [.ref da, .int 0, .int ml, .int (Int32.ofInt (n : Int))])), (da, .inl (θ.2.1, 16, .inl f))] H (fun r K => r = none ∧ K = H) := by
  refine sj_ofW (by decide +kernel) (Nat.le_of_ble_eq_true rfl) (fun p e R s m args below meth c ls F hH hP hl => ?_)
  obtain ⟨hx, hb, hml, hts, hown, hlocks, hI, hRf, hRl, hRc, hRs, hr, hnm⟩ := F
  have hl : lv_has ls 2 [(0, .ref b), (1, .ref q.1)] := hl
  have hS : va_S θ.2.2.2.2 s.heap s.heap [] := va_S.rf
  obtain ⟨kO, kC, kV, kT, kn, kf⟩ := hI.2.2.2.2.2.2 q hq
  refine va_gets hx hb hI.2.1.1 hS hown (hts (.fieldLink "java/lang/AbstractStringBuilder" 18 "java/lang/String" "COMPACT_STRINGS" "Z") (bc_wat_ok (pos := 1195) (by decide +kernel))) (fun _ h => h) sj_d_infl_0 ?_
  refine lv_if_eq (tgt := 21) hx hb sj_d_infl_3 (by decide) (fun h => absurd h (by decide)) (fun _ => ?_)
  refine lv_aload_n hx hb sj_d_infl_6 rfl (lv_at hl 0 rfl) ?_
  refine va_get (D := θ.1) (cl := sj_cl) (ws := [(b, .inr (0, [.ref da, .int 0, .int ml, .int (Int32.ofInt (n : Int))])), (da, .inl (θ.2.1, 16, .inl f))]) (tys := [(θ.2.1, .byte)]) (C := "java/lang/StringBuilder") (T := sj_T0) (N := 4) (ci := 0) hx hb hts sj_w0 hown hI.1 hP 0 rfl rfl 1 (by decide) (hts (.fieldLink "java/lang/AbstractStringBuilder" 22 "java/lang/AbstractStringBuilder" "coder" "B") (bc_wat_ok (pos := 1204) (by decide +kernel))) (fun _ h9 => h9) rfl sj_d_infl_7 ?_
  refine lv_aload_n hx hb sj_d_infl_10 rfl (lv_at hl 1 rfl) ?_
  refine sj_cV (C := "java/lang/String") (n := 0) (As := []) (rest := [.int 0]) hx hb (hml.trans hl.1.symm) hown hts hI hS hP (fun _ h => h) (sj_coder hq) sj_w_coder (bc_wat_ok (pos := 60) (by decide +kernel)) (bc_wat_ok (pos := 1311) (by decide +kernel)) (bc_wat_ok (pos := 843) (by decide +kernel)) (hts _ (bc_wat_ok (pos := 844) (by decide +kernel))) (by obtain ⟨cell, h1, h2, h3, -⟩ := kO.kept hS.2.1; exact ⟨cell, h1, h2, h3⟩) ⟨by decide +kernel, by decide +kernel, by decide +kernel⟩ ⟨by rw [hRf]; exact Nat.le_of_ble_eq_true rfl, by rw [hRl]; exact Nat.le_of_ble_eq_true rfl⟩ ⟨by rw [hRc]; exact Nat.le_of_ble_eq_true rfl, by rw [hRs]; exact Nat.le_of_ble_eq_true rfl⟩ rfl rfl (Nat.le_of_ble_eq_true rfl) sj_d_infl_11 (fun r H2 locs2 hp hk hz hS => ?_)
  obtain ⟨rfl, rfl⟩ := hp
  refine lv_icmp_eq (tgt := 21) hx hb sj_d_infl_14 (by decide) (fun _ => ?_) (fun h => absurd rfl h)
  refine W.widen (k := 0) (n := 0) (Nat.le_of_ble_eq_true rfl) (Nat.le_of_ble_eq_true rfl) ?_
  exact W.vret hx hb hr (fun t ht hW => ⟨⟨_, rfl, by rw [ht]; exact ⟨rfl, hH⟩⟩, hS.F ht⟩) hS.2.2 sj_d_infl_21
abbrev sj_y_gby : MethodName := ⟨"java/lang/String", "getBytes", "([BIB)V"⟩
abbrev sj_c_gby : ByteArray := prog_31_method_147_code
theorem sj_w_gby : Cond.code sj_y_gby sj_c_gby 4 none ∈ bc_W := (bc_mem_W (bc_tk6 (List.mem_of_getElem? (i := 91) rfl)) rfl)
theorem sj_d_gby_0 : decode sj_c_gby 0 = .ok (.aload_n 0, 1) := by decide +kernel
theorem sj_d_gby_1 : decode sj_c_gby 1 = .ok (.invokevirtual 335, 3) := by decide +kernel
theorem sj_d_gby_4 : decode sj_c_gby 4 = .ok (.iload_n 3, 1) := by decide +kernel
theorem sj_d_gby_5 : decode sj_c_gby 5 = .ok (.if_icmp .ne 23, 3) := by decide +kernel
theorem sj_d_gby_8 : decode sj_c_gby 8 = .ok (.aload_n 0, 1) := by decide +kernel
theorem sj_d_gby_9 : decode sj_c_gby 9 = .ok (.getfield 9, 3) := by decide +kernel
theorem sj_d_gby_12 : decode sj_c_gby 12 = .ok (.iconst 0, 1) := by decide +kernel
theorem sj_d_gby_13 : decode sj_c_gby 13 = .ok (.aload_n 1, 1) := by decide +kernel
theorem sj_d_gby_14 : decode sj_c_gby 14 = .ok (.iload_n 2, 1) := by decide +kernel
theorem sj_d_gby_15 : decode sj_c_gby 15 = .ok (.iload_n 3, 1) := by decide +kernel
theorem sj_d_gby_16 : decode sj_c_gby 16 = .ok (.ishl, 1) := by decide +kernel
theorem sj_d_gby_17 : decode sj_c_gby 17 = .ok (.aload_n 0, 1) := by decide +kernel
theorem sj_d_gby_18 : decode sj_c_gby 18 = .ok (.getfield 9, 3) := by decide +kernel
theorem sj_d_gby_21 : decode sj_c_gby 21 = .ok (.arraylength, 1) := by decide +kernel
theorem sj_d_gby_22 : decode sj_c_gby 22 = .ok (.invokestatic 212, 3) := by decide +kernel
theorem sj_d_gby_25 : decode sj_c_gby 25 = .ok (.goto (18), 3) := by decide +kernel
theorem sj_d_gby_43 : decode sj_c_gby 43 = .ok (.return_, 1) := by decide +kernel
theorem sj_gby {l : Launch} {θ : sj_w} {ss : List sj_s} {H : Heap} {b da n : Nat} {ml : Int32} {f : Nat → Int32} {q : sj_s} (hq : q ∈ ss) (hD : va_D θ.2.2.2.2 [(b, .inr (0, [.ref da, .int 0, .int ml, .int (Int32.ofInt (n : Int))])), (da, .inl (θ.2.1, 16, .inl f))]) (hn : n + q.2.2.1 ≤ 16) : sj_M l θ ss sj_y_gby sj_c_gby 4 none 1 0 0 [.ref q.1, .ref da, .int (Int32.ofInt (n : Int)), .int 0] [(b, .inr (0, [.ref da, .int 0, .int ml, .int (Int32.ofInt (n : Int))])), (da, .inl (θ.2.1, 16, .inl f))] H (fun r K => r = none ∧ va_P θ.1 sj_cl [(b, .inr (0, [.ref da, .int 0, .int ml, .int (Int32.ofInt (n : Int))])), (da, .inl (θ.2.1, 16, .inl (va_cpy q.2.2.2 f 0 n q.2.2.1)))] K) := by
  refine sj_ofW (by decide +kernel) (Nat.le_of_ble_eq_true rfl) (fun p e R s m args below meth c ls F hH hP hl => ?_)
  obtain ⟨hx, hb, hml, hts, hown, hlocks, hI, hRf, hRl, hRc, hRs, hr, hnm⟩ := F
  have hl : lv_has ls 4 [(0, .ref q.1), (1, .ref da), (2, .int (Int32.ofInt (n : Int))), (3, .int 0)] := hl
  have hS : va_S θ.2.2.2.2 s.heap s.heap [] := va_S.rf
  obtain ⟨kO, kC, kV, kT, kn, kf⟩ := hI.2.2.2.2.2.2 q hq
  refine lv_aload_n hx hb sj_d_gby_0 rfl (lv_at hl 0 rfl) ?_
  refine sj_cV (C := "java/lang/String") (n := 0) (As := []) (rest := []) hx hb (hml.trans hl.1.symm) hown hts hI hS hP (fun _ h => h) (sj_coder hq) sj_w_coder (bc_wat_ok (pos := 60) (by decide +kernel)) (bc_wat_ok (pos := 842) (by decide +kernel)) (bc_wat_ok (pos := 843) (by decide +kernel)) (hts _ (bc_wat_ok (pos := 844) (by decide +kernel))) (by obtain ⟨cell, h1, h2, h3, -⟩ := kO.kept hS.2.1; exact ⟨cell, h1, h2, h3⟩) ⟨by decide +kernel, by decide +kernel, by decide +kernel⟩ ⟨by rw [hRf]; exact Nat.le_of_ble_eq_true rfl, by rw [hRl]; exact Nat.le_of_ble_eq_true rfl⟩ ⟨by rw [hRc]; exact Nat.le_of_ble_eq_true rfl, by rw [hRs]; exact Nat.le_of_ble_eq_true rfl⟩ rfl rfl (Nat.le_of_ble_eq_true rfl) sj_d_gby_1 (fun r H2 locs2 hp hk hz hS => ?_)
  obtain ⟨rfl, rfl⟩ := hp
  refine lv_iload_n hx hb sj_d_gby_4 rfl (lv_at hl 3 rfl) ?_
  refine lv_icmp_ne (tgt := 28) hx hb sj_d_gby_5 (by decide) (fun h => absurd h (by decide)) (fun _ => ?_)
  refine lv_aload_n hx hb sj_d_gby_8 rfl (lv_at hl 0 rfl) ?_
  refine vk_getf hx hb kV hS hown (hts (.fieldLink "java/lang/String" 9 "java/lang/String" "value" "[B") (bc_wat_ok (pos := 1400) (by decide +kernel))) (fun _ h => h) sj_d_gby_9 ?_
  refine lv_iconst (v := 0) hx hb sj_d_gby_12 (by decide) ?_
  refine lv_aload_n hx hb sj_d_gby_13 rfl (lv_at hl 1 rfl) ?_
  refine lv_iload_n hx hb sj_d_gby_14 rfl (lv_at hl 2 rfl) ?_
  refine lv_iload_n hx hb sj_d_gby_15 rfl (lv_at hl 3 rfl) ?_
  refine lv_ishl hx hb sj_d_gby_16 ?_
  rw [sj_shl]
  refine lv_aload_n hx hb sj_d_gby_17 rfl (lv_at hl 0 rfl) ?_
  refine vk_getf hx hb kV hS hown (hts (.fieldLink "java/lang/String" 9 "java/lang/String" "value" "[B") (bc_wat_ok (pos := 1400) (by decide +kernel))) (fun _ h => h) sj_d_gby_18 ?_
  refine va_tlen (v := Int32.ofInt (q.2.2.1 : Int)) hx hb kT hS Int32.ofInt_eq_ofNat.symm sj_d_gby_21 ?_
  obtain ⟨a1, a2⟩ := bc_nng (x := (n : Int)) (by omega) (by omega)
  obtain ⟨c1, c2⟩ := bc_nng (x := (q.2.2.1 : Int)) (by omega) (by omega)
  refine vk_copyt hx hb (hml.trans hl.1.symm) hown (hts _ (bc_wat_ok (pos := 1335) (by decide +kernel))) (hts _ (bc_wat_ok (pos := 615) (by decide +kernel))) (hts _ (bc_wat_ok (pos := 614) (by decide +kernel))) (hts _ (bc_wat_ok (pos := 66) (by decide +kernel))) hI.1 hP hD hS kT 1 0 rfl rfl (by decide) a1 c1 (by rw [c2]; show 0 + _ ≤ _; omega) (by rw [a2, c2]; omega) (fun i hi => by rw [c2] at hi; exact kf _ (by show 0 + i < _; omega)) (by rw [hRf]; exact Nat.le_refl _) (by rw [hRl]; exact Nat.le_of_ble_eq_true rfl) sj_d_gby_22 (fun H2 locs2 hP hD hS => ?_)
  have hP : va_P θ.1 sj_cl [(b, .inr (0, [.ref da, .int 0, .int ml, .int (Int32.ofInt (n : Int))])), (da, .inl (θ.2.1, 16, .inl (va_cpy q.2.2.2 f 0 n q.2.2.1)))] H2 := by
    have h9 := hP
    rw [a2, c2, show ((0 : Int32).toNatClampNeg) = 0 from by decide, show ((n : Int)).toNat = n from rfl, show ((q.2.2.1 : Int)).toNat = q.2.2.1 from rfl] at h9
    exact h9
  refine lv_goto (tgt := 43) hx hb sj_d_gby_25 (by decide) ?_
  refine W.widen (k := 0) (n := 0) (Nat.le_of_ble_eq_true rfl) (Nat.le_of_ble_eq_true rfl) ?_
  exact W.vret hx hb hr (fun t ht hW => ⟨⟨_, rfl, by rw [ht]; exact ⟨rfl, hP⟩⟩, hS.F ht⟩) hS.2.2 sj_d_gby_43
abbrev sj_y_put : MethodName := ⟨"java/lang/AbstractStringBuilder", "putStringAt", "(ILjava/lang/String;)V"⟩
abbrev sj_c_put : ByteArray := prog_15_method_73_code
theorem sj_w_put : Cond.code sj_y_put sj_c_put 3 none ∈ bc_W := (bc_mem_W (bc_tk6 (List.mem_of_getElem? (i := 63) rfl)) rfl)
theorem sj_d_put_0 : decode sj_c_put 0 = .ok (.aload_n 0, 1) := by decide +kernel
theorem sj_d_put_1 : decode sj_c_put 1 = .ok (.aload_n 2, 1) := by decide +kernel
theorem sj_d_put_2 : decode sj_c_put 2 = .ok (.invokevirtual 397, 3) := by decide +kernel
theorem sj_d_put_5 : decode sj_c_put 5 = .ok (.aload_n 2, 1) := by decide +kernel
theorem sj_d_put_6 : decode sj_c_put 6 = .ok (.aload_n 0, 1) := by decide +kernel
theorem sj_d_put_7 : decode sj_c_put 7 = .ok (.getfield 15, 3) := by decide +kernel
theorem sj_d_put_10 : decode sj_c_put 10 = .ok (.iload_n 1, 1) := by decide +kernel
theorem sj_d_put_11 : decode sj_c_put 11 = .ok (.aload_n 0, 1) := by decide +kernel
theorem sj_d_put_12 : decode sj_c_put 12 = .ok (.getfield 22, 3) := by decide +kernel
theorem sj_d_put_15 : decode sj_c_put 15 = .ok (.invokevirtual 399, 3) := by decide +kernel
theorem sj_d_put_18 : decode sj_c_put 18 = .ok (.return_, 1) := by decide +kernel
theorem sj_put {l : Launch} {θ : sj_w} {ss : List sj_s} {H : Heap} {b da n : Nat} {ml : Int32} {f : Nat → Int32} {q : sj_s} (hq : q ∈ ss) (hD : va_D θ.2.2.2.2 [(b, .inr (0, [.ref da, .int 0, .int ml, .int (Int32.ofInt (n : Int))])), (da, .inl (θ.2.1, 16, .inl f))]) (hn : n + q.2.2.1 ≤ 16) : sj_M l θ ss sj_y_put sj_c_put 3 none 2 0 0 [.ref b, .int (Int32.ofInt (n : Int)), .ref q.1] [(b, .inr (0, [.ref da, .int 0, .int ml, .int (Int32.ofInt (n : Int))])), (da, .inl (θ.2.1, 16, .inl f))] H (fun r K => r = none ∧ va_P θ.1 sj_cl [(b, .inr (0, [.ref da, .int 0, .int ml, .int (Int32.ofInt (n : Int))])), (da, .inl (θ.2.1, 16, .inl (va_cpy q.2.2.2 f 0 n q.2.2.1)))] K) := by
  refine sj_ofW (by decide +kernel) (Nat.le_of_ble_eq_true rfl) (fun p e R s m args below meth c ls F hH hP hl => ?_)
  obtain ⟨hx, hb, hml, hts, hown, hlocks, hI, hRf, hRl, hRc, hRs, hr, hnm⟩ := F
  have hl : lv_has ls 3 [(0, .ref b), (1, .int (Int32.ofInt (n : Int))), (2, .ref q.1)] := hl
  have hS : va_S θ.2.2.2.2 s.heap s.heap [] := va_S.rf
  obtain ⟨kO, kC, kV, kT, kn, kf⟩ := hI.2.2.2.2.2.2 q hq
  refine lv_aload_n hx hb sj_d_put_0 rfl (lv_at hl 0 rfl) ?_
  refine lv_aload_n hx hb sj_d_put_1 rfl (lv_at hl 2 rfl) ?_
  refine sj_cV (C := "java/lang/StringBuilder") (n := 1) (As := [.ref q.1]) (rest := []) hx hb (hml.trans hl.1.symm) hown hts hI hS hP (fun _ h => h) (sj_infl hq) sj_w_infl (bc_wat_ok (pos := 71) (by decide +kernel)) (bc_wat_ok (pos := 1307) (by decide +kernel)) (bc_wat_ok (pos := 1309) (by decide +kernel)) (va_Nw.use rfl (hI.2.2.2.2.2.1 _ (List.mem_of_getElem? (i := 1) rfl))) (va_recv (q := ("java/lang/StringBuilder", sj_T0, 4)) (q0 := 0) hI.1 hP rfl rfl) ⟨by decide +kernel, by decide +kernel, by decide +kernel⟩ ⟨by rw [hRf]; exact Nat.le_of_ble_eq_true rfl, by rw [hRl]; exact Nat.le_of_ble_eq_true rfl⟩ ⟨by rw [hRc]; exact Nat.le_of_ble_eq_true rfl, by rw [hRs]; exact Nat.le_of_ble_eq_true rfl⟩ rfl rfl (Nat.le_of_ble_eq_true rfl) sj_d_put_2 (fun r H2 locs2 hp hk hz hS => ?_)
  obtain ⟨rfl, rfl⟩ := hp
  refine lv_aload_n hx hb sj_d_put_5 rfl (lv_at hl 2 rfl) ?_
  refine lv_aload_n hx hb sj_d_put_6 rfl (lv_at hl 0 rfl) ?_
  refine va_get (D := θ.1) (cl := sj_cl) (ws := [(b, .inr (0, [.ref da, .int 0, .int ml, .int (Int32.ofInt (n : Int))])), (da, .inl (θ.2.1, 16, .inl f))]) (tys := [(θ.2.1, .byte)]) (C := "java/lang/StringBuilder") (T := sj_T0) (N := 4) (ci := 0) hx hb hts sj_w0 hown hI.1 hP 0 rfl rfl 0 (by decide) (hts (.fieldLink "java/lang/AbstractStringBuilder" 15 "java/lang/AbstractStringBuilder" "value" "[B") (bc_wat_ok (pos := 1203) (by decide +kernel))) (fun _ h9 => h9) rfl sj_d_put_7 ?_
  refine lv_iload_n hx hb sj_d_put_10 rfl (lv_at hl 1 rfl) ?_
  refine lv_aload_n hx hb sj_d_put_11 rfl (lv_at hl 0 rfl) ?_
  refine va_get (D := θ.1) (cl := sj_cl) (ws := [(b, .inr (0, [.ref da, .int 0, .int ml, .int (Int32.ofInt (n : Int))])), (da, .inl (θ.2.1, 16, .inl f))]) (tys := [(θ.2.1, .byte)]) (C := "java/lang/StringBuilder") (T := sj_T0) (N := 4) (ci := 0) hx hb hts sj_w0 hown hI.1 hP 0 rfl rfl 1 (by decide) (hts (.fieldLink "java/lang/AbstractStringBuilder" 22 "java/lang/AbstractStringBuilder" "coder" "B") (bc_wat_ok (pos := 1204) (by decide +kernel))) (fun _ h9 => h9) rfl sj_d_put_12 ?_
  refine sj_cV (C := "java/lang/String") (n := 3) (As := [.ref da, .int (Int32.ofInt (n : Int)), .int 0]) (rest := []) hx hb (hml.trans hl.1.symm) hown hts hI hS hP (fun _ h => h) (sj_gby (b := b) (ml := ml) hq hD hn) sj_w_gby (bc_wat_ok (pos := 60) (by decide +kernel)) (bc_wat_ok (pos := 1331) (by decide +kernel)) (bc_wat_ok (pos := 1332) (by decide +kernel)) (hts _ (bc_wat_ok (pos := 1333) (by decide +kernel))) (by obtain ⟨cell, h1, h2, h3, -⟩ := kO.kept hS.2.1; exact ⟨cell, h1, h2, h3⟩) ⟨by decide +kernel, by decide +kernel, by decide +kernel⟩ ⟨by rw [hRf]; exact Nat.le_of_ble_eq_true rfl, by rw [hRl]; exact Nat.le_of_ble_eq_true rfl⟩ ⟨by rw [hRc]; exact Nat.le_of_ble_eq_true rfl, by rw [hRs]; exact Nat.le_of_ble_eq_true rfl⟩ rfl rfl (Nat.le_of_ble_eq_true rfl) sj_d_put_15 (fun r H2 locs2 hp hk hz hS => ?_)
  obtain ⟨rfl, hP⟩ := hp
  refine W.widen (k := 0) (n := 0) (Nat.le_of_ble_eq_true rfl) (Nat.le_of_ble_eq_true rfl) ?_
  exact W.vret hx hb hr (fun t ht hW => ⟨⟨_, rfl, by rw [ht]; exact ⟨rfl, hP⟩⟩, hS.F ht⟩) hS.2.2 sj_d_put_18
abbrev sj_y_apa : MethodName := ⟨"java/lang/AbstractStringBuilder", "append", "(Ljava/lang/String;)Ljava/lang/AbstractStringBuilder;"⟩
abbrev sj_c_apa : ByteArray := prog_15_method_22_code
theorem sj_w_apa : Cond.code sj_y_apa sj_c_apa 3 (some (.object "java/lang/AbstractStringBuilder")) ∈ bc_W := (bc_mem_W (bc_tk6 (List.mem_of_getElem? (i := 51) rfl)) rfl)
theorem sj_d_apa_0 : decode sj_c_apa 0 = .ok (.aload_n 1, 1) := by decide +kernel
theorem sj_d_apa_1 : decode sj_c_apa 1 = .ok (.ifnonnull 8, 3) := by decide +kernel
theorem sj_d_apa_9 : decode sj_c_apa 9 = .ok (.aload_n 1, 1) := by decide +kernel
theorem sj_d_apa_10 : decode sj_c_apa 10 = .ok (.invokevirtual 32, 3) := by decide +kernel
theorem sj_d_apa_13 : decode sj_c_apa 13 = .ok (.istore_n 2, 1) := by decide +kernel
theorem sj_d_apa_14 : decode sj_c_apa 14 = .ok (.aload_n 0, 1) := by decide +kernel
theorem sj_d_apa_15 : decode sj_c_apa 15 = .ok (.aload_n 0, 1) := by decide +kernel
theorem sj_d_apa_16 : decode sj_c_apa 16 = .ok (.getfield 79, 3) := by decide +kernel
theorem sj_d_apa_19 : decode sj_c_apa 19 = .ok (.iload_n 2, 1) := by decide +kernel
theorem sj_d_apa_20 : decode sj_c_apa 20 = .ok (.iadd, 1) := by decide +kernel
theorem sj_d_apa_21 : decode sj_c_apa 21 = .ok (.invokevirtual 100, 3) := by decide +kernel
theorem sj_d_apa_24 : decode sj_c_apa 24 = .ok (.aload_n 0, 1) := by decide +kernel
theorem sj_d_apa_25 : decode sj_c_apa 25 = .ok (.aload_n 0, 1) := by decide +kernel
theorem sj_d_apa_26 : decode sj_c_apa 26 = .ok (.getfield 79, 3) := by decide +kernel
theorem sj_d_apa_29 : decode sj_c_apa 29 = .ok (.aload_n 1, 1) := by decide +kernel
theorem sj_d_apa_30 : decode sj_c_apa 30 = .ok (.invokevirtual 208, 3) := by decide +kernel
theorem sj_d_apa_33 : decode sj_c_apa 33 = .ok (.aload_n 0, 1) := by decide +kernel
theorem sj_d_apa_34 : decode sj_c_apa 34 = .ok (.dup, 1) := by decide +kernel
theorem sj_d_apa_35 : decode sj_c_apa 35 = .ok (.getfield 79, 3) := by decide +kernel
theorem sj_d_apa_38 : decode sj_c_apa 38 = .ok (.iload_n 2, 1) := by decide +kernel
theorem sj_d_apa_39 : decode sj_c_apa 39 = .ok (.iadd, 1) := by decide +kernel
theorem sj_d_apa_40 : decode sj_c_apa 40 = .ok (.putfield 79, 3) := by decide +kernel
theorem sj_d_apa_43 : decode sj_c_apa 43 = .ok (.aload_n 0, 1) := by decide +kernel
theorem sj_d_apa_44 : decode sj_c_apa 44 = .ok (.areturn, 1) := by decide +kernel
theorem sj_apa {l : Launch} {θ : sj_w} {ss : List sj_s} {H : Heap} {b da n : Nat} {ml : Int32} {f : Nat → Int32} {q : sj_s} (hq : q ∈ ss) (hD : va_D θ.2.2.2.2 [(b, .inr (0, [.ref da, .int 0, .int ml, .int (Int32.ofInt (n : Int))])), (da, .inl (θ.2.1, 16, .inl f))]) (hn : n + q.2.2.1 ≤ 16) : sj_M l θ ss sj_y_apa sj_c_apa 3 (some (.object "java/lang/AbstractStringBuilder")) 3 0 0 [.ref b, .ref q.1] [(b, .inr (0, [.ref da, .int 0, .int ml, .int (Int32.ofInt (n : Int))])), (da, .inl (θ.2.1, 16, .inl f))] H (fun r K => r = some (.ref b) ∧ va_P θ.1 sj_cl [(b, .inr (0, [.ref da, .int 0, .int ml, .int (Int32.ofInt ((n : Int) + (q.2.2.1 : Int)))])), (da, .inl (θ.2.1, 16, .inl (va_cpy q.2.2.2 f 0 n q.2.2.1)))] K) := by
  refine sj_ofW (by decide +kernel) (Nat.le_of_ble_eq_true rfl) (fun p e R s m args below meth c ls F hH hP hl => ?_)
  obtain ⟨hx, hb, hml, hts, hown, hlocks, hI, hRf, hRl, hRc, hRs, hr, hnm⟩ := F
  have hl : lv_has ls 3 [(0, .ref b), (1, .ref q.1)] := hl
  have hS : va_S θ.2.2.2.2 s.heap s.heap [] := va_S.rf
  obtain ⟨kO, kC, kV, kT, kn, kf⟩ := hI.2.2.2.2.2.2 q hq
  refine lv_aload_n hx hb sj_d_apa_0 rfl (lv_at hl 1 rfl) ?_
  refine lv_ifnonnull (tgt := 9) hx hb sj_d_apa_1 (by decide) ?_
  refine lv_aload_n hx hb sj_d_apa_9 rfl (lv_at hl 1 rfl) ?_
  refine sj_cV (C := "java/lang/String") (n := 0) (As := []) (rest := []) hx hb (hml.trans hl.1.symm) hown hts hI hS hP (fun _ h => h) (sj_tlen hq) sj_w_tlen (bc_wat_ok (pos := 60) (by decide +kernel)) (bc_wat_ok (pos := 1302) (by decide +kernel)) (bc_wat_ok (pos := 839) (by decide +kernel)) (hts _ (bc_wat_ok (pos := 840) (by decide +kernel))) (by obtain ⟨cell, h1, h2, h3, -⟩ := kO.kept hS.2.1; exact ⟨cell, h1, h2, h3⟩) ⟨by decide +kernel, by decide +kernel, by decide +kernel⟩ ⟨by rw [hRf]; exact Nat.le_of_ble_eq_true rfl, by rw [hRl]; exact Nat.le_of_ble_eq_true rfl⟩ ⟨by rw [hRc]; exact Nat.le_of_ble_eq_true rfl, by rw [hRs]; exact Nat.le_of_ble_eq_true rfl⟩ rfl rfl (Nat.le_of_ble_eq_true rfl) sj_d_apa_10 (fun r H2 locs2 hp hk hz hS => ?_)
  obtain ⟨rfl, rfl⟩ := hp
  refine lv_istore_n (lv' := [(2, .int (Int32.ofInt (q.2.2.1 : Int))), (0, .ref b), (1, .ref q.1)]) hx hb sj_d_apa_13 rfl hl (by decide) rfl (fun ls hl => ?_)
  refine lv_aload_n hx hb sj_d_apa_14 rfl (lv_at hl 1 rfl) ?_
  refine lv_aload_n hx hb sj_d_apa_15 rfl (lv_at hl 1 rfl) ?_
  refine va_get (D := θ.1) (cl := sj_cl) (ws := [(b, .inr (0, [.ref da, .int 0, .int ml, .int (Int32.ofInt (n : Int))])), (da, .inl (θ.2.1, 16, .inl f))]) (tys := [(θ.2.1, .byte)]) (C := "java/lang/StringBuilder") (T := sj_T0) (N := 4) (ci := 0) hx hb hts sj_w0 hown hI.1 hP 0 rfl rfl 3 (by decide) (hts (.fieldLink "java/lang/AbstractStringBuilder" 79 "java/lang/AbstractStringBuilder" "count" "I") (bc_wat_ok (pos := 1206) (by decide +kernel))) (fun _ h9 => h9) rfl sj_d_apa_16 ?_
  refine lv_iload_n hx hb sj_d_apa_19 rfl (lv_at hl 0 rfl) ?_
  refine lv_iadd hx hb sj_d_apa_20 ?_
  rw [← Int32.ofInt_add]
  refine sj_cV (C := "java/lang/StringBuilder") (n := 1) (As := [.int (Int32.ofInt ((n : Int) + (q.2.2.1 : Int)))]) (rest := []) hx hb (hml.trans hl.1.symm) hown hts hI hS hP (fun _ h => h) (sj_ens (x := (n : Int) + (q.2.2.1 : Int)) (by omega) (by omega)) sj_w_ens (bc_wat_ok (pos := 71) (by decide +kernel)) (bc_wat_ok (pos := 1226) (by decide +kernel)) (bc_wat_ok (pos := 1228) (by decide +kernel)) (va_Nw.use rfl (hI.2.2.2.2.2.1 _ (List.mem_of_getElem? (i := 0) rfl))) (va_recv (q := ("java/lang/StringBuilder", sj_T0, 4)) (q0 := 0) hI.1 hP rfl rfl) ⟨by decide +kernel, by decide +kernel, by decide +kernel⟩ ⟨by rw [hRf]; exact Nat.le_of_ble_eq_true rfl, by rw [hRl]; exact Nat.le_of_ble_eq_true rfl⟩ ⟨by rw [hRc]; exact Nat.le_of_ble_eq_true rfl, by rw [hRs]; exact Nat.le_of_ble_eq_true rfl⟩ rfl rfl (Nat.le_of_ble_eq_true rfl) sj_d_apa_21 (fun r H2 locs2 hp hk hz hS => ?_)
  obtain ⟨rfl, rfl⟩ := hp
  refine lv_aload_n hx hb sj_d_apa_24 rfl (lv_at hl 1 rfl) ?_
  refine lv_aload_n hx hb sj_d_apa_25 rfl (lv_at hl 1 rfl) ?_
  refine va_get (D := θ.1) (cl := sj_cl) (ws := [(b, .inr (0, [.ref da, .int 0, .int ml, .int (Int32.ofInt (n : Int))])), (da, .inl (θ.2.1, 16, .inl f))]) (tys := [(θ.2.1, .byte)]) (C := "java/lang/StringBuilder") (T := sj_T0) (N := 4) (ci := 0) hx hb hts sj_w0 hown hI.1 hP 0 rfl rfl 3 (by decide) (hts (.fieldLink "java/lang/AbstractStringBuilder" 79 "java/lang/AbstractStringBuilder" "count" "I") (bc_wat_ok (pos := 1206) (by decide +kernel))) (fun _ h9 => h9) rfl sj_d_apa_26 ?_
  refine lv_aload_n hx hb sj_d_apa_29 rfl (lv_at hl 2 rfl) ?_
  refine sj_cV (C := "java/lang/StringBuilder") (n := 2) (As := [.int (Int32.ofInt (n : Int)), .ref q.1]) (rest := []) hx hb (hml.trans hl.1.symm) hown hts hI hS hP (fun _ h => h) (sj_put hq hD hn) sj_w_put (bc_wat_ok (pos := 71) (by decide +kernel)) (bc_wat_ok (pos := 1303) (by decide +kernel)) (bc_wat_ok (pos := 1305) (by decide +kernel)) (va_Nw.use rfl (hI.2.2.2.2.2.1 _ (List.mem_of_getElem? (i := 2) rfl))) (va_recv (q := ("java/lang/StringBuilder", sj_T0, 4)) (q0 := 0) hI.1 hP rfl rfl) ⟨by decide +kernel, by decide +kernel, by decide +kernel⟩ ⟨by rw [hRf]; exact Nat.le_of_ble_eq_true rfl, by rw [hRl]; exact Nat.le_of_ble_eq_true rfl⟩ ⟨by rw [hRc]; exact Nat.le_of_ble_eq_true rfl, by rw [hRs]; exact Nat.le_of_ble_eq_true rfl⟩ rfl rfl (Nat.le_of_ble_eq_true rfl) sj_d_apa_30 (fun r H2 locs2 hp hk hz hS => ?_)
  obtain ⟨rfl, hP⟩ := hp
  have hD : va_D θ.2.2.2.2 [(b, .inr (0, [.ref da, .int 0, .int ml, .int (Int32.ofInt (n : Int))])), (da, .inl (θ.2.1, 16, .inl (va_cpy q.2.2.2 f 0 n q.2.2.1)))] := sj_D2 hD
  refine lv_aload_n hx hb sj_d_apa_33 rfl (lv_at hl 1 rfl) ?_
  refine lv_dup hx hb sj_d_apa_34 rfl ?_
  refine va_get (D := θ.1) (cl := sj_cl) (ws := [(b, .inr (0, [.ref da, .int 0, .int ml, .int (Int32.ofInt (n : Int))])), (da, .inl (θ.2.1, 16, .inl (va_cpy q.2.2.2 f 0 n q.2.2.1)))]) (tys := [(θ.2.1, .byte)]) (C := "java/lang/StringBuilder") (T := sj_T0) (N := 4) (ci := 0) hx hb hts sj_w0 hown hI.1 hP 0 rfl rfl 3 (by decide) (hts (.fieldLink "java/lang/AbstractStringBuilder" 79 "java/lang/AbstractStringBuilder" "count" "I") (bc_wat_ok (pos := 1206) (by decide +kernel))) (fun _ h9 => h9) rfl sj_d_apa_35 ?_
  refine lv_iload_n hx hb sj_d_apa_38 rfl (lv_at hl 0 rfl) ?_
  refine lv_iadd hx hb sj_d_apa_39 ?_
  rw [← Int32.ofInt_add]
  refine va_put (D := θ.1) (cl := sj_cl) (ws := [(b, .inr (0, [.ref da, .int 0, .int ml, .int (Int32.ofInt (n : Int))])), (da, .inl (θ.2.1, 16, .inl (va_cpy q.2.2.2 f 0 n q.2.2.1)))]) (tys := [(θ.2.1, .byte)]) (C := "java/lang/StringBuilder") (T := sj_T0) (N := 4) (ci := 0) hx hb hts sj_w0 sj_y0 sj_t0 sj_n0 hown hI.1 hP hD hS 0 rfl rfl 3 (by decide) (hts (.fieldLink "java/lang/AbstractStringBuilder" 79 "java/lang/AbstractStringBuilder" "count" "I") (bc_wat_ok (pos := 1206) (by decide +kernel))) (fun _ h9 => h9) rfl (ty := .int) (by decide +kernel) rfl rfl (Nat.le_of_ble_eq_true rfl) sj_d_apa_40 (fun H2 locs2 hP hD hS => ?_)
  have hP : va_P θ.1 sj_cl [(b, .inr (0, [.ref da, .int 0, .int ml, .int (Int32.ofInt ((n : Int) + (q.2.2.1 : Int)))])), (da, .inl (θ.2.1, 16, .inl (va_cpy q.2.2.2 f 0 n q.2.2.1)))] H2 := hP
  have hD : va_D θ.2.2.2.2 [(b, .inr (0, [.ref da, .int 0, .int ml, .int (Int32.ofInt ((n : Int) + (q.2.2.1 : Int)))])), (da, .inl (θ.2.1, 16, .inl (va_cpy q.2.2.2 f 0 n q.2.2.1)))] := hD
  refine lv_aload_n hx hb sj_d_apa_43 rfl (lv_at hl 1 rfl) ?_
  refine W.widen (k := 0) (n := 0) (Nat.le_of_ble_eq_true rfl) (Nat.le_of_ble_eq_true rfl) ?_
  exact W.aret hx hb hr (Or.inl ⟨_, rfl⟩) (Or.inr ⟨_, rfl⟩) (fun t ht hW => ⟨⟨_, rfl, by rw [ht]; exact ⟨rfl, hP⟩⟩, hS.F ht⟩) hS.2.2 sj_d_apa_44
abbrev sj_y_aps : MethodName := ⟨"java/lang/StringBuilder", "append", "(Ljava/lang/String;)Ljava/lang/StringBuilder;"⟩
abbrev sj_c_aps : ByteArray := prog_32_method_7_code
theorem sj_w_aps : Cond.code sj_y_aps sj_c_aps 2 (some (.object "java/lang/StringBuilder")) ∈ bc_W := (bc_mem_W (bc_tk6 (List.mem_of_getElem? (i := 48) rfl)) rfl)
theorem sj_d_aps_0 : decode sj_c_aps 0 = .ok (.aload_n 0, 1) := by decide +kernel
theorem sj_d_aps_1 : decode sj_c_aps 1 = .ok (.aload_n 1, 1) := by decide +kernel
theorem sj_d_aps_2 : decode sj_c_aps 2 = .ok (.invokespecial 29, 3) := by decide +kernel
theorem sj_d_aps_5 : decode sj_c_aps 5 = .ok (.pop, 1) := by decide +kernel
theorem sj_d_aps_6 : decode sj_c_aps 6 = .ok (.aload_n 0, 1) := by decide +kernel
theorem sj_d_aps_7 : decode sj_c_aps 7 = .ok (.areturn, 1) := by decide +kernel
theorem sj_aps {l : Launch} {θ : sj_w} {ss : List sj_s} {H : Heap} {b da n : Nat} {ml : Int32} {f : Nat → Int32} {q : sj_s} (hq : q ∈ ss) (hD : va_D θ.2.2.2.2 [(b, .inr (0, [.ref da, .int 0, .int ml, .int (Int32.ofInt (n : Int))])), (da, .inl (θ.2.1, 16, .inl f))]) (hn : n + q.2.2.1 ≤ 16) : sj_M l θ ss sj_y_aps sj_c_aps 2 (some (.object "java/lang/StringBuilder")) 4 0 0 [.ref b, .ref q.1] [(b, .inr (0, [.ref da, .int 0, .int ml, .int (Int32.ofInt (n : Int))])), (da, .inl (θ.2.1, 16, .inl f))] H (fun r K => r = some (.ref b) ∧ va_P θ.1 sj_cl [(b, .inr (0, [.ref da, .int 0, .int ml, .int (Int32.ofInt ((n : Int) + (q.2.2.1 : Int)))])), (da, .inl (θ.2.1, 16, .inl (va_cpy q.2.2.2 f 0 n q.2.2.1)))] K) := by
  refine sj_ofW (by decide +kernel) (Nat.le_of_ble_eq_true rfl) (fun p e R s m args below meth c ls F hH hP hl => ?_)
  obtain ⟨hx, hb, hml, hts, hown, hlocks, hI, hRf, hRl, hRc, hRs, hr, hnm⟩ := F
  have hl : lv_has ls 2 [(0, .ref b), (1, .ref q.1)] := hl
  have hS : va_S θ.2.2.2.2 s.heap s.heap [] := va_S.rf
  refine lv_aload_n hx hb sj_d_aps_0 rfl (lv_at hl 0 rfl) ?_
  refine lv_aload_n hx hb sj_d_aps_1 rfl (lv_at hl 1 rfl) ?_
  refine sj_cU (q0 := 0) (n := 1) (As := [.ref q.1]) (rest := []) hx hb (hml.trans hl.1.symm) hown hts hI hS hP (fun _ h => h) (sj_apa hq hD hn) sj_w_apa (bc_wat_ok (pos := 71) (by decide +kernel)) (bc_wat_ok (pos := 1292) (by decide +kernel)) (bc_wat_ok (pos := 1574) (by decide +kernel)) (bc_wat_ok (pos := 1215) (by decide +kernel)) (bc_wat_ok (pos := 1293) (by decide +kernel)) rfl ⟨by decide +kernel, by decide +kernel⟩ ⟨by rw [hRf]; exact Nat.le_of_ble_eq_true rfl, by rw [hRl]; exact Nat.le_of_ble_eq_true rfl⟩ ⟨by rw [hRc]; exact Nat.le_of_ble_eq_true rfl, by rw [hRs]; exact Nat.le_of_ble_eq_true rfl⟩ rfl rfl (Nat.le_of_ble_eq_true rfl) sj_d_aps_2 (fun r H2 locs2 hp hk hz hS => ?_)
  obtain ⟨rfl, hP⟩ := hp
  refine lv_pop hx hb sj_d_aps_5 rfl ?_
  refine lv_aload_n hx hb sj_d_aps_6 rfl (lv_at hl 0 rfl) ?_
  refine W.widen (k := 0) (n := 0) (Nat.le_of_ble_eq_true rfl) (Nat.le_of_ble_eq_true rfl) ?_
  exact W.aret hx hb hr (Or.inl ⟨_, rfl⟩) (Or.inr ⟨_, rfl⟩) (fun t ht hW => ⟨⟨_, rfl, by rw [ht]; exact ⟨rfl, hP⟩⟩, hS.F ht⟩) hS.2.2 sj_d_aps_7
abbrev sj_y_siz : MethodName := ⟨"java/lang/Integer", "stringSize", "(I)I"⟩
abbrev sj_c_siz : ByteArray := prog_27_method_13_code
theorem sj_w_siz : Cond.code sj_y_siz sj_c_siz 4 (some .int) ∈ bc_W := (bc_mem_W (bc_tk5 (List.mem_of_getElem? (i := 222) rfl)) rfl)
theorem sj_d_siz_0 : decode sj_c_siz 0 = .ok (.iconst 1, 1) := by decide +kernel
theorem sj_d_siz_1 : decode sj_c_siz 1 = .ok (.istore_n 1, 1) := by decide +kernel
theorem sj_d_siz_2 : decode sj_c_siz 2 = .ok (.iload_n 0, 1) := by decide +kernel
theorem sj_d_siz_3 : decode sj_c_siz 3 = .ok (.ifCond .lt 8, 3) := by decide +kernel
theorem sj_d_siz_6 : decode sj_c_siz 6 = .ok (.iconst 0, 1) := by decide +kernel
theorem sj_d_siz_7 : decode sj_c_siz 7 = .ok (.istore_n 1, 1) := by decide +kernel
theorem sj_d_siz_8 : decode sj_c_siz 8 = .ok (.iload_n 0, 1) := by decide +kernel
theorem sj_d_siz_9 : decode sj_c_siz 9 = .ok (.ineg, 1) := by decide +kernel
theorem sj_d_siz_10 : decode sj_c_siz 10 = .ok (.istore_n 0, 1) := by decide +kernel
theorem sj_d_siz_11 : decode sj_c_siz 11 = .ok (.bipush (-10), 2) := by decide +kernel
theorem sj_d_siz_13 : decode sj_c_siz 13 = .ok (.istore_n 2, 1) := by decide +kernel
theorem sj_d_siz_14 : decode sj_c_siz 14 = .ok (.iconst 1, 1) := by decide +kernel
theorem sj_d_siz_15 : decode sj_c_siz 15 = .ok (.istore_n 3, 1) := by decide +kernel
theorem sj_d_siz_16 : decode sj_c_siz 16 = .ok (.iload_n 3, 1) := by decide +kernel
theorem sj_d_siz_17 : decode sj_c_siz 17 = .ok (.bipush 10, 2) := by decide +kernel
theorem sj_d_siz_19 : decode sj_c_siz 19 = .ok (.if_icmp .ge 23, 3) := by decide +kernel
theorem sj_d_siz_22 : decode sj_c_siz 22 = .ok (.iload_n 0, 1) := by decide +kernel
theorem sj_d_siz_23 : decode sj_c_siz 23 = .ok (.iload_n 2, 1) := by decide +kernel
theorem sj_d_siz_24 : decode sj_c_siz 24 = .ok (.if_icmp .le 7, 3) := by decide +kernel
theorem sj_d_siz_27 : decode sj_c_siz 27 = .ok (.iload_n 3, 1) := by decide +kernel
theorem sj_d_siz_28 : decode sj_c_siz 28 = .ok (.iload_n 1, 1) := by decide +kernel
theorem sj_d_siz_29 : decode sj_c_siz 29 = .ok (.iadd, 1) := by decide +kernel
theorem sj_d_siz_30 : decode sj_c_siz 30 = .ok (.ireturn, 1) := by decide +kernel
theorem sj_siz1 {l : Launch} {θ : sj_w} {ss : List sj_s} {H : Heap} {ws : va_W} {x : Int} (h0 : 0 ≤ x) (h1 : x < 10) : sj_M l θ ss sj_y_siz sj_c_siz 4 (some .int) 0 0 0 [.int (Int32.ofInt x)] ws H (fun r K => r = some (.int (Int32.ofInt 1)) ∧ K = H) := by
  refine sj_ofW (by decide +kernel) (Nat.le_of_ble_eq_true rfl) (fun p e R s m args below meth c ls F hH hP hl => ?_)
  obtain ⟨hx, hb, hml, hts, hown, hlocks, hI, hRf, hRl, hRc, hRs, hr, hnm⟩ := F
  have hl : lv_has ls 4 [(0, .int (Int32.ofInt x))] := hl
  have hS : va_S θ.2.2.2.2 s.heap s.heap [] := va_S.rf
  refine lv_iconst (v := Int32.ofInt 1) hx hb sj_d_siz_0 (by decide) ?_
  refine lv_istore_n (lv' := [(1, .int (Int32.ofInt 1)), (0, .int (Int32.ofInt x))]) hx hb sj_d_siz_1 rfl hl (by decide) rfl (fun ls hl => ?_)
  refine lv_iload_n hx hb sj_d_siz_2 rfl (lv_at hl 1 rfl) ?_
  refine lv_if_lt (tgt := 11) hx hb sj_d_siz_3 (by decide) (fun h => absurd h (sj_nlt0 (by omega) (by omega))) (fun _ => ?_)
  refine lv_iconst (v := 0) hx hb sj_d_siz_6 (by decide) ?_
  refine lv_istore_n (lv' := [(1, .int 0), (0, .int (Int32.ofInt x))]) hx hb sj_d_siz_7 rfl hl (by decide) rfl (fun ls hl => ?_)
  refine lv_iload_n hx hb sj_d_siz_8 rfl (lv_at hl 1 rfl) ?_
  refine lv_ineg hx hb sj_d_siz_9 ?_
  rw [← Int32.ofInt_neg]
  refine lv_istore_n (lv' := [(0, .int (Int32.ofInt (-x))), (1, .int 0)]) hx hb sj_d_siz_10 rfl hl (by decide) rfl (fun ls hl => ?_)
  refine lv_bipush (v := Int32.ofInt (-10)) hx hb sj_d_siz_11 (by decide) ?_
  refine lv_istore_n (lv' := [(2, .int (Int32.ofInt (-10))), (0, .int (Int32.ofInt (-x))), (1, .int 0)]) hx hb sj_d_siz_13 rfl hl (by decide) rfl (fun ls hl => ?_)
  refine lv_iconst (v := Int32.ofInt 1) hx hb sj_d_siz_14 (by decide) ?_
  refine lv_istore_n (lv' := [(3, .int (Int32.ofInt 1)), (2, .int (Int32.ofInt (-10))), (0, .int (Int32.ofInt (-x))), (1, .int 0)]) hx hb sj_d_siz_15 rfl hl (by decide) rfl (fun ls hl => ?_)
  refine lv_iload_n hx hb sj_d_siz_16 rfl (lv_at hl 0 rfl) ?_
  refine lv_bipush (v := Int32.ofInt 10) hx hb sj_d_siz_17 (by decide) ?_
  refine lv_icmp_ge (tgt := 42) hx hb sj_d_siz_19 (by decide) (fun h => absurd h (by decide)) (fun _ => ?_)
  refine lv_iload_n hx hb sj_d_siz_22 rfl (lv_at hl 2 rfl) ?_
  refine lv_iload_n hx hb sj_d_siz_23 rfl (lv_at hl 1 rfl) ?_
  refine lv_icmp_le (tgt := 31) hx hb sj_d_siz_24 (by decide) (fun h => absurd h (sj_nle (by omega) (by omega) (by omega))) (fun _ => ?_)
  refine lv_iload_n hx hb sj_d_siz_27 rfl (lv_at hl 0 rfl) ?_
  refine lv_iload_n hx hb sj_d_siz_28 rfl (lv_at hl 3 rfl) ?_
  refine lv_iadd hx hb sj_d_siz_29 ?_
  rw [show Int32.ofInt 1 + 0 = Int32.ofInt 1 by decide]
  refine W.widen (k := 0) (n := 0) (Nat.le_of_ble_eq_true rfl) (Nat.le_of_ble_eq_true rfl) ?_
  exact bc_iret hx hb hr rfl (fun t ht hW => ⟨⟨_, rfl, by rw [ht]; exact ⟨rfl, hH⟩⟩, hS.F ht⟩) hS.2.2 sj_d_siz_30 hlocks
theorem sj_d_siz_31 : decode sj_c_siz 31 = .ok (.bipush 10, 2) := by decide +kernel
theorem sj_d_siz_33 : decode sj_c_siz 33 = .ok (.iload_n 2, 1) := by decide +kernel
theorem sj_d_siz_34 : decode sj_c_siz 34 = .ok (.imul, 1) := by decide +kernel
theorem sj_d_siz_35 : decode sj_c_siz 35 = .ok (.istore_n 2, 1) := by decide +kernel
theorem sj_d_siz_36 : decode sj_c_siz 36 = .ok (.iinc 3 1, 3) := by decide +kernel
theorem sj_d_siz_39 : decode sj_c_siz 39 = .ok (.goto (-23), 3) := by decide +kernel
theorem sj_siz2 {l : Launch} {θ : sj_w} {ss : List sj_s} {H : Heap} {ws : va_W} {x : Int} (h0 : 10 ≤ x) (h1 : x < 100) : sj_M l θ ss sj_y_siz sj_c_siz 4 (some .int) 0 0 0 [.int (Int32.ofInt x)] ws H (fun r K => r = some (.int (Int32.ofInt 2)) ∧ K = H) := by
  refine sj_ofW (by decide +kernel) (Nat.le_of_ble_eq_true rfl) (fun p e R s m args below meth c ls F hH hP hl => ?_)
  obtain ⟨hx, hb, hml, hts, hown, hlocks, hI, hRf, hRl, hRc, hRs, hr, hnm⟩ := F
  have hl : lv_has ls 4 [(0, .int (Int32.ofInt x))] := hl
  have hS : va_S θ.2.2.2.2 s.heap s.heap [] := va_S.rf
  refine lv_iconst (v := Int32.ofInt 1) hx hb sj_d_siz_0 (by decide) ?_
  refine lv_istore_n (lv' := [(1, .int (Int32.ofInt 1)), (0, .int (Int32.ofInt x))]) hx hb sj_d_siz_1 rfl hl (by decide) rfl (fun ls hl => ?_)
  refine lv_iload_n hx hb sj_d_siz_2 rfl (lv_at hl 1 rfl) ?_
  refine lv_if_lt (tgt := 11) hx hb sj_d_siz_3 (by decide) (fun h => absurd h (sj_nlt0 (by omega) (by omega))) (fun _ => ?_)
  refine lv_iconst (v := 0) hx hb sj_d_siz_6 (by decide) ?_
  refine lv_istore_n (lv' := [(1, .int 0), (0, .int (Int32.ofInt x))]) hx hb sj_d_siz_7 rfl hl (by decide) rfl (fun ls hl => ?_)
  refine lv_iload_n hx hb sj_d_siz_8 rfl (lv_at hl 1 rfl) ?_
  refine lv_ineg hx hb sj_d_siz_9 ?_
  rw [← Int32.ofInt_neg]
  refine lv_istore_n (lv' := [(0, .int (Int32.ofInt (-x))), (1, .int 0)]) hx hb sj_d_siz_10 rfl hl (by decide) rfl (fun ls hl => ?_)
  refine lv_bipush (v := Int32.ofInt (-10)) hx hb sj_d_siz_11 (by decide) ?_
  refine lv_istore_n (lv' := [(2, .int (Int32.ofInt (-10))), (0, .int (Int32.ofInt (-x))), (1, .int 0)]) hx hb sj_d_siz_13 rfl hl (by decide) rfl (fun ls hl => ?_)
  refine lv_iconst (v := Int32.ofInt 1) hx hb sj_d_siz_14 (by decide) ?_
  refine lv_istore_n (lv' := [(3, .int (Int32.ofInt 1)), (2, .int (Int32.ofInt (-10))), (0, .int (Int32.ofInt (-x))), (1, .int 0)]) hx hb sj_d_siz_15 rfl hl (by decide) rfl (fun ls hl => ?_)
  refine lv_iload_n hx hb sj_d_siz_16 rfl (lv_at hl 0 rfl) ?_
  refine lv_bipush (v := Int32.ofInt 10) hx hb sj_d_siz_17 (by decide) ?_
  refine lv_icmp_ge (tgt := 42) hx hb sj_d_siz_19 (by decide) (fun h => absurd h (by decide)) (fun _ => ?_)
  refine lv_iload_n hx hb sj_d_siz_22 rfl (lv_at hl 2 rfl) ?_
  refine lv_iload_n hx hb sj_d_siz_23 rfl (lv_at hl 1 rfl) ?_
  refine lv_icmp_le (tgt := 31) hx hb sj_d_siz_24 (by decide) (fun _ => ?_) (fun h => absurd (sj_le (by omega) (by omega) (by omega)) h)
  refine lv_bipush (v := Int32.ofInt 10) hx hb sj_d_siz_31 (by decide) ?_
  refine lv_iload_n hx hb sj_d_siz_33 rfl (lv_at hl 1 rfl) ?_
  refine lv_imul hx hb sj_d_siz_34 ?_
  rw [show Int32.ofInt 10 * Int32.ofInt (-10) = Int32.ofInt (-100) by decide]
  refine lv_istore_n (lv' := [(2, .int (Int32.ofInt (-100))), (3, .int (Int32.ofInt 1)), (0, .int (Int32.ofInt (-x))), (1, .int 0)]) hx hb sj_d_siz_35 rfl hl (by decide) rfl (fun ls hl => ?_)
  refine lv_iinc (k := 1) (v := Int32.ofInt 2) (lv' := [(3, .int (Int32.ofInt 2)), (2, .int (Int32.ofInt (-100))), (0, .int (Int32.ofInt (-x))), (1, .int 0)]) hx hb sj_d_siz_36 hl rfl (by decide) (by decide) rfl (fun ls hl => ?_)
  refine lv_goto (tgt := 16) hx hb sj_d_siz_39 (by decide) ?_
  refine lv_iload_n hx hb sj_d_siz_16 rfl (lv_at hl 0 rfl) ?_
  refine lv_bipush (v := Int32.ofInt 10) hx hb sj_d_siz_17 (by decide) ?_
  refine lv_icmp_ge (tgt := 42) hx hb sj_d_siz_19 (by decide) (fun h => absurd h (by decide)) (fun _ => ?_)
  refine lv_iload_n hx hb sj_d_siz_22 rfl (lv_at hl 2 rfl) ?_
  refine lv_iload_n hx hb sj_d_siz_23 rfl (lv_at hl 1 rfl) ?_
  refine lv_icmp_le (tgt := 31) hx hb sj_d_siz_24 (by decide) (fun h => absurd h (sj_nle (by omega) (by omega) (by omega))) (fun _ => ?_)
  refine lv_iload_n hx hb sj_d_siz_27 rfl (lv_at hl 0 rfl) ?_
  refine lv_iload_n hx hb sj_d_siz_28 rfl (lv_at hl 3 rfl) ?_
  refine lv_iadd hx hb sj_d_siz_29 ?_
  rw [show Int32.ofInt 2 + 0 = Int32.ofInt 2 by decide]
  refine W.widen (k := 0) (n := 0) (Nat.le_of_ble_eq_true rfl) (Nat.le_of_ble_eq_true rfl) ?_
  exact bc_iret hx hb hr rfl (fun t ht hW => ⟨⟨_, rfl, by rw [ht]; exact ⟨rfl, hH⟩⟩, hS.F ht⟩) hS.2.2 sj_d_siz_30 hlocks
abbrev sj_y_gch : MethodName := ⟨"java/lang/Integer", "getChars", "(II[B)I"⟩
abbrev sj_c_gch : ByteArray := prog_27_method_12_code
theorem sj_w_gch : Cond.code sj_y_gch sj_c_gch 7 (some .int) ∈ bc_W := (bc_mem_W (bc_tk6 (List.mem_of_getElem? (i := 19) rfl)) rfl)
theorem sj_d_gch_0 : decode sj_c_gch 0 = .ok (.iload_n 1, 1) := by decide +kernel
theorem sj_d_gch_1 : decode sj_c_gch 1 = .ok (.istore 5, 2) := by decide +kernel
theorem sj_d_gch_3 : decode sj_c_gch 3 = .ok (.iload_n 0, 1) := by decide +kernel
theorem sj_d_gch_4 : decode sj_c_gch 4 = .ok (.ifCond .ge 7, 3) := by decide +kernel
theorem sj_d_gch_11 : decode sj_c_gch 11 = .ok (.iconst 0, 1) := by decide +kernel
theorem sj_d_gch_12 : decode sj_c_gch 12 = .ok (.istore 6, 2) := by decide +kernel
theorem sj_d_gch_14 : decode sj_c_gch 14 = .ok (.iload 6, 2) := by decide +kernel
theorem sj_d_gch_16 : decode sj_c_gch 16 = .ok (.ifCond .ne 6, 3) := by decide +kernel
theorem sj_d_gch_19 : decode sj_c_gch 19 = .ok (.iload_n 0, 1) := by decide +kernel
theorem sj_d_gch_20 : decode sj_c_gch 20 = .ok (.ineg, 1) := by decide +kernel
theorem sj_d_gch_21 : decode sj_c_gch 21 = .ok (.istore_n 0, 1) := by decide +kernel
theorem sj_d_gch_22 : decode sj_c_gch 22 = .ok (.iload_n 0, 1) := by decide +kernel
theorem sj_d_gch_23 : decode sj_c_gch 23 = .ok (.bipush (-100), 2) := by decide +kernel
theorem sj_d_gch_25 : decode sj_c_gch 25 = .ok (.if_icmp .gt 47, 3) := by decide +kernel
theorem sj_d_gch_72 : decode sj_c_gch 72 = .ok (.aload_n 2, 1) := by decide +kernel
theorem sj_d_gch_73 : decode sj_c_gch 73 = .ok (.iinc 5 (-1), 3) := by decide +kernel
theorem sj_d_gch_76 : decode sj_c_gch 76 = .ok (.iload 5, 2) := by decide +kernel
theorem sj_d_gch_78 : decode sj_c_gch 78 = .ok (.getstatic 83, 3) := by decide +kernel
theorem sj_d_gch_81 : decode sj_c_gch 81 = .ok (.iload_n 0, 1) := by decide +kernel
theorem sj_d_gch_82 : decode sj_c_gch 82 = .ok (.ineg, 1) := by decide +kernel
theorem sj_d_gch_83 : decode sj_c_gch 83 = .ok (.baload, 1) := by decide +kernel
theorem sj_d_gch_84 : decode sj_c_gch 84 = .ok (.bastore, 1) := by decide +kernel
theorem sj_d_gch_85 : decode sj_c_gch 85 = .ok (.iload_n 0, 1) := by decide +kernel
theorem sj_d_gch_86 : decode sj_c_gch 86 = .ok (.bipush (-9), 2) := by decide +kernel
theorem sj_d_gch_88 : decode sj_c_gch 88 = .ok (.if_icmp .ge 16, 3) := by decide +kernel
theorem sj_d_gch_104 : decode sj_c_gch 104 = .ok (.iload 6, 2) := by decide +kernel
theorem sj_d_gch_106 : decode sj_c_gch 106 = .ok (.ifCond .eq 12, 3) := by decide +kernel
theorem sj_d_gch_118 : decode sj_c_gch 118 = .ok (.iload 5, 2) := by decide +kernel
theorem sj_d_gch_120 : decode sj_c_gch 120 = .ok (.ireturn, 1) := by decide +kernel
theorem sj_gch1 {l : Launch} {θ : sj_w} {ss : List sj_s} {H : Heap} {b da n : Nat} {c0 ml : Int32} {f : Nat → Int32} {x : Int} (hD : va_D θ.2.2.2.2 [(b, .inr (0, [.ref da, .int 0, .int ml, .int c0])), (da, .inl (θ.2.1, 16, .inl f))]) (h0 : 0 ≤ x) (h1 : x < 10) (hn : n + 1 ≤ 16) : sj_M l θ ss sj_y_gch sj_c_gch 7 (some .int) 0 0 0 [.int (Int32.ofInt x), .int (Int32.ofInt ((n : Int) + 1)), .ref da] [(b, .inr (0, [.ref da, .int 0, .int ml, .int c0])), (da, .inl (θ.2.1, 16, .inl f))] H (fun r K => r = some (.int (Int32.ofInt (n : Int))) ∧ va_P θ.1 sj_cl [(b, .inr (0, [.ref da, .int 0, .int ml, .int c0])), (da, .inl (θ.2.1, 16, .inl (upd f n (Int32.ofInt (48 + x % 10)))))] K) := by
  refine sj_ofW (by decide +kernel) (Nat.le_of_ble_eq_true rfl) (fun p e R s m args below meth c ls F hH hP hl => ?_)
  obtain ⟨hx, hb, hml, hts, hown, hlocks, hI, hRf, hRl, hRc, hRs, hr, hnm⟩ := F
  have hl : lv_has ls 7 [(0, .int (Int32.ofInt x)), (1, .int (Int32.ofInt ((n : Int) + 1))), (2, .ref da)] := hl
  have hS : va_S θ.2.2.2.2 s.heap s.heap [] := va_S.rf
  obtain ⟨hv1, hv2⟩ := bc_vp (j := x) (n := 100) (by omega) (by omega) (by omega)
  refine lv_iload_n hx hb sj_d_gch_0 rfl (lv_at hl 1 rfl) ?_
  refine lv_istore (lv' := [(5, .int (Int32.ofInt ((n : Int) + 1))), (0, .int (Int32.ofInt x)), (1, .int (Int32.ofInt ((n : Int) + 1))), (2, .ref da)]) hx hb sj_d_gch_1 hl (by decide) rfl (fun ls hl => ?_)
  refine lv_iload_n hx hb sj_d_gch_3 rfl (lv_at hl 1 rfl) ?_
  refine lv_if_ge (tgt := 11) hx hb sj_d_gch_4 (by decide) (fun _ => ?_) (fun h => absurd (sj_ge0 (by omega) (by omega)) h)
  refine lv_iconst (v := 0) hx hb sj_d_gch_11 (by decide) ?_
  refine lv_istore (lv' := [(6, .int 0), (5, .int (Int32.ofInt ((n : Int) + 1))), (0, .int (Int32.ofInt x)), (1, .int (Int32.ofInt ((n : Int) + 1))), (2, .ref da)]) hx hb sj_d_gch_12 hl (by decide) rfl (fun ls hl => ?_)
  refine lv_iload hx hb sj_d_gch_14 (lv_at hl 0 rfl) ?_
  refine lv_if_ne (tgt := 22) hx hb sj_d_gch_16 (by decide) (fun h => absurd h (by decide)) (fun _ => ?_)
  refine lv_iload_n hx hb sj_d_gch_19 rfl (lv_at hl 2 rfl) ?_
  refine lv_ineg hx hb sj_d_gch_20 ?_
  rw [← Int32.ofInt_neg]
  refine lv_istore_n (lv' := [(0, .int (Int32.ofInt (-x))), (6, .int 0), (5, .int (Int32.ofInt ((n : Int) + 1))), (1, .int (Int32.ofInt ((n : Int) + 1))), (2, .ref da)]) hx hb sj_d_gch_21 rfl hl (by decide) rfl (fun ls hl => ?_)
  refine lv_iload_n hx hb sj_d_gch_22 rfl (lv_at hl 0 rfl) ?_
  refine lv_bipush (v := Int32.ofInt (-100)) hx hb sj_d_gch_23 (by decide) ?_
  refine lv_icmp_gt (tgt := 72) hx hb sj_d_gch_25 (by decide) (fun _ => ?_) (fun h => absurd (sj_gt (by omega) (by omega) (by omega)) h)
  refine lv_aload_n hx hb sj_d_gch_72 rfl (lv_at hl 4 rfl) ?_
  refine lv_iinc (k := 2) (v := Int32.ofInt (n : Int)) (lv' := [(5, .int (Int32.ofInt (n : Int))), (0, .int (Int32.ofInt (-x))), (6, .int 0), (1, .int (Int32.ofInt ((n : Int) + 1))), (2, .ref da)]) hx hb sj_d_gch_73 hl rfl (by rw [← Int32.ofInt_add]; congr 1; omega) (by decide) rfl (fun ls hl => ?_)
  refine lv_iload hx hb sj_d_gch_76 (lv_at hl 0 rfl) ?_
  refine va_gets hx hb hI.2.2.1.1 hS hown (hts (.fieldLink "java/lang/Integer" 83 "java/lang/Integer" "DigitOnes" "[B") (bc_wat_ok (pos := 1263) (by decide +kernel))) (fun _ h => h) sj_d_gch_78 ?_
  refine lv_iload_n hx hb sj_d_gch_81 rfl (lv_at hl 1 rfl) ?_
  refine lv_ineg hx hb sj_d_gch_82 ?_
  rw [← Int32.ofInt_neg, show -(-x) = x by omega]
  refine va_tb hx hb hI.2.2.1.2 hS hv1 (v := .int (Int32.ofInt (48 + x % 10))) (by rw [hv2]; show Value.int (Int32.ofInt (48 + ((x.toNat : Nat) : Int) % 10)) = _; rw [Int.toNat_of_nonneg (by omega)]) sj_d_gch_83 ?_
  obtain ⟨i1, i2⟩ := bc_vp (j := (n : Int)) (n := 16) (by omega) (by omega) (by omega)
  refine va_bast (D := θ.1) (cl := sj_cl) (ws := [(b, .inr (0, [.ref da, .int 0, .int ml, .int c0])), (da, .inl (θ.2.1, 16, .inl f))]) (tys := [(θ.2.1, .byte)]) hx hb hI.1 hP hD hS 1 0 rfl rfl i1 sj_d_gch_84 (fun H2 locs2 hP hD hS => ?_)
  have hP : va_P θ.1 sj_cl [(b, .inr (0, [.ref da, .int 0, .int ml, .int c0])), (da, .inl (θ.2.1, 16, .inl (upd f n (Int32.ofInt (48 + x % 10)))))] H2 := by
    have h9 := hP
    rw [i2, sj_nar (by omega) (by omega), show ((n : Int)).toNat = n from by omega] at h9
    exact h9
  have hD : va_D θ.2.2.2.2 [(b, .inr (0, [.ref da, .int 0, .int ml, .int c0])), (da, .inl (θ.2.1, 16, .inl (upd f n (Int32.ofInt (48 + x % 10)))))] := sj_D2 hD
  refine lv_iload_n hx hb sj_d_gch_85 rfl (lv_at hl 1 rfl) ?_
  refine lv_bipush (v := Int32.ofInt (-9)) hx hb sj_d_gch_86 (by decide) ?_
  refine lv_icmp_ge (tgt := 104) hx hb sj_d_gch_88 (by decide) (fun _ => ?_) (fun h => absurd (sj_le (by omega) (by omega) (by omega)) h)
  refine lv_iload hx hb sj_d_gch_104 (lv_at hl 2 rfl) ?_
  refine lv_if_eq (tgt := 118) hx hb sj_d_gch_106 (by decide) (fun _ => ?_) (fun h => absurd rfl h)
  refine lv_iload hx hb sj_d_gch_118 (lv_at hl 0 rfl) ?_
  refine W.widen (k := 0) (n := 0) (Nat.le_of_ble_eq_true rfl) (Nat.le_of_ble_eq_true rfl) ?_
  exact bc_iret hx hb hr rfl (fun t ht hW => ⟨⟨_, rfl, by rw [ht]; exact ⟨rfl, hP⟩⟩, hS.F ht⟩) hS.2.2 sj_d_gch_120 hlocks
theorem sj_d_gch_91 : decode sj_c_gch 91 = .ok (.aload_n 2, 1) := by decide +kernel
theorem sj_d_gch_92 : decode sj_c_gch 92 = .ok (.iinc 5 (-1), 3) := by decide +kernel
theorem sj_d_gch_95 : decode sj_c_gch 95 = .ok (.iload 5, 2) := by decide +kernel
theorem sj_d_gch_97 : decode sj_c_gch 97 = .ok (.getstatic 87, 3) := by decide +kernel
theorem sj_d_gch_100 : decode sj_c_gch 100 = .ok (.iload_n 0, 1) := by decide +kernel
theorem sj_d_gch_101 : decode sj_c_gch 101 = .ok (.ineg, 1) := by decide +kernel
theorem sj_d_gch_102 : decode sj_c_gch 102 = .ok (.baload, 1) := by decide +kernel
theorem sj_d_gch_103 : decode sj_c_gch 103 = .ok (.bastore, 1) := by decide +kernel
theorem sj_gch2 {l : Launch} {θ : sj_w} {ss : List sj_s} {H : Heap} {b da n : Nat} {c0 ml : Int32} {f : Nat → Int32} {x : Int} (hD : va_D θ.2.2.2.2 [(b, .inr (0, [.ref da, .int 0, .int ml, .int c0])), (da, .inl (θ.2.1, 16, .inl f))]) (h0 : 10 ≤ x) (h1 : x < 100) (hn : n + 2 ≤ 16) : sj_M l θ ss sj_y_gch sj_c_gch 7 (some .int) 0 0 0 [.int (Int32.ofInt x), .int (Int32.ofInt ((n : Int) + 2)), .ref da] [(b, .inr (0, [.ref da, .int 0, .int ml, .int c0])), (da, .inl (θ.2.1, 16, .inl f))] H (fun r K => r = some (.int (Int32.ofInt (n : Int))) ∧ va_P θ.1 sj_cl [(b, .inr (0, [.ref da, .int 0, .int ml, .int c0])), (da, .inl (θ.2.1, 16, .inl (upd (upd f (n + 1) (Int32.ofInt (48 + x % 10))) n (Int32.ofInt (48 + x / 10)))))] K) := by
  refine sj_ofW (by decide +kernel) (Nat.le_of_ble_eq_true rfl) (fun p e R s m args below meth c ls F hH hP hl => ?_)
  obtain ⟨hx, hb, hml, hts, hown, hlocks, hI, hRf, hRl, hRc, hRs, hr, hnm⟩ := F
  have hl : lv_has ls 7 [(0, .int (Int32.ofInt x)), (1, .int (Int32.ofInt ((n : Int) + 2))), (2, .ref da)] := hl
  have hS : va_S θ.2.2.2.2 s.heap s.heap [] := va_S.rf
  obtain ⟨hv1, hv2⟩ := bc_vp (j := x) (n := 100) (by omega) (by omega) (by omega)
  refine lv_iload_n hx hb sj_d_gch_0 rfl (lv_at hl 1 rfl) ?_
  refine lv_istore (lv' := [(5, .int (Int32.ofInt ((n : Int) + 2))), (0, .int (Int32.ofInt x)), (1, .int (Int32.ofInt ((n : Int) + 2))), (2, .ref da)]) hx hb sj_d_gch_1 hl (by decide) rfl (fun ls hl => ?_)
  refine lv_iload_n hx hb sj_d_gch_3 rfl (lv_at hl 1 rfl) ?_
  refine lv_if_ge (tgt := 11) hx hb sj_d_gch_4 (by decide) (fun _ => ?_) (fun h => absurd (sj_ge0 (by omega) (by omega)) h)
  refine lv_iconst (v := 0) hx hb sj_d_gch_11 (by decide) ?_
  refine lv_istore (lv' := [(6, .int 0), (5, .int (Int32.ofInt ((n : Int) + 2))), (0, .int (Int32.ofInt x)), (1, .int (Int32.ofInt ((n : Int) + 2))), (2, .ref da)]) hx hb sj_d_gch_12 hl (by decide) rfl (fun ls hl => ?_)
  refine lv_iload hx hb sj_d_gch_14 (lv_at hl 0 rfl) ?_
  refine lv_if_ne (tgt := 22) hx hb sj_d_gch_16 (by decide) (fun h => absurd h (by decide)) (fun _ => ?_)
  refine lv_iload_n hx hb sj_d_gch_19 rfl (lv_at hl 2 rfl) ?_
  refine lv_ineg hx hb sj_d_gch_20 ?_
  rw [← Int32.ofInt_neg]
  refine lv_istore_n (lv' := [(0, .int (Int32.ofInt (-x))), (6, .int 0), (5, .int (Int32.ofInt ((n : Int) + 2))), (1, .int (Int32.ofInt ((n : Int) + 2))), (2, .ref da)]) hx hb sj_d_gch_21 rfl hl (by decide) rfl (fun ls hl => ?_)
  refine lv_iload_n hx hb sj_d_gch_22 rfl (lv_at hl 0 rfl) ?_
  refine lv_bipush (v := Int32.ofInt (-100)) hx hb sj_d_gch_23 (by decide) ?_
  refine lv_icmp_gt (tgt := 72) hx hb sj_d_gch_25 (by decide) (fun _ => ?_) (fun h => absurd (sj_gt (by omega) (by omega) (by omega)) h)
  refine lv_aload_n hx hb sj_d_gch_72 rfl (lv_at hl 4 rfl) ?_
  refine lv_iinc (k := 2) (v := Int32.ofInt ((n : Int) + 1 : Int)) (lv' := [(5, .int (Int32.ofInt ((n : Int) + 1 : Int))), (0, .int (Int32.ofInt (-x))), (6, .int 0), (1, .int (Int32.ofInt ((n : Int) + 2))), (2, .ref da)]) hx hb sj_d_gch_73 hl rfl (by rw [← Int32.ofInt_add]; congr 1; omega) (by decide) rfl (fun ls hl => ?_)
  refine lv_iload hx hb sj_d_gch_76 (lv_at hl 0 rfl) ?_
  refine va_gets hx hb hI.2.2.1.1 hS hown (hts (.fieldLink "java/lang/Integer" 83 "java/lang/Integer" "DigitOnes" "[B") (bc_wat_ok (pos := 1263) (by decide +kernel))) (fun _ h => h) sj_d_gch_78 ?_
  refine lv_iload_n hx hb sj_d_gch_81 rfl (lv_at hl 1 rfl) ?_
  refine lv_ineg hx hb sj_d_gch_82 ?_
  rw [← Int32.ofInt_neg, show -(-x) = x by omega]
  refine va_tb hx hb hI.2.2.1.2 hS hv1 (v := .int (Int32.ofInt (48 + x % 10))) (by rw [hv2]; show Value.int (Int32.ofInt (48 + ((x.toNat : Nat) : Int) % 10)) = _; rw [Int.toNat_of_nonneg (by omega)]) sj_d_gch_83 ?_
  obtain ⟨i1, i2⟩ := bc_vp (j := ((n : Int) + 1 : Int)) (n := 16) (by omega) (by omega) (by omega)
  refine va_bast (D := θ.1) (cl := sj_cl) (ws := [(b, .inr (0, [.ref da, .int 0, .int ml, .int c0])), (da, .inl (θ.2.1, 16, .inl f))]) (tys := [(θ.2.1, .byte)]) hx hb hI.1 hP hD hS 1 0 rfl rfl i1 sj_d_gch_84 (fun H2 locs2 hP hD hS => ?_)
  have hP : va_P θ.1 sj_cl [(b, .inr (0, [.ref da, .int 0, .int ml, .int c0])), (da, .inl (θ.2.1, 16, .inl (upd f (n + 1) (Int32.ofInt (48 + x % 10)))))] H2 := by
    have h9 := hP
    rw [i2, sj_nar (by omega) (by omega), show (((n : Int) + 1 : Int)).toNat = n + 1 from by omega] at h9
    exact h9
  have hD : va_D θ.2.2.2.2 [(b, .inr (0, [.ref da, .int 0, .int ml, .int c0])), (da, .inl (θ.2.1, 16, .inl (upd f (n + 1) (Int32.ofInt (48 + x % 10)))))] := sj_D2 hD
  refine lv_iload_n hx hb sj_d_gch_85 rfl (lv_at hl 1 rfl) ?_
  refine lv_bipush (v := Int32.ofInt (-9)) hx hb sj_d_gch_86 (by decide) ?_
  refine lv_icmp_ge (tgt := 104) hx hb sj_d_gch_88 (by decide) (fun h => absurd h (sj_nle (by omega) (by omega) (by omega))) (fun _ => ?_)
  refine lv_aload_n hx hb sj_d_gch_91 rfl (lv_at hl 4 rfl) ?_
  refine lv_iinc (k := 0) (v := Int32.ofInt (n : Int)) (lv' := [(5, .int (Int32.ofInt (n : Int))), (0, .int (Int32.ofInt (-x))), (6, .int 0), (1, .int (Int32.ofInt ((n : Int) + 2))), (2, .ref da)]) hx hb sj_d_gch_92 hl rfl (by rw [← Int32.ofInt_add]; congr 1; omega) (by decide) rfl (fun ls hl => ?_)
  refine lv_iload hx hb sj_d_gch_95 (lv_at hl 0 rfl) ?_
  refine va_gets hx hb hI.2.2.2.1.1 hS hown (hts (.fieldLink "java/lang/Integer" 87 "java/lang/Integer" "DigitTens" "[B") (bc_wat_ok (pos := 1265) (by decide +kernel))) (fun _ h => h) sj_d_gch_97 ?_
  refine lv_iload_n hx hb sj_d_gch_100 rfl (lv_at hl 1 rfl) ?_
  refine lv_ineg hx hb sj_d_gch_101 ?_
  rw [← Int32.ofInt_neg, show -(-x) = x by omega]
  refine va_tb hx hb hI.2.2.2.1.2 hS hv1 (v := .int (Int32.ofInt (48 + x / 10))) (by rw [hv2]; show Value.int (Int32.ofInt (48 + ((x.toNat : Nat) : Int) / 10)) = _; rw [Int.toNat_of_nonneg (by omega)]) sj_d_gch_102 ?_
  obtain ⟨i1, i2⟩ := bc_vp (j := (n : Int)) (n := 16) (by omega) (by omega) (by omega)
  refine va_bast (D := θ.1) (cl := sj_cl) (ws := [(b, .inr (0, [.ref da, .int 0, .int ml, .int c0])), (da, .inl (θ.2.1, 16, .inl (upd f (n + 1) (Int32.ofInt (48 + x % 10)))))]) (tys := [(θ.2.1, .byte)]) hx hb hI.1 hP hD hS 1 0 rfl rfl i1 sj_d_gch_103 (fun H2 locs2 hP hD hS => ?_)
  have hP : va_P θ.1 sj_cl [(b, .inr (0, [.ref da, .int 0, .int ml, .int c0])), (da, .inl (θ.2.1, 16, .inl (upd (upd f (n + 1) (Int32.ofInt (48 + x % 10))) n (Int32.ofInt (48 + x / 10)))))] H2 := by
    have h9 := hP
    rw [i2, sj_nar (by omega) (by omega), show ((n : Int)).toNat = n from by omega] at h9
    exact h9
  have hD : va_D θ.2.2.2.2 [(b, .inr (0, [.ref da, .int 0, .int ml, .int c0])), (da, .inl (θ.2.1, 16, .inl (upd (upd f (n + 1) (Int32.ofInt (48 + x % 10))) n (Int32.ofInt (48 + x / 10)))))] := sj_D2 hD
  refine lv_iload hx hb sj_d_gch_104 (lv_at hl 2 rfl) ?_
  refine lv_if_eq (tgt := 118) hx hb sj_d_gch_106 (by decide) (fun _ => ?_) (fun h => absurd rfl h)
  refine lv_iload hx hb sj_d_gch_118 (lv_at hl 0 rfl) ?_
  refine W.widen (k := 0) (n := 0) (Nat.le_of_ble_eq_true rfl) (Nat.le_of_ble_eq_true rfl) ?_
  exact bc_iret hx hb hr rfl (fun t ht hW => ⟨⟨_, rfl, by rw [ht]; exact ⟨rfl, hP⟩⟩, hS.F ht⟩) hS.2.2 sj_d_gch_120 hlocks
abbrev sj_y_api : MethodName := ⟨"java/lang/AbstractStringBuilder", "append", "(I)Ljava/lang/AbstractStringBuilder;"⟩
abbrev sj_c_api : ByteArray := prog_15_method_32_code
theorem sj_w_api : Cond.code sj_y_api sj_c_api 4 (some (.object "java/lang/AbstractStringBuilder")) ∈ bc_W := (bc_mem_W (bc_tk5 (List.mem_of_getElem? (i := 219) rfl)) rfl)
abbrev sj_y_apn : MethodName := ⟨"java/lang/StringBuilder", "append", "(I)Ljava/lang/StringBuilder;"⟩
abbrev sj_c_apn : ByteArray := prog_32_method_15_code
theorem sj_w_apn : Cond.code sj_y_apn sj_c_apn 2 (some (.object "java/lang/StringBuilder")) ∈ bc_W := (bc_mem_W (bc_tk5 (List.mem_of_getElem? (i := 216) rfl)) rfl)
theorem sj_d_api_0 : decode sj_c_api 0 = .ok (.aload_n 0, 1) := by decide +kernel
theorem sj_d_api_1 : decode sj_c_api 1 = .ok (.getfield 79, 3) := by decide +kernel
theorem sj_d_api_4 : decode sj_c_api 4 = .ok (.istore_n 2, 1) := by decide +kernel
theorem sj_d_api_5 : decode sj_c_api 5 = .ok (.iload_n 2, 1) := by decide +kernel
theorem sj_d_api_6 : decode sj_c_api 6 = .ok (.iload_n 1, 1) := by decide +kernel
theorem sj_d_api_7 : decode sj_c_api 7 = .ok (.invokestatic 245, 3) := by decide +kernel
theorem sj_d_api_10 : decode sj_c_api 10 = .ok (.iadd, 1) := by decide +kernel
theorem sj_d_api_11 : decode sj_c_api 11 = .ok (.istore_n 3, 1) := by decide +kernel
theorem sj_d_api_12 : decode sj_c_api 12 = .ok (.aload_n 0, 1) := by decide +kernel
theorem sj_d_api_13 : decode sj_c_api 13 = .ok (.iload_n 3, 1) := by decide +kernel
theorem sj_d_api_14 : decode sj_c_api 14 = .ok (.invokevirtual 100, 3) := by decide +kernel
theorem sj_d_api_17 : decode sj_c_api 17 = .ok (.aload_n 0, 1) := by decide +kernel
theorem sj_d_api_18 : decode sj_c_api 18 = .ok (.invokevirtual 83, 3) := by decide +kernel
theorem sj_d_api_21 : decode sj_c_api 21 = .ok (.ifCond .eq 16, 3) := by decide +kernel
theorem sj_d_api_24 : decode sj_c_api 24 = .ok (.iload_n 1, 1) := by decide +kernel
theorem sj_d_api_25 : decode sj_c_api 25 = .ok (.iload_n 3, 1) := by decide +kernel
theorem sj_d_api_26 : decode sj_c_api 26 = .ok (.aload_n 0, 1) := by decide +kernel
theorem sj_d_api_27 : decode sj_c_api 27 = .ok (.getfield 15, 3) := by decide +kernel
theorem sj_d_api_30 : decode sj_c_api 30 = .ok (.invokestatic 248, 3) := by decide +kernel
theorem sj_d_api_33 : decode sj_c_api 33 = .ok (.pop, 1) := by decide +kernel
theorem sj_d_api_34 : decode sj_c_api 34 = .ok (.goto (14), 3) := by decide +kernel
theorem sj_d_api_48 : decode sj_c_api 48 = .ok (.aload_n 0, 1) := by decide +kernel
theorem sj_d_api_49 : decode sj_c_api 49 = .ok (.iload_n 3, 1) := by decide +kernel
theorem sj_d_api_50 : decode sj_c_api 50 = .ok (.putfield 79, 3) := by decide +kernel
theorem sj_d_api_53 : decode sj_c_api 53 = .ok (.aload_n 0, 1) := by decide +kernel
theorem sj_d_api_54 : decode sj_c_api 54 = .ok (.areturn, 1) := by decide +kernel
theorem sj_api1 {l : Launch} {θ : sj_w} {ss : List sj_s} {H : Heap} {b da n : Nat} {ml : Int32} {f : Nat → Int32} {x : Int} (hD : va_D θ.2.2.2.2 [(b, .inr (0, [.ref da, .int 0, .int ml, .int (Int32.ofInt (n : Int))])), (da, .inl (θ.2.1, 16, .inl f))]) (h0 : 0 ≤ x) (h1 : x < 10) (hn : n + 1 ≤ 16) : sj_M l θ ss sj_y_api sj_c_api 4 (some (.object "java/lang/AbstractStringBuilder")) 1 0 0 [.ref b, .int (Int32.ofInt x)] [(b, .inr (0, [.ref da, .int 0, .int ml, .int (Int32.ofInt (n : Int))])), (da, .inl (θ.2.1, 16, .inl f))] H (fun r K => r = some (.ref b) ∧ va_P θ.1 sj_cl [(b, .inr (0, [.ref da, .int 0, .int ml, .int (Int32.ofInt ((n : Int) + 1))])), (da, .inl (θ.2.1, 16, .inl (upd f n (Int32.ofInt (48 + x % 10)))))] K) := by
  refine sj_ofW (by decide +kernel) (Nat.le_of_ble_eq_true rfl) (fun p e R s m args below meth c ls F hH hP hl => ?_)
  obtain ⟨hx, hb, hml, hts, hown, hlocks, hI, hRf, hRl, hRc, hRs, hr, hnm⟩ := F
  have hl : lv_has ls 4 [(0, .ref b), (1, .int (Int32.ofInt x))] := hl
  have hS : va_S θ.2.2.2.2 s.heap s.heap [] := va_S.rf
  refine lv_aload_n hx hb sj_d_api_0 rfl (lv_at hl 0 rfl) ?_
  refine va_get (D := θ.1) (cl := sj_cl) (ws := [(b, .inr (0, [.ref da, .int 0, .int ml, .int (Int32.ofInt (n : Int))])), (da, .inl (θ.2.1, 16, .inl f))]) (tys := [(θ.2.1, .byte)]) (C := "java/lang/StringBuilder") (T := sj_T0) (N := 4) (ci := 0) hx hb hts sj_w0 hown hI.1 hP 0 rfl rfl 3 (by decide) (hts (.fieldLink "java/lang/AbstractStringBuilder" 79 "java/lang/AbstractStringBuilder" "count" "I") (bc_wat_ok (pos := 1206) (by decide +kernel))) (fun _ h9 => h9) rfl sj_d_api_1 ?_
  refine lv_istore_n (lv' := [(2, .int (Int32.ofInt (n : Int))), (0, .ref b), (1, .int (Int32.ofInt x))]) hx hb sj_d_api_4 rfl hl (by decide) rfl (fun ls hl => ?_)
  refine lv_iload_n hx hb sj_d_api_5 rfl (lv_at hl 0 rfl) ?_
  refine lv_iload_n hx hb sj_d_api_6 rfl (lv_at hl 2 rfl) ?_
  refine sj_cS (n := 1) (As := [.int (Int32.ofInt x)]) (rest := [.int (Int32.ofInt (n : Int))]) hx hb (hml.trans hl.1.symm) hown hts hI hS hP (fun _ h => h) (sj_siz1 h0 h1) sj_w_siz (bc_wat_ok (pos := 74) (by decide +kernel)) (bc_wat_ok (pos := 1223) (by decide +kernel)) (bc_wat_ok (pos := 1224) (by decide +kernel)) ⟨by decide +kernel, by decide +kernel, by decide +kernel⟩ ⟨by rw [hRf]; exact Nat.le_of_ble_eq_true rfl, by rw [hRl]; exact Nat.le_of_ble_eq_true rfl⟩ ⟨by rw [hRc]; exact Nat.le_of_ble_eq_true rfl, by rw [hRs]; exact Nat.le_of_ble_eq_true rfl⟩ rfl rfl (Nat.le_of_ble_eq_true rfl) sj_d_api_7 (fun r H2 locs2 hp hk hz hS => ?_)
  obtain ⟨rfl, rfl⟩ := hp
  refine lv_iadd hx hb sj_d_api_10 ?_
  rw [← Int32.ofInt_add]
  refine lv_istore_n (lv' := [(3, .int (Int32.ofInt ((n : Int) + 1))), (2, .int (Int32.ofInt (n : Int))), (0, .ref b), (1, .int (Int32.ofInt x))]) hx hb sj_d_api_11 rfl hl (by decide) rfl (fun ls hl => ?_)
  refine lv_aload_n hx hb sj_d_api_12 rfl (lv_at hl 2 rfl) ?_
  refine lv_iload_n hx hb sj_d_api_13 rfl (lv_at hl 0 rfl) ?_
  refine sj_cV (C := "java/lang/StringBuilder") (n := 1) (As := [.int (Int32.ofInt ((n : Int) + 1))]) (rest := []) hx hb (hml.trans hl.1.symm) hown hts hI hS hP (fun _ h => h) (sj_ens (x := (n : Int) + 1) (by omega) (by omega)) sj_w_ens (bc_wat_ok (pos := 71) (by decide +kernel)) (bc_wat_ok (pos := 1226) (by decide +kernel)) (bc_wat_ok (pos := 1228) (by decide +kernel)) (va_Nw.use rfl (hI.2.2.2.2.2.1 _ (List.mem_of_getElem? (i := 0) rfl))) (va_recv (q := ("java/lang/StringBuilder", sj_T0, 4)) (q0 := 0) hI.1 hP rfl rfl) ⟨by decide +kernel, by decide +kernel, by decide +kernel⟩ ⟨by rw [hRf]; exact Nat.le_of_ble_eq_true rfl, by rw [hRl]; exact Nat.le_of_ble_eq_true rfl⟩ ⟨by rw [hRc]; exact Nat.le_of_ble_eq_true rfl, by rw [hRs]; exact Nat.le_of_ble_eq_true rfl⟩ rfl rfl (Nat.le_of_ble_eq_true rfl) sj_d_api_14 (fun r H2 locs2 hp hk hz hS => ?_)
  obtain ⟨rfl, rfl⟩ := hp
  refine lv_aload_n hx hb sj_d_api_17 rfl (lv_at hl 2 rfl) ?_
  refine sj_cV (C := "java/lang/StringBuilder") (n := 0) (As := []) (rest := []) hx hb (hml.trans hl.1.symm) hown hts hI hS hP (fun _ h => h) sj_lat sj_w_lat (bc_wat_ok (pos := 71) (by decide +kernel)) (bc_wat_ok (pos := 1255) (by decide +kernel)) (bc_wat_ok (pos := 1256) (by decide +kernel)) (hts _ (bc_wat_ok (pos := 1258) (by decide +kernel))) (va_recv (q := ("java/lang/StringBuilder", sj_T0, 4)) (q0 := 0) hI.1 hP rfl rfl) ⟨by decide +kernel, by decide +kernel, by decide +kernel⟩ ⟨by rw [hRf]; exact Nat.le_of_ble_eq_true rfl, by rw [hRl]; exact Nat.le_of_ble_eq_true rfl⟩ ⟨by rw [hRc]; exact Nat.le_of_ble_eq_true rfl, by rw [hRs]; exact Nat.le_of_ble_eq_true rfl⟩ rfl rfl (Nat.le_of_ble_eq_true rfl) sj_d_api_18 (fun r H2 locs2 hp hk hz hS => ?_)
  obtain ⟨rfl, rfl⟩ := hp
  refine lv_if_eq (tgt := 37) hx hb sj_d_api_21 (by decide) (fun h => absurd h (by decide)) (fun _ => ?_)
  refine lv_iload_n hx hb sj_d_api_24 rfl (lv_at hl 3 rfl) ?_
  refine lv_iload_n hx hb sj_d_api_25 rfl (lv_at hl 0 rfl) ?_
  refine lv_aload_n hx hb sj_d_api_26 rfl (lv_at hl 2 rfl) ?_
  refine va_get (D := θ.1) (cl := sj_cl) (ws := [(b, .inr (0, [.ref da, .int 0, .int ml, .int (Int32.ofInt (n : Int))])), (da, .inl (θ.2.1, 16, .inl f))]) (tys := [(θ.2.1, .byte)]) (C := "java/lang/StringBuilder") (T := sj_T0) (N := 4) (ci := 0) hx hb hts sj_w0 hown hI.1 hP 0 rfl rfl 0 (by decide) (hts (.fieldLink "java/lang/AbstractStringBuilder" 15 "java/lang/AbstractStringBuilder" "value" "[B") (bc_wat_ok (pos := 1203) (by decide +kernel))) (fun _ h9 => h9) rfl sj_d_api_27 ?_
  refine sj_cS (n := 3) (As := [.int (Int32.ofInt x), .int (Int32.ofInt ((n : Int) + 1)), .ref da]) (rest := []) hx hb (hml.trans hl.1.symm) hown hts hI hS hP (fun _ h => h) (sj_gch1 hD h0 h1 hn) sj_w_gch (bc_wat_ok (pos := 74) (by decide +kernel)) (bc_wat_ok (pos := 1260) (by decide +kernel)) (bc_wat_ok (pos := 1261) (by decide +kernel)) ⟨by decide +kernel, by decide +kernel, by decide +kernel⟩ ⟨by rw [hRf]; exact Nat.le_of_ble_eq_true rfl, by rw [hRl]; exact Nat.le_of_ble_eq_true rfl⟩ ⟨by rw [hRc]; exact Nat.le_of_ble_eq_true rfl, by rw [hRs]; exact Nat.le_of_ble_eq_true rfl⟩ rfl rfl (Nat.le_of_ble_eq_true rfl) sj_d_api_30 (fun r H2 locs2 hp hk hz hS => ?_)
  obtain ⟨rfl, hP⟩ := hp
  have hD : va_D θ.2.2.2.2 [(b, .inr (0, [.ref da, .int 0, .int ml, .int (Int32.ofInt (n : Int))])), (da, .inl (θ.2.1, 16, .inl (upd f n (Int32.ofInt (48 + x % 10)))))] := sj_D2 hD
  refine lv_pop hx hb sj_d_api_33 rfl ?_
  refine lv_goto (tgt := 48) hx hb sj_d_api_34 (by decide) ?_
  refine lv_aload_n hx hb sj_d_api_48 rfl (lv_at hl 2 rfl) ?_
  refine lv_iload_n hx hb sj_d_api_49 rfl (lv_at hl 0 rfl) ?_
  refine va_put (D := θ.1) (cl := sj_cl) (ws := [(b, .inr (0, [.ref da, .int 0, .int ml, .int (Int32.ofInt (n : Int))])), (da, .inl (θ.2.1, 16, .inl (upd f n (Int32.ofInt (48 + x % 10)))))]) (tys := [(θ.2.1, .byte)]) (C := "java/lang/StringBuilder") (T := sj_T0) (N := 4) (ci := 0) hx hb hts sj_w0 sj_y0 sj_t0 sj_n0 hown hI.1 hP hD hS 0 rfl rfl 3 (by decide) (hts (.fieldLink "java/lang/AbstractStringBuilder" 79 "java/lang/AbstractStringBuilder" "count" "I") (bc_wat_ok (pos := 1206) (by decide +kernel))) (fun _ h9 => h9) rfl (ty := .int) (by decide +kernel) rfl rfl (Nat.le_of_ble_eq_true rfl) sj_d_api_50 (fun H2 locs2 hP hD hS => ?_)
  have hP : va_P θ.1 sj_cl [(b, .inr (0, [.ref da, .int 0, .int ml, .int (Int32.ofInt ((n : Int) + 1))])), (da, .inl (θ.2.1, 16, .inl (upd f n (Int32.ofInt (48 + x % 10)))))] H2 := hP
  have hD : va_D θ.2.2.2.2 [(b, .inr (0, [.ref da, .int 0, .int ml, .int (Int32.ofInt ((n : Int) + 1))])), (da, .inl (θ.2.1, 16, .inl (upd f n (Int32.ofInt (48 + x % 10)))))] := hD
  refine lv_aload_n hx hb sj_d_api_53 rfl (lv_at hl 2 rfl) ?_
  refine W.widen (k := 0) (n := 0) (Nat.le_of_ble_eq_true rfl) (Nat.le_of_ble_eq_true rfl) ?_
  exact W.aret hx hb hr (Or.inl ⟨_, rfl⟩) (Or.inr ⟨_, rfl⟩) (fun t ht hW => ⟨⟨_, rfl, by rw [ht]; exact ⟨rfl, hP⟩⟩, hS.F ht⟩) hS.2.2 sj_d_api_54
theorem sj_d_apn_0 : decode sj_c_apn 0 = .ok (.aload_n 0, 1) := by decide +kernel
theorem sj_d_apn_1 : decode sj_c_apn 1 = .ok (.iload_n 1, 1) := by decide +kernel
theorem sj_d_apn_2 : decode sj_c_apn 2 = .ok (.invokespecial 53, 3) := by decide +kernel
theorem sj_d_apn_5 : decode sj_c_apn 5 = .ok (.pop, 1) := by decide +kernel
theorem sj_d_apn_6 : decode sj_c_apn 6 = .ok (.aload_n 0, 1) := by decide +kernel
theorem sj_d_apn_7 : decode sj_c_apn 7 = .ok (.areturn, 1) := by decide +kernel
theorem sj_apn1 {l : Launch} {θ : sj_w} {ss : List sj_s} {H : Heap} {b da n : Nat} {ml : Int32} {f : Nat → Int32} {x : Int} (hD : va_D θ.2.2.2.2 [(b, .inr (0, [.ref da, .int 0, .int ml, .int (Int32.ofInt (n : Int))])), (da, .inl (θ.2.1, 16, .inl f))]) (h0 : 0 ≤ x) (h1 : x < 10) (hn : n + 1 ≤ 16) : sj_M l θ ss sj_y_apn sj_c_apn 2 (some (.object "java/lang/StringBuilder")) 2 0 0 [.ref b, .int (Int32.ofInt x)] [(b, .inr (0, [.ref da, .int 0, .int ml, .int (Int32.ofInt (n : Int))])), (da, .inl (θ.2.1, 16, .inl f))] H (fun r K => r = some (.ref b) ∧ va_P θ.1 sj_cl [(b, .inr (0, [.ref da, .int 0, .int ml, .int (Int32.ofInt ((n : Int) + 1))])), (da, .inl (θ.2.1, 16, .inl (upd f n (Int32.ofInt (48 + x % 10)))))] K) := by
  refine sj_ofW (by decide +kernel) (Nat.le_of_ble_eq_true rfl) (fun p e R s m args below meth c ls F hH hP hl => ?_)
  obtain ⟨hx, hb, hml, hts, hown, hlocks, hI, hRf, hRl, hRc, hRs, hr, hnm⟩ := F
  have hl : lv_has ls 2 [(0, .ref b), (1, .int (Int32.ofInt x))] := hl
  have hS : va_S θ.2.2.2.2 s.heap s.heap [] := va_S.rf
  refine lv_aload_n hx hb sj_d_apn_0 rfl (lv_at hl 0 rfl) ?_
  refine lv_iload_n hx hb sj_d_apn_1 rfl (lv_at hl 1 rfl) ?_
  refine sj_cU (q0 := 0) (n := 1) (As := [.int (Int32.ofInt x)]) (rest := []) hx hb (hml.trans hl.1.symm) hown hts hI hS hP (fun _ h => h) (sj_api1 hD h0 h1 hn) sj_w_api (bc_wat_ok (pos := 71) (by decide +kernel)) (bc_wat_ok (pos := 1220) (by decide +kernel)) (bc_wat_ok (pos := 1571) (by decide +kernel)) (bc_wat_ok (pos := 1215) (by decide +kernel)) (bc_wat_ok (pos := 1221) (by decide +kernel)) rfl ⟨by decide +kernel, by decide +kernel⟩ ⟨by rw [hRf]; exact Nat.le_of_ble_eq_true rfl, by rw [hRl]; exact Nat.le_of_ble_eq_true rfl⟩ ⟨by rw [hRc]; exact Nat.le_of_ble_eq_true rfl, by rw [hRs]; exact Nat.le_of_ble_eq_true rfl⟩ rfl rfl (Nat.le_of_ble_eq_true rfl) sj_d_apn_2 (fun r H2 locs2 hp hk hz hS => ?_)
  obtain ⟨rfl, hP⟩ := hp
  refine lv_pop hx hb sj_d_apn_5 rfl ?_
  refine lv_aload_n hx hb sj_d_apn_6 rfl (lv_at hl 0 rfl) ?_
  refine W.widen (k := 0) (n := 0) (Nat.le_of_ble_eq_true rfl) (Nat.le_of_ble_eq_true rfl) ?_
  exact W.aret hx hb hr (Or.inl ⟨_, rfl⟩) (Or.inr ⟨_, rfl⟩) (fun t ht hW => ⟨⟨_, rfl, by rw [ht]; exact ⟨rfl, hP⟩⟩, hS.F ht⟩) hS.2.2 sj_d_apn_7
theorem sj_api2 {l : Launch} {θ : sj_w} {ss : List sj_s} {H : Heap} {b da n : Nat} {ml : Int32} {f : Nat → Int32} {x : Int} (hD : va_D θ.2.2.2.2 [(b, .inr (0, [.ref da, .int 0, .int ml, .int (Int32.ofInt (n : Int))])), (da, .inl (θ.2.1, 16, .inl f))]) (h0 : 10 ≤ x) (h1 : x < 100) (hn : n + 2 ≤ 16) : sj_M l θ ss sj_y_api sj_c_api 4 (some (.object "java/lang/AbstractStringBuilder")) 1 0 0 [.ref b, .int (Int32.ofInt x)] [(b, .inr (0, [.ref da, .int 0, .int ml, .int (Int32.ofInt (n : Int))])), (da, .inl (θ.2.1, 16, .inl f))] H (fun r K => r = some (.ref b) ∧ va_P θ.1 sj_cl [(b, .inr (0, [.ref da, .int 0, .int ml, .int (Int32.ofInt ((n : Int) + 2))])), (da, .inl (θ.2.1, 16, .inl (upd (upd f (n + 1) (Int32.ofInt (48 + x % 10))) n (Int32.ofInt (48 + x / 10)))))] K) := by
  refine sj_ofW (by decide +kernel) (Nat.le_of_ble_eq_true rfl) (fun p e R s m args below meth c ls F hH hP hl => ?_)
  obtain ⟨hx, hb, hml, hts, hown, hlocks, hI, hRf, hRl, hRc, hRs, hr, hnm⟩ := F
  have hl : lv_has ls 4 [(0, .ref b), (1, .int (Int32.ofInt x))] := hl
  have hS : va_S θ.2.2.2.2 s.heap s.heap [] := va_S.rf
  refine lv_aload_n hx hb sj_d_api_0 rfl (lv_at hl 0 rfl) ?_
  refine va_get (D := θ.1) (cl := sj_cl) (ws := [(b, .inr (0, [.ref da, .int 0, .int ml, .int (Int32.ofInt (n : Int))])), (da, .inl (θ.2.1, 16, .inl f))]) (tys := [(θ.2.1, .byte)]) (C := "java/lang/StringBuilder") (T := sj_T0) (N := 4) (ci := 0) hx hb hts sj_w0 hown hI.1 hP 0 rfl rfl 3 (by decide) (hts (.fieldLink "java/lang/AbstractStringBuilder" 79 "java/lang/AbstractStringBuilder" "count" "I") (bc_wat_ok (pos := 1206) (by decide +kernel))) (fun _ h9 => h9) rfl sj_d_api_1 ?_
  refine lv_istore_n (lv' := [(2, .int (Int32.ofInt (n : Int))), (0, .ref b), (1, .int (Int32.ofInt x))]) hx hb sj_d_api_4 rfl hl (by decide) rfl (fun ls hl => ?_)
  refine lv_iload_n hx hb sj_d_api_5 rfl (lv_at hl 0 rfl) ?_
  refine lv_iload_n hx hb sj_d_api_6 rfl (lv_at hl 2 rfl) ?_
  refine sj_cS (n := 1) (As := [.int (Int32.ofInt x)]) (rest := [.int (Int32.ofInt (n : Int))]) hx hb (hml.trans hl.1.symm) hown hts hI hS hP (fun _ h => h) (sj_siz2 h0 h1) sj_w_siz (bc_wat_ok (pos := 74) (by decide +kernel)) (bc_wat_ok (pos := 1223) (by decide +kernel)) (bc_wat_ok (pos := 1224) (by decide +kernel)) ⟨by decide +kernel, by decide +kernel, by decide +kernel⟩ ⟨by rw [hRf]; exact Nat.le_of_ble_eq_true rfl, by rw [hRl]; exact Nat.le_of_ble_eq_true rfl⟩ ⟨by rw [hRc]; exact Nat.le_of_ble_eq_true rfl, by rw [hRs]; exact Nat.le_of_ble_eq_true rfl⟩ rfl rfl (Nat.le_of_ble_eq_true rfl) sj_d_api_7 (fun r H2 locs2 hp hk hz hS => ?_)
  obtain ⟨rfl, rfl⟩ := hp
  refine lv_iadd hx hb sj_d_api_10 ?_
  rw [← Int32.ofInt_add]
  refine lv_istore_n (lv' := [(3, .int (Int32.ofInt ((n : Int) + 2))), (2, .int (Int32.ofInt (n : Int))), (0, .ref b), (1, .int (Int32.ofInt x))]) hx hb sj_d_api_11 rfl hl (by decide) rfl (fun ls hl => ?_)
  refine lv_aload_n hx hb sj_d_api_12 rfl (lv_at hl 2 rfl) ?_
  refine lv_iload_n hx hb sj_d_api_13 rfl (lv_at hl 0 rfl) ?_
  refine sj_cV (C := "java/lang/StringBuilder") (n := 1) (As := [.int (Int32.ofInt ((n : Int) + 2))]) (rest := []) hx hb (hml.trans hl.1.symm) hown hts hI hS hP (fun _ h => h) (sj_ens (x := (n : Int) + 2) (by omega) (by omega)) sj_w_ens (bc_wat_ok (pos := 71) (by decide +kernel)) (bc_wat_ok (pos := 1226) (by decide +kernel)) (bc_wat_ok (pos := 1228) (by decide +kernel)) (va_Nw.use rfl (hI.2.2.2.2.2.1 _ (List.mem_of_getElem? (i := 0) rfl))) (va_recv (q := ("java/lang/StringBuilder", sj_T0, 4)) (q0 := 0) hI.1 hP rfl rfl) ⟨by decide +kernel, by decide +kernel, by decide +kernel⟩ ⟨by rw [hRf]; exact Nat.le_of_ble_eq_true rfl, by rw [hRl]; exact Nat.le_of_ble_eq_true rfl⟩ ⟨by rw [hRc]; exact Nat.le_of_ble_eq_true rfl, by rw [hRs]; exact Nat.le_of_ble_eq_true rfl⟩ rfl rfl (Nat.le_of_ble_eq_true rfl) sj_d_api_14 (fun r H2 locs2 hp hk hz hS => ?_)
  obtain ⟨rfl, rfl⟩ := hp
  refine lv_aload_n hx hb sj_d_api_17 rfl (lv_at hl 2 rfl) ?_
  refine sj_cV (C := "java/lang/StringBuilder") (n := 0) (As := []) (rest := []) hx hb (hml.trans hl.1.symm) hown hts hI hS hP (fun _ h => h) sj_lat sj_w_lat (bc_wat_ok (pos := 71) (by decide +kernel)) (bc_wat_ok (pos := 1255) (by decide +kernel)) (bc_wat_ok (pos := 1256) (by decide +kernel)) (hts _ (bc_wat_ok (pos := 1258) (by decide +kernel))) (va_recv (q := ("java/lang/StringBuilder", sj_T0, 4)) (q0 := 0) hI.1 hP rfl rfl) ⟨by decide +kernel, by decide +kernel, by decide +kernel⟩ ⟨by rw [hRf]; exact Nat.le_of_ble_eq_true rfl, by rw [hRl]; exact Nat.le_of_ble_eq_true rfl⟩ ⟨by rw [hRc]; exact Nat.le_of_ble_eq_true rfl, by rw [hRs]; exact Nat.le_of_ble_eq_true rfl⟩ rfl rfl (Nat.le_of_ble_eq_true rfl) sj_d_api_18 (fun r H2 locs2 hp hk hz hS => ?_)
  obtain ⟨rfl, rfl⟩ := hp
  refine lv_if_eq (tgt := 37) hx hb sj_d_api_21 (by decide) (fun h => absurd h (by decide)) (fun _ => ?_)
  refine lv_iload_n hx hb sj_d_api_24 rfl (lv_at hl 3 rfl) ?_
  refine lv_iload_n hx hb sj_d_api_25 rfl (lv_at hl 0 rfl) ?_
  refine lv_aload_n hx hb sj_d_api_26 rfl (lv_at hl 2 rfl) ?_
  refine va_get (D := θ.1) (cl := sj_cl) (ws := [(b, .inr (0, [.ref da, .int 0, .int ml, .int (Int32.ofInt (n : Int))])), (da, .inl (θ.2.1, 16, .inl f))]) (tys := [(θ.2.1, .byte)]) (C := "java/lang/StringBuilder") (T := sj_T0) (N := 4) (ci := 0) hx hb hts sj_w0 hown hI.1 hP 0 rfl rfl 0 (by decide) (hts (.fieldLink "java/lang/AbstractStringBuilder" 15 "java/lang/AbstractStringBuilder" "value" "[B") (bc_wat_ok (pos := 1203) (by decide +kernel))) (fun _ h9 => h9) rfl sj_d_api_27 ?_
  refine sj_cS (n := 3) (As := [.int (Int32.ofInt x), .int (Int32.ofInt ((n : Int) + 2)), .ref da]) (rest := []) hx hb (hml.trans hl.1.symm) hown hts hI hS hP (fun _ h => h) (sj_gch2 hD h0 h1 hn) sj_w_gch (bc_wat_ok (pos := 74) (by decide +kernel)) (bc_wat_ok (pos := 1260) (by decide +kernel)) (bc_wat_ok (pos := 1261) (by decide +kernel)) ⟨by decide +kernel, by decide +kernel, by decide +kernel⟩ ⟨by rw [hRf]; exact Nat.le_of_ble_eq_true rfl, by rw [hRl]; exact Nat.le_of_ble_eq_true rfl⟩ ⟨by rw [hRc]; exact Nat.le_of_ble_eq_true rfl, by rw [hRs]; exact Nat.le_of_ble_eq_true rfl⟩ rfl rfl (Nat.le_of_ble_eq_true rfl) sj_d_api_30 (fun r H2 locs2 hp hk hz hS => ?_)
  obtain ⟨rfl, hP⟩ := hp
  have hD : va_D θ.2.2.2.2 [(b, .inr (0, [.ref da, .int 0, .int ml, .int (Int32.ofInt (n : Int))])), (da, .inl (θ.2.1, 16, .inl (upd (upd f (n + 1) (Int32.ofInt (48 + x % 10))) n (Int32.ofInt (48 + x / 10)))))] := sj_D2 hD
  refine lv_pop hx hb sj_d_api_33 rfl ?_
  refine lv_goto (tgt := 48) hx hb sj_d_api_34 (by decide) ?_
  refine lv_aload_n hx hb sj_d_api_48 rfl (lv_at hl 2 rfl) ?_
  refine lv_iload_n hx hb sj_d_api_49 rfl (lv_at hl 0 rfl) ?_
  refine va_put (D := θ.1) (cl := sj_cl) (ws := [(b, .inr (0, [.ref da, .int 0, .int ml, .int (Int32.ofInt (n : Int))])), (da, .inl (θ.2.1, 16, .inl (upd (upd f (n + 1) (Int32.ofInt (48 + x % 10))) n (Int32.ofInt (48 + x / 10)))))]) (tys := [(θ.2.1, .byte)]) (C := "java/lang/StringBuilder") (T := sj_T0) (N := 4) (ci := 0) hx hb hts sj_w0 sj_y0 sj_t0 sj_n0 hown hI.1 hP hD hS 0 rfl rfl 3 (by decide) (hts (.fieldLink "java/lang/AbstractStringBuilder" 79 "java/lang/AbstractStringBuilder" "count" "I") (bc_wat_ok (pos := 1206) (by decide +kernel))) (fun _ h9 => h9) rfl (ty := .int) (by decide +kernel) rfl rfl (Nat.le_of_ble_eq_true rfl) sj_d_api_50 (fun H2 locs2 hP hD hS => ?_)
  have hP : va_P θ.1 sj_cl [(b, .inr (0, [.ref da, .int 0, .int ml, .int (Int32.ofInt ((n : Int) + 2))])), (da, .inl (θ.2.1, 16, .inl (upd (upd f (n + 1) (Int32.ofInt (48 + x % 10))) n (Int32.ofInt (48 + x / 10)))))] H2 := hP
  have hD : va_D θ.2.2.2.2 [(b, .inr (0, [.ref da, .int 0, .int ml, .int (Int32.ofInt ((n : Int) + 2))])), (da, .inl (θ.2.1, 16, .inl (upd (upd f (n + 1) (Int32.ofInt (48 + x % 10))) n (Int32.ofInt (48 + x / 10)))))] := hD
  refine lv_aload_n hx hb sj_d_api_53 rfl (lv_at hl 2 rfl) ?_
  refine W.widen (k := 0) (n := 0) (Nat.le_of_ble_eq_true rfl) (Nat.le_of_ble_eq_true rfl) ?_
  exact W.aret hx hb hr (Or.inl ⟨_, rfl⟩) (Or.inr ⟨_, rfl⟩) (fun t ht hW => ⟨⟨_, rfl, by rw [ht]; exact ⟨rfl, hP⟩⟩, hS.F ht⟩) hS.2.2 sj_d_api_54
theorem sj_apn2 {l : Launch} {θ : sj_w} {ss : List sj_s} {H : Heap} {b da n : Nat} {ml : Int32} {f : Nat → Int32} {x : Int} (hD : va_D θ.2.2.2.2 [(b, .inr (0, [.ref da, .int 0, .int ml, .int (Int32.ofInt (n : Int))])), (da, .inl (θ.2.1, 16, .inl f))]) (h0 : 10 ≤ x) (h1 : x < 100) (hn : n + 2 ≤ 16) : sj_M l θ ss sj_y_apn sj_c_apn 2 (some (.object "java/lang/StringBuilder")) 2 0 0 [.ref b, .int (Int32.ofInt x)] [(b, .inr (0, [.ref da, .int 0, .int ml, .int (Int32.ofInt (n : Int))])), (da, .inl (θ.2.1, 16, .inl f))] H (fun r K => r = some (.ref b) ∧ va_P θ.1 sj_cl [(b, .inr (0, [.ref da, .int 0, .int ml, .int (Int32.ofInt ((n : Int) + 2))])), (da, .inl (θ.2.1, 16, .inl (upd (upd f (n + 1) (Int32.ofInt (48 + x % 10))) n (Int32.ofInt (48 + x / 10)))))] K) := by
  refine sj_ofW (by decide +kernel) (Nat.le_of_ble_eq_true rfl) (fun p e R s m args below meth c ls F hH hP hl => ?_)
  obtain ⟨hx, hb, hml, hts, hown, hlocks, hI, hRf, hRl, hRc, hRs, hr, hnm⟩ := F
  have hl : lv_has ls 2 [(0, .ref b), (1, .int (Int32.ofInt x))] := hl
  have hS : va_S θ.2.2.2.2 s.heap s.heap [] := va_S.rf
  refine lv_aload_n hx hb sj_d_apn_0 rfl (lv_at hl 0 rfl) ?_
  refine lv_iload_n hx hb sj_d_apn_1 rfl (lv_at hl 1 rfl) ?_
  refine sj_cU (q0 := 0) (n := 1) (As := [.int (Int32.ofInt x)]) (rest := []) hx hb (hml.trans hl.1.symm) hown hts hI hS hP (fun _ h => h) (sj_api2 hD h0 h1 hn) sj_w_api (bc_wat_ok (pos := 71) (by decide +kernel)) (bc_wat_ok (pos := 1220) (by decide +kernel)) (bc_wat_ok (pos := 1571) (by decide +kernel)) (bc_wat_ok (pos := 1215) (by decide +kernel)) (bc_wat_ok (pos := 1221) (by decide +kernel)) rfl ⟨by decide +kernel, by decide +kernel⟩ ⟨by rw [hRf]; exact Nat.le_of_ble_eq_true rfl, by rw [hRl]; exact Nat.le_of_ble_eq_true rfl⟩ ⟨by rw [hRc]; exact Nat.le_of_ble_eq_true rfl, by rw [hRs]; exact Nat.le_of_ble_eq_true rfl⟩ rfl rfl (Nat.le_of_ble_eq_true rfl) sj_d_apn_2 (fun r H2 locs2 hp hk hz hS => ?_)
  obtain ⟨rfl, hP⟩ := hp
  refine lv_pop hx hb sj_d_apn_5 rfl ?_
  refine lv_aload_n hx hb sj_d_apn_6 rfl (lv_at hl 0 rfl) ?_
  refine W.widen (k := 0) (n := 0) (Nat.le_of_ble_eq_true rfl) (Nat.le_of_ble_eq_true rfl) ?_
  exact W.aret hx hb hr (Or.inl ⟨_, rfl⟩) (Or.inr ⟨_, rfl⟩) (fun t ht hW => ⟨⟨_, rfl, by rw [ht]; exact ⟨rfl, hP⟩⟩, hS.F ht⟩) hS.2.2 sj_d_apn_7
abbrev sj_y_abi : MethodName := ⟨"java/lang/AbstractStringBuilder", "<init>", "(I)V"⟩
abbrev sj_c_abi : ByteArray := prog_15_method_2_code
theorem sj_w_abi : Cond.code sj_y_abi sj_c_abi 2 none ∈ bc_W := (bc_mem_W (bc_tk5 (List.mem_of_getElem? (i := 190) rfl)) rfl)
theorem sj_d_abi_0 : decode sj_c_abi 0 = .ok (.aload_n 0, 1) := by decide +kernel
theorem sj_d_abi_1 : decode sj_c_abi 1 = .ok (.invokespecial 3, 3) := by decide +kernel
theorem sj_d_abi_4 : decode sj_c_abi 4 = .ok (.getstatic 18, 3) := by decide +kernel
theorem sj_d_abi_7 : decode sj_c_abi 7 = .ok (.ifCond .eq 18, 3) := by decide +kernel
theorem sj_d_abi_10 : decode sj_c_abi 10 = .ok (.aload_n 0, 1) := by decide +kernel
theorem sj_d_abi_11 : decode sj_c_abi 11 = .ok (.iload_n 1, 1) := by decide +kernel
theorem sj_d_abi_12 : decode sj_c_abi 12 = .ok (.newarray .byte, 2) := by decide +kernel
theorem sj_d_abi_14 : decode sj_c_abi 14 = .ok (.putfield 15, 3) := by decide +kernel
theorem sj_d_abi_17 : decode sj_c_abi 17 = .ok (.aload_n 0, 1) := by decide +kernel
theorem sj_d_abi_18 : decode sj_c_abi 18 = .ok (.iconst 0, 1) := by decide +kernel
theorem sj_d_abi_19 : decode sj_c_abi 19 = .ok (.putfield 22, 3) := by decide +kernel
theorem sj_d_abi_22 : decode sj_c_abi 22 = .ok (.goto (16), 3) := by decide +kernel
theorem sj_d_abi_38 : decode sj_c_abi 38 = .ok (.return_, 1) := by decide +kernel
theorem sj_abi {l : Launch} {θ : sj_w} {ss : List sj_s} {H : Heap} {b : Nat} (hD : va_D θ.2.2.2.2 [(b, .inr (0, [.null, .int 0, .int 0, .int 0]))]) : sj_M l θ ss sj_y_abi sj_c_abi 2 none 1 1 16 [.ref b, .int (Int32.ofInt 16)] [(b, .inr (0, [.null, .int 0, .int 0, .int 0]))] H (fun r K => r = none ∧ va_P θ.1 sj_cl [(b, .inr (0, [.ref H.size, .int 0, .int 0, .int 0])), (H.size, .inl (θ.2.1, 16, .inl (fun _ => 0)))] K) := by
  refine sj_ofW (by decide +kernel) (Nat.le_of_ble_eq_true rfl) (fun p e R s m args below meth c ls F hH hP hl => ?_)
  obtain ⟨hx, hb, hml, hts, hown, hlocks, hI, hRf, hRl, hRc, hRs, hr, hnm⟩ := F
  have hl : lv_has ls 2 [(0, .ref b), (1, .int (Int32.ofInt 16))] := hl
  have hS : va_S θ.2.2.2.2 s.heap s.heap [] := va_S.rf
  refine lv_aload_n hx hb sj_d_abi_0 rfl (lv_at hl 0 rfl) ?_
  refine W.objInit hx hb hown (hts (.methodLink "java/lang/AbstractStringBuilder" 3 objectInit) (bc_wat_ok (pos := 1194) (by decide +kernel))) (hts (.instanceMethod objectInit) (bc_wat_ok (pos := 84) (by decide +kernel))) (hts _ (bc_wat_ok (pos := 85) (by decide +kernel))) rfl (by rw [hml]; exact hl.1) rfl sj_d_abi_1 (by rw [hRf]; exact Nat.le_of_ble_eq_true rfl) (by rw [hRl]; exact Nat.le_of_ble_eq_true rfl) ?_
  refine W.eq (g2 := F0 m 4 ls []) rfl ?_
  refine va_gets hx hb hI.2.1.1 hS hown (hts (.fieldLink "java/lang/AbstractStringBuilder" 18 "java/lang/String" "COMPACT_STRINGS" "Z") (bc_wat_ok (pos := 1195) (by decide +kernel))) (fun _ h => h) sj_d_abi_4 ?_
  refine lv_if_eq (tgt := 25) hx hb sj_d_abi_7 (by decide) (fun h => absurd h (by decide)) (fun _ => ?_)
  refine lv_aload_n hx hb sj_d_abi_10 rfl (lv_at hl 0 rfl) ?_
  refine lv_iload_n hx hb sj_d_abi_11 rfl (lv_at hl 1 rfl) ?_
  have hz0 : s.heap.size = H.size := by rw [hH]
  refine sj_newa (n := 16) hx hb hts hI hP hD hS (by decide) (by rw [hRc]; exact Nat.le_refl _) (by rw [hRs]; exact Nat.le_refl _) sj_d_abi_12 (fun H2 z2 k2 hP hD hS => ?_)
  have hP : va_P θ.1 sj_cl [(b, .inr (0, [.null, .int 0, .int 0, .int 0])), (s.heap.size, .inl (θ.2.1, 16, .inl (fun _ => 0)))] H2 := hP
  have hD : va_D θ.2.2.2.2 [(b, .inr (0, [.null, .int 0, .int 0, .int 0])), (s.heap.size, .inl (θ.2.1, 16, .inl (fun _ => 0)))] := hD
  refine va_put (D := θ.1) (cl := sj_cl) (ws := [(b, .inr (0, [.null, .int 0, .int 0, .int 0])), (s.heap.size, .inl (θ.2.1, 16, .inl (fun _ => 0)))]) (tys := [(θ.2.1, .byte)]) (C := "java/lang/StringBuilder") (T := sj_T0) (N := 4) (ci := 0) hx hb hts sj_w0 sj_y0 sj_t0 sj_n0 hown hI.1 hP hD hS 0 rfl rfl 0 (by decide) (hts (.fieldLink "java/lang/AbstractStringBuilder" 15 "java/lang/AbstractStringBuilder" "value" "[B") (bc_wat_ok (pos := 1203) (by decide +kernel))) (fun _ h9 => h9) rfl (ty := .array .byte) (by decide +kernel) rfl rfl (Nat.le_of_ble_eq_true rfl) sj_d_abi_14 (fun H2 locs2 hP hD hS => ?_)
  have hP : va_P θ.1 sj_cl [(b, .inr (0, [.ref s.heap.size, .int 0, .int 0, .int 0])), (s.heap.size, .inl (θ.2.1, 16, .inl (fun _ => 0)))] H2 := hP
  have hD : va_D θ.2.2.2.2 [(b, .inr (0, [.ref s.heap.size, .int 0, .int 0, .int 0])), (s.heap.size, .inl (θ.2.1, 16, .inl (fun _ => 0)))] := hD
  refine lv_aload_n hx hb sj_d_abi_17 rfl (lv_at hl 0 rfl) ?_
  refine lv_iconst (v := 0) hx hb sj_d_abi_18 (by decide) ?_
  refine va_put (D := θ.1) (cl := sj_cl) (ws := [(b, .inr (0, [.ref s.heap.size, .int 0, .int 0, .int 0])), (s.heap.size, .inl (θ.2.1, 16, .inl (fun _ => 0)))]) (tys := [(θ.2.1, .byte)]) (C := "java/lang/StringBuilder") (T := sj_T0) (N := 4) (ci := 0) hx hb hts sj_w0 sj_y0 sj_t0 sj_n0 hown hI.1 hP hD hS 0 rfl rfl 1 (by decide) (hts (.fieldLink "java/lang/AbstractStringBuilder" 22 "java/lang/AbstractStringBuilder" "coder" "B") (bc_wat_ok (pos := 1204) (by decide +kernel))) (fun _ h9 => h9) rfl (ty := .byte) (by decide +kernel) rfl rfl (Nat.le_of_ble_eq_true rfl) sj_d_abi_19 (fun H2 locs2 hP hD hS => ?_)
  have hP : va_P θ.1 sj_cl [(b, .inr (0, [.ref s.heap.size, .int 0, .int 0, .int 0])), (s.heap.size, .inl (θ.2.1, 16, .inl (fun _ => 0)))] H2 := hP
  have hD : va_D θ.2.2.2.2 [(b, .inr (0, [.ref s.heap.size, .int 0, .int 0, .int 0])), (s.heap.size, .inl (θ.2.1, 16, .inl (fun _ => 0)))] := hD
  refine lv_goto (tgt := 38) hx hb sj_d_abi_22 (by decide) ?_
  refine W.widen (k := 1) (n := 16) (Nat.le_of_ble_eq_true rfl) (Nat.le_of_ble_eq_true rfl) ?_
  exact W.vret hx hb hr (fun t ht hW => ⟨⟨_, rfl, by rw [ht, ← hz0]; exact ⟨rfl, hP⟩⟩, hS.F ht⟩) hS.2.2 sj_d_abi_38
abbrev sj_y_sbi : MethodName := ⟨"java/lang/StringBuilder", "<init>", "()V"⟩
abbrev sj_c_sbi : ByteArray := prog_32_method_1_code
theorem sj_w_sbi : Cond.code sj_y_sbi sj_c_sbi 1 none ∈ bc_W := (bc_mem_W (bc_tk5 (List.mem_of_getElem? (i := 187) rfl)) rfl)
theorem sj_d_sbi_0 : decode sj_c_sbi 0 = .ok (.aload_n 0, 1) := by decide +kernel
theorem sj_d_sbi_1 : decode sj_c_sbi 1 = .ok (.bipush 16, 2) := by decide +kernel
theorem sj_d_sbi_3 : decode sj_c_sbi 3 = .ok (.invokespecial 1, 3) := by decide +kernel
theorem sj_d_sbi_6 : decode sj_c_sbi 6 = .ok (.return_, 1) := by decide +kernel
theorem sj_sbi {l : Launch} {θ : sj_w} {ss : List sj_s} {H : Heap} {b : Nat} (hD : va_D θ.2.2.2.2 [(b, .inr (0, [.null, .int 0, .int 0, .int 0]))]) : sj_M l θ ss sj_y_sbi sj_c_sbi 1 none 2 1 16 [.ref b] [(b, .inr (0, [.null, .int 0, .int 0, .int 0]))] H (fun r K => r = none ∧ va_P θ.1 sj_cl [(b, .inr (0, [.ref H.size, .int 0, .int 0, .int 0])), (H.size, .inl (θ.2.1, 16, .inl (fun _ => 0)))] K) := by
  refine sj_ofW (by decide +kernel) (Nat.le_of_ble_eq_true rfl) (fun p e R s m args below meth c ls F hH hP hl => ?_)
  obtain ⟨hx, hb, hml, hts, hown, hlocks, hI, hRf, hRl, hRc, hRs, hr, hnm⟩ := F
  have hl : lv_has ls 1 [(0, .ref b)] := hl
  have hS : va_S θ.2.2.2.2 s.heap s.heap [] := va_S.rf
  refine lv_aload_n hx hb sj_d_sbi_0 rfl (lv_at hl 0 rfl) ?_
  refine lv_bipush (v := Int32.ofInt 16) hx hb sj_d_sbi_1 (by decide) ?_
  refine sj_cI (n := 1) (As := [.int (Int32.ofInt 16)]) (rest := []) hx hb (hml.trans hl.1.symm) hown hts hI hS hP (fun _ h => h) (sj_abi hD) sj_w_abi (bc_wat_ok (pos := 71) (by decide +kernel)) (bc_wat_ok (pos := 1191) (by decide +kernel)) (bc_wat_ok (pos := 1192) (by decide +kernel)) rfl ⟨by decide +kernel, by decide +kernel, by decide +kernel⟩ ⟨by rw [hRf]; exact Nat.le_of_ble_eq_true rfl, by rw [hRl]; exact Nat.le_of_ble_eq_true rfl⟩ ⟨by rw [hRc]; exact Nat.le_of_ble_eq_true rfl, by rw [hRs]; exact Nat.le_of_ble_eq_true rfl⟩ rfl rfl (Nat.le_of_ble_eq_true rfl) sj_d_sbi_3 (fun r H2 locs2 hp hk hz hS => ?_)
  obtain ⟨rfl, hP⟩ := hp
  refine W.widen (k := 1) (n := 16) (Nat.le_of_ble_eq_true rfl) (Nat.le_of_ble_eq_true rfl) ?_
  exact W.vret hx hb hr (fun t ht hW => ⟨⟨_, rfl, by rw [ht, ← hH]; exact ⟨rfl, hP⟩⟩, hS.F ht⟩) hS.2.2 sj_d_sbi_6
abbrev sj_y_chk : MethodName := ⟨"java/util/Arrays", "checkLength", "(II)V"⟩
abbrev sj_c_chk : ByteArray := prog_40_method_131_code
theorem sj_w_chk : Cond.code sj_y_chk sj_c_chk 2 none ∈ bc_W := (bc_mem_W (bc_tk6 (List.mem_of_getElem? (i := 138) rfl)) rfl)
theorem sj_d_chk_0 : decode sj_c_chk 0 = .ok (.iload_n 1, 1) := by decide +kernel
theorem sj_d_chk_1 : decode sj_c_chk 1 = .ok (.iload_n 0, 1) := by decide +kernel
theorem sj_d_chk_2 : decode sj_c_chk 2 = .ok (.if_icmp .ge 35, 3) := by decide +kernel
theorem sj_d_chk_37 : decode sj_c_chk 37 = .ok (.return_, 1) := by decide +kernel
theorem sj_chk {l : Launch} {θ : sj_w} {ss : List sj_s} {H : Heap} {ws : va_W} {x : Int} (h0 : 0 ≤ x) (h1 : x < 1000) : sj_M l θ ss sj_y_chk sj_c_chk 2 none 0 0 0 [.int 0, .int (Int32.ofInt x)] ws H (fun r K => r = none ∧ K = H) := by
  refine sj_ofW (by decide +kernel) (Nat.le_of_ble_eq_true rfl) (fun p e R s m args below meth c ls F hH hP hl => ?_)
  obtain ⟨hx, hb, hml, hts, hown, hlocks, hI, hRf, hRl, hRc, hRs, hr, hnm⟩ := F
  have hl : lv_has ls 2 [(0, .int 0), (1, .int (Int32.ofInt x))] := hl
  have hS : va_S θ.2.2.2.2 s.heap s.heap [] := va_S.rf
  refine lv_iload_n hx hb sj_d_chk_0 rfl (lv_at hl 1 rfl) ?_
  refine lv_iload_n hx hb sj_d_chk_1 rfl (lv_at hl 0 rfl) ?_
  refine lv_icmp_ge (tgt := 37) hx hb sj_d_chk_2 (by decide) (fun _ => ?_) (fun h => absurd (sj_ge0 (by omega) (by omega)) h)
  refine W.widen (k := 0) (n := 0) (Nat.le_of_ble_eq_true rfl) (Nat.le_of_ble_eq_true rfl) ?_
  exact W.vret hx hb hr (fun t ht hW => ⟨⟨_, rfl, by rw [ht]; exact ⟨rfl, hH⟩⟩, hS.F ht⟩) hS.2.2 sj_d_chk_37
abbrev sj_y_crb : MethodName := ⟨"java/util/Arrays", "copyOfRangeByte", "([BII)[B"⟩
abbrev sj_c_crb : ByteArray := prog_40_method_133_code
theorem sj_w_crb : Cond.code sj_y_crb sj_c_crb 5 (some (.array .byte)) ∈ bc_W := (bc_mem_W (bc_tk6 (List.mem_of_getElem? (i := 135) rfl)) rfl)
theorem sj_d_crb_0 : decode sj_c_crb 0 = .ok (.iload_n 1, 1) := by decide +kernel
theorem sj_d_crb_1 : decode sj_c_crb 1 = .ok (.iload_n 2, 1) := by decide +kernel
theorem sj_d_crb_2 : decode sj_c_crb 2 = .ok (.invokestatic 343, 3) := by decide +kernel
theorem sj_d_crb_5 : decode sj_c_crb 5 = .ok (.iload_n 2, 1) := by decide +kernel
theorem sj_d_crb_6 : decode sj_c_crb 6 = .ok (.iload_n 1, 1) := by decide +kernel
theorem sj_d_crb_7 : decode sj_c_crb 7 = .ok (.isub, 1) := by decide +kernel
theorem sj_d_crb_8 : decode sj_c_crb 8 = .ok (.istore_n 3, 1) := by decide +kernel
theorem sj_d_crb_9 : decode sj_c_crb 9 = .ok (.iload_n 3, 1) := by decide +kernel
theorem sj_d_crb_10 : decode sj_c_crb 10 = .ok (.newarray .byte, 2) := by decide +kernel
theorem sj_d_crb_12 : decode sj_c_crb 12 = .ok (.astore 4, 2) := by decide +kernel
theorem sj_d_crb_14 : decode sj_c_crb 14 = .ok (.aload_n 0, 1) := by decide +kernel
theorem sj_d_crb_15 : decode sj_c_crb 15 = .ok (.iload_n 1, 1) := by decide +kernel
theorem sj_d_crb_16 : decode sj_c_crb 16 = .ok (.aload 4, 2) := by decide +kernel
theorem sj_d_crb_18 : decode sj_c_crb 18 = .ok (.iconst 0, 1) := by decide +kernel
theorem sj_d_crb_19 : decode sj_c_crb 19 = .ok (.aload_n 0, 1) := by decide +kernel
theorem sj_d_crb_20 : decode sj_c_crb 20 = .ok (.arraylength, 1) := by decide +kernel
theorem sj_d_crb_21 : decode sj_c_crb 21 = .ok (.iload_n 1, 1) := by decide +kernel
theorem sj_d_crb_22 : decode sj_c_crb 22 = .ok (.isub, 1) := by decide +kernel
theorem sj_d_crb_23 : decode sj_c_crb 23 = .ok (.iload_n 3, 1) := by decide +kernel
theorem sj_d_crb_24 : decode sj_c_crb 24 = .ok (.invokestatic 304, 3) := by decide +kernel
theorem sj_d_crb_27 : decode sj_c_crb 27 = .ok (.invokestatic 150, 3) := by decide +kernel
theorem sj_d_crb_30 : decode sj_c_crb 30 = .ok (.aload 4, 2) := by decide +kernel
theorem sj_d_crb_32 : decode sj_c_crb 32 = .ok (.areturn, 1) := by decide +kernel
theorem sj_crb {l : Launch} {θ : sj_w} {ss : List sj_s} {H : Heap} {b da n : Nat} {ml : Int32} {f : Nat → Int32} {u : Nat} {uc : Value} (hn : n ≤ 15) (hf : ∀ j : Nat, j < n → fits .byte (.int (f j)) = true) (hD : va_D θ.2.2.2.2 [(b, .inr (0, [.ref da, .int 0, .int ml, .int (Int32.ofInt (n : Int))])), (da, .inl (θ.2.1, 16, .inl f)), (u, .inr (1, [.null, uc, .int 0, .int 0]))]) : sj_M l θ ss sj_y_crb sj_c_crb 5 (some (.array .byte)) 1 1 16 [.ref da, .int 0, .int (Int32.ofInt (n : Int))] [(b, .inr (0, [.ref da, .int 0, .int ml, .int (Int32.ofInt (n : Int))])), (da, .inl (θ.2.1, 16, .inl f)), (u, .inr (1, [.null, uc, .int 0, .int 0]))] H (fun r K => ∃ d : Nat, H.size ≤ d ∧ r = some (.ref d) ∧ va_P θ.1 sj_cl [(b, .inr (0, [.ref da, .int 0, .int ml, .int (Int32.ofInt (n : Int))])), (da, .inl (θ.2.1, 16, .inl f)), (u, .inr (1, [.null, uc, .int 0, .int 0])), (d, .inl (θ.2.1, n, .inl (va_cpy f (fun _ => 0) 0 0 n)))] K ∧ va_D θ.2.2.2.2 [(b, .inr (0, [.ref da, .int 0, .int ml, .int (Int32.ofInt (n : Int))])), (da, .inl (θ.2.1, 16, .inl f)), (u, .inr (1, [.null, uc, .int 0, .int 0])), (d, .inl (θ.2.1, n, .inl (va_cpy f (fun _ => 0) 0 0 n)))]) := by
  refine sj_ofW (by decide +kernel) (Nat.le_of_ble_eq_true rfl) (fun p e R s m args below meth c ls F hH hP hl => ?_)
  obtain ⟨hx, hb, hml, hts, hown, hlocks, hI, hRf, hRl, hRc, hRs, hr, hnm⟩ := F
  have hl : lv_has ls 5 [(0, .ref da), (1, .int 0), (2, .int (Int32.ofInt (n : Int)))] := hl
  have hS : va_S θ.2.2.2.2 s.heap s.heap [] := va_S.rf
  have hz0 : s.heap.size = H.size := by rw [hH]
  refine lv_iload_n hx hb sj_d_crb_0 rfl (lv_at hl 1 rfl) ?_
  refine lv_iload_n hx hb sj_d_crb_1 rfl (lv_at hl 2 rfl) ?_
  refine sj_cS (n := 2) (As := [.int 0, .int (Int32.ofInt (n : Int))]) (rest := []) hx hb (hml.trans hl.1.symm) hown hts hI hS hP (fun _ h => h) (sj_chk (x := (n : Int)) (by omega) (by omega)) sj_w_chk (bc_wat_ok (pos := 76) (by decide +kernel)) (bc_wat_ok (pos := 1379) (by decide +kernel)) (bc_wat_ok (pos := 1380) (by decide +kernel)) ⟨by decide +kernel, by decide +kernel, by decide +kernel⟩ ⟨by rw [hRf]; exact Nat.le_of_ble_eq_true rfl, by rw [hRl]; exact Nat.le_of_ble_eq_true rfl⟩ ⟨by rw [hRc]; exact Nat.le_of_ble_eq_true rfl, by rw [hRs]; exact Nat.le_of_ble_eq_true rfl⟩ rfl rfl (Nat.le_of_ble_eq_true rfl) sj_d_crb_2 (fun r H2 locs2 hp hk hz hS => ?_)
  obtain ⟨rfl, rfl⟩ := hp
  refine lv_iload_n hx hb sj_d_crb_5 rfl (lv_at hl 2 rfl) ?_
  refine lv_iload_n hx hb sj_d_crb_6 rfl (lv_at hl 1 rfl) ?_
  refine lv_isub hx hb sj_d_crb_7 ?_
  rw [show Int32.ofInt (n : Int) - 0 = Int32.ofInt (n : Int) from Int32.sub_zero _]
  refine lv_istore_n (lv' := [(3, .int (Int32.ofInt (n : Int))), (0, .ref da), (1, .int 0), (2, .int (Int32.ofInt (n : Int)))]) hx hb sj_d_crb_8 rfl hl (by decide) rfl (fun ls hl => ?_)
  refine lv_iload_n hx hb sj_d_crb_9 rfl (lv_at hl 0 rfl) ?_
  refine sj_newa (n := n) hx hb hts hI hP hD hS (by omega) (by rw [hRc]; exact Nat.le_refl _) (by rw [hRs]; exact Nat.le_refl _) sj_d_crb_10 (fun H2 z2 k2 hP hD hS => ?_)
  have hP : va_P θ.1 sj_cl [(b, .inr (0, [.ref da, .int 0, .int ml, .int (Int32.ofInt (n : Int))])), (da, .inl (θ.2.1, 16, .inl f)), (u, .inr (1, [.null, uc, .int 0, .int 0])), (s.heap.size, .inl (θ.2.1, n, .inl (fun _ => 0)))] H2 := hP
  have hD : va_D θ.2.2.2.2 [(b, .inr (0, [.ref da, .int 0, .int ml, .int (Int32.ofInt (n : Int))])), (da, .inl (θ.2.1, 16, .inl f)), (u, .inr (1, [.null, uc, .int 0, .int 0])), (s.heap.size, .inl (θ.2.1, n, .inl (fun _ => 0)))] := hD
  refine lv_astore (lv' := [(4, .ref s.heap.size), (3, .int (Int32.ofInt (n : Int))), (0, .ref da), (1, .int 0), (2, .int (Int32.ofInt (n : Int)))]) hx hb sj_d_crb_12 hl (by decide) rfl (fun ls hl => ?_)
  refine lv_aload_n hx hb sj_d_crb_14 rfl (lv_at hl 2 rfl) ?_
  refine lv_iload_n hx hb sj_d_crb_15 rfl (lv_at hl 3 rfl) ?_
  refine lv_aload hx hb sj_d_crb_16 (lv_at hl 0 rfl) ?_
  refine lv_iconst (v := 0) hx hb sj_d_crb_18 (by decide) ?_
  refine lv_aload_n hx hb sj_d_crb_19 rfl (lv_at hl 2 rfl) ?_
  refine va_alen (v := Int32.ofInt 16) hx hb hI.1 hP 1 0 rfl rfl (show Int32.ofNat 16 = Int32.ofInt 16 by decide) sj_d_crb_20 ?_
  refine lv_iload_n hx hb sj_d_crb_21 rfl (lv_at hl 3 rfl) ?_
  refine lv_isub hx hb sj_d_crb_22 ?_
  rw [show Int32.ofInt 16 - 0 = Int32.ofInt 16 by decide]
  refine lv_iload_n hx hb sj_d_crb_23 rfl (lv_at hl 1 rfl) ?_
  refine va_mmin hx hb (hml.trans hl.1.symm) hown (hts _ (bc_wat_ok (pos := 1253) (by decide +kernel))) (hts _ (bc_wat_ok (pos := 627) (by decide +kernel))) (hts _ (bc_wat_ok (pos := 67) (by decide +kernel))) (hts _ jd_w_min) (by rw [hRf]; exact Nat.le_refl _) (by rw [hRl]; exact Nat.le_of_ble_eq_true rfl) (by rw [hRc]; exact Nat.le_of_ble_eq_true rfl) (by rw [hRs]; exact Nat.le_of_ble_eq_true rfl) sj_d_crb_24 ?_
  rw [bc_min ⟨by omega, by omega⟩ ⟨by omega, by omega⟩, show min 16 (n : Int) = (n : Int) by omega]
  obtain ⟨c1, c2⟩ := bc_nng (x := (n : Int)) (by omega) (by omega)
  refine va_copyi (D := θ.1) (cl := sj_cl) (ws := [(b, .inr (0, [.ref da, .int 0, .int ml, .int (Int32.ofInt (n : Int))])), (da, .inl (θ.2.1, 16, .inl f)), (u, .inr (1, [.null, uc, .int 0, .int 0])), (s.heap.size, .inl (θ.2.1, n, .inl (fun _ => 0)))]) (tys := [(θ.2.1, .byte)]) (ty := .byte) hx hb (hml.trans hl.1.symm) hown (hts _ (bc_wat_ok (pos := 1254) (by decide +kernel))) (hts _ (bc_wat_ok (pos := 615) (by decide +kernel))) (hts _ (bc_wat_ok (pos := 614) (by decide +kernel))) (hts _ (bc_wat_ok (pos := 66) (by decide +kernel))) hI.1 hP hD hS 1 3 0 0 rfl rfl rfl rfl rfl (by decide) (by decide) c1 (by rw [c2]; show 0 + _ ≤ _; omega) (by rw [c2]; show 0 + _ ≤ _; omega) (fun i hi => by rw [c2] at hi; exact hf _ (by show 0 + i < _; omega)) (by rw [hRf]; exact Nat.le_refl _) (by rw [hRl]; exact Nat.le_of_ble_eq_true rfl) sj_d_crb_27 (fun H2 locs2 hP hD hS => ?_)
  have hP : va_P θ.1 sj_cl [(b, .inr (0, [.ref da, .int 0, .int ml, .int (Int32.ofInt (n : Int))])), (da, .inl (θ.2.1, 16, .inl f)), (u, .inr (1, [.null, uc, .int 0, .int 0])), (s.heap.size, .inl (θ.2.1, n, .inl (va_cpy f (fun _ => 0) 0 0 n)))] H2 := by
    have h9 := hP
    rw [c2, show ((0 : Int32).toNatClampNeg) = 0 from by decide, show ((n : Int)).toNat = n from rfl] at h9
    exact h9
  have hD : va_D θ.2.2.2.2 [(b, .inr (0, [.ref da, .int 0, .int ml, .int (Int32.ofInt (n : Int))])), (da, .inl (θ.2.1, 16, .inl f)), (u, .inr (1, [.null, uc, .int 0, .int 0])), (s.heap.size, .inl (θ.2.1, n, .inl (va_cpy f (fun _ => 0) 0 0 n)))] := by
    have h9 := hD
    rw [c2, show ((0 : Int32).toNatClampNeg) = 0 from by decide, show ((n : Int)).toNat = n from rfl] at h9
    exact h9
  refine lv_aload hx hb sj_d_crb_30 (lv_at hl 0 rfl) ?_
  refine W.widen (k := 1) (n := 16) (Nat.le_of_ble_eq_true rfl) (Nat.le_of_ble_eq_true rfl) ?_
  exact W.aret hx hb hr (Or.inr ⟨_, rfl⟩) (Or.inr ⟨_, rfl⟩) (fun t ht hW => ⟨⟨_, rfl, by rw [ht]; exact ⟨s.heap.size, Nat.le_of_eq hz0.symm, rfl, hP, hD⟩⟩, hS.F ht⟩) hS.2.2 sj_d_crb_32
abbrev sj_y_cor : MethodName := ⟨"java/util/Arrays", "copyOfRange", "([BII)[B"⟩
abbrev sj_c_cor : ByteArray := prog_40_method_132_code
theorem sj_w_cor : Cond.code sj_y_cor sj_c_cor 3 (some (.array .byte)) ∈ bc_W := (bc_mem_W (bc_tk6 (List.mem_of_getElem? (i := 132) rfl)) rfl)
theorem sj_d_cor_0 : decode sj_c_cor 0 = .ok (.iload_n 1, 1) := by decide +kernel
theorem sj_d_cor_1 : decode sj_c_cor 1 = .ok (.ifCond .ne 9, 3) := by decide +kernel
theorem sj_d_cor_4 : decode sj_c_cor 4 = .ok (.iload_n 2, 1) := by decide +kernel
theorem sj_d_cor_5 : decode sj_c_cor 5 = .ok (.aload_n 0, 1) := by decide +kernel
theorem sj_d_cor_6 : decode sj_c_cor 6 = .ok (.arraylength, 1) := by decide +kernel
theorem sj_d_cor_7 : decode sj_c_cor 7 = .ok (.if_icmp .eq 10, 3) := by decide +kernel
theorem sj_d_cor_10 : decode sj_c_cor 10 = .ok (.aload_n 0, 1) := by decide +kernel
theorem sj_d_cor_11 : decode sj_c_cor 11 = .ok (.iload_n 1, 1) := by decide +kernel
theorem sj_d_cor_12 : decode sj_c_cor 12 = .ok (.iload_n 2, 1) := by decide +kernel
theorem sj_d_cor_13 : decode sj_c_cor 13 = .ok (.invokestatic 339, 3) := by decide +kernel
theorem sj_d_cor_16 : decode sj_c_cor 16 = .ok (.areturn, 1) := by decide +kernel
theorem sj_cor {l : Launch} {θ : sj_w} {ss : List sj_s} {H : Heap} {b da n : Nat} {ml : Int32} {f : Nat → Int32} {u : Nat} {uc : Value} (hn : n ≤ 15) (hf : ∀ j : Nat, j < n → fits .byte (.int (f j)) = true) (hD : va_D θ.2.2.2.2 [(b, .inr (0, [.ref da, .int 0, .int ml, .int (Int32.ofInt (n : Int))])), (da, .inl (θ.2.1, 16, .inl f)), (u, .inr (1, [.null, uc, .int 0, .int 0]))]) : sj_M l θ ss sj_y_cor sj_c_cor 3 (some (.array .byte)) 2 1 16 [.ref da, .int 0, .int (Int32.ofInt (n : Int))] [(b, .inr (0, [.ref da, .int 0, .int ml, .int (Int32.ofInt (n : Int))])), (da, .inl (θ.2.1, 16, .inl f)), (u, .inr (1, [.null, uc, .int 0, .int 0]))] H (fun r K => ∃ d : Nat, H.size ≤ d ∧ r = some (.ref d) ∧ va_P θ.1 sj_cl [(b, .inr (0, [.ref da, .int 0, .int ml, .int (Int32.ofInt (n : Int))])), (da, .inl (θ.2.1, 16, .inl f)), (u, .inr (1, [.null, uc, .int 0, .int 0])), (d, .inl (θ.2.1, n, .inl (va_cpy f (fun _ => 0) 0 0 n)))] K ∧ va_D θ.2.2.2.2 [(b, .inr (0, [.ref da, .int 0, .int ml, .int (Int32.ofInt (n : Int))])), (da, .inl (θ.2.1, 16, .inl f)), (u, .inr (1, [.null, uc, .int 0, .int 0])), (d, .inl (θ.2.1, n, .inl (va_cpy f (fun _ => 0) 0 0 n)))]) := by
  refine sj_ofW (by decide +kernel) (Nat.le_of_ble_eq_true rfl) (fun p e R s m args below meth c ls F hH hP hl => ?_)
  obtain ⟨hx, hb, hml, hts, hown, hlocks, hI, hRf, hRl, hRc, hRs, hr, hnm⟩ := F
  have hl : lv_has ls 3 [(0, .ref da), (1, .int 0), (2, .int (Int32.ofInt (n : Int)))] := hl
  have hS : va_S θ.2.2.2.2 s.heap s.heap [] := va_S.rf
  refine lv_iload_n hx hb sj_d_cor_0 rfl (lv_at hl 1 rfl) ?_
  refine lv_if_ne (tgt := 10) hx hb sj_d_cor_1 (by decide) (fun h => absurd h (by decide)) (fun _ => ?_)
  refine lv_iload_n hx hb sj_d_cor_4 rfl (lv_at hl 2 rfl) ?_
  refine lv_aload_n hx hb sj_d_cor_5 rfl (lv_at hl 0 rfl) ?_
  refine va_alen (v := Int32.ofInt 16) hx hb hI.1 hP 1 0 rfl rfl (show Int32.ofNat 16 = Int32.ofInt 16 by decide) sj_d_cor_6 ?_
  refine lv_icmp_eq (tgt := 17) hx hb sj_d_cor_7 (by decide) (fun h => absurd h (sj_ne (by omega) (by omega) (by omega))) (fun _ => ?_)
  refine lv_aload_n hx hb sj_d_cor_10 rfl (lv_at hl 0 rfl) ?_
  refine lv_iload_n hx hb sj_d_cor_11 rfl (lv_at hl 1 rfl) ?_
  refine lv_iload_n hx hb sj_d_cor_12 rfl (lv_at hl 2 rfl) ?_
  refine sj_cS (n := 3) (As := [.ref da, .int 0, .int (Int32.ofInt (n : Int))]) (rest := []) hx hb (hml.trans hl.1.symm) hown hts hI hS hP (fun _ h => h) (sj_crb hn hf hD) sj_w_crb (bc_wat_ok (pos := 76) (by decide +kernel)) (bc_wat_ok (pos := 1376) (by decide +kernel)) (bc_wat_ok (pos := 1377) (by decide +kernel)) ⟨by decide +kernel, by decide +kernel, by decide +kernel⟩ ⟨by rw [hRf]; exact Nat.le_of_ble_eq_true rfl, by rw [hRl]; exact Nat.le_of_ble_eq_true rfl⟩ ⟨by rw [hRc]; exact Nat.le_of_ble_eq_true rfl, by rw [hRs]; exact Nat.le_of_ble_eq_true rfl⟩ rfl rfl (Nat.le_of_ble_eq_true rfl) sj_d_cor_13 (fun r H2 locs2 hp hk hz hS => ?_)
  obtain ⟨d, hd, rfl, hP, hD⟩ := hp
  refine W.widen (k := 1) (n := 16) (Nat.le_of_ble_eq_true rfl) (Nat.le_of_ble_eq_true rfl) ?_
  exact W.aret hx hb hr (Or.inr ⟨_, rfl⟩) (Or.inr ⟨_, rfl⟩) (fun t ht hW => ⟨⟨_, rfl, by rw [ht]; exact ⟨d, by rw [← hH]; exact hd, rfl, hP, hD⟩⟩, hS.F ht⟩) hS.2.2 sj_d_cor_16
abbrev sj_y_sta : MethodName := ⟨"java/lang/String", "<init>", "(Ljava/lang/AbstractStringBuilder;Ljava/lang/Void;)V"⟩
abbrev sj_c_sta : ByteArray := prog_31_method_150_code
theorem sj_w_sta : Cond.code sj_y_sta sj_c_sta 5 none ∈ bc_W := (bc_mem_W (bc_tk6 (List.mem_of_getElem? (i := 114) rfl)) rfl)
theorem sj_d_sta_0 : decode sj_c_sta 0 = .ok (.aload_n 0, 1) := by decide +kernel
theorem sj_d_sta_1 : decode sj_c_sta 1 = .ok (.invokespecial 1, 3) := by decide +kernel
theorem sj_d_sta_4 : decode sj_c_sta 4 = .ok (.aload_n 1, 1) := by decide +kernel
theorem sj_d_sta_5 : decode sj_c_sta 5 = .ok (.invokevirtual 552, 3) := by decide +kernel
theorem sj_d_sta_8 : decode sj_c_sta 8 = .ok (.astore_n 3, 1) := by decide +kernel
theorem sj_d_sta_9 : decode sj_c_sta 9 = .ok (.aload_n 1, 1) := by decide +kernel
theorem sj_d_sta_10 : decode sj_c_sta 10 = .ok (.invokevirtual 549, 3) := by decide +kernel
theorem sj_d_sta_13 : decode sj_c_sta 13 = .ok (.istore 4, 2) := by decide +kernel
theorem sj_d_sta_15 : decode sj_c_sta 15 = .ok (.aload_n 1, 1) := by decide +kernel
theorem sj_d_sta_16 : decode sj_c_sta 16 = .ok (.invokevirtual 1047, 3) := by decide +kernel
theorem sj_d_sta_19 : decode sj_c_sta 19 = .ok (.ifCond .eq 22, 3) := by decide +kernel
theorem sj_d_sta_22 : decode sj_c_sta 22 = .ok (.aload_n 0, 1) := by decide +kernel
theorem sj_d_sta_23 : decode sj_c_sta 23 = .ok (.iconst 0, 1) := by decide +kernel
theorem sj_d_sta_24 : decode sj_c_sta 24 = .ok (.putfield 15, 3) := by decide +kernel
theorem sj_d_sta_27 : decode sj_c_sta 27 = .ok (.aload_n 0, 1) := by decide +kernel
theorem sj_d_sta_28 : decode sj_c_sta 28 = .ok (.aload_n 3, 1) := by decide +kernel
theorem sj_d_sta_29 : decode sj_c_sta 29 = .ok (.iconst 0, 1) := by decide +kernel
theorem sj_d_sta_30 : decode sj_c_sta 30 = .ok (.iload 4, 2) := by decide +kernel
theorem sj_d_sta_32 : decode sj_c_sta 32 = .ok (.invokestatic 54, 3) := by decide +kernel
theorem sj_d_sta_35 : decode sj_c_sta 35 = .ok (.putfield 9, 3) := by decide +kernel
theorem sj_d_sta_38 : decode sj_c_sta 38 = .ok (.goto (59), 3) := by decide +kernel
theorem sj_d_sta_97 : decode sj_c_sta 97 = .ok (.return_, 1) := by decide +kernel
theorem sj_sta {l : Launch} {θ : sj_w} {ss : List sj_s} {H : Heap} {b da n : Nat} {ml : Int32} {f : Nat → Int32} {u : Nat} (hn : n ≤ 15) (hf : ∀ j : Nat, j < n → fits .byte (.int (f j)) = true) (hD : va_D θ.2.2.2.2 [(b, .inr (0, [.ref da, .int 0, .int ml, .int (Int32.ofInt (n : Int))])), (da, .inl (θ.2.1, 16, .inl f)), (u, .inr (1, [.null, .int 0, .int 0, .int 0]))]) : sj_M l θ ss sj_y_sta sj_c_sta 5 none 3 1 16 [.ref u, .ref b, .null] [(b, .inr (0, [.ref da, .int 0, .int ml, .int (Int32.ofInt (n : Int))])), (da, .inl (θ.2.1, 16, .inl f)), (u, .inr (1, [.null, .int 0, .int 0, .int 0]))] H (fun r K => r = none ∧ ∃ d : Nat, H.size ≤ d ∧ va_P θ.1 sj_cl [(b, .inr (0, [.ref da, .int 0, .int ml, .int (Int32.ofInt (n : Int))])), (da, .inl (θ.2.1, 16, .inl f)), (u, .inr (1, [.ref d, .int 0, .int 0, .int 0])), (d, .inl (θ.2.1, n, .inl (va_cpy f (fun _ => 0) 0 0 n)))] K ∧ va_D θ.2.2.2.2 [(b, .inr (0, [.ref da, .int 0, .int ml, .int (Int32.ofInt (n : Int))])), (da, .inl (θ.2.1, 16, .inl f)), (u, .inr (1, [.ref d, .int 0, .int 0, .int 0])), (d, .inl (θ.2.1, n, .inl (va_cpy f (fun _ => 0) 0 0 n)))]) := by
  refine sj_ofW (by decide +kernel) (Nat.le_of_ble_eq_true rfl) (fun p e R s m args below meth c ls F hH hP hl => ?_)
  obtain ⟨hx, hb, hml, hts, hown, hlocks, hI, hRf, hRl, hRc, hRs, hr, hnm⟩ := F
  have hl : lv_has ls 5 [(0, .ref u), (1, .ref b), (2, .null)] := hl
  have hS : va_S θ.2.2.2.2 s.heap s.heap [] := va_S.rf
  refine lv_aload_n hx hb sj_d_sta_0 rfl (lv_at hl 0 rfl) ?_
  refine W.objInit hx hb hown (hts (.methodLink "java/lang/String" 1 objectInit) (bc_wat_ok (pos := 1358) (by decide +kernel))) (hts (.instanceMethod objectInit) (bc_wat_ok (pos := 84) (by decide +kernel))) (hts _ (bc_wat_ok (pos := 85) (by decide +kernel))) rfl (by rw [hml]; exact hl.1) rfl sj_d_sta_1 (by rw [hRf]; exact Nat.le_of_ble_eq_true rfl) (by rw [hRl]; exact Nat.le_of_ble_eq_true rfl) ?_
  refine W.eq (g2 := F0 m 4 ls []) rfl ?_
  refine lv_aload_n hx hb sj_d_sta_4 rfl (lv_at hl 1 rfl) ?_
  refine sj_cV (C := "java/lang/StringBuilder") (n := 0) (As := []) (rest := []) hx hb (hml.trans hl.1.symm) hown hts hI hS (sj_P2 hP) (fun _ h => h) sj_val sj_w_val (bc_wat_ok (pos := 71) (by decide +kernel)) (bc_wat_ok (pos := 1359) (by decide +kernel)) (bc_wat_ok (pos := 1360) (by decide +kernel)) (hts _ (bc_wat_ok (pos := 1362) (by decide +kernel))) (va_recv (q := ("java/lang/StringBuilder", sj_T0, 4)) (q0 := 0) hI.1 hP rfl rfl) ⟨by decide +kernel, by decide +kernel, by decide +kernel⟩ ⟨by rw [hRf]; exact Nat.le_of_ble_eq_true rfl, by rw [hRl]; exact Nat.le_of_ble_eq_true rfl⟩ ⟨by rw [hRc]; exact Nat.le_of_ble_eq_true rfl, by rw [hRs]; exact Nat.le_of_ble_eq_true rfl⟩ rfl rfl (Nat.le_of_ble_eq_true rfl) sj_d_sta_5 (fun r H2 locs2 hp hk hz hS => ?_)
  obtain ⟨rfl, rfl⟩ := hp
  refine lv_astore_n (lv' := [(3, .ref da), (0, .ref u), (1, .ref b), (2, .null)]) hx hb sj_d_sta_8 rfl hl (by decide) rfl (fun ls hl => ?_)
  refine lv_aload_n hx hb sj_d_sta_9 rfl (lv_at hl 2 rfl) ?_
  refine sj_cO hx hb (hml.trans hl.1.symm) hown hts hI hS (sj_P2 hP) (fun _ h => h) sj_lenb sj_w_lenb sj_w_lena (bc_wat_ok (pos := 1364) (by decide +kernel)) rfl ⟨by rw [hRf]; exact Nat.le_of_ble_eq_true rfl, by rw [hRl]; exact Nat.le_of_ble_eq_true rfl⟩ ⟨by rw [hRc]; exact Nat.le_of_ble_eq_true rfl, by rw [hRs]; exact Nat.le_of_ble_eq_true rfl⟩ (Nat.le_of_ble_eq_true rfl) sj_d_sta_10 (fun r H2 locs2 hp hk hz hS => ?_)
  obtain ⟨rfl, rfl⟩ := hp
  refine lv_istore (lv' := [(4, .int (Int32.ofInt (n : Int))), (3, .ref da), (0, .ref u), (1, .ref b), (2, .null)]) hx hb sj_d_sta_13 hl (by decide) rfl (fun ls hl => ?_)
  refine lv_aload_n hx hb sj_d_sta_15 rfl (lv_at hl 3 rfl) ?_
  refine sj_cV (C := "java/lang/StringBuilder") (n := 0) (As := []) (rest := []) hx hb (hml.trans hl.1.symm) hown hts hI hS (sj_P2 hP) (fun _ h => h) sj_lat sj_w_lat (bc_wat_ok (pos := 71) (by decide +kernel)) (bc_wat_ok (pos := 1372) (by decide +kernel)) (bc_wat_ok (pos := 1256) (by decide +kernel)) (hts _ (bc_wat_ok (pos := 1258) (by decide +kernel))) (va_recv (q := ("java/lang/StringBuilder", sj_T0, 4)) (q0 := 0) hI.1 hP rfl rfl) ⟨by decide +kernel, by decide +kernel, by decide +kernel⟩ ⟨by rw [hRf]; exact Nat.le_of_ble_eq_true rfl, by rw [hRl]; exact Nat.le_of_ble_eq_true rfl⟩ ⟨by rw [hRc]; exact Nat.le_of_ble_eq_true rfl, by rw [hRs]; exact Nat.le_of_ble_eq_true rfl⟩ rfl rfl (Nat.le_of_ble_eq_true rfl) sj_d_sta_16 (fun r H2 locs2 hp hk hz hS => ?_)
  obtain ⟨rfl, rfl⟩ := hp
  refine lv_if_eq (tgt := 41) hx hb sj_d_sta_19 (by decide) (fun h => absurd h (by decide)) (fun _ => ?_)
  refine lv_aload_n hx hb sj_d_sta_22 rfl (lv_at hl 2 rfl) ?_
  refine lv_iconst (v := 0) hx hb sj_d_sta_23 (by decide) ?_
  refine va_putF (D := θ.1) (cl := sj_cl) (ws := [(b, .inr (0, [.ref da, .int 0, .int ml, .int (Int32.ofInt (n : Int))])), (da, .inl (θ.2.1, 16, .inl f)), (u, .inr (1, [.null, .int 0, .int 0, .int 0]))]) (tys := [(θ.2.1, .byte)]) (C := "java/lang/String") (T := sj_T1) (N := 4) (ci := 1) hx hb hts sj_w1 sj_y1 sj_t1 sj_n1 hown hI.1 hP hD hS 2 rfl rfl 1 (by decide) (hts (.fieldLink "java/lang/String" 15 "java/lang/String" "coder" "B") (bc_wat_ok (pos := 1401) (by decide +kernel))) (fun _ h9 => h9) rfl hnm rfl (ty := .byte) (by decide +kernel) rfl rfl (Nat.le_of_ble_eq_true rfl) sj_d_sta_24 (fun H2 locs2 hP hD hS => ?_)
  have hP : va_P θ.1 sj_cl [(b, .inr (0, [.ref da, .int 0, .int ml, .int (Int32.ofInt (n : Int))])), (da, .inl (θ.2.1, 16, .inl f)), (u, .inr (1, [.null, .int 0, .int 0, .int 0]))] H2 := hP
  have hD : va_D θ.2.2.2.2 [(b, .inr (0, [.ref da, .int 0, .int ml, .int (Int32.ofInt (n : Int))])), (da, .inl (θ.2.1, 16, .inl f)), (u, .inr (1, [.null, .int 0, .int 0, .int 0]))] := hD
  have hz1 : s.heap.size ≤ H2.size := hS.1
  refine lv_aload_n hx hb sj_d_sta_27 rfl (lv_at hl 2 rfl) ?_
  refine lv_aload_n hx hb sj_d_sta_28 rfl (lv_at hl 1 rfl) ?_
  refine lv_iconst (v := 0) hx hb sj_d_sta_29 (by decide) ?_
  refine lv_iload hx hb sj_d_sta_30 (lv_at hl 0 rfl) ?_
  refine sj_cS (n := 3) (As := [.ref da, .int 0, .int (Int32.ofInt (n : Int))]) (rest := [.ref u]) hx hb (hml.trans hl.1.symm) hown hts hI hS hP (fun _ h => h) (sj_cor hn hf hD) sj_w_cor (bc_wat_ok (pos := 76) (by decide +kernel)) (bc_wat_ok (pos := 1373) (by decide +kernel)) (bc_wat_ok (pos := 1374) (by decide +kernel)) ⟨by decide +kernel, by decide +kernel, by decide +kernel⟩ ⟨by rw [hRf]; exact Nat.le_of_ble_eq_true rfl, by rw [hRl]; exact Nat.le_of_ble_eq_true rfl⟩ ⟨by rw [hRc]; exact Nat.le_of_ble_eq_true rfl, by rw [hRs]; exact Nat.le_of_ble_eq_true rfl⟩ rfl rfl (Nat.le_of_ble_eq_true rfl) sj_d_sta_32 (fun r H3 locs3 hp hk hz hS => ?_)
  obtain ⟨d, hd, rfl, hP, hD⟩ := hp
  have hd0 : H.size ≤ d := by rw [← hH]; exact Nat.le_trans hz1 hd
  refine va_putF (D := θ.1) (cl := sj_cl) (ws := [(b, .inr (0, [.ref da, .int 0, .int ml, .int (Int32.ofInt (n : Int))])), (da, .inl (θ.2.1, 16, .inl f)), (u, .inr (1, [.null, .int 0, .int 0, .int 0])), (d, .inl (θ.2.1, n, .inl (va_cpy f (fun _ => 0) 0 0 n)))]) (tys := [(θ.2.1, .byte)]) (C := "java/lang/String") (T := sj_T1) (N := 4) (ci := 1) hx hb hts sj_w1 sj_y1 sj_t1 sj_n1 hown hI.1 hP hD hS 2 rfl rfl 0 (by decide) (hts (.fieldLink "java/lang/String" 9 "java/lang/String" "value" "[B") (bc_wat_ok (pos := 1400) (by decide +kernel))) (fun _ h9 => h9) rfl hnm rfl (ty := .array .byte) (by decide +kernel) rfl rfl (Nat.le_of_ble_eq_true rfl) sj_d_sta_35 (fun H2 locs2 hP hD hS => ?_)
  have hP : va_P θ.1 sj_cl [(b, .inr (0, [.ref da, .int 0, .int ml, .int (Int32.ofInt (n : Int))])), (da, .inl (θ.2.1, 16, .inl f)), (u, .inr (1, [.ref d, .int 0, .int 0, .int 0])), (d, .inl (θ.2.1, n, .inl (va_cpy f (fun _ => 0) 0 0 n)))] H2 := hP
  have hD : va_D θ.2.2.2.2 [(b, .inr (0, [.ref da, .int 0, .int ml, .int (Int32.ofInt (n : Int))])), (da, .inl (θ.2.1, 16, .inl f)), (u, .inr (1, [.ref d, .int 0, .int 0, .int 0])), (d, .inl (θ.2.1, n, .inl (va_cpy f (fun _ => 0) 0 0 n)))] := hD
  refine lv_goto (tgt := 97) hx hb sj_d_sta_38 (by decide) ?_
  refine W.widen (k := 1) (n := 16) (Nat.le_of_ble_eq_true rfl) (Nat.le_of_ble_eq_true rfl) ?_
  exact W.vret hx hb hr (fun t ht hW => ⟨⟨_, rfl, by rw [ht]; exact ⟨rfl, d, hd0, hP, hD⟩⟩, hS.F ht⟩) hS.2.2 sj_d_sta_97
abbrev sj_y_stb : MethodName := ⟨"java/lang/String", "<init>", "(Ljava/lang/StringBuilder;)V"⟩
abbrev sj_c_stb : ByteArray := prog_31_method_53_code
theorem sj_w_stb : Cond.code sj_y_stb sj_c_stb 2 none ∈ bc_W := (bc_mem_W (bc_tk6 (List.mem_of_getElem? (i := 111) rfl)) rfl)
theorem sj_d_stb_0 : decode sj_c_stb 0 = .ok (.aload_n 0, 1) := by decide +kernel
theorem sj_d_stb_1 : decode sj_c_stb 1 = .ok (.aload_n 1, 1) := by decide +kernel
theorem sj_d_stb_2 : decode sj_c_stb 2 = .ok (.aconst_null, 1) := by decide +kernel
theorem sj_d_stb_3 : decode sj_c_stb 3 = .ok (.invokespecial 489, 3) := by decide +kernel
theorem sj_d_stb_6 : decode sj_c_stb 6 = .ok (.return_, 1) := by decide +kernel
theorem sj_stb {l : Launch} {θ : sj_w} {ss : List sj_s} {H : Heap} {b da n : Nat} {ml : Int32} {f : Nat → Int32} {u : Nat} (hn : n ≤ 15) (hf : ∀ j : Nat, j < n → fits .byte (.int (f j)) = true) (hD : va_D θ.2.2.2.2 [(b, .inr (0, [.ref da, .int 0, .int ml, .int (Int32.ofInt (n : Int))])), (da, .inl (θ.2.1, 16, .inl f)), (u, .inr (1, [.null, .int 0, .int 0, .int 0]))]) : sj_M l θ ss sj_y_stb sj_c_stb 2 none 4 1 16 [.ref u, .ref b] [(b, .inr (0, [.ref da, .int 0, .int ml, .int (Int32.ofInt (n : Int))])), (da, .inl (θ.2.1, 16, .inl f)), (u, .inr (1, [.null, .int 0, .int 0, .int 0]))] H (fun r K => r = none ∧ ∃ d : Nat, H.size ≤ d ∧ va_P θ.1 sj_cl [(b, .inr (0, [.ref da, .int 0, .int ml, .int (Int32.ofInt (n : Int))])), (da, .inl (θ.2.1, 16, .inl f)), (u, .inr (1, [.ref d, .int 0, .int 0, .int 0])), (d, .inl (θ.2.1, n, .inl (va_cpy f (fun _ => 0) 0 0 n)))] K ∧ va_D θ.2.2.2.2 [(b, .inr (0, [.ref da, .int 0, .int ml, .int (Int32.ofInt (n : Int))])), (da, .inl (θ.2.1, 16, .inl f)), (u, .inr (1, [.ref d, .int 0, .int 0, .int 0])), (d, .inl (θ.2.1, n, .inl (va_cpy f (fun _ => 0) 0 0 n)))]) := by
  refine sj_ofW (by decide +kernel) (Nat.le_of_ble_eq_true rfl) (fun p e R s m args below meth c ls F hH hP hl => ?_)
  obtain ⟨hx, hb, hml, hts, hown, hlocks, hI, hRf, hRl, hRc, hRs, hr, hnm⟩ := F
  have hl : lv_has ls 2 [(0, .ref u), (1, .ref b)] := hl
  have hS : va_S θ.2.2.2.2 s.heap s.heap [] := va_S.rf
  refine lv_aload_n hx hb sj_d_stb_0 rfl (lv_at hl 0 rfl) ?_
  refine lv_aload_n hx hb sj_d_stb_1 rfl (lv_at hl 1 rfl) ?_
  refine lv_null hx hb sj_d_stb_2 ?_
  refine sj_cI (n := 2) (As := [.ref b, .null]) (rest := []) hx hb (hml.trans hl.1.symm) hown hts hI hS hP (fun _ h => h) (sj_sta hn hf hD) sj_w_sta (bc_wat_ok (pos := 60) (by decide +kernel)) (bc_wat_ok (pos := 1355) (by decide +kernel)) (bc_wat_ok (pos := 1356) (by decide +kernel)) rfl ⟨by decide +kernel, by decide +kernel, by decide +kernel⟩ ⟨by rw [hRf]; exact Nat.le_of_ble_eq_true rfl, by rw [hRl]; exact Nat.le_of_ble_eq_true rfl⟩ ⟨by rw [hRc]; exact Nat.le_of_ble_eq_true rfl, by rw [hRs]; exact Nat.le_of_ble_eq_true rfl⟩ rfl rfl (Nat.le_of_ble_eq_true rfl) sj_d_stb_3 (fun r H2 locs2 hp hk hz hS => ?_)
  obtain ⟨rfl, d, hd, hP, hD⟩ := hp
  refine W.widen (k := 1) (n := 16) (Nat.le_of_ble_eq_true rfl) (Nat.le_of_ble_eq_true rfl) ?_
  exact W.vret hx hb hr (fun t ht hW => ⟨⟨_, rfl, by rw [ht]; exact ⟨rfl, d, by rw [← hH]; exact hd, hP, hD⟩⟩, hS.F ht⟩) hS.2.2 sj_d_stb_6
abbrev sj_y_tos : MethodName := ⟨"java/lang/StringBuilder", "toString", "()Ljava/lang/String;"⟩
abbrev sj_c_tos : ByteArray := prog_32_method_42_code
theorem sj_w_tos : Cond.code sj_y_tos sj_c_tos 1 (some (.object "java/lang/String")) ∈ bc_W := (bc_mem_W (bc_tk6 (List.mem_of_getElem? (i := 107) rfl)) rfl)
theorem sj_d_tos_0 : decode sj_c_tos 0 = .ok (.new 18, 3) := by decide +kernel
theorem sj_d_tos_3 : decode sj_c_tos 3 = .ok (.dup, 1) := by decide +kernel
theorem sj_d_tos_4 : decode sj_c_tos 4 = .ok (.aload_n 0, 1) := by decide +kernel
theorem sj_d_tos_5 : decode sj_c_tos 5 = .ok (.invokespecial 137, 3) := by decide +kernel
theorem sj_d_tos_8 : decode sj_c_tos 8 = .ok (.areturn, 1) := by decide +kernel
theorem sj_tos {l : Launch} {θ : sj_w} {ss : List sj_s} {H : Heap} {b da n : Nat} {ml : Int32} {f : Nat → Int32} (hn : n ≤ 15) (hf : ∀ j : Nat, j < n → fits .byte (.int (f j)) = true) (hD : va_D θ.2.2.2.2 [(b, .inr (0, [.ref da, .int 0, .int ml, .int (Int32.ofInt (n : Int))])), (da, .inl (θ.2.1, 16, .inl f))]) : sj_M l θ ss sj_y_tos sj_c_tos 1 (some (.object "java/lang/String")) 5 2 20 [.ref b] [(b, .inr (0, [.ref da, .int 0, .int ml, .int (Int32.ofInt (n : Int))])), (da, .inl (θ.2.1, 16, .inl f))] H (fun r K => ∃ u d : Nat, H.size ≤ u ∧ H.size ≤ d ∧ r = some (.ref u) ∧ va_P θ.1 sj_cl [(b, .inr (0, [.ref da, .int 0, .int ml, .int (Int32.ofInt (n : Int))])), (da, .inl (θ.2.1, 16, .inl f)), (u, .inr (1, [.ref d, .int 0, .int 0, .int 0])), (d, .inl (θ.2.1, n, .inl (va_cpy f (fun _ => 0) 0 0 n)))] K ∧ va_D θ.2.2.2.2 [(b, .inr (0, [.ref da, .int 0, .int ml, .int (Int32.ofInt (n : Int))])), (da, .inl (θ.2.1, 16, .inl f)), (u, .inr (1, [.ref d, .int 0, .int 0, .int 0])), (d, .inl (θ.2.1, n, .inl (va_cpy f (fun _ => 0) 0 0 n)))]) := by
  refine sj_ofW (by decide +kernel) (Nat.le_of_ble_eq_true rfl) (fun p e R s m args below meth c ls F hH hP hl => ?_)
  obtain ⟨hx, hb, hml, hts, hown, hlocks, hI, hRf, hRl, hRc, hRs, hr, hnm⟩ := F
  have hl : lv_has ls 1 [(0, .ref b)] := hl
  have hS : va_S θ.2.2.2.2 s.heap s.heap [] := va_S.rf
  refine sj_newo (ci := 1) rfl sj_w1 sj_t1 (by decide) hx hb hown hts (bc_wat_ok (pos := 1351) (by decide +kernel)) (bc_wat_ok (pos := 474) (by decide +kernel)) (bc_wat_ok (pos := 60) (by decide +kernel)) hI hP hD hS (by rw [hRc]; exact Nat.le_of_ble_eq_true rfl) (by rw [hRs]; exact Nat.le_of_ble_eq_true rfl) sj_d_tos_0 (fun H2 z2 k2 hP hD hS => ?_)
  have hz9 : s.heap.size ≤ H2.size := by rw [z2]; exact Nat.le_succ _
  have hP : va_P θ.1 sj_cl [(b, .inr (0, [.ref da, .int 0, .int ml, .int (Int32.ofInt (n : Int))])), (da, .inl (θ.2.1, 16, .inl f)), (s.heap.size, .inr (1, [.null, .int 0, .int 0, .int 0]))] H2 := hP
  have hD : va_D θ.2.2.2.2 [(b, .inr (0, [.ref da, .int 0, .int ml, .int (Int32.ofInt (n : Int))])), (da, .inl (θ.2.1, 16, .inl f)), (s.heap.size, .inr (1, [.null, .int 0, .int 0, .int 0]))] := hD
  refine lv_dup hx hb sj_d_tos_3 rfl ?_
  refine lv_aload_n hx hb sj_d_tos_4 rfl (lv_at hl 0 rfl) ?_
  refine sj_cI (n := 1) (As := [.ref b]) (rest := [.ref s.heap.size]) hx hb (hml.trans hl.1.symm) hown hts hI hS hP (fun _ h => h) (sj_stb hn hf hD) sj_w_stb (bc_wat_ok (pos := 60) (by decide +kernel)) (bc_wat_ok (pos := 1352) (by decide +kernel)) (bc_wat_ok (pos := 1353) (by decide +kernel)) rfl ⟨by decide +kernel, by decide +kernel, by decide +kernel⟩ ⟨by rw [hRf]; exact Nat.le_of_ble_eq_true rfl, by rw [hRl]; exact Nat.le_of_ble_eq_true rfl⟩ ⟨by rw [hRc]; exact Nat.le_of_ble_eq_true rfl, by rw [hRs]; exact Nat.le_of_ble_eq_true rfl⟩ rfl rfl (Nat.le_of_ble_eq_true rfl) sj_d_tos_5 (fun r H3 locs3 hp hk hz hS => ?_)
  obtain ⟨rfl, d, hd, hP, hD⟩ := hp
  refine W.widen (k := 2) (n := 20) (Nat.le_of_ble_eq_true rfl) (Nat.le_of_ble_eq_true rfl) ?_
  exact W.aret hx hb hr (Or.inl ⟨_, rfl⟩) (Or.inr ⟨_, rfl⟩) (fun t ht hW => ⟨⟨_, rfl, by rw [ht]; exact ⟨s.heap.size, d, by rw [hH]; exact Nat.le_refl _, by rw [← hH]; exact Nat.le_trans hz9 hd, rfl, hP, hD⟩⟩, hS.F ht⟩) hS.2.2 sj_d_tos_8
abbrev sj_y_lts : MethodName := ⟨"java/lang/String", "isLatin1", "()Z"⟩
abbrev sj_c_lts : ByteArray := prog_31_method_154_code
theorem sj_w_lts : Cond.code sj_y_lts sj_c_lts 1 (some .boolean) ∈ bc_W := (bc_mem_W (bc_tk4 (List.mem_of_getElem? (i := 100) rfl)) rfl)
theorem sj_d_lts_0 : decode sj_c_lts 0 = .ok (.getstatic 38, 3) := by decide +kernel
theorem sj_d_lts_3 : decode sj_c_lts 3 = .ok (.ifCond .eq 14, 3) := by decide +kernel
theorem sj_d_lts_6 : decode sj_c_lts 6 = .ok (.aload_n 0, 1) := by decide +kernel
theorem sj_d_lts_7 : decode sj_c_lts 7 = .ok (.getfield 15, 3) := by decide +kernel
theorem sj_d_lts_10 : decode sj_c_lts 10 = .ok (.ifCond .ne 7, 3) := by decide +kernel
theorem sj_d_lts_13 : decode sj_c_lts 13 = .ok (.iconst 1, 1) := by decide +kernel
theorem sj_d_lts_14 : decode sj_c_lts 14 = .ok (.goto (4), 3) := by decide +kernel
theorem sj_d_lts_18 : decode sj_c_lts 18 = .ok (.ireturn, 1) := by decide +kernel
theorem sj_lts {l : Launch} {θ : sj_w} {ss : List sj_s} {H : Heap} {q : sj_s} {ws : va_W} (hq : q ∈ ss) : sj_M l θ ss sj_y_lts sj_c_lts 1 (some .boolean) 0 0 0 [.ref q.1] ws H (fun r K => r = some (.int 1) ∧ K = H) := by
  refine sj_ofW (by decide +kernel) (Nat.le_of_ble_eq_true rfl) (fun p e R s m args below meth c ls F hH hP hl => ?_)
  obtain ⟨hx, hb, hml, hts, hown, hlocks, hI, hRf, hRl, hRc, hRs, hr, hnm⟩ := F
  have hl : lv_has ls 1 [(0, .ref q.1)] := hl
  have hS : va_S θ.2.2.2.2 s.heap s.heap [] := va_S.rf
  obtain ⟨kO, kC, kV, kT, kn, kf⟩ := hI.2.2.2.2.2.2 q hq
  refine va_gets hx hb hI.2.1.1 hS hown (hts (.fieldLink "java/lang/String" 38 "java/lang/String" "COMPACT_STRINGS" "Z") (bc_wat_ok (pos := 846) (by decide +kernel))) (fun _ h => h) sj_d_lts_0 ?_
  refine lv_if_eq (tgt := 17) hx hb sj_d_lts_3 (by decide) (fun h => absurd h (by decide)) (fun _ => ?_)
  refine lv_aload_n hx hb sj_d_lts_6 rfl (lv_at hl 0 rfl) ?_
  refine vk_getf hx hb kC hS hown (hts (.fieldLink "java/lang/String" 15 "java/lang/String" "coder" "B") (bc_wat_ok (pos := 1401) (by decide +kernel))) (fun _ h => h) sj_d_lts_7 ?_
  refine lv_if_ne (tgt := 17) hx hb sj_d_lts_10 (by decide) (fun h => absurd h (by decide)) (fun _ => ?_)
  refine lv_iconst (v := 1) hx hb sj_d_lts_13 (by decide) ?_
  refine lv_goto (tgt := 18) hx hb sj_d_lts_14 (by decide) ?_
  refine W.widen (k := 0) (n := 0) (Nat.le_of_ble_eq_true rfl) (Nat.le_of_ble_eq_true rfl) ?_
  exact bc_iret hx hb hr (by decide) (fun t ht hW => ⟨⟨_, rfl, by rw [ht]; exact ⟨rfl, hH⟩⟩, hS.F ht⟩) hS.2.2 sj_d_lts_18 hlocks
abbrev sj_y_pck : MethodName := ⟨"jdk/internal/util/Preconditions", "checkIndex", "(IILjava/util/function/BiFunction;)I"⟩
abbrev sj_c_pck : ByteArray := prog_43_method_11_code
theorem sj_w_pck : Cond.code sj_y_pck sj_c_pck 3 (some .int) ∈ bc_W := (bc_mem_W (bc_tk4 (List.mem_of_getElem? (i := 111) rfl)) rfl)
theorem sj_d_pck_0 : decode sj_c_pck 0 = .ok (.iload_n 0, 1) := by decide +kernel
theorem sj_d_pck_1 : decode sj_c_pck 1 = .ok (.ifCond .lt 8, 3) := by decide +kernel
theorem sj_d_pck_4 : decode sj_c_pck 4 = .ok (.iload_n 0, 1) := by decide +kernel
theorem sj_d_pck_5 : decode sj_c_pck 5 = .ok (.iload_n 1, 1) := by decide +kernel
theorem sj_d_pck_6 : decode sj_c_pck 6 = .ok (.if_icmp .lt 10, 3) := by decide +kernel
theorem sj_d_pck_16 : decode sj_c_pck 16 = .ok (.iload_n 0, 1) := by decide +kernel
theorem sj_d_pck_17 : decode sj_c_pck 17 = .ok (.ireturn, 1) := by decide +kernel
theorem sj_pck0 {l : Launch} {θ : sj_w} {ss : List sj_s} {H : Heap} {ws : va_W} {j n : Int} (h0 : 0 ≤ j) (h1 : j < n) (h2 : n ≤ 16) : sj_M l θ ss sj_y_pck sj_c_pck 3 (some .int) 0 0 0 [.int (Int32.ofInt j), .int (Int32.ofInt n), .null] ws H (fun r K => r = some (.int (Int32.ofInt j)) ∧ K = H) := by
  refine sj_ofW (by decide +kernel) (Nat.le_of_ble_eq_true rfl) (fun p e R s m args below meth c ls F hH hP hl => ?_)
  obtain ⟨hx, hb, hml, hts, hown, hlocks, hI, hRf, hRl, hRc, hRs, hr, hnm⟩ := F
  have hl : lv_has ls 3 [(0, .int (Int32.ofInt j)), (1, .int (Int32.ofInt n)), (2, .null)] := hl
  have hS : va_S θ.2.2.2.2 s.heap s.heap [] := va_S.rf
  refine lv_iload_n hx hb sj_d_pck_0 rfl (lv_at hl 0 rfl) ?_
  refine lv_if_lt (tgt := 9) hx hb sj_d_pck_1 (by decide) (fun h => absurd h (sj_nlt0 (by omega) (by omega))) (fun _ => ?_)
  refine lv_iload_n hx hb sj_d_pck_4 rfl (lv_at hl 0 rfl) ?_
  refine lv_iload_n hx hb sj_d_pck_5 rfl (lv_at hl 1 rfl) ?_
  refine lv_icmp_lt (tgt := 16) hx hb sj_d_pck_6 (by decide) (fun _ => ?_) (fun h => absurd (sj_lt (by omega) (by omega) h1) h)
  refine lv_iload_n hx hb sj_d_pck_16 rfl (lv_at hl 0 rfl) ?_
  refine W.widen (k := 0) (n := 0) (Nat.le_of_ble_eq_true rfl) (Nat.le_of_ble_eq_true rfl) ?_
  exact bc_iret hx hb hr rfl (fun t ht hW => ⟨⟨_, rfl, by rw [ht]; exact ⟨rfl, hH⟩⟩, hS.F ht⟩) hS.2.2 sj_d_pck_17 hlocks
theorem sj_pck1 {l : Launch} {θ : sj_w} {ss : List sj_s} {H : Heap} {ws : va_W} {w : Nat} {j n : Int} (h0 : 0 ≤ j) (h1 : j < n) (h2 : n ≤ 16) : sj_M l θ ss sj_y_pck sj_c_pck 3 (some .int) 0 0 0 [.int (Int32.ofInt j), .int (Int32.ofInt n), .ref w] ws H (fun r K => r = some (.int (Int32.ofInt j)) ∧ K = H) := by
  refine sj_ofW (by decide +kernel) (Nat.le_of_ble_eq_true rfl) (fun p e R s m args below meth c ls F hH hP hl => ?_)
  obtain ⟨hx, hb, hml, hts, hown, hlocks, hI, hRf, hRl, hRc, hRs, hr, hnm⟩ := F
  have hl : lv_has ls 3 [(0, .int (Int32.ofInt j)), (1, .int (Int32.ofInt n)), (2, .ref w)] := hl
  have hS : va_S θ.2.2.2.2 s.heap s.heap [] := va_S.rf
  refine lv_iload_n hx hb sj_d_pck_0 rfl (lv_at hl 0 rfl) ?_
  refine lv_if_lt (tgt := 9) hx hb sj_d_pck_1 (by decide) (fun h => absurd h (sj_nlt0 (by omega) (by omega))) (fun _ => ?_)
  refine lv_iload_n hx hb sj_d_pck_4 rfl (lv_at hl 0 rfl) ?_
  refine lv_iload_n hx hb sj_d_pck_5 rfl (lv_at hl 1 rfl) ?_
  refine lv_icmp_lt (tgt := 16) hx hb sj_d_pck_6 (by decide) (fun _ => ?_) (fun h => absurd (sj_lt (by omega) (by omega) h1) h)
  refine lv_iload_n hx hb sj_d_pck_16 rfl (lv_at hl 0 rfl) ?_
  refine W.widen (k := 0) (n := 0) (Nat.le_of_ble_eq_true rfl) (Nat.le_of_ble_eq_true rfl) ?_
  exact bc_iret hx hb hr rfl (fun t ht hW => ⟨⟨_, rfl, by rw [ht]; exact ⟨rfl, hH⟩⟩, hS.F ht⟩) hS.2.2 sj_d_pck_17 hlocks
abbrev sj_y_ckx : MethodName := ⟨"java/lang/String", "checkIndex", "(II)V"⟩
abbrev sj_c_ckx : ByteArray := prog_31_method_155_code
theorem sj_w_ckx : Cond.code sj_y_ckx sj_c_ckx 2 none ∈ bc_W := (bc_mem_W (bc_tk4 (List.mem_of_getElem? (i := 106) rfl)) rfl)
theorem sj_d_ckx_0 : decode sj_c_ckx 0 = .ok (.iload_n 0, 1) := by decide +kernel
theorem sj_d_ckx_1 : decode sj_c_ckx 1 = .ok (.iload_n 1, 1) := by decide +kernel
theorem sj_d_ckx_2 : decode sj_c_ckx 2 = .ok (.getstatic 1053, 3) := by decide +kernel
theorem sj_d_ckx_5 : decode sj_c_ckx 5 = .ok (.invokestatic 1059, 3) := by decide +kernel
theorem sj_d_ckx_8 : decode sj_c_ckx 8 = .ok (.pop, 1) := by decide +kernel
theorem sj_d_ckx_9 : decode sj_c_ckx 9 = .ok (.return_, 1) := by decide +kernel
theorem sj_ckx {l : Launch} {θ : sj_w} {ss : List sj_s} {H : Heap} {ws : va_W} {j n : Int} (h0 : 0 ≤ j) (h1 : j < n) (h2 : n ≤ 16) : sj_M l θ ss sj_y_ckx sj_c_ckx 2 none 1 0 0 [.int (Int32.ofInt j), .int (Int32.ofInt n)] ws H (fun r K => r = none ∧ K = H) := by
  refine sj_ofW (by decide +kernel) (Nat.le_of_ble_eq_true rfl) (fun p e R s m args below meth c ls F hH hP hl => ?_)
  obtain ⟨hx, hb, hml, hts, hown, hlocks, hI, hRf, hRl, hRc, hRs, hr, hnm⟩ := F
  have hl : lv_has ls 2 [(0, .int (Int32.ofInt j)), (1, .int (Int32.ofInt n))] := hl
  have hS : va_S θ.2.2.2.2 s.heap s.heap [] := va_S.rf
  refine lv_iload_n hx hb sj_d_ckx_0 rfl (lv_at hl 0 rfl) ?_
  refine lv_iload_n hx hb sj_d_ckx_1 rfl (lv_at hl 1 rfl) ?_
  rcases hI.2.1.2 with hzq | ⟨w, hzq⟩
  · refine va_gets hx hb hzq hS hown (hts (.fieldLink "java/lang/String" 1053 "jdk/internal/util/Preconditions" "SIOOBE_FORMATTER" "Ljava/util/function/BiFunction;") (bc_wat_ok (pos := 870) (by decide +kernel))) (fun _ h => h) sj_d_ckx_2 ?_
    refine sj_cS (n := 3) (As := [.int (Int32.ofInt j), .int (Int32.ofInt n), .null]) (rest := []) hx hb (hml.trans hl.1.symm) hown hts hI hS hP (fun _ h => h) (sj_pck0 h0 h1 h2) sj_w_pck (bc_wat_ok (pos := 69) (by decide +kernel)) (bc_wat_ok (pos := 872) (by decide +kernel)) (bc_wat_ok (pos := 873) (by decide +kernel)) ⟨by decide +kernel, by decide +kernel, by decide +kernel⟩ ⟨by rw [hRf]; exact Nat.le_of_ble_eq_true rfl, by rw [hRl]; exact Nat.le_of_ble_eq_true rfl⟩ ⟨by rw [hRc]; exact Nat.le_of_ble_eq_true rfl, by rw [hRs]; exact Nat.le_of_ble_eq_true rfl⟩ rfl rfl (Nat.le_of_ble_eq_true rfl) sj_d_ckx_5 (fun r H2 locs2 hp hk hz hS => ?_)
    obtain ⟨rfl, rfl⟩ := hp
    refine lv_pop hx hb sj_d_ckx_8 rfl ?_
    refine W.widen (k := 0) (n := 0) (Nat.le_of_ble_eq_true rfl) (Nat.le_of_ble_eq_true rfl) ?_
    exact W.vret hx hb hr (fun t ht hW => ⟨⟨_, rfl, by rw [ht]; exact ⟨rfl, hH⟩⟩, hS.F ht⟩) hS.2.2 sj_d_ckx_9
  · refine va_gets hx hb hzq hS hown (hts (.fieldLink "java/lang/String" 1053 "jdk/internal/util/Preconditions" "SIOOBE_FORMATTER" "Ljava/util/function/BiFunction;") (bc_wat_ok (pos := 870) (by decide +kernel))) (fun _ h => h) sj_d_ckx_2 ?_
    refine sj_cS (n := 3) (As := [.int (Int32.ofInt j), .int (Int32.ofInt n), .ref w]) (rest := []) hx hb (hml.trans hl.1.symm) hown hts hI hS hP (fun _ h => h) (sj_pck1 h0 h1 h2) sj_w_pck (bc_wat_ok (pos := 69) (by decide +kernel)) (bc_wat_ok (pos := 872) (by decide +kernel)) (bc_wat_ok (pos := 873) (by decide +kernel)) ⟨by decide +kernel, by decide +kernel, by decide +kernel⟩ ⟨by rw [hRf]; exact Nat.le_of_ble_eq_true rfl, by rw [hRl]; exact Nat.le_of_ble_eq_true rfl⟩ ⟨by rw [hRc]; exact Nat.le_of_ble_eq_true rfl, by rw [hRs]; exact Nat.le_of_ble_eq_true rfl⟩ rfl rfl (Nat.le_of_ble_eq_true rfl) sj_d_ckx_5 (fun r H2 locs2 hp hk hz hS => ?_)
    obtain ⟨rfl, rfl⟩ := hp
    refine lv_pop hx hb sj_d_ckx_8 rfl ?_
    refine W.widen (k := 0) (n := 0) (Nat.le_of_ble_eq_true rfl) (Nat.le_of_ble_eq_true rfl) ?_
    exact W.vret hx hb hr (fun t ht hW => ⟨⟨_, rfl, by rw [ht]; exact ⟨rfl, hH⟩⟩, hS.F ht⟩) hS.2.2 sj_d_ckx_9
abbrev sj_y_lch : MethodName := ⟨"java/lang/StringLatin1", "charAt", "([BI)C"⟩
abbrev sj_c_lch : ByteArray := prog_33_method_2_code
theorem sj_w_lch : Cond.code sj_y_lch sj_c_lch 2 (some .char) ∈ bc_W := (bc_mem_W (bc_tk4 (List.mem_of_getElem? (i := 103) rfl)) rfl)
theorem sj_d_lch_0 : decode sj_c_lch 0 = .ok (.iload_n 1, 1) := by decide +kernel
theorem sj_d_lch_1 : decode sj_c_lch 1 = .ok (.aload_n 0, 1) := by decide +kernel
theorem sj_d_lch_2 : decode sj_c_lch 2 = .ok (.arraylength, 1) := by decide +kernel
theorem sj_d_lch_3 : decode sj_c_lch 3 = .ok (.invokestatic 9, 3) := by decide +kernel
theorem sj_d_lch_6 : decode sj_c_lch 6 = .ok (.aload_n 0, 1) := by decide +kernel
theorem sj_d_lch_7 : decode sj_c_lch 7 = .ok (.iload_n 1, 1) := by decide +kernel
theorem sj_d_lch_8 : decode sj_c_lch 8 = .ok (.baload, 1) := by decide +kernel
theorem sj_d_lch_9 : decode sj_c_lch 9 = .ok (.sipush 255, 3) := by decide +kernel
theorem sj_d_lch_12 : decode sj_c_lch 12 = .ok (.iand, 1) := by decide +kernel
theorem sj_d_lch_13 : decode sj_c_lch 13 = .ok (.i2c, 1) := by decide +kernel
theorem sj_d_lch_14 : decode sj_c_lch 14 = .ok (.ireturn, 1) := by decide +kernel
theorem sj_lch {l : Launch} {θ : sj_w} {ss : List sj_s} {H : Heap} {q : sj_s} {ws : va_W} (hq : q ∈ ss) {j cv : Int} (h0 : 0 ≤ j) (h1 : j < (q.2.2.1 : Int)) (hc : q.2.2.2 j.toNat = Int32.ofInt cv) (c0 : 0 ≤ cv) (c1 : cv < 128) : sj_M l θ ss sj_y_lch sj_c_lch 2 (some .char) 2 0 0 [.ref q.2.1, .int (Int32.ofInt j)] ws H (fun r K => r = some (.int (Int32.ofInt cv)) ∧ K = H) := by
  refine sj_ofW (by decide +kernel) (Nat.le_of_ble_eq_true rfl) (fun p e R s m args below meth c ls F hH hP hl => ?_)
  obtain ⟨hx, hb, hml, hts, hown, hlocks, hI, hRf, hRl, hRc, hRs, hr, hnm⟩ := F
  have hl : lv_has ls 2 [(0, .ref q.2.1), (1, .int (Int32.ofInt j))] := hl
  have hS : va_S θ.2.2.2.2 s.heap s.heap [] := va_S.rf
  obtain ⟨kO, kC, kV, kT, kn, kf⟩ := hI.2.2.2.2.2.2 q hq
  refine lv_iload_n hx hb sj_d_lch_0 rfl (lv_at hl 1 rfl) ?_
  refine lv_aload_n hx hb sj_d_lch_1 rfl (lv_at hl 0 rfl) ?_
  refine va_tlen (v := Int32.ofInt (q.2.2.1 : Int)) hx hb kT hS Int32.ofInt_eq_ofNat.symm sj_d_lch_2 ?_
  refine sj_cS (n := 2) (As := [.int (Int32.ofInt j), .int (Int32.ofInt (q.2.2.1 : Int))]) (rest := []) hx hb (hml.trans hl.1.symm) hown hts hI hS hP (fun _ h => h) (sj_ckx h0 h1 (by omega)) sj_w_ckx (bc_wat_ok (pos := 60) (by decide +kernel)) (bc_wat_ok (pos := 867) (by decide +kernel)) (bc_wat_ok (pos := 868) (by decide +kernel)) ⟨by decide +kernel, by decide +kernel, by decide +kernel⟩ ⟨by rw [hRf]; exact Nat.le_of_ble_eq_true rfl, by rw [hRl]; exact Nat.le_of_ble_eq_true rfl⟩ ⟨by rw [hRc]; exact Nat.le_of_ble_eq_true rfl, by rw [hRs]; exact Nat.le_of_ble_eq_true rfl⟩ rfl rfl (Nat.le_of_ble_eq_true rfl) sj_d_lch_3 (fun r H2 locs2 hp hk hz hS => ?_)
  obtain ⟨rfl, rfl⟩ := hp
  refine lv_aload_n hx hb sj_d_lch_6 rfl (lv_at hl 0 rfl) ?_
  refine lv_iload_n hx hb sj_d_lch_7 rfl (lv_at hl 1 rfl) ?_
  obtain ⟨hin, hcl⟩ := bc_vp h0 h1 (by omega)
  refine va_tb hx hb kT hS hin (v := .int (Int32.ofInt cv)) (by rw [hcl]; show Value.int _ = _; rw [hc]) sj_d_lch_8 ?_
  refine lv_sipush (v := 255) hx hb sj_d_lch_9 (by decide) ?_
  refine lv_iand hx hb sj_d_lch_12 ?_
  rw [(sj_i2c c0 c1).1]
  refine lv_i2c (v := Int32.ofInt cv) hx hb sj_d_lch_13 (sj_i2c c0 c1).2 ?_
  refine W.widen (k := 0) (n := 0) (Nat.le_of_ble_eq_true rfl) (Nat.le_of_ble_eq_true rfl) ?_
  exact bc_iret hx hb hr (bc_fit_e (ty := 1) (A := True) ⟨⟨by omega, by omega⟩, trivial⟩).2.2.1 (fun t ht hW => ⟨⟨_, rfl, by rw [ht]; exact ⟨rfl, hH⟩⟩, hS.F ht⟩) hS.2.2 sj_d_lch_14 hlocks
abbrev sj_y_cha : MethodName := ⟨"java/lang/String", "charAt", "(I)C"⟩
abbrev sj_c_cha : ByteArray := prog_31_method_56_code
theorem sj_w_cha : Cond.code sj_y_cha sj_c_cha 2 (some .char) ∈ bc_W := (bc_mem_W (bc_tk4 (List.mem_of_getElem? (i := 96) rfl)) rfl)
theorem sj_d_cha_0 : decode sj_c_cha 0 = .ok (.aload_n 0, 1) := by decide +kernel
theorem sj_d_cha_1 : decode sj_c_cha 1 = .ok (.invokevirtual 492, 3) := by decide +kernel
theorem sj_d_cha_4 : decode sj_c_cha 4 = .ok (.ifCond .eq 12, 3) := by decide +kernel
theorem sj_d_cha_7 : decode sj_c_cha 7 = .ok (.aload_n 0, 1) := by decide +kernel
theorem sj_d_cha_8 : decode sj_c_cha 8 = .ok (.getfield 9, 3) := by decide +kernel
theorem sj_d_cha_11 : decode sj_c_cha 11 = .ok (.iload_n 1, 1) := by decide +kernel
theorem sj_d_cha_12 : decode sj_c_cha 12 = .ok (.invokestatic 495, 3) := by decide +kernel
theorem sj_d_cha_15 : decode sj_c_cha 15 = .ok (.ireturn, 1) := by decide +kernel
theorem sj_cha {l : Launch} {θ : sj_w} {ss : List sj_s} {H : Heap} {q : sj_s} {ws : va_W} (hq : q ∈ ss) {j cv : Int} (h0 : 0 ≤ j) (h1 : j < (q.2.2.1 : Int)) (hc : q.2.2.2 j.toNat = Int32.ofInt cv) (c0 : 0 ≤ cv) (c1 : cv < 128) : sj_M l θ ss sj_y_cha sj_c_cha 2 (some .char) 3 0 0 [.ref q.1, .int (Int32.ofInt j)] ws H (fun r K => r = some (.int (Int32.ofInt cv)) ∧ K = H) := by
  refine sj_ofW (by decide +kernel) (Nat.le_of_ble_eq_true rfl) (fun p e R s m args below meth c ls F hH hP hl => ?_)
  obtain ⟨hx, hb, hml, hts, hown, hlocks, hI, hRf, hRl, hRc, hRs, hr, hnm⟩ := F
  have hl : lv_has ls 2 [(0, .ref q.1), (1, .int (Int32.ofInt j))] := hl
  have hS : va_S θ.2.2.2.2 s.heap s.heap [] := va_S.rf
  obtain ⟨kO, kC, kV, kT, kn, kf⟩ := hI.2.2.2.2.2.2 q hq
  refine lv_aload_n hx hb sj_d_cha_0 rfl (lv_at hl 0 rfl) ?_
  refine sj_cV (C := "java/lang/String") (n := 0) (As := []) (rest := []) hx hb (hml.trans hl.1.symm) hown hts hI hS hP (fun _ h => h) (sj_lts hq) sj_w_lts (bc_wat_ok (pos := 60) (by decide +kernel)) (bc_wat_ok (pos := 860) (by decide +kernel)) (bc_wat_ok (pos := 861) (by decide +kernel)) (hts _ (bc_wat_ok (pos := 862) (by decide +kernel))) (by obtain ⟨cell, h1, h2, h3, -⟩ := kO.kept hS.2.1; exact ⟨cell, h1, h2, h3⟩) ⟨by decide +kernel, by decide +kernel, by decide +kernel⟩ ⟨by rw [hRf]; exact Nat.le_of_ble_eq_true rfl, by rw [hRl]; exact Nat.le_of_ble_eq_true rfl⟩ ⟨by rw [hRc]; exact Nat.le_of_ble_eq_true rfl, by rw [hRs]; exact Nat.le_of_ble_eq_true rfl⟩ rfl rfl (Nat.le_of_ble_eq_true rfl) sj_d_cha_1 (fun r H2 locs2 hp hk hz hS => ?_)
  obtain ⟨rfl, rfl⟩ := hp
  refine lv_if_eq (tgt := 16) hx hb sj_d_cha_4 (by decide) (fun h => absurd h (by decide)) (fun _ => ?_)
  refine lv_aload_n hx hb sj_d_cha_7 rfl (lv_at hl 0 rfl) ?_
  refine vk_getf hx hb kV hS hown (hts (.fieldLink "java/lang/String" 9 "java/lang/String" "value" "[B") (bc_wat_ok (pos := 1400) (by decide +kernel))) (fun _ h => h) sj_d_cha_8 ?_
  refine lv_iload_n hx hb sj_d_cha_11 rfl (lv_at hl 1 rfl) ?_
  refine sj_cS (n := 2) (As := [.ref q.2.1, .int (Int32.ofInt j)]) (rest := []) hx hb (hml.trans hl.1.symm) hown hts hI hS hP (fun _ h => h) (sj_lch hq h0 h1 hc c0 c1) sj_w_lch (bc_wat_ok (pos := 68) (by decide +kernel)) (bc_wat_ok (pos := 864) (by decide +kernel)) (bc_wat_ok (pos := 865) (by decide +kernel)) ⟨by decide +kernel, by decide +kernel, by decide +kernel⟩ ⟨by rw [hRf]; exact Nat.le_of_ble_eq_true rfl, by rw [hRl]; exact Nat.le_of_ble_eq_true rfl⟩ ⟨by rw [hRc]; exact Nat.le_of_ble_eq_true rfl, by rw [hRs]; exact Nat.le_of_ble_eq_true rfl⟩ rfl rfl (Nat.le_of_ble_eq_true rfl) sj_d_cha_12 (fun r H2 locs2 hp hk hz hS => ?_)
  obtain ⟨rfl, rfl⟩ := hp
  refine W.widen (k := 0) (n := 0) (Nat.le_of_ble_eq_true rfl) (Nat.le_of_ble_eq_true rfl) ?_
  exact bc_iret hx hb hr (bc_fit_e (ty := 1) (A := True) ⟨⟨by omega, by omega⟩, trivial⟩).2.2.1 (fun t ht hW => ⟨⟨_, rfl, by rw [ht]; exact ⟨rfl, hH⟩⟩, hS.F ht⟩) hS.2.2 sj_d_cha_15 hlocks
