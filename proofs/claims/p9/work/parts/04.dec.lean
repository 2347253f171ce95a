/-- a branch's goal is the written one; a throw's site has its shape -/
noncomputable def bc_tg (b : ByteArray) (pc : Nat) (i : Instr) (ts : List Nat) : Bool := match i, ts with
  | .goto o, ts => ts.length == 1 && decide ((pc : Int) + o = ((ts.getD 0 0 : Nat) : Int))
  | .ifCond _ o, ts => ts.length == 1 && decide ((pc : Int) + o = ((ts.getD 0 0 : Nat) : Int))
  | .if_icmp _ o, ts => ts.length == 1 && decide ((pc : Int) + o = ((ts.getD 0 0 : Nat) : Int))
  | .tableswitch d lo hi offs, ts => decide ((pc : Int) + d = ((ts.getD 0 0 : Nat) : Int)) && decide (hi + 1 = lo + ((ts.length - 1 : Nat) : Int)) && decide (-2147483648 ≤ lo ∧ hi ≤ 2147483647) && decide (0 < ts.length) && decide (offs.size + 1 = ts.length) && (List.range (ts.length - 1)).all (fun j => decide ((pc : Int) + offs[j]! = ((ts.getD (j + 1) 0 : Nat) : Int)))
  | .bipush n, _ => decide (-128 ≤ n ∧ n ≤ 127)
  | .sipush n, _ => decide (-32768 ≤ n ∧ n ≤ 32767)
  | .iconst n, _ => decide (-128 ≤ n ∧ n ≤ 127)
  | _, _ => true
/-- the length of an instruction as the rows have it -/
noncomputable def bc_ln (i : Instr) (n : Nat) : Bool := match i with
  | .bipush _ | .iload _ | .lload _ | .fload _ | .dload _ | .aload _ | .istore _ | .lstore _ | .fstore _ | .dstore _ | .astore _ | .ldc _ => n == 2
  | .sipush _ | .iinc _ _ | .goto _ | .ifCond _ _ | .if_icmp _ _ | .getfield _ | .putfield _ | .invokevirtual _ | .invokestatic _ | .ldc_w _ | .new _ => n == 3
  | .tableswitch _ _ _ _ => true
  | .iconst _ | .lconst _ | .fconst _ | .dconst _ | .iload_n _ | .lload_n _ | .fload_n _ | .dload_n _ | .aload_n _ | .istore_n _ | .lstore_n _ | .fstore_n _ | .dstore_n _ | .astore_n _ => n == 1
  | .iaload | .laload | .daload | .aaload | .baload | .caload | .iastore | .lastore | .dastore | .bastore | .castore | .arraylength => n == 1
  | .iadd | .isub | .imul | .idiv | .irem | .iand | .ior | .ishl | .lor | .lshl | .lcmp | .i2l | .i2c | .i2f | .i2d | .f2d | .f2i | .fdiv | .ddiv | .fmul | .fsub | .fneg | .fcmp _ | .dcmp _ | .dup | .dup2 | .pop => n == 1
  | .ireturn | .lreturn | .freturn | .dreturn | .areturn | .return_ | .athrow => n == 1
  | _ => true
/-! DECODING IN ONE PASS OVER THE BYTES -/
noncomputable def dq_at (b : ByteArray) (p n : Nat) : Prop := ∃ x : UInt8, b.data.toList[p]? = some x ∧ x.toNat = n
theorem dq_bind {α β : Type} {r : Decoder α} {f : α → Decoder β} {b : ByteArray} {p q : Nat} {x : α} (h : Reader.runAt r b p = .ok (x, q)) : Reader.runAt (r >>= f) b p = Reader.runAt (f x) b q := by
  show Except.bind (Reader.runAt r b p) (fun z => Reader.runAt (f z.1) b z.2) = Reader.runAt (f x) b q
  rw [h]
  rfl
theorem dq_map {α β : Type} {r : Decoder α} {f : α → β} {b : ByteArray} {p q : Nat} {x : α} (h : Reader.runAt r b p = .ok (x, q)) : Reader.runAt (f <$> r) b p = .ok (f x, q) := by
  show Except.bind (Reader.runAt r b p) (fun z => Except.ok (f z.1, z.2)) = .ok (f x, q)
  rw [h]
  rfl
theorem dq_u1 {b : ByteArray} {p n : Nat} (h : dq_at b p n) : Reader.runAt (Reader.u1 : Decoder Nat) b p = .ok (n, p + 1) := by
  obtain ⟨x, hx, rfl⟩ := h
  obtain ⟨hp, e⟩ := List.getElem?_eq_some_iff.mp hx
  have hb : p < b.size := hp
  have e2 : b[p]'hb = x := e
  show (if h : p < b.size then (do set (p + 1); pure (b[p]'h).toNat : Decoder Nat) else throw (HasTruncated.truncated p)) b p = .ok (x.toNat, p + 1)
  rw [dif_pos hb, e2]
  rfl
theorem dq_u2 {b : ByteArray} {p m n : Nat} (h1 : dq_at b p m) (h2 : dq_at b (p + 1) n) : Reader.runAt (Reader.u2 : Decoder Nat) b p = .ok (m * 256 + n, p + 2) :=
  (dq_bind (dq_u1 h1)).trans ((dq_bind (dq_u1 h2)).trans rfl)
theorem dq_s1 {b : ByteArray} {p n : Nat} (h : dq_at b p n) : Reader.runAt (Reader.s1 : Decoder Int) b p = .ok (Reader.signed 8 n, p + 1) := dq_map (dq_u1 h)
theorem dq_s2 {b : ByteArray} {p m n : Nat} (h1 : dq_at b p m) (h2 : dq_at b (p + 1) n) : Reader.runAt (Reader.s2 : Decoder Int) b p = .ok (Reader.signed 16 (m * 256 + n), p + 2) := dq_map (dq_u2 h1 h2)
theorem dq_dec {b : ByteArray} {pc k : Nat} {i : Instr} (h : Reader.runAt (Decoder.instr pc) b pc = .ok (i, pc + k)) : decode b pc = .ok (i, k) := by
  show Except.bind (Reader.runAt (Decoder.instr pc) b pc) (fun z => Except.ok (z.1, z.2 - pc)) = .ok (i, k)
  rw [h]
  show Except.ok (i, pc + k - pc) = Except.ok (i, k)
  rw [Nat.add_sub_cancel_left]
theorem dq_256 (x : Nat) : x / 256 * 256 + x % 256 = x := by omega
theorem dq_g16 {v : Int} (h : decide (-32768 ≤ v ∧ v < 32768) = true) : Reader.signed 16 ((v % 65536).toNat / 256 * 256 + (v % 65536).toNat % 256) = v := by
  have h := of_decide_eq_true h
  rw [dq_256]
  unfold Reader.signed
  rw [show (2 : Nat) ^ (16 - 1) = 32768 from rfl, show ((2 ^ 16 : Nat) : Int) = 65536 from rfl]
  split <;> omega
theorem dq_g8 {v : Int} (h : decide (-128 ≤ v ∧ v < 128) = true) : Reader.signed 8 (v % 256).toNat = v := by
  have h := of_decide_eq_true h
  unfold Reader.signed
  rw [show (2 : Nat) ^ (8 - 1) = 128 from rfl, show ((2 ^ 8 : Nat) : Int) = 256 from rfl]
  split <;> omega
noncomputable def dq_pre : List Nat → List UInt8 → Bool
  | [], _ => true
  | _ :: _, [] => false
  | n :: e, x :: l => Nat.beq x.toNat n && dq_pre e l
noncomputable def dq_D (b : ByteArray) (p : Nat) (l : List UInt8) : Prop := b.data.toList.drop p = l
theorem dq_c {b : ByteArray} {p n : Nat} {l : List UInt8} {e : List Nat} (hD : dq_D b p l) (h : dq_pre (n :: e) l = true) : dq_at b p n ∧ ∃ l', dq_D b (p + 1) l' ∧ dq_pre e l' = true := by
  cases l with
  | nil => exact absurd (show false = true from h) (by decide)
  | cons x l =>
    obtain ⟨h1, h2⟩ := Bool.and_eq_true_iff.mp (show (Nat.beq x.toNat n && dq_pre e l) = true from h)
    have hd : b.data.toList.drop p = x :: l := hD
    refine ⟨⟨x, ?_, Nat.eq_of_beq_eq_true h1⟩, l, ?_, h2⟩
    · have q := List.getElem?_drop (xs := b.data.toList) (i := p) (j := 0)
      rw [hd] at q
      exact q.symm
    · have q := congrArg List.tail hd
      rw [List.tail_drop] at q
      exact q
theorem do_50 {b : ByteArray} {pc : Nat} {l : List UInt8} (hD : dq_D b pc l) (h : dq_pre [50] l = true) : decode b pc = .ok (.aaload, 1) := dq_dec ((dq_bind (dq_u1 (dq_c hD h).1)).trans rfl)
theorem do_83 {b : ByteArray} {pc : Nat} {l : List UInt8} (hD : dq_D b pc l) (h : dq_pre [83] l = true) : decode b pc = .ok (.aastore, 1) := dq_dec ((dq_bind (dq_u1 (dq_c hD h).1)).trans rfl)
theorem dx_aload {b : ByteArray} {pc : Nat} {l : List UInt8} (v : Nat) (hD : dq_D b pc l) (h : dq_pre [25, v] l = true) : decode b pc = .ok (.aload v, 2) := by
  obtain ⟨h0, l1, hD1, h⟩ := dq_c hD h
  exact dq_dec ((dq_bind (dq_u1 h0)).trans ((dq_bind (dq_u1 (dq_c hD1 h).1)).trans rfl))
theorem do_42 {b : ByteArray} {pc : Nat} {l : List UInt8} (hD : dq_D b pc l) (h : dq_pre [42] l = true) : decode b pc = .ok (.aload_n 0, 1) := dq_dec ((dq_bind (dq_u1 (dq_c hD h).1)).trans rfl)
theorem do_43 {b : ByteArray} {pc : Nat} {l : List UInt8} (hD : dq_D b pc l) (h : dq_pre [43] l = true) : decode b pc = .ok (.aload_n 1, 1) := dq_dec ((dq_bind (dq_u1 (dq_c hD h).1)).trans rfl)
theorem do_44 {b : ByteArray} {pc : Nat} {l : List UInt8} (hD : dq_D b pc l) (h : dq_pre [44] l = true) : decode b pc = .ok (.aload_n 2, 1) := dq_dec ((dq_bind (dq_u1 (dq_c hD h).1)).trans rfl)
theorem do_45 {b : ByteArray} {pc : Nat} {l : List UInt8} (hD : dq_D b pc l) (h : dq_pre [45] l = true) : decode b pc = .ok (.aload_n 3, 1) := dq_dec ((dq_bind (dq_u1 (dq_c hD h).1)).trans rfl)
theorem dx_anewarray {b : ByteArray} {pc : Nat} {l : List UInt8} (v : Nat) (hD : dq_D b pc l) (h : dq_pre [189, v / 256, v % 256] l = true) : decode b pc = .ok (.anewarray v, 3) := by
  obtain ⟨h0, l1, hD1, h⟩ := dq_c hD h
  obtain ⟨h1, l2, hD2, h⟩ := dq_c hD1 h
  have q : decode b pc = .ok (.anewarray (v / 256 * 256 + v % 256), 3) := dq_dec ((dq_bind (dq_u1 h0)).trans ((dq_bind (dq_u2 h1 (dq_c hD2 h).1)).trans rfl))
  rw [dq_256] at q
  exact q
theorem do_176 {b : ByteArray} {pc : Nat} {l : List UInt8} (hD : dq_D b pc l) (h : dq_pre [176] l = true) : decode b pc = .ok (.areturn, 1) := dq_dec ((dq_bind (dq_u1 (dq_c hD h).1)).trans rfl)
theorem do_190 {b : ByteArray} {pc : Nat} {l : List UInt8} (hD : dq_D b pc l) (h : dq_pre [190] l = true) : decode b pc = .ok (.arraylength, 1) := dq_dec ((dq_bind (dq_u1 (dq_c hD h).1)).trans rfl)
theorem dx_astore {b : ByteArray} {pc : Nat} {l : List UInt8} (v : Nat) (hD : dq_D b pc l) (h : dq_pre [58, v] l = true) : decode b pc = .ok (.astore v, 2) := by
  obtain ⟨h0, l1, hD1, h⟩ := dq_c hD h
  exact dq_dec ((dq_bind (dq_u1 h0)).trans ((dq_bind (dq_u1 (dq_c hD1 h).1)).trans rfl))
theorem do_75 {b : ByteArray} {pc : Nat} {l : List UInt8} (hD : dq_D b pc l) (h : dq_pre [75] l = true) : decode b pc = .ok (.astore_n 0, 1) := dq_dec ((dq_bind (dq_u1 (dq_c hD h).1)).trans rfl)
theorem do_76 {b : ByteArray} {pc : Nat} {l : List UInt8} (hD : dq_D b pc l) (h : dq_pre [76] l = true) : decode b pc = .ok (.astore_n 1, 1) := dq_dec ((dq_bind (dq_u1 (dq_c hD h).1)).trans rfl)
theorem do_77 {b : ByteArray} {pc : Nat} {l : List UInt8} (hD : dq_D b pc l) (h : dq_pre [77] l = true) : decode b pc = .ok (.astore_n 2, 1) := dq_dec ((dq_bind (dq_u1 (dq_c hD h).1)).trans rfl)
theorem do_78 {b : ByteArray} {pc : Nat} {l : List UInt8} (hD : dq_D b pc l) (h : dq_pre [78] l = true) : decode b pc = .ok (.astore_n 3, 1) := dq_dec ((dq_bind (dq_u1 (dq_c hD h).1)).trans rfl)
theorem do_191 {b : ByteArray} {pc : Nat} {l : List UInt8} (hD : dq_D b pc l) (h : dq_pre [191] l = true) : decode b pc = .ok (.athrow, 1) := dq_dec ((dq_bind (dq_u1 (dq_c hD h).1)).trans rfl)
theorem do_51 {b : ByteArray} {pc : Nat} {l : List UInt8} (hD : dq_D b pc l) (h : dq_pre [51] l = true) : decode b pc = .ok (.baload, 1) := dq_dec ((dq_bind (dq_u1 (dq_c hD h).1)).trans rfl)
theorem do_84 {b : ByteArray} {pc : Nat} {l : List UInt8} (hD : dq_D b pc l) (h : dq_pre [84] l = true) : decode b pc = .ok (.bastore, 1) := dq_dec ((dq_bind (dq_u1 (dq_c hD h).1)).trans rfl)
theorem dx_bipush {b : ByteArray} {pc : Nat} {l : List UInt8} (v : Int) (hr : decide (-128 ≤ v ∧ v < 128) = true) (hD : dq_D b pc l) (h : dq_pre [16, (v % 256).toNat] l = true) : decode b pc = .ok (.bipush v, 2) := by
  obtain ⟨h0, l1, hD1, h⟩ := dq_c hD h
  have q : decode b pc = .ok (.bipush (Reader.signed 8 (v % 256).toNat), 2) := dq_dec ((dq_bind (dq_u1 h0)).trans ((dq_bind (dq_s1 (dq_c hD1 h).1)).trans rfl))
  rw [dq_g8 hr] at q
  exact q
theorem do_52 {b : ByteArray} {pc : Nat} {l : List UInt8} (hD : dq_D b pc l) (h : dq_pre [52] l = true) : decode b pc = .ok (.caload, 1) := dq_dec ((dq_bind (dq_u1 (dq_c hD h).1)).trans rfl)
theorem do_85 {b : ByteArray} {pc : Nat} {l : List UInt8} (hD : dq_D b pc l) (h : dq_pre [85] l = true) : decode b pc = .ok (.castore, 1) := dq_dec ((dq_bind (dq_u1 (dq_c hD h).1)).trans rfl)
theorem do_82 {b : ByteArray} {pc : Nat} {l : List UInt8} (hD : dq_D b pc l) (h : dq_pre [82] l = true) : decode b pc = .ok (.dastore, 1) := dq_dec ((dq_bind (dq_u1 (dq_c hD h).1)).trans rfl)
theorem do_14 {b : ByteArray} {pc : Nat} {l : List UInt8} (hD : dq_D b pc l) (h : dq_pre [14] l = true) : decode b pc = .ok (.dconst 0, 1) := dq_dec ((dq_bind (dq_u1 (dq_c hD h).1)).trans rfl)
theorem do_15 {b : ByteArray} {pc : Nat} {l : List UInt8} (hD : dq_D b pc l) (h : dq_pre [15] l = true) : decode b pc = .ok (.dconst 1, 1) := dq_dec ((dq_bind (dq_u1 (dq_c hD h).1)).trans rfl)
theorem do_111 {b : ByteArray} {pc : Nat} {l : List UInt8} (hD : dq_D b pc l) (h : dq_pre [111] l = true) : decode b pc = .ok (.ddiv, 1) := dq_dec ((dq_bind (dq_u1 (dq_c hD h).1)).trans rfl)
theorem do_175 {b : ByteArray} {pc : Nat} {l : List UInt8} (hD : dq_D b pc l) (h : dq_pre [175] l = true) : decode b pc = .ok (.dreturn, 1) := dq_dec ((dq_bind (dq_u1 (dq_c hD h).1)).trans rfl)
theorem dx_dstore {b : ByteArray} {pc : Nat} {l : List UInt8} (v : Nat) (hD : dq_D b pc l) (h : dq_pre [57, v] l = true) : decode b pc = .ok (.dstore v, 2) := by
  obtain ⟨h0, l1, hD1, h⟩ := dq_c hD h
  exact dq_dec ((dq_bind (dq_u1 h0)).trans ((dq_bind (dq_u1 (dq_c hD1 h).1)).trans rfl))
theorem do_89 {b : ByteArray} {pc : Nat} {l : List UInt8} (hD : dq_D b pc l) (h : dq_pre [89] l = true) : decode b pc = .ok (.dup, 1) := dq_dec ((dq_bind (dq_u1 (dq_c hD h).1)).trans rfl)
theorem do_92 {b : ByteArray} {pc : Nat} {l : List UInt8} (hD : dq_D b pc l) (h : dq_pre [92] l = true) : decode b pc = .ok (.dup2, 1) := dq_dec ((dq_bind (dq_u1 (dq_c hD h).1)).trans rfl)
theorem do_141 {b : ByteArray} {pc : Nat} {l : List UInt8} (hD : dq_D b pc l) (h : dq_pre [141] l = true) : decode b pc = .ok (.f2d, 1) := dq_dec ((dq_bind (dq_u1 (dq_c hD h).1)).trans rfl)
theorem do_139 {b : ByteArray} {pc : Nat} {l : List UInt8} (hD : dq_D b pc l) (h : dq_pre [139] l = true) : decode b pc = .ok (.f2i, 1) := dq_dec ((dq_bind (dq_u1 (dq_c hD h).1)).trans rfl)
theorem do_149 {b : ByteArray} {pc : Nat} {l : List UInt8} (hD : dq_D b pc l) (h : dq_pre [149] l = true) : decode b pc = .ok (.fcmp .l, 1) := dq_dec ((dq_bind (dq_u1 (dq_c hD h).1)).trans rfl)
theorem do_150 {b : ByteArray} {pc : Nat} {l : List UInt8} (hD : dq_D b pc l) (h : dq_pre [150] l = true) : decode b pc = .ok (.fcmp .g, 1) := dq_dec ((dq_bind (dq_u1 (dq_c hD h).1)).trans rfl)
theorem do_11 {b : ByteArray} {pc : Nat} {l : List UInt8} (hD : dq_D b pc l) (h : dq_pre [11] l = true) : decode b pc = .ok (.fconst 0, 1) := dq_dec ((dq_bind (dq_u1 (dq_c hD h).1)).trans rfl)
theorem do_12 {b : ByteArray} {pc : Nat} {l : List UInt8} (hD : dq_D b pc l) (h : dq_pre [12] l = true) : decode b pc = .ok (.fconst 1, 1) := dq_dec ((dq_bind (dq_u1 (dq_c hD h).1)).trans rfl)
theorem do_13 {b : ByteArray} {pc : Nat} {l : List UInt8} (hD : dq_D b pc l) (h : dq_pre [13] l = true) : decode b pc = .ok (.fconst 2, 1) := dq_dec ((dq_bind (dq_u1 (dq_c hD h).1)).trans rfl)
theorem do_110 {b : ByteArray} {pc : Nat} {l : List UInt8} (hD : dq_D b pc l) (h : dq_pre [110] l = true) : decode b pc = .ok (.fdiv, 1) := dq_dec ((dq_bind (dq_u1 (dq_c hD h).1)).trans rfl)
theorem do_34 {b : ByteArray} {pc : Nat} {l : List UInt8} (hD : dq_D b pc l) (h : dq_pre [34] l = true) : decode b pc = .ok (.fload_n 0, 1) := dq_dec ((dq_bind (dq_u1 (dq_c hD h).1)).trans rfl)
theorem do_35 {b : ByteArray} {pc : Nat} {l : List UInt8} (hD : dq_D b pc l) (h : dq_pre [35] l = true) : decode b pc = .ok (.fload_n 1, 1) := dq_dec ((dq_bind (dq_u1 (dq_c hD h).1)).trans rfl)
theorem do_36 {b : ByteArray} {pc : Nat} {l : List UInt8} (hD : dq_D b pc l) (h : dq_pre [36] l = true) : decode b pc = .ok (.fload_n 2, 1) := dq_dec ((dq_bind (dq_u1 (dq_c hD h).1)).trans rfl)
theorem do_37 {b : ByteArray} {pc : Nat} {l : List UInt8} (hD : dq_D b pc l) (h : dq_pre [37] l = true) : decode b pc = .ok (.fload_n 3, 1) := dq_dec ((dq_bind (dq_u1 (dq_c hD h).1)).trans rfl)
theorem do_106 {b : ByteArray} {pc : Nat} {l : List UInt8} (hD : dq_D b pc l) (h : dq_pre [106] l = true) : decode b pc = .ok (.fmul, 1) := dq_dec ((dq_bind (dq_u1 (dq_c hD h).1)).trans rfl)
theorem do_118 {b : ByteArray} {pc : Nat} {l : List UInt8} (hD : dq_D b pc l) (h : dq_pre [118] l = true) : decode b pc = .ok (.fneg, 1) := dq_dec ((dq_bind (dq_u1 (dq_c hD h).1)).trans rfl)
theorem do_174 {b : ByteArray} {pc : Nat} {l : List UInt8} (hD : dq_D b pc l) (h : dq_pre [174] l = true) : decode b pc = .ok (.freturn, 1) := dq_dec ((dq_bind (dq_u1 (dq_c hD h).1)).trans rfl)
theorem dx_fstore {b : ByteArray} {pc : Nat} {l : List UInt8} (v : Nat) (hD : dq_D b pc l) (h : dq_pre [56, v] l = true) : decode b pc = .ok (.fstore v, 2) := by
  obtain ⟨h0, l1, hD1, h⟩ := dq_c hD h
  exact dq_dec ((dq_bind (dq_u1 h0)).trans ((dq_bind (dq_u1 (dq_c hD1 h).1)).trans rfl))
theorem do_67 {b : ByteArray} {pc : Nat} {l : List UInt8} (hD : dq_D b pc l) (h : dq_pre [67] l = true) : decode b pc = .ok (.fstore_n 0, 1) := dq_dec ((dq_bind (dq_u1 (dq_c hD h).1)).trans rfl)
theorem do_68 {b : ByteArray} {pc : Nat} {l : List UInt8} (hD : dq_D b pc l) (h : dq_pre [68] l = true) : decode b pc = .ok (.fstore_n 1, 1) := dq_dec ((dq_bind (dq_u1 (dq_c hD h).1)).trans rfl)
theorem do_69 {b : ByteArray} {pc : Nat} {l : List UInt8} (hD : dq_D b pc l) (h : dq_pre [69] l = true) : decode b pc = .ok (.fstore_n 2, 1) := dq_dec ((dq_bind (dq_u1 (dq_c hD h).1)).trans rfl)
theorem do_70 {b : ByteArray} {pc : Nat} {l : List UInt8} (hD : dq_D b pc l) (h : dq_pre [70] l = true) : decode b pc = .ok (.fstore_n 3, 1) := dq_dec ((dq_bind (dq_u1 (dq_c hD h).1)).trans rfl)
theorem do_102 {b : ByteArray} {pc : Nat} {l : List UInt8} (hD : dq_D b pc l) (h : dq_pre [102] l = true) : decode b pc = .ok (.fsub, 1) := dq_dec ((dq_bind (dq_u1 (dq_c hD h).1)).trans rfl)
theorem dx_getfield {b : ByteArray} {pc : Nat} {l : List UInt8} (v : Nat) (hD : dq_D b pc l) (h : dq_pre [180, v / 256, v % 256] l = true) : decode b pc = .ok (.getfield v, 3) := by
  obtain ⟨h0, l1, hD1, h⟩ := dq_c hD h
  obtain ⟨h1, l2, hD2, h⟩ := dq_c hD1 h
  have q : decode b pc = .ok (.getfield (v / 256 * 256 + v % 256), 3) := dq_dec ((dq_bind (dq_u1 h0)).trans ((dq_bind (dq_u2 h1 (dq_c hD2 h).1)).trans rfl))
  rw [dq_256] at q
  exact q
theorem dx_goto {b : ByteArray} {pc : Nat} {l : List UInt8} (v : Int) (hr : decide (-32768 ≤ v ∧ v < 32768) = true) (hD : dq_D b pc l) (h : dq_pre [167, (v % 65536).toNat / 256, (v % 65536).toNat % 256] l = true) : decode b pc = .ok (.goto v, 3) := by
  obtain ⟨h0, l1, hD1, h⟩ := dq_c hD h
  obtain ⟨h1, l2, hD2, h⟩ := dq_c hD1 h
  have q : decode b pc = .ok (.goto (Reader.signed 16 ((v % 65536).toNat / 256 * 256 + (v % 65536).toNat % 256)), 3) := dq_dec ((dq_bind (dq_u1 h0)).trans ((dq_bind (dq_s2 h1 (dq_c hD2 h).1)).trans rfl))
  rw [dq_g16 hr] at q
  exact q
theorem do_146 {b : ByteArray} {pc : Nat} {l : List UInt8} (hD : dq_D b pc l) (h : dq_pre [146] l = true) : decode b pc = .ok (.i2c, 1) := dq_dec ((dq_bind (dq_u1 (dq_c hD h).1)).trans rfl)
theorem do_135 {b : ByteArray} {pc : Nat} {l : List UInt8} (hD : dq_D b pc l) (h : dq_pre [135] l = true) : decode b pc = .ok (.i2d, 1) := dq_dec ((dq_bind (dq_u1 (dq_c hD h).1)).trans rfl)
theorem do_134 {b : ByteArray} {pc : Nat} {l : List UInt8} (hD : dq_D b pc l) (h : dq_pre [134] l = true) : decode b pc = .ok (.i2f, 1) := dq_dec ((dq_bind (dq_u1 (dq_c hD h).1)).trans rfl)
theorem do_133 {b : ByteArray} {pc : Nat} {l : List UInt8} (hD : dq_D b pc l) (h : dq_pre [133] l = true) : decode b pc = .ok (.i2l, 1) := dq_dec ((dq_bind (dq_u1 (dq_c hD h).1)).trans rfl)
theorem do_96 {b : ByteArray} {pc : Nat} {l : List UInt8} (hD : dq_D b pc l) (h : dq_pre [96] l = true) : decode b pc = .ok (.iadd, 1) := dq_dec ((dq_bind (dq_u1 (dq_c hD h).1)).trans rfl)
theorem do_46 {b : ByteArray} {pc : Nat} {l : List UInt8} (hD : dq_D b pc l) (h : dq_pre [46] l = true) : decode b pc = .ok (.iaload, 1) := dq_dec ((dq_bind (dq_u1 (dq_c hD h).1)).trans rfl)
theorem do_126 {b : ByteArray} {pc : Nat} {l : List UInt8} (hD : dq_D b pc l) (h : dq_pre [126] l = true) : decode b pc = .ok (.iand, 1) := dq_dec ((dq_bind (dq_u1 (dq_c hD h).1)).trans rfl)
theorem do_79 {b : ByteArray} {pc : Nat} {l : List UInt8} (hD : dq_D b pc l) (h : dq_pre [79] l = true) : decode b pc = .ok (.iastore, 1) := dq_dec ((dq_bind (dq_u1 (dq_c hD h).1)).trans rfl)
theorem do_2 {b : ByteArray} {pc : Nat} {l : List UInt8} (hD : dq_D b pc l) (h : dq_pre [2] l = true) : decode b pc = .ok (.iconst (-1), 1) := dq_dec ((dq_bind (dq_u1 (dq_c hD h).1)).trans rfl)
theorem do_3 {b : ByteArray} {pc : Nat} {l : List UInt8} (hD : dq_D b pc l) (h : dq_pre [3] l = true) : decode b pc = .ok (.iconst 0, 1) := dq_dec ((dq_bind (dq_u1 (dq_c hD h).1)).trans rfl)
theorem do_4 {b : ByteArray} {pc : Nat} {l : List UInt8} (hD : dq_D b pc l) (h : dq_pre [4] l = true) : decode b pc = .ok (.iconst 1, 1) := dq_dec ((dq_bind (dq_u1 (dq_c hD h).1)).trans rfl)
theorem do_5 {b : ByteArray} {pc : Nat} {l : List UInt8} (hD : dq_D b pc l) (h : dq_pre [5] l = true) : decode b pc = .ok (.iconst 2, 1) := dq_dec ((dq_bind (dq_u1 (dq_c hD h).1)).trans rfl)
theorem do_6 {b : ByteArray} {pc : Nat} {l : List UInt8} (hD : dq_D b pc l) (h : dq_pre [6] l = true) : decode b pc = .ok (.iconst 3, 1) := dq_dec ((dq_bind (dq_u1 (dq_c hD h).1)).trans rfl)
theorem do_7 {b : ByteArray} {pc : Nat} {l : List UInt8} (hD : dq_D b pc l) (h : dq_pre [7] l = true) : decode b pc = .ok (.iconst 4, 1) := dq_dec ((dq_bind (dq_u1 (dq_c hD h).1)).trans rfl)
theorem do_8 {b : ByteArray} {pc : Nat} {l : List UInt8} (hD : dq_D b pc l) (h : dq_pre [8] l = true) : decode b pc = .ok (.iconst 5, 1) := dq_dec ((dq_bind (dq_u1 (dq_c hD h).1)).trans rfl)
theorem do_108 {b : ByteArray} {pc : Nat} {l : List UInt8} (hD : dq_D b pc l) (h : dq_pre [108] l = true) : decode b pc = .ok (.idiv, 1) := dq_dec ((dq_bind (dq_u1 (dq_c hD h).1)).trans rfl)
theorem dx_ifCond_eq {b : ByteArray} {pc : Nat} {l : List UInt8} (v : Int) (hr : decide (-32768 ≤ v ∧ v < 32768) = true) (hD : dq_D b pc l) (h : dq_pre [153, (v % 65536).toNat / 256, (v % 65536).toNat % 256] l = true) : decode b pc = .ok (.ifCond .eq v, 3) := by
  obtain ⟨h0, l1, hD1, h⟩ := dq_c hD h
  obtain ⟨h1, l2, hD2, h⟩ := dq_c hD1 h
  have q : decode b pc = .ok (.ifCond .eq (Reader.signed 16 ((v % 65536).toNat / 256 * 256 + (v % 65536).toNat % 256)), 3) := dq_dec ((dq_bind (dq_u1 h0)).trans ((dq_bind (dq_s2 h1 (dq_c hD2 h).1)).trans rfl))
  rw [dq_g16 hr] at q
  exact q
theorem dx_ifCond_ne {b : ByteArray} {pc : Nat} {l : List UInt8} (v : Int) (hr : decide (-32768 ≤ v ∧ v < 32768) = true) (hD : dq_D b pc l) (h : dq_pre [154, (v % 65536).toNat / 256, (v % 65536).toNat % 256] l = true) : decode b pc = .ok (.ifCond .ne v, 3) := by
  obtain ⟨h0, l1, hD1, h⟩ := dq_c hD h
  obtain ⟨h1, l2, hD2, h⟩ := dq_c hD1 h
  have q : decode b pc = .ok (.ifCond .ne (Reader.signed 16 ((v % 65536).toNat / 256 * 256 + (v % 65536).toNat % 256)), 3) := dq_dec ((dq_bind (dq_u1 h0)).trans ((dq_bind (dq_s2 h1 (dq_c hD2 h).1)).trans rfl))
  rw [dq_g16 hr] at q
  exact q
theorem dx_ifCond_lt {b : ByteArray} {pc : Nat} {l : List UInt8} (v : Int) (hr : decide (-32768 ≤ v ∧ v < 32768) = true) (hD : dq_D b pc l) (h : dq_pre [155, (v % 65536).toNat / 256, (v % 65536).toNat % 256] l = true) : decode b pc = .ok (.ifCond .lt v, 3) := by
  obtain ⟨h0, l1, hD1, h⟩ := dq_c hD h
  obtain ⟨h1, l2, hD2, h⟩ := dq_c hD1 h
  have q : decode b pc = .ok (.ifCond .lt (Reader.signed 16 ((v % 65536).toNat / 256 * 256 + (v % 65536).toNat % 256)), 3) := dq_dec ((dq_bind (dq_u1 h0)).trans ((dq_bind (dq_s2 h1 (dq_c hD2 h).1)).trans rfl))
  rw [dq_g16 hr] at q
  exact q
theorem dx_ifCond_ge {b : ByteArray} {pc : Nat} {l : List UInt8} (v : Int) (hr : decide (-32768 ≤ v ∧ v < 32768) = true) (hD : dq_D b pc l) (h : dq_pre [156, (v % 65536).toNat / 256, (v % 65536).toNat % 256] l = true) : decode b pc = .ok (.ifCond .ge v, 3) := by
  obtain ⟨h0, l1, hD1, h⟩ := dq_c hD h
  obtain ⟨h1, l2, hD2, h⟩ := dq_c hD1 h
  have q : decode b pc = .ok (.ifCond .ge (Reader.signed 16 ((v % 65536).toNat / 256 * 256 + (v % 65536).toNat % 256)), 3) := dq_dec ((dq_bind (dq_u1 h0)).trans ((dq_bind (dq_s2 h1 (dq_c hD2 h).1)).trans rfl))
  rw [dq_g16 hr] at q
  exact q
theorem dx_ifCond_gt {b : ByteArray} {pc : Nat} {l : List UInt8} (v : Int) (hr : decide (-32768 ≤ v ∧ v < 32768) = true) (hD : dq_D b pc l) (h : dq_pre [157, (v % 65536).toNat / 256, (v % 65536).toNat % 256] l = true) : decode b pc = .ok (.ifCond .gt v, 3) := by
  obtain ⟨h0, l1, hD1, h⟩ := dq_c hD h
  obtain ⟨h1, l2, hD2, h⟩ := dq_c hD1 h
  have q : decode b pc = .ok (.ifCond .gt (Reader.signed 16 ((v % 65536).toNat / 256 * 256 + (v % 65536).toNat % 256)), 3) := dq_dec ((dq_bind (dq_u1 h0)).trans ((dq_bind (dq_s2 h1 (dq_c hD2 h).1)).trans rfl))
  rw [dq_g16 hr] at q
  exact q
theorem dx_ifCond_le {b : ByteArray} {pc : Nat} {l : List UInt8} (v : Int) (hr : decide (-32768 ≤ v ∧ v < 32768) = true) (hD : dq_D b pc l) (h : dq_pre [158, (v % 65536).toNat / 256, (v % 65536).toNat % 256] l = true) : decode b pc = .ok (.ifCond .le v, 3) := by
  obtain ⟨h0, l1, hD1, h⟩ := dq_c hD h
  obtain ⟨h1, l2, hD2, h⟩ := dq_c hD1 h
  have q : decode b pc = .ok (.ifCond .le (Reader.signed 16 ((v % 65536).toNat / 256 * 256 + (v % 65536).toNat % 256)), 3) := dq_dec ((dq_bind (dq_u1 h0)).trans ((dq_bind (dq_s2 h1 (dq_c hD2 h).1)).trans rfl))
  rw [dq_g16 hr] at q
  exact q
theorem dx_if_icmp_eq {b : ByteArray} {pc : Nat} {l : List UInt8} (v : Int) (hr : decide (-32768 ≤ v ∧ v < 32768) = true) (hD : dq_D b pc l) (h : dq_pre [159, (v % 65536).toNat / 256, (v % 65536).toNat % 256] l = true) : decode b pc = .ok (.if_icmp .eq v, 3) := by
  obtain ⟨h0, l1, hD1, h⟩ := dq_c hD h
  obtain ⟨h1, l2, hD2, h⟩ := dq_c hD1 h
  have q : decode b pc = .ok (.if_icmp .eq (Reader.signed 16 ((v % 65536).toNat / 256 * 256 + (v % 65536).toNat % 256)), 3) := dq_dec ((dq_bind (dq_u1 h0)).trans ((dq_bind (dq_s2 h1 (dq_c hD2 h).1)).trans rfl))
  rw [dq_g16 hr] at q
  exact q
theorem dx_if_icmp_ne {b : ByteArray} {pc : Nat} {l : List UInt8} (v : Int) (hr : decide (-32768 ≤ v ∧ v < 32768) = true) (hD : dq_D b pc l) (h : dq_pre [160, (v % 65536).toNat / 256, (v % 65536).toNat % 256] l = true) : decode b pc = .ok (.if_icmp .ne v, 3) := by
  obtain ⟨h0, l1, hD1, h⟩ := dq_c hD h
  obtain ⟨h1, l2, hD2, h⟩ := dq_c hD1 h
  have q : decode b pc = .ok (.if_icmp .ne (Reader.signed 16 ((v % 65536).toNat / 256 * 256 + (v % 65536).toNat % 256)), 3) := dq_dec ((dq_bind (dq_u1 h0)).trans ((dq_bind (dq_s2 h1 (dq_c hD2 h).1)).trans rfl))
  rw [dq_g16 hr] at q
  exact q
theorem dx_if_icmp_lt {b : ByteArray} {pc : Nat} {l : List UInt8} (v : Int) (hr : decide (-32768 ≤ v ∧ v < 32768) = true) (hD : dq_D b pc l) (h : dq_pre [161, (v % 65536).toNat / 256, (v % 65536).toNat % 256] l = true) : decode b pc = .ok (.if_icmp .lt v, 3) := by
  obtain ⟨h0, l1, hD1, h⟩ := dq_c hD h
  obtain ⟨h1, l2, hD2, h⟩ := dq_c hD1 h
  have q : decode b pc = .ok (.if_icmp .lt (Reader.signed 16 ((v % 65536).toNat / 256 * 256 + (v % 65536).toNat % 256)), 3) := dq_dec ((dq_bind (dq_u1 h0)).trans ((dq_bind (dq_s2 h1 (dq_c hD2 h).1)).trans rfl))
  rw [dq_g16 hr] at q
  exact q
theorem dx_if_icmp_ge {b : ByteArray} {pc : Nat} {l : List UInt8} (v : Int) (hr : decide (-32768 ≤ v ∧ v < 32768) = true) (hD : dq_D b pc l) (h : dq_pre [162, (v % 65536).toNat / 256, (v % 65536).toNat % 256] l = true) : decode b pc = .ok (.if_icmp .ge v, 3) := by
  obtain ⟨h0, l1, hD1, h⟩ := dq_c hD h
  obtain ⟨h1, l2, hD2, h⟩ := dq_c hD1 h
  have q : decode b pc = .ok (.if_icmp .ge (Reader.signed 16 ((v % 65536).toNat / 256 * 256 + (v % 65536).toNat % 256)), 3) := dq_dec ((dq_bind (dq_u1 h0)).trans ((dq_bind (dq_s2 h1 (dq_c hD2 h).1)).trans rfl))
  rw [dq_g16 hr] at q
  exact q
theorem dx_if_icmp_gt {b : ByteArray} {pc : Nat} {l : List UInt8} (v : Int) (hr : decide (-32768 ≤ v ∧ v < 32768) = true) (hD : dq_D b pc l) (h : dq_pre [163, (v % 65536).toNat / 256, (v % 65536).toNat % 256] l = true) : decode b pc = .ok (.if_icmp .gt v, 3) := by
  obtain ⟨h0, l1, hD1, h⟩ := dq_c hD h
  obtain ⟨h1, l2, hD2, h⟩ := dq_c hD1 h
  have q : decode b pc = .ok (.if_icmp .gt (Reader.signed 16 ((v % 65536).toNat / 256 * 256 + (v % 65536).toNat % 256)), 3) := dq_dec ((dq_bind (dq_u1 h0)).trans ((dq_bind (dq_s2 h1 (dq_c hD2 h).1)).trans rfl))
  rw [dq_g16 hr] at q
  exact q
theorem dx_if_icmp_le {b : ByteArray} {pc : Nat} {l : List UInt8} (v : Int) (hr : decide (-32768 ≤ v ∧ v < 32768) = true) (hD : dq_D b pc l) (h : dq_pre [164, (v % 65536).toNat / 256, (v % 65536).toNat % 256] l = true) : decode b pc = .ok (.if_icmp .le v, 3) := by
  obtain ⟨h0, l1, hD1, h⟩ := dq_c hD h
  obtain ⟨h1, l2, hD2, h⟩ := dq_c hD1 h
  have q : decode b pc = .ok (.if_icmp .le (Reader.signed 16 ((v % 65536).toNat / 256 * 256 + (v % 65536).toNat % 256)), 3) := dq_dec ((dq_bind (dq_u1 h0)).trans ((dq_bind (dq_s2 h1 (dq_c hD2 h).1)).trans rfl))
  rw [dq_g16 hr] at q
  exact q
theorem dx_iinc {b : ByteArray} {pc : Nat} {l : List UInt8} (w : Nat) (v : Int) (hr : decide (-128 ≤ v ∧ v < 128) = true) (hD : dq_D b pc l) (h : dq_pre [132, w, (v % 256).toNat] l = true) : decode b pc = .ok (.iinc w v, 3) := by
  obtain ⟨h0, l1, hD1, h⟩ := dq_c hD h
  obtain ⟨h1, l2, hD2, h⟩ := dq_c hD1 h
  have q : decode b pc = .ok (.iinc w (Reader.signed 8 (v % 256).toNat), 3) := dq_dec ((dq_bind (dq_u1 h0)).trans ((dq_bind (dq_u1 h1)).trans ((dq_bind (dq_s1 (dq_c hD2 h).1)).trans rfl)))
  rw [dq_g8 hr] at q
  exact q
theorem dx_iload {b : ByteArray} {pc : Nat} {l : List UInt8} (v : Nat) (hD : dq_D b pc l) (h : dq_pre [21, v] l = true) : decode b pc = .ok (.iload v, 2) := by
  obtain ⟨h0, l1, hD1, h⟩ := dq_c hD h
  exact dq_dec ((dq_bind (dq_u1 h0)).trans ((dq_bind (dq_u1 (dq_c hD1 h).1)).trans rfl))
theorem do_26 {b : ByteArray} {pc : Nat} {l : List UInt8} (hD : dq_D b pc l) (h : dq_pre [26] l = true) : decode b pc = .ok (.iload_n 0, 1) := dq_dec ((dq_bind (dq_u1 (dq_c hD h).1)).trans rfl)
theorem do_27 {b : ByteArray} {pc : Nat} {l : List UInt8} (hD : dq_D b pc l) (h : dq_pre [27] l = true) : decode b pc = .ok (.iload_n 1, 1) := dq_dec ((dq_bind (dq_u1 (dq_c hD h).1)).trans rfl)
theorem do_28 {b : ByteArray} {pc : Nat} {l : List UInt8} (hD : dq_D b pc l) (h : dq_pre [28] l = true) : decode b pc = .ok (.iload_n 2, 1) := dq_dec ((dq_bind (dq_u1 (dq_c hD h).1)).trans rfl)
theorem do_29 {b : ByteArray} {pc : Nat} {l : List UInt8} (hD : dq_D b pc l) (h : dq_pre [29] l = true) : decode b pc = .ok (.iload_n 3, 1) := dq_dec ((dq_bind (dq_u1 (dq_c hD h).1)).trans rfl)
theorem do_104 {b : ByteArray} {pc : Nat} {l : List UInt8} (hD : dq_D b pc l) (h : dq_pre [104] l = true) : decode b pc = .ok (.imul, 1) := dq_dec ((dq_bind (dq_u1 (dq_c hD h).1)).trans rfl)
theorem dx_invokespecial {b : ByteArray} {pc : Nat} {l : List UInt8} (v : Nat) (hD : dq_D b pc l) (h : dq_pre [183, v / 256, v % 256] l = true) : decode b pc = .ok (.invokespecial v, 3) := by
  obtain ⟨h0, l1, hD1, h⟩ := dq_c hD h
  obtain ⟨h1, l2, hD2, h⟩ := dq_c hD1 h
  have q : decode b pc = .ok (.invokespecial (v / 256 * 256 + v % 256), 3) := dq_dec ((dq_bind (dq_u1 h0)).trans ((dq_bind (dq_u2 h1 (dq_c hD2 h).1)).trans rfl))
  rw [dq_256] at q
  exact q
theorem dx_invokestatic {b : ByteArray} {pc : Nat} {l : List UInt8} (v : Nat) (hD : dq_D b pc l) (h : dq_pre [184, v / 256, v % 256] l = true) : decode b pc = .ok (.invokestatic v, 3) := by
  obtain ⟨h0, l1, hD1, h⟩ := dq_c hD h
  obtain ⟨h1, l2, hD2, h⟩ := dq_c hD1 h
  have q : decode b pc = .ok (.invokestatic (v / 256 * 256 + v % 256), 3) := dq_dec ((dq_bind (dq_u1 h0)).trans ((dq_bind (dq_u2 h1 (dq_c hD2 h).1)).trans rfl))
  rw [dq_256] at q
  exact q
theorem dx_invokevirtual {b : ByteArray} {pc : Nat} {l : List UInt8} (v : Nat) (hD : dq_D b pc l) (h : dq_pre [182, v / 256, v % 256] l = true) : decode b pc = .ok (.invokevirtual v, 3) := by
  obtain ⟨h0, l1, hD1, h⟩ := dq_c hD h
  obtain ⟨h1, l2, hD2, h⟩ := dq_c hD1 h
  have q : decode b pc = .ok (.invokevirtual (v / 256 * 256 + v % 256), 3) := dq_dec ((dq_bind (dq_u1 h0)).trans ((dq_bind (dq_u2 h1 (dq_c hD2 h).1)).trans rfl))
  rw [dq_256] at q
  exact q
theorem do_128 {b : ByteArray} {pc : Nat} {l : List UInt8} (hD : dq_D b pc l) (h : dq_pre [128] l = true) : decode b pc = .ok (.ior, 1) := dq_dec ((dq_bind (dq_u1 (dq_c hD h).1)).trans rfl)
theorem do_112 {b : ByteArray} {pc : Nat} {l : List UInt8} (hD : dq_D b pc l) (h : dq_pre [112] l = true) : decode b pc = .ok (.irem, 1) := dq_dec ((dq_bind (dq_u1 (dq_c hD h).1)).trans rfl)
theorem do_172 {b : ByteArray} {pc : Nat} {l : List UInt8} (hD : dq_D b pc l) (h : dq_pre [172] l = true) : decode b pc = .ok (.ireturn, 1) := dq_dec ((dq_bind (dq_u1 (dq_c hD h).1)).trans rfl)
theorem do_120 {b : ByteArray} {pc : Nat} {l : List UInt8} (hD : dq_D b pc l) (h : dq_pre [120] l = true) : decode b pc = .ok (.ishl, 1) := dq_dec ((dq_bind (dq_u1 (dq_c hD h).1)).trans rfl)
theorem dx_istore {b : ByteArray} {pc : Nat} {l : List UInt8} (v : Nat) (hD : dq_D b pc l) (h : dq_pre [54, v] l = true) : decode b pc = .ok (.istore v, 2) := by
  obtain ⟨h0, l1, hD1, h⟩ := dq_c hD h
  exact dq_dec ((dq_bind (dq_u1 h0)).trans ((dq_bind (dq_u1 (dq_c hD1 h).1)).trans rfl))
theorem do_59 {b : ByteArray} {pc : Nat} {l : List UInt8} (hD : dq_D b pc l) (h : dq_pre [59] l = true) : decode b pc = .ok (.istore_n 0, 1) := dq_dec ((dq_bind (dq_u1 (dq_c hD h).1)).trans rfl)
theorem do_60 {b : ByteArray} {pc : Nat} {l : List UInt8} (hD : dq_D b pc l) (h : dq_pre [60] l = true) : decode b pc = .ok (.istore_n 1, 1) := dq_dec ((dq_bind (dq_u1 (dq_c hD h).1)).trans rfl)
theorem do_61 {b : ByteArray} {pc : Nat} {l : List UInt8} (hD : dq_D b pc l) (h : dq_pre [61] l = true) : decode b pc = .ok (.istore_n 2, 1) := dq_dec ((dq_bind (dq_u1 (dq_c hD h).1)).trans rfl)
theorem do_62 {b : ByteArray} {pc : Nat} {l : List UInt8} (hD : dq_D b pc l) (h : dq_pre [62] l = true) : decode b pc = .ok (.istore_n 3, 1) := dq_dec ((dq_bind (dq_u1 (dq_c hD h).1)).trans rfl)
theorem do_100 {b : ByteArray} {pc : Nat} {l : List UInt8} (hD : dq_D b pc l) (h : dq_pre [100] l = true) : decode b pc = .ok (.isub, 1) := dq_dec ((dq_bind (dq_u1 (dq_c hD h).1)).trans rfl)
theorem do_47 {b : ByteArray} {pc : Nat} {l : List UInt8} (hD : dq_D b pc l) (h : dq_pre [47] l = true) : decode b pc = .ok (.laload, 1) := dq_dec ((dq_bind (dq_u1 (dq_c hD h).1)).trans rfl)
theorem do_80 {b : ByteArray} {pc : Nat} {l : List UInt8} (hD : dq_D b pc l) (h : dq_pre [80] l = true) : decode b pc = .ok (.lastore, 1) := dq_dec ((dq_bind (dq_u1 (dq_c hD h).1)).trans rfl)
theorem do_148 {b : ByteArray} {pc : Nat} {l : List UInt8} (hD : dq_D b pc l) (h : dq_pre [148] l = true) : decode b pc = .ok (.lcmp, 1) := dq_dec ((dq_bind (dq_u1 (dq_c hD h).1)).trans rfl)
theorem do_9 {b : ByteArray} {pc : Nat} {l : List UInt8} (hD : dq_D b pc l) (h : dq_pre [9] l = true) : decode b pc = .ok (.lconst 0, 1) := dq_dec ((dq_bind (dq_u1 (dq_c hD h).1)).trans rfl)
theorem do_10 {b : ByteArray} {pc : Nat} {l : List UInt8} (hD : dq_D b pc l) (h : dq_pre [10] l = true) : decode b pc = .ok (.lconst 1, 1) := dq_dec ((dq_bind (dq_u1 (dq_c hD h).1)).trans rfl)
theorem dx_ldc {b : ByteArray} {pc : Nat} {l : List UInt8} (v : Nat) (hD : dq_D b pc l) (h : dq_pre [18, v] l = true) : decode b pc = .ok (.ldc v, 2) := by
  obtain ⟨h0, l1, hD1, h⟩ := dq_c hD h
  exact dq_dec ((dq_bind (dq_u1 h0)).trans ((dq_bind (dq_u1 (dq_c hD1 h).1)).trans rfl))
theorem dx_ldc_w {b : ByteArray} {pc : Nat} {l : List UInt8} (v : Nat) (hD : dq_D b pc l) (h : dq_pre [19, v / 256, v % 256] l = true) : decode b pc = .ok (.ldc_w v, 3) := by
  obtain ⟨h0, l1, hD1, h⟩ := dq_c hD h
  obtain ⟨h1, l2, hD2, h⟩ := dq_c hD1 h
  have q : decode b pc = .ok (.ldc_w (v / 256 * 256 + v % 256), 3) := dq_dec ((dq_bind (dq_u1 h0)).trans ((dq_bind (dq_u2 h1 (dq_c hD2 h).1)).trans rfl))
  rw [dq_256] at q
  exact q
theorem do_30 {b : ByteArray} {pc : Nat} {l : List UInt8} (hD : dq_D b pc l) (h : dq_pre [30] l = true) : decode b pc = .ok (.lload_n 0, 1) := dq_dec ((dq_bind (dq_u1 (dq_c hD h).1)).trans rfl)
theorem do_31 {b : ByteArray} {pc : Nat} {l : List UInt8} (hD : dq_D b pc l) (h : dq_pre [31] l = true) : decode b pc = .ok (.lload_n 1, 1) := dq_dec ((dq_bind (dq_u1 (dq_c hD h).1)).trans rfl)
theorem do_32 {b : ByteArray} {pc : Nat} {l : List UInt8} (hD : dq_D b pc l) (h : dq_pre [32] l = true) : decode b pc = .ok (.lload_n 2, 1) := dq_dec ((dq_bind (dq_u1 (dq_c hD h).1)).trans rfl)
theorem do_33 {b : ByteArray} {pc : Nat} {l : List UInt8} (hD : dq_D b pc l) (h : dq_pre [33] l = true) : decode b pc = .ok (.lload_n 3, 1) := dq_dec ((dq_bind (dq_u1 (dq_c hD h).1)).trans rfl)
theorem do_129 {b : ByteArray} {pc : Nat} {l : List UInt8} (hD : dq_D b pc l) (h : dq_pre [129] l = true) : decode b pc = .ok (.lor, 1) := dq_dec ((dq_bind (dq_u1 (dq_c hD h).1)).trans rfl)
theorem do_173 {b : ByteArray} {pc : Nat} {l : List UInt8} (hD : dq_D b pc l) (h : dq_pre [173] l = true) : decode b pc = .ok (.lreturn, 1) := dq_dec ((dq_bind (dq_u1 (dq_c hD h).1)).trans rfl)
theorem do_121 {b : ByteArray} {pc : Nat} {l : List UInt8} (hD : dq_D b pc l) (h : dq_pre [121] l = true) : decode b pc = .ok (.lshl, 1) := dq_dec ((dq_bind (dq_u1 (dq_c hD h).1)).trans rfl)
theorem do_63 {b : ByteArray} {pc : Nat} {l : List UInt8} (hD : dq_D b pc l) (h : dq_pre [63] l = true) : decode b pc = .ok (.lstore_n 0, 1) := dq_dec ((dq_bind (dq_u1 (dq_c hD h).1)).trans rfl)
theorem do_64 {b : ByteArray} {pc : Nat} {l : List UInt8} (hD : dq_D b pc l) (h : dq_pre [64] l = true) : decode b pc = .ok (.lstore_n 1, 1) := dq_dec ((dq_bind (dq_u1 (dq_c hD h).1)).trans rfl)
theorem do_65 {b : ByteArray} {pc : Nat} {l : List UInt8} (hD : dq_D b pc l) (h : dq_pre [65] l = true) : decode b pc = .ok (.lstore_n 2, 1) := dq_dec ((dq_bind (dq_u1 (dq_c hD h).1)).trans rfl)
theorem do_66 {b : ByteArray} {pc : Nat} {l : List UInt8} (hD : dq_D b pc l) (h : dq_pre [66] l = true) : decode b pc = .ok (.lstore_n 3, 1) := dq_dec ((dq_bind (dq_u1 (dq_c hD h).1)).trans rfl)
theorem dx_new {b : ByteArray} {pc : Nat} {l : List UInt8} (v : Nat) (hD : dq_D b pc l) (h : dq_pre [187, v / 256, v % 256] l = true) : decode b pc = .ok (.new v, 3) := by
  obtain ⟨h0, l1, hD1, h⟩ := dq_c hD h
  obtain ⟨h1, l2, hD2, h⟩ := dq_c hD1 h
  have q : decode b pc = .ok (.new (v / 256 * 256 + v % 256), 3) := dq_dec ((dq_bind (dq_u1 h0)).trans ((dq_bind (dq_u2 h1 (dq_c hD2 h).1)).trans rfl))
  rw [dq_256] at q
  exact q
theorem dx_newarray_boolean {b : ByteArray} {pc : Nat} {l : List UInt8} (hD : dq_D b pc l) (h : dq_pre [188, 4] l = true) : decode b pc = .ok (.newarray .boolean, 2) := by
  obtain ⟨h0, l1, hD1, h⟩ := dq_c hD h
  exact dq_dec ((dq_bind (dq_u1 h0)).trans ((dq_bind (dq_u1 (dq_c hD1 h).1)).trans rfl))
theorem dx_newarray_char {b : ByteArray} {pc : Nat} {l : List UInt8} (hD : dq_D b pc l) (h : dq_pre [188, 5] l = true) : decode b pc = .ok (.newarray .char, 2) := by
  obtain ⟨h0, l1, hD1, h⟩ := dq_c hD h
  exact dq_dec ((dq_bind (dq_u1 h0)).trans ((dq_bind (dq_u1 (dq_c hD1 h).1)).trans rfl))
theorem dx_newarray_double {b : ByteArray} {pc : Nat} {l : List UInt8} (hD : dq_D b pc l) (h : dq_pre [188, 7] l = true) : decode b pc = .ok (.newarray .double, 2) := by
  obtain ⟨h0, l1, hD1, h⟩ := dq_c hD h
  exact dq_dec ((dq_bind (dq_u1 h0)).trans ((dq_bind (dq_u1 (dq_c hD1 h).1)).trans rfl))
theorem dx_newarray_int {b : ByteArray} {pc : Nat} {l : List UInt8} (hD : dq_D b pc l) (h : dq_pre [188, 10] l = true) : decode b pc = .ok (.newarray .int, 2) := by
  obtain ⟨h0, l1, hD1, h⟩ := dq_c hD h
  exact dq_dec ((dq_bind (dq_u1 h0)).trans ((dq_bind (dq_u1 (dq_c hD1 h).1)).trans rfl))
theorem dx_newarray_long {b : ByteArray} {pc : Nat} {l : List UInt8} (hD : dq_D b pc l) (h : dq_pre [188, 11] l = true) : decode b pc = .ok (.newarray .long, 2) := by
  obtain ⟨h0, l1, hD1, h⟩ := dq_c hD h
  exact dq_dec ((dq_bind (dq_u1 h0)).trans ((dq_bind (dq_u1 (dq_c hD1 h).1)).trans rfl))
theorem do_87 {b : ByteArray} {pc : Nat} {l : List UInt8} (hD : dq_D b pc l) (h : dq_pre [87] l = true) : decode b pc = .ok (.pop, 1) := dq_dec ((dq_bind (dq_u1 (dq_c hD h).1)).trans rfl)
theorem do_88 {b : ByteArray} {pc : Nat} {l : List UInt8} (hD : dq_D b pc l) (h : dq_pre [88] l = true) : decode b pc = .ok (.pop2, 1) := dq_dec ((dq_bind (dq_u1 (dq_c hD h).1)).trans rfl)
theorem dx_putfield {b : ByteArray} {pc : Nat} {l : List UInt8} (v : Nat) (hD : dq_D b pc l) (h : dq_pre [181, v / 256, v % 256] l = true) : decode b pc = .ok (.putfield v, 3) := by
  obtain ⟨h0, l1, hD1, h⟩ := dq_c hD h
  obtain ⟨h1, l2, hD2, h⟩ := dq_c hD1 h
  have q : decode b pc = .ok (.putfield (v / 256 * 256 + v % 256), 3) := dq_dec ((dq_bind (dq_u1 h0)).trans ((dq_bind (dq_u2 h1 (dq_c hD2 h).1)).trans rfl))
  rw [dq_256] at q
  exact q
theorem do_177 {b : ByteArray} {pc : Nat} {l : List UInt8} (hD : dq_D b pc l) (h : dq_pre [177] l = true) : decode b pc = .ok (.return_, 1) := dq_dec ((dq_bind (dq_u1 (dq_c hD h).1)).trans rfl)
theorem dx_sipush {b : ByteArray} {pc : Nat} {l : List UInt8} (v : Int) (hr : decide (-32768 ≤ v ∧ v < 32768) = true) (hD : dq_D b pc l) (h : dq_pre [17, (v % 65536).toNat / 256, (v % 65536).toNat % 256] l = true) : decode b pc = .ok (.sipush v, 3) := by
  obtain ⟨h0, l1, hD1, h⟩ := dq_c hD h
  obtain ⟨h1, l2, hD2, h⟩ := dq_c hD1 h
  have q : decode b pc = .ok (.sipush (Reader.signed 16 ((v % 65536).toNat / 256 * 256 + (v % 65536).toNat % 256)), 3) := dq_dec ((dq_bind (dq_u1 h0)).trans ((dq_bind (dq_s2 h1 (dq_c hD2 h).1)).trans rfl))
  rw [dq_g16 hr] at q
  exact q
/-- the bytes of an instruction; none: it is looked at by itself -/
noncomputable def dq_enc : Instr → List Nat
  | .aaload => [50]
  | .aastore => [83]
  | .aload v => [25, v]
  | .aload_n v => [42 + v.val]
  | .anewarray v => [189, v / 256, v % 256]
  | .areturn => [176]
  | .arraylength => [190]
  | .astore v => [58, v]
  | .astore_n v => [75 + v.val]
  | .athrow => [191]
  | .baload => [51]
  | .bastore => [84]
  | .bipush v => [16, (v % 256).toNat]
  | .caload => [52]
  | .castore => [85]
  | .dastore => [82]
  | .dconst v => [14 + v.val]
  | .ddiv => [111]
  | .dreturn => [175]
  | .dstore v => [57, v]
  | .dup => [89]
  | .dup2 => [92]
  | .f2d => [141]
  | .f2i => [139]
  | .fcmp .l => [149]
  | .fcmp .g => [150]
  | .fconst v => [11 + v.val]
  | .fdiv => [110]
  | .fload_n v => [34 + v.val]
  | .fmul => [106]
  | .fneg => [118]
  | .freturn => [174]
  | .fstore v => [56, v]
  | .fstore_n v => [67 + v.val]
  | .fsub => [102]
  | .getfield v => [180, v / 256, v % 256]
  | .goto v => [167, (v % 65536).toNat / 256, (v % 65536).toNat % 256]
  | .i2c => [146]
  | .i2d => [135]
  | .i2f => [134]
  | .i2l => [133]
  | .iadd => [96]
  | .iaload => [46]
  | .iand => [126]
  | .iastore => [79]
  | .iconst v => [(v + 3).toNat]
  | .idiv => [108]
  | .ifCond .eq v => [153, (v % 65536).toNat / 256, (v % 65536).toNat % 256]
  | .ifCond .ne v => [154, (v % 65536).toNat / 256, (v % 65536).toNat % 256]
  | .ifCond .lt v => [155, (v % 65536).toNat / 256, (v % 65536).toNat % 256]
  | .ifCond .ge v => [156, (v % 65536).toNat / 256, (v % 65536).toNat % 256]
  | .ifCond .gt v => [157, (v % 65536).toNat / 256, (v % 65536).toNat % 256]
  | .ifCond .le v => [158, (v % 65536).toNat / 256, (v % 65536).toNat % 256]
  | .if_icmp .eq v => [159, (v % 65536).toNat / 256, (v % 65536).toNat % 256]
  | .if_icmp .ne v => [160, (v % 65536).toNat / 256, (v % 65536).toNat % 256]
  | .if_icmp .lt v => [161, (v % 65536).toNat / 256, (v % 65536).toNat % 256]
  | .if_icmp .ge v => [162, (v % 65536).toNat / 256, (v % 65536).toNat % 256]
  | .if_icmp .gt v => [163, (v % 65536).toNat / 256, (v % 65536).toNat % 256]
  | .if_icmp .le v => [164, (v % 65536).toNat / 256, (v % 65536).toNat % 256]
  | .iinc w v => [132, w, (v % 256).toNat]
  | .iload v => [21, v]
  | .iload_n v => [26 + v.val]
  | .imul => [104]
  | .invokespecial v => [183, v / 256, v % 256]
  | .invokestatic v => [184, v / 256, v % 256]
  | .invokevirtual v => [182, v / 256, v % 256]
  | .ior => [128]
  | .irem => [112]
  | .ireturn => [172]
  | .ishl => [120]
  | .istore v => [54, v]
  | .istore_n v => [59 + v.val]
  | .isub => [100]
  | .laload => [47]
  | .lastore => [80]
  | .lcmp => [148]
  | .lconst v => [9 + v.val]
  | .ldc v => [18, v]
  | .ldc_w v => [19, v / 256, v % 256]
  | .lload_n v => [30 + v.val]
  | .lor => [129]
  | .lreturn => [173]
  | .lshl => [121]
  | .lstore_n v => [63 + v.val]
  | .new v => [187, v / 256, v % 256]
  | .newarray .boolean => [188, 4]
  | .newarray .char => [188, 5]
  | .newarray .double => [188, 7]
  | .newarray .int => [188, 10]
  | .newarray .long => [188, 11]
  | .pop => [87]
  | .pop2 => [88]
  | .putfield v => [181, v / 256, v % 256]
  | .return_ => [177]
  | .sipush v => [17, (v % 65536).toNat / 256, (v % 65536).toNat % 256]
  | _ => []
noncomputable def dq_rg : Instr → Bool
  | .bipush v => decide (-128 ≤ v ∧ v < 128)
  | .goto v => decide (-32768 ≤ v ∧ v < 32768)
  | .iconst v => decide (-1 ≤ v ∧ v ≤ 5)
  | .ifCond _ v => decide (-32768 ≤ v ∧ v < 32768)
  | .if_icmp _ v => decide (-32768 ≤ v ∧ v < 32768)
  | .iinc _ v => decide (-128 ≤ v ∧ v < 128)
  | .sipush v => decide (-32768 ≤ v ∧ v < 32768)
  | _ => true
theorem dq_enc_ok {b : ByteArray} {pc : Nat} {l : List UInt8} (i : Instr) (hD : dq_D b pc l) (hr : dq_rg i = true) (hp : dq_pre (dq_enc i) l = true) (hn : dq_enc i ≠ []) : decode b pc = .ok (i, (dq_enc i).length) := by
  cases i with
  | aaload => exact do_50 hD hp
  | aastore => exact do_83 hD hp
  | aload v => exact dx_aload v hD hp
  | aload_n v =>
    match v, hp with
    | ⟨0, _⟩, hp => exact do_42 hD hp
    | ⟨1, _⟩, hp => exact do_43 hD hp
    | ⟨2, _⟩, hp => exact do_44 hD hp
    | ⟨3, _⟩, hp => exact do_45 hD hp
  | anewarray v => exact dx_anewarray v hD hp
  | areturn => exact do_176 hD hp
  | arraylength => exact do_190 hD hp
  | astore v => exact dx_astore v hD hp
  | astore_n v =>
    match v, hp with
    | ⟨0, _⟩, hp => exact do_75 hD hp
    | ⟨1, _⟩, hp => exact do_76 hD hp
    | ⟨2, _⟩, hp => exact do_77 hD hp
    | ⟨3, _⟩, hp => exact do_78 hD hp
  | athrow => exact do_191 hD hp
  | baload => exact do_51 hD hp
  | bastore => exact do_84 hD hp
  | bipush v => exact dx_bipush v hr hD hp
  | caload => exact do_52 hD hp
  | castore => exact do_85 hD hp
  | dastore => exact do_82 hD hp
  | dconst v =>
    match v, hp with
    | ⟨0, _⟩, hp => exact do_14 hD hp
    | ⟨1, _⟩, hp => exact do_15 hD hp
  | ddiv => exact do_111 hD hp
  | dreturn => exact do_175 hD hp
  | dstore v => exact dx_dstore v hD hp
  | dup => exact do_89 hD hp
  | dup2 => exact do_92 hD hp
  | f2d => exact do_141 hD hp
  | f2i => exact do_139 hD hp
  | fcmp v =>
    cases v with
    | l => exact do_149 hD hp
    | g => exact do_150 hD hp
  | fconst v =>
    match v, hp with
    | ⟨0, _⟩, hp => exact do_11 hD hp
    | ⟨1, _⟩, hp => exact do_12 hD hp
    | ⟨2, _⟩, hp => exact do_13 hD hp
  | fdiv => exact do_110 hD hp
  | fload_n v =>
    match v, hp with
    | ⟨0, _⟩, hp => exact do_34 hD hp
    | ⟨1, _⟩, hp => exact do_35 hD hp
    | ⟨2, _⟩, hp => exact do_36 hD hp
    | ⟨3, _⟩, hp => exact do_37 hD hp
  | fmul => exact do_106 hD hp
  | fneg => exact do_118 hD hp
  | freturn => exact do_174 hD hp
  | fstore v => exact dx_fstore v hD hp
  | fstore_n v =>
    match v, hp with
    | ⟨0, _⟩, hp => exact do_67 hD hp
    | ⟨1, _⟩, hp => exact do_68 hD hp
    | ⟨2, _⟩, hp => exact do_69 hD hp
    | ⟨3, _⟩, hp => exact do_70 hD hp
  | fsub => exact do_102 hD hp
  | getfield v => exact dx_getfield v hD hp
  | goto v => exact dx_goto v hr hD hp
  | i2c => exact do_146 hD hp
  | i2d => exact do_135 hD hp
  | i2f => exact do_134 hD hp
  | i2l => exact do_133 hD hp
  | iadd => exact do_96 hD hp
  | iaload => exact do_46 hD hp
  | iand => exact do_126 hD hp
  | iastore => exact do_79 hD hp
  | iconst v =>
    have hr := of_decide_eq_true (show decide (-1 ≤ v ∧ v ≤ 5) = true from hr)
    obtain rfl | rfl | rfl | rfl | rfl | rfl | rfl : v = -1 ∨ v = 0 ∨ v = 1 ∨ v = 2 ∨ v = 3 ∨ v = 4 ∨ v = 5 := by omega
    · exact do_2 hD hp
    · exact do_3 hD hp
    · exact do_4 hD hp
    · exact do_5 hD hp
    · exact do_6 hD hp
    · exact do_7 hD hp
    · exact do_8 hD hp
  | idiv => exact do_108 hD hp
  | ifCond c v =>
    cases c with
    | eq => exact dx_ifCond_eq v hr hD hp
    | ne => exact dx_ifCond_ne v hr hD hp
    | lt => exact dx_ifCond_lt v hr hD hp
    | ge => exact dx_ifCond_ge v hr hD hp
    | gt => exact dx_ifCond_gt v hr hD hp
    | le => exact dx_ifCond_le v hr hD hp
  | if_icmp c v =>
    cases c with
    | eq => exact dx_if_icmp_eq v hr hD hp
    | ne => exact dx_if_icmp_ne v hr hD hp
    | lt => exact dx_if_icmp_lt v hr hD hp
    | ge => exact dx_if_icmp_ge v hr hD hp
    | gt => exact dx_if_icmp_gt v hr hD hp
    | le => exact dx_if_icmp_le v hr hD hp
  | iinc w v => exact dx_iinc w v hr hD hp
  | iload v => exact dx_iload v hD hp
  | iload_n v =>
    match v, hp with
    | ⟨0, _⟩, hp => exact do_26 hD hp
    | ⟨1, _⟩, hp => exact do_27 hD hp
    | ⟨2, _⟩, hp => exact do_28 hD hp
    | ⟨3, _⟩, hp => exact do_29 hD hp
  | imul => exact do_104 hD hp
  | invokespecial v => exact dx_invokespecial v hD hp
  | invokestatic v => exact dx_invokestatic v hD hp
  | invokevirtual v => exact dx_invokevirtual v hD hp
  | ior => exact do_128 hD hp
  | irem => exact do_112 hD hp
  | ireturn => exact do_172 hD hp
  | ishl => exact do_120 hD hp
  | istore v => exact dx_istore v hD hp
  | istore_n v =>
    match v, hp with
    | ⟨0, _⟩, hp => exact do_59 hD hp
    | ⟨1, _⟩, hp => exact do_60 hD hp
    | ⟨2, _⟩, hp => exact do_61 hD hp
    | ⟨3, _⟩, hp => exact do_62 hD hp
  | isub => exact do_100 hD hp
  | laload => exact do_47 hD hp
  | lastore => exact do_80 hD hp
  | lcmp => exact do_148 hD hp
  | lconst v =>
    match v, hp with
    | ⟨0, _⟩, hp => exact do_9 hD hp
    | ⟨1, _⟩, hp => exact do_10 hD hp
  | ldc v => exact dx_ldc v hD hp
  | ldc_w v => exact dx_ldc_w v hD hp
  | lload_n v =>
    match v, hp with
    | ⟨0, _⟩, hp => exact do_30 hD hp
    | ⟨1, _⟩, hp => exact do_31 hD hp
    | ⟨2, _⟩, hp => exact do_32 hD hp
    | ⟨3, _⟩, hp => exact do_33 hD hp
  | lor => exact do_129 hD hp
  | lreturn => exact do_173 hD hp
  | lshl => exact do_121 hD hp
  | lstore_n v =>
    match v, hp with
    | ⟨0, _⟩, hp => exact do_63 hD hp
    | ⟨1, _⟩, hp => exact do_64 hD hp
    | ⟨2, _⟩, hp => exact do_65 hD hp
    | ⟨3, _⟩, hp => exact do_66 hD hp
  | new v => exact dx_new v hD hp
  | newarray v =>
    cases v with
    | boolean => exact dx_newarray_boolean hD hp
    | char => exact dx_newarray_char hD hp
    | double => exact dx_newarray_double hD hp
    | int => exact dx_newarray_int hD hp
    | long => exact dx_newarray_long hD hp
    | _ => exact absurd rfl hn
  | pop => exact do_87 hD hp
  | pop2 => exact do_88 hD hp
  | putfield v => exact dx_putfield v hD hp
  | return_ => exact do_177 hD hp
  | sipush v => exact dx_sipush v hr hD hp
  | _ => exact absurd rfl hn
noncomputable def dq_one (b : ByteArray) (pc : Nat) (l : List UInt8) (i : Instr) (k : Nat) : Bool := match dq_enc i with
  | [] => decide (decode b pc = .ok (i, k))
  | n :: e => Nat.beq (e.length + 1) k && (dq_rg i && dq_pre (n :: e) l)
theorem dq_one_ok {b : ByteArray} {pc : Nat} {l : List UInt8} {i : Instr} {k : Nat} (hD : dq_D b pc l) (h : dq_one b pc l i k = true) : decode b pc = .ok (i, k) := by
  unfold dq_one at h
  split at h
  · exact of_decide_eq_true h
  · rename_i n e he
    obtain ⟨h1, h2⟩ := Bool.and_eq_true_iff.mp h
    obtain ⟨h3, h4⟩ := Bool.and_eq_true_iff.mp h2
    have q := dq_enc_ok i hD h3 (by rw [he]; exact h4) (by rw [he]; intro z; cases z)
    rw [he] at q
    rw [q, ← Nat.eq_of_beq_eq_true h1]
    rfl
noncomputable def dq_stg (b : ByteArray) (f : Nat → Option bc_IC) (pc : Nat) (l : List UInt8) : Bool := match f pc with
  | none => true
  | some (i, k, ts) => dq_one b pc l i k && (bc_tg b pc i ts && bc_ln i k)
noncomputable def dq_go (b : ByteArray) (f : Nat → Option bc_IC) (n m : Nat) : List UInt8 → Bool := Nat.rec (motive := fun _ => List UInt8 → Bool) (fun _ => true) (fun m ih l => match l with
  | [] => false
  | x :: l' => dq_stg b f (n - 1 - m) (x :: l') && ih l') m
noncomputable def bc_dec (b : ByteArray) (f : Nat → Option bc_IC) (n : Nat) : Bool := dq_go b f n n b.data.toList
theorem dq_go_ok {b : ByteArray} {f : Nat → Option bc_IC} {n : Nat} (m : Nat) : ∀ (l : List UInt8), m ≤ n → dq_D b (n - m) l → dq_go b f n m l = true → ∀ (pc : Nat) (i : Instr) (k : Nat) (ts : List Nat), n - m ≤ pc → pc < n → f pc = some (i, k, ts) → decode b pc = .ok (i, k) ∧ bc_tg b pc i ts = true ∧ bc_ln i k = true := by
  induction m with
  | zero => exact fun l _ _ _ pc i k ts h1 h2 _ => absurd h2 (by omega)
  | succ m ih =>
    intro l hm hD h pc i k ts h1 h2 hf
    cases l with
    | nil => exact absurd (show false = true from h) (by decide)
    | cons x l =>
      obtain ⟨a, c⟩ := Bool.and_eq_true_iff.mp (show (dq_stg b f (n - 1 - m) (x :: l) && dq_go b f n m l) = true from h)
      rcases Nat.lt_or_ge (n - (m + 1)) pc with hlt | hge
      · refine ih l (by omega) ?_ c pc i k ts (by omega) h2 hf
        have hd : b.data.toList.drop (n - (m + 1)) = x :: l := hD
        have q := congrArg List.tail hd
        rw [List.tail_drop] at q
        show b.data.toList.drop (n - m) = l
        rw [show n - m = n - (m + 1) + 1 by omega]
        exact q
      · have e1 : n - 1 - m = pc := by omega
        have e2 : n - (m + 1) = pc := by omega
        rw [e1] at a
        rw [e2] at hD
        unfold dq_stg at a
        rw [hf] at a
        obtain ⟨a1, a2⟩ := Bool.and_eq_true_iff.mp (show (dq_one b pc (x :: l) i k && (bc_tg b pc i ts && bc_ln i k)) = true from a)
        obtain ⟨a3, a4⟩ := Bool.and_eq_true_iff.mp a2
        exact ⟨dq_one_ok hD a1, a3, a4⟩
theorem dq_dec_e {b : ByteArray} {f : Nat → Option bc_IC} {n : Nat} (h : bc_dec b f n = true) {pc : Nat} {i : Instr} {k : Nat} {ts : List Nat} (hlt : pc < n) (hf : f pc = some (i, k, ts)) : decode b pc = .ok (i, k) ∧ bc_tg b pc i ts = true ∧ bc_ln i k = true :=
  dq_go_ok n b.data.toList (Nat.le_refl n) (by show b.data.toList.drop (n - n) = _; rw [Nat.sub_self]; rfl) h pc i k ts (by omega) hlt hf
theorem kX0_init : bc_dec cX0_init pX0_init 26 = true := by decide +kernel
theorem kX0_separates : bc_dec cX0_separates pX0_separates 66 = true := by decide +kernel
theorem kX0_visit : bc_dec cX0_visit pX0_visit 142 = true := by decide +kernel
theorem kX1_forget : bc_dec cX1_forget pX1_forget 6 = true := by decide +kernel
theorem kX1_init : bc_dec cX1_init pX1_init 51 = true := by decide +kernel
theorem kX1_remember : bc_dec cX1_remember pX1_remember 42 = true := by decide +kernel
theorem kX1_takeBack : bc_dec cX1_takeBack pX1_takeBack 48 = true := by decide +kernel
theorem kX2_append : bc_dec cX2_append pX2_append 84 = true := by decide +kernel
theorem kX2_atRank : bc_dec cX2_atRank pX2_atRank 29 = true := by decide +kernel
theorem kX2_bearingOf : bc_dec cX2_bearingOf pX2_bearingOf 33 = true := by decide +kernel
theorem kX2_bearingSum : bc_dec cX2_bearingSum pX2_bearingSum 28 = true := by decide +kernel
theorem kX2_between : bc_dec cX2_between pX2_between 60 = true := by decide +kernel
theorem kX2_comesBefore : bc_dec cX2_comesBefore pX2_comesBefore 78 = true := by decide +kernel
theorem kX2_connects : bc_dec cX2_connects pX2_connects 107 = true := by decide +kernel
theorem kX2_copyFrom : bc_dec cX2_copyFrom pX2_copyFrom 110 = true := by decide +kernel
theorem kX2_costOf : bc_dec cX2_costOf pX2_costOf 20 = true := by decide +kernel
theorem kX2_crackedCount : bc_dec cX2_crackedCount pX2_crackedCount 32 = true := by decide +kernel
theorem kX2_has : bc_dec cX2_has pX2_has 18 = true := by decide +kernel
theorem kX2_init : bc_dec cX2_init pX2_init 58 = true := by decide +kernel
theorem kX2_leave : bc_dec cX2_leave pX2_leave 42 = true := by decide +kernel
theorem kX2_rankOf : bc_dec cX2_rankOf pX2_rankOf 32 = true := by decide +kernel
theorem kX2_renew : bc_dec cX2_renew pX2_renew 15 = true := by decide +kernel
theorem kX2_someBears : bc_dec cX2_someBears pX2_someBears 29 = true := by decide +kernel
theorem kX2_wearDown : bc_dec cX2_wearDown pX2_wearDown 42 = true := by decide +kernel
theorem kX3_copyFrom : bc_dec cX3_copyFrom pX3_copyFrom 23 = true := by decide +kernel
theorem kX3_dedicate : bc_dec cX3_dedicate pX3_dedicate 32 = true := by decide +kernel
theorem kX3_init : bc_dec cX3_init pX3_init 18 = true := by decide +kernel
theorem kX3_place : bc_dec cX3_place pX3_place 12 = true := by decide +kernel
theorem kX3_total : bc_dec cX3_total pX3_total 26 = true := by decide +kernel
theorem kX4_cheapestUnsettled : bc_dec cX4_cheapestUnsettled pX4_cheapestUnsettled 49 = true := by decide +kernel
theorem kX4_cheapestWay : bc_dec cX4_cheapestWay pX4_cheapestWay 137 = true := by decide +kernel
theorem kX4_closePrices : bc_dec cX4_closePrices pX4_closePrices 79 = true := by decide +kernel
theorem kX4_fillTable : bc_dec cX4_fillTable pX4_fillTable 80 = true := by decide +kernel
theorem kX4_init : bc_dec cX4_init pX4_init 45 = true := by decide +kernel
theorem kX4_isWorthTrying : bc_dec cX4_isWorthTrying pX4_isWorthTrying 60 = true := by decide +kernel
theorem kX4_loadByWays : bc_dec cX4_loadByWays pX4_loadByWays 49 = true := by decide +kernel
theorem kX4_noteAffordable : bc_dec cX4_noteAffordable pX4_noteAffordable 66 = true := by decide +kernel
theorem kX4_priceOf : bc_dec cX4_priceOf pX4_priceOf 41 = true := by decide +kernel
theorem kX4_setPrices : bc_dec cX4_setPrices pX4_setPrices 111 = true := by decide +kernel
theorem kX5_accept : bc_dec cX5_accept pX5_accept 29 = true := by decide +kernel
theorem kX5_argument : bc_dec cX5_argument pX5_argument 44 = true := by decide +kernel
theorem kX5_formOf : bc_dec cX5_formOf pX5_formOf 74 = true := by decide +kernel
theorem kX5_init : bc_dec cX5_init pX5_init 45 = true := by decide +kernel
theorem kX5_isDigit : bc_dec cX5_isDigit pX5_isDigit 18 = true := by decide +kernel
theorem kX5_kindAt : bc_dec cX5_kindAt pX5_kindAt 23 = true := by decide +kernel
theorem kX5_matchedLength : bc_dec cX5_matchedLength pX5_matchedLength 39 = true := by decide +kernel
theorem kX5_parse : bc_dec cX5_parse pX5_parse 95 = true := by decide +kernel
theorem kX5_readArguments : bc_dec cX5_readArguments pX5_readArguments 123 = true := by decide +kernel
theorem kX5_readValue : bc_dec cX5_readValue pX5_readValue 129 = true := by decide +kernel
theorem kX5_readWord : bc_dec cX5_readWord pX5_readWord 66 = true := by decide +kernel
theorem kX5_wordOf : bc_dec cX5_wordOf pX5_wordOf 82 = true := by decide +kernel
theorem kX6_copyFrom : bc_dec cX6_copyFrom pX6_copyFrom 34 = true := by decide +kernel
theorem kX6_init : bc_dec cX6_init pX6_init 38 = true := by decide +kernel
theorem kX7_append : bc_dec cX7_append pX7_append 30 = true := by decide +kernel
theorem kX7_appendNumber : bc_dec cX7_appendNumber pX7_appendNumber 34 = true := by decide +kernel
theorem kX7_at : bc_dec cX7_at pX7_at 19 = true := by decide +kernel
theorem kX7_clear : bc_dec cX7_clear pX7_clear 6 = true := by decide +kernel
theorem kX7_has : bc_dec cX7_has pX7_has 18 = true := by decide +kernel
theorem kX7_init : bc_dec cX7_init pX7_init 18 = true := by decide +kernel
theorem kX8_accountedSteel : bc_dec cX8_accountedSteel pX8_accountedSteel 18 = true := by decide +kernel
theorem kX8_copyFrom : bc_dec cX8_copyFrom pX8_copyFrom 126 = true := by decide +kernel
theorem kX8_greatestFurther : bc_dec cX8_greatestFurther pX8_greatestFurther 49 = true := by decide +kernel
theorem kX8_heatForge : bc_dec cX8_heatForge pX8_heatForge 12 = true := by decide +kernel
theorem kX8_init : bc_dec cX8_init pX8_init 80 = true := by decide +kernel
theorem kX8_isDueDayAllowed : bc_dec cX8_isDueDayAllowed pX8_isDueDayAllowed 25 = true := by decide +kernel
theorem kX8_keepsAllBySums : bc_dec cX8_keepsAllBySums pX8_keepsAllBySums 33 = true := by decide +kernel
theorem kX8_keepsAllDayByDay : bc_dec cX8_keepsAllDayByDay pX8_keepsAllDayByDay 74 = true := by decide +kernel
theorem kX8_pass : bc_dec cX8_pass pX8_pass 65 = true := by decide +kernel
theorem kX8_payRepair : bc_dec cX8_payRepair pX8_payRepair 21 = true := by decide +kernel
theorem kX8_promise : bc_dec cX8_promise pX8_promise 68 = true := by decide +kernel
theorem kX8_rankOfSlot : bc_dec cX8_rankOfSlot pX8_rankOfSlot 80 = true := by decide +kernel
theorem kX8_settle : bc_dec cX8_settle pX8_settle 52 = true := by decide +kernel
theorem kX8_settleDueVows : bc_dec cX8_settleDueVows pX8_settleDueVows 89 = true := by decide +kernel
theorem kX8_slotAtRank : bc_dec cX8_slotAtRank pX8_slotAtRank 29 = true := by decide +kernel
theorem kX8_slotOf : bc_dec cX8_slotOf pX8_slotOf 30 = true := by decide +kernel
theorem kX8_spareOn : bc_dec cX8_spareOn pX8_spareOn 54 = true := by decide +kernel
theorem kX9_findBest : bc_dec cX9_findBest pX9_findBest 89 = true := by decide +kernel
theorem kX9_init : bc_dec cX9_init pX9_init 54 = true := by decide +kernel
theorem kX9_linkBits : bc_dec cX9_linkBits pX9_linkBits 58 = true := by decide +kernel
theorem kX9_lowestNearer : bc_dec cX9_lowestNearer pX9_lowestNearer 45 = true := by decide +kernel
theorem kX9_measureFrom : bc_dec cX9_measureFrom pX9_measureFrom 80 = true := by decide +kernel
theorem kX9_spread : bc_dec cX9_spread pX9_spread 50 = true := by decide +kernel
theorem kX9_survey : bc_dec cX9_survey pX9_survey 101 = true := by decide +kernel
theorem kX9_widestByGrowing : bc_dec cX9_widestByGrowing pX9_widestByGrowing 145 = true := by decide +kernel
theorem kX9_widestOutside : bc_dec cX9_widestOutside pX9_widestOutside 48 = true := by decide +kernel
theorem kX10_abandon : bc_dec cX10_abandon pX10_abandon 33 = true := by decide +kernel
theorem kX10_addMember : bc_dec cX10_addMember pX10_addMember 35 = true := by decide +kernel
theorem kX10_affordableLoad : bc_dec cX10_affordableLoad pX10_affordableLoad 38 = true := by decide +kernel
theorem kX10_affordableLoadByTable : bc_dec cX10_affordableLoadByTable pX10_affordableLoadByTable 47 = true := by decide +kernel
theorem kX10_amount : bc_dec cX10_amount pX10_amount 38 = true := by decide +kernel
theorem kX10_bearing : bc_dec cX10_bearing pX10_bearing 20 = true := by decide +kernel
theorem kX10_bitsOf : bc_dec cX10_bitsOf pX10_bitsOf 116 = true := by decide +kernel
theorem kX10_brokenTotal : bc_dec cX10_brokenTotal pX10_brokenTotal 11 = true := by decide +kernel
theorem kX10_canKeepAll : bc_dec cX10_canKeepAll pX10_canKeepAll 11 = true := by decide +kernel
theorem kX10_canKeepAllBySums : bc_dec cX10_canKeepAllBySums pX10_canKeepAllBySums 11 = true := by decide +kernel
theorem kX10_carryOut : bc_dec cX10_carryOut pX10_carryOut 243 = true := by decide +kernel
theorem kX10_commandFault : bc_dec cX10_commandFault pX10_commandFault 165 = true := by decide +kernel
theorem kX10_crack : bc_dec cX10_crack pX10_crack 21 = true := by decide +kernel
theorem kX10_crackedShare : bc_dec cX10_crackedShare pX10_crackedShare 39 = true := by decide +kernel
theorem kX10_criticalByRemoval : bc_dec cX10_criticalByRemoval pX10_criticalByRemoval 43 = true := by decide +kernel
theorem kX10_criticalBySearch : bc_dec cX10_criticalBySearch pX10_criticalBySearch 53 = true := by decide +kernel
theorem kX10_criticalMembersAgree : bc_dec cX10_criticalMembersAgree pX10_criticalMembersAgree 39 = true := by decide +kernel
theorem kX10_day : bc_dec cX10_day pX10_day 11 = true := by decide +kernel
theorem kX10_daysFault : bc_dec cX10_daysFault pX10_daysFault 17 = true := by decide +kernel
theorem kX10_dueDay : bc_dec cX10_dueDay pX10_dueDay 38 = true := by decide +kernel
theorem kX10_errorPosition : bc_dec cX10_errorPosition pX10_errorPosition 21 = true := by decide +kernel
theorem kX10_failedCommand : bc_dec cX10_failedCommand pX10_failedCommand 21 = true := by decide +kernel
theorem kX10_firstJoint : bc_dec cX10_firstJoint pX10_firstJoint 21 = true := by decide +kernel
theorem kX10_forgeFault : bc_dec cX10_forgeFault pX10_forgeFault 16 = true := by decide +kernel
theorem kX10_found : bc_dec cX10_found pX10_found 14 = true := by decide +kernel
theorem kX10_greatestVow : bc_dec cX10_greatestVow pX10_greatestVow 55 = true := by decide +kernel
theorem kX10_indexFault : bc_dec cX10_indexFault pX10_indexFault 20 = true := by decide +kernel
theorem kX10_init : bc_dec cX10_init pX10_init 119 = true := by decide +kernel
theorem kX10_isAbandoned : bc_dec cX10_isAbandoned pX10_isAbandoned 21 = true := by decide +kernel
theorem kX10_isConsistent : bc_dec cX10_isConsistent pX10_isConsistent 66 = true := by decide +kernel
theorem kX10_isCritical : bc_dec cX10_isCritical pX10_isCritical 14 = true := by decide +kernel
theorem kX10_isCriticalByRemoval : bc_dec cX10_isCriticalByRemoval pX10_isCriticalByRemoval 14 = true := by decide +kernel
theorem kX10_isJoint : bc_dec cX10_isJoint pX10_isJoint 16 = true := by decide +kernel
theorem kX10_isKind : bc_dec cX10_isKind pX10_isKind 18 = true := by decide +kernel
theorem kX10_keptTotal : bc_dec cX10_keptTotal pX10_keptTotal 11 = true := by decide +kernel
theorem kX10_leaveFault : bc_dec cX10_leaveFault pX10_leaveFault 38 = true := by decide +kernel
theorem kX10_links : bc_dec cX10_links pX10_links 22 = true := by decide +kernel
theorem kX10_makeVow : bc_dec cX10_makeVow pX10_makeVow 33 = true := by decide +kernel
theorem kX10_meanBearing : bc_dec cX10_meanBearing pX10_meanBearing 39 = true := by decide +kernel
theorem kX10_memberByBearing : bc_dec cX10_memberByBearing pX10_memberByBearing 27 = true := by decide +kernel
theorem kX10_memberCount : bc_dec cX10_memberCount pX10_memberCount 11 = true := by decide +kernel
theorem kX10_memberFault : bc_dec cX10_memberFault pX10_memberFault 77 = true := by decide +kernel
theorem kX10_mend : bc_dec cX10_mend pX10_mend 36 = true := by decide +kernel
theorem kX10_mendFault : bc_dec cX10_mendFault pX10_mendFault 63 = true := by decide +kernel
theorem kX10_nicheFault : bc_dec cX10_nicheFault pX10_nicheFault 13 = true := by decide +kernel
theorem kX10_nicheKind : bc_dec cX10_nicheKind pX10_nicheKind 11 = true := by decide +kernel
theorem kX10_nicheWeight : bc_dec cX10_nicheWeight pX10_nicheWeight 11 = true := by decide +kernel
theorem kX10_outputAt : bc_dec cX10_outputAt pX10_outputAt 28 = true := by decide +kernel
theorem kX10_pairFault : bc_dec cX10_pairFault pX10_pairFault 27 = true := by decide +kernel
theorem kX10_passDays : bc_dec cX10_passDays pX10_passDays 30 = true := by decide +kernel
theorem kX10_placeFault : bc_dec cX10_placeFault pX10_placeFault 68 = true := by decide +kernel
theorem kX10_procession : bc_dec cX10_procession pX10_procession 29 = true := by decide +kernel
theorem kX10_put : bc_dec cX10_put pX10_put 34 = true := by decide +kernel
theorem kX10_refuse : bc_dec cX10_refuse pX10_refuse 107 = true := by decide +kernel
theorem kX10_renderMember : bc_dec cX10_renderMember pX10_renderMember 167 = true := by decide +kernel
theorem kX10_renderWay : bc_dec cX10_renderWay pX10_renderWay 78 = true := by decide +kernel
theorem kX10_repair : bc_dec cX10_repair pX10_repair 25 = true := by decide +kernel
theorem kX10_repairCost : bc_dec cX10_repairCost pX10_repairCost 20 = true := by decide +kernel
theorem kX10_restore : bc_dec cX10_restore pX10_restore 44 = true := by decide +kernel
theorem kX10_resume : bc_dec cX10_resume pX10_resume 33 = true := by decide +kernel
theorem kX10_runCommands : bc_dec cX10_runCommands pX10_runCommands 69 = true := by decide +kernel
theorem kX10_runScript : bc_dec cX10_runScript pX10_runScript 78 = true := by decide +kernel
theorem kX10_save : bc_dec cX10_save pX10_save 27 = true := by decide +kernel
theorem kX10_secondJoint : bc_dec cX10_secondJoint pX10_secondJoint 21 = true := by decide +kernel
theorem kX10_setForge : bc_dec cX10_setForge pX10_setForge 30 = true := by decide +kernel
theorem kX10_setNiche : bc_dec cX10_setNiche pX10_setNiche 30 = true := by decide +kernel
theorem kX10_steel : bc_dec cX10_steel pX10_steel 11 = true := by decide +kernel
theorem kX10_steelByAccounts : bc_dec cX10_steelByAccounts pX10_steelByAccounts 11 = true := by decide +kernel
theorem kX10_strain : bc_dec cX10_strain pX10_strain 15 = true := by decide +kernel
theorem kX10_strainBits : bc_dec cX10_strainBits pX10_strainBits 18 = true := by decide +kernel
theorem kX10_strainFault : bc_dec cX10_strainFault pX10_strainFault 37 = true := by decide +kernel
theorem kX10_strainOf : bc_dec cX10_strainOf pX10_strainOf 26 = true := by decide +kernel
theorem kX10_type : bc_dec cX10_type pX10_type 65 = true := by decide +kernel
theorem kX10_undo : bc_dec cX10_undo pX10_undo 37 = true := by decide +kernel
theorem kX10_vowAt : bc_dec cX10_vowAt pX10_vowAt 38 = true := by decide +kernel
theorem kX10_vowCount : bc_dec cX10_vowCount pX10_vowCount 11 = true := by decide +kernel
theorem kX10_vowFault : bc_dec cX10_vowFault pX10_vowFault 48 = true := by decide +kernel
theorem kX10_walk : bc_dec cX10_walk pX10_walk 124 = true := by decide +kernel
theorem kX10_walkFault : bc_dec cX10_walkFault pX10_walkFault 83 = true := by decide +kernel
theorem kX10_wayFault : bc_dec cX10_wayFault pX10_wayFault 44 = true := by decide +kernel
theorem kX10_wayJoint : bc_dec cX10_wayJoint pX10_wayJoint 42 = true := by decide +kernel
theorem kX10_wayLength : bc_dec cX10_wayLength pX10_wayLength 17 = true := by decide +kernel
theorem kX10_waysAgree : bc_dec cX10_waysAgree pX10_waysAgree 126 = true := by decide +kernel
theorem kX10_wear : bc_dec cX10_wear pX10_wear 21 = true := by decide +kernel
theorem kX10_widestByTrial : bc_dec cX10_widestByTrial pX10_widestByTrial 49 = true := by decide +kernel
theorem kX10_widestLoad : bc_dec cX10_widestLoad pX10_widestLoad 35 = true := by decide +kernel
theorem kX10_widestLoadByTrial : bc_dec cX10_widestLoadByTrial pX10_widestLoadByTrial 18 = true := by decide +kernel
theorem kX11_abandon : bc_dec cX11_abandon pX11_abandon 15 = true := by decide +kernel
theorem kX11_addMember : bc_dec cX11_addMember pX11_addMember 16 = true := by decide +kernel
theorem kX11_adds : bc_dec cX11_adds pX11_adds 172 = true := by decide +kernel
theorem kX11_affordableLoad : bc_dec cX11_affordableLoad pX11_affordableLoad 7 = true := by decide +kernel
theorem kX11_affordableLoadByTable : bc_dec cX11_affordableLoadByTable pX11_affordableLoadByTable 7 = true := by decide +kernel
theorem kX11_affords : bc_dec cX11_affords pX11_affords 31 = true := by decide +kernel
theorem kX11_amount : bc_dec cX11_amount pX11_amount 7 = true := by decide +kernel
theorem kX11_areJoints : bc_dec cX11_areJoints pX11_areJoints 26 = true := by decide +kernel
theorem kX11_asks : bc_dec cX11_asks pX11_asks 23 = true := by decide +kernel
theorem kX11_asksAffordable : bc_dec cX11_asksAffordable pX11_asksAffordable 67 = true := by decide +kernel
theorem kX11_asksCritical : bc_dec cX11_asksCritical pX11_asksCritical 56 = true := by decide +kernel
theorem kX11_asksVow : bc_dec cX11_asksVow pX11_asksVow 68 = true := by decide +kernel
theorem kX11_asksWay : bc_dec cX11_asksWay pX11_asksWay 67 = true := by decide +kernel
theorem kX11_bearing : bc_dec cX11_bearing pX11_bearing 22 = true := by decide +kernel
theorem kX11_bears : bc_dec cX11_bears pX11_bears 34 = true := by decide +kernel
theorem kX11_begins : bc_dec cX11_begins pX11_begins 14 = true := by decide +kernel
theorem kX11_between : bc_dec cX11_between pX11_between 73 = true := by decide +kernel
theorem kX11_blank : bc_dec cX11_blank pX11_blank 10 = true := by decide +kernel
theorem kX11_brokenTotal : bc_dec cX11_brokenTotal pX11_brokenTotal 7 = true := by decide +kernel
theorem kX11_canKeepAll : bc_dec cX11_canKeepAll pX11_canKeepAll 10 = true := by decide +kernel
theorem kX11_canKeepAllBySums : bc_dec cX11_canKeepAllBySums pX11_canKeepAllBySums 10 = true := by decide +kernel
theorem kX11_copies : bc_dec cX11_copies pX11_copies 30 = true := by decide +kernel
theorem kX11_costFor : bc_dec cX11_costFor pX11_costFor 188 = true := by decide +kernel
theorem kX11_costOf : bc_dec cX11_costOf pX11_costOf 20 = true := by decide +kernel
theorem kX11_crack : bc_dec cX11_crack pX11_crack 7 = true := by decide +kernel
theorem kX11_crackedShare : bc_dec cX11_crackedShare pX11_crackedShare 73 = true := by decide +kernel
theorem kX11_day : bc_dec cX11_day pX11_day 6 = true := by decide +kernel
theorem kX11_digit : bc_dec cX11_digit pX11_digit 12 = true := by decide +kernel
theorem kX11_does : bc_dec cX11_does pX11_does 156 = true := by decide +kernel
theorem kX11_dueDay : bc_dec cX11_dueDay pX11_dueDay 7 = true := by decide +kernel
theorem kX11_empties : bc_dec cX11_empties pX11_empties 49 = true := by decide +kernel
theorem kX11_ends : bc_dec cX11_ends pX11_ends 28 = true := by decide +kernel
theorem kX11_errorPosition : bc_dec cX11_errorPosition pX11_errorPosition 29 = true := by decide +kernel
theorem kX11_failedCommand : bc_dec cX11_failedCommand pX11_failedCommand 29 = true := by decide +kernel
theorem kX11_fills : bc_dec cX11_fills pX11_fills 22 = true := by decide +kernel
theorem kX11_finds : bc_dec cX11_finds pX11_finds 137 = true := by decide +kernel
theorem kX11_firstJoint : bc_dec cX11_firstJoint pX11_firstJoint 7 = true := by decide +kernel
theorem kX11_forges : bc_dec cX11_forges pX11_forges 30 = true := by decide +kernel
theorem kX11_goes : bc_dec cX11_goes pX11_goes 9 = true := by decide +kernel
theorem kX11_greatestVow : bc_dec cX11_greatestVow pX11_greatestVow 95 = true := by decide +kernel
theorem kX11_holds : bc_dec cX11_holds pX11_holds 51 = true := by decide +kernel
theorem kX11_init : bc_dec cX11_init pX11_init 115 = true := by decide +kernel
theorem kX11_isAbandoned : bc_dec cX11_isAbandoned pX11_isAbandoned 16 = true := by decide +kernel
theorem kX11_isConsistent : bc_dec cX11_isConsistent pX11_isConsistent 7 = true := by decide +kernel
theorem kX11_isCritical : bc_dec cX11_isCritical pX11_isCritical 6 = true := by decide +kernel
theorem kX11_isCriticalByRemoval : bc_dec cX11_isCriticalByRemoval pX11_isCriticalByRemoval 6 = true := by decide +kernel
theorem kX11_isDue : bc_dec cX11_isDue pX11_isDue 29 = true := by decide +kernel
theorem kX11_isIn : bc_dec cX11_isIn pX11_isIn 16 = true := by decide +kernel
theorem kX11_isKind : bc_dec cX11_isKind pX11_isKind 18 = true := by decide +kernel
theorem kX11_isMember : bc_dec cX11_isMember pX11_isMember 14 = true := by decide +kernel
theorem kX11_keepsAll : bc_dec cX11_keepsAll pX11_keepsAll 45 = true := by decide +kernel
theorem kX11_keptTotal : bc_dec cX11_keptTotal pX11_keptTotal 7 = true := by decide +kernel
theorem kX11_kindHere : bc_dec cX11_kindHere pX11_kindHere 169 = true := by decide +kernel
theorem kX11_kindOf : bc_dec cX11_kindOf pX11_kindOf 29 = true := by decide +kernel
theorem kX11_lays : bc_dec cX11_lays pX11_lays 11 = true := by decide +kernel
theorem kX11_leaves : bc_dec cX11_leaves pX11_leaves 48 = true := by decide +kernel
theorem kX11_leftOnes : bc_dec cX11_leftOnes pX11_leftOnes 31 = true := by decide +kernel
theorem kX11_letterHere : bc_dec cX11_letterHere pX11_letterHere 25 = true := by decide +kernel
theorem kX11_links : bc_dec cX11_links pX11_links 75 = true := by decide +kernel
theorem kX11_makeVow : bc_dec cX11_makeVow pX11_makeVow 15 = true := by decide +kernel
theorem kX11_meanBearing : bc_dec cX11_meanBearing pX11_meanBearing 64 = true := by decide +kernel
theorem kX11_measures : bc_dec cX11_measures pX11_measures 148 = true := by decide +kernel
theorem kX11_memberByBearing : bc_dec cX11_memberByBearing pX11_memberByBearing 144 = true := by decide +kernel
theorem kX11_memberCount : bc_dec cX11_memberCount pX11_memberCount 6 = true := by decide +kernel
theorem kX11_nicheKind : bc_dec cX11_nicheKind pX11_nicheKind 8 = true := by decide +kernel
theorem kX11_nicheWeight : bc_dec cX11_nicheWeight pX11_nicheWeight 10 = true := by decide +kernel
theorem kX11_number : bc_dec cX11_number pX11_number 52 = true := by decide +kernel
theorem kX11_of : bc_dec cX11_of pX11_of 12 = true := by decide +kernel
theorem kX11_ofVow : bc_dec cX11_ofVow pX11_ofVow 14 = true := by decide +kernel
theorem kX11_outputAt : bc_dec cX11_outputAt pX11_outputAt 30 = true := by decide +kernel
theorem kX11_passDays : bc_dec cX11_passDays pX11_passDays 14 = true := by decide +kernel
theorem kX11_passes : bc_dec cX11_passes pX11_passes 276 = true := by decide +kernel
theorem kX11_place : bc_dec cX11_place pX11_place 22 = true := by decide +kernel
theorem kX11_procession : bc_dec cX11_procession pX11_procession 16 = true := by decide +kernel
theorem kX11_put : bc_dec cX11_put pX11_put 16 = true := by decide +kernel
theorem kX11_puts : bc_dec cX11_puts pX11_puts 98 = true := by decide +kernel
theorem kX11_reads : bc_dec cX11_reads pX11_reads 68 = true := by decide +kernel
theorem kX11_readsAll : bc_dec cX11_readsAll pX11_readsAll 76 = true := by decide +kernel
theorem kX11_readsCommand : bc_dec cX11_readsCommand pX11_readsCommand 221 = true := by decide +kernel
theorem kX11_remembers : bc_dec cX11_remembers pX11_remembers 81 = true := by decide +kernel
theorem kX11_renderMember : bc_dec cX11_renderMember pX11_renderMember 139 = true := by decide +kernel
theorem kX11_renderWay : bc_dec cX11_renderWay pX11_renderWay 81 = true := by decide +kernel
theorem kX11_repair : bc_dec cX11_repair pX11_repair 14 = true := by decide +kernel
theorem kX11_repairCost : bc_dec cX11_repairCost pX11_repairCost 22 = true := by decide +kernel
theorem kX11_repairs : bc_dec cX11_repairs pX11_repairs 97 = true := by decide +kernel
theorem kX11_restore : bc_dec cX11_restore pX11_restore 38 = true := by decide +kernel
theorem kX11_resume : bc_dec cX11_resume pX11_resume 15 = true := by decide +kernel
theorem kX11_runScript : bc_dec cX11_runScript pX11_runScript 101 = true := by decide +kernel
theorem kX11_save : bc_dec cX11_save pX11_save 30 = true := by decide +kernel
theorem kX11_secondJoint : bc_dec cX11_secondJoint pX11_secondJoint 7 = true := by decide +kernel
theorem kX11_setForge : bc_dec cX11_setForge pX11_setForge 14 = true := by decide +kernel
theorem kX11_setNiche : bc_dec cX11_setNiche pX11_setNiche 14 = true := by decide +kernel
theorem kX11_spareOn : bc_dec cX11_spareOn pX11_spareOn 66 = true := by decide +kernel
theorem kX11_startOf : bc_dec cX11_startOf pX11_startOf 88 = true := by decide +kernel
theorem kX11_steel : bc_dec cX11_steel pX11_steel 6 = true := by decide +kernel
theorem kX11_steelByAccounts : bc_dec cX11_steelByAccounts pX11_steelByAccounts 32 = true := by decide +kernel
theorem kX11_strain : bc_dec cX11_strain pX11_strain 7 = true := by decide +kernel
theorem kX11_strainBits : bc_dec cX11_strainBits pX11_strainBits 23 = true := by decide +kernel
theorem kX11_strains : bc_dec cX11_strains pX11_strains 47 = true := by decide +kernel
theorem kX11_thrown : bc_dec cX11_thrown pX11_thrown 5 = true := by decide +kernel
theorem kX11_total : bc_dec cX11_total pX11_total 12 = true := by decide +kernel
theorem kX11_type : bc_dec cX11_type pX11_type 58 = true := by decide +kernel
theorem kX11_undo : bc_dec cX11_undo pX11_undo 56 = true := by decide +kernel
theorem kX11_vowAt : bc_dec cX11_vowAt pX11_vowAt 125 = true := by decide +kernel
theorem kX11_vowCount : bc_dec cX11_vowCount pX11_vowCount 6 = true := by decide +kernel
theorem kX11_vows : bc_dec cX11_vows pX11_vows 123 = true := by decide +kernel
theorem kX11_waits : bc_dec cX11_waits pX11_waits 50 = true := by decide +kernel
theorem kX11_walks : bc_dec cX11_walks pX11_walks 213 = true := by decide +kernel
theorem kX11_wayJoint : bc_dec cX11_wayJoint pX11_wayJoint 64 = true := by decide +kernel
theorem kX11_wayLength : bc_dec cX11_wayLength pX11_wayLength 26 = true := by decide +kernel
theorem kX11_wear : bc_dec cX11_wear pX11_wear 7 = true := by decide +kernel
theorem kX11_weighs : bc_dec cX11_weighs pX11_weighs 29 = true := by decide +kernel
theorem kX11_widest : bc_dec cX11_widest pX11_widest 138 = true := by decide +kernel
theorem kX11_widestLoad : bc_dec cX11_widestLoad pX11_widestLoad 7 = true := by decide +kernel
theorem kX11_widestLoadByTrial : bc_dec cX11_widestLoadByTrial pX11_widestLoadByTrial 7 = true := by decide +kernel
theorem kX11_writesNumber : bc_dec cX11_writesNumber pX11_writesNumber 61 = true := by decide +kernel
theorem kL_abandon : bc_dec cL_abandon pL_abandon 20 = true := by decide +kernel
theorem kL_addMember : bc_dec cL_addMember pL_addMember 29 = true := by decide +kernel
theorem kL_affordableLoad : bc_dec cL_affordableLoad pL_affordableLoad 27 = true := by decide +kernel
theorem kL_affordableLoadByTable : bc_dec cL_affordableLoadByTable pL_affordableLoadByTable 27 = true := by decide +kernel
theorem kL_amount : bc_dec cL_amount pL_amount 17 = true := by decide +kernel
theorem kL_bearing : bc_dec cL_bearing pL_bearing 17 = true := by decide +kernel
theorem kL_crack : bc_dec cL_crack pL_crack 17 = true := by decide +kernel
theorem kL_crackedShare : bc_dec cL_crackedShare pL_crackedShare 16 = true := by decide +kernel
theorem kL_dueDay : bc_dec cL_dueDay pL_dueDay 17 = true := by decide +kernel
theorem kL_errorPosition : bc_dec cL_errorPosition pL_errorPosition 16 = true := by decide +kernel
theorem kL_failedCommand : bc_dec cL_failedCommand pL_failedCommand 16 = true := by decide +kernel
theorem kL_firstJoint : bc_dec cL_firstJoint pL_firstJoint 17 = true := by decide +kernel
theorem kL_greatestVow : bc_dec cL_greatestVow pL_greatestVow 20 = true := by decide +kernel
theorem kL_isAbandoned : bc_dec cL_isAbandoned pL_isAbandoned 24 = true := by decide +kernel
theorem kL_isCritical : bc_dec cL_isCritical pL_isCritical 24 = true := by decide +kernel
theorem kL_isCriticalByRemoval : bc_dec cL_isCriticalByRemoval pL_isCriticalByRemoval 24 = true := by decide +kernel
theorem kL_makeVow : bc_dec cL_makeVow pL_makeVow 23 = true := by decide +kernel
theorem kL_meanBearing : bc_dec cL_meanBearing pL_meanBearing 15 = true := by decide +kernel
theorem kL_memberByBearing : bc_dec cL_memberByBearing pL_memberByBearing 17 = true := by decide +kernel
theorem kL_outputAt : bc_dec cL_outputAt pL_outputAt 17 = true := by decide +kernel
theorem kL_passDays : bc_dec cL_passDays pL_passDays 17 = true := by decide +kernel
theorem kL_procession : bc_dec cL_procession pL_procession 33 = true := by decide +kernel
theorem kL_put : bc_dec cL_put pL_put 33 = true := by decide +kernel
theorem kL_renderMember : bc_dec cL_renderMember pL_renderMember 17 = true := by decide +kernel
theorem kL_renderWay : bc_dec cL_renderWay pL_renderWay 27 = true := by decide +kernel
theorem kL_repair : bc_dec cL_repair pL_repair 23 = true := by decide +kernel
theorem kL_repairCost : bc_dec cL_repairCost pL_repairCost 17 = true := by decide +kernel
theorem kL_restore : bc_dec cL_restore pL_restore 16 = true := by decide +kernel
theorem kL_resume : bc_dec cL_resume pL_resume 20 = true := by decide +kernel
theorem kL_runScript : bc_dec cL_runScript pL_runScript 19 = true := by decide +kernel
theorem kL_secondJoint : bc_dec cL_secondJoint pL_secondJoint 17 = true := by decide +kernel
theorem kL_setForge : bc_dec cL_setForge pL_setForge 17 = true := by decide +kernel
theorem kL_setNiche : bc_dec cL_setNiche pL_setNiche 17 = true := by decide +kernel
theorem kL_strain : bc_dec cL_strain pL_strain 23 = true := by decide +kernel
theorem kL_strainBits : bc_dec cL_strainBits pL_strainBits 23 = true := by decide +kernel
theorem kL_type : bc_dec cL_type pL_type 20 = true := by decide +kernel
theorem kL_undo : bc_dec cL_undo pL_undo 16 = true := by decide +kernel
theorem kL_vowAt : bc_dec cL_vowAt pL_vowAt 17 = true := by decide +kernel
theorem kL_wayJoint : bc_dec cL_wayJoint pL_wayJoint 29 = true := by decide +kernel
theorem kL_wayLength : bc_dec cL_wayLength pL_wayLength 27 = true := by decide +kernel
theorem kL_wear : bc_dec cL_wear pL_wear 17 = true := by decide +kernel
theorem kL_widestLoad : bc_dec cL_widestLoad pL_widestLoad 27 = true := by decide +kernel
theorem kL_widestLoadByTrial : bc_dec cL_widestLoadByTrial pL_widestLoadByTrial 27 = true := by decide +kernel
theorem kL_lawD : bc_dec code pL_law 1839 = true := by decide +kernel
