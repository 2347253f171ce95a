noncomputable def bc_ok1 (b : ByteArray) (f : Nat → Option bc_IC) : Prop := ∀ (pc : Nat) (i : Instr) (k : Nat) (ts : List Nat), f pc = some (i, k, ts) → decode b pc = .ok (i, k) ∧ bc_tg b pc i ts = true ∧ bc_ln i k = true
theorem bc_cut_none {n : Nat} {f : Nat → Option bc_IC} {pc : Nat} (h : n ≤ pc) : bc_cut n f pc = none := by
  unfold bc_cut
  cases hb : Nat.blt pc n with
  | true => exact absurd (Nat.le_of_ble_eq_true hb) (by omega)
  | false => rfl
theorem bc_dec_ok {b : ByteArray} {f : Nat → Option bc_IC} {n : Nat} (h : bc_dec b f n = true) (hn : ∀ pc, n ≤ pc → f pc = none) : bc_ok1 b f := by
  intro pc i k ts hf
  have hlt : pc < n := by
    rcases Nat.lt_or_ge pc n with q | q
    · exact q
    · rw [hn pc q] at hf; cases hf
  exact dq_dec_e h hlt hf
noncomputable def bc_cw (Y : bc_Y) : Cond := match Y.2.2.2.2.2.2.2.1 with
  | [] => .code Y.1 Y.2.1 Y.2.2.1 Y.2.2.2.1
  | hh => .codeWith Y.1 Y.2.1 Y.2.2.1 Y.2.2.2.1 hh
noncomputable def bc_vP (Y : bc_Y) (fg : Bool) : Prop := bc_cw Y ∈ bc_W ∧ .initialized Y.1.cls ∈ bc_W ∧ plainName Y.1.cls = true ∧ Y.1.cls ≠ "java/lang/invoke/MethodHandle" ∧ Y.1.cls ≠ "java/lang/invoke/VarHandle" ∧ (parseMethodDescriptor Y.1.desc).map (fun d => d.parameters.length) = some Y.2.2.2.2.1 ∧ Y.1.cls = bc_rn Y.2.2.2.2.2.1 ∧ Y.2.2.1 ≤ 30 ∧ bc_ok1 Y.2.1 Y.2.2.2.2.2.2.2.2 ∧ (if fg then .static Y.1 ∈ bc_W else .instanceMethod Y.1 ∈ bc_W ∧ .selects Y.1.cls Y.1 Y.1 ∈ bc_W)
noncomputable def bc_vY (i : Nat) : Prop := bc_vP (bc_yt i) (bc_fg i)

/-! THE ABSTRACT MACHINE: numbers are integers, the heap is a table of cells of a fixed shape -/
/-- a value: a number, a cell by its number, a row of a grid, a long, a float, a double -/
noncomputable abbrev bc_A : Type := Int ⊕ Nat ⊕ (Nat × Int) ⊕ Int64 ⊕ UInt32 ⊕ UInt64
noncomputable abbrev bc_I (x : Int) : bc_A := Sum.inl x
noncomputable abbrev bc_R (k : Nat) : bc_A := Sum.inr (Sum.inl k)
noncomputable abbrev bc_G (k : Nat) (i : Int) : bc_A := Sum.inr (Sum.inr (Sum.inl (k, i)))
noncomputable abbrev bc_J (x : Int64) : bc_A := Sum.inr (Sum.inr (Sum.inr (Sum.inl x)))
noncomputable abbrev bc_F (x : UInt32) : bc_A := Sum.inr (Sum.inr (Sum.inr (Sum.inr (Sum.inl x))))
noncomputable abbrev bc_D (x : UInt64) : bc_A := Sum.inr (Sum.inr (Sum.inr (Sum.inr (Sum.inr x))))
noncomputable abbrev bc_LV : Type := List (Nat × bc_A)
/-- what the cells hold: number j of cell k; the law's long; the law's double -/
noncomputable abbrev bc_M : Type := (Nat → Int → Int) × Int64 × UInt64
noncomputable def bc_wr (σ : bc_M) (k : Nat) (j v : Int) : bc_M := (fun k' j' => if k' = k then (if j' = j then v else σ.1 k' j') else σ.1 k' j', σ.2)
noncomputable def bc_cy (σ : bc_M) (src dst : Nat) (sp dp n : Int) : bc_M := (fun k' j' => if k' = dst then (if dp ≤ j' ∧ j' < dp + n then σ.1 src (sp + (j' - dp)) else σ.1 k' j') else σ.1 k' j', σ.2)
noncomputable def bc_wide : bc_A → Bool
  | .inr (.inr (.inr (.inl _))) => true
  | .inr (.inr (.inr (.inr (.inr _)))) => true
  | _ => false
noncomputable def bc_lget : bc_LV → Nat → Option bc_A
  | [], _ => none
  | (i, v) :: l, k => bif Nat.beq i k then some v else bc_lget l k
noncomputable def bc_keep (k : Nat) (w : Bool) (q : Nat × bc_A) : Bool := !(Nat.beq q.1 k) && !(Nat.beq (q.1 + 1) k && bc_wide q.2) && !(w && Nat.beq q.1 (k + 1))
noncomputable def bc_lins : bc_LV → Nat → bc_A → bc_LV
  | [], k, v => [(k, v)]
  | (i, u) :: l, k, v => bif Nat.blt i k then (i, u) :: bc_lins l k v else (k, v) :: (i, u) :: l
noncomputable def bc_lset (l : bc_LV) (k : Nat) (v : bc_A) : bc_LV := bc_lins (l.filter (bc_keep k (bc_wide v))) k v
noncomputable def bc_force : bc_LV → (bc_LV → Prop) → Prop
  | [], K => K []
  | q :: l, K => bc_force l (fun l' => K (q :: l'))
theorem bc_force_eq : ∀ (l : bc_LV) (K : bc_LV → Prop), bc_force l K = K l
  | [], _ => rfl
  | q :: l, K => bc_force_eq l (fun l' => K (q :: l'))
noncomputable def bc_ob (c A : Prop) : Prop := c ∧ A
theorem bc_ob_i {c A : Prop} (h : c) (k : A) : bc_ob c A := ⟨h, k⟩
noncomputable def bc_br (c A B : Prop) : Prop := (c → A) ∧ (¬ c → B)
theorem bc_br_i {c A B : Prop} (h : c → A) (k : ¬ c → B) : bc_br c A B := ⟨h, k⟩
noncomputable abbrev bc_in (x : Int) : Prop := -2147483648 ≤ x ∧ x ≤ 2147483647
/-- what stands on the stack -/
noncomputable def bc_pI (st : List bc_A) (k : Int → List bc_A → Prop) : Prop := match st with | .inl x :: r => k x r | _ => False
noncomputable def bc_pR (st : List bc_A) (k : Nat → List bc_A → Prop) : Prop := match st with | .inr (.inl x) :: r => k x r | _ => False
noncomputable def bc_pJ (st : List bc_A) (k : Int64 → List bc_A → Prop) : Prop := match st with | .inr (.inr (.inr (.inl x))) :: r => k x r | _ => False
noncomputable def bc_pF (st : List bc_A) (k : UInt32 → List bc_A → Prop) : Prop := match st with | .inr (.inr (.inr (.inr (.inl x)))) :: r => k x r | _ => False
noncomputable def bc_pD (st : List bc_A) (k : UInt64 → List bc_A → Prop) : Prop := match st with | .inr (.inr (.inr (.inr (.inr x)))) :: r => k x r | _ => False
noncomputable def bc_pA (st : List bc_A) (k : bc_A → List bc_A → Prop) : Prop := match st with | x :: r => k x r | _ => False
noncomputable def bc_pE (st : List bc_A) (k : Prop) : Prop := match st with | [] => k | _ => False
theorem bc_pI_e {st : List bc_A} {k : Int → List bc_A → Prop} (h : bc_pI st k) : ∃ x r, st = bc_I x :: r ∧ k x r := by
  unfold bc_pI at h; split at h
  · exact ⟨_, _, rfl, h⟩
  · exact h.elim
theorem bc_pR_e {st : List bc_A} {k : Nat → List bc_A → Prop} (h : bc_pR st k) : ∃ x r, st = bc_R x :: r ∧ k x r := by
  unfold bc_pR at h; split at h
  · exact ⟨_, _, rfl, h⟩
  · exact h.elim
theorem bc_pJ_e {st : List bc_A} {k : Int64 → List bc_A → Prop} (h : bc_pJ st k) : ∃ x r, st = bc_J x :: r ∧ k x r := by
  unfold bc_pJ at h; split at h
  · exact ⟨_, _, rfl, h⟩
  · exact h.elim
theorem bc_pF_e {st : List bc_A} {k : UInt32 → List bc_A → Prop} (h : bc_pF st k) : ∃ x r, st = bc_F x :: r ∧ k x r := by
  unfold bc_pF at h; split at h
  · exact ⟨_, _, rfl, h⟩
  · exact h.elim
theorem bc_pD_e {st : List bc_A} {k : UInt64 → List bc_A → Prop} (h : bc_pD st k) : ∃ x r, st = bc_D x :: r ∧ k x r := by
  unfold bc_pD at h; split at h
  · exact ⟨_, _, rfl, h⟩
  · exact h.elim
theorem bc_pA_e {st : List bc_A} {k : bc_A → List bc_A → Prop} (h : bc_pA st k) : ∃ x r, st = x :: r ∧ k x r := by
  unfold bc_pA at h; split at h
  · exact ⟨_, _, rfl, h⟩
  · exact h.elim
theorem bc_pE_e {st : List bc_A} {k : Prop} (h : bc_pE st k) : st = [] ∧ k := by
  unfold bc_pE at h; split at h
  · exact ⟨rfl, h⟩
  · exact h.elim
noncomputable def bc_lI (l : bc_LV) (i : Nat) (k : Int → Prop) : Prop := match bc_lget l i with | some (.inl x) => k x | _ => False
noncomputable def bc_lR (l : bc_LV) (i : Nat) (k : bc_A → Prop) : Prop := match bc_lget l i with | some (.inr (.inl x)) => k (bc_R x) | some (.inr (.inr (.inl x))) => k (bc_G x.1 x.2) | _ => False
noncomputable def bc_lJ (l : bc_LV) (i : Nat) (k : Int64 → Prop) : Prop := match bc_lget l i with | some (.inr (.inr (.inr (.inl x)))) => k x | _ => False
noncomputable def bc_lF (l : bc_LV) (i : Nat) (k : UInt32 → Prop) : Prop := match bc_lget l i with | some (.inr (.inr (.inr (.inr (.inl x))))) => k x | _ => False
noncomputable def bc_lD (l : bc_LV) (i : Nat) (k : UInt64 → Prop) : Prop := match bc_lget l i with | some (.inr (.inr (.inr (.inr (.inr x))))) => k x | _ => False
noncomputable def bc_pop : Nat → List bc_A → List bc_A → Option (List bc_A × List bc_A)
  | 0, st, acc => some (acc, st)
  | _ + 1, [], _ => none
  | n + 1, v :: st, acc => bc_pop n st (v :: acc)
noncomputable abbrev bc_own (Y : bc_Y) : Nat := Y.2.2.2.2.2.1
noncomputable abbrev bc_cost (Y : bc_Y) : Nat := Y.2.2.2.2.2.2.1
noncomputable abbrev bc_hh (Y : bc_Y) : bc_HH := Y.2.2.2.2.2.2.2.1
noncomputable abbrev bc_code (Y : bc_Y) : Nat → Option bc_IC := Y.2.2.2.2.2.2.2.2
noncomputable abbrev bc_np (Y : bc_Y) : Nat := Y.2.2.2.2.1
noncomputable abbrev bc_ret (Y : bc_Y) : Option FieldType := Y.2.2.2.1
noncomputable abbrev bc_nL (Y : bc_Y) : Nat := Y.2.2.1
/-- the exceptions -/
noncomputable def bc_en (e : Nat) : String := match e with
  | 0 => "java/lang/IndexOutOfBoundsException"
  | 1 => "java/lang/IllegalArgumentException"
  | 2 => "java/lang/IllegalStateException"
  | 3 => "java/util/NoSuchElementException"
  | 4 => "java/lang/UnsupportedOperationException"
  | _ => "java/lang/ArithmeticException"
noncomputable def bc_find : bc_HH → Nat → Nat → Option Nat
  | [], _, _ => none
  | (a, b, h, t) :: r, pc, e => bif Nat.ble a pc && Nat.blt pc b && Nat.beq (bc_ct t) e then some h else bc_find r pc e
/-- constants: numbers, floats, texts -/
noncomputable def bc_kn (ow k : Nat) : Option (bc_A × Nat) := match ow with
  | 4 => bif Nat.beq k 62 then some (bc_I 1000000, 441) else none
  | 5 => bif Nat.beq (k % 2) 0 then (bif Nat.blt k 93 then (bif Nat.ble 74 k then some (bc_R (1000 + (k - 74) / 2), 1230 + (k - 74) / 2) else none) else (bif Nat.ble k 104 then some (bc_R (1000 + (k - 74) / 2), 1301 + (k - 94) / 2) else none)) else none
  | 10 => bif Nat.beq k 424 then some (bc_I (-2147483648), 1011) else (bif Nat.beq k 425 then some (bc_F 1258291200, 1012) else none)
  | 11 => bif Nat.beq k 96 then some (bc_I 99999, 1530) else (bif Nat.beq k 248 then some (bc_R 1016, 1875) else none)
  | _ => none
noncomputable abbrev bc_KT : Type := Nat → bc_LV → List bc_A → bc_M → Nat → Prop
noncomputable def bc_sw (x : Int) (K : Nat → Prop) : Int → List Nat → Nat → Prop
  | _, [], d => K d
  | lo, t :: ts, d => bc_br (x = lo) (K t) (bc_sw x K (lo + 1) ts d)
noncomputable def bc_cmp (cd : ClassFile.Cond) (x y : Int) (A B : Prop) : Prop := match cd with
  | .eq => bc_br (x = y) A B
  | .ne => bc_br (x = y) B A
  | .lt => bc_br (x < y) A B
  | .ge => bc_br (x < y) B A
  | .gt => bc_br (y < x) A B
  | .le => bc_br (y < x) B A
/-- a field of an object -/
noncomputable def bc_fd (ow ix k : Nat) (f : Nat → Nat → Option Nat → Prop) : Prop := match bc_fl ow ix, bc_sh k with
  | some (ci, j, ty, _, _), some (.inl (ci', fs)) => bif Nat.beq ci ci' then (match fs[j]? with | some o => f j ty o | none => False) else False
  | _, _ => False
/-- a number of an array: its cell, its place there, its kind -/
noncomputable def bc_ix (v : bc_A) (j : Int) (f : Nat → Int → Nat → Prop) : Prop := match v with
  | .inr (.inl k) => (match bc_sh k with | some (.inr (.inl (ty, n))) => bc_ob (0 ≤ j ∧ j < (n : Int)) (f k j ty) | _ => False)
  | .inr (.inr (.inl (k, i))) => (match bc_sh k with | some (.inr (.inr (.inr (.inl (n, w))))) => bc_ob ((0 ≤ i ∧ i < (n : Int)) ∧ 0 ≤ j ∧ j < (w : Int)) (f k ((w : Int) * i + j) 0) | _ => False)
  | _ => False
noncomputable def bc_fit (ty : Nat) (x : Int) (A : Prop) : Prop := match ty with
  | 0 => A
  | 1 => bc_ob (0 ≤ x ∧ x ≤ 65535) A
  | 2 => bc_ob (0 ≤ x ∧ x ≤ 1) A
  | _ => False
/-- a call: C asks the callee, with the world behind it -/
noncomputable def bc_inv (Y : bc_Y) (C : Nat → bc_LV → Nat → bc_Y → List bc_A → bc_M → (Option bc_A → bc_M → Prop) → Prop) (Y' : bc_Y) (a : Nat) (pc : Nat) (lv : bc_LV) (st : List bc_A) (σ : bc_M) (n : Nat) (K : bc_KT) (ok : List bc_A → Bool) : Prop :=
  match bc_pop a st [] with
  | some (as, r) => bif Nat.ble (n + bc_cost Y') (bc_cost Y) && ok as && Nat.ble r.length 4 then C pc lv (n + bc_cost Y') Y' as σ (fun v σ' => K (pc + 3) lv (v.toList ++ r) σ' (n + bc_cost Y')) else False
  | none => False
/-- the receiver is an object of the method's class -/
noncomputable def bc_rcv (ow : Nat) (as : List bc_A) : Bool := match as with
  | .inr (.inl k) :: _ => (match bc_sh k with | some (.inl (ci, _)) => Nat.beq ci ow | _ => false)
  | _ => false
noncomputable def bc_pR2 (st : List bc_A) (k : bc_A → List bc_A → Prop) : Prop := match st with
  | .inr (.inl x) :: r => k (bc_R x) r
  | .inr (.inr (.inl x)) :: r => k (bc_G x.1 x.2) r
  | _ => False
theorem bc_pR2_e {st : List bc_A} {k : bc_A → List bc_A → Prop} (h : bc_pR2 st k) : ∃ v r, st = v :: r ∧ k v r := by
  unfold bc_pR2 at h; split at h
  · exact ⟨_, _, rfl, h⟩
  · exact ⟨_, _, rfl, h⟩
  · exact h.elim
/-- the reference of a row of numbers, or of a grid's row -/
noncomputable def bc_ald (ty : Nat) (st : List bc_A) (K : Int → List bc_A → Prop) (σ : bc_M) : Prop := bc_pI st fun j r => bc_pR2 r fun v r => bc_ix v j fun k j' t => bif Nat.beq t ty then K (σ.1 k j') r else False
noncomputable def bc_ast (ty : Nat) (st : List bc_A) (K : bc_M → List bc_A → Prop) (σ : bc_M) : Prop := bc_pI st fun x r => bc_pI r fun j r => bc_pR2 r fun v r => bc_ix v j fun k j' t => bif Nat.beq t ty then bc_fit ty x (K (bc_wr σ k j' x) r) else False
noncomputable def bc_aald (st : List bc_A) (K : bc_A → List bc_A → Prop) : Prop := bc_pI st fun j r => bc_pR r fun k r => match bc_sh k with
  | some (.inr (.inr (.inr (.inl (n, _))))) => bc_ob (0 ≤ j ∧ j < (n : Int)) (K (bc_G k j) r)
  | some (.inr (.inr (.inr (.inr (.inl (n, b, d)))))) => bc_ob (0 ≤ j ∧ j < (n : Int)) (∀ t : Nat, t < n → j = (t : Int) → K (bc_R (b + d * t)) r)
  | _ => False
noncomputable def bc_lng (k : Nat) : Bool := match bc_sh k with | some (.inr (.inr (.inr (.inr (.inr b))))) => !b | _ => false
noncomputable def bc_dbl (k : Nat) : Bool := match bc_sh k with | some (.inr (.inr (.inr (.inr (.inr b))))) => b | _ => false
noncomputable def bc_tx (i : Nat) : List Nat := match i with
  | 0 => [109, 101, 109, 98, 101, 114, 32]
  | 1 => [119, 97, 108, 107, 32]
  | 2 => [118, 111, 119, 32]
  | 3 => [102, 111, 114, 103, 101, 32]
  | 4 => [114, 101, 112, 97, 105, 114, 32]
  | 5 => [97, 98, 97, 110, 100, 111, 110, 32]
  | 6 => [114, 101, 115, 117, 109, 101, 32]
  | 7 => [110, 105, 99, 104, 101, 32]
  | 8 => [112, 117, 116, 32]
  | 9 => [100, 97, 121]
  | 10 => [100, 100, 32, 110]
  | 11 => [110, 32, 110]
  | 12 => [107]
  | 13 => [100, 32, 107, 110]
  | 14 => [32, 110]
  | 15 => [110]
  | _ => [109, 101, 109, 98, 101, 114, 32, 119, 97, 108, 107, 32, 118, 111, 119, 32, 102, 111, 114, 103, 101, 32, 114, 101, 112, 97, 105, 114, 32, 97, 98, 97, 110, 100, 111, 110, 32, 114, 101, 115, 117, 109, 101, 32, 110, 105, 99, 104, 101, 32, 112, 117, 116, 32, 100, 97, 121]
/-- the JDK's own: max, min, arraycopy, floatToIntBits, length and charAt of the constants -/
noncomputable def bc_jdk (k : Nat) (st : List bc_A) (σ : bc_M) (K : List bc_A → bc_M → Prop) : Prop := match k with
  | 0 => bc_pI st fun y r => bc_pI r fun x r => bc_ob (bc_in x ∧ bc_in y ∧ r.length ≤ 8) (K (bc_I (max x y) :: r) σ)
  | 1 => bc_pI st fun y r => bc_pI r fun x r => bc_ob (bc_in x ∧ bc_in y ∧ r.length ≤ 8) (K (bc_I (min x y) :: r) σ)
  | 2 => bc_pI st fun n r => bc_pI r fun dp r => bc_pR r fun kd r => bc_pI r fun sp r => bc_pR r fun ks r => match bc_sh ks, bc_sh kd with
    | some (.inr (.inl (0, n0))), some (.inr (.inl (0, n1))) => bc_ob ((0 ≤ sp ∧ 0 ≤ dp ∧ 0 ≤ n) ∧ (sp + n ≤ (n0 : Int) ∧ dp + n ≤ (n1 : Int)) ∧ r.length ≤ 8) (K r (bc_cy σ ks kd sp dp n))
    | _, _ => False
  | 3 => bc_pF st fun x r => bc_ob (vf_n32 x ∧ r.length ≤ 4) (K (bc_I x.toInt32.toInt :: r) σ)
  | 4 => bc_pR st fun k r => bc_ob ((1000 ≤ k ∧ k ≤ 1016) ∧ r.length ≤ 4) (K (bc_I ((bc_tx (k - 1000)).length : Int) :: r) σ)
  | 5 => bc_pI st fun j r => bc_pR r fun k r => bc_ob (((1000 ≤ k ∧ k ≤ 1016) ∧ r.length ≤ 4) ∧ 0 ≤ j ∧ j < ((bc_tx (k - 1000)).length : Int)) (K (bc_I (((bc_tx (k - 1000)).getD j.toNat 0 : Nat) : Int) :: r) σ)
  | _ => False
noncomputable def bc_rt (ret : Option FieldType) (x : Int) (A : Prop) : Prop := match ret with
  | some .int => A
  | some .boolean => bc_ob (0 ≤ x ∧ x ≤ 1) A
  | some .char => bc_ob (0 ≤ x ∧ x ≤ 65535) A
  | _ => False
/-- the answer's type -/
noncomputable def bc_rq (ret : Option FieldType) (q : FieldType → Bool) (A : Prop) : Prop := match ret with
  | some t => bif q t then A else False
  | none => False
noncomputable def bc_isJ (t : FieldType) : Bool := match t with | .long => true | _ => false
noncomputable def bc_isF (t : FieldType) : Bool := match t with | .float => true | _ => false
noncomputable def bc_isD (t : FieldType) : Bool := match t with | .double => true | _ => false
noncomputable def bc_isO (t : FieldType) : Bool := match t with | .object _ => true | _ => false
/-- ONE INSTRUCTION: what must hold so that the machine goes on as K, R (it returns), X (it throws) say -/
noncomputable def bc_stp (Y : bc_Y) (K : bc_KT) (R : Option bc_A → bc_M → Prop) (X : Nat → bc_M → Prop) (C : Nat → bc_LV → Nat → bc_Y → List bc_A → bc_M → (Option bc_A → bc_M → Prop) → Prop) (i : Instr) (len : Nat) (ts : List Nat) (pc : Nat) (lv : bc_LV) (st : List bc_A) (σ : bc_M) (n : Nat) : Prop := match i with
  | .iconst v => K (pc + 1) lv (bc_I v :: st) σ n
  | .bipush v => K (pc + 2) lv (bc_I v :: st) σ n
  | .sipush v => K (pc + 3) lv (bc_I v :: st) σ n
  | .ldc k => (match bc_kn (bc_own Y) k with | some (.inl v, _) => K (pc + 2) lv (bc_I v :: st) σ n | some (.inr (.inl v), _) => K (pc + 2) lv (bc_R v :: st) σ n | _ => False)
  | .ldc_w k => (match bc_kn (bc_own Y) k with | some (.inl v, _) => K (pc + 3) lv (bc_I v :: st) σ n | some (.inr (.inr (.inr (.inr (.inl v)))), _) => K (pc + 3) lv (bc_F v :: st) σ n | _ => False)
  | .lconst v => K (pc + 1) lv (bc_J (Int64.ofNat v.val) :: st) σ n
  | .fconst v => (match v.val with | 0 => K (pc + 1) lv (bc_F FP.fconst0 :: st) σ n | 1 => K (pc + 1) lv (bc_F FP.fconst1 :: st) σ n | 2 => K (pc + 1) lv (bc_F FP.fconst2 :: st) σ n | _ => False)
  | .dconst v => (match v.val with | 0 => K (pc + 1) lv (bc_D FP.dconst0 :: st) σ n | 1 => K (pc + 1) lv (bc_D FP.dconst1 :: st) σ n | _ => False)
  | .iload k => bc_lI lv k fun x => K (pc + 2) lv (bc_I x :: st) σ n
  | .iload_n k => bc_lI lv k.val fun x => K (pc + 1) lv (bc_I x :: st) σ n
  | .aload k => bc_lR lv k fun x => K (pc + 2) lv (x :: st) σ n
  | .aload_n k => bc_lR lv k.val fun x => K (pc + 1) lv (x :: st) σ n
  | .lload k => bc_lJ lv k fun x => K (pc + 2) lv (bc_J x :: st) σ n
  | .lload_n k => bc_lJ lv k.val fun x => K (pc + 1) lv (bc_J x :: st) σ n
  | .fload k => bc_lF lv k fun x => K (pc + 2) lv (bc_F x :: st) σ n
  | .fload_n k => bc_lF lv k.val fun x => K (pc + 1) lv (bc_F x :: st) σ n
  | .dload k => bc_lD lv k fun x => K (pc + 2) lv (bc_D x :: st) σ n
  | .dload_n k => bc_lD lv k.val fun x => K (pc + 1) lv (bc_D x :: st) σ n
  | .istore k => bc_pI st fun x r => bif Nat.blt k (bc_nL Y) then bc_force (bc_lset lv k (bc_I x)) (fun l => K (pc + 2) l r σ n) else False
  | .istore_n k => bc_pI st fun x r => bif Nat.blt k.val (bc_nL Y) then bc_force (bc_lset lv k.val (bc_I x)) (fun l => K (pc + 1) l r σ n) else False
  | .astore k => bc_pR2 st fun x r => bif Nat.blt k (bc_nL Y) then bc_force (bc_lset lv k x) (fun l => K (pc + 2) l r σ n) else False
  | .astore_n k => bc_pR2 st fun x r => bif Nat.blt k.val (bc_nL Y) then bc_force (bc_lset lv k.val x) (fun l => K (pc + 1) l r σ n) else False
  | .fstore k => bc_pF st fun x r => bif Nat.blt k (bc_nL Y) then bc_force (bc_lset lv k (bc_F x)) (fun l => K (pc + 2) l r σ n) else False
  | .fstore_n k => bc_pF st fun x r => bif Nat.blt k.val (bc_nL Y) then bc_force (bc_lset lv k.val (bc_F x)) (fun l => K (pc + 1) l r σ n) else False
  | .lstore k => bc_pJ st fun x r => bif Nat.blt (k + 1) (bc_nL Y) then bc_force (bc_lset lv k (bc_J x)) (fun l => K (pc + 2) l r σ n) else False
  | .lstore_n k => bc_pJ st fun x r => bif Nat.blt (k.val + 1) (bc_nL Y) then bc_force (bc_lset lv k.val (bc_J x)) (fun l => K (pc + 1) l r σ n) else False
  | .dstore k => bc_pD st fun x r => bif Nat.blt (k + 1) (bc_nL Y) then bc_force (bc_lset lv k (bc_D x)) (fun l => K (pc + 2) l r σ n) else False
  | .dstore_n k => bc_pD st fun x r => bif Nat.blt (k.val + 1) (bc_nL Y) then bc_force (bc_lset lv k.val (bc_D x)) (fun l => K (pc + 1) l r σ n) else False
  | .iinc k d => bc_lI lv k fun x => bif Nat.blt k (bc_nL Y) then bc_force (bc_lset lv k (bc_I (x + d))) (fun l => K (pc + 3) l st σ n) else False
  | .iadd => bc_pI st fun y r => bc_pI r fun x r => K (pc + 1) lv (bc_I (x + y) :: r) σ n
  | .isub => bc_pI st fun y r => bc_pI r fun x r => K (pc + 1) lv (bc_I (x - y) :: r) σ n
  | .imul => bc_pI st fun y r => bc_pI r fun x r => K (pc + 1) lv (bc_I (x * y) :: r) σ n
  | .idiv => bc_pI st fun y r => bc_pI r fun x r => bc_ob ((0 ≤ x ∧ x ≤ 2147483647) ∧ 0 < y ∧ y ≤ 2147483647) (K (pc + 1) lv (bc_I (x / y) :: r) σ n)
  | .irem => bc_pI st fun y r => bc_pI r fun x r => bc_ob ((0 ≤ x ∧ x ≤ 2147483647) ∧ 0 < y ∧ y ≤ 2147483647) (K (pc + 1) lv (bc_I (x % y) :: r) σ n)
  | .iand => bc_pI st fun y r => bc_pI r fun x r => K (pc + 1) lv (bc_I ((Int32.ofInt x &&& Int32.ofInt y).toInt) :: r) σ n
  | .ior => bc_pI st fun y r => bc_pI r fun x r => K (pc + 1) lv (bc_I ((Int32.ofInt x ||| Int32.ofInt y).toInt) :: r) σ n
  | .ishl => bc_pI st fun y r => bc_pI r fun x r => K (pc + 1) lv (bc_I ((Int32.ofInt x <<< (Int32.ofInt y &&& 31)).toInt) :: r) σ n
  | .i2c => bc_pI st fun x r => K (pc + 1) lv (bc_I (x % 65536) :: r) σ n
  | .i2l => bc_pI st fun x r => K (pc + 1) lv (bc_J (Int32.ofInt x).toInt64 :: r) σ n
  | .i2f => bc_pI st fun x r => K (pc + 1) lv (bc_F (FP.i2f (Int32.ofInt x)) :: r) σ n
  | .i2d => bc_pI st fun x r => K (pc + 1) lv (bc_D (FP.i2d (Int32.ofInt x)) :: r) σ n
  | .lor => bc_pJ st fun y r => bc_pJ r fun x r => K (pc + 1) lv (bc_J (x ||| y) :: r) σ n
  | .lshl => bc_pI st fun y r => bc_pJ r fun x r => K (pc + 1) lv (bc_J (x <<< ((Int32.ofInt y).toInt64 &&& 63)) :: r) σ n
  | .lcmp => bc_pJ st fun y r => bc_pJ r fun x r => K (pc + 1) lv (bc_I (lg_cmp x y).toInt :: r) σ n
  | .fdiv => bc_pF st fun y r => bc_pF r fun x r => bc_ob (vf_n32 (FP.fdiv x y)) (K (pc + 1) lv (bc_F (FP.fdiv x y) :: r) σ n)
  | .fmul => bc_pF st fun y r => bc_pF r fun x r => bc_ob (vf_n32 (FP.fmul x y)) (K (pc + 1) lv (bc_F (FP.fmul x y) :: r) σ n)
  | .fsub => bc_pF st fun y r => bc_pF r fun x r => bc_ob (vf_n32 (FP.fsub x y)) (K (pc + 1) lv (bc_F (FP.fsub x y) :: r) σ n)
  | .fneg => bc_pF st fun x r => K (pc + 1) lv (bc_F (FP.fneg x) :: r) σ n
  | .fcmp op => bc_pF st fun y r => bc_pF r fun x r => K (pc + 1) lv (bc_I (Op.cmpValue (FP.fcmp x y) op).toInt :: r) σ n
  | .f2i => bc_pF st fun x r => K (pc + 1) lv (bc_I (FP.f2i x).toInt :: r) σ n
  | .f2d => bc_pF st fun x r => bc_ob (vf_n64 (FP.f2d x)) (K (pc + 1) lv (bc_D (FP.f2d x) :: r) σ n)
  | .ddiv => bc_pD st fun y r => bc_pD r fun x r => bc_ob (vf_n64 (FP.ddiv x y)) (K (pc + 1) lv (bc_D (FP.ddiv x y) :: r) σ n)
  | .dcmp op => bc_pD st fun y r => bc_pD r fun x r => K (pc + 1) lv (bc_I (Op.cmpValue (FP.dcmp x y) op).toInt :: r) σ n
  | .dup => bc_pA st fun v r => bif bc_wide v then False else K (pc + 1) lv (v :: v :: r) σ n
  | .pop => bc_pA st fun v r => bif bc_wide v then False else K (pc + 1) lv r σ n
  | .dup2 => bc_pA st fun v r => bc_pA r fun u r => bif bc_wide v || bc_wide u then False else K (pc + 1) lv (v :: u :: v :: u :: r) σ n
  | .goto _ => K (ts.getD 0 0) lv st σ n
  | .ifCond cd _ => bc_pI st fun x r => bc_ob (bc_in x) (bc_cmp cd x 0 (K (ts.getD 0 0) lv r σ n) (K (pc + 3) lv r σ n))
  | .if_icmp cd _ => bc_pI st fun y r => bc_pI r fun x r => bc_ob (bc_in x ∧ bc_in y) (bc_cmp cd x y (K (ts.getD 0 0) lv r σ n) (K (pc + 3) lv r σ n))
  | .tableswitch _ lo _ _ => bc_pI st fun x r => bc_ob (bc_in x) (bc_sw x (fun t => K t lv r σ n) lo (ts.drop 1) (ts.getD 0 0))
  | .getfield ix => bc_pR st fun k r => bc_fd (bc_own Y) ix k fun j _ o => (match o with | none => K (pc + 3) lv (bc_I (σ.1 k (j : Int)) :: r) σ n | some t => K (pc + 3) lv (bc_R t :: r) σ n)
  | .putfield ix => bc_pI st fun x r => bc_pR r fun k r => bc_fd (bc_own Y) ix k fun j ty o => (match o with | none => bc_fit ty x (K (pc + 3) lv r (bc_wr σ k (j : Int) x) n) | some _ => False)
  | .iaload => bc_ald 0 st (fun x r => K (pc + 1) lv (bc_I x :: r) σ n) σ
  | .baload => bc_ald 2 st (fun x r => K (pc + 1) lv (bc_I x :: r) σ n) σ
  | .caload => bc_ald 1 st (fun x r => K (pc + 1) lv (bc_I x :: r) σ n) σ
  | .iastore => bc_ast 0 st (fun σ' r => K (pc + 1) lv r σ' n) σ
  | .bastore => bc_ast 2 st (fun σ' r => K (pc + 1) lv r σ' n) σ
  | .castore => bc_ast 1 st (fun σ' r => K (pc + 1) lv r σ' n) σ
  | .aaload => bc_aald st (fun v r => K (pc + 1) lv (v :: r) σ n)
  | .laload => bc_pI st fun j r => bc_pR r fun k r => bif bc_lng k then bc_ob (j = 0) (K (pc + 1) lv (bc_J σ.2.1 :: r) σ n) else False
  | .daload => bc_pI st fun j r => bc_pR r fun k r => bif bc_dbl k then bc_ob (j = 0) (K (pc + 1) lv (bc_D σ.2.2 :: r) σ n) else False
  | .lastore => bc_pJ st fun x r => bc_pI r fun j r => bc_pR r fun k r => bif bc_lng k then bc_ob (j = 0) (K (pc + 1) lv r (σ.1, x, σ.2.2) n) else False
  | .dastore => bc_pD st fun x r => bc_pI r fun j r => bc_pR r fun k r => bif bc_dbl k then bc_ob (j = 0) (K (pc + 1) lv r (σ.1, σ.2.1, x) n) else False
  | .invokevirtual ix => (match bc_ml (bc_own Y) ix with
    | some (.inl (i, _)) => bif bc_fg i then False else bc_inv Y C (bc_yt i) (bc_np (bc_yt i) + 1) pc lv st σ n K (bc_rcv (bc_own (bc_yt i)))
    | some (.inr k) => bif Nat.ble 4 k then bc_jdk k st σ (fun r σ' => K (pc + 3) lv r σ' n) else False
    | none => False)
  | .invokestatic ix => (match bc_ml (bc_own Y) ix with
    | some (.inl (i, _)) => bif bc_fg i then bc_inv Y C (bc_yt i) (bc_np (bc_yt i)) pc lv st σ n K (fun _ => true) else False
    | some (.inr k) => bif Nat.ble 4 k then False else bc_jdk k st σ (fun r σ' => K (pc + 3) lv r σ' n)
    | none => False)
  | .new _ => bif Nat.ble (n + 1) (bc_cost Y) && Nat.beq ts.length 1 && Nat.ble st.length 4 then X (ts.getD 0 0) σ else False
  | .ireturn => bc_pI st fun x r => bc_pE r (bc_rt (bc_ret Y) x (R (some (bc_I x)) σ))
  | .lreturn => bc_pJ st fun x r => bc_pE r (bc_rq (bc_ret Y) bc_isJ (R (some (bc_J x)) σ))
  | .freturn => bc_pF st fun x r => bc_pE r (bc_rq (bc_ret Y) bc_isF (R (some (bc_F x)) σ))
  | .dreturn => bc_pD st fun x r => bc_pE r (bc_rq (bc_ret Y) bc_isD (R (some (bc_D x)) σ))
  | .areturn => bc_pR st fun x r => bc_pE r (bc_rq (bc_ret Y) bc_isO (R (some (bc_R x)) σ))
  | .return_ => bc_pE st (match bc_ret Y with | none => R none σ | some _ => False)
  | _ => False
/-- a throw at pc reaches this method: its handler, or it goes on -/
noncomputable def bc_thr (Y : bc_Y) (K : bc_KT) (X : Nat → bc_M → Prop) (pc : Nat) (lv : bc_LV) (n : Nat) (e : Nat) (σ : bc_M) : Prop := match bc_find (bc_hh Y) pc e with
  | none => X e σ
  | some h => (match bc_code Y h with
    | some (.astore k, _, _) => bif Nat.blt k (bc_nL Y) then bc_force (lv.filter (bc_keep k false)) (fun l => K (h + 2) l [] σ n) else False
    | some (.astore_n k, _, _) => bif Nat.blt k.val (bc_nL Y) then bc_force (lv.filter (bc_keep k.val false)) (fun l => K (h + 1) l [] σ n) else False
    | _ => False)
/-- up to f instructions, not beyond a cut -/
noncomputable def bc_run (Y : bc_Y) (L : bc_KT) (R : Option bc_A → bc_M → Prop) (X : Nat → bc_M → Prop) (S : bc_Y → List bc_A → bc_M → (Option bc_A → bc_M → Prop) → (Nat → bc_M → Prop) → Prop) (cuts : List Nat) (f : Nat) : bc_KT :=
  Nat.rec (motive := fun _ => bc_KT) L (fun _ K pc lv st σ n => match bc_code Y pc with
    | some (i, len, ts) => bc_stp Y (fun pc' lv' st' σ' n' => bif cuts.elem pc' then L pc' lv' st' σ' n' else K pc' lv' st' σ' n') R X
        (fun pc lv n Y' as σ k => S Y' as σ k (bc_thr Y (fun pc' lv' st' σ' n' => bif cuts.elem pc' then L pc' lv' st' σ' n' else K pc' lv' st' σ' n') X pc lv n)) i len ts pc lv st σ n
    | none => False) f
