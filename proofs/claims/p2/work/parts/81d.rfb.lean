/-! floats: what is no NaN stays none -/
def fg3_ (z : FP.Core.Datum) : Prop := z ≠ .nan ∧ ∀ s c q, z = .fin s c q → c < 16777216 ∧ -149 ≤ q ∧ q ≤ 104
def fg6_ (z : FP.Core.Datum) : Prop := z ≠ .nan ∧ ∀ s c q, z = .fin s c q → c < 9007199254740992 ∧ -1074 ≤ q ∧ q ≤ 971
theorem fg3_inf (s : Bool) : fg3_ (.inf s) := ⟨(fun e => by cases e), (fun _ _ _ e => by cases e)⟩
theorem fg6_inf (s : Bool) : fg6_ (.inf s) := ⟨(fun e => by cases e), (fun _ _ _ e => by cases e)⟩
theorem fg3_fin {s : Bool} {c : Nat} {q : Int} (h : c < 16777216 ∧ -149 ≤ q ∧ q ≤ 104) : fg3_ (.fin s c q) := ⟨(fun e => by cases e), (fun _ _ _ e => by cases e; exact h)⟩
theorem fg6_fin {s : Bool} {c : Nat} {q : Int} (h : c < 9007199254740992 ∧ -1074 ≤ q ∧ q ≤ 971) : fg6_ (.fin s c q) := ⟨(fun e => by cases e), (fun _ _ _ e => by cases e; exact h)⟩
theorem fg3_rr (s : Bool) (a b : Nat) (e : Int) : fg3_ (FP.Core.roundRatio FP.Core.b32 s a b e) := by
  unfold FP.Core.roundRatio
  split
  · exact fg3_fin ⟨by decide, by decide, by decide⟩
  · have hq : -149 ≤ FP.Core.quantum FP.Core.b32 a b e := by
      unfold FP.Core.quantum
      have : FP.Core.Fmt.qmin FP.Core.b32 = -149 := by decide
      omega
    have hm : FP.Core.Fmt.qmax FP.Core.b32 = 104 := by decide
    have hp : 2 ^ FP.Core.b32.p = 16777216 := by decide
    unfold FP.Core.roundAt FP.Core.settle FP.Core.bound
    rw [hm, hp]
    split
    · split
      · exact fg3_fin ⟨by assumption, hq, by assumption⟩
      · exact fg3_inf _
    · split
      · exact fg3_fin ⟨by decide, by omega, by assumption⟩
      · exact fg3_inf _
theorem fg6_rr (s : Bool) (a b : Nat) (e : Int) : fg6_ (FP.Core.roundRatio FP.Core.b64 s a b e) := by
  unfold FP.Core.roundRatio
  split
  · exact fg6_fin ⟨by decide, by decide, by decide⟩
  · have hq : -1074 ≤ FP.Core.quantum FP.Core.b64 a b e := by
      unfold FP.Core.quantum
      have : FP.Core.Fmt.qmin FP.Core.b64 = -1074 := by decide
      omega
    have hm : FP.Core.Fmt.qmax FP.Core.b64 = 971 := by decide
    have hp : 2 ^ FP.Core.b64.p = 9007199254740992 := by decide
    unfold FP.Core.roundAt FP.Core.settle FP.Core.bound
    rw [hm, hp]
    split
    · split
      · exact fg6_fin ⟨by assumption, hq, by assumption⟩
      · exact fg6_inf _
    · split
      · exact fg6_fin ⟨by decide, by omega, by assumption⟩
      · exact fg6_inf _
theorem vn3_of {n : Nat} (h1 : n < 4294967296) (h2 : n % 2147483648 ≤ 2139095040) : vf_n32 (UInt32.ofNat n) := by
  have e : (UInt32.ofNat n).toNat = n := by rw [UInt32.toNat_ofNat']; exact Nat.mod_eq_of_lt h1
  show (UInt32.ofNat n) &&& 0x7fffffff ≤ 0x7f800000
  rw [UInt32.le_iff_toNat_le, UInt32.toNat_and, e]
  have h3 : n &&& (2 ^ 31 - 1) = n % 2 ^ 31 := Nat.and_two_pow_sub_one_eq_mod _ _
  have h4 : (0x7fffffff : UInt32).toNat = 2 ^ 31 - 1 := by decide
  rw [h4, h3]
  exact h2
theorem vn6_of {n : Nat} (h1 : n < 18446744073709551616) (h2 : n % 9223372036854775808 ≤ 9218868437227405312) : vf_n64 (UInt64.ofNat n) := by
  have e : (UInt64.ofNat n).toNat = n := by rw [UInt64.toNat_ofNat']; exact Nat.mod_eq_of_lt h1
  show (UInt64.ofNat n) &&& 0x7fffffffffffffff ≤ 0x7ff0000000000000
  rw [UInt64.le_iff_toNat_le, UInt64.toNat_and, e]
  have h3 : n &&& (2 ^ 63 - 1) = n % 2 ^ 63 := Nat.and_two_pow_sub_one_eq_mod _ _
  have h4 : (0x7fffffffffffffff : UInt64).toNat = 2 ^ 63 - 1 := by decide
  rw [h4, h3]
  exact h2
theorem fg3_enc {z : FP.Core.Datum} (h : fg3_ z) : vf_n32 (UInt32.ofNat (FP.Core.encode FP.Core.b32 z)) := by
  cases z with
  | nan => exact absurd rfl h.1
  | inf s => cases s <;> exact vn3_of (by decide) (by decide)
  | fin s c q =>
    obtain ⟨h1, h2, h3⟩ := h.2 s c q rfl
    have ht : FP.Core.Fmt.tails FP.Core.b32 = 8388608 := by decide
    have hx : FP.Core.Fmt.exps FP.Core.b32 = 256 := by decide
    have hm : FP.Core.Fmt.qmin FP.Core.b32 = -149 := by decide
    have hs : s.toNat ≤ 1 := by cases s <;> decide
    show vf_n32 (UInt32.ofNat (if c < FP.Core.Fmt.tails FP.Core.b32 then FP.Core.assemble FP.Core.b32 s 0 c else FP.Core.assemble FP.Core.b32 s ((q - FP.Core.Fmt.qmin FP.Core.b32).toNat + 1) (c - FP.Core.Fmt.tails FP.Core.b32)))
    unfold FP.Core.assemble
    rw [ht, hx, hm]
    split
    · exact vn3_of (by omega) (by omega)
    · have : (q - -149).toNat ≤ 253 := by omega
      exact vn3_of (by omega) (by omega)
theorem fg6_enc {z : FP.Core.Datum} (h : fg6_ z) : vf_n64 (UInt64.ofNat (FP.Core.encode FP.Core.b64 z)) := by
  cases z with
  | nan => exact absurd rfl h.1
  | inf s => cases s <;> exact vn6_of (by decide) (by decide)
  | fin s c q =>
    obtain ⟨h1, h2, h3⟩ := h.2 s c q rfl
    have ht : FP.Core.Fmt.tails FP.Core.b64 = 4503599627370496 := by decide
    have hx : FP.Core.Fmt.exps FP.Core.b64 = 2048 := by decide
    have hm : FP.Core.Fmt.qmin FP.Core.b64 = -1074 := by decide
    have hs : s.toNat ≤ 1 := by cases s <;> decide
    show vf_n64 (UInt64.ofNat (if c < FP.Core.Fmt.tails FP.Core.b64 then FP.Core.assemble FP.Core.b64 s 0 c else FP.Core.assemble FP.Core.b64 s ((q - FP.Core.Fmt.qmin FP.Core.b64).toNat + 1) (c - FP.Core.Fmt.tails FP.Core.b64)))
    unfold FP.Core.assemble
    rw [ht, hx, hm]
    split
    · exact vn6_of (by omega) (by omega)
    · have : (q - -1074).toNat ≤ 2045 := by omega
      exact vn6_of (by omega) (by omega)
theorem fd3_ {x : UInt32} (h : vf_n32 x) : FP.Core.decode FP.Core.b32 x.toNat ≠ .nan := by
  have hb := jd_n31 h
  unfold FP.Core.decode
  split
  · rename_i hE
    have e1 : x.toNat / 8388608 % 256 = 255 := hE
    have e2 : FP.Core.fieldT FP.Core.b32 x.toNat = 0 := by
      show x.toNat % 8388608 = 0
      omega
    rw [if_pos e2]
    intro q
    cases q
  · split <;> (intro q; cases q)
theorem fd6_ {x : UInt64} (h : vf_n64 x) : FP.Core.decode FP.Core.b64 x.toNat ≠ .nan := by
  have hb : x.toNat % 9223372036854775808 ≤ 9218868437227405312 := by
    have h2 : (x &&& 0x7fffffffffffffff).toNat ≤ (0x7ff0000000000000 : UInt64).toNat := UInt64.le_iff_toNat_le.mp h
    rw [UInt64.toNat_and] at h2
    have h3 : x.toNat &&& (2 ^ 63 - 1) = x.toNat % 2 ^ 63 := Nat.and_two_pow_sub_one_eq_mod _ _
    have h4 : (0x7fffffffffffffff : UInt64).toNat = 2 ^ 63 - 1 := by decide
    rw [h4, h3] at h2
    exact h2
  unfold FP.Core.decode
  split
  · rename_i hE
    have e1 : x.toNat / 4503599627370496 % 2048 = 2047 := hE
    have e2 : FP.Core.fieldT FP.Core.b64 x.toNat = 0 := by
      show x.toNat % 4503599627370496 = 0
      omega
    rw [if_pos e2]
    intro q
    cases q
  · split <;> (intro q; cases q)
/-- a number other than zero -/
def nz3_ (x : UInt32) : Bool := match FP.Core.decode FP.Core.b32 x.toNat with | .fin _ c _ => !(Nat.beq c 0) | _ => false
def nz6_ (x : UInt64) : Bool := match FP.Core.decode FP.Core.b64 x.toNat with | .fin _ c _ => !(Nat.beq c 0) | _ => false
theorem nz3_e {x : UInt32} (h : nz3_ x = true) : ∃ s c q, FP.Core.decode FP.Core.b32 x.toNat = .fin s c q ∧ c ≠ 0 := by
  unfold nz3_ at h
  cases hq : FP.Core.decode FP.Core.b32 x.toNat with
  | nan => rw [hq] at h; cases h
  | inf s => rw [hq] at h; cases h
  | fin s c q =>
    rw [hq] at h
    refine ⟨s, c, q, rfl, fun e => ?_⟩
    rw [e] at h
    cases h
theorem nz6_e {x : UInt64} (h : nz6_ x = true) : ∃ s c q, FP.Core.decode FP.Core.b64 x.toNat = .fin s c q ∧ c ≠ 0 := by
  unfold nz6_ at h
  cases hq : FP.Core.decode FP.Core.b64 x.toNat with
  | nan => rw [hq] at h; cases h
  | inf s => rw [hq] at h; cases h
  | fin s c q =>
    rw [hq] at h
    refine ⟨s, c, q, rfl, fun e => ?_⟩
    rw [e] at h
    cases h
theorem vn_fdiv {x y : UInt32} (hx : vf_n32 x) (hy : nz3_ y = true) : vf_n32 (FP.fdiv x y) := by
  obtain ⟨t, c, r, e, hc⟩ := nz3_e hy
  have hn := fd3_ hx
  show vf_n32 (UInt32.ofNat (FP.Core.encode FP.Core.b32 (FP.Core.quotient FP.Core.b32 (FP.Core.decode FP.Core.b32 x.toNat) (FP.Core.decode FP.Core.b32 y.toNat))))
  rw [e]
  cases hq : FP.Core.decode FP.Core.b32 x.toNat with
  | nan => exact absurd hq hn
  | inf s => exact fg3_enc (fg3_inf _)
  | fin s k q =>
    refine fg3_enc ?_
    show fg3_ (if c = 0 then (if k = 0 then .nan else .inf (s != t)) else FP.Core.roundRatio FP.Core.b32 (s != t) k c (q - r))
    rw [if_neg hc]
    exact fg3_rr _ _ _ _
theorem vn_ddiv {x y : UInt64} (hx : vf_n64 x) (hy : nz6_ y = true) : vf_n64 (FP.ddiv x y) := by
  obtain ⟨t, c, r, e, hc⟩ := nz6_e hy
  have hn := fd6_ hx
  show vf_n64 (UInt64.ofNat (FP.Core.encode FP.Core.b64 (FP.Core.quotient FP.Core.b64 (FP.Core.decode FP.Core.b64 x.toNat) (FP.Core.decode FP.Core.b64 y.toNat))))
  rw [e]
  cases hq : FP.Core.decode FP.Core.b64 x.toNat with
  | nan => exact absurd hq hn
  | inf s => exact fg6_enc (fg6_inf _)
  | fin s k q =>
    refine fg6_enc ?_
    show fg6_ (if c = 0 then (if k = 0 then .nan else .inf (s != t)) else FP.Core.roundRatio FP.Core.b64 (s != t) k c (q - r))
    rw [if_neg hc]
    exact fg6_rr _ _ _ _
theorem vn_fmul {x y : UInt32} (hx : vf_n32 x) (hy : nz3_ y = true) : vf_n32 (FP.fmul x y) := by
  obtain ⟨t, c, r, e, hc⟩ := nz3_e hy
  have hn := fd3_ hx
  show vf_n32 (UInt32.ofNat (FP.Core.encode FP.Core.b32 (FP.Core.round FP.Core.b32 (FP.Core.exactProduct (FP.Core.decode FP.Core.b32 x.toNat) (FP.Core.decode FP.Core.b32 y.toNat)))))
  rw [e]
  cases hq : FP.Core.decode FP.Core.b32 x.toNat with
  | nan => exact absurd hq hn
  | inf s =>
    refine fg3_enc ?_
    show fg3_ (FP.Core.round FP.Core.b32 (if c = 0 then .nan else .inf (s != t)))
    rw [if_neg hc]
    exact fg3_inf _
  | fin s k q => exact fg3_enc (fg3_rr _ _ _ _)
theorem vn_fsub {x y : UInt32} (hx : vf_n32 x) (hy : nz3_ y = true) : vf_n32 (FP.fsub x y) := by
  obtain ⟨t, c, r, e, hc⟩ := nz3_e hy
  have hn := fd3_ hx
  show vf_n32 (UInt32.ofNat (FP.Core.encode FP.Core.b32 (FP.Core.round FP.Core.b32 (FP.Core.exactSum (FP.Core.decode FP.Core.b32 x.toNat) (FP.Core.negate (FP.Core.decode FP.Core.b32 y.toNat))))))
  rw [e]
  cases hq : FP.Core.decode FP.Core.b32 x.toNat with
  | nan => exact absurd hq hn
  | inf s => exact fg3_enc (fg3_inf _)
  | fin s k q => exact fg3_enc (fg3_rr _ _ _ _)
theorem vn_fneg {x : UInt32} (hx : vf_n32 x) : vf_n32 (FP.fneg x) := by
  have hb := jd_n31 hx
  show (x ^^^ 0x80000000) &&& 0x7fffffff ≤ 0x7f800000
  rw [UInt32.le_iff_toNat_le, UInt32.toNat_and, UInt32.toNat_xor]
  have h3 : (x.toNat ^^^ (0x80000000 : UInt32).toNat) &&& (2 ^ 31 - 1) = (x.toNat ^^^ (0x80000000 : UInt32).toNat) % 2 ^ 31 := Nat.and_two_pow_sub_one_eq_mod _ _
  have h4 : (0x7fffffff : UInt32).toNat = 2 ^ 31 - 1 := by decide
  have h5 : (0x80000000 : UInt32).toNat % 2 ^ 31 = 0 := by decide
  rw [h4, h3, Nat.xor_mod_two_pow, h5, Nat.xor_zero]
  exact hb
theorem vn_if_ (a : Int32) : vf_n32 (FP.i2f a) := fg3_enc (fg3_rr _ _ _ _)
theorem vn_id_ (a : Int32) : vf_n64 (FP.i2d a) := fg6_enc (fg6_rr _ _ _ _)
theorem vn_f2d {x : UInt32} (hx : vf_n32 x) : vf_n64 (FP.f2d x) := by
  have hn := fd3_ hx
  have hf : FP.Core.fIsNaN x = false := decide_eq_false hn
  unfold FP.f2d
  rw [hf, if_neg Bool.false_ne_true]
  show vf_n64 (UInt64.ofNat (FP.Core.encode FP.Core.b64 (FP.Core.round FP.Core.b64 (FP.Core.decode FP.Core.b32 x.toNat))))
  cases hq : FP.Core.decode FP.Core.b32 x.toNat with
  | nan => exact absurd hq hn
  | inf s => exact fg6_enc (fg6_inf _)
  | fin s c q => exact fg6_enc (fg6_rr _ _ _ _)
theorem nz3_t : (List.range 100).all (fun k => Nat.beq k 0 || nz3_ (FP.i2f (Int32.ofInt (k : Int)))) = true := by decide +kernel
theorem nz6_t : (List.range 17).all (fun k => Nat.beq k 0 || nz6_ (FP.i2d (Int32.ofInt (k : Int)))) = true := by decide +kernel
theorem nz3_i {a : Int} (h0 : 1 ≤ a) (h1 : a ≤ 99) : nz3_ (FP.i2f (Int32.ofInt a)) = true := by
  have h := List.all_eq_true.mp nz3_t a.toNat (List.mem_range.mpr (by omega))
  rw [Bool.or_eq_true] at h
  rcases h with h | h
  · have := Nat.eq_of_beq_eq_true h
    omega
  · rw [show ((a.toNat : Nat) : Int) = a by omega] at h
    exact h
theorem nz6_i {a : Int} (h0 : 1 ≤ a) (h1 : a ≤ 16) : nz6_ (FP.i2d (Int32.ofInt a)) = true := by
  have h := List.all_eq_true.mp nz6_t a.toNat (List.mem_range.mpr (by omega))
  rw [Bool.or_eq_true] at h
  rcases h with h | h
  · have := Nat.eq_of_beq_eq_true h
    omega
  · rw [show ((a.toNat : Nat) : Int) = a by omega] at h
    exact h
theorem nz3_one : nz3_ FP.fconst1 = true := by decide +kernel
theorem nz3_two : nz3_ FP.fconst2 = true := by decide +kernel
theorem nz3_big : nz3_ 1258291200 = true := by decide +kernel
theorem vn_f0 : vf_n32 FP.fconst0 := by unfold vf_n32; decide
