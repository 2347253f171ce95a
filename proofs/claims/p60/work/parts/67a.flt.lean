section
def lnk_ (q : rw_t) : Nat → Int64
  | 0 => 0
  | n + 1 => if 0 < br_ q n then lnk_ q n ||| (((1 : Int64) <<< ((Int32.ofInt (8 * q (16 + 6 * (n : Int)) + q (17 + 6 * (n : Int)))).toInt64 &&& 63)) ||| ((1 : Int64) <<< ((Int32.ofInt (8 * q (17 + 6 * (n : Int)) + q (16 + 6 * (n : Int)))).toInt64 &&& 63))) else lnk_ q n
theorem lnk_s {q : rw_t} {i : Int} (h : 0 ≤ i) : lnk_ q (i + 1).toNat = if 0 < br_ q i then lnk_ q i.toNat ||| (((1 : Int64) <<< ((Int32.ofInt (8 * q (16 + 6 * i) + q (17 + 6 * i))).toInt64 &&& 63)) ||| ((1 : Int64) <<< ((Int32.ofInt (8 * q (17 + 6 * i) + q (16 + 6 * i))).toInt64 &&& 63))) else lnk_ q i.toNat := by
  obtain ⟨n, rfl⟩ : ∃ n : Nat, i = n := ⟨i.toNat, by omega⟩
  rw [show ((n : Int) + 1).toNat = n + 1 by omega, show ((n : Int)).toNat = n by omega]
  rfl
end
section
def fg3_ (z : FP.Core.Datum) : Prop := z ≠ .nan ∧ ∀ s c q, z = .fin s c q → c < 16777216 ∧ -149 ≤ q ∧ q ≤ 104
def fg6_ (z : FP.Core.Datum) : Prop := z ≠ .nan ∧ ∀ s c q, z = .fin s c q → c < 9007199254740992 ∧ -1074 ≤ q ∧ q ≤ 971
theorem fg3_inf (s : Bool) : fg3_ (.inf s) := ⟨(fun e => by cases e), (fun _ _ _ e => by cases e)⟩
theorem fg6_inf (s : Bool) : fg6_ (.inf s) := ⟨(fun e => by cases e), (fun _ _ _ e => by cases e)⟩
theorem fg3_fin {s : Bool} {c : Nat} {q : Int} (h : c < 16777216 ∧ -149 ≤ q ∧ q ≤ 104) : fg3_ (.fin s c q) := ⟨(fun e => by cases e), (fun _ _ _ e => by cases e; exact h)⟩
theorem fg6_fin {s : Bool} {c : Nat} {q : Int} (h : c < 9007199254740992 ∧ -1074 ≤ q ∧ q ≤ 971) : fg6_ (.fin s c q) := ⟨(fun e => by cases e), (fun _ _ _ e => by cases e; exact h)⟩
theorem fg3_rr (s : Bool) (a b : Nat) (e : Int) : fg3_ (FP.Core.roundRatio FP.Core.b32 s a b e) := by
  unfold FP.Core.roundRatio
  split
  · exact fg3_fin ⟨by decide, by decide, by decide⟩
  · have hq : -149 ≤ FP.Core.quantum FP.Core.b32 a b e := by
      unfold FP.Core.quantum
      have : FP.Core.Fmt.qmin FP.Core.b32 = -149 := by decide
      omega
    have hm : FP.Core.Fmt.qmax FP.Core.b32 = 104 := by decide
    have hp : 2 ^ FP.Core.b32.p = 16777216 := by decide
    unfold FP.Core.roundAt FP.Core.settle FP.Core.bound
    rw [hm, hp]
    split
    · split
      · exact fg3_fin ⟨by assumption, hq, by assumption⟩
      · exact fg3_inf _
    · split
      · exact fg3_fin ⟨by decide, by omega, by assumption⟩
      · exact fg3_inf _
theorem fg6_rr (s : Bool) (a b : Nat) (e : Int) : fg6_ (FP.Core.roundRatio FP.Core.b64 s a b e) := by
  unfold FP.Core.roundRatio
  split
  · exact fg6_fin ⟨by decide, by decide, by decide⟩
  · have hq : -1074 ≤ FP.Core.quantum FP.Core.b64 a b e := by
      unfold FP.Core.quantum
      have : FP.Core.Fmt.qmin FP.Core.b64 = -1074 := by decide
      omega
    have hm : FP.Core.Fmt.qmax FP.Core.b64 = 971 := by decide
    have hp : 2 ^ FP.Core.b64.p = 9007199254740992 := by decide
    unfold FP.Core.roundAt FP.Core.settle FP.Core.bound
    rw [hm, hp]
    split
    · split
      · exact fg6_fin ⟨by assumption, hq, by assumption⟩
      · exact fg6_inf _
    · split
      · exact fg6_fin ⟨by decide, by omega, by assumption⟩
      · exact fg6_inf _
theorem vn3_of {n : Nat} (h1 : n < 4294967296) (h2 : n % 2147483648 ≤ 2139095040) : vf_n32 (UInt32.ofNat n) := by
  have e : (UInt32.ofNat n).toNat = n := by rw [UInt32.toNat_ofNat']; exact Nat.mod_eq_of_lt h1
  show (UInt32.ofNat n) &&& 0x7fffffff ≤ 0x7f800000
  rw [UInt32.le_iff_toNat_le, UInt32.toNat_and, e]
  have h3 : n &&& (2 ^ 31 - 1) = n % 2 ^ 31 := Nat.and_two_pow_sub_one_eq_mod _ _
  have h4 : (0x7fffffff : UInt32).toNat = 2 ^ 31 - 1 := by decide
  rw [h4, h3]
  exact h2
theorem vn6_of {n : Nat} (h1 : n < 18446744073709551616) (h2 : n % 9223372036854775808 ≤ 9218868437227405312) : vf_n64 (UInt64.ofNat n) := by
  have e : (UInt64.ofNat n).toNat = n := by rw [UInt64.toNat_ofNat']; exact Nat.mod_eq_of_lt h1
  show (UInt64.ofNat n) &&& 0x7fffffffffffffff ≤ 0x7ff0000000000000
  rw [UInt64.le_iff_toNat_le, UInt64.toNat_and, e]
  have h3 : n &&& (2 ^ 63 - 1) = n % 2 ^ 63 := Nat.and_two_pow_sub_one_eq_mod _ _
  have h4 : (0x7fffffffffffffff : UInt64).toNat = 2 ^ 63 - 1 := by decide
  rw [h4, h3]
  exact h2
theorem fg3_enc {z : FP.Core.Datum} (h : fg3_ z) : vf_n32 (UInt32.ofNat (FP.Core.encode FP.Core.b32 z)) := by
  cases z with
  | nan => exact absurd rfl h.1
  | inf s => cases s <;> exact vn3_of (by decide) (by decide)
  | fin s c q =>
    obtain ⟨h1, h2, h3⟩ := h.2 s c q rfl
    have ht : FP.Core.Fmt.tails FP.Core.b32 = 8388608 := by decide
    have hx : FP.Core.Fmt.exps FP.Core.b32 = 256 := by decide
    have hm : FP.Core.Fmt.qmin FP.Core.b32 = -149 := by decide
    have hs : s.toNat ≤ 1 := by cases s <;> decide
    show vf_n32 (UInt32.ofNat (if c < FP.Core.Fmt.tails FP.Core.b32 then FP.Core.assemble FP.Core.b32 s 0 c else FP.Core.assemble FP.Core.b32 s ((q - FP.Core.Fmt.qmin FP.Core.b32).toNat + 1) (c - FP.Core.Fmt.tails FP.Core.b32)))
    unfold FP.Core.assemble
    rw [ht, hx, hm]
    split
    · exact vn3_of (by omega) (by omega)
    · have : (q - -149).toNat ≤ 253 := by omega
      exact vn3_of (by omega) (by omega)
theorem fg6_enc {z : FP.Core.Datum} (h : fg6_ z) : vf_n64 (UInt64.ofNat (FP.Core.encode FP.Core.b64 z)) := by
  cases z with
  | nan => exact absurd rfl h.1
  | inf s => cases s <;> exact vn6_of (by decide) (by decide)
  | fin s c q =>
    obtain ⟨h1, h2, h3⟩ := h.2 s c q rfl
    have ht : FP.Core.Fmt.tails FP.Core.b64 = 4503599627370496 := by decide
    have hx : FP.Core.Fmt.exps FP.Core.b64 = 2048 := by decide
    have hm : FP.Core.Fmt.qmin FP.Core.b64 = -1074 := by decide
    have hs : s.toNat ≤ 1 := by cases s <;> decide
    show vf_n64 (UInt64.ofNat (if c < FP.Core.Fmt.tails FP.Core.b64 then FP.Core.assemble FP.Core.b64 s 0 c else FP.Core.assemble FP.Core.b64 s ((q - FP.Core.Fmt.qmin FP.Core.b64).toNat + 1) (c - FP.Core.Fmt.tails FP.Core.b64)))
    unfold FP.Core.assemble
    rw [ht, hx, hm]
    split
    · exact vn6_of (by omega) (by omega)
    · have : (q - -1074).toNat ≤ 2045 := by omega
      exact vn6_of (by omega) (by omega)
theorem fd3_ {x : UInt32} (h : vf_n32 x) : FP.Core.decode FP.Core.b32 x.toNat ≠ .nan := by
  have hb := jd_n31 h
  unfold FP.Core.decode
  split
  · rename_i hE
    have e1 : x.toNat / 8388608 % 256 = 255 := hE
    have e2 : FP.Core.fieldT FP.Core.b32 x.toNat = 0 := by
      show x.toNat % 8388608 = 0
      omega
    rw [if_pos e2]
    intro q
    cases q
  · split <;> (intro q; cases q)
theorem fd6_ {x : UInt64} (h : vf_n64 x) : FP.Core.decode FP.Core.b64 x.toNat ≠ .nan := by
  have hb : x.toNat % 9223372036854775808 ≤ 9218868437227405312 := by
    have h2 : (x &&& 0x7fffffffffffffff).toNat ≤ (0x7ff0000000000000 : UInt64).toNat := UInt64.le_iff_toNat_le.mp h
    rw [UInt64.toNat_and] at h2
    have h3 : x.toNat &&& (2 ^ 63 - 1) = x.toNat % 2 ^ 63 := Nat.and_two_pow_sub_one_eq_mod _ _
    have h4 : (0x7fffffffffffffff : UInt64).toNat = 2 ^ 63 - 1 := by decide
    rw [h4, h3] at h2
    exact h2
  unfold FP.Core.decode
  split
  · rename_i hE
    have e1 : x.toNat / 4503599627370496 % 2048 = 2047 := hE
    have e2 : FP.Core.fieldT FP.Core.b64 x.toNat = 0 := by
      show x.toNat % 4503599627370496 = 0
      omega
    rw [if_pos e2]
    intro q
    cases q
  · split <;> (intro q; cases q)
def nz3_ (x : UInt32) : Bool := match FP.Core.decode FP.Core.b32 x.toNat with | .fin _ c _ => !(Nat.beq c 0) | _ => false
def nz6_ (x : UInt64) : Bool := match FP.Core.decode FP.Core.b64 x.toNat with | .fin _ c _ => !(Nat.beq c 0) | _ => false
theorem nz3_e {x : UInt32} (h : nz3_ x = true) : ∃ s c q, FP.Core.decode FP.Core.b32 x.toNat = .fin s c q ∧ c ≠ 0 := by
  unfold nz3_ at h
  cases hq : FP.Core.decode FP.Core.b32 x.toNat with
  | nan => rw [hq] at h; cases h
  | inf s => rw [hq] at h; cases h
  | fin s c q =>
    rw [hq] at h
    refine ⟨s, c, q, rfl, fun e => ?_⟩
    rw [e] at h
    cases h
theorem nz6_e {x : UInt64} (h : nz6_ x = true) : ∃ s c q, FP.Core.decode FP.Core.b64 x.toNat = .fin s c q ∧ c ≠ 0 := by
  unfold nz6_ at h
  cases hq : FP.Core.decode FP.Core.b64 x.toNat with
  | nan => rw [hq] at h; cases h
  | inf s => rw [hq] at h; cases h
  | fin s c q =>
    rw [hq] at h
    refine ⟨s, c, q, rfl, fun e => ?_⟩
    rw [e] at h
    cases h
theorem vn_fdiv {x y : UInt32} (hx : vf_n32 x) (hy : nz3_ y = true) : vf_n32 (FP.fdiv x y) := by
  obtain ⟨t, c, r, e, hc⟩ := nz3_e hy
  have hn := fd3_ hx
  show vf_n32 (UInt32.ofNat (FP.Core.encode FP.Core.b32 (FP.Core.quotient FP.Core.b32 (FP.Core.decode FP.Core.b32 x.toNat) (FP.Core.decode FP.Core.b32 y.toNat))))
  rw [e]
  cases hq : FP.Core.decode FP.Core.b32 x.toNat with
  | nan => exact absurd hq hn
  | inf s => exact fg3_enc (fg3_inf _)
  | fin s k q =>
    refine fg3_enc ?_
    show fg3_ (if c = 0 then (if k = 0 then .nan else .inf (s != t)) else FP.Core.roundRatio FP.Core.b32 (s != t) k c (q - r))
    rw [if_neg hc]
    exact fg3_rr _ _ _ _
theorem vn_ddiv {x y : UInt64} (hx : vf_n64 x) (hy : nz6_ y = true) : vf_n64 (FP.ddiv x y) := by
  obtain ⟨t, c, r, e, hc⟩ := nz6_e hy
  have hn := fd6_ hx
  show vf_n64 (UInt64.ofNat (FP.Core.encode FP.Core.b64 (FP.Core.quotient FP.Core.b64 (FP.Core.decode FP.Core.b64 x.toNat) (FP.Core.decode FP.Core.b64 y.toNat))))
  rw [e]
  cases hq : FP.Core.decode FP.Core.b64 x.toNat with
  | nan => exact absurd hq hn
  | inf s => exact fg6_enc (fg6_inf _)
  | fin s k q =>
    refine fg6_enc ?_
    show fg6_ (if c = 0 then (if k = 0 then .nan else .inf (s != t)) else FP.Core.roundRatio FP.Core.b64 (s != t) k c (q - r))
    rw [if_neg hc]
    exact fg6_rr _ _ _ _
theorem vn_fmul {x y : UInt32} (hx : vf_n32 x) (hy : nz3_ y = true) : vf_n32 (FP.fmul x y) := by
  obtain ⟨t, c, r, e, hc⟩ := nz3_e hy
  have hn := fd3_ hx
  show vf_n32 (UInt32.ofNat (FP.Core.encode FP.Core.b32 (FP.Core.round FP.Core.b32 (FP.Core.exactProduct (FP.Core.decode FP.Core.b32 x.toNat) (FP.Core.decode FP.Core.b32 y.toNat)))))
  rw [e]
  cases hq : FP.Core.decode FP.Core.b32 x.toNat with
  | nan => exact absurd hq hn
  | inf s =>
    refine fg3_enc ?_
    show fg3_ (FP.Core.round FP.Core.b32 (if c = 0 then .nan else .inf (s != t)))
    rw [if_neg hc]
    exact fg3_inf _
  | fin s k q => exact fg3_enc (fg3_rr _ _ _ _)
theorem vn_fsub {x y : UInt32} (hx : vf_n32 x) (hy : nz3_ y = true) : vf_n32 (FP.fsub x y) := by
  obtain ⟨t, c, r, e, hc⟩ := nz3_e hy
  have hn := fd3_ hx
  show vf_n32 (UInt32.ofNat (FP.Core.encode FP.Core.b32 (FP.Core.round FP.Core.b32 (FP.Core.exactSum (FP.Core.decode FP.Core.b32 x.toNat) (FP.Core.negate (FP.Core.decode FP.Core.b32 y.toNat))))))
  rw [e]
  cases hq : FP.Core.decode FP.Core.b32 x.toNat with
  | nan => exact absurd hq hn
  | inf s => exact fg3_enc (fg3_inf _)
  | fin s k q => exact fg3_enc (fg3_rr _ _ _ _)
theorem vn_if_ (a : Int32) : vf_n32 (FP.i2f a) := fg3_enc (fg3_rr _ _ _ _)
theorem vn_id_ (a : Int32) : vf_n64 (FP.i2d a) := fg6_enc (fg6_rr _ _ _ _)
theorem nz3_t : (List.range 100).all (fun k => Nat.beq k 0 || nz3_ (FP.i2f (Int32.ofInt (k : Int)))) = true := by decide +kernel
theorem nz6_t : (List.range 17).all (fun k => Nat.beq k 0 || nz6_ (FP.i2d (Int32.ofInt (k : Int)))) = true := by decide +kernel
theorem nz3_i {a : Int} (h0 : 1 ≤ a) (h1 : a ≤ 99) : nz3_ (FP.i2f (Int32.ofInt a)) = true := by
  have h := List.all_eq_true.mp nz3_t a.toNat (List.mem_range.mpr (by omega))
  rw [Bool.or_eq_true] at h
  rcases h with h | h
  · have := Nat.eq_of_beq_eq_true h
    omega
  · rw [show ((a.toNat : Nat) : Int) = a by omega] at h
    exact h
theorem nz6_i {a : Int} (h0 : 1 ≤ a) (h1 : a ≤ 16) : nz6_ (FP.i2d (Int32.ofInt a)) = true := by
  have h := List.all_eq_true.mp nz6_t a.toNat (List.mem_range.mpr (by omega))
  rw [Bool.or_eq_true] at h
  rcases h with h | h
  · have := Nat.eq_of_beq_eq_true h
    omega
  · rw [show ((a.toNat : Nat) : Int) = a by omega] at h
    exact h
theorem nz3_one : nz3_ FP.fconst1 = true := by decide +kernel
theorem nz3_two : nz3_ FP.fconst2 = true := by decide +kernel
theorem nz3_big : nz3_ 1258291200 = true := by decide +kernel
end
section
def stt_ (q : rw_t) (m : Int) : Int := if ¬ (0 ≤ m ∧ m < q 3) then 1 else if ¬ 0 < br_ q m then 2 else 0
def stv_ (q : rw_t) (m l : Int) : UInt32 := FP.fdiv (FP.i2f (Int32.ofInt l)) (FP.i2f (Int32.ofInt (br_ q m)))
theorem stt_0 {q : rw_t} {m : Int} (h : stt_ q m = 0) : (0 ≤ m ∧ m < q 3) ∧ 0 < br_ q m := by
  unfold stt_ at h
  by_cases c : 0 ≤ m ∧ m < q 3
  · rw [if_neg (fun k => k c)] at h
    by_cases e : 0 < br_ q m
    · exact ⟨c, e⟩
    · rw [if_pos e] at h
      exact absurd h (by decide)
  · rw [if_pos c] at h
    exact absurd h (by decide)
theorem stv_n {q : rw_t} (hW : wf_M q) {m : Int} (l : Int) (h : stt_ q m = 0) : vf_n32 (stv_ q m l) := by
  obtain ⟨⟨m0, m1⟩, hb⟩ := stt_0 h
  have w3 := hW.1
  have lb := br_le hW m0 (by omega : m < 16)
  exact vn_fdiv (vn_if_ _) (nz3_i (by omega) (by omega))
end
section
theorem i3i_ (x : Int32) : bc_in x.toInt := by
  have h1 := Int32.le_toInt x
  have h2 := Int32.toInt_lt x
  constructor <;> omega
section
variable {g : bc_C} {d : Nat} {σ : bc_M} {B : Int} {v : cs_t} {Rr : Option bc_A → bc_M → Prop} {X : Nat → bc_M → Prop}
theorem t_X10_strainOf {m l : Int} (hF : fa_ B σ v) (m0 : 0 ≤ m) (m1 : m < (c_r v) 3) (hb : 0 < br_ (c_r v) m) (h : Rr (some (bc_F (stv_ (c_r v) m l))) σ) : bc_Sem g (d + 2) mX10_strainOf [bc_R 0, bc_I m, bc_I l] σ Rr X := by
  have w0 := hF.1.1.2.1.1
  have lb := br_le hF.1.1.2.1 m0 (by omega : m < 16)
  refine e_X10_strainOf rfl (fun K hK => ?_)
  refine hK.1 [] 60 _ _ _ _ _ ?_
  refine t_X2_bearingOf hF.1.1.1.1 hF.1.1.2.1 m0 (by omega) ?_
  refine bc_ob_i (by first | omega | decide | (constructor <;> omega) | (constructor <;> constructor <;> omega)) ?_
  refine bc_br_i (fun c => absurd c (by omega)) (fun _ => ?_)
  refine bc_ob_i (vn_fdiv (vn_if_ _) (nz3_i (by omega) (by omega))) ?_
  exact h
theorem t_X10_strain {m l : Int} (hF : fa_ B σ v) (hm : bc_in m) (h1 : ∀ e : Nat, tq_ (c_r v) m = e + 1 → X e σ) (h0 : tq_ (c_r v) m = 0 → Rr (some (bc_F (stv_ (c_r v) m l))) σ) : bc_Sem g (d + 3) mX10_strain [bc_R 0, bc_I m, bc_I l] σ Rr X := by
  have w0 := hF.1.1.2.1.1
  have hl : 0 ≤ tq_ (c_r v) m ∧ tq_ (c_r v) m ≤ 6 := by unfold tq_; (repeat' split) <;> omega
  refine e_X10_strain rfl (fun K hK => ?_)
  refine hK.1 [] 60 _ _ _ _ _ ?_
  refine t_X10_strainFault hF hm ?_
  refine t_X10_refuse hl.1 hl.2 (fun e0 => ?_) (fun e he => h1 e he)
  have fin := h0 e0
  unfold tq_ at e0
  by_cases c : 0 ≤ m ∧ m < (c_r v) 3
  · rw [if_neg (fun k => k c)] at e0
    have lb := br_le hF.1.1.2.1 c.1 (by omega : m < 16)
    by_cases e : br_ (c_r v) m = 0
    · rw [if_pos e] at e0
      exact absurd e0 (by decide)
    · exact t_X10_strainOf hF c.1 c.2 (by omega) fin
  · rw [if_pos c] at e0
    exact absurd e0 (by decide)
theorem t_X10_meanBearing (hF : fa_ B σ v) (h1 : (c_r v) 3 = 0 → X 5 σ) (h0 : 0 < (c_r v) 3 → Rr (some (bc_D (FP.ddiv (FP.i2d (Int32.ofInt (sm_ (br_ (c_r v)) ((c_r v) 3).toNat))) (FP.i2d (Int32.ofInt ((c_r v) 3)))))) σ) : bc_Sem g (d + 3) mX10_meanBearing [bc_R 0] σ Rr X := by
  have w0 := hF.1.1.2.1.1
  have e3 := (st_M1 hF.1.1.1.1).1
  refine e_X10_meanBearing rfl (fun K hK => ?_)
  refine hK.1 [] 60 _ _ _ _ _ ?_
  refine bc_ob_i (by first | omega | decide | (constructor <;> omega) | (constructor <;> constructor <;> omega)) ?_
  refine bc_br_i (fun c => ?_) (fun c => ?_)
  rotate_left
  · have c' : ¬ σ.1 2 ((0 : Nat) : Int) = 0 := c
    refine t_X10_refuse (f := 0) (by decide) (by decide) (fun _ => ?_) (fun e he => by omega)
    refine t_X2_bearingSum hF.1.1.1.1 hF.1.1.2.1 ?_
    have fin := h0 (by omega)
    have fin2 : Rr (some (bc_D (FP.ddiv (FP.i2d (Int32.ofInt (sm_ (br_ (c_r v)) ((c_r v) 3).toNat))) (FP.i2d (Int32.ofInt (σ.1 2 ((0 : Nat) : Int))))))) σ := by
      rw [e3]
      exact fin
    refine bc_ob_i (vn_ddiv (vn_id_ _) (nz6_i (show (1 : Int) ≤ σ.1 2 ((0 : Nat) : Int) by omega) (show σ.1 2 ((0 : Nat) : Int) ≤ 16 by omega))) ?_
    exact fin2
  · have c' : σ.1 2 ((0 : Nat) : Int) = 0 := c
    refine t_X10_refuse (f := 6) (by decide) (by decide) (fun e => by omega) (fun e he => ?_)
    have ee : e = 5 := by omega
    subst ee
    exact h1 (by omega)
theorem t_X10_crackedShare (hF : fa_ B σ v) (h1 : (c_r v) 3 = 0 → X 5 σ) (h0 : 0 < (c_r v) 3 → Rr (some (bc_F (FP.fdiv (FP.i2f (Int32.ofInt (sm_ (fun k => if 0 < (c_r v) (19 + 6 * k) then 1 else 0) ((c_r v) 3).toNat))) (FP.i2f (Int32.ofInt ((c_r v) 3)))))) σ) : bc_Sem g (d + 2) mX10_crackedShare [bc_R 0] σ Rr X := by
  have w0 := hF.1.1.2.1.1
  have e3 := (st_M1 hF.1.1.1.1).1
  refine e_X10_crackedShare rfl (fun K hK => ?_)
  refine hK.1 [] 60 _ _ _ _ _ ?_
  refine bc_ob_i (by first | omega | decide | (constructor <;> omega) | (constructor <;> constructor <;> omega)) ?_
  refine bc_br_i (fun c => ?_) (fun c => ?_)
  rotate_left
  · have c' : ¬ σ.1 2 ((0 : Nat) : Int) = 0 := c
    refine t_X10_refuse (f := 0) (by decide) (by decide) (fun _ => ?_) (fun e he => by omega)
    refine t_X2_crackedCount hF.1.1.1.1 hF.1.1.2.1 ?_
    have fin := h0 (by omega)
    have fin2 : Rr (some (bc_F (FP.fdiv (FP.i2f (Int32.ofInt (sm_ (fun k => if 0 < (c_r v) (19 + 6 * k) then 1 else 0) ((c_r v) 3).toNat))) (FP.i2f (Int32.ofInt (σ.1 2 ((0 : Nat) : Int))))))) σ := by
      rw [e3]
      exact fin
    refine bc_ob_i (vn_fdiv (vn_if_ _) (nz3_i (show (1 : Int) ≤ σ.1 2 ((0 : Nat) : Int) by omega) (show σ.1 2 ((0 : Nat) : Int) ≤ 99 by omega))) ?_
    exact fin2
  · have c' : σ.1 2 ((0 : Nat) : Int) = 0 := c
    refine t_X10_refuse (f := 6) (by decide) (by decide) (fun e => by omega) (fun e he => ?_)
    have ee : e = 5 := by omega
    subst ee
    exact h1 (by omega)
end
end
section
def bl_ (x : Int64) (k : Nat) : Prop := x.toBitVec.getLsbD k = true
theorem bl_or {x y : Int64} {k : Nat} : bl_ (x ||| y) k ↔ bl_ x k ∨ bl_ y k := by
  unfold bl_
  rw [Int64.toBitVec_or, BitVec.getLsbD_or]
  simp
theorem bl_t : (List.range 64).all (fun n => (List.range 64).all (fun k => ((1 : Int64) <<< ((Int32.ofInt (n : Int)).toInt64 &&& 63)).toBitVec.getLsbD k == Nat.beq k n)) = true := by decide +kernel
theorem bl_1 {n k : Nat} (hn : n < 64) (hk : k < 64) : bl_ ((1 : Int64) <<< ((Int32.ofInt (n : Int)).toInt64 &&& 63)) k ↔ k = n := by
  have h1 := List.all_eq_true.mp bl_t n (List.mem_range.mpr hn)
  have h2 := List.all_eq_true.mp h1 k (List.mem_range.mpr hk)
  have h3 := eq_of_beq h2
  unfold bl_
  rw [h3]
  constructor
  · intro h
    exact Nat.eq_of_beq_eq_true h
  · intro h
    rw [h]
    exact Nat.beq_refl n
theorem bl_0 {k : Nat} (hk : k < 64) : ¬ bl_ 0 k := by
  unfold bl_
  rw [show (0 : Int64).toBitVec = 0#64 from rfl]
  simp
theorem bl_ext {x y : Int64} (h : ∀ k : Nat, k < 64 → (bl_ x k ↔ bl_ y k)) : x = y := by
  refine Int64.toBitVec_inj.mp (BitVec.eq_of_getLsbD_eq (fun k hk => ?_))
  have e := h k hk
  unfold bl_ at e
  cases h1 : x.toBitVec.getLsbD k <;> cases h2 : y.toBitVec.getLsbD k
  · rfl
  · rw [h1, h2] at e
    exact absurd (e.mpr rfl) (by decide)
  · rw [h1, h2] at e
    exact absurd (e.mp rfl) (by decide)
  · rfl
theorem lr_bits {f : gr_t} {b : Int64} {i k : Nat} (i8 : i < 8) (hk : k < 64) : ∀ m : Nat, m ≤ 8 → (bl_ (lr_ f b i m) k ↔ bl_ b k ∨ ∃ j : Nat, j < m ∧ k = 8 * i + j ∧ 0 < f i j)
  | 0, _ => ⟨fun h => .inl h, fun h => h.elim id (fun ⟨j, hj, _⟩ => absurd hj (Nat.not_lt_zero _))⟩
  | m + 1, hm => by
    have ih := lr_bits (f := f) (b := b) i8 hk m (by omega)
    have e : lr_ f b i (m + 1) = lb_ f i (lr_ f b i m) m := rfl
    rw [e]
    unfold lb_
    by_cases c : 0 < f i m
    · rw [if_pos c, bl_or, ih, show 8 * (i : Int) + (m : Int) = ((8 * i + m : Nat) : Int) by omega, bl_1 (by omega) hk]
      constructor
      · rintro ((h | ⟨j, h1, h2, h3⟩) | h)
        · exact .inl h
        · exact .inr ⟨j, by omega, h2, h3⟩
        · exact .inr ⟨m, by omega, h, c⟩
      · rintro (h | ⟨j, h1, h2, h3⟩)
        · exact .inl (.inl h)
        · by_cases e : j = m
          · subst e
            exact .inr h2
          · exact .inl (.inr ⟨j, by omega, h2, h3⟩)
    · rw [if_neg c, ih]
      constructor
      · rintro (h | ⟨j, h1, h2, h3⟩)
        · exact .inl h
        · exact .inr ⟨j, by omega, h2, h3⟩
      · rintro (h | ⟨j, h1, h2, h3⟩)
        · exact .inl h
        · by_cases e : j = m
          · subst e
            exact absurd h3 c
          · exact .inr ⟨j, by omega, h2, h3⟩
theorem lf_bits {f : gr_t} {k : Nat} (hk : k < 64) : ∀ n : Nat, n ≤ 8 → (bl_ (lf_ f n) k ↔ ∃ i j : Nat, (i < n ∧ j < 8) ∧ k = 8 * i + j ∧ 0 < f i j)
  | 0, _ => ⟨fun h => absurd h (bl_0 hk), fun ⟨i, j, hi, _⟩ => absurd hi.1 (Nat.not_lt_zero _)⟩
  | n + 1, hn => by
    have ih := lf_bits (f := f) hk n (by omega)
    have e : lf_ f (n + 1) = lr_ f (lf_ f n) n 8 := rfl
    rw [e, lr_bits (by omega) hk 8 (Nat.le_refl 8), ih]
    constructor
    · rintro (⟨i, j, h1, h2, h3⟩ | ⟨j, h1, h2, h3⟩)
      · exact ⟨i, j, ⟨by omega, h1.2⟩, h2, h3⟩
      · exact ⟨n, j, ⟨by omega, h1⟩, h2, h3⟩
    · rintro ⟨i, j, h1, h2, h3⟩
      by_cases e : i = n
      · subst e
        exact .inr ⟨j, h1.2, h2, h3⟩
      · exact .inl ⟨i, j, ⟨by omega, h1.2⟩, h2, h3⟩
theorem lnk_bits {q : rw_t} (hW : wf_M q) {k : Nat} (hk : k < 64) : ∀ n : Nat, (n : Int) ≤ q 3 → (bl_ (lnk_ q n) k ↔ ∃ m : Nat, m < n ∧ 0 < br_ q m ∧ ((k : Int) = 8 * q (16 + 6 * (m : Int)) + q (17 + 6 * (m : Int)) ∨ (k : Int) = 8 * q (17 + 6 * (m : Int)) + q (16 + 6 * (m : Int))))
  | 0, _ => ⟨fun h => absurd h (bl_0 hk), fun ⟨m, hm, _⟩ => absurd hm (Nat.not_lt_zero _)⟩
  | n + 1, hn => by
    have w3 := hW.1
    have ih := lnk_bits hW hk n (by omega)
    obtain ⟨g0, g1, -⟩ := hW.2 n (by omega) (by omega)
    have b1 : bl_ ((1 : Int64) <<< ((Int32.ofInt (8 * q (16 + 6 * (n : Int)) + q (17 + 6 * (n : Int)))).toInt64 &&& 63)) k ↔ (k : Int) = 8 * q (16 + 6 * (n : Int)) + q (17 + 6 * (n : Int)) := by
      have e : 8 * q (16 + 6 * (n : Int)) + q (17 + 6 * (n : Int)) = (((8 * q (16 + 6 * (n : Int)) + q (17 + 6 * (n : Int))).toNat : Nat) : Int) := by omega
      rw [e, bl_1 (by omega) hk]
      omega
    have b2 : bl_ ((1 : Int64) <<< ((Int32.ofInt (8 * q (17 + 6 * (n : Int)) + q (16 + 6 * (n : Int)))).toInt64 &&& 63)) k ↔ (k : Int) = 8 * q (17 + 6 * (n : Int)) + q (16 + 6 * (n : Int)) := by
      have e : 8 * q (17 + 6 * (n : Int)) + q (16 + 6 * (n : Int)) = (((8 * q (17 + 6 * (n : Int)) + q (16 + 6 * (n : Int))).toNat : Nat) : Int) := by omega
      rw [e, bl_1 (by omega) hk]
      omega
    show bl_ (if 0 < br_ q n then lnk_ q n ||| (((1 : Int64) <<< ((Int32.ofInt (8 * q (16 + 6 * (n : Int)) + q (17 + 6 * (n : Int)))).toInt64 &&& 63)) ||| ((1 : Int64) <<< ((Int32.ofInt (8 * q (17 + 6 * (n : Int)) + q (16 + 6 * (n : Int)))).toInt64 &&& 63))) else lnk_ q n) k ↔ _
    by_cases c : 0 < br_ q n
    · rw [if_pos c, bl_or, bl_or, ih, b1, b2]
      constructor
      · rintro (⟨m, h1, h2, h3⟩ | h)
        · exact ⟨m, by omega, h2, h3⟩
        · exact ⟨n, by omega, c, h⟩
      · rintro ⟨m, h1, h2, h3⟩
        by_cases e : m = n
        · subst e
          exact .inr h3
        · exact .inl ⟨m, by omega, h2, h3⟩
    · rw [if_neg c, ih]
      constructor
      · rintro ⟨m, h1, h2, h3⟩
        exact ⟨m, by omega, h2, h3⟩
      · rintro ⟨m, h1, h2, h3⟩
        by_cases e : m = n
        · subst e
          exact absurd h2 c
        · exact ⟨m, by omega, h2, h3⟩
theorem eq_links {q : rw_t} (hW : wf_M q) (hU : uj_ q) : lf_ (sa_ q) 8 = lnk_ q (q 3).toNat := by
  have w3 := hW.1
  refine bl_ext (fun k hk => ?_)
  rw [lf_bits hk 8 (Nat.le_refl 8), lnk_bits hW hk _ (by omega)]
  constructor
  · rintro ⟨i, j, h1, h2, h3⟩
    obtain ⟨m, m1, hm, hb⟩ := sa_ex hU w3.1 (l := 1) (by decide) (by omega : (1 : Int) ≤ sa_ q i j)
    refine ⟨m, by omega, by omega, ?_⟩
    rcases hm with ⟨a, b⟩ | ⟨a, b⟩
    · exact .inl (by omega)
    · exact .inr (by omega)
  · rintro ⟨m, h1, h2, h3⟩
    obtain ⟨g0, g1, -⟩ := hW.2 m (by omega) (by omega)
    obtain ⟨o, eo, lo⟩ := nat8 g0
    obtain ⟨p, ep, lp⟩ := nat8 g1
    rw [eo, ep] at h3
    rcases h3 with h3 | h3
    · refine ⟨o, p, ⟨lo, lp⟩, by omega, ?_⟩
      rw [sa_yes hU w3.1 (by omega) (by omega : (m : Int) < q 3) (.inl ⟨eo, ep⟩)]
      exact h2
    · refine ⟨p, o, ⟨lp, lo⟩, by omega, ?_⟩
      rw [sa_yes hU w3.1 (by omega) (by omega : (m : Int) < q 3) (.inr ⟨eo, ep⟩)]
      exact h2
end
section
def nm_ (x : UInt32) (s : Bool) (c : Nat) (q : Int) : Prop := x.toNat = (s.toNat * 256 + (q + 150).toNat) * 8388608 + (c - 8388608) ∧ 8388608 ≤ c ∧ c < 16777216 ∧ -149 ≤ q ∧ q ≤ 104
theorem nm_t : FP.Core.Fmt.tails FP.Core.b32 = 8388608 := by decide
theorem nm_x : FP.Core.Fmt.exps FP.Core.b32 = 256 := by decide
theorem nm_m : FP.Core.Fmt.qmin FP.Core.b32 = -149 := by decide
theorem nm_M : FP.Core.Fmt.qmax FP.Core.b32 = 104 := by decide
theorem nm_p : 2 ^ FP.Core.b32.p = 16777216 := by decide
theorem nm_s (s : Bool) : s.toNat ≤ 1 := by cases s <;> decide
theorem nm_bits {s : Bool} {c : Nat} {q : Int} (h1 : 8388608 ≤ c) (h3 : -149 ≤ q) : FP.Core.encode FP.Core.b32 (.fin s c q) = (s.toNat * 256 + (q + 150).toNat) * 8388608 + (c - 8388608) := by
  show (if c < FP.Core.Fmt.tails FP.Core.b32 then FP.Core.assemble FP.Core.b32 s 0 c else FP.Core.assemble FP.Core.b32 s ((q - FP.Core.Fmt.qmin FP.Core.b32).toNat + 1) (c - FP.Core.Fmt.tails FP.Core.b32)) = _
  unfold FP.Core.assemble
  rw [nm_t, nm_x, nm_m, if_neg (by omega)]
  have : (q - -149).toNat + 1 = (q + 150).toNat := by omega
  rw [this]
theorem nm_d {x : UInt32} {s : Bool} {c : Nat} {q : Int} (h : nm_ x s c q) : FP.Core.decode FP.Core.b32 x.toNat = .fin s c q := by
  obtain ⟨hn, h1, h2, h3, h4⟩ := h
  have hs := nm_s s
  have e1 : FP.Core.fieldE FP.Core.b32 x.toNat = (q + 150).toNat := by
    unfold FP.Core.fieldE
    rw [nm_t, nm_x]
    omega
  have e2 : FP.Core.fieldT FP.Core.b32 x.toNat = c - 8388608 := by
    unfold FP.Core.fieldT
    rw [nm_t]
    omega
  have e3 : FP.Core.fieldS FP.Core.b32 x.toNat = s := by
    unfold FP.Core.fieldS
    rw [nm_t, nm_x]
    have : x.toNat / 8388608 / 256 % 2 = s.toNat := by omega
    rw [this]
    cases s <;> rfl
  unfold FP.Core.decode
  rw [e1, e2, e3, nm_x, nm_t, nm_m, if_neg (by omega), if_neg (by omega)]
  have a : 8388608 + (c - 8388608) = c := by omega
  have b : (-149 : Int) + (((q + 150).toNat : Int) - 1) = q := by omega
  rw [a, b]
theorem nm_of {s : Bool} {c : Nat} {q : Int} (h1 : 8388608 ≤ c) (h2 : c < 16777216) (h3 : -149 ≤ q) (h4 : q ≤ 104) : nm_ (UInt32.ofNat (FP.Core.encode FP.Core.b32 (.fin s c q))) s c q := by
  have hs := nm_s s
  have hb := nm_bits (s := s) h1 h3
  have e : (UInt32.ofNat (FP.Core.encode FP.Core.b32 (.fin s c q))).toNat = (s.toNat * 256 + (q + 150).toNat) * 8388608 + (c - 8388608) := by
    rw [UInt32.toNat_ofNat', hb]
    exact Nat.mod_eq_of_lt (by omega)
  exact ⟨e, h1, h2, h3, h4⟩
theorem nm_near1 (n : Nat) : FP.Core.nearest n 1 = n := by
  unfold FP.Core.nearest
  rw [if_pos (by omega)]
  omega
theorem nm_nearm (c : Nat) {d : Nat} (h : 0 < d) : FP.Core.nearest (c * d) d = c := by
  unfold FP.Core.nearest
  rw [Nat.mul_mod_left, if_pos (by omega), Nat.mul_div_cancel _ h]
theorem nm_nearb (n d : Nat) : n / d ≤ FP.Core.nearest n d ∧ FP.Core.nearest n d ≤ n / d + 1 := by
  unfold FP.Core.nearest
  generalize n / d = a
  generalize n % d = b
  (repeat' split) <;> omega
theorem nm_rr {s : Bool} {n d : Nat} {e : Int} (q : Int) (h0 : n ≠ 0) (hq : FP.Core.quantum FP.Core.b32 n d e = q) {c : Nat} (hc : FP.Core.nearest (FP.Core.unitsNum n e q) (FP.Core.unitsDen d e q) = c) (h2 : c < 16777216) (h4 : q ≤ 104) : FP.Core.roundRatio FP.Core.b32 s n d e = .fin s c q := by
  unfold FP.Core.roundRatio
  rw [if_neg h0, hq]
  unfold FP.Core.roundAt
  rw [hc]
  unfold FP.Core.settle
  rw [nm_p, if_pos h2]
  unfold FP.Core.bound
  rw [nm_M, if_pos h4]
theorem nm_rr2 {s : Bool} {n d : Nat} {e : Int} (q : Int) (h0 : n ≠ 0) (hq : FP.Core.quantum FP.Core.b32 n d e = q) (h1 : 8388608 ≤ FP.Core.nearest (FP.Core.unitsNum n e q) (FP.Core.unitsDen d e q)) (h2 : FP.Core.nearest (FP.Core.unitsNum n e q) (FP.Core.unitsDen d e q) ≤ 16777216) (h4 : q ≤ 103) : ∃ (c : Nat) (q' : Int), FP.Core.roundRatio FP.Core.b32 s n d e = .fin s c q' ∧ 8388608 ≤ c ∧ c < 16777216 ∧ q ≤ q' ∧ q' ≤ q + 1 := by
  by_cases k : FP.Core.nearest (FP.Core.unitsNum n e q) (FP.Core.unitsDen d e q) < 16777216
  · exact ⟨_, q, nm_rr q h0 hq rfl k (by omega), h1, k, by omega, by omega⟩
  · refine ⟨8388608, q + 1, ?_, by decide, by decide, by omega, by omega⟩
    unfold FP.Core.roundRatio
    rw [if_neg h0, hq]
    unfold FP.Core.roundAt FP.Core.settle
    rw [nm_p, if_neg k]
    unfold FP.Core.bound
    rw [nm_M, if_pos (by omega), nm_t]
theorem nm_log {n k : Nat} (h1 : 2 ^ k ≤ n) (h2 : n < 2 ^ (k + 1)) : n.log2 = k := by
  have h0 : n ≠ 0 := by
    have := Nat.two_pow_pos k
    omega
  have a := (Nat.le_log2 h0).mpr h1
  have b := (Nat.log2_lt h0).mpr h2
  omega
theorem nm_ld (n d : Nat) (k : Int) (hk : (n.log2 : Int) - (d.log2 : Int) = k) : FP.Core.leading n d = if d * 2 ^ k.toNat ≤ n * 2 ^ (-k).toNat then k else k - 1 := by
  subst hk
  rfl
theorem nm_ld1 {n : Nat} (h : n ≠ 0) : FP.Core.leading n 1 = (n.log2 : Int) := by
  have a : Nat.log2 1 < 1 := (Nat.log2_lt (by decide)).mpr (by decide)
  rw [nm_ld n 1 (n.log2 : Int) (by omega)]
  have e1 : ((n.log2 : Nat) : Int).toNat = n.log2 := by omega
  have e2 : (-((n.log2 : Nat) : Int)).toNat = 0 := by omega
  have := Nat.log2_self_le h
  rw [e1, e2, Nat.one_mul, Nat.pow_zero, Nat.mul_one, if_pos this]
theorem nm_ld2 {c d : Nat} (c1 : 8388608 ≤ c) (c2 : c < 16777216) (d1 : 8388608 ≤ d) (d2 : d < 16777216) : FP.Core.leading c d = if d ≤ c then 0 else -1 := by
  have ec : c.log2 = 23 := nm_log (by omega) (by omega)
  have ed : d.log2 = 23 := nm_log (by omega) (by omega)
  rw [nm_ld c d 0 (by omega)]
  have e1 : ((0 : Int)).toNat = 0 := rfl
  have e2 : (-(0 : Int)).toNat = 0 := rfl
  rw [e1, e2, Nat.pow_zero, Nat.mul_one, Nat.mul_one]
  rfl
theorem nm_qu {n d : Nat} {e L : Int} (hl : FP.Core.leading n d = L) (h : -149 ≤ L + e - 23) : FP.Core.quantum FP.Core.b32 n d e = L + e - 23 := by
  unfold FP.Core.quantum
  rw [hl, nm_m]
  have : ((FP.Core.b32.p : Nat) : Int) - 1 = 23 := by decide
  rw [this]
  omega
theorem nm_exact {s : Bool} {n : Nat} {e : Int} (h0 : n ≠ 0) (h1 : n < 16777216) (he : -126 ≤ e) (he2 : e ≤ 104) : ∃ k : Nat, k ≤ 23 ∧ 8388608 ≤ n * 2 ^ k ∧ n * 2 ^ k < 16777216 ∧ FP.Core.roundRatio FP.Core.b32 s n 1 e = .fin s (n * 2 ^ k) (e - (k : Int)) := by
  have hl := Nat.log2_self_le h0
  have hu := Nat.lt_log2_self (n := n)
  have l23 : n.log2 < 24 := (Nat.log2_lt h0).mpr (by omega)
  obtain ⟨k, hk⟩ : ∃ k, n.log2 + k = 23 := ⟨23 - n.log2, by omega⟩
  have e1 : 2 ^ n.log2 * 2 ^ k = 2 ^ 23 := by rw [← Nat.pow_add, hk]
  have e2 : 2 ^ (n.log2 + 1) * 2 ^ k = 2 ^ 24 := by rw [← Nat.pow_add, show n.log2 + 1 + k = 24 by omega]
  have b1 := Nat.mul_le_mul_right (2 ^ k) hl
  have b2 := Nat.mul_lt_mul_of_pos_right hu (Nat.two_pow_pos k)
  rw [e1] at b1
  rw [e2] at b2
  have u1 : FP.Core.unitsNum n e (e - (k : Int)) = n * 2 ^ k := by
    unfold FP.Core.unitsNum
    rw [show (e - (e - (k : Int))).toNat = k by omega]
  have u2 : FP.Core.unitsDen 1 e (e - (k : Int)) = 1 := by
    unfold FP.Core.unitsDen
    rw [show (e - (k : Int) - e).toNat = 0 by omega]
  refine ⟨k, by omega, by omega, by omega, nm_rr _ h0 ((nm_qu (nm_ld1 h0) (by omega)).trans (by omega)) ?_ (by omega) (by omega)⟩
  rw [u1, u2, nm_near1]
theorem nm_i2f {a : Int} (h0 : a ≠ 0) (ha : -2147483648 ≤ a ∧ a ≤ 2147483647) : ∃ (c : Nat) (q : Int), nm_ (FP.i2f (Int32.ofInt a)) (decide (a < 0)) c q ∧ -23 ≤ q ∧ q ≤ 8 := by
  have ea : (Int32.ofInt a).toInt = a := Int32.toInt_ofInt_of_le (by omega) (by omega)
  have ez : FP.i2f (Int32.ofInt a) = UInt32.ofNat (FP.Core.encode FP.Core.b32 (FP.Core.roundRatio FP.Core.b32 (decide (a < 0)) a.natAbs 1 0)) := by
    show UInt32.ofNat (FP.Core.encode FP.Core.b32 (FP.Core.roundRatio FP.Core.b32 (decide ((Int32.ofInt a).toInt < 0)) (Int32.ofInt a).toInt.natAbs 1 0)) = _
    rw [ea]
  have n0 : a.natAbs ≠ 0 := by omega
  have n1 : a.natAbs ≤ 2147483648 := by omega
  rw [ez]
  generalize decide (a < 0) = s
  generalize a.natAbs = n at n0 n1
  by_cases h24 : n < 16777216
  · obtain ⟨k, k1, k2, k3, k4⟩ := nm_exact (s := s) (e := 0) n0 h24 (by decide) (by decide)
    rw [k4]
    exact ⟨_, _, nm_of k2 k3 (by omega) (by omega), by omega, by omega⟩
  · have hl := Nat.log2_self_le n0
    have hu := Nat.lt_log2_self (n := n)
    have l24 : 24 ≤ n.log2 := (Nat.le_log2 n0).mpr (by omega)
    have l32 : n.log2 < 32 := (Nat.log2_lt n0).mpr (by omega)
    obtain ⟨j, hj⟩ : ∃ j, n.log2 = 23 + j := ⟨n.log2 - 23, by omega⟩
    have u1 : FP.Core.unitsNum n 0 (j : Int) = n := by
      unfold FP.Core.unitsNum
      rw [show ((0 : Int) - (j : Int)).toNat = 0 by omega, Nat.pow_zero, Nat.mul_one]
    have u2 : FP.Core.unitsDen 1 0 (j : Int) = 2 ^ j := by
      unfold FP.Core.unitsDen
      rw [show ((j : Int) - 0).toNat = j by omega, Nat.one_mul]
    rw [hj, Nat.pow_add] at hl
    rw [hj, show 23 + j + 1 = 24 + j by omega, Nat.pow_add] at hu
    have pj := Nat.two_pow_pos j
    have d1 : 8388608 ≤ n / 2 ^ j := (Nat.le_div_iff_mul_le pj).mpr hl
    have d2 : n / 2 ^ j < 16777216 := (Nat.div_lt_iff_lt_mul pj).mpr hu
    have hq : FP.Core.quantum FP.Core.b32 n 1 0 = (j : Int) := (nm_qu (nm_ld1 n0) (by omega)).trans (by omega)
    have nb := nm_nearb n (2 ^ j)
    by_cases j8 : j = 8
    · have n2 : n = 2147483648 := by
        rw [j8] at hl
        omega
      have r : FP.Core.roundRatio FP.Core.b32 s n 1 0 = .fin s 8388608 (j : Int) := by
        refine nm_rr _ n0 hq ?_ (by decide) (by omega)
        rw [u1, u2, j8, n2]
        decide
      rw [r]
      exact ⟨_, _, nm_of (by decide) (by decide) (by omega) (by omega), by omega, by omega⟩
    · obtain ⟨c, q', r, c1, c2, q1, q2⟩ := nm_rr2 (s := s) (j : Int) n0 hq (by rw [u1, u2]; omega) (by rw [u1, u2]; omega) (by omega)
      rw [r]
      exact ⟨c, q', nm_of c1 c2 (by omega) (by omega), by omega, by omega⟩
theorem nm_fdiv {x y : UInt32} {s : Bool} {c d : Nat} {q r : Int} (hx : nm_ x s c q) (hy : nm_ y false d r) (h1 : -100 ≤ q - r) (h2 : q - r ≤ 100) : ∃ (c' : Nat) (q' : Int), nm_ (FP.fdiv x y) s c' q' ∧ q - r - 24 ≤ q' ∧ q' ≤ q - r - 22 := by
  have ez : FP.fdiv x y = UInt32.ofNat (FP.Core.encode FP.Core.b32 (FP.Core.quotient FP.Core.b32 (FP.Core.decode FP.Core.b32 x.toNat) (FP.Core.decode FP.Core.b32 y.toNat))) := rfl
  rw [ez, nm_d hx, nm_d hy]
  obtain ⟨-, c1, c2, -, -⟩ := hx
  obtain ⟨-, d1, d2, -, -⟩ := hy
  have eq : FP.Core.quotient FP.Core.b32 (.fin s c q) (.fin false d r) = FP.Core.roundRatio FP.Core.b32 s c d (q - r) := by
    show (if d = 0 then (if c = 0 then FP.Core.Datum.nan else .inf (s != false)) else FP.Core.roundRatio FP.Core.b32 (s != false) c d (q - r)) = _
    rw [if_neg (by omega)]
    cases s <;> rfl
  rw [eq]
  have ld := nm_ld2 c1 c2 d1 d2
  by_cases k : d ≤ c
  · rw [if_pos k] at ld
    have hq : FP.Core.quantum FP.Core.b32 c d (q - r) = q - r - 23 := (nm_qu ld (by omega)).trans (by omega)
    have u1 : FP.Core.unitsNum c (q - r) (q - r - 23) = c * 8388608 := by
      unfold FP.Core.unitsNum
      rw [show (q - r - (q - r - 23)).toNat = 23 by omega]
    have u2 : FP.Core.unitsDen d (q - r) (q - r - 23) = d := by
      unfold FP.Core.unitsDen
      rw [show (q - r - 23 - (q - r)).toNat = 0 by omega, Nat.pow_zero, Nat.mul_one]
    have b1 : 8388608 ≤ c * 8388608 / d := (Nat.le_div_iff_mul_le (by omega)).mpr (by omega)
    have b2 : c * 8388608 / d < 16777216 := (Nat.div_lt_iff_lt_mul (by omega)).mpr (by omega)
    have nb := nm_nearb (c * 8388608) d
    obtain ⟨c', q', e, f1, f2, f3, f4⟩ := nm_rr2 (s := s) (q - r - 23) (by omega) hq (by rw [u1, u2]; omega) (by rw [u1, u2]; omega) (by omega)
    rw [e]
    exact ⟨c', q', nm_of f1 f2 (by omega) (by omega), by omega, by omega⟩
  · rw [if_neg k] at ld
    have hq : FP.Core.quantum FP.Core.b32 c d (q - r) = q - r - 24 := (nm_qu ld (by omega)).trans (by omega)
    have u1 : FP.Core.unitsNum c (q - r) (q - r - 24) = c * 16777216 := by
      unfold FP.Core.unitsNum
      rw [show (q - r - (q - r - 24)).toNat = 24 by omega]
    have u2 : FP.Core.unitsDen d (q - r) (q - r - 24) = d := by
      unfold FP.Core.unitsDen
      rw [show (q - r - 24 - (q - r)).toNat = 0 by omega, Nat.pow_zero, Nat.mul_one]
    have b1 : 8388608 ≤ c * 16777216 / d := (Nat.le_div_iff_mul_le (by omega)).mpr (by omega)
    have b2 : c * 16777216 / d < 16777216 := (Nat.div_lt_iff_lt_mul (by omega)).mpr (by omega)
    have nb := nm_nearb (c * 16777216) d
    obtain ⟨c', q', e, f1, f2, f3, f4⟩ := nm_rr2 (s := s) (q - r - 24) (by omega) hq (by rw [u1, u2]; omega) (by rw [u1, u2]; omega) (by omega)
    rw [e]
    exact ⟨c', q', nm_of f1 f2 (by omega) (by omega), by omega, by omega⟩
theorem nm_half {x : UInt32} {s : Bool} {c : Nat} {q : Int} (hx : nm_ x s c q) (h1 : -148 ≤ q) : nm_ (FP.fdiv x FP.fconst2) s c (q - 1) := by
  have ez : FP.fdiv x FP.fconst2 = UInt32.ofNat (FP.Core.encode FP.Core.b32 (FP.Core.quotient FP.Core.b32 (FP.Core.decode FP.Core.b32 x.toNat) (FP.Core.decode FP.Core.b32 FP.fconst2.toNat))) := rfl
  have e2 : FP.Core.decode FP.Core.b32 FP.fconst2.toNat = .fin false 8388608 (-22) := by decide +kernel
  rw [ez, nm_d hx, e2]
  obtain ⟨-, c1, c2, -, q4⟩ := hx
  have eq : FP.Core.quotient FP.Core.b32 (.fin s c q) (.fin false 8388608 (-22)) = FP.Core.roundRatio FP.Core.b32 s c 8388608 (q - -22) := by
    show (if 8388608 = 0 then (if c = 0 then FP.Core.Datum.nan else .inf (s != false)) else FP.Core.roundRatio FP.Core.b32 (s != false) c 8388608 (q - -22)) = _
    rw [if_neg (by decide)]
    cases s <;> rfl
  have ld := nm_ld2 c1 c2 (Nat.le_refl 8388608) (by decide)
  rw [if_pos c1] at ld
  have r : FP.Core.roundRatio FP.Core.b32 s c 8388608 (q - -22) = .fin s c (q - 1) := by
    refine nm_rr _ (by omega) ((nm_qu ld (by omega)).trans (by omega)) ?_ c2 (by omega)
    have u1 : FP.Core.unitsNum c (q - -22) (q - 1) = c * 8388608 := by
      unfold FP.Core.unitsNum
      rw [show (q - -22 - (q - 1)).toNat = 23 by omega]
    have u2 : FP.Core.unitsDen 8388608 (q - -22) (q - 1) = 8388608 := by
      unfold FP.Core.unitsDen
      rw [show (q - 1 - (q - -22)).toNat = 0 by omega]
    rw [u1, u2, nm_nearm c (by decide)]
  rw [eq, r]
  exact nm_of c1 c2 (by omega) (by omega)
theorem nm_times {x y : UInt32} {s : Bool} {c : Nat} {q r : Int} (hx : nm_ x s c q) (hy : FP.Core.decode FP.Core.b32 y.toNat = .fin false 8388608 r) (h1 : -149 ≤ q + r + 23) (h2 : q + r + 23 ≤ 104) : nm_ (FP.fmul x y) s c (q + r + 23) := by
  have ez : FP.fmul x y = UInt32.ofNat (FP.Core.encode FP.Core.b32 (FP.Core.round FP.Core.b32 (FP.Core.exactProduct (FP.Core.decode FP.Core.b32 x.toNat) (FP.Core.decode FP.Core.b32 y.toNat)))) := rfl
  rw [ez, nm_d hx, hy]
  obtain ⟨-, c1, c2, -, -⟩ := hx
  have eq : FP.Core.round FP.Core.b32 (FP.Core.exactProduct (.fin s c q) (.fin false 8388608 r)) = FP.Core.roundRatio FP.Core.b32 s (c * 8388608) 1 (q + r) := by
    cases s <;> rfl
  have n0 : c * 8388608 ≠ 0 := by omega
  have lg : (c * 8388608).log2 = 46 := nm_log (by omega) (by omega)
  have hq : FP.Core.quantum FP.Core.b32 (c * 8388608) 1 (q + r) = q + r + 23 := (nm_qu (nm_ld1 n0) (by omega)).trans (by omega)
  have rr : FP.Core.roundRatio FP.Core.b32 s (c * 8388608) 1 (q + r) = .fin s c (q + r + 23) := by
    refine nm_rr _ n0 hq ?_ c2 (by omega)
    have u1 : FP.Core.unitsNum (c * 8388608) (q + r) (q + r + 23) = c * 8388608 := by
      unfold FP.Core.unitsNum
      rw [show (q + r - (q + r + 23)).toNat = 0 by omega, Nat.pow_zero, Nat.mul_one]
    have u2 : FP.Core.unitsDen 1 (q + r) (q + r + 23) = 8388608 := by
      unfold FP.Core.unitsDen
      rw [show (q + r + 23 - (q + r)).toNat = 23 by omega]
    rw [u1, u2, nm_nearm c (by decide)]
  rw [eq, rr]
  exact nm_of c1 c2 (by omega) (by omega)
theorem nm_twice {x : UInt32} {s : Bool} {c : Nat} {q : Int} (hx : nm_ x s c q) (h1 : q ≤ 103) : nm_ (FP.fmul x FP.fconst2) s c (q + 1) := by
  have h3 := hx.2.2.2.1
  have h := nm_times hx (y := FP.fconst2) (r := -22) (by decide +kernel) (by omega) (by omega)
  rw [show q + -22 + 23 = q + 1 by omega] at h
  exact h
theorem cpl_ {a b : Int} (h : a < b) : compare a b = Ordering.lt := by
  show compareOfLessAndEq a b = _
  unfold compareOfLessAndEq
  rw [if_pos h]
theorem cpe_ (a : Int) : compare a a = Ordering.eq := by
  show compareOfLessAndEq a a = _
  unfold compareOfLessAndEq
  rw [if_neg (by omega), if_pos rfl]
theorem cpg_ {a b : Int} (h : b < a) : compare a b = Ordering.gt := by
  show compareOfLessAndEq a b = _
  unfold compareOfLessAndEq
  rw [if_neg (by omega), if_neg (by omega)]
theorem nm_lt {x y : UInt32} {c : Nat} {q r : Int} (hx : nm_ x false c q) (hy : FP.Core.decode FP.Core.b32 y.toNat = .fin false 8388608 r) (h : q < r) : FP.fcmp x y = some .lt := by
  show FP.Core.order (FP.Core.decode FP.Core.b32 x.toNat) (FP.Core.decode FP.Core.b32 y.toNat) = _
  rw [nm_d hx, hy]
  show some (compare (((c * 2 ^ (q - min q r).toNat : Nat)) : Int) (((8388608 * 2 ^ (r - min q r).toNat : Nat)) : Int)) = _
  obtain ⟨-, c1, c2, -, -⟩ := hx
  obtain ⟨j, hj⟩ : ∃ j : Nat, (r - min q r).toNat = j + 1 := ⟨(r - min q r).toNat - 1, by omega⟩
  have p := Nat.two_pow_pos j
  rw [show (q - min q r).toNat = 0 by omega, hj, cpl_]
  rw [Nat.pow_succ]
  omega
theorem nm_ge {x y : UInt32} {c : Nat} {q r : Int} (hx : nm_ x false c q) (hy : FP.Core.decode FP.Core.b32 y.toNat = .fin false 8388608 r) (h : r ≤ q) : FP.fcmp x y = some .eq ∨ FP.fcmp x y = some .gt := by
  show FP.Core.order (FP.Core.decode FP.Core.b32 x.toNat) (FP.Core.decode FP.Core.b32 y.toNat) = _ ∨ FP.Core.order (FP.Core.decode FP.Core.b32 x.toNat) (FP.Core.decode FP.Core.b32 y.toNat) = _
  rw [nm_d hx, hy]
  show some (compare (((c * 2 ^ (q - min q r).toNat : Nat)) : Int) (((8388608 * 2 ^ (r - min q r).toNat : Nat)) : Int)) = _ ∨ some (compare (((c * 2 ^ (q - min q r).toNat : Nat)) : Int) (((8388608 * 2 ^ (r - min q r).toNat : Nat)) : Int)) = _
  obtain ⟨-, c1, c2, -, -⟩ := hx
  have p := Nat.two_pow_pos (q - min q r).toNat
  rw [show (r - min q r).toNat = 0 by omega]
  have b : 8388608 ≤ c * 2 ^ (q - min q r).toNat := by
    have := Nat.mul_le_mul c1 p
    omega
  generalize c * 2 ^ (q - min q r).toNat = z at b
  rw [Nat.pow_zero, Nat.mul_one]
  by_cases k : z = 8388608
  · left
    rw [k, cpe_]
  · right
    rw [cpg_ (by omega)]
theorem nm_f2i {y : UInt32} {c : Nat} {q v : Int} (hd : FP.Core.decode FP.Core.b32 y.toNat = .fin false c q) (ht : FP.Core.truncate false c q = v) (h0 : 0 ≤ v) (h1 : v ≤ 2147483647) : FP.f2i y = Int32.ofInt v := by
  show FP.Core.toI (FP.Core.decode FP.Core.b32 y.toNat) = _
  rw [hd]
  unfold FP.Core.toI FP.Core.toInt
  have m : max (-2 ^ 31) (min (2 ^ 31 - 1) v) = v := by omega
  show Int32.ofInt (max (-2 ^ 31) (min (2 ^ 31 - 1) (FP.Core.truncate false c q))) = _
  rw [ht, m]
theorem nm_frac {x : UInt32} {c : Nat} (hx : nm_ x false c (-23)) : FP.f2i (FP.fmul (FP.fsub x FP.fconst1) 1258291200) = Int32.ofInt ((c - 8388608 : Nat) : Int) := by
  have e1 : FP.Core.decode FP.Core.b32 FP.fconst1.toNat = .fin false 8388608 (-23) := by decide +kernel
  have eb : FP.Core.decode FP.Core.b32 (1258291200 : UInt32).toNat = .fin false 8388608 0 := by decide +kernel
  have ez : FP.fsub x FP.fconst1 = UInt32.ofNat (FP.Core.encode FP.Core.b32 (FP.Core.round FP.Core.b32 (FP.Core.exactSum (FP.Core.decode FP.Core.b32 x.toNat) (FP.Core.negate (FP.Core.decode FP.Core.b32 FP.fconst1.toNat))))) := rfl
  have hd := nm_d hx
  obtain ⟨-, c1, c2, -, -⟩ := hx
  by_cases k : c = 8388608
  · have z : FP.fsub x FP.fconst1 = 0 := by
      rw [ez, hd, e1, k]
      decide +kernel
    rw [z, k]
    decide +kernel
  · have v : FP.Core.sumUnits false c (-23) true 8388608 (-23) (min (-23) (-23)) = ((c - 8388608 : Nat) : Int) := by
      show (((c * 2 ^ ((-23 : Int) - min (-23) (-23)).toNat : Nat)) : Int) + -(((8388608 * 2 ^ ((-23 : Int) - min (-23) (-23)).toNat : Nat)) : Int) = _
      rw [show ((-23 : Int) - min (-23) (-23)).toNat = 0 from rfl]
      omega
    have sg : FP.Core.sumSign false true ((c - 8388608 : Nat) : Int) = false := by
      unfold FP.Core.sumSign
      rw [if_neg (by omega)]
      exact decide_eq_false (by omega)
    have es : FP.Core.round FP.Core.b32 (FP.Core.exactSum (.fin false c (-23)) (FP.Core.negate (.fin false 8388608 (-23)))) = FP.Core.roundRatio FP.Core.b32 false (c - 8388608) 1 (-23) := by
      show FP.Core.roundRatio FP.Core.b32 (FP.Core.sumSign false true (FP.Core.sumUnits false c (-23) true 8388608 (-23) (min (-23) (-23)))) (FP.Core.sumUnits false c (-23) true 8388608 (-23) (min (-23) (-23))).natAbs 1 (min (-23) (-23)) = _
      have mm : min (-23 : Int) (-23) = -23 := by decide
      rw [v, sg, mm, Int.natAbs_natCast]
    obtain ⟨j, j1, j2, j3, j4⟩ := nm_exact (s := false) (n := c - 8388608) (e := -23) (by omega) (by omega) (by decide) (by decide)
    have hs : nm_ (FP.fsub x FP.fconst1) false ((c - 8388608) * 2 ^ j) (-23 - (j : Int)) := by
      rw [ez, hd, e1, es, j4]
      exact nm_of j2 j3 (by omega) (by omega)
    have hm := nm_times hs eb (by omega) (by omega)
    have t : FP.Core.truncate false ((c - 8388608) * 2 ^ j) (-23 - (j : Int) + 0 + 23) = ((c - 8388608 : Nat) : Int) := by
      show ((((c - 8388608) * 2 ^ j) * 2 ^ (-23 - (j : Int) + 0 + 23).toNat / 2 ^ (-(-23 - (j : Int) + 0 + 23)).toNat : Nat) : Int) = _
      rw [show (-23 - (j : Int) + 0 + 23).toNat = 0 by omega, show (-(-23 - (j : Int) + 0 + 23)).toNat = j by omega, Nat.pow_zero, Nat.mul_one, Nat.mul_div_cancel _ (Nat.two_pow_pos j)]
    exact nm_f2i (nm_d hm) t (by omega) (by omega)
theorem bo_n {E : Nat} (h : E < 4294967296) : (Int32.ofInt (E : Int)).toBitVec.toNat = E := by
  show (BitVec.ofInt 32 (E : Int)).toNat = E
  rw [BitVec.toNat_ofInt]
  omega
theorem bo_s (s : Bool) : (Int32.ofInt (if s then -2147483648 else 0)).toBitVec.toNat = s.toNat * 2147483648 := by cases s <;> decide
theorem bits_or {s : Bool} {E w : Nat} (hE : E < 256) (hw : w < 8388608) : ((Int32.ofInt (if s then -2147483648 else 0) ||| (Int32.ofInt (E : Int) <<< (Int32.ofInt 23 &&& 31))) ||| Int32.ofInt (w : Int)) = (UInt32.ofNat ((s.toNat * 256 + E) * 8388608 + w)).toInt32 := by
  have k : (Int32.ofInt 23 &&& 31) = 23 := by decide
  have hs := nm_s s
  rw [k]
  refine Int32.toBitVec_inj.mp (BitVec.eq_of_toNat_eq ?_)
  have a1 : (Int32.ofInt (E : Int) <<< (23 : Int32)).toBitVec = (Int32.ofInt (E : Int)).toBitVec <<< 23 := rfl
  have a2 : (UInt32.ofNat ((s.toNat * 256 + E) * 8388608 + w)).toInt32.toBitVec.toNat = (s.toNat * 256 + E) * 8388608 + w := by
    show (UInt32.ofNat ((s.toNat * 256 + E) * 8388608 + w)).toNat = _
    rw [UInt32.toNat_ofNat']
    exact Nat.mod_eq_of_lt (by omega)
  have b1 := bo_n (E := E) (by omega)
  have b2 := bo_n (E := w) (by omega)
  have b3 := bo_s s
  rw [a2]
  clear a2
  show ((Int32.ofInt (if s then -2147483648 else 0)).toBitVec ||| (Int32.ofInt (E : Int) <<< (23 : Int32)).toBitVec ||| (Int32.ofInt (w : Int)).toBitVec).toNat = _
  rw [a1]
  clear a1
  rw [BitVec.toNat_or, BitVec.toNat_or, BitVec.toNat_shiftLeft, b1, b2, b3, Nat.shiftLeft_eq]
  have c1 : E * 2 ^ 23 % 2 ^ 32 = E * 2 ^ 23 := Nat.mod_eq_of_lt (by omega)
  rw [c1, Nat.or_assoc]
  have c2 : E * 2 ^ 23 ||| w = E * 2 ^ 23 + w := by
    rw [← Nat.shiftLeft_eq]
    exact (Nat.shiftLeft_add_eq_or_of_lt (by omega : w < 2 ^ 23) E).symm
  have c3 : s.toNat * 2147483648 ||| (E * 2 ^ 23 + w) = s.toNat * 2147483648 + (E * 2 ^ 23 + w) := by
    have := Nat.shiftLeft_add_eq_or_of_lt (by omega : E * 2 ^ 23 + w < 2 ^ 31) s.toNat
    rw [Nat.shiftLeft_eq] at this
    exact this.symm
  rw [c2, c3]
  omega
end
section
theorem nm_vn {x : UInt32} {s : Bool} {c : Nat} {q : Int} (h : nm_ x s c q) : vf_n32 x := by
  have hs := nm_s s
  obtain ⟨hn, h1, h2, h3, h4⟩ := h
  have := vn3_of (n := x.toNat) (by omega) (by omega)
  rwa [UInt32.ofNat_toNat] at this
theorem nm_ng {x : UInt32} {c : Nat} {q : Int} (h : nm_ x true c q) : nm_ (FP.fneg x) false c q := by
  obtain ⟨hn, h1, h2, h3, h4⟩ := h
  have e1 : true.toNat = 1 := rfl
  have e0 : false.toNat = 0 := rfl
  refine ⟨?_, h1, h2, h3, h4⟩
  have e : (FP.fneg x).toNat = x.toNat ^^^ 2 ^ 31 := by
    show (x ^^^ 0x80000000).toNat = _
    rw [UInt32.toNat_xor]
    rfl
  have a := Nat.xor_mod_two_pow (a := x.toNat) (b := 2 ^ 31) (n := 31)
  have b := Nat.xor_div_two_pow (a := x.toNat) (b := 2 ^ 31) (n := 31)
  rw [e1] at hn
  rw [← e, Nat.mod_self, Nat.xor_zero] at a
  rw [← e, Nat.div_self (Nat.two_pow_pos 31), show x.toNat / 2 ^ 31 = 1 by omega] at b
  have c0 : 1 ^^^ 1 = 0 := by decide
  rw [c0] at b
  rw [e0]
  omega
theorem nm_0 {x : UInt32} {s : Bool} {c : Nat} {q : Int} (h : nm_ x s c q) : FP.fcmp x FP.fconst0 = if s then some .lt else some .gt := by
  have hz : FP.Core.decode FP.Core.b32 FP.fconst0.toNat = .fin false 0 (-149) := by decide +kernel
  show FP.Core.order (FP.Core.decode FP.Core.b32 x.toNat) (FP.Core.decode FP.Core.b32 FP.fconst0.toNat) = _
  rw [nm_d h, hz]
  obtain ⟨-, h1, -, -, -⟩ := h
  have p := Nat.two_pow_pos (q - min q (-149)).toNat
  have b := Nat.mul_le_mul h1 p
  have z : (0 : Nat) * 2 ^ ((-149 : Int) - min q (-149)).toNat = 0 := Nat.zero_mul _
  cases s with
  | true =>
    show some (compare (-((c * 2 ^ (q - min q (-149)).toNat : Nat) : Int)) (((0 * 2 ^ ((-149 : Int) - min q (-149)).toNat : Nat)) : Int)) = _
    rw [z, cpl_ (by omega)]
    rfl
  | false =>
    show some (compare ((c * 2 ^ (q - min q (-149)).toNat : Nat) : Int) (((0 * 2 ^ ((-149 : Int) - min q (-149)).toNat : Nat)) : Int)) = _
    rw [z, cpg_ (by omega)]
    rfl
section
variable {g : bc_C} {d : Nat} {σ : bc_M} {v : cs_t} {Rr : Option bc_A → bc_M → Prop} {X : Nat → bc_M → Prop} {B : Int}
theorem t_X10_bitsN {x : UInt32} {s : Bool} {c : Nat} {q : Int} (hx : nm_ x s c q) (hq : -55 ≤ q ∧ q ≤ 9) (h : Rr (some (bc_I x.toInt32.toInt)) σ) : bc_Sem g (d + 1) mX10_bitsOf [bc_F x] σ Rr X := by
  have d1 : FP.Core.decode FP.Core.b32 FP.fconst1.toNat = .fin false 8388608 (-23) := by decide +kernel
  have d2 : FP.Core.decode FP.Core.b32 FP.fconst2.toNat = .fin false 8388608 (-22) := by decide +kernel
  have nx := nm_vn hx
  obtain ⟨hn, c1, c2, -, -⟩ := id hx
  refine e_X10_bitsOf rfl (fun K hK => ?_)
  have E : ∀ (y : UInt32) (i e : Int), nm_ y false c (-23) → e = q + 150 → K 96 [(0, bc_F x), (1, bc_I (if s then -2147483648 else 0)), (2, bc_F y), (3, bc_I e), (4, bc_I i)] [] σ 0 := by
    intro y i e hy he
    have hv := nm_vn hy
    have fin : Rr (some (bc_I (Int32.ofInt (Int32.ofInt (if s then -2147483648 else 0) ||| Int32.ofInt (Int32.ofInt e <<< (Int32.ofInt 23 &&& 31)).toInt).toInt ||| Int32.ofInt (FP.f2i (FP.fmul (FP.fsub y FP.fconst1) 1258291200)).toInt).toInt)) σ := by
      rw [nm_frac hy, Int32.ofInt_toInt, Int32.ofInt_toInt, Int32.ofInt_toInt, he]
      have b := bits_or (s := s) (E := (q + 150).toNat) (w := c - 8388608) (by omega) (by omega)
      rw [show (((q + 150).toNat : Nat) : Int) = q + 150 by omega, ← hn, UInt32.ofNat_toNat] at b
      rw [b]
      exact h
    refine hK.1 [] 60 _ _ _ _ _ ?_
    refine bc_ob_i (vn_fsub hv nz3_one) ?_
    refine bc_ob_i (vn_fmul (vn_fsub hv nz3_one) nz3_big) ?_
    exact fin
  have L2 : ∀ i : Int, ∀ (p e : Int) (y : UInt32), 0 ≤ i → i ≤ 32 → nm_ y false c p → p ≤ -23 → -23 - p + i ≤ 32 → e = q + 127 - p → K 70 [(0, bc_F x), (1, bc_I (if s then -2147483648 else 0)), (2, bc_F y), (3, bc_I e), (4, bc_I i)] [] σ 0 := by
    refine up_ind 32 (fun i hi p e y i0 i1 hy p0 p1 he => ?_) (fun i hi ih p e y i0 i1 hy p0 p1 he => ?_)
    · have p2 : p = -23 := by omega
      rw [p2] at hy
      refine hK.1 [70, 96] 60 _ _ _ _ _ ?_
      refine bc_ob_i (by first | omega | decide | (constructor <;> omega) | (constructor <;> constructor <;> omega)) ?_
      refine bc_br_i (fun c => absurd c (by omega)) (fun _ => ?_)
      exact E y i e hy (by omega)
    · have vy := nm_vn hy
      refine hK.1 [70, 96] 60 _ _ _ _ _ ?_
      refine bc_ob_i (by first | omega | decide | (constructor <;> omega) | (constructor <;> constructor <;> omega)) ?_
      refine bc_br_i (fun _ => ?_) (fun c => absurd (by omega) c)
      refine bc_ob_i (i3i_ _) ?_
      by_cases k : p = -23
      · have f := nm_ge hy d1 (by omega)
        have f0 : ¬ (Op.cmpValue (FP.fcmp y FP.fconst1) .g).toInt < 0 := by
          rcases f with f | f <;> rw [f] <;> decide
        refine bc_br_i (fun c => absurd c f0) (fun _ => ?_)
        rw [k] at hy
        exact E y i e hy (by omega)
      · have f := nm_lt hy d1 (by omega)
        have f0 : (Op.cmpValue (FP.fcmp y FP.fconst1) .g).toInt < 0 := by
          rw [f]
          decide
        refine bc_br_i (fun _ => ?_) (fun c => absurd f0 c)
        refine bc_ob_i (vn_fmul vy nz3_two) ?_
        exact ih (p + 1) _ _ (by omega) (by omega) (nm_twice hy (by omega)) (by omega) (by omega) (by omega)
  have L1 : ∀ i : Int, ∀ (p e : Int) (y : UInt32), 0 ≤ i → i ≤ 32 → nm_ y false c p → p ≤ q → (-23 ≤ p → p + 23 + i ≤ 32) → (p < -23 → p = q) → e = q + 127 - p → K 41 [(0, bc_F x), (1, bc_I (if s then -2147483648 else 0)), (2, bc_F y), (3, bc_I e), (4, bc_I i)] [] σ 0 := by
    refine up_ind 32 (fun i hi p e y i0 i1 hy p0 p1 p2 he => ?_) (fun i hi ih p e y i0 i1 hy p0 p1 p2 he => ?_)
    · refine hK.1 [41, 70] 60 _ _ _ _ _ ?_
      refine bc_ob_i (by first | omega | decide | (constructor <;> omega) | (constructor <;> constructor <;> omega)) ?_
      refine bc_br_i (fun c => absurd c (by omega)) (fun _ => ?_)
      exact L2 0 p e y (by decide) (by decide) hy (by omega) (by omega) he
    · have vy := nm_vn hy
      refine hK.1 [41, 70] 60 _ _ _ _ _ ?_
      refine bc_ob_i (by first | omega | decide | (constructor <;> omega) | (constructor <;> constructor <;> omega)) ?_
      refine bc_br_i (fun _ => ?_) (fun c => absurd (by omega) c)
      refine bc_ob_i (i3i_ _) ?_
      by_cases k : p < -22
      · have f := nm_lt hy d2 (by omega)
        have f0 : (Op.cmpValue (FP.fcmp y FP.fconst2) .l).toInt < 0 := by
          rw [f]
          decide
        refine bc_br_i (fun _ => ?_) (fun c => absurd f0 c)
        exact L2 0 p e y (by decide) (by decide) hy (by omega) (by omega) he
      · have f := nm_ge hy d2 (by omega)
        have f0 : ¬ (Op.cmpValue (FP.fcmp y FP.fconst2) .l).toInt < 0 := by
          rcases f with f | f <;> rw [f] <;> decide
        refine bc_br_i (fun c => absurd c f0) (fun _ => ?_)
        refine bc_ob_i (vn_fdiv vy nz3_two) ?_
        exact ih (p - 1) _ _ (by omega) (by omega) (nm_half hy (by omega)) (by omega) (by omega) (by omega) (by omega)
  have z := nm_0 hx
  have S1 : K 21 [(0, bc_F x)] [bc_I (if s then -2147483648 else 0)] σ 0 := by
    have S2 : ∀ y : UInt32, nm_ y false c q → K 34 [(0, bc_F x), (1, bc_I (if s then -2147483648 else 0))] [bc_F y] σ 0 := by
      intro y hy
      refine hK.1 [41] 60 _ _ _ _ _ ?_
      exact L1 0 q 127 y (by decide) (by decide) hy (by omega) (by omega) (by omega) (by omega)
    refine hK.1 [34] 60 _ _ _ _ _ ?_
    refine bc_ob_i (i3i_ _) ?_
    cases s with
    | true =>
      have f0 : (Op.cmpValue (FP.fcmp x FP.fconst0) .g).toInt < 0 := by
        rw [z]
        decide
      refine bc_br_i (fun _ => ?_) (fun c => absurd f0 c)
      exact S2 _ (nm_ng hx)
    | false =>
      have f0 : ¬ (Op.cmpValue (FP.fcmp x FP.fconst0) .g).toInt < 0 := by
        rw [z]
        decide
      refine bc_br_i (fun c => absurd c f0) (fun _ => ?_)
      exact S2 x hx
  refine hK.1 [21] 60 _ _ _ _ _ ?_
  refine bc_ob_i (i3i_ _) ?_
  have f1 : ¬ (Op.cmpValue (FP.fcmp x FP.fconst0) .l).toInt = 0 := by
    rw [z]
    cases s <;> decide
  refine bc_br_i (fun c => absurd c f1) (fun _ => ?_)
  refine bc_ob_i (i3i_ _) ?_
  cases s with
  | true =>
    have f0 : (Op.cmpValue (FP.fcmp x FP.fconst0) .g).toInt < 0 := by
      rw [z]
      decide
    exact bc_br_i (fun _ => S1) (fun c => absurd f0 c)
  | false =>
    have f0 : ¬ (Op.cmpValue (FP.fcmp x FP.fconst0) .g).toInt < 0 := by
      rw [z]
      decide
    exact bc_br_i (fun c => absurd c f0) (fun _ => S1)
end
end
section
theorem stv_0t : (List.range 100).all (fun k => Nat.beq k 0 || (FP.fdiv (FP.i2f (Int32.ofInt 0)) (FP.i2f (Int32.ofInt (k : Int))) == 0)) = true := by decide +kernel
theorem stv_nm {q : rw_t} {m l : Int} (hl : bc_in l) (b0 : 1 ≤ br_ q m) (b1 : br_ q m ≤ 99) : stv_ q m l = 0 ∨ ∃ (s : Bool) (c : Nat) (r : Int), nm_ (stv_ q m l) s c r ∧ -55 ≤ r ∧ r ≤ 9 := by
  unfold stv_
  by_cases z : l = 0
  · left
    have h := List.all_eq_true.mp stv_0t (br_ q m).toNat (List.mem_range.mpr (by omega))
    rw [Bool.or_eq_true] at h
    rcases h with h | h
    · have := Nat.eq_of_beq_eq_true h
      omega
    · rw [show (((br_ q m).toNat : Nat) : Int) = br_ q m by omega] at h
      rw [z]
      exact eq_of_beq h
  · right
    obtain ⟨l0, l1⟩ := hl
    obtain ⟨c, r, h, r0, r1⟩ := nm_i2f z ⟨by omega, by omega⟩
    obtain ⟨c2, r2, h2, r3, r4⟩ := nm_i2f (a := br_ q m) (by omega) ⟨by omega, by omega⟩
    rw [decide_eq_false (by omega : ¬ br_ q m < 0)] at h2
    obtain ⟨c3, r5, h3, r6, r7⟩ := nm_fdiv h h2 (by omega) (by omega)
    exact ⟨_, c3, r5, h3, by omega, by omega⟩
section
variable {g : bc_C} {d : Nat} {σ : bc_M} {v : cs_t} {Rr : Option bc_A → bc_M → Prop} {X : Nat → bc_M → Prop} {B : Int}
theorem t_X10_bitsV {x : UInt32} (hx : x = 0 ∨ ∃ (s : Bool) (c : Nat) (r : Int), nm_ x s c r ∧ -55 ≤ r ∧ r ≤ 9) (h : Rr (some (bc_I x.toInt32.toInt)) σ) : bc_Sem g (d + 1) mX10_bitsOf [bc_F x] σ Rr X := by
  rcases hx with hx | ⟨s, c, r, hx, h1, h2⟩
  · have z : (0 : UInt32).toInt32.toInt = 0 := by decide
    rw [hx, z] at h
    refine e_X10_bitsOf rfl (fun K hK => ?_)
    refine hK.1 [21] 60 _ _ _ _ _ ?_
    refine bc_ob_i (i3i_ _) ?_
    have f1 : (Op.cmpValue (FP.fcmp x FP.fconst0) .l).toInt = 0 := by
      rw [hx]
      decide +kernel
    refine bc_br_i (fun _ => ?_) (fun c => absurd f1 c)
    exact h
  · exact t_X10_bitsN hx ⟨h1, h2⟩ h
theorem t_X10_strainBitsV {m l : Int} (hF : fa_ B σ v) (hm : bc_in m) (hl9 : bc_in l) (h1 : ∀ e : Nat, tq_ (c_r v) m = e + 1 → X e σ) (h0 : tq_ (c_r v) m = 0 → Rr (some (bc_I (stv_ (c_r v) m l).toInt32.toInt)) σ) : bc_Sem g (d + 3) mX10_strainBits [bc_R 0, bc_I m, bc_I l] σ Rr X := by
  have w0 := hF.1.1.2.1.1
  have hl : 0 ≤ tq_ (c_r v) m ∧ tq_ (c_r v) m ≤ 6 := by unfold tq_; (repeat' split) <;> omega
  refine e_X10_strainBits rfl (fun K hK => ?_)
  refine hK.1 [] 60 _ _ _ _ _ ?_
  refine t_X10_strainFault hF hm ?_
  refine t_X10_refuse hl.1 hl.2 (fun e0 => ?_) (fun e he => h1 e he)
  have fin := h0 e0
  unfold tq_ at e0
  by_cases c : 0 ≤ m ∧ m < (c_r v) 3
  · rw [if_neg (fun k => k c)] at e0
    have lb := br_le hF.1.1.2.1 c.1 (by omega : m < 16)
    by_cases e : br_ (c_r v) m = 0
    · rw [if_pos e] at e0
      exact absurd e0 (by decide)
    · refine t_X10_strainOf hF c.1 c.2 (by omega) ?_
      exact t_X10_bitsV (stv_nm hl9 (by omega) (by omega)) fin
  · rw [if_pos c] at e0
    exact absurd e0 (by decide)
end
theorem dcr_ {z : UInt64} (h : vf_n64 z) : (Op.cmpValue (FP.dcmp z z) .l).toInt = 0 := by
  have hn := fd6_ h
  show (Op.cmpValue (FP.Core.order (FP.Core.decode FP.Core.b64 z.toNat) (FP.Core.decode FP.Core.b64 z.toNat)) .l).toInt = 0
  cases hq : FP.Core.decode FP.Core.b64 z.toNat with
  | nan => exact absurd hq hn
  | inf s => cases s <;> decide
  | fin s c q =>
    have e : FP.Core.order (.fin s c q) (.fin s c q) = some .eq := by
      show some (compare (FP.Core.signed s (FP.Core.inUnits c q (min q q))) (FP.Core.signed s (FP.Core.inUnits c q (min q q)))) = _
      rw [cpe_]
    rw [e]
    decide
end
