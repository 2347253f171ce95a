section BDCEL
variable {sc : Nat × (Nat → Int32)} {g : bc_C} {D : List bd_O} {d : Nat} {σ : bc_M} {Rr : Option bc_A → List bd_O → bc_M → Prop}
theorem bd_in32 (x : Int32) : bc_in x.toInt := ⟨Int32.le_toInt x, by have := Int32.toInt_lt x; omega⟩
/-- a cell of the script, mixed: a number -/
theorem t_L_cell {i : Int} (hsc : sc.1 < 2000) (h0 : 0 ≤ i ∧ i ≤ 100000) (h : ∀ x : Int, bc_in x → Rr (some (bc_I x)) D σ) : bd_Sem sc g D (d + 1) mL_cell [bc_R 999, bc_I i] σ Rr := by
  refine m_L_cell hsc rfl (fun K hK => ?_)
  refine hK.1 [] 60 _ _ _ _ _ _ _ ?_
  refine bc_ob_i ⟨⟨by omega, by omega⟩, ⟨by omega, by omega⟩⟩ ?_
  refine bc_br_i (fun c => ?_) (fun c => ?_)
  · refine bc_ob_i ⟨by omega, by omega⟩ ?_
    exact bd_rt (h _ (bd_in32 _))
  · exact bd_rt (h _ (bd_in32 _))
theorem bd_sh8 (y : Int32) : 0 ≤ ((y.toUInt32 >>> ((Int32.ofInt 8).toUInt32 &&& Int32.toUInt32 31)).toInt32).toInt ∧ ((y.toUInt32 >>> ((Int32.ofInt 8).toUInt32 &&& Int32.toUInt32 31)).toInt32).toInt ≤ 16777215 := by
  have e : (Int32.ofInt 8).toUInt32 &&& Int32.toUInt32 31 = 8 := by decide
  rw [e]
  have h1 : (y.toUInt32 >>> 8).toNat = y.toUInt32.toNat / 256 := by
    rw [UInt32.toNat_shiftRight]
    show y.toUInt32.toNat >>> 8 = _
    rw [Nat.shiftRight_eq_div_pow]
  have h2 := UInt32.toNat_lt y.toUInt32
  have h3 : ((y.toUInt32 >>> 8).toInt32).toInt = ((y.toUInt32 >>> 8).toNat : Int) := by
    show (BitVec.toInt _) = _
    rw [BitVec.toInt_eq_toNat_of_lt (by show 2 * (y.toUInt32 >>> 8).toNat < 2 ^ 32; omega)]
    rfl
  omega
/-- a number below m -/
theorem t_L_pick {i m : Int} (hsc : sc.1 < 2000) (h0 : 0 ≤ i ∧ i ≤ 100000) (hm : 0 < m ∧ m ≤ 2147483647) (h : ∀ x : Int, 0 ≤ x → x < m → Rr (some (bc_I x)) D σ) : bd_Sem sc g D (d + 2) mL_pick [bc_R 999, bc_I i, bc_I m] σ Rr := by
  refine m_L_pick hsc rfl (fun K hK => ?_)
  refine hK.1 [] 60 _ _ _ _ _ _ _ ?_
  refine t_L_cell hsc h0 (fun x hx => ?_)
  have h8 := bd_sh8 (Int32.ofInt x)
  refine bc_ob_i ⟨⟨h8.1, by omega⟩, by omega, by omega⟩ ?_
  exact bd_rt (h _ (Int.emod_nonneg _ (by omega)) (Int.emod_lt_of_pos _ (by omega)))
end BDCEL
