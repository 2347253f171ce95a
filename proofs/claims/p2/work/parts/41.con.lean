/-! whether members connect two joints, mirrored on bits -/
abbrev jo_ (x y : Int) : Int := (Int32.ofInt x ||| Int32.ofInt y).toInt
abbrev ja_ (x y : Int) : Int := (Int32.ofInt x &&& Int32.ofInt y).toInt
abbrev jb_ (i : Int) : Int := (Int32.ofInt 1 <<< (Int32.ofInt i &&& 31)).toInt
theorem j_in (x : Int32) : bc_in x.toInt := by
  have h1 := Int32.le_toInt x
  have h2 := Int32.toInt_lt x
  constructor <;> omega
def je_ (r : rw_t) (l u m x : Int) : Int := if m ≠ u ∧ ja_ x (jo_ (jb_ (r (16 + 6 * m))) (jb_ (r (17 + 6 * m)))) ≠ 0 ∧ l ≤ br_ r m then jo_ x (jo_ (jb_ (r (16 + 6 * m))) (jb_ (r (17 + 6 * m)))) else x
def jf_ (r : rw_t) (l u x : Int) (k : Nat) : Int := fo_ (fun m x => je_ r l u m x) x k
def jh_ (r : rw_t) (l u a : Int) (k : Nat) : Int := fo_ (fun _ x => jf_ r l u x (r 3).toNat) (jb_ a) k
/-- whether joints a and b are connected over members that bear l, the member u left out -/
def jc_ (r : rw_t) (l u a b : Int) : Int := if ja_ (jh_ r l u a 7) (jb_ b) = 0 then 0 else 1
theorem jf_in {r : rw_t} {l u x : Int} (h : bc_in x) (k : Nat) : bc_in (jf_ r l u x k) := by
  unfold jf_
  refine fo_inv (n := k) (P := fun x => bc_in x) h (fun m x _ _ hx => ?_) k (Nat.le_refl _)
  unfold je_
  split
  · exact j_in _
  · exact hx
theorem jh_in {r : rw_t} {l u a : Int} (k : Nat) : bc_in (jh_ r l u a k) := by
  unfold jh_
  exact fo_inv (n := k) (P := fun x => bc_in x) (j_in _) (fun m x _ _ hx => jf_in hx _) k (Nat.le_refl _)
section CON
variable {g : bc_C} {d : Nat} {σ : bc_M} {r : rw_t} {Rr : Option bc_A → bc_M → Prop} {X : Nat → bc_M → Prop}
theorem t_X2_connects {a b l u : Int} (hS : st_M σ 1 r) (hW : wf_M r) (hl : bc_in l) (hu : bc_in u) (h : Rr (some (bc_I (jc_ r l u a b))) σ) : bc_Sem g (d + 2) mX2_connects [bc_R 2, bc_I a, bc_I b, bc_I l, bc_I u] σ Rr X := by
  obtain ⟨q0, q1⟩ := hl
  obtain ⟨u0, u1⟩ := hu
  obtain ⟨c1, c2⟩ := st_M1 hS
  have w1 := hW.1
  refine e_X2_connects rfl (fun K hK => ?_)
  have L : ∀ i : Int, ∀ z x, 1 ≤ i → i ≤ 8 → x = jh_ r l u a (i - 1).toNat → K 8 ([(0, bc_R 2), (1, bc_I a), (2, bc_I b), (3, bc_I l), (4, bc_I u), (5, bc_I x), (6, bc_I i)] ++ z) [] σ 0 := by
    refine up_ind 8 (fun i hi z x h0 h1 h2 => ?_) (fun i hi ih z x h0 h1 h2 => ?_)
    · refine hK.2 _ _ [(0, bc_R 2), (1, bc_I a), (2, bc_I b), (3, bc_I l), (4, bc_I u), (5, bc_I x), (6, bc_I i)] _ _ _ (ls_ _ _) ?_
      have e : i = 8 := by omega
      have e7 : x = jh_ r l u a 7 := by rw [h2, e]; rfl
      unfold jc_ at h
      rw [← e7] at h
      refine hK.1 [8] 60 _ _ _ _ _ ?_
      refine bc_ob_i (by omega) ?_
      refine bc_br_i (fun c => by omega) (fun c => ?_)
      refine bc_ob_i (j_in _) ?_
      refine bc_br_i (fun c => ?_) (fun c => ?_)
      · refine bc_ob_i (by decide) ?_
        exact rt_ h (if_pos c).symm
      · refine bc_ob_i (by decide) ?_
        exact rt_ h (if_neg c).symm
    · refine hK.2 _ _ [(0, bc_R 2), (1, bc_I a), (2, bc_I b), (3, bc_I l), (4, bc_I u), (5, bc_I x), (6, bc_I i)] _ _ _ (ls_ _ _) ?_
      have es : jh_ r l u a (i + 1 - 1).toNat = jf_ r l u (jh_ r l u a (i - 1).toNat) (r 3).toNat := by
        rw [show i + 1 - 1 = (i - 1) + 1 by omega]
        exact fo_s (by omega)
      have hx : bc_in x := by rw [h2]; exact jh_in _
      rw [← h2] at es
      have L1 : ∀ j : Int, ∀ z y, 0 ≤ j → j ≤ r 3 → y = jf_ r l u x j.toNat → K 18 ([(0, bc_R 2), (1, bc_I a), (2, bc_I b), (3, bc_I l), (4, bc_I u), (5, bc_I y), (6, bc_I i), (7, bc_I j)] ++ z) [] σ 0 := by
        refine up_ind (r 3) (fun j hj z y j0 j1 j2 => ?_) (fun j hj jh z y j0 j1 j2 => ?_)
        · refine hK.2 _ _ [(0, bc_R 2), (1, bc_I a), (2, bc_I b), (3, bc_I l), (4, bc_I u), (5, bc_I y), (6, bc_I i), (7, bc_I j)] _ _ _ (ls_ _ _) ?_
          refine hK.1 [8, 18] 60 _ _ _ _ _ ?_
          refine bc_ob_i (by omega) ?_
          refine bc_br_i (fun c => by omega) (fun c => ?_)
          have e : j = r 3 := by omega
          exact ih [(7, bc_I j)] y (by omega) (by omega) (by rw [es, j2, e])
        · refine hK.2 _ _ [(0, bc_R 2), (1, bc_I a), (2, bc_I b), (3, bc_I l), (4, bc_I u), (5, bc_I y), (6, bc_I i), (7, bc_I j)] _ _ _ (ls_ _ _) ?_
          obtain ⟨e1, e2, e3, e4, e5, e6⟩ := c2 j j0 (by omega)
          have hb := br_le hW j0 (by omega)
          have ej : jf_ r l u x (j + 1).toNat = je_ r l u j (jf_ r l u x j.toNat) := fo_s j0
          rw [← j2] at ej
          have nxt : ∀ z' y', y' = je_ r l u j y → K 18 ([(0, bc_R 2), (1, bc_I a), (2, bc_I b), (3, bc_I l), (4, bc_I u), (5, bc_I y'), (6, bc_I i), (7, bc_I (j + 1))] ++ z') [] σ 0 := fun z' y' e => jh z' y' (by omega) (by omega) (by rw [ej, e])
          unfold je_ at nxt
          rw [← e1, ← e2] at nxt
          refine hK.1 [8, 18] 60 _ _ _ _ _ ?_
          refine bc_ob_i (by omega) ?_
          refine bc_br_i (fun c => ?_) (fun c => by omega)
          refine bc_ob_i (by omega) ?_
          refine bc_ob_i (by omega) ?_
          refine bc_ob_i (by omega) ?_
          refine bc_br_i (fun c => ?_) (fun c => ?_)
          · exact nxt [(8, _)] _ (if_neg (fun q => q.1 c)).symm
          · refine bc_ob_i (j_in _) ?_
            refine bc_br_i (fun c2 => ?_) (fun c2 => ?_)
            · exact nxt [(8, _)] _ (if_neg (fun q => q.2.1 c2)).symm
            · refine t_X2_bearingOf hS hW j0 (by omega) ?_
              refine bc_ob_i ⟨by omega, by omega⟩ ?_
              refine bc_br_i (fun c3 => ?_) (fun c3 => ?_)
              · exact nxt [(8, _)] _ (if_neg (fun q => by have := q.2.2; omega)).symm
              · exact nxt [(8, _)] _ (if_pos ⟨c, c2, by omega⟩).symm
      refine hK.1 [8, 18] 60 _ _ _ _ _ ?_
      refine bc_ob_i (by omega) ?_
      refine bc_br_i (fun c => ?_) (fun c => by omega)
      exact L1 0 [] x (by omega) (by omega) rfl
  refine hK.1 [8] 40 _ _ _ _ _ ?_
  exact L 1 [] _ (by omega) (by omega) rfl
end CON
