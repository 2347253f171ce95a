/-! the reference: a day goes by -/
theorem vf_S (r : rw_t) (n : Nat) : vf_ r (n + 1) = vs_ (vf_ r n) n := rfl
theorem wv_f {B : Int} {r : rw_t} (hd : wd_ B r) : ∀ n : Nat, (n : Int) ≤ r 4 → wv_ B r n (vf_ r n)
  | 0, _ => wv_0 hd
  | n + 1, h => wv_s hd (by omega) (wv_f hd n (by omega))
/-- the reference's row and the kept ones so far, beside the class's row -/
def rk6_ (R P : rw_t) (kp : Int) : Prop := (∀ j : Int, j ≠ 6 → R j = P j) ∧ P 6 = R 6 + kp
theorem rk6_kept {R P : rw_t} {kp u : Int} (h : rk6_ R P kp) (hu : u ≤ P 1) : rk6_ (up_ (up_ (up_ R 1 (R 1 - u)) 9 (R 9 + u)) 7 (R 7 + 0)) (sg_ P u) (kp + 1) := by
  have a1 := h.1 1 (by decide)
  have a9 := h.1 9 (by decide)
  have a7 := h.1 7 (by decide)
  unfold sg_
  rw [if_pos hu]
  refine ⟨fun j hj => ?_, ?_⟩
  · have := h.1 j hj
    simp only [up_]
    by_cases j1 : j = 1
    · subst j1; simp; omega
    by_cases j9 : j = 9
    · subst j9; simp; omega
    by_cases j7 : j = 7
    · subst j7; simp; omega
    simp [j1, j9, j7, hj, this]
  · have := h.2
    simp only [up_]
    simp
    omega
theorem rk6_broken {R P : rw_t} {kp u : Int} (h : rk6_ R P kp) (hu : ¬ u ≤ P 1) : rk6_ (up_ (up_ (up_ R 1 (R 1 - 0)) 9 (R 9 + 0)) 7 (R 7 + 1)) (sg_ P u) (kp + 0) := by
  have a1 := h.1 1 (by decide)
  have a9 := h.1 9 (by decide)
  have a7 := h.1 7 (by decide)
  unfold sg_
  rw [if_neg hu]
  refine ⟨fun j hj => ?_, ?_⟩
  · have := h.1 j hj
    simp only [up_]
    by_cases j1 : j = 1
    · subst j1; simp; omega
    by_cases j9 : j = 9
    · subst j9; simp; omega
    by_cases j7 : j = 7
    · subst j7; simp; omega
    simp [j1, j9, j7, this]
  · have := h.2
    simp only [up_]
    simp
    omega
theorem rk6_same {R P : rw_t} {kp : Int} (h : rk6_ R P kp) : rk6_ (up_ (up_ (up_ R 1 (R 1 - 0)) 9 (R 9 + 0)) 7 (R 7 + 0)) P (kp + 0) := by
  have a1 := h.1 1 (by decide)
  have a9 := h.1 9 (by decide)
  have a7 := h.1 7 (by decide)
  refine ⟨fun j hj => ?_, ?_⟩
  · have := h.1 j hj
    simp only [up_]
    by_cases j1 : j = 1
    · subst j1; simp; omega
    by_cases j9 : j = 9
    · subst j9; simp; omega
    by_cases j7 : j = 7
    · subst j7; simp; omega
    simp [j1, j9, j7, this]
  · have := h.2
    simp only [up_]
    simp
    omega
theorem rk6_up {R P : rw_t} {kp i v w : Int} (h : rk6_ R P kp) (hi : i ≠ 6) (e : v = w) : rk6_ (up_ R i v) (up_ P i w) kp := by
  refine ⟨fun j hj => ?_, ?_⟩
  · have := h.1 j hj
    simp only [up_]
    split
    · exact e
    · exact this
  · have := h.2
    simp only [up_]
    rw [if_neg (by omega), if_neg (by omega)]
    exact this
section REF
variable {g : bc_C} {d : Nat} {σ : bc_M} {q b : rw_t} {h : List rw_t} {Rr : Option bc_A → bc_M → Prop} {X : Nat → bc_M → Prop} {B : Int}
theorem t_X11_ofVow {k j : Int} (p : Int) (hN : nw_ σ 219 q) (hk : 0 ≤ k ∧ k < 8) (hj : 0 ≤ j ∧ j ≤ 2) (e : p = 112 + j) (f : Rr (some (bc_I (q (p + 3 * k)))) σ) : bc_Sem g (d + 1) mX11_ofVow [bc_R 218, bc_I k, bc_I j] σ Rr X := by
  refine e_X11_ofVow rfl (fun K hK => ?_)
  refine hK.1 [] 60 _ _ _ _ _ ?_
  refine bc_ob_i (by omega) ?_
  exact rt_ f ((hN _ (by omega) (by omega)).trans (by rw [e]; congr 1; omega))
end REF
