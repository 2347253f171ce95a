/-! THE REFERENCE: its row stands in cells 219 (now), 220 (before), 221 (saved), its history in 222 -/
def nw_ (σ : bc_M) (c : Nat) (r : rw_t) : Prop := ∀ j : Int, 0 ≤ j → j < 136 → σ.1 c j = r j
theorem nw_fr {P : Nat → Prop} {σ σ' : bc_M} {c : Nat} {r : rw_t} (h : nw_ σ c r) (hf : fr_ P σ σ') (hp : ¬ P c) : nw_ σ' c r := fun j a b => by rw [hf.1 c hp]; exact h j a b
theorem nw_wr {σ : bc_M} {c : Nat} {r : rw_t} {i v : Int} (h : nw_ σ c r) : nw_ (bc_wr σ c i v) c (up_ r i v) := fun j a b => by
  have := h j a b
  simp only [bc_wr, up_, if_true]
  split
  · rfl
  · exact this
def ho_ (a b c d : Int) : Int := if a = 0 then 1 else if b = 0 then 2 else if c = 0 then 3 else if d = 0 then 4 else 0
/-- the row's place of a member's number -/
def pl_ (r : rw_t) (m j : Int) : Int := 16 + 6 * (if 0 ≤ m ∧ m < r 3 then m else 0) + j
section REF
variable {g : bc_C} {d : Nat} {σ : bc_M} {r : rw_t} {Rr : Option bc_A → bc_M → Prop} {X : Nat → bc_M → Prop}
theorem t_X11_isIn {a b c : Int} (ha : bc_in a) (hb : bc_in b) (hc : bc_in c) (h : Rr (some (bc_I (if b ≤ a ∧ a ≤ c then 1 else 0))) σ) : bc_Sem g (d + 1) mX11_isIn [bc_I a, bc_I b, bc_I c] σ Rr X := by
  obtain ⟨a0, a1⟩ := ha
  obtain ⟨b0, b1⟩ := hb
  obtain ⟨c0, c1⟩ := hc
  refine e_X11_isIn rfl (fun K hK => ?_)
  refine hK.1 [] 60 _ _ _ _ _ ?_
  repeat' first | refine bc_br_i (fun _ => ?_) (fun _ => ?_) | refine bc_ob_i (by omega) ?_
  all_goals first | (exfalso; omega) | exact rt_ h (by split <;> omega)
theorem t_X11_isKind {a : Int} (ha : bc_in a) (h : Rr (some (bc_I (if a = 99 ∨ a = 108 then 1 else 0))) σ) : bc_Sem g (d + 1) mX11_isKind [bc_I a] σ Rr X := by
  obtain ⟨a0, a1⟩ := ha
  refine e_X11_isKind rfl (fun K hK => ?_)
  refine hK.1 [] 60 _ _ _ _ _ ?_
  repeat' first | refine bc_br_i (fun _ => ?_) (fun _ => ?_) | refine bc_ob_i (by omega) ?_
  all_goals first | (exfalso; omega) | exact rt_ h (by split <;> omega)
theorem t_X11_areJoints {a b : Int} (ha : bc_in a) (hb : bc_in b) (h : Rr (some (bc_I (if (0 ≤ a ∧ a < 8) ∧ 0 ≤ b ∧ b < 8 then 1 else 0))) σ) : bc_Sem g (d + 2) mX11_areJoints [bc_I a, bc_I b] σ Rr X := by
  refine e_X11_areJoints rfl (fun K hK => ?_)
  refine hK.1 [] 60 _ _ _ _ _ ?_
  refine t_X11_isIn ha (by decide) (by decide) ?_
  refine bc_ob_i (by split <;> omega) ?_
  refine bc_br_i (fun c => ?_) (fun c => ?_)
  · refine bc_ob_i (by decide) ?_
    exact rt_ h (if_neg (by split at c <;> omega)).symm
  · refine t_X11_isIn hb (by decide) (by decide) ?_
    refine bc_ob_i (by split <;> omega) ?_
    refine bc_br_i (fun c2 => ?_) (fun c2 => ?_)
    · refine bc_ob_i (by decide) ?_
      exact rt_ h (if_neg (by split at c2 <;> omega)).symm
    · refine bc_ob_i (by decide) ?_
      exact rt_ h (if_pos (by split at c <;> split at c2 <;> omega)).symm
theorem t_X11_isMember {m : Int} (hN : nw_ σ 219 r) (h3 : 0 ≤ r 3 ∧ r 3 ≤ 16) (hm : bc_in m) (h : Rr (some (bc_I (if 0 ≤ m ∧ m < r 3 then 1 else 0))) σ) : bc_Sem g (d + 2) mX11_isMember [bc_R 218, bc_I m] σ Rr X := by
  have e3 := hN 3 (by decide) (by decide)
  refine e_X11_isMember rfl (fun K hK => ?_)
  refine hK.1 [] 60 _ _ _ _ _ ?_
  refine bc_ob_i (by decide) ?_
  refine t_X11_isIn hm (by decide) (by rw [e3]; constructor <;> omega) ?_
  refine bc_ob_i (by split <;> omega) ?_
  refine rt_ h ?_
  rw [e3]
  by_cases c : 0 ≤ m ∧ m < r 3
  · rw [if_pos c, if_pos (by omega)]
  · rw [if_neg c, if_neg (by omega)]
theorem t_X11_place {m j : Int} (hN : nw_ σ 219 r) (h3 : 0 ≤ r 3 ∧ r 3 ≤ 16) (hm : bc_in m) (h : Rr (some (bc_I (pl_ r m j))) σ) : bc_Sem g (d + 3) mX11_place [bc_R 218, bc_I m, bc_I j] σ Rr X := by
  refine e_X11_place rfl (fun K hK => ?_)
  unfold pl_ at h
  refine hK.1 [] 60 _ _ _ _ _ ?_
  refine t_X11_isMember hN h3 hm ?_
  refine bc_ob_i (by split <;> omega) ?_
  refine bc_br_i (fun c => ?_) (fun c => ?_)
  · exact rt_ h (by rw [if_neg (by split at c <;> omega)])
  · exact rt_ h (by rw [if_pos (by split at c <;> omega)])
theorem pl_le {r : rw_t} {m j : Int} (h3 : 0 ≤ r 3 ∧ r 3 ≤ 16) (hj : 0 ≤ j ∧ j ≤ 5) : 0 ≤ pl_ r m j ∧ pl_ r m j < 136 := by
  unfold pl_
  split <;> omega
theorem t_X11_of {m j : Int} (hN : nw_ σ 219 r) (h3 : 0 ≤ r 3 ∧ r 3 ≤ 16) (hm : bc_in m) (hj : 0 ≤ j ∧ j ≤ 5) (h : Rr (some (bc_I (r (pl_ r m j)))) σ) : bc_Sem g (d + 4) mX11_of [bc_R 218, bc_I m, bc_I j] σ Rr X := by
  have hl := pl_le (m := m) h3 hj
  refine e_X11_of rfl (fun K hK => ?_)
  refine hK.1 [] 60 _ _ _ _ _ ?_
  refine t_X11_place hN h3 hm ?_
  refine bc_ob_i (by omega) ?_
  exact rt_ h (hN _ hl.1 hl.2)
theorem t_X11_holds {a b c e : Int} (ha : 0 ≤ a ∧ a ≤ 1) (hb : 0 ≤ b ∧ b ≤ 1) (hc : 0 ≤ c ∧ c ≤ 1) (he : 0 ≤ e ∧ e ≤ 1) (h : Rr (some (bc_I (if ho_ a b c e = 0 then 1 else 0))) (bc_wr σ 218 ((14 : Nat) : Int) (ho_ a b c e))) : bc_Sem g (d + 1) mX11_holds [bc_R 218, bc_I a, bc_I b, bc_I c, bc_I e] σ Rr X := by
  refine e_X11_holds rfl (fun K hK => ?_)
  have key : ∀ t : Int, t = ho_ a b c e → Rr (some (bc_I (if t = 0 then 1 else 0))) (bc_wr σ 218 ((14 : Nat) : Int) t) := fun t ht => by rw [ht]; exact h
  unfold ho_ at key
  have fin : ∀ t : Int, t = 0 ∨ t = 1 ∨ t = 2 ∨ t = 3 ∨ t = 4 → (bc_wr σ 218 ((14 : Nat) : Int) t).1 218 ((14 : Nat) : Int) = t := fun t _ => by simp [bc_wr]
  refine hK.1 [] 60 _ _ _ _ _ ?_
  refine bc_ob_i (by omega) ?_
  refine bc_br_i (fun q => ?_) (fun q => ?_)
  · refine bc_ob_i (by rw [fin 1 (by decide)]; decide) ?_
    refine bc_br_i (fun q2 => absurd q2 (by rw [fin 1 (by decide)]; decide)) (fun _ => ?_)
    refine bc_ob_i (by decide) ?_
    exact key 1 (by rw [if_pos q])
  refine bc_ob_i (by omega) ?_
  refine bc_br_i (fun q1 => ?_) (fun q1 => ?_)
  · refine bc_ob_i (by rw [fin 2 (by decide)]; decide) ?_
    refine bc_br_i (fun q2 => absurd q2 (by rw [fin 2 (by decide)]; decide)) (fun _ => ?_)
    refine bc_ob_i (by decide) ?_
    exact key 2 (by rw [if_neg q, if_pos q1])
  refine bc_ob_i (by omega) ?_
  refine bc_br_i (fun q2 => ?_) (fun q2 => ?_)
  · refine bc_ob_i (by rw [fin 3 (by decide)]; decide) ?_
    refine bc_br_i (fun q2 => absurd q2 (by rw [fin 3 (by decide)]; decide)) (fun _ => ?_)
    refine bc_ob_i (by decide) ?_
    exact key 3 (by rw [if_neg q, if_neg q1, if_pos q2])
  refine bc_ob_i (by omega) ?_
  refine bc_br_i (fun q3 => ?_) (fun q3 => ?_)
  · refine bc_ob_i (by rw [fin 4 (by decide)]; decide) ?_
    refine bc_br_i (fun q2 => absurd q2 (by rw [fin 4 (by decide)]; decide)) (fun _ => ?_)
    refine bc_ob_i (by decide) ?_
    exact key 4 (by rw [if_neg q, if_neg q1, if_neg q2, if_pos q3])
  · refine bc_ob_i (by rw [fin 0 (by decide)]; decide) ?_
    refine bc_br_i (fun _ => ?_) (fun q2 => absurd (fin 0 (by decide)) q2)
    refine bc_ob_i (by decide) ?_
    exact key 0 (by rw [if_neg q, if_neg q1, if_neg q2, if_neg q3])
theorem t_X11_goes {a : Int} (ha : 0 ≤ a ∧ a ≤ 1) (h : Rr (some (bc_I a)) (bc_wr σ 218 ((14 : Nat) : Int) (1 - a))) : bc_Sem g (d + 2) mX11_goes [bc_R 218, bc_I a] σ Rr X := by
  refine e_X11_goes rfl (fun K hK => ?_)
  refine hK.1 [] 60 _ _ _ _ _ ?_
  have e : ho_ a 1 1 1 = 1 - a := by
    have : a = 0 ∨ a = 1 := by omega
    rcases this with rfl | rfl <;> decide
  refine t_X11_holds ha (by decide) (by decide) (by decide) ?_
  rw [e]
  refine bc_ob_i (by split <;> omega) ?_
  exact rt_ h (by split <;> omega)
theorem t_X11_thrown {t : Int} (ht : σ.1 218 ((14 : Nat) : Int) = t) (h : Rr (some (bc_I t)) σ) : bc_Sem g (d + 1) mX11_thrown [bc_R 218] σ Rr X := by
  refine e_X11_thrown rfl (fun K hK => ?_)
  refine hK.1 [] 60 _ _ _ _ _ ?_
  exact rt_ h ht
theorem t_X11_total {j : Int} (hN : nw_ σ 219 r) (j0 : 0 ≤ j ∧ j < 136) (h : Rr (some (bc_I (r j))) (bc_wr σ 218 ((14 : Nat) : Int) 0)) : bc_Sem g (d + 1) mX11_total [bc_R 218, bc_I j] σ Rr X := by
  refine e_X11_total rfl (fun K hK => ?_)
  refine hK.1 [] 60 _ _ _ _ _ ?_
  refine bc_ob_i j0 ?_
  exact rt_ h (nw_fr hN (fr_wr (P := fun k => k = 218) rfl) (by decide) j j0.1 j0.2)
/-- a copy of 136 numbers -/
def cc_ (s t : Nat) (a b n : Int) (σ σ' : bc_M) : Prop := fr_ (fun k => k = t) σ σ' ∧ (∀ j : Int, 0 ≤ j → j < n → σ'.1 t (b + j) = σ.1 s (a + j)) ∧ ∀ k : Int, ¬ (b ≤ k ∧ k < b + n) → σ'.1 t k = σ.1 t k
def cn_ (k : Nat) : Int := if k = 222 then 1088 else 136
theorem lc_ {K : bc_KT} {u v : bc_A} {s t : Nat} {a b : Int} (c0 : cc_ s t a b 0 σ σ) (base : ∀ i σ', i = 136 → cc_ s t a b 136 σ σ' → K 3 [(0, u), (1, bc_I a), (2, v), (3, bc_I b), (4, bc_I i)] [] σ' 0) (step : ∀ i σ', 0 ≤ i → i < 136 → cc_ s t a b i σ σ' → (∀ σ'', cc_ s t a b (i + 1) σ σ'' → K 3 [(0, u), (1, bc_I a), (2, v), (3, bc_I b), (4, bc_I (i + 1))] [] σ'' 0) → K 3 [(0, u), (1, bc_I a), (2, v), (3, bc_I b), (4, bc_I i)] [] σ' 0) : K 3 [(0, u), (1, bc_I a), (2, v), (3, bc_I b), (4, bc_I 0)] [] σ 0 := by
  have L : ∀ i : Int, ∀ σ' : bc_M, 0 ≤ i → i ≤ 136 → cc_ s t a b i σ σ' → K 3 [(0, u), (1, bc_I a), (2, v), (3, bc_I b), (4, bc_I i)] [] σ' 0 := by
    refine up_ind 136 (fun i hi σ' i0 i1 hs => ?_) (fun i hi ih σ' i0 i1 hs => step i σ' i0 hi hs (fun σ'' h => ih σ'' (by omega) (by omega) h))
    have e : i = 136 := by omega
    rw [e] at hs
    exact base i σ' e hs
  exact L 0 σ (by decide) (by decide) c0
theorem t_X11_copies {s t : Nat} {a b : Int} (hp : (s = 219 ∧ t = 220) ∨ (s = 220 ∧ t = 219) ∨ (s = 220 ∧ t = 222) ∨ (s = 219 ∧ t = 221) ∨ (s = 221 ∧ t = 219) ∨ (s = 222 ∧ t = 219)) (a0 : 0 ≤ a ∧ a + 136 ≤ cn_ s) (b0 : 0 ≤ b ∧ b + 136 ≤ cn_ t) (h : ∀ σ', cc_ s t a b 136 σ σ' → Rr none σ') : bc_Sem g (d + 1) mX11_copies [bc_R s, bc_I a, bc_R t, bc_I b] σ Rr X := by
  have hst : s ≠ t := by omega
  have bs : a + 136 ≤ 1088 ∧ b + 136 ≤ 1088 := by
    unfold cn_ at a0 b0
    constructor
    · split at a0 <;> omega
    · split at b0 <;> omega
  have st : ∀ i : Int, ∀ σ', 0 ≤ i → cc_ s t a b i σ σ' → cc_ s t a b (i + 1) σ (bc_wr σ' t (b + i) (σ'.1 s (a + i))) := by
    intro i σ' i0 hs
    obtain ⟨c1, c2, c3⟩ := hs
    have es : σ'.1 s = σ.1 s := c1.1 s hst
    refine ⟨fr_trans c1 (fr_wr rfl), fun j j0 j1 => ?_, fun k hk => ?_⟩
    · simp only [bc_wr, if_true]
      by_cases e : j = i
      · rw [if_pos (by omega), es, e]
      · rw [if_neg (by omega)]
        exact c2 j j0 (by omega)
    · simp only [bc_wr, if_true]
      rw [if_neg (by omega)]
      exact c3 k (by omega)
  have c0 : cc_ s t a b 0 σ σ := ⟨fr_refl _, fun j j0 j1 => by omega, fun k _ => rfl⟩
  rcases hp with ⟨rfl, rfl⟩ | ⟨rfl, rfl⟩ | ⟨rfl, rfl⟩ | ⟨rfl, rfl⟩ | ⟨rfl, rfl⟩ | ⟨rfl, rfl⟩
  all_goals
    have a1 : a + 136 ≤ 1088 := bs.1
    simp [cn_] at a0 b0
    refine e_X11_copies rfl (fun K hK => ?_)
    refine hK.1 [3] 40 _ _ _ _ _ ?_
    refine lc_ c0 (fun i σ' hi hs => ?_) (fun i σ' i0 hi hs ih => ?_)
    · refine hK.1 [3] 60 _ _ _ _ _ ?_
      refine bc_ob_i (by omega) ?_
      refine bc_br_i (fun c => by omega) (fun _ => ?_)
      exact h σ' hs
    · refine hK.1 [3] 60 _ _ _ _ _ ?_
      refine bc_ob_i (by omega) ?_
      refine bc_br_i (fun _ => ?_) (fun c => by omega)
      refine bc_ob_i (by omega) ?_
      refine bc_ob_i (by omega) ?_
      exact ih _ (st i σ' i0 hs)
end REF
