section
/-! THE REFERENCE: its row stands in cells 219 (now), 220 (before), 221 (saved), its history in 222 -/
noncomputable def nw_ (σ : bc_M) (c : Nat) (r : rw_t) : Prop := ∀ j : Int, 0 ≤ j → j < 136 → σ.1 c j = r j
theorem nw_fr {P : Nat → Prop} {σ σ' : bc_M} {c : Nat} {r : rw_t} (h : nw_ σ c r) (hf : fr_ P σ σ') (hp : ¬ P c) : nw_ σ' c r := fun j a b => by rw [hf.1 c hp]; exact h j a b
theorem nw_wr {σ : bc_M} {c : Nat} {r : rw_t} {i v : Int} (h : nw_ σ c r) : nw_ (bc_wr σ c i v) c (up_ r i v) := fun j a b => by
  have := h j a b
  simp only [bc_wr, up_, if_true]
  split
  · rfl
  · exact this
noncomputable def ho_ (a b c d : Int) : Int := if a = 0 then 1 else if b = 0 then 2 else if c = 0 then 3 else if d = 0 then 4 else 0
/-- the row's place of a member's number -/
noncomputable def pl_ (r : rw_t) (m j : Int) : Int := 16 + 6 * (if 0 ≤ m ∧ m < r 3 then m else 0) + j
section REF
variable {g : bc_C} {d : Nat} {σ : bc_M} {r : rw_t} {Rr : Option bc_A → bc_M → Prop} {X : Nat → bc_M → Prop}
theorem t_X11_isIn {a b c : Int} (ha : bc_in a) (hb : bc_in b) (hc : bc_in c) (h : Rr (some (bc_I (if b ≤ a ∧ a ≤ c then 1 else 0))) σ) : bc_Sem g (d + 1) mX11_isIn [bc_I a, bc_I b, bc_I c] σ Rr X := by
  obtain ⟨a0, a1⟩ := ha
  obtain ⟨b0, b1⟩ := hb
  obtain ⟨c0, c1⟩ := hc
  refine e_X11_isIn rfl (fun K hK => ?_)
  refine hK.1 [] 60 _ _ _ _ _ ?_
  repeat' first | refine bc_br_i (fun _ => ?_) (fun _ => ?_) | refine bc_ob_i (by omega) ?_
  all_goals first | (exfalso; omega) | exact rt_ h (by split <;> omega)
theorem t_X11_isKind {a : Int} (ha : bc_in a) (h : Rr (some (bc_I (if a = 99 ∨ a = 108 then 1 else 0))) σ) : bc_Sem g (d + 1) mX11_isKind [bc_I a] σ Rr X := by
  obtain ⟨a0, a1⟩ := ha
  refine e_X11_isKind rfl (fun K hK => ?_)
  refine hK.1 [] 60 _ _ _ _ _ ?_
  repeat' first | refine bc_br_i (fun _ => ?_) (fun _ => ?_) | refine bc_ob_i (by omega) ?_
  all_goals first | (exfalso; omega) | exact rt_ h (by split <;> omega)
theorem t_X11_areJoints {a b : Int} (ha : bc_in a) (hb : bc_in b) (h : Rr (some (bc_I (if (0 ≤ a ∧ a < 8) ∧ 0 ≤ b ∧ b < 8 then 1 else 0))) σ) : bc_Sem g (d + 2) mX11_areJoints [bc_I a, bc_I b] σ Rr X := by
  refine e_X11_areJoints rfl (fun K hK => ?_)
  refine hK.1 [] 60 _ _ _ _ _ ?_
  refine t_X11_isIn ha (by decide) (by decide) ?_
  refine bc_ob_i (by split <;> omega) ?_
  refine bc_br_i (fun c => ?_) (fun c => ?_)
  · refine bc_ob_i (by decide) ?_
    exact rt_ h (if_neg (by split at c <;> omega)).symm
  · refine t_X11_isIn hb (by decide) (by decide) ?_
    refine bc_ob_i (by split <;> omega) ?_
    refine bc_br_i (fun c2 => ?_) (fun c2 => ?_)
    · refine bc_ob_i (by decide) ?_
      exact rt_ h (if_neg (by split at c2 <;> omega)).symm
    · refine bc_ob_i (by decide) ?_
      exact rt_ h (if_pos (by split at c <;> split at c2 <;> omega)).symm
theorem t_X11_isMember {m : Int} (hN : nw_ σ 219 r) (h3 : 0 ≤ r 3 ∧ r 3 ≤ 16) (hm : bc_in m) (h : Rr (some (bc_I (if 0 ≤ m ∧ m < r 3 then 1 else 0))) σ) : bc_Sem g (d + 2) mX11_isMember [bc_R 218, bc_I m] σ Rr X := by
  have e3 := hN 3 (by decide) (by decide)
  refine e_X11_isMember rfl (fun K hK => ?_)
  refine hK.1 [] 60 _ _ _ _ _ ?_
  refine bc_ob_i (by decide) ?_
  refine t_X11_isIn hm (by decide) (by rw [e3]; constructor <;> omega) ?_
  refine bc_ob_i (by split <;> omega) ?_
  refine rt_ h ?_
  rw [e3]
  by_cases c : 0 ≤ m ∧ m < r 3
  · rw [if_pos c, if_pos (by omega)]
  · rw [if_neg c, if_neg (by omega)]
theorem t_X11_place {m j : Int} (hN : nw_ σ 219 r) (h3 : 0 ≤ r 3 ∧ r 3 ≤ 16) (hm : bc_in m) (h : Rr (some (bc_I (pl_ r m j))) σ) : bc_Sem g (d + 3) mX11_place [bc_R 218, bc_I m, bc_I j] σ Rr X := by
  refine e_X11_place rfl (fun K hK => ?_)
  unfold pl_ at h
  refine hK.1 [] 60 _ _ _ _ _ ?_
  refine t_X11_isMember hN h3 hm ?_
  refine bc_ob_i (by split <;> omega) ?_
  refine bc_br_i (fun c => ?_) (fun c => ?_)
  · exact rt_ h (by rw [if_neg (by split at c <;> omega)])
  · exact rt_ h (by rw [if_pos (by split at c <;> omega)])
theorem pl_le {r : rw_t} {m j : Int} (h3 : 0 ≤ r 3 ∧ r 3 ≤ 16) (hj : 0 ≤ j ∧ j ≤ 5) : 0 ≤ pl_ r m j ∧ pl_ r m j < 136 := by
  unfold pl_
  split <;> omega
theorem t_X11_of {m j : Int} (hN : nw_ σ 219 r) (h3 : 0 ≤ r 3 ∧ r 3 ≤ 16) (hm : bc_in m) (hj : 0 ≤ j ∧ j ≤ 5) (h : Rr (some (bc_I (r (pl_ r m j)))) σ) : bc_Sem g (d + 4) mX11_of [bc_R 218, bc_I m, bc_I j] σ Rr X := by
  have hl := pl_le (m := m) h3 hj
  refine e_X11_of rfl (fun K hK => ?_)
  refine hK.1 [] 60 _ _ _ _ _ ?_
  refine t_X11_place hN h3 hm ?_
  refine bc_ob_i (by omega) ?_
  exact rt_ h (hN _ hl.1 hl.2)
theorem t_X11_holds {a b c e : Int} (ha : 0 ≤ a ∧ a ≤ 1) (hb : 0 ≤ b ∧ b ≤ 1) (hc : 0 ≤ c ∧ c ≤ 1) (he : 0 ≤ e ∧ e ≤ 1) (h : Rr (some (bc_I (if ho_ a b c e = 0 then 1 else 0))) (bc_wr σ 218 ((14 : Nat) : Int) (ho_ a b c e))) : bc_Sem g (d + 1) mX11_holds [bc_R 218, bc_I a, bc_I b, bc_I c, bc_I e] σ Rr X := by
  refine e_X11_holds rfl (fun K hK => ?_)
  have key : ∀ t : Int, t = ho_ a b c e → Rr (some (bc_I (if t = 0 then 1 else 0))) (bc_wr σ 218 ((14 : Nat) : Int) t) := fun t ht => by rw [ht]; exact h
  unfold ho_ at key
  have fin : ∀ t : Int, t = 0 ∨ t = 1 ∨ t = 2 ∨ t = 3 ∨ t = 4 → (bc_wr σ 218 ((14 : Nat) : Int) t).1 218 ((14 : Nat) : Int) = t := fun t _ => by simp [bc_wr]
  refine hK.1 [] 60 _ _ _ _ _ ?_
  refine bc_ob_i (by omega) ?_
  refine bc_br_i (fun q => ?_) (fun q => ?_)
  · refine bc_ob_i (by rw [fin 1 (by decide)]; decide) ?_
    refine bc_br_i (fun q2 => absurd q2 (by rw [fin 1 (by decide)]; decide)) (fun _ => ?_)
    refine bc_ob_i (by decide) ?_
    exact key 1 (by rw [if_pos q])
  refine bc_ob_i (by omega) ?_
  refine bc_br_i (fun q1 => ?_) (fun q1 => ?_)
  · refine bc_ob_i (by rw [fin 2 (by decide)]; decide) ?_
    refine bc_br_i (fun q2 => absurd q2 (by rw [fin 2 (by decide)]; decide)) (fun _ => ?_)
    refine bc_ob_i (by decide) ?_
    exact key 2 (by rw [if_neg q, if_pos q1])
  refine bc_ob_i (by omega) ?_
  refine bc_br_i (fun q2 => ?_) (fun q2 => ?_)
  · refine bc_ob_i (by rw [fin 3 (by decide)]; decide) ?_
    refine bc_br_i (fun q2 => absurd q2 (by rw [fin 3 (by decide)]; decide)) (fun _ => ?_)
    refine bc_ob_i (by decide) ?_
    exact key 3 (by rw [if_neg q, if_neg q1, if_pos q2])
  refine bc_ob_i (by omega) ?_
  refine bc_br_i (fun q3 => ?_) (fun q3 => ?_)
  · refine bc_ob_i (by rw [fin 4 (by decide)]; decide) ?_
    refine bc_br_i (fun q2 => absurd q2 (by rw [fin 4 (by decide)]; decide)) (fun _ => ?_)
    refine bc_ob_i (by decide) ?_
    exact key 4 (by rw [if_neg q, if_neg q1, if_neg q2, if_pos q3])
  · refine bc_ob_i (by rw [fin 0 (by decide)]; decide) ?_
    refine bc_br_i (fun _ => ?_) (fun q2 => absurd (fin 0 (by decide)) q2)
    refine bc_ob_i (by decide) ?_
    exact key 0 (by rw [if_neg q, if_neg q1, if_neg q2, if_neg q3])
theorem t_X11_goes {a : Int} (ha : 0 ≤ a ∧ a ≤ 1) (h : Rr (some (bc_I a)) (bc_wr σ 218 ((14 : Nat) : Int) (1 - a))) : bc_Sem g (d + 2) mX11_goes [bc_R 218, bc_I a] σ Rr X := by
  refine e_X11_goes rfl (fun K hK => ?_)
  refine hK.1 [] 60 _ _ _ _ _ ?_
  have e : ho_ a 1 1 1 = 1 - a := by
    have : a = 0 ∨ a = 1 := by omega
    rcases this with rfl | rfl <;> decide
  refine t_X11_holds ha (by decide) (by decide) (by decide) ?_
  rw [e]
  refine bc_ob_i (by split <;> omega) ?_
  exact rt_ h (by split <;> omega)
theorem t_X11_thrown {t : Int} (ht : σ.1 218 ((14 : Nat) : Int) = t) (h : Rr (some (bc_I t)) σ) : bc_Sem g (d + 1) mX11_thrown [bc_R 218] σ Rr X := by
  refine e_X11_thrown rfl (fun K hK => ?_)
  refine hK.1 [] 60 _ _ _ _ _ ?_
  exact rt_ h ht
theorem t_X11_total {j : Int} (hN : nw_ σ 219 r) (j0 : 0 ≤ j ∧ j < 136) (h : Rr (some (bc_I (r j))) (bc_wr σ 218 ((14 : Nat) : Int) 0)) : bc_Sem g (d + 1) mX11_total [bc_R 218, bc_I j] σ Rr X := by
  refine e_X11_total rfl (fun K hK => ?_)
  refine hK.1 [] 60 _ _ _ _ _ ?_
  refine bc_ob_i j0 ?_
  exact rt_ h (nw_fr hN (fr_wr (P := fun k => k = 218) rfl) (by decide) j j0.1 j0.2)
/-- a copy of 136 numbers -/
noncomputable def cc_ (s t : Nat) (a b n : Int) (σ σ' : bc_M) : Prop := fr_ (fun k => k = t) σ σ' ∧ (∀ j : Int, 0 ≤ j → j < n → σ'.1 t (b + j) = σ.1 s (a + j)) ∧ ∀ k : Int, ¬ (b ≤ k ∧ k < b + n) → σ'.1 t k = σ.1 t k
noncomputable def cn_ (k : Nat) : Int := if k = 222 then 1088 else 136
theorem lc_ {K : bc_KT} {u v : bc_A} {s t : Nat} {a b : Int} (c0 : cc_ s t a b 0 σ σ) (base : ∀ i σ', i = 136 → cc_ s t a b 136 σ σ' → K 3 [(0, u), (1, bc_I a), (2, v), (3, bc_I b), (4, bc_I i)] [] σ' 0) (step : ∀ i σ', 0 ≤ i → i < 136 → cc_ s t a b i σ σ' → (∀ σ'', cc_ s t a b (i + 1) σ σ'' → K 3 [(0, u), (1, bc_I a), (2, v), (3, bc_I b), (4, bc_I (i + 1))] [] σ'' 0) → K 3 [(0, u), (1, bc_I a), (2, v), (3, bc_I b), (4, bc_I i)] [] σ' 0) : K 3 [(0, u), (1, bc_I a), (2, v), (3, bc_I b), (4, bc_I 0)] [] σ 0 := by
  have L : ∀ i : Int, ∀ σ' : bc_M, 0 ≤ i → i ≤ 136 → cc_ s t a b i σ σ' → K 3 [(0, u), (1, bc_I a), (2, v), (3, bc_I b), (4, bc_I i)] [] σ' 0 := by
    refine up_ind 136 (fun i hi σ' i0 i1 hs => ?_) (fun i hi ih σ' i0 i1 hs => step i σ' i0 hi hs (fun σ'' h => ih σ'' (by omega) (by omega) h))
    have e : i = 136 := by omega
    rw [e] at hs
    exact base i σ' e hs
  exact L 0 σ (by decide) (by decide) c0
theorem t_X11_copies {s t : Nat} {a b : Int} (hp : (s = 219 ∧ t = 220) ∨ (s = 220 ∧ t = 219) ∨ (s = 220 ∧ t = 222) ∨ (s = 219 ∧ t = 221) ∨ (s = 221 ∧ t = 219) ∨ (s = 222 ∧ t = 219)) (a0 : 0 ≤ a ∧ a + 136 ≤ cn_ s) (b0 : 0 ≤ b ∧ b + 136 ≤ cn_ t) (h : ∀ σ', cc_ s t a b 136 σ σ' → Rr none σ') : bc_Sem g (d + 1) mX11_copies [bc_R s, bc_I a, bc_R t, bc_I b] σ Rr X := by
  have hst : s ≠ t := by omega
  have bs : a + 136 ≤ 1088 ∧ b + 136 ≤ 1088 := by
    unfold cn_ at a0 b0
    constructor
    · split at a0 <;> omega
    · split at b0 <;> omega
  have st : ∀ i : Int, ∀ σ', 0 ≤ i → cc_ s t a b i σ σ' → cc_ s t a b (i + 1) σ (bc_wr σ' t (b + i) (σ'.1 s (a + i))) := by
    intro i σ' i0 hs
    obtain ⟨c1, c2, c3⟩ := hs
    have es : σ'.1 s = σ.1 s := c1.1 s hst
    refine ⟨fr_trans c1 (fr_wr rfl), fun j j0 j1 => ?_, fun k hk => ?_⟩
    · simp only [bc_wr, if_true]
      by_cases e : j = i
      · rw [if_pos (by omega), es, e]
      · rw [if_neg (by omega)]
        exact c2 j j0 (by omega)
    · simp only [bc_wr, if_true]
      rw [if_neg (by omega)]
      exact c3 k (by omega)
  have c0 : cc_ s t a b 0 σ σ := ⟨fr_refl _, fun j j0 j1 => by omega, fun k _ => rfl⟩
  rcases hp with ⟨rfl, rfl⟩ | ⟨rfl, rfl⟩ | ⟨rfl, rfl⟩ | ⟨rfl, rfl⟩ | ⟨rfl, rfl⟩ | ⟨rfl, rfl⟩
  all_goals
    have a1 : a + 136 ≤ 1088 := bs.1
    simp [cn_] at a0 b0
    refine e_X11_copies rfl (fun K hK => ?_)
    refine hK.1 [3] 40 _ _ _ _ _ ?_
    refine lc_ c0 (fun i σ' hi hs => ?_) (fun i σ' i0 hi hs ih => ?_)
    · refine hK.1 [3] 60 _ _ _ _ _ ?_
      refine bc_ob_i (by omega) ?_
      refine bc_br_i (fun c => by omega) (fun _ => ?_)
      exact h σ' hs
    · refine hK.1 [3] 60 _ _ _ _ _ ?_
      refine bc_ob_i (by omega) ?_
      refine bc_br_i (fun _ => ?_) (fun c => by omega)
      refine bc_ob_i (by omega) ?_
      refine bc_ob_i (by omega) ?_
      exact ih _ (st i σ' i0 hs)
end REF
end
section
/-! the reference's helpers -/
/-- whether member k joins a and b, as the reference sees it -/
noncomputable def jr_ (r : rw_t) (k a b : Int) : Prop := r (16 + 6 * k) = min a b ∧ r (17 + 6 * k) = max a b
noncomputable def bq_ (r : rw_t) (a b v : Int) : Prop := (v = -1 ∧ ∀ k : Int, 0 ≤ k → k < r 3 → ¬ jr_ r k a b) ∨ (0 ≤ v ∧ v < r 3 ∧ jr_ r v a b)
theorem pl_at {r : rw_t} {m j : Int} (m0 : 0 ≤ m) (m1 : m < r 3) : pl_ r m j = 16 + j + 6 * m := by
  unfold pl_
  rw [if_pos ⟨m0, m1⟩]
  omega
section REF
variable {g : bc_C} {d : Nat} {σ : bc_M} {r : rw_t} {Rr : Option bc_A → bc_M → Prop} {X : Nat → bc_M → Prop}
theorem t_X11_ofM {m j : Int} (q : Int) (hN : nw_ σ 219 r) (hW : wf_M r) (m0 : 0 ≤ m) (m1 : m < r 3) (hj : 0 ≤ j ∧ j ≤ 5) (e : q = 16 + j) (h : Rr (some (bc_I (r (q + 6 * m)))) σ) : bc_Sem g (d + 4) mX11_of [bc_R 218, bc_I m, bc_I j] σ Rr X := by
  have w := hW.1
  refine t_X11_of hN w (by constructor <;> omega) hj ?_
  rw [pl_at m0 m1, ← e]
  exact h
theorem t_X11_bears {m : Int} (hN : nw_ σ 219 r) (hW : wf_M r) (m0 : 0 ≤ m) (m1 : m < r 3) (h : Rr (some (bc_I (br_ r m))) σ) : bc_Sem g (d + 5) mX11_bears [bc_R 218, bc_I m] σ Rr X := by
  have w := hW.1
  obtain ⟨g0, g1, g2, g3, g4, g5⟩ := hW.2 m m0 (by omega)
  have hp := mul_le g2.1 g2.2 (b := 10 - r (19 + 6 * m)) (B := 10) (by omega) (by omega)
  refine e_X11_bears rfl (fun K hK => ?_)
  unfold br_ at h
  refine hK.1 [] 60 _ _ _ _ _ ?_
  refine t_X11_ofM 21 hN hW m0 m1 (by decide) rfl ?_
  refine bc_ob_i (by omega) ?_
  refine bc_br_i (fun c => ?_) (fun c => ?_)
  · exact rt_ h (if_neg (by omega)).symm
  · refine t_X11_ofM 18 hN hW m0 m1 (by decide) rfl ?_
    refine t_X11_ofM 19 hN hW m0 m1 (by decide) rfl ?_
    refine bc_ob_i ⟨⟨hp.1, by omega⟩, by decide, by decide⟩ ?_
    exact rt_ h (if_pos (by omega)).symm
theorem t_X11_costOf {m : Int} (hN : nw_ σ 219 r) (hW : wf_M r) (m0 : 0 ≤ m) (m1 : m < r 3) (h : Rr (some (bc_I (co_ r m))) σ) : bc_Sem g (d + 5) mX11_costOf [bc_R 218, bc_I m] σ Rr X := by
  have w := hW.1
  obtain ⟨g0, g1, g2, g3, g4, g5⟩ := hW.2 m m0 (by omega)
  refine e_X11_costOf rfl (fun K hK => ?_)
  unfold co_ at h
  refine hK.1 [] 60 _ _ _ _ _ ?_
  refine t_X11_ofM 18 hN hW m0 m1 (by decide) rfl ?_
  refine bc_ob_i ⟨⟨by omega, by omega⟩, by decide, by decide⟩ ?_
  refine t_X11_ofM 19 hN hW m0 m1 (by decide) rfl ?_
  exact h
theorem t_X11_between {a b : Int} (hN : nw_ σ 219 r) (hW : wf_M r) (ha : bc_in a) (hb : bc_in b) (h : ∀ v, bq_ r a b v → Rr (some (bc_I v)) σ) : bc_Sem g (d + 5) mX11_between [bc_R 218, bc_I a, bc_I b] σ Rr X := by
  obtain ⟨a0, a1⟩ := ha
  obtain ⟨b0, b1⟩ := hb
  have w := hW.1
  have e3 := hN 3 (by decide) (by decide)
  refine e_X11_between rfl (fun K hK => ?_)
  have L : ∀ i : Int, ∀ (v : Int) (z : bc_LV), 0 ≤ i → i ≤ r 3 → ((v = -1 ∧ ∀ k : Int, 0 ≤ k → k < i → ¬ jr_ r k a b) ∨ (0 ≤ v ∧ v < r 3 ∧ jr_ r v a b)) → K 5 ([(0, bc_R 218), (1, bc_I a), (2, bc_I b), (3, bc_I v), (4, bc_I i)] ++ z) [] σ 0 := by
    refine up_ind (r 3) (fun i hi v z i0 i1 hv => ?_) (fun i hi ih v z i0 i1 hv => ?_)
    · refine hK.2 _ _ [(0, bc_R 218), (1, bc_I a), (2, bc_I b), (3, bc_I v), (4, bc_I i)] _ _ _ (ls_ _ _) ?_
      refine hK.1 [5] 60 _ _ _ _ _ ?_
      refine bc_ob_i (by decide) ?_
      refine bc_ob_i (by omega) ?_
      refine bc_br_i (fun c => by omega) (fun _ => ?_)
      refine h v ?_
      rcases hv with ⟨v0, hv⟩ | hv
      · exact .inl ⟨v0, fun k k0 k1 => hv k k0 (by omega)⟩
      · exact .inr hv
    · refine hK.2 _ _ [(0, bc_R 218), (1, bc_I a), (2, bc_I b), (3, bc_I v), (4, bc_I i)] _ _ _ (ls_ _ _) ?_
      obtain ⟨g0, g1, -⟩ := hW.2 i i0 (by omega)
      have no : ¬ jr_ r i a b → K 5 ([(0, bc_R 218), (1, bc_I a), (2, bc_I b), (3, bc_I v), (4, bc_I (i + 1))] ++ [(5, bc_I 0)]) [] σ 0 := fun q => ih v _ (by omega) (by omega) (by
        rcases hv with ⟨v0, hv⟩ | hv
        · refine .inl ⟨v0, fun k k0 k1 => ?_⟩
          by_cases e : k = i
          · rw [e]; exact q
          · exact hv k k0 (by omega)
        · exact .inr hv)
      refine hK.1 [5] 60 _ _ _ _ _ ?_
      refine bc_ob_i (by decide) ?_
      refine bc_ob_i (by omega) ?_
      refine bc_br_i (fun _ => ?_) (fun c => by omega)
      refine t_X11_ofM 16 hN hW i0 hi (by decide) rfl ?_
      refine bc_ob_i ⟨by omega, by omega, Nat.le_of_ble_eq_true rfl⟩ ?_
      refine bc_ob_i (by constructor <;> constructor <;> omega) ?_
      refine bc_br_i (fun c => ?_) (fun c => ?_)
      · refine t_X11_ofM 17 hN hW i0 hi (by decide) rfl ?_
        refine bc_ob_i ⟨by omega, by omega, Nat.le_of_ble_eq_true rfl⟩ ?_
        refine bc_ob_i (by constructor <;> constructor <;> omega) ?_
        refine bc_br_i (fun c2 => ?_) (fun c2 => ?_)
        · refine bc_ob_i (by decide) ?_
          refine bc_br_i (fun q => absurd q (by decide)) (fun _ => ?_)
          exact ih i [(5, bc_I 1)] (by omega) (by omega) (.inr ⟨i0, hi, c, c2⟩)
        · refine bc_ob_i (by decide) ?_
          refine bc_br_i (fun _ => ?_) (fun q => absurd rfl q)
          exact no (fun q => c2 q.2)
      · refine bc_ob_i (by decide) ?_
        refine bc_br_i (fun _ => ?_) (fun q => absurd rfl q)
        exact no (fun q => c q.1)
  refine hK.1 [5] 40 _ _ _ _ _ ?_
  exact L 0 (-1) [] (by omega) w.1 (.inl ⟨rfl, fun k k0 k1 => by omega⟩)
end REF
end
section
/-! the reference's history: h lists the remembered rows, the newest first -/
noncomputable def mh_ (σ : bc_M) (h : List rw_t) : Prop := σ.1 218 ((5 : Nat) : Int) = (h.length : Int) ∧ h.length ≤ 8 ∧ ∀ t : Nat, (ht : t < h.length) → ∀ j : Int, 0 ≤ j → j < 136 → σ.1 222 (136 * ((h.length : Int) - 1 - t) + j) = h[t] j
/-- of the object's own numbers only those of S may change -/
noncomputable def fj_ (S : Int → Prop) (σ σ' : bc_M) : Prop := ∀ j : Int, ¬ S j → σ'.1 218 j = σ.1 218 j
section REF
variable {g : bc_C} {d : Nat} {σ : bc_M} {r : rw_t} {Rr : Option bc_A → bc_M → Prop} {X : Nat → bc_M → Prop}
theorem t_X11_weighs (hN : nw_ σ 219 r) (h : Rr (some (bc_I (tw_ r))) σ) : bc_Sem g (d + 1) mX11_weighs [bc_R 218] σ Rr X := by
  have e0 := hN 12 (by decide) (by decide)
  have e1 := hN 13 (by decide) (by decide)
  have e2 := hN 14 (by decide) (by decide)
  have e3 := hN 15 (by decide) (by decide)
  refine e_X11_weighs rfl (fun K hK => ?_)
  have L : ∀ i : Int, ∀ s : Int, 0 ≤ i → i ≤ 4 → (i = 0 → s = 0) → (i = 1 → s = r 12) → (i = 2 → s = r 12 + r 13) → (i = 3 → s = r 12 + r 13 + r 14) → (i = 4 → s = tw_ r) → K 4 [(0, bc_R 218), (1, bc_I s), (2, bc_I i)] [] σ 0 := by
    refine up_ind 4 (fun i hi s h0 h1 q0 q1 q2 q3 q4 => ?_) (fun i hi ih s h0 h1 q0 q1 q2 q3 q4 => ?_)
    · refine hK.1 [4] 60 _ _ _ _ _ ?_
      refine bc_ob_i (by omega) ?_
      refine bc_br_i (fun c => by omega) (fun c => ?_)
      exact rt_ h (q4 (by omega))
    · have hv := hN (12 + i) (by omega) (by omega)
      refine hK.1 [4] 60 _ _ _ _ _ ?_
      refine bc_ob_i (by omega) ?_
      refine bc_br_i (fun c => ?_) (fun c => by omega)
      refine bc_ob_i (by omega) ?_
      unfold tw_ at ih
      have hh : i = 0 ∨ i = 1 ∨ i = 2 ∨ i = 3 := by omega
      rcases hh with rfl | rfl | rfl | rfl
      · exact ih _ (by omega) (by omega) (by omega) (fun _ => by rw [hv, q0 rfl]; simp) (by omega) (by omega) (by omega)
      · exact ih _ (by omega) (by omega) (by omega) (by omega) (fun _ => by rw [hv, q1 rfl]; simp) (by omega) (by omega)
      · exact ih _ (by omega) (by omega) (by omega) (by omega) (by omega) (fun _ => by rw [hv, q2 rfl]; simp) (by omega)
      · exact ih _ (by omega) (by omega) (by omega) (by omega) (by omega) (by omega) (fun _ => by rw [hv, q3 rfl]; simp)
  refine hK.1 [4] 40 _ _ _ _ _ ?_
  exact L 0 0 (by omega) (by omega) (by omega) (by omega) (by omega) (by omega) (by omega)
theorem t_X11_begins (hN : nw_ σ 219 r) (h : ∀ σ', nw_ σ' 220 r → fr_ (fun k => k = 220) σ σ' → Rr none σ') : bc_Sem g (d + 2) mX11_begins [bc_R 218] σ Rr X := by
  refine e_X11_begins rfl (fun K hK => ?_)
  refine hK.1 [] 60 _ _ _ _ _ ?_
  refine t_X11_copies (.inl ⟨rfl, rfl⟩) (by decide) (by decide) (fun σ' hc => ?_)
  refine h σ' (fun j j0 j1 => ?_) hc.1
  have := hc.2.1 j j0 j1
  rw [Int.zero_add] at this
  rw [this]
  exact hN j j0 j1
theorem t_X11_remembers {b : rw_t} {h : List rw_t} (hH : mh_ σ h) (hb : nw_ σ 220 b) (f : ∀ σ', mh_ σ' (hr_ h b) → fr_ (fun k => k = 218 ∨ k = 222) σ σ' → fj_ (fun j => j = 5) σ σ' → Rr none σ') : bc_Sem g (d + 2) mX11_remembers [bc_R 218] σ Rr X := by
  obtain ⟨h1, h2, h3⟩ := hH
  refine e_X11_remembers rfl (fun K hK => ?_)
  -- the newest row is laid down
  have last : ∀ (n : Nat) (σ1 : bc_M), n < 8 → ∀ nl : n ≤ h.length, n = min h.length 7 → σ1.1 218 ((5 : Nat) : Int) = n → (∀ t : Nat, (ht : t < n) → ∀ j : Int, 0 ≤ j → j < 136 → σ1.1 222 (136 * ((n : Int) - 1 - t) + j) = (h[t]'(by omega)) j) → fr_ (fun k => k = 218 ∨ k = 222) σ σ1 → fj_ (fun j => j = 5) σ σ1 → ∀ σ2, cc_ 220 222 0 (136 * n) 136 σ1 σ2 → Rr none (bc_wr σ2 218 ((5 : Nat) : Int) (σ2.1 218 ((5 : Nat) : Int) + 1)) := by
    intro n σ1 n8 nl nm e5 old F1 J1 σ2 hc
    have z5 : σ2.1 218 ((5 : Nat) : Int) = n := by rw [hc.1.1 218 (by decide)]; exact e5
    have lenh : (hr_ h b).length = n + 1 := by
      unfold hr_
      rw [List.length_take, List.length_cons]
      omega
    have z222 : (bc_wr σ2 218 ((5 : Nat) : Int) (σ2.1 218 ((5 : Nat) : Int) + 1)).1 222 = σ2.1 222 := bc_wr_ne (by decide)
    refine f _ ⟨?_, by omega, fun t ht j j0 j1 => ?_⟩ (fr_trans F1 (fr_trans (fr_mono hc.1 (fun k hk => .inr hk)) (fr_wr (.inl rfl)))) (fun j hj => ?_)
    · rw [lenh, z5]
      simp [bc_wr]
    · rw [z222, lenh]
      unfold hr_ at ht ⊢
      cases t with
      | zero =>
        have q := hc.2.1 j j0 j1
        have e : 136 * (((n + 1 : Nat) : Int) - 1 - ((0 : Nat) : Int)) + j = 136 * (n : Int) + j := by omega
        rw [e, q, Int.zero_add, F1.1 220 (by decide), hb j j0 j1]
        rfl
      | succ t =>
        have tn : t < n := by
          rw [List.length_take, List.length_cons] at ht
          omega
        have q := hc.2.2 (136 * ((n : Int) - 1 - t) + j) (by omega)
        have e : 136 * (((n + 1 : Nat) : Int) - 1 - ((t + 1 : Nat) : Int)) + j = 136 * ((n : Int) - 1 - t) + j := by omega
        have e9 : (List.take 8 (b :: h))[t + 1]'ht = h[t]'(by omega) := by
          rw [List.getElem_take]
          rfl
        rw [e, q, old t tn j j0 j1]
        exact (congrFun e9 j).symm
    · have hj' : j ≠ 5 := hj
      rw [← J1 j hj]
      simp [bc_wr, hj']
      rw [hc.1.1 218 (by decide)]
  have hn : 0 ≤ σ.1 218 ((5 : Nat) : Int) ∧ σ.1 218 ((5 : Nat) : Int) ≤ 8 := by omega
  by_cases c8 : h.length = 8
  · have L : ∀ i : Int, ∀ σ', 0 ≤ i → i ≤ 952 → (∀ k : Int, 0 ≤ k → k < i → σ'.1 222 k = σ.1 222 (k + 136)) → (∀ k : Int, i ≤ k → σ'.1 222 k = σ.1 222 k) → fr_ (fun k => k = 222) σ σ' → K 11 [(0, bc_R 218), (1, bc_I i)] [] σ' 0 := by
      refine up_ind 952 (fun i hi σ' i0 i1 q1 q2 F => ?_) (fun i hi ih σ' i0 i1 q1 q2 F => ?_)
      · have e5 : σ'.1 218 ((5 : Nat) : Int) = 8 := by rw [F.1 218 (by decide)]; omega
        have z5 : (bc_wr σ' 218 ((5 : Nat) : Int) (σ'.1 218 ((5 : Nat) : Int) - 1)).1 218 ((5 : Nat) : Int) = 7 := by
          rw [e5]
          simp [bc_wr]
        refine hK.1 [11] 60 _ _ _ _ _ ?_
        refine bc_ob_i (by omega) ?_
        refine bc_br_i (fun c => by omega) (fun _ => ?_)
        refine t_X11_copies (.inr (.inr (.inl ⟨rfl, rfl⟩))) (by decide) (by rw [z5]; decide) (fun σ2 hc => ?_)
        rw [z5] at hc
        refine last 7 _ (by decide) (by omega) (by omega) z5 (fun t ht j j0 j1 => ?_) (fr_trans (fr_mono F (fun k hk => .inr hk)) (fr_wr (.inl rfl))) (fun j hj => ?_) σ2 hc
        · rw [show (bc_wr σ' 218 ((5 : Nat) : Int) (σ'.1 218 ((5 : Nat) : Int) - 1)).1 222 = σ'.1 222 from bc_wr_ne (by decide)]
          rw [q1 _ (by omega) (by omega)]
          have := h3 t (by omega) j j0 j1
          have e9 : (h.length : Int) = 8 := by omega
          refine Eq.trans (congrArg (σ.1 222) ?_) this
          omega
        · have hj' : j ≠ 5 := hj
          simp [bc_wr, hj']
          rw [F.1 218 (by decide)]
      · refine hK.1 [11] 60 _ _ _ _ _ ?_
        refine bc_ob_i (by omega) ?_
        refine bc_br_i (fun _ => ?_) (fun c => by omega)
        refine bc_ob_i (by omega) ?_
        refine bc_ob_i (by omega) ?_
        refine ih _ (by omega) (by omega) (fun k k0 k1 => ?_) (fun k k0 => ?_) (fr_trans F (fr_wr rfl))
        · simp only [bc_wr, if_true]
          by_cases e : k = i
          · rw [if_pos e, q2 _ (by omega), e]
          · rw [if_neg e]
            exact q1 k k0 (by omega)
        · simp only [bc_wr, if_true]
          rw [if_neg (by omega)]
          exact q2 k (by omega)
    refine hK.1 [11] 60 _ _ _ _ _ ?_
    refine bc_ob_i (by omega) ?_
    refine bc_br_i (fun _ => ?_) (fun c => by omega)
    exact L 0 σ (by decide) (by decide) (fun k k0 k1 => by omega) (fun k _ => rfl) (fr_refl _)
  · refine hK.1 [11] 60 _ _ _ _ _ ?_
    refine bc_ob_i (by omega) ?_
    refine bc_br_i (fun c => by omega) (fun _ => ?_)
    refine t_X11_copies (.inr (.inr (.inl ⟨rfl, rfl⟩))) (by decide) ?_ (fun σ2 hc => ?_)
    · have : cn_ 222 = 1088 := rfl
      rw [this]
      omega
    · rw [h1, Int.mul_comm] at hc
      exact last h.length σ (by omega) (Nat.le_refl _) (by omega) h1 h3 (fr_refl _) (fun j _ => rfl) σ2 hc
end REF
end
section
/-! the reference's calls that change the state: q the row, h the history -/
noncomputable def rg_ (σ : bc_M) (q : rw_t) (h : List rw_t) : Prop := nw_ σ 219 q ∧ mh_ σ h
noncomputable abbrev ex_ (k : Nat) : Prop := k = 218 ∨ k = 219 ∨ k = 220 ∨ k = 222
noncomputable abbrev ej_ (j : Int) : Prop := j = 5 ∨ j = 14
theorem fj_trans {S : Int → Prop} {a b c : bc_M} (h : fj_ S a b) (k : fj_ S b c) : fj_ S a c := fun j hj => (k j hj).trans (h j hj)
theorem fj_fr {S : Int → Prop} {P : Nat → Prop} {σ σ' : bc_M} (h : fr_ P σ σ') (hp : ¬ P 218) : fj_ S σ σ' := fun j _ => by rw [h.1 218 hp]
theorem fj_mono {S T : Int → Prop} {a b : bc_M} (h : fj_ S a b) (st : ∀ j, S j → T j) : fj_ T a b := fun j hj => h j (fun q => hj (st j q))
theorem fj_wr {S : Int → Prop} {σ : bc_M} {i v : Int} (h : S i) : fj_ S σ (bc_wr σ 218 i v) := fun j hj => by
  have e : j ≠ i := fun e => hj (by rw [e]; exact h)
  simp [bc_wr, e]
theorem mh_fr {P : Nat → Prop} {σ σ' : bc_M} {h : List rw_t} (H : mh_ σ h) (hf : fr_ P σ σ') (h2 : ¬ P 222) (h5 : σ'.1 218 ((5 : Nat) : Int) = σ.1 218 ((5 : Nat) : Int)) : mh_ σ' h := by
  obtain ⟨a, b, c⟩ := H
  refine ⟨by rw [h5]; exact a, b, fun t ht j j0 j1 => ?_⟩
  rw [hf.1 222 h2]
  exact c t ht j j0 j1
section REF
variable {g : bc_C} {d : Nat} {σ : bc_M} {q b : rw_t} {h : List rw_t} {Rr : Option bc_A → bc_M → Prop} {X : Nat → bc_M → Prop}
theorem t_X11_ends {x t : Int} (hG : rg_ σ q h) (hb : nw_ σ 220 b) (ht : σ.1 218 ((14 : Nat) : Int) = t) (t0 : 0 ≤ t ∧ t ≤ 4) (h1 : t ≠ 0 → ∀ σ', rg_ σ' b h → σ'.1 218 ((14 : Nat) : Int) = t → fr_ ex_ σ σ' → fj_ ej_ σ σ' → Rr (some (bc_I 0)) σ') (h0 : t = 0 → ∀ σ', rg_ σ' q (hr_ h b) → σ'.1 218 ((14 : Nat) : Int) = 0 → fr_ ex_ σ σ' → fj_ ej_ σ σ' → Rr (some (bc_I x)) σ') : bc_Sem g (d + 3) mX11_ends [bc_R 218, bc_I x] σ Rr X := by
  obtain ⟨hq, hH⟩ := hG
  refine e_X11_ends rfl (fun K hK => ?_)
  refine hK.1 [] 60 _ _ _ _ _ ?_
  refine bc_ob_i (by omega) ?_
  refine bc_br_i (fun c => ?_) (fun c => ?_)
  · refine t_X11_remembers hH hb (fun σ' H' f' j' => ?_)
    refine h0 (by omega) σ' ⟨nw_fr hq f' (by decide), H'⟩ ?_ (fr_mono f' (fun k hk => by omega)) (fj_mono j' (fun j hj => .inl hj))
    rw [j' ((14 : Nat) : Int) (by decide), ht]
    omega
  · refine t_X11_copies (.inr (.inl ⟨rfl, rfl⟩)) (by decide) (by decide) (fun σ' hc => ?_)
    refine h1 (by omega) σ' ⟨fun j j0 j1 => ?_, mh_fr hH hc.1 (by decide) (by rw [hc.1.1 218 (by decide)])⟩ (by rw [hc.1.1 218 (by decide)]; exact ht) (fr_mono hc.1 (fun k hk => by omega)) (fj_fr hc.1 (by decide))
    have := hc.2.1 j j0 j1
    rw [Int.zero_add] at this
    rw [this]
    exact hb j j0 j1
theorem t_X11_forges {n : Int} (hG : rg_ σ q h) (hb : nw_ σ 220 b) (hn : bc_in n) (f : ∀ σ', rg_ σ' (if 0 ≤ n ∧ n ≤ 20 then up_ q 2 n else q) h → nw_ σ' 220 b → σ'.1 218 ((14 : Nat) : Int) = (if 0 ≤ n ∧ n ≤ 20 then 0 else 1) → fr_ ex_ σ σ' → fj_ ej_ σ σ' → Rr (some (bc_I (q 2))) σ') : bc_Sem g (d + 3) mX11_forges [bc_R 218, bc_I n] σ Rr X := by
  obtain ⟨hq, hH⟩ := hG
  have e2 := hq 2 (by decide) (by decide)
  refine e_X11_forges rfl (fun K hK => ?_)
  refine hK.1 [] 60 _ _ _ _ _ ?_
  refine bc_ob_i (by decide) ?_
  refine t_X11_isIn hn (by decide) (by decide) ?_
  by_cases c : 0 ≤ n ∧ n ≤ 20
  · rw [if_pos c, if_pos c] at f
    rw [if_pos c]
    refine t_X11_goes (by decide) ?_
    refine bc_ob_i (by decide) ?_
    refine bc_br_i (fun q => absurd q (by decide)) (fun _ => ?_)
    refine bc_ob_i (by decide) ?_
    have f1 : fr_ (fun k => k = 218) σ (bc_wr σ 218 ((14 : Nat) : Int) (1 - 1)) := fr_wr rfl
    have f2 : fr_ (fun k => k = 218 ∨ k = 219) σ (bc_wr (bc_wr σ 218 ((14 : Nat) : Int) (1 - 1)) 219 2 n) := fr_trans (fr_mono f1 (fun k hk => .inl hk)) (fr_wr (.inr rfl))
    refine rt_ (f _ ⟨nw_wr (nw_fr hq f1 (by decide)), mh_fr hH f2 (by decide) (by simp [bc_wr])⟩ (nw_fr hb f2 (by decide)) (by simp [bc_wr]) (fr_mono f2 (fun k hk => by omega)) (fj_trans (fj_wr (.inr rfl)) (fj_fr (fr_wr (P := fun k => k = 219) rfl) (by decide)))) e2
  · rw [if_neg c, if_neg c] at f
    rw [if_neg c]
    refine t_X11_goes (by decide) ?_
    refine bc_ob_i (by decide) ?_
    refine bc_br_i (fun _ => ?_) (fun q => absurd rfl q)
    have f1 : fr_ (fun k => k = 218) σ (bc_wr σ 218 ((14 : Nat) : Int) (1 - 0)) := fr_wr rfl
    refine rt_ (f _ ⟨nw_fr hq f1 (by decide), mh_fr hH f1 (by decide) (by simp [bc_wr])⟩ (nw_fr hb f1 (by decide)) (by simp [bc_wr]) (fr_mono f1 (fun k hk => by omega)) (fj_wr (.inr rfl))) e2
theorem t_X11_setForge {n : Int} (hG : rg_ σ q h) (hn : bc_in n) (h1 : ¬ (0 ≤ n ∧ n ≤ 20) → ∀ σ', rg_ σ' q h → σ'.1 218 ((14 : Nat) : Int) = 1 → fr_ ex_ σ σ' → fj_ ej_ σ σ' → Rr (some (bc_I 0)) σ') (h0 : 0 ≤ n → n ≤ 20 → ∀ σ', rg_ σ' (up_ q 2 n) (hr_ h q) → σ'.1 218 ((14 : Nat) : Int) = 0 → fr_ ex_ σ σ' → fj_ ej_ σ σ' → Rr (some (bc_I (q 2))) σ') : bc_Sem g (d + 4) mX11_setForge [bc_R 218, bc_I n] σ Rr X := by
  refine e_X11_setForge rfl (fun K hK => ?_)
  refine hK.1 [] 60 _ _ _ _ _ ?_
  refine t_X11_begins hG.1 (fun σ1 b1 f1 => ?_)
  have F1 : fr_ ex_ σ σ1 := fr_mono f1 (fun k hk => by omega)
  have G1 : rg_ σ1 q h := ⟨nw_fr hG.1 f1 (by decide), mh_fr hG.2 f1 (by decide) (by rw [f1.1 218 (by decide)])⟩
  have J1 : fj_ ej_ σ σ1 := fj_fr f1 (by decide)
  refine t_X11_forges G1 b1 hn (fun σ2 G2 b2 t2 f2 j2 => ?_)
  by_cases c : 0 ≤ n ∧ n ≤ 20
  · rw [if_pos c] at G2 t2
    refine t_X11_ends G2 b2 t2 (by decide) (fun e => absurd rfl e) (fun _ σ3 G3 t3 f3 j3 => ?_)
    exact h0 c.1 c.2 σ3 G3 t3 (fr_trans F1 (fr_trans f2 f3)) (fj_trans J1 (fj_trans j2 j3))
  · rw [if_neg c] at G2 t2
    refine t_X11_ends G2 b2 t2 (by decide) (fun _ σ3 G3 t3 f3 j3 => ?_) (fun e => absurd e (by decide))
    exact h1 c σ3 G3 t3 (fr_trans F1 (fr_trans f2 f3)) (fj_trans J1 (fj_trans j2 j3))
end REF
end
section
section REF
variable {g : bc_C} {d : Nat} {σ : bc_M} {q b : rw_t} {h : List rw_t} {Rr : Option bc_A → bc_M → Prop} {X : Nat → bc_M → Prop}
theorem t_X11_isDue {a : Int} (hN : nw_ σ 219 q) (h0 : 0 ≤ q 0 ∧ q 0 ≤ 1000000) (ha : bc_in a) (h : Rr (some (bc_I (if q 0 < a ∧ a ≤ q 0 + 50 then 1 else 0))) σ) : bc_Sem g (d + 1) mX11_isDue [bc_R 218, bc_I a] σ Rr X := by
  obtain ⟨a0, a1⟩ := ha
  have e0 := hN 0 (by decide) (by decide)
  refine e_X11_isDue rfl (fun K hK => ?_)
  refine hK.1 [] 60 _ _ _ _ _ ?_
  refine bc_ob_i (by decide) ?_
  refine bc_ob_i (by omega) ?_
  refine bc_br_i (fun c => ?_) (fun c => ?_)
  · refine bc_ob_i (by decide) ?_
    refine bc_ob_i (by omega) ?_
    refine bc_br_i (fun c2 => ?_) (fun c2 => ?_)
    · refine bc_ob_i (by decide) ?_
      exact rt_ h (if_neg (by omega)).symm
    · refine bc_ob_i (by decide) ?_
      exact rt_ h (if_pos (by omega)).symm
  · refine bc_ob_i (by decide) ?_
    exact rt_ h (if_neg (by omega)).symm
theorem t_X11_leftOnes (hN : nw_ σ 219 q) (hW : wf_M q) (h : Rr (some (bc_I (ab_ q))) σ) : bc_Sem g (d + 5) mX11_leftOnes [bc_R 218] σ Rr X := by
  have w := hW.1
  have e3 := hN 3 (by decide) (by decide)
  refine e_X11_leftOnes rfl (fun K hK => ?_)
  have L : ∀ i : Int, ∀ s : Int, 0 ≤ i → i ≤ q 3 → s = sm_ (fun k => q (21 + 6 * k)) i.toNat → K 4 [(0, bc_R 218), (1, bc_I s), (2, bc_I i)] [] σ 0 := by
    refine up_ind (q 3) (fun i hi s i0 i1 hs => ?_) (fun i hi ih s i0 i1 hs => ?_)
    · have e : i = q 3 := by omega
      refine hK.1 [4] 60 _ _ _ _ _ ?_
      refine bc_ob_i (by decide) ?_
      refine bc_ob_i (by omega) ?_
      refine bc_br_i (fun c => by omega) (fun _ => ?_)
      refine rt_ h ?_
      rw [hs, e]
      rfl
    · have es := sm_s (f := fun k => q (21 + 6 * k)) i0
      refine hK.1 [4] 60 _ _ _ _ _ ?_
      refine bc_ob_i (by decide) ?_
      refine bc_ob_i (by omega) ?_
      refine bc_br_i (fun _ => ?_) (fun c => by omega)
      refine t_X11_ofM 21 hN hW i0 hi (by decide) rfl ?_
      exact ih _ (by omega) (by omega) (by rw [es, hs])
  refine hK.1 [4] 40 _ _ _ _ _ ?_
  exact L 0 0 (by decide) w.1 rfl
theorem t_X11_vows {a u : Int} (hG : rg_ σ q h) (hb : nw_ σ 220 b) (h0 : 0 ≤ q 0 ∧ q 0 ≤ 1000000) (h4 : 0 ≤ q 4 ∧ q 4 ≤ 8) (ha : bc_in a) (hu : bc_in u)
    (f1 : vq_ q a u ≠ 0 → ∀ σ', rg_ σ' q h → nw_ σ' 220 b → σ'.1 218 ((14 : Nat) : Int) = (if vq_ q a u = 2 then 1 else 2) → fr_ ex_ σ σ' → fj_ ej_ σ σ' → Rr (some (bc_I 0)) σ')
    (f0 : vq_ q a u = 0 → ∀ σ', rg_ σ' (rv_ q a u) h → nw_ σ' 220 b → σ'.1 218 ((14 : Nat) : Int) = 0 → fr_ ex_ σ σ' → fj_ ej_ σ σ' → Rr (some (bc_I (q 5))) σ') : bc_Sem g (d + 3) mX11_vows [bc_R 218, bc_I a, bc_I u] σ Rr X := by
  obtain ⟨hq, hH⟩ := hG
  have e4 := hq 4 (by decide) (by decide)
  have e5 := hq 5 (by decide) (by decide)
  refine e_X11_vows rfl (fun K hK => ?_)
  -- after the two answers
  have body : ∀ (x : Int), (x = if (q 0 < a ∧ a ≤ q 0 + 50) ∧ 1 ≤ u ∧ u ≤ 99 then 1 else 0) → ∀ y : Int, (y = if q 4 < 8 then 1 else 0) → (ho_ x y 1 1 = 0 ↔ vq_ q a u = 0) ∧ (vq_ q a u ≠ 0 → ho_ x y 1 1 = if vq_ q a u = 2 then 1 else 2) := by
    intro x hx y hy
    unfold ho_ vq_
    by_cases c1 : (q 0 < a ∧ a ≤ q 0 + 50) ∧ 1 ≤ u ∧ u ≤ 99
    · rw [if_pos c1] at hx
      subst hx
      rw [if_neg (show ¬ (¬ (q 0 < a ∧ a ≤ q 0 + 50) ∨ u < 1 ∨ 99 < u) by omega)]
      by_cases c2 : q 4 < 8
      · rw [if_pos c2] at hy
        subst hy
        rw [if_neg (show ¬ 8 ≤ q 4 by omega)]
        decide
      · rw [if_neg c2] at hy
        subst hy
        rw [if_pos (show 8 ≤ q 4 by omega)]
        decide
    · rw [if_neg c1] at hx
      subst hx
      rw [if_pos (show ¬ (q 0 < a ∧ a ≤ q 0 + 50) ∨ u < 1 ∨ 99 < u by omega)]
      simp
  have T2 : ∀ (x y : Int), (x = if (q 0 < a ∧ a ≤ q 0 + 50) ∧ 1 ≤ u ∧ u ≤ 99 then 1 else 0) → (y = if q 4 < 8 then 1 else 0) → K 40 [(0, bc_R 218), (1, bc_I a), (2, bc_I u)] [bc_I y, bc_I x, bc_R 218] σ 0 := by
    intro x y hx hy
    obtain ⟨t1, t2⟩ := body x hx y hy
    have lx : 0 ≤ x ∧ x ≤ 1 := by rw [hx]; split <;> omega
    have ly : 0 ≤ y ∧ y ≤ 1 := by rw [hy]; split <;> omega
    refine hK.1 [] 80 _ _ _ _ _ ?_
    refine t_X11_holds lx ly (by decide) (by decide) ?_
    have g1 : fr_ (fun k => k = 218) σ (bc_wr σ 218 ((14 : Nat) : Int) (ho_ x y 1 1)) := fr_wr rfl
    have z14 : (bc_wr σ 218 ((14 : Nat) : Int) (ho_ x y 1 1)).1 218 ((14 : Nat) : Int) = ho_ x y 1 1 := by simp [bc_wr]
    have hH1 : mh_ (bc_wr σ 218 ((14 : Nat) : Int) (ho_ x y 1 1)) h := mh_fr hH g1 (by decide) (by simp [bc_wr])
    have hq1 := nw_fr hq g1 (by decide)
    have hb1 := nw_fr hb g1 (by decide)
    have j1 : fj_ ej_ σ (bc_wr σ 218 ((14 : Nat) : Int) (ho_ x y 1 1)) := fj_wr (.inr rfl)
    generalize bc_wr σ 218 ((14 : Nat) : Int) (ho_ x y 1 1) = s0 at *
    by_cases c : vq_ q a u = 0
    · have c' := t1.mpr c
      have p8 := vq_0 c.symm
      rw [if_pos c']
      have r4 := hq1 4 (by decide) (by decide)
      have r5 := hq1 5 (by decide) (by decide)
      have n1 := nw_wr (i := 112 + 3 * s0.1 219 4 + 0) (v := s0.1 219 5) hq1
      have n2 := nw_wr (i := 112 + 3 * s0.1 219 4 + 1) (v := a) n1
      have n3 := nw_wr (i := 112 + 3 * s0.1 219 4 + 2) (v := u) n2
      generalize hs3 : bc_wr (bc_wr (bc_wr s0 219 (112 + 3 * s0.1 219 4 + 0) (s0.1 219 5)) 219 (112 + 3 * s0.1 219 4 + 1) a) 219 (112 + 3 * s0.1 219 4 + 2) u = s3 at n3
      have k4 : s3.1 219 4 = q 4 := by
        rw [n3 4 (by decide) (by decide), up_ne (by omega), up_ne (by omega), up_ne (by omega)]
      have n4 := nw_wr (i := 4) (v := s3.1 219 4 + 1) n3
      have k5 : (bc_wr s3 219 4 (s3.1 219 4 + 1)).1 219 5 = q 5 := by
        rw [n4 5 (by decide) (by decide), up_ne (by decide), up_ne (by omega), up_ne (by omega), up_ne (by omega)]
      have n5 := nw_wr (i := 5) (v := (bc_wr s3 219 4 (s3.1 219 4 + 1)).1 219 5 + 1) n4
      have er : up_ (up_ (up_ (up_ (up_ q (112 + 3 * s0.1 219 4 + 0) (s0.1 219 5)) (112 + 3 * s0.1 219 4 + 1) a) (112 + 3 * s0.1 219 4 + 2) u) 4 (s3.1 219 4 + 1)) 5 ((bc_wr s3 219 4 (s3.1 219 4 + 1)).1 219 5 + 1) = rv_ q a u := by
        unfold rv_
        rw [k5, k4, r4, r5, show 112 + 3 * q 4 + 0 = 112 + 3 * q 4 by omega, show 112 + 3 * q 4 + 1 = 113 + 3 * q 4 by omega, show 112 + 3 * q 4 + 2 = 114 + 3 * q 4 by omega]
      rw [er] at n5
      have f5 : fr_ (fun k => k = 219) s0 (bc_wr (bc_wr s3 219 4 (s3.1 219 4 + 1)) 219 5 ((bc_wr s3 219 4 (s3.1 219 4 + 1)).1 219 5 + 1)) := by
        rw [← hs3]
        exact fr_trans (fr_wr rfl) (fr_trans (fr_wr rfl) (fr_trans (fr_wr rfl) (fr_trans (fr_wr rfl) (fr_wr rfl))))
      have fin := f0 c _ ⟨n5, mh_fr hH1 f5 (by decide) (by rw [f5.1 218 (by decide)])⟩ (nw_fr hb1 f5 (by decide)) (by rw [f5.1 218 (by decide), z14]; exact c') (fr_trans (fr_mono g1 (fun k hk => by omega)) (fr_mono f5 (fun k hk => by omega))) (fj_trans j1 (fj_fr f5 (by decide)))
      have k6 := n5 5 (by decide) (by decide)
      have v5 : rv_ q a u 5 = q 5 + 1 := up_at
      rw [← hs3] at fin k6
      refine bc_ob_i (by decide) ?_
      refine bc_br_i (fun q => absurd q (by decide)) (fun _ => ?_)
      refine bc_ob_i (by decide) ?_
      refine bc_ob_i (by decide) ?_
      refine bc_ob_i (by omega) ?_
      refine bc_ob_i (by omega) ?_
      refine bc_ob_i (by omega) ?_
      refine bc_ob_i (by decide) ?_
      refine bc_ob_i (by decide) ?_
      refine bc_ob_i (by decide) ?_
      refine bc_ob_i (by decide) ?_
      refine bc_ob_i (by decide) ?_
      exact rt_ fin (by rw [k6, v5]; omega)
    · have c' : ¬ ho_ x y 1 1 = 0 := fun e => c (t1.mp e)
      rw [if_neg c']
      refine bc_ob_i (by decide) ?_
      refine bc_br_i (fun _ => ?_) (fun q => absurd rfl q)
      exact f1 c _ ⟨hq1, hH1⟩ hb1 (by rw [z14]; exact t2 c) (fr_mono g1 (fun k hk => by omega)) j1
  have T : ∀ (x : Int), (x = if (q 0 < a ∧ a ≤ q 0 + 50) ∧ 1 ≤ u ∧ u ≤ 99 then 1 else 0) → K 24 [(0, bc_R 218), (1, bc_I a), (2, bc_I u)] [bc_I x, bc_R 218] σ 0 := by
    intro x hx
    refine hK.1 [40] 40 _ _ _ _ _ ?_
    refine bc_ob_i (by decide) ?_
    refine bc_ob_i (by omega) ?_
    refine bc_br_i (fun c => ?_) (fun c => ?_)
    · exact T2 x 1 hx (if_pos (by omega)).symm
    · exact T2 x 0 hx (if_neg (by omega)).symm
  refine hK.1 [24] 40 _ _ _ _ _ ?_
  refine t_X11_isDue hq h0 ha ?_
  refine bc_ob_i (by split <;> omega) ?_
  refine bc_br_i (fun c => ?_) (fun c => ?_)
  · exact T 0 (if_neg (by split at c <;> omega)).symm
  · refine t_X11_isIn hu (by decide) (by decide) ?_
    refine bc_ob_i (by split <;> omega) ?_
    refine bc_br_i (fun c2 => ?_) (fun c2 => ?_)
    · exact T 0 (if_neg (by split at c2 <;> omega)).symm
    · exact T 1 (if_pos (by split at c <;> split at c2 <;> omega)).symm
end REF
end
section
section REF
variable {g : bc_C} {d : Nat} {σ : bc_M} {q b : rw_t} {h : List rw_t} {Rr : Option bc_A → bc_M → Prop} {X : Nat → bc_M → Prop}
theorem t_X11_makeVow {a u : Int} (hG : rg_ σ q h) (h0 : 0 ≤ q 0 ∧ q 0 ≤ 1000000) (h4 : 0 ≤ q 4 ∧ q 4 ≤ 8) (ha : bc_in a) (hu : bc_in u)
    (f1 : vq_ q a u ≠ 0 → ∀ σ', rg_ σ' q h → σ'.1 218 ((14 : Nat) : Int) = (if vq_ q a u = 2 then 1 else 2) → fr_ ex_ σ σ' → fj_ ej_ σ σ' → Rr (some (bc_I 0)) σ')
    (f0 : vq_ q a u = 0 → ∀ σ', rg_ σ' (rv_ q a u) (hr_ h q) → σ'.1 218 ((14 : Nat) : Int) = 0 → fr_ ex_ σ σ' → fj_ ej_ σ σ' → Rr (some (bc_I (q 5))) σ') : bc_Sem g (d + 4) mX11_makeVow [bc_R 218, bc_I a, bc_I u] σ Rr X := by
  refine e_X11_makeVow rfl (fun K hK => ?_)
  refine hK.1 [] 60 _ _ _ _ _ ?_
  refine t_X11_begins hG.1 (fun σ1 b1 g1 => ?_)
  have F1 : fr_ ex_ σ σ1 := fr_mono g1 (fun k hk => by omega)
  have G1 : rg_ σ1 q h := ⟨nw_fr hG.1 g1 (by decide), mh_fr hG.2 g1 (by decide) (by rw [g1.1 218 (by decide)])⟩
  have J1 : fj_ ej_ σ σ1 := fj_fr g1 (by decide)
  refine t_X11_vows G1 b1 h0 h4 ha hu (fun c σ2 G2 b2 t2 g2 j2 => ?_) (fun c σ2 G2 b2 t2 g2 j2 => ?_)
  · refine t_X11_ends G2 b2 t2 (by split <;> omega) (fun _ σ3 G3 t3 g3 j3 => ?_) (fun e => absurd e (by split <;> omega))
    exact f1 c σ3 G3 t3 (fr_trans F1 (fr_trans g2 g3)) (fj_trans J1 (fj_trans j2 j3))
  · refine t_X11_ends G2 b2 t2 (by decide) (fun e => absurd rfl e) (fun _ σ3 G3 t3 g3 j3 => ?_)
    exact f0 c σ3 G3 t3 (fr_trans F1 (fr_trans g2 g3)) (fj_trans J1 (fj_trans j2 j3))
theorem t_X11_leaves {m w : Int} (hG : rg_ σ q h) (hb : nw_ σ 220 b) (hW : wf_M q) (hm : bc_in m) (hw : 0 ≤ w ∧ w ≤ 1)
    (f1 : lq_ q m (1 - w) ≠ 0 → ∀ σ', rg_ σ' q h → nw_ σ' 220 b → σ'.1 218 ((14 : Nat) : Int) = (if lq_ q m (1 - w) = 1 then 1 else 2) → fr_ ex_ σ σ' → fj_ ej_ σ σ' → Rr (some (bc_I 0)) σ')
    (f0 : lq_ q m (1 - w) = 0 → ∀ σ', rg_ σ' (rl_ q m w) h → nw_ σ' 220 b → σ'.1 218 ((14 : Nat) : Int) = 0 → fr_ ex_ σ σ' → fj_ ej_ σ σ' → Rr (some (bc_I (ab_ (rl_ q m w)))) σ') : bc_Sem g (d + 6) mX11_leaves [bc_R 218, bc_I m, bc_I w] σ Rr X := by
  obtain ⟨hq, hH⟩ := hG
  have h3 := hW.1
  have hpl := pl_le (m := m) (j := 5) h3 (by decide)
  have lv : 0 ≤ q (pl_ q m 5) ∧ q (pl_ q m 5) ≤ 1 := by
    by_cases c : 0 ≤ m ∧ m < q 3
    · rw [pl_at c.1 c.2]
      exact (hW.2 m c.1 (by omega)).2.2.2.2.2
    · unfold pl_
      rw [if_neg c]
      exact (hW.2 0 (by decide) (by decide)).2.2.2.2.2
  refine e_X11_leaves rfl (fun K hK => ?_)
  have T : ∀ (x y : Int), (x = if 0 ≤ m ∧ m < q 3 then 1 else 0) → (y = if q (pl_ q m 5) = w then 0 else 1) → K 21 [(0, bc_R 218), (1, bc_I m), (2, bc_I w)] [bc_I y, bc_I x, bc_R 218] σ 0 := by
    intro x y hx hy
    have lx : 0 ≤ x ∧ x ≤ 1 := by rw [hx]; split <;> omega
    have ly : 0 ≤ y ∧ y ≤ 1 := by rw [hy]; split <;> omega
    have t1 : (ho_ x y 1 1 = 0 ↔ lq_ q m (1 - w) = 0) ∧ (lq_ q m (1 - w) ≠ 0 → ho_ x y 1 1 = if lq_ q m (1 - w) = 1 then 1 else 2) := by
      unfold ho_ lq_
      by_cases c1 : 0 ≤ m ∧ m < q 3
      · rw [if_pos c1] at hx
        rw [pl_at c1.1 c1.2] at hy lv
        have e21 : (16 : Int) + 5 + 6 * m = 21 + 6 * m := by omega
        rw [e21] at hy lv
        subst hx
        rw [if_neg (show ¬ ¬ (0 ≤ m ∧ m < q 3) by omega)]
        by_cases c2 : q (21 + 6 * m) = w
        · rw [if_pos c2] at hy
          subst hy
          rw [if_neg (show ¬ q (21 + 6 * m) = 1 - w by omega)]
          decide
        · rw [if_neg c2] at hy
          subst hy
          rw [if_pos (show q (21 + 6 * m) = 1 - w by omega)]
          decide
      · rw [if_neg c1] at hx
        subst hx
        rw [if_pos c1]
        simp
    refine hK.1 [] 80 _ _ _ _ _ ?_
    refine t_X11_holds lx ly (by decide) (by decide) ?_
    have g1 : fr_ (fun k => k = 218) σ (bc_wr σ 218 ((14 : Nat) : Int) (ho_ x y 1 1)) := fr_wr rfl
    have z14 : (bc_wr σ 218 ((14 : Nat) : Int) (ho_ x y 1 1)).1 218 ((14 : Nat) : Int) = ho_ x y 1 1 := by simp [bc_wr]
    have hH1 : mh_ (bc_wr σ 218 ((14 : Nat) : Int) (ho_ x y 1 1)) h := mh_fr hH g1 (by decide) (by simp [bc_wr])
    have hq1 := nw_fr hq g1 (by decide)
    have hb1 := nw_fr hb g1 (by decide)
    have j1 : fj_ ej_ σ (bc_wr σ 218 ((14 : Nat) : Int) (ho_ x y 1 1)) := fj_wr (.inr rfl)
    generalize bc_wr σ 218 ((14 : Nat) : Int) (ho_ x y 1 1) = s0 at *
    by_cases c : lq_ q m (1 - w) = 0
    · have c' := t1.1.mpr c
      have pm := lq_0 c.symm
      rw [if_pos c']
      have n1 := nw_wr (i := pl_ q m 5) (v := w) hq1
      have er : up_ q (pl_ q m 5) w = rl_ q m w := by
        rw [pl_at pm.1 pm.2, show (16 : Int) + 5 + 6 * m = 21 + 6 * m by omega]
        rfl
      rw [er] at n1
      have f5 : fr_ (fun k => k = 219) s0 (bc_wr s0 219 (pl_ q m 5) w) := fr_wr rfl
      refine bc_ob_i (by decide) ?_
      refine bc_br_i (fun q => absurd q (by decide)) (fun _ => ?_)
      refine t_X11_place hq1 h3 hm ?_
      refine bc_ob_i hpl ?_
      refine t_X11_leftOnes n1 (rl_wf hW pm.1 (by omega) hw).1 ?_
      exact f0 c _ ⟨n1, mh_fr hH1 f5 (by decide) (by rw [f5.1 218 (by decide)])⟩ (nw_fr hb1 f5 (by decide)) (by rw [f5.1 218 (by decide), z14]; exact c') (fr_trans (fr_mono g1 (fun k hk => by omega)) (fr_mono f5 (fun k hk => by omega))) (fj_trans j1 (fj_fr f5 (by decide)))
    · have c' : ¬ ho_ x y 1 1 = 0 := fun e => c (t1.1.mp e)
      rw [if_neg c']
      refine bc_ob_i (by decide) ?_
      refine bc_br_i (fun _ => ?_) (fun q => absurd rfl q)
      exact f1 c _ ⟨hq1, hH1⟩ hb1 (by rw [z14]; exact t1.2 c) (fr_mono g1 (fun k hk => by omega)) j1
  refine hK.1 [21] 60 _ _ _ _ _ ?_
  refine t_X11_isMember hq h3 hm ?_
  refine t_X11_of hq h3 hm (by decide) ?_
  refine bc_ob_i (by omega) ?_
  refine bc_br_i (fun c => ?_) (fun c => ?_)
  · exact T _ 0 rfl (if_pos c).symm
  · exact T _ 1 rfl (if_neg c).symm
end REF
end
section
section REF
variable {g : bc_C} {d : Nat} {σ : bc_M} {q b : rw_t} {h : List rw_t} {Rr : Option bc_A → bc_M → Prop} {X : Nat → bc_M → Prop}
theorem t_X11_abandon {m : Int} (hG : rg_ σ q h) (hW : wf_M q) (hm : bc_in m)
    (f1 : lq_ q m (1 - 1) ≠ 0 → ∀ σ', rg_ σ' q h → σ'.1 218 ((14 : Nat) : Int) = (if lq_ q m (1 - 1) = 1 then 1 else 2) → fr_ ex_ σ σ' → fj_ ej_ σ σ' → Rr (some (bc_I 0)) σ')
    (f0 : lq_ q m (1 - 1) = 0 → ∀ σ', rg_ σ' (rl_ q m 1) (hr_ h q) → σ'.1 218 ((14 : Nat) : Int) = 0 → fr_ ex_ σ σ' → fj_ ej_ σ σ' → Rr (some (bc_I (ab_ (rl_ q m 1)))) σ') : bc_Sem g (d + 7) mX11_abandon [bc_R 218, bc_I m] σ Rr X := by
  refine e_X11_abandon rfl (fun K hK => ?_)
  refine hK.1 [] 60 _ _ _ _ _ ?_
  refine t_X11_begins hG.1 (fun σ1 b1 g1 => ?_)
  have F1 : fr_ ex_ σ σ1 := fr_mono g1 (fun k hk => by omega)
  have G1 : rg_ σ1 q h := ⟨nw_fr hG.1 g1 (by decide), mh_fr hG.2 g1 (by decide) (by rw [g1.1 218 (by decide)])⟩
  have J1 : fj_ ej_ σ σ1 := fj_fr g1 (by decide)
  refine t_X11_leaves G1 b1 hW hm (by decide) (fun c σ2 G2 b2 t2 g2 j2 => ?_) (fun c σ2 G2 b2 t2 g2 j2 => ?_)
  · refine t_X11_ends G2 b2 t2 (by split <;> omega) (fun _ σ3 G3 t3 g3 j3 => ?_) (fun e => absurd e (by split <;> omega))
    exact f1 c σ3 G3 t3 (fr_trans F1 (fr_trans g2 g3)) (fj_trans J1 (fj_trans j2 j3))
  · refine t_X11_ends G2 b2 t2 (by decide) (fun e => absurd rfl e) (fun _ σ3 G3 t3 g3 j3 => ?_)
    exact f0 c σ3 G3 t3 (fr_trans F1 (fr_trans g2 g3)) (fj_trans J1 (fj_trans j2 j3))
theorem t_X11_resume {m : Int} (hG : rg_ σ q h) (hW : wf_M q) (hm : bc_in m)
    (f1 : lq_ q m (1 - 0) ≠ 0 → ∀ σ', rg_ σ' q h → σ'.1 218 ((14 : Nat) : Int) = (if lq_ q m (1 - 0) = 1 then 1 else 2) → fr_ ex_ σ σ' → fj_ ej_ σ σ' → Rr (some (bc_I 0)) σ')
    (f0 : lq_ q m (1 - 0) = 0 → ∀ σ', rg_ σ' (rl_ q m 0) (hr_ h q) → σ'.1 218 ((14 : Nat) : Int) = 0 → fr_ ex_ σ σ' → fj_ ej_ σ σ' → Rr (some (bc_I (ab_ (rl_ q m 0)))) σ') : bc_Sem g (d + 7) mX11_resume [bc_R 218, bc_I m] σ Rr X := by
  refine e_X11_resume rfl (fun K hK => ?_)
  refine hK.1 [] 60 _ _ _ _ _ ?_
  refine t_X11_begins hG.1 (fun σ1 b1 g1 => ?_)
  have F1 : fr_ ex_ σ σ1 := fr_mono g1 (fun k hk => by omega)
  have G1 : rg_ σ1 q h := ⟨nw_fr hG.1 g1 (by decide), mh_fr hG.2 g1 (by decide) (by rw [g1.1 218 (by decide)])⟩
  have J1 : fj_ ej_ σ σ1 := fj_fr g1 (by decide)
  refine t_X11_leaves G1 b1 hW hm (by decide) (fun c σ2 G2 b2 t2 g2 j2 => ?_) (fun c σ2 G2 b2 t2 g2 j2 => ?_)
  · refine t_X11_ends G2 b2 t2 (by split <;> omega) (fun _ σ3 G3 t3 g3 j3 => ?_) (fun e => absurd e (by split <;> omega))
    exact f1 c σ3 G3 t3 (fr_trans F1 (fr_trans g2 g3)) (fj_trans J1 (fj_trans j2 j3))
  · refine t_X11_ends G2 b2 t2 (by decide) (fun e => absurd rfl e) (fun _ σ3 G3 t3 g3 j3 => ?_)
    exact f0 c σ3 G3 t3 (fr_trans F1 (fr_trans g2 g3)) (fj_trans J1 (fj_trans j2 j3))
end REF
end
section
noncomputable def ez_ (q : rw_t) (c i : Int) : rw_t := fun j => if j = 11 then c else if 12 ≤ j ∧ j < 12 + i then 0 else q j
section REF
variable {g : bc_C} {d : Nat} {σ : bc_M} {q b : rw_t} {h : List rw_t} {Rr : Option bc_A → bc_M → Prop} {X : Nat → bc_M → Prop}
theorem t_X11_empties {c : Int} (hG : rg_ σ q h) (hb : nw_ σ 220 b) (hc : bc_in c) (f : ∀ σ', rg_ σ' (if c = 99 ∨ c = 108 then re_ q c else q) h → nw_ σ' 220 b → σ'.1 218 ((14 : Nat) : Int) = (if c = 99 ∨ c = 108 then 0 else 1) → fr_ ex_ σ σ' → fj_ ej_ σ σ' → Rr (some (bc_I (tw_ q))) σ') : bc_Sem g (d + 3) mX11_empties [bc_R 218, bc_I c] σ Rr X := by
  obtain ⟨hq, hH⟩ := hG
  refine e_X11_empties rfl (fun K hK => ?_)
  by_cases ck : c = 99 ∨ c = 108
  · rw [if_pos ck, if_pos ck] at f
    have f1 : fr_ (fun k => k = 218) σ (bc_wr σ 218 ((14 : Nat) : Int) (1 - 1)) := fr_wr rfl
    have hH1 : mh_ (bc_wr σ 218 ((14 : Nat) : Int) (1 - 1)) h := mh_fr hH f1 (by decide) (by simp [bc_wr])
    have z14 : (bc_wr σ 218 ((14 : Nat) : Int) (1 - 1)).1 218 ((14 : Nat) : Int) = 0 := by simp [bc_wr]
    have hq1 := nw_fr hq f1 (by decide)
    have hb1 := nw_fr hb f1 (by decide)
    have j1 : fj_ ej_ σ (bc_wr σ 218 ((14 : Nat) : Int) (1 - 1)) := fj_wr (.inr rfl)
    have F1 : fr_ ex_ σ (bc_wr σ 218 ((14 : Nat) : Int) (1 - 1)) := fr_mono f1 (fun k hk => by omega)
    have L : ∀ i : Int, ∀ σ', 0 ≤ i → i ≤ 4 → nw_ σ' 219 (ez_ q c i) → fr_ (fun k => k = 219) (bc_wr σ 218 ((14 : Nat) : Int) (1 - 1)) σ' → K 26 [(0, bc_R 218), (1, bc_I c), (2, bc_I (tw_ q)), (3, bc_I i)] [] σ' 0 := by
      refine up_ind 4 (fun i hi σ' i0 i1 hn F => ?_) (fun i hi ih σ' i0 i1 hn F => ?_)
      · refine hK.1 [26] 60 _ _ _ _ _ ?_
        refine bc_ob_i (by omega) ?_
        refine bc_br_i (fun c => by omega) (fun _ => ?_)
        refine f σ' ⟨fun j j0 j1 => ?_, mh_fr hH1 F (by decide) (by rw [F.1 218 (by decide)])⟩ (nw_fr hb1 F (by decide)) (by rw [F.1 218 (by decide)]; exact z14) (fr_trans F1 (fr_mono F (fun k hk => by omega))) (fj_trans j1 (fj_fr F (by decide)))
        rw [hn j j0 j1]
        unfold re_ ez_
        by_cases e : j = 11
        · rw [if_pos e, if_pos e]
        · rw [if_neg e, if_neg e]
          by_cases e2 : 12 ≤ j ∧ j ≤ 15
          · rw [if_pos e2, if_pos (by omega)]
          · rw [if_neg e2, if_neg (by omega)]
      · refine hK.1 [26] 60 _ _ _ _ _ ?_
        refine bc_ob_i (by omega) ?_
        refine bc_br_i (fun _ => ?_) (fun c => by omega)
        refine bc_ob_i (by omega) ?_
        refine ih _ (by omega) (by omega) (fun j j0 j1 => ?_) (fr_trans F (fr_wr rfl))
        rw [nw_wr hn j j0 j1]
        unfold up_ ez_
        by_cases e : j = 12 + i
        · rw [if_pos e, if_neg (by omega), if_pos (by omega)]
        · rw [if_neg e]
          by_cases e1 : j = 11
          · rw [if_pos e1, if_pos e1]
          · rw [if_neg e1, if_neg e1]
            by_cases e2 : 12 ≤ j ∧ j < 12 + i
            · rw [if_pos e2, if_pos (by omega)]
            · rw [if_neg e2, if_neg (by omega)]
    refine hK.1 [26] 60 _ _ _ _ _ ?_
    refine t_X11_weighs hq ?_
    refine t_X11_isKind hc ?_
    rw [if_pos ck]
    refine t_X11_goes (by decide) ?_
    refine bc_ob_i (by decide) ?_
    refine bc_br_i (fun q => absurd q (by decide)) (fun _ => ?_)
    refine bc_ob_i (by decide) ?_
    refine L 0 _ (by decide) (by decide) (fun j j0 j1 => ?_) (fr_wr rfl)
    rw [nw_wr hq1 j j0 j1]
    unfold up_ ez_
    by_cases e1 : j = 11
    · rw [if_pos e1, if_pos e1]
    · rw [if_neg e1, if_neg e1, if_neg (by omega)]
  · rw [if_neg ck, if_neg ck] at f
    have f1 : fr_ (fun k => k = 218) σ (bc_wr σ 218 ((14 : Nat) : Int) (1 - 0)) := fr_wr rfl
    refine hK.1 [26] 60 _ _ _ _ _ ?_
    refine t_X11_weighs hq ?_
    refine t_X11_isKind hc ?_
    rw [if_neg ck]
    refine t_X11_goes (by decide) ?_
    refine bc_ob_i (by decide) ?_
    refine bc_br_i (fun _ => ?_) (fun q => absurd rfl q)
    exact f _ ⟨nw_fr hq f1 (by decide), mh_fr hH f1 (by decide) (by simp [bc_wr])⟩ (nw_fr hb f1 (by decide)) (by simp [bc_wr]) (fr_mono f1 (fun k hk => by omega)) (fj_wr (.inr rfl))
theorem t_X11_setNiche {c : Int} (hG : rg_ σ q h) (hc : bc_in c) (f1 : ¬ (c = 99 ∨ c = 108) → ∀ σ', rg_ σ' q h → σ'.1 218 ((14 : Nat) : Int) = 1 → fr_ ex_ σ σ' → fj_ ej_ σ σ' → Rr (some (bc_I 0)) σ') (f0 : c = 99 ∨ c = 108 → ∀ σ', rg_ σ' (re_ q c) (hr_ h q) → σ'.1 218 ((14 : Nat) : Int) = 0 → fr_ ex_ σ σ' → fj_ ej_ σ σ' → Rr (some (bc_I (tw_ q))) σ') : bc_Sem g (d + 4) mX11_setNiche [bc_R 218, bc_I c] σ Rr X := by
  refine e_X11_setNiche rfl (fun K hK => ?_)
  refine hK.1 [] 60 _ _ _ _ _ ?_
  refine t_X11_begins hG.1 (fun σ1 b1 g1 => ?_)
  have F1 : fr_ ex_ σ σ1 := fr_mono g1 (fun k hk => by omega)
  have G1 : rg_ σ1 q h := ⟨nw_fr hG.1 g1 (by decide), mh_fr hG.2 g1 (by decide) (by rw [g1.1 218 (by decide)])⟩
  have J1 : fj_ ej_ σ σ1 := fj_fr g1 (by decide)
  refine t_X11_empties G1 b1 hc (fun σ2 G2 b2 t2 g2 j2 => ?_)
  by_cases c0 : c = 99 ∨ c = 108
  · rw [if_pos c0] at G2 t2
    refine t_X11_ends G2 b2 t2 (by decide) (fun e => absurd rfl e) (fun _ σ3 G3 t3 g3 j3 => ?_)
    exact f0 c0 σ3 G3 t3 (fr_trans F1 (fr_trans g2 g3)) (fj_trans J1 (fj_trans j2 j3))
  · rw [if_neg c0] at G2 t2
    refine t_X11_ends G2 b2 t2 (by decide) (fun _ σ3 G3 t3 g3 j3 => ?_) (fun e => absurd e (by decide))
    exact f1 c0 σ3 G3 t3 (fr_trans F1 (fr_trans g2 g3)) (fj_trans J1 (fj_trans j2 j3))
end REF
end
section
section REF
variable {g : bc_C} {d : Nat} {σ : bc_M} {q b : rw_t} {h : List rw_t} {Rr : Option bc_A → bc_M → Prop} {X : Nat → bc_M → Prop}
theorem t_X11_undo0 (hG : rg_ σ q []) (f : ∀ σ', rg_ σ' q [] → σ'.1 218 ((14 : Nat) : Int) = 1 → fr_ ex_ σ σ' → fj_ ej_ σ σ' → Rr (some (bc_I 0)) σ') : bc_Sem g (d + 3) mX11_undo [bc_R 218] σ Rr X := by
  obtain ⟨hq, hH⟩ := hG
  have e5 : σ.1 218 ((5 : Nat) : Int) = 0 := hH.1
  refine e_X11_undo rfl (fun K hK => ?_)
  refine hK.1 [] 60 _ _ _ _ _ ?_
  refine bc_ob_i (by omega) ?_
  refine bc_br_i (fun c => by omega) (fun _ => ?_)
  refine t_X11_goes (by decide) ?_
  refine bc_ob_i (by decide) ?_
  refine bc_br_i (fun _ => ?_) (fun q => absurd rfl q)
  have f1 : fr_ (fun k => k = 218) σ (bc_wr σ 218 ((14 : Nat) : Int) (1 - 0)) := fr_wr rfl
  exact f _ ⟨nw_fr hq f1 (by decide), mh_fr hH f1 (by decide) (by simp [bc_wr])⟩ (by simp [bc_wr]) (fr_mono f1 (fun k hk => by omega)) (fj_wr (.inr rfl))
theorem t_X11_undo1 {p : rw_t} {t : List rw_t} (hG : rg_ σ q (p :: t)) (f : ∀ σ', rg_ σ' p t → σ'.1 218 ((14 : Nat) : Int) = 0 → fr_ ex_ σ σ' → fj_ ej_ σ σ' → Rr (some (bc_I t.length)) σ') : bc_Sem g (d + 3) mX11_undo [bc_R 218] σ Rr X := by
  obtain ⟨hq, hH⟩ := hG
  obtain ⟨h1, h2, h3⟩ := hH
  have e5 : σ.1 218 ((5 : Nat) : Int) = (t.length : Int) + 1 := by rw [h1, List.length_cons]; omega
  rw [List.length_cons] at h2
  refine e_X11_undo rfl (fun K hK => ?_)
  refine hK.1 [] 60 _ _ _ _ _ ?_
  refine bc_ob_i (by omega) ?_
  refine bc_br_i (fun _ => ?_) (fun c => by omega)
  refine t_X11_goes (by decide) ?_
  refine bc_ob_i (by decide) ?_
  refine bc_br_i (fun q => absurd q (by decide)) (fun _ => ?_)
  have z5 : (bc_wr σ 218 ((14 : Nat) : Int) (1 - 1)).1 218 ((5 : Nat) : Int) = (t.length : Int) + 1 := by rw [← e5]; simp [bc_wr]
  have y5 : (bc_wr (bc_wr σ 218 ((14 : Nat) : Int) (1 - 1)) 218 ((5 : Nat) : Int) ((bc_wr σ 218 ((14 : Nat) : Int) (1 - 1)).1 218 ((5 : Nat) : Int) - 1)).1 218 ((5 : Nat) : Int) = t.length := by
    rw [z5]
    simp [bc_wr]
  have y14 : (bc_wr (bc_wr σ 218 ((14 : Nat) : Int) (1 - 1)) 218 ((5 : Nat) : Int) ((bc_wr σ 218 ((14 : Nat) : Int) (1 - 1)).1 218 ((5 : Nat) : Int) - 1)).1 218 ((14 : Nat) : Int) = 0 := by simp [bc_wr]
  have f2 : fr_ (fun k => k = 218) σ (bc_wr (bc_wr σ 218 ((14 : Nat) : Int) (1 - 1)) 218 ((5 : Nat) : Int) ((bc_wr σ 218 ((14 : Nat) : Int) (1 - 1)).1 218 ((5 : Nat) : Int) - 1)) := fr_trans (fr_wr rfl) (fr_wr rfl)
  have j2 : fj_ ej_ σ (bc_wr (bc_wr σ 218 ((14 : Nat) : Int) (1 - 1)) 218 ((5 : Nat) : Int) ((bc_wr σ 218 ((14 : Nat) : Int) (1 - 1)).1 218 ((5 : Nat) : Int) - 1)) := fj_trans (fj_wr (.inr rfl)) (fj_wr (.inl rfl))
  refine t_X11_copies (.inr (.inr (.inr (.inr (.inr ⟨rfl, rfl⟩))))) (by rw [y5]; have : cn_ 222 = 1088 := rfl; omega) (by decide) (fun σ2 hc => ?_)
  rw [y5] at hc
  have x5 : σ2.1 218 ((5 : Nat) : Int) = t.length := by rw [hc.1.1 218 (by decide)]; exact y5
  have F2 : fr_ (fun k => k = 218 ∨ k = 219) σ σ2 := fr_trans (fr_mono f2 (fun k hk => .inl hk)) (fr_mono hc.1 (fun k hk => .inr hk))
  refine rt_ (f σ2 ⟨fun j j0 j1 => ?_, x5, by omega, fun u hu j j0 j1 => ?_⟩ (by rw [hc.1.1 218 (by decide)]; exact y14) (fr_mono F2 (fun k hk => by omega)) (fj_trans j2 (fj_fr hc.1 (by decide)))) x5
  · have c2 := hc.2.1 j j0 j1
    rw [Int.zero_add] at c2
    rw [c2, f2.1 222 (by decide)]
    have := h3 0 (by simp) j j0 j1
    rw [← show ((p :: t)[0]'(by simp)) j = p j from rfl, ← this, List.length_cons]
    refine congrArg (σ.1 222) ?_
    omega
  · rw [F2.1 222 (by decide)]
    have := h3 (u + 1) (by rw [List.length_cons]; omega) j j0 j1
    rw [← show ((p :: t)[u + 1]'(by rw [List.length_cons]; omega)) j = t[u] j from rfl, ← this, List.length_cons]
    refine congrArg (σ.1 222) ?_
    omega
end REF
end
section
/-! the reference: what fills the scratch -/
noncomputable def put_ (q : rw_t) (p c w : Int) : Int := if ¬ (0 ≤ p ∧ p ≤ 3) then 1 else if ¬ ((c = 99 ∨ c = 108) ∧ 1 ≤ w ∧ w ≤ 20) then 2 else if q 11 ≠ c then 3 else if q (12 + p) ≠ 0 then 4 else 0
section REF
variable {g : bc_C} {d : Nat} {σ : bc_M} {q b : rw_t} {h : List rw_t} {Rr : Option bc_A → bc_M → Prop} {X : Nat → bc_M → Prop}
theorem t_X11_fills {x : Int} (f : ∀ σ', (∀ j : Int, 0 ≤ j → j < 8 → σ'.1 223 j = x) → fr_ (fun k => k = 223) σ σ' → Rr none σ') : bc_Sem g (d + 1) mX11_fills [bc_R 218, bc_I x] σ Rr X := by
  refine e_X11_fills rfl (fun K hK => ?_)
  have L : ∀ i : Int, ∀ σ', 0 ≤ i → i ≤ 8 → (∀ j : Int, 0 ≤ j → j < i → σ'.1 223 j = x) → fr_ (fun k => k = 223) σ σ' → K 2 [(0, bc_R 218), (1, bc_I x), (2, bc_I i)] [] σ' 0 := by
    refine up_ind 8 (fun i hi σ' i0 i1 hs F => ?_) (fun i hi ih σ' i0 i1 hs F => ?_)
    · refine hK.1 [2] 60 _ _ _ _ _ ?_
      refine bc_ob_i (by omega) ?_
      refine bc_br_i (fun c => absurd c (by omega)) (fun _ => ?_)
      exact f σ' (fun j j0 j1 => hs j j0 (by omega)) F
    · refine hK.1 [2] 60 _ _ _ _ _ ?_
      refine bc_ob_i (by omega) ?_
      refine bc_br_i (fun _ => ?_) (fun c => absurd hi c)
      refine bc_ob_i (by omega) ?_
      refine ih _ (by omega) (by omega) (fun j j0 j1 => ?_) (fr_trans F (fr_wr rfl))
      simp only [bc_wr, if_true]
      by_cases e : j = i
      · rw [if_pos e]
      · rw [if_neg e]
        exact hs j j0 (by omega)
  refine hK.1 [2] 40 _ _ _ _ _ ?_
  exact L 0 σ (by decide) (by decide) (fun j j0 j1 => by omega) (fr_refl _)
end REF
end
