/-! arguments; c is the command's number -/
def qg_ (l : List Int) (c : Int) : List Nat → Int → Int → gr_t → Int × Int × gr_t
  | [], p, _, A => (1, p, A)
  | f :: fs, p, n, A => if (f : Int) = 32 then (if tg_ l p = 32 then qg_ l c fs (p + 1) n A else (0, p, A)) else if (qv_ l p f).1 = -1 ∨ 3 ≤ n then (0, (qv_ l p f).2, A) else qg_ l c fs (qv_ l p f).2 (n + 1) (ug_ A c n (qv_ l p f).1)
theorem qd_s {l : List Int} {p v : Int} {n : Nat} : qd_ l (n + 1) p v = if 48 ≤ tg_ l p ∧ tg_ l p ≤ 57 then qd_ l n (p + 1) (v * 10 + tg_ l p - 48) else (v, p) := rfl
theorem qg_c {l : List Int} {c p n : Int} {f : Nat} {fs : List Nat} {A : gr_t} : qg_ l c (f :: fs) p n A = if (f : Int) = 32 then (if tg_ l p = 32 then qg_ l c fs (p + 1) n A else (0, p, A)) else if (qv_ l p f).1 = -1 ∨ 3 ≤ n then (0, (qv_ l p f).2, A) else qg_ l c fs (qv_ l p f).2 (n + 1) (ug_ A c n (qv_ l p f).1) := rfl
/-- the form of a kind -/
def fx_ (k : Int) : Nat := if k = 0 ∨ k = 1 then 10 else if k = 2 then 11 else if k = 7 then 12 else if k = 8 then 13 else if k = 9 then 14 else 15
def qa_ (l : List Int) (p c k : Int) (A : gr_t) : Int × Int × gr_t := if k = 9 ∧ tg_ l p ≠ 32 then (1, p, ug_ A c 0 1) else qg_ l c (bc_tx (fx_ k)) p 0 A
def s3_ (σ : bc_M) (A : gr_t) : Prop := ∀ i j : Int, 0 ≤ i → i < 16 → 0 ≤ j → j < 3 → σ.1 199 (((3 : Nat) : Int) * i + j) = A i j
def g3_ (A : gr_t) : Prop := ∀ i j : Int, 0 ≤ i → i < 16 → 0 ≤ j → j < 3 → 0 ≤ A i j ∧ A i j ≤ 999
theorem s3_wr {σ : bc_M} {A : gr_t} {i j v : Int} (i0 : 0 ≤ i) (i1 : i < 16) (j0 : 0 ≤ j) (j1 : j < 3) (h : s3_ σ A) : s3_ (bc_wr σ 199 (((3 : Nat) : Int) * i + j) v) (ug_ A i j v) := fun a b a0 a1 b0 b1 => by
  have := h a b a0 a1 b0 b1
  simp only [bc_wr, ug_, if_true]
  by_cases e : a = i ∧ b = j
  · rw [if_pos e, if_pos (by rw [e.1, e.2])]
  · rw [if_neg e, if_neg (by omega)]
    exact this
theorem g3_up {A : gr_t} {i j v : Int} (h : g3_ A) (hv : 0 ≤ v ∧ v ≤ 999) : g3_ (ug_ A i j v) := fun a b a0 a1 b0 b1 => by
  have := h a b a0 a1 b0 b1
  unfold ug_
  split <;> omega
theorem s3_fr {P : Nat → Prop} {σ σ' : bc_M} {A : gr_t} (h : s3_ σ A) (hf : fr_ P σ σ') (hp : ¬ P 199) : s3_ σ' A := fun i j a b c' d => by rw [hf.1 199 hp]; exact h i j a b c' d
theorem qg_le {l : List Int} {c : Int} : ∀ (fs : List Nat) {p n : Int} {A : gr_t}, 0 ≤ p → p ≤ l.length → g3_ A → (p ≤ (qg_ l c fs p n A).2.1 ∧ (qg_ l c fs p n A).2.1 ≤ l.length) ∧ g3_ (qg_ l c fs p n A).2.2 ∧ 0 ≤ (qg_ l c fs p n A).1 ∧ (qg_ l c fs p n A).1 ≤ 1 := by
  intro fs
  induction fs with
  | nil => intro p n A h0 h1 h2; exact ⟨⟨Int.le_refl _, h1⟩, h2, by show 0 ≤ (1 : Int) ∧ (1 : Int) ≤ 1; decide⟩
  | cons f fs ih =>
    intro p n A h0 h1 h2
    have q := qv_le (l := l) (f := f) h0 h1
    rw [qg_c]
    split
    · split
      · rename_i e
        have hp := tg_in (l := l) (p := p) (by omega)
        have := ih (p := p + 1) (n := n) (A := A) (by omega) (by omega) h2
        exact ⟨⟨by omega, this.1.2⟩, this.2⟩
      · exact ⟨⟨Int.le_refl _, h1⟩, h2, by show 0 ≤ (0 : Int) ∧ (0 : Int) ≤ 1; decide⟩
    · split
      · exact ⟨⟨q.1, q.2.1⟩, h2, by show 0 ≤ (0 : Int) ∧ (0 : Int) ≤ 1; decide⟩
      · rename_i hn
        have := ih (p := (qv_ l p f).2) (n := n + 1) (A := ug_ A c n (qv_ l p f).1) (by omega) (by omega) (g3_up h2 (by omega))
        exact ⟨⟨by omega, this.1.2⟩, this.2⟩
theorem qa_le {l : List Int} {p c k : Int} {A : gr_t} (h0 : 0 ≤ p) (h1 : p ≤ l.length) (h2 : g3_ A) : (p ≤ (qa_ l p c k A).2.1 ∧ (qa_ l p c k A).2.1 ≤ l.length) ∧ g3_ (qa_ l p c k A).2.2 ∧ 0 ≤ (qa_ l p c k A).1 ∧ (qa_ l p c k A).1 ≤ 1 := by
  unfold qa_
  split
  · exact ⟨⟨Int.le_refl _, h1⟩, g3_up h2 (by decide), by show 0 ≤ (1 : Int) ∧ (1 : Int) ≤ 1; decide⟩
  · exact qg_le _ h0 h1 h2
/-- what reading arguments may change -/
def sh_ (σ σ' : bc_M) : Prop := fr_ (fun k => k = 195 ∨ k = 199) σ σ' ∧ σ'.1 195 ((3 : Nat) : Int) = σ.1 195 ((3 : Nat) : Int)
theorem sh_of {σ σ' : bc_M} (h : sf_ σ σ') : sh_ σ σ' := ⟨fr_mono h.1 (by omega), h.2⟩
theorem sh_refl (σ : bc_M) : sh_ σ σ := ⟨fr_refl _, rfl⟩
theorem sh_trans {a b c : bc_M} (h : sh_ a b) (k : sh_ b c) : sh_ a c := ⟨fr_trans h.1 k.1, k.2.trans h.2⟩
theorem sh_wr {σ : bc_M} {j v : Int} : sh_ σ (bc_wr σ 199 j v) := ⟨fr_wr (.inr rfl), by simp [bc_wr]⟩
theorem sc_fr {P : Nat → Prop} {σ σ' : bc_M} {l : List Int} {p : Int} (h : sc_ σ l p) (hf : fr_ P σ σ') (hp : ¬ P 195 ∧ ¬ P 196 ∧ ¬ P 197) : sc_ σ' l p := ⟨tx_fr h.1 hf hp.2, by rw [hf.1 195 hp.1]; exact h.2.1, h.2.2⟩
section SCR
variable {g : bc_C} {d : Nat} {σ : bc_M} {l : List Int} {p : Int} {Rr : Option bc_A → bc_M → Prop} {X : Nat → bc_M → Prop}
theorem t_X5_readValue {f : Int} (hS : sc_ σ l p) (hf : 0 ≤ f ∧ f ≤ 65535) (h : ∀ σ', sc_ σ' l (qv_ l p f).2 → sf_ σ σ' → Rr (some (bc_I (qv_ l p f).1)) σ') : bc_Sem g (d + 4) mX5_readValue [bc_R 195, bc_I f] σ Rr X := by
  obtain ⟨s1, s2, s3, s4⟩ := id hS
  have s5 := s1.2.1
  have hg := tg_le s1.2.2.2 p
  refine e_X5_readValue rfl (fun K hK => ?_)
  unfold qv_ at h
  by_cases hk : f = 107
  · rw [if_pos hk] at h
    refine hK.1 [] 60 _ _ _ _ _ ?_
    refine bc_ob_i (by omega) ?_
    refine bc_br_i (fun _ => ?_) (fun c => absurd hk c)
    refine t_X7_at (.inl rfl) s1 (by rw [s2]; constructor <;> omega) ?_
    rw [s2]
    refine t_X5_accept (c := 99) hS (by decide) (fun e he σ' h1 h2 => ?_) (fun e => ?_)
    · rw [if_pos (.inl e)] at h
      refine bc_ob_i (by decide) ?_
      refine bc_br_i (fun c => by omega) (fun _ => ?_)
      exact h σ' h1 h2
    · refine bc_ob_i (by decide) ?_
      refine bc_br_i (fun _ => ?_) (fun c => absurd rfl c)
      refine t_X5_accept (c := 108) hS (by decide) (fun e2 he σ' h1 h2 => ?_) (fun e2 => ?_)
      · rw [if_pos (.inr e2)] at h
        refine bc_ob_i (by decide) ?_
        refine bc_br_i (fun c => by omega) (fun _ => ?_)
        exact h σ' h1 h2
      · rw [if_neg (by omega)] at h
        refine bc_ob_i (by decide) ?_
        refine bc_br_i (fun _ => ?_) (fun c => absurd rfl c)
        exact h σ hS (sf_refl _)
  · rw [if_neg hk] at h
    have q1 := qd_le (l := l) (if f = 110 then 3 else 1) (p := p) (v := 0) s3 s4 (by omega)
    generalize hQ : qd_ l (if f = 110 then 3 else 1) p 0 = Q at *
    have F : ∀ (m i v q : Int) (σ' : bc_M), 0 ≤ i → i ≤ 3 → q = p + i → Q = (v, q) → sc_ σ' l q → sf_ σ σ' → K 118 [(0, bc_R 195), (1, bc_I f), (2, bc_I m), (3, bc_I v), (4, bc_I i)] [] σ' 0 := by
      intro m i v q σ' i0 i3 hq he hs hh
      rw [he] at h
      refine hK.1 [] 60 _ _ _ _ _ ?_
      refine bc_ob_i (by omega) ?_
      refine bc_br_i (fun c => ?_) (fun c => ?_)
      · exact rt_ (h σ' hs hh) (if_pos (by simp only; omega)).symm
      · exact rt_ (h σ' hs hh) (if_neg (by simp only; omega)).symm
    have L : ∀ n : Nat, ∀ (m i v q : Int) (σ' : bc_M), m = i + n → 0 ≤ i → m ≤ 3 → q = p + i → Q = qd_ l n q v → sc_ σ' l q → sf_ σ σ' → K 59 [(0, bc_R 195), (1, bc_I f), (2, bc_I m), (3, bc_I v), (4, bc_I i)] [] σ' 0 := by
      intro n
      induction n with
      | zero =>
        intro m i v q σ' hm i0 m3 hq he hs hh
        refine hK.1 [59, 118] 60 _ _ _ _ _ ?_
        refine bc_ob_i (by omega) ?_
        refine bc_br_i (fun c => by omega) (fun _ => ?_)
        exact F m i v q σ' i0 (by omega) hq he hs hh
      | succ n ih =>
        intro m i v q σ' hm i0 m3 hq he hs hh
        obtain ⟨t1, t2, t3, t4⟩ := id hs
        have hg := tg_le t1.2.2.2 q
        rw [qd_s] at he
        refine hK.1 [59, 118] 60 _ _ _ _ _ ?_
        refine bc_ob_i (by omega) ?_
        refine bc_br_i (fun _ => ?_) (fun c => by omega)
        refine t_X7_at (.inl rfl) t1 (by rw [t2]; constructor <;> omega) ?_
        rw [t2]
        refine t_X5_isDigit hg ?_
        by_cases hd : 48 ≤ tg_ l q ∧ tg_ l q ≤ 57
        · rw [if_pos hd] at he ⊢
          have hin := tg_in (l := l) (p := q) (by omega)
          refine bc_ob_i (by decide) ?_
          refine bc_br_i (fun c => by omega) (fun _ => ?_)
          refine t_X7_at (.inl rfl) t1 (by rw [t2]; constructor <;> omega) ?_
          rw [t2]
          refine ih m (i + 1) _ (q + 1) _ (by omega) (by omega) m3 (by omega) he ?_ (sf_trans hh sf_wr)
          rw [t2]
          exact sc_wr hs (by omega) (by omega)
        · rw [if_neg hd] at he ⊢
          refine bc_ob_i (by decide) ?_
          refine bc_br_i (fun _ => ?_) (fun c => absurd rfl c)
          exact F m i v q σ' i0 (by omega) hq he hs hh
    refine hK.1 [59] 60 _ _ _ _ _ ?_
    refine bc_ob_i (by omega) ?_
    refine bc_br_i (fun c => absurd c hk) (fun _ => ?_)
    refine bc_ob_i (by omega) ?_
    refine bc_br_i (fun c => ?_) (fun c => ?_)
    · rw [if_pos c] at hQ
      exact L 3 3 0 0 p σ (by omega) (by omega) (by omega) (by omega) hQ.symm hS (sf_refl _)
    · rw [if_neg c] at hQ
      exact L 1 1 0 0 p σ (by omega) (by omega) (by omega) (by omega) hQ.symm hS (sf_refl _)
theorem t_X5_formOf {k : Nat} (hk : k < 10) (h : Rr (some (bc_R (1000 + fx_ k))) σ) : bc_Sem g (d + 1) mX5_formOf [bc_I k] σ Rr X := by
  have : k = 0 ∨ k = 1 ∨ k = 2 ∨ k = 3 ∨ k = 4 ∨ k = 5 ∨ k = 6 ∨ k = 7 ∨ k = 8 ∨ k = 9 := by omega
  refine e_X5_formOf rfl (fun K hK => ?_)
  refine hK.1 [] 60 _ _ _ _ _ ?_
  refine bc_ob_i (by omega) ?_
  rcases this with rfl | rfl | rfl | rfl | rfl | rfl | rfl | rfl | rfl | rfl
  all_goals
    repeat' refine bc_br_i (fun c => ?_) (fun c => ?_)
  all_goals first | (exfalso; revert c; decide) | exact h | (exfalso; omega)
theorem t_X5_readArguments {c : Int} {k : Nat} {A : gr_t} (hS : sc_ σ l p) (hc : σ.1 195 ((3 : Nat) : Int) = c) (c0 : 0 ≤ c) (c1 : c < 16) (hA : s3_ σ A) (gA : g3_ A) (hk : k < 10) (h : ∀ σ', sc_ σ' l (qa_ l p c k A).2.1 → s3_ σ' (qa_ l p c k A).2.2 → sh_ σ σ' → Rr (some (bc_I (qa_ l p c k A).1)) σ') : bc_Sem g (d + 5) mX5_readArguments [bc_R 195, bc_I k] σ Rr X := by
  obtain ⟨s1, s2, s3, s4⟩ := id hS
  have s5 := s1.2.1
  have hg := tg_le s1.2.2.2 p
  subst hc
  have hf : fx_ k ≤ 16 ∧ (bc_tx (fx_ k)).length ≤ 4 ∧ ∀ f ∈ bc_tx (fx_ k), f ≤ 65535 := by
    have : k = 0 ∨ k = 1 ∨ k = 2 ∨ k = 3 ∨ k = 4 ∨ k = 5 ∨ k = 6 ∨ k = 7 ∨ k = 8 ∨ k = 9 := by omega
    rcases this with rfl | rfl | rfl | rfl | rfl | rfl | rfl | rfl | rfl | rfl <;> decide
  refine e_X5_readArguments rfl (fun K hK => ?_)
  by_cases h9 : (k : Int) = 9 ∧ tg_ l p ≠ 32
  · have e : qa_ l p (σ.1 195 ((3 : Nat) : Int)) k A = (1, p, ug_ A (σ.1 195 ((3 : Nat) : Int)) 0 1) := if_pos h9
    rw [e] at h
    refine hK.1 [] 60 _ _ _ _ _ ?_
    refine bc_ob_i ⟨c0, c1⟩ ?_
    refine bc_ob_i (by omega) ?_
    refine bc_br_i (fun _ => ?_) (fun c => absurd h9.1 c)
    refine t_X7_at (.inl rfl) s1 (by rw [s2]; constructor <;> omega) ?_
    rw [s2]
    refine bc_ob_i (by omega) ?_
    refine bc_br_i (fun c => absurd c h9.2) (fun _ => ?_)
    refine bc_ob_i ⟨⟨c0, c1⟩, by decide⟩ ?_
    refine bc_ob_i (by decide) ?_
    exact h _ (sc_fr hS (fr_wr (P := fun k => k = 199) rfl) (by decide)) (s3_wr c0 c1 (by decide) (by decide) hA) sh_wr
  · have e : qa_ l p (σ.1 195 ((3 : Nat) : Int)) k A = qg_ l (σ.1 195 ((3 : Nat) : Int)) (bc_tx (fx_ k)) p 0 A := if_neg h9
    rw [e] at h
    generalize hw : fx_ k = w at *
    have ew : 1000 + w - 1000 = w := by omega
    generalize hQ : qg_ l (σ.1 195 ((3 : Nat) : Int)) (bc_tx w) p 0 A = Q at *
    have L : ∀ (fs : List Nat) (i n q : Int) (B : gr_t) (z : bc_LV) (σ' : bc_M), (bc_tx w).drop i.toNat = fs → 0 ≤ i → i ≤ (bc_tx w).length → 0 ≤ n → n ≤ i → Q = qg_ l (σ.1 195 ((3 : Nat) : Int)) fs q n B → sc_ σ' l q → s3_ σ' B → g3_ B → sh_ σ σ' → K 49 ([(0, bc_R 195), (1, bc_I k), (2, bc_G 199 (σ.1 195 ((3 : Nat) : Int))), (3, bc_R (1000 + w)), (4, bc_I n), (5, bc_I i)] ++ z) [] σ' 0 := by
      intro fs
      induction fs with
      | nil =>
        intro i n q B z σ' h1 i0 i1 n0 ni he hs ha hb hh
        have il : (bc_tx w).length ≤ i.toNat := List.drop_eq_nil_iff.mp h1
        refine hK.2 _ _ [(0, bc_R 195), (1, bc_I k), (2, bc_G 199 (σ.1 195 ((3 : Nat) : Int))), (3, bc_R (1000 + w)), (4, bc_I n), (5, bc_I i)] _ _ _ (ls_ _ _) ?_
        refine hK.1 [49] 60 _ _ _ _ _ ?_
        refine bc_ob_i ⟨⟨by omega, by omega⟩, Nat.le_of_ble_eq_true rfl⟩ ?_
        rw [ew]
        refine bc_ob_i (by omega) ?_
        refine bc_br_i (fun c => by omega) (fun c => ?_)
        refine bc_ob_i (by decide) ?_
        rw [he] at h
        exact h σ' hs ha hh
      | cons f fs ih =>
        intro i n q B z σ' h1 i0 i1 n0 ni he hs ha hb hh
        have hlt : i.toNat < (bc_tx w).length := by
          rcases Nat.lt_or_ge i.toNat (bc_tx w).length with q | q
          · exact q
          · rw [List.drop_eq_nil_of_le q] at h1; cases h1
        have hd : (bc_tx w).drop i.toNat = (bc_tx w)[i.toNat] :: (bc_tx w).drop (i.toNat + 1) := List.drop_eq_getElem_cons hlt
        rw [hd] at h1
        injection h1 with h1a h1b
        have hge : (bc_tx w).getD i.toNat 0 = f := by rw [List.getD_eq_getElem?_getD, List.getElem?_eq_getElem hlt]; exact h1a
        have hfb := hf.2.2 _ (List.getElem_mem hlt)
        rw [h1a] at hfb
        obtain ⟨t1, t2, t3, t4⟩ := id hs
        have hv := qv_le (l := l) (f := f) t3 t4
        have ei : (i + 1).toNat = i.toNat + 1 := by omega
        rw [qg_c] at he
        refine hK.2 _ _ [(0, bc_R 195), (1, bc_I k), (2, bc_G 199 (σ.1 195 ((3 : Nat) : Int))), (3, bc_R (1000 + w)), (4, bc_I n), (5, bc_I i)] _ _ _ (ls_ _ _) ?_
        refine hK.1 [49] 60 _ _ _ _ _ ?_
        refine bc_ob_i ⟨⟨by omega, by omega⟩, Nat.le_of_ble_eq_true rfl⟩ ?_
        rw [ew]
        refine bc_ob_i (by omega) ?_
        refine bc_br_i (fun _ => ?_) (fun c => by omega)
        refine bc_ob_i ⟨⟨⟨by omega, by omega⟩, Nat.le_of_ble_eq_true rfl⟩, i0, by rw [ew]; omega⟩ ?_
        rw [ew, hge]
        refine bc_ob_i (by omega) ?_
        refine bc_br_i (fun c6 => ?_) (fun c6 => ?_)
        · rw [if_pos c6] at he
          refine t_X5_accept (c := 32) hs (by decide) (fun e2 hl σ'' u1 u2 => ?_) (fun e2 => ?_)
          · rw [if_pos e2] at he
            refine bc_ob_i (by decide) ?_
            refine bc_br_i (fun c => by omega) (fun _ => ?_)
            exact ih (i + 1) n (q + 1) B [(6, bc_I f)] σ'' (by rw [ei]; exact h1b) (by omega) (by omega) n0 (by omega) he u1 (s3_fr ha u2.1 (by decide)) hb (sh_trans hh (sh_of u2))
          · rw [if_neg e2] at he
            refine bc_ob_i (by decide) ?_
            refine bc_br_i (fun _ => ?_) (fun c => absurd rfl c)
            refine bc_ob_i (by decide) ?_
            rw [he] at h
            exact h σ' hs ha hh
        · rw [if_neg c6] at he
          refine t_X5_readValue hs (by omega) (fun σ'' u1 u2 => ?_)
          refine bc_ob_i (by omega) ?_
          refine bc_br_i (fun c7 => ?_) (fun c7 => ?_)
          · rw [if_pos (.inl c7)] at he
            refine bc_ob_i (by decide) ?_
            rw [he] at h
            exact h σ'' u1 (s3_fr ha u2.1 (by decide)) (sh_trans hh (sh_of u2))
          · refine bc_ob_i (by omega) ?_
            refine bc_br_i (fun c8 => ?_) (fun c8 => ?_)
            · rw [if_neg (by omega)] at he
              refine bc_ob_i ⟨⟨c0, c1⟩, n0, c8⟩ ?_
              exact ih (i + 1) (n + 1) _ _ [(6, bc_I f), (7, bc_I (qv_ l q f).1)] _ (by rw [ei]; exact h1b) (by omega) (by omega) (by omega) (by omega) he (sc_fr u1 (fr_wr (P := fun k => k = 199) rfl) (by decide)) (s3_wr c0 c1 n0 c8 (s3_fr ha u2.1 (by decide))) (g3_up hb (by omega)) (sh_trans hh (sh_trans (sh_of u2) sh_wr))
            · rw [if_pos (.inr (by omega))] at he
              refine bc_ob_i (by decide) ?_
              rw [he] at h
              exact h σ'' u1 (s3_fr ha u2.1 (by decide)) (sh_trans hh (sh_of u2))
    have start : K 49 ([(0, bc_R 195), (1, bc_I k), (2, bc_G 199 (σ.1 195 ((3 : Nat) : Int))), (3, bc_R (1000 + w)), (4, bc_I 0), (5, bc_I 0)] ++ []) [] σ 0 := L (bc_tx w) 0 0 p A [] σ rfl (by omega) (by omega) (by omega) (by omega) hQ.symm hS hA gA (sh_refl _)
    refine hK.1 [49] 60 _ _ _ _ _ ?_
    refine bc_ob_i ⟨c0, c1⟩ ?_
    refine bc_ob_i (by omega) ?_
    refine bc_br_i (fun c9 => ?_) (fun c9 => ?_)
    · refine t_X7_at (.inl rfl) s1 (by rw [s2]; constructor <;> omega) ?_
      rw [s2]
      refine bc_ob_i (by omega) ?_
      refine bc_br_i (fun c => ?_) (fun c => absurd ⟨c9, c⟩ h9)
      refine t_X5_formOf hk ?_
      rw [hw]
      exact start
    · refine t_X5_formOf hk ?_
      rw [hw]
      exact start
end SCR
