/-! the script's reading, mirrored: l is the text, p a place in it -/
/-- how many signs of a word stand at p -/
def qm_ (l : List Int) (p : Int) : List Nat → Int
  | [] => 0
  | c :: w => if tg_ l p = c then 1 + qm_ l (p + 1) w else 0
theorem qm_c {l : List Int} {p : Int} {c : Nat} {w : List Nat} : qm_ l p (c :: w) = if tg_ l p = c then 1 + qm_ l (p + 1) w else 0 := rfl
theorem qm_le {l : List Int} : ∀ (w : List Nat) (p : Int), 0 ≤ qm_ l p w ∧ qm_ l p w ≤ w.length := by
  intro w
  induction w with
  | nil => intro p; exact ⟨Int.le_refl _, Int.le_refl _⟩
  | cons c w ih =>
    intro p
    have := ih (p + 1)
    unfold qm_
    split
    · rw [List.length_cons]
      omega
    · rw [List.length_cons]
      omega
theorem qm_in {l : List Int} : ∀ (w : List Nat) (p : Int), (∀ c ∈ w, c ≠ 0) → 0 ≤ p → p ≤ l.length → p + qm_ l p w ≤ l.length := by
  intro w
  induction w with
  | nil => intro p _ _ h; show p + 0 ≤ _; omega
  | cons c w ih =>
    intro p hc h0 h1
    unfold qm_
    split
    · rename_i e
      have h2 : p < l.length := by
        unfold tg_ at e
        split at e
        · omega
        · have := hc c (List.mem_cons_self ..)
          omega
      have := ih (p + 1) (fun c h => hc c (List.mem_cons_of_mem _ h)) (by omega) (by omega)
      omega
    · omega
/-- a word is read: its kind or -1, and the place behind; n words are yet to try -/
def qw_ (l : List Int) (p : Int) : Nat → Int → Int × Int
  | 0, b => (-1, p + b)
  | n + 1, b => if qm_ l p (bc_tx (9 - n)) = (bc_tx (9 - n)).length then (((9 - n : Nat) : Int), p + qm_ l p (bc_tx (9 - n))) else qw_ l p n (max b (qm_ l p (bc_tx (9 - n))))
/-- digits: the number and the place behind -/
def qd_ (l : List Int) : Nat → Int → Int → Int × Int
  | 0, p, v => (v, p)
  | n + 1, p, v => if 48 ≤ tg_ l p ∧ tg_ l p ≤ 57 then qd_ l n (p + 1) (v * 10 + tg_ l p - 48) else (v, p)
def qv_ (l : List Int) (p f : Int) : Int × Int := if f = 107 then (if tg_ l p = 99 ∨ tg_ l p = 108 then (tg_ l p, p + 1) else (-1, p)) else (if (qd_ l (if f = 110 then 3 else 1) p 0).2 = p then -1 else (qd_ l (if f = 110 then 3 else 1) p 0).1, (qd_ l (if f = 110 then 3 else 1) p 0).2)
/-- the script's text and place -/
def sc_ (σ : bc_M) (l : List Int) (p : Int) : Prop := tx_ σ 196 l ∧ σ.1 195 ((4 : Nat) : Int) = p ∧ 0 ≤ p ∧ p ≤ l.length
/-- only the place has changed -/
def sf_ (σ σ' : bc_M) : Prop := fr_ (fun k => k = 195) σ σ' ∧ σ'.1 195 ((3 : Nat) : Int) = σ.1 195 ((3 : Nat) : Int)
theorem sf_refl (σ : bc_M) : sf_ σ σ := ⟨fr_refl _, rfl⟩
theorem sf_trans {a b c : bc_M} (h : sf_ a b) (k : sf_ b c) : sf_ a c := ⟨fr_trans h.1 k.1, k.2.trans h.2⟩
theorem sf_wr {σ : bc_M} {v : Int} : sf_ σ (bc_wr σ 195 ((4 : Nat) : Int) v) := ⟨fr_wr rfl, by simp [bc_wr]⟩
theorem sc_wr {σ : bc_M} {l : List Int} {p v : Int} (h : sc_ σ l p) (h0 : 0 ≤ v) (h1 : v ≤ l.length) : sc_ (bc_wr σ 195 ((4 : Nat) : Int) v) l v := ⟨tx_fr h.1 (fr_wr (P := fun k => k = 195) rfl) (by decide), by simp [bc_wr], h0, h1⟩
theorem tg_in {l : List Int} {p : Int} (h : tg_ l p ≠ 0) : 0 ≤ p ∧ p < l.length := by
  unfold tg_ at h
  split at h
  · assumption
  · exact absurd rfl h
section SCR
variable {g : bc_C} {d : Nat} {σ : bc_M} {l : List Int} {p : Int} {Rr : Option bc_A → bc_M → Prop} {X : Nat → bc_M → Prop}
theorem t_X5_accept {c : Int} (hS : sc_ σ l p) (hc : 0 < c ∧ c ≤ 65535) (h1 : tg_ l p = c → p < l.length → ∀ σ', sc_ σ' l (p + 1) → sf_ σ σ' → Rr (some (bc_I 1)) σ') (h0 : tg_ l p ≠ c → Rr (some (bc_I 0)) σ) : bc_Sem g (d + 3) mX5_accept [bc_R 195, bc_I c] σ Rr X := by
  obtain ⟨s1, s2, s3, s4⟩ := id hS
  have s5 := s1.2.1
  have hg := tg_le s1.2.2.2 p
  have l2 : σ.1 195 4 = p := s2
  refine e_X5_accept rfl (fun K hK => ?_)
  refine hK.1 [] 60 _ _ _ _ _ ?_
  refine t_X7_at (.inl rfl) s1 (by rw [s2]; constructor <;> omega) ?_
  rw [s2]
  refine bc_ob_i (by omega) ?_
  refine bc_br_i (fun e => ?_) (fun e => ?_)
  · refine bc_ob_i (by decide) ?_
    have hp := tg_in (l := l) (p := p) (by omega)
    refine h1 e hp.2 _ ?_ sf_wr
    rw [s2]
    exact sc_wr hS (by omega) (by omega)
  · refine bc_ob_i (by decide) ?_
    exact h0 e
theorem t_X5_isDigit {c : Int} (hc : 0 ≤ c ∧ c ≤ 65535) (h : Rr (some (bc_I (if 48 ≤ c ∧ c ≤ 57 then 1 else 0))) σ) : bc_Sem g (d + 1) mX5_isDigit [bc_I c] σ Rr X := by
  refine e_X5_isDigit rfl (fun K hK => ?_)
  refine hK.1 [] 60 _ _ _ _ _ ?_
  refine bc_ob_i (by omega) ?_
  refine bc_br_i (fun e => ?_) (fun e => ?_)
  · refine bc_ob_i (by decide) ?_
    exact rt_ h (if_neg (by omega)).symm
  · refine bc_ob_i (by omega) ?_
    refine bc_br_i (fun e2 => ?_) (fun e2 => ?_)
    · refine bc_ob_i (by decide) ?_
      exact rt_ h (if_neg (by omega)).symm
    · refine bc_ob_i (by decide) ?_
      exact rt_ h (if_pos (by omega)).symm
theorem t_X5_wordOf {k : Nat} (hk : k < 10) (h : Rr (some (bc_R (1000 + k))) σ) : bc_Sem g (d + 1) mX5_wordOf [bc_I k] σ Rr X := by
  have : k = 0 ∨ k = 1 ∨ k = 2 ∨ k = 3 ∨ k = 4 ∨ k = 5 ∨ k = 6 ∨ k = 7 ∨ k = 8 ∨ k = 9 := by omega
  refine e_X5_wordOf rfl (fun K hK => ?_)
  refine hK.1 [] 60 _ _ _ _ _ ?_
  refine bc_ob_i (by omega) ?_
  rcases this with rfl | rfl | rfl | rfl | rfl | rfl | rfl | rfl | rfl | rfl
  all_goals
    repeat' refine bc_br_i (fun c => ?_) (fun c => ?_)
  all_goals first | (exfalso; revert c; decide) | exact h | (exfalso; omega)
theorem t_X5_matchedLength {w : Nat} (hw : w ≤ 16) (hS : sc_ σ l p) (h : Rr (some (bc_I (qm_ l p (bc_tx w)))) σ) : bc_Sem g (d + 3) mX5_matchedLength [bc_R 195, bc_R (1000 + w)] σ Rr X := by
  obtain ⟨s1, s2, s3, s4⟩ := id hS
  have s5 := s1.2.1
  have l2 : σ.1 195 4 = p := s2
  have hlen : (bc_tx w).length ≤ 60 := by
    have : w = 0 ∨ w = 1 ∨ w = 2 ∨ w = 3 ∨ w = 4 ∨ w = 5 ∨ w = 6 ∨ w = 7 ∨ w = 8 ∨ w = 9 ∨ w = 10 ∨ w = 11 ∨ w = 12 ∨ w = 13 ∨ w = 14 ∨ w = 15 ∨ w = 16 := by omega
    rcases this with rfl | rfl | rfl | rfl | rfl | rfl | rfl | rfl | rfl | rfl | rfl | rfl | rfl | rfl | rfl | rfl | rfl <;> decide
  have hbig : ∀ c ∈ bc_tx w, c ≤ 65535 := by
    have : w = 0 ∨ w = 1 ∨ w = 2 ∨ w = 3 ∨ w = 4 ∨ w = 5 ∨ w = 6 ∨ w = 7 ∨ w = 8 ∨ w = 9 ∨ w = 10 ∨ w = 11 ∨ w = 12 ∨ w = 13 ∨ w = 14 ∨ w = 15 ∨ w = 16 := by omega
    rcases this with rfl | rfl | rfl | rfl | rfl | rfl | rfl | rfl | rfl | rfl | rfl | rfl | rfl | rfl | rfl | rfl | rfl <;> decide
  have ew : 1000 + w - 1000 = w := by omega
  refine e_X5_matchedLength rfl (fun K hK => ?_)
  have L : ∀ i : Int, 0 ≤ i → i ≤ (bc_tx w).length → qm_ l p (bc_tx w) = i + qm_ l (p + i) ((bc_tx w).drop i.toNat) → K 2 [(0, bc_R 195), (1, bc_R (1000 + w)), (2, bc_I i)] [] σ 0 := by
    refine up_ind ((bc_tx w).length) (fun i hi h0 h1 h2 => ?_) (fun i hi ih h0 h1 h2 => ?_)
    · refine hK.1 [2] 60 _ _ _ _ _ ?_
      refine bc_ob_i ⟨⟨by omega, by omega⟩, Nat.le_of_ble_eq_true rfl⟩ ?_
      rw [ew]
      refine bc_ob_i (by omega) ?_
      refine bc_br_i (fun c => absurd c (by omega)) (fun c => ?_)
      refine rt_ h ?_
      rw [h2, List.drop_eq_nil_of_le (by omega)]
      show i = i + 0
      omega
    · have hlt : i.toNat < (bc_tx w).length := by omega
      have hd : (bc_tx w).drop i.toNat = (bc_tx w)[i.toNat] :: (bc_tx w).drop (i.toNat + 1) := List.drop_eq_getElem_cons hlt
      have hge : (bc_tx w).getD i.toNat 0 = (bc_tx w)[i.toNat] := by rw [List.getD_eq_getElem?_getD, List.getElem?_eq_getElem hlt]; rfl
      have hc := hbig _ (List.getElem_mem hlt)
      have hg := tg_le s1.2.2.2 (p + i)
      rw [hd, qm_c] at h2
      refine hK.1 [2] 60 _ _ _ _ _ ?_
      refine bc_ob_i ⟨⟨by omega, by omega⟩, Nat.le_of_ble_eq_true rfl⟩ ?_
      rw [ew]
      refine bc_ob_i (by omega) ?_
      refine bc_br_i (fun c => ?_) (fun c => absurd hi (by omega))
      refine t_X7_at (.inl rfl) s1 (by rw [s2]; constructor <;> omega) ?_
      rw [s2]
      refine bc_ob_i ⟨⟨⟨by omega, by omega⟩, Nat.le_of_ble_eq_true rfl⟩, h0, by rw [ew]; exact hi⟩ ?_
      rw [ew, hge]
      refine bc_ob_i (by constructor <;> constructor <;> omega) ?_
      refine bc_br_i (fun c => ?_) (fun c => ?_)
      · rw [if_pos c] at h2
        refine ih (by omega) (by omega) ?_
        rw [h2, show (i + 1).toNat = i.toNat + 1 by omega, show p + (i + 1) = p + i + 1 by omega]
        omega
      · rw [if_neg c] at h2
        exact rt_ h (by omega)
  refine hK.1 [2] 40 _ _ _ _ _ ?_
  exact L 0 (by omega) (by omega) (by simp)
end SCR
