/-! the reference reads a word -/
def so_ (w : Int) : Int := if w = 0 then 0 else if w = 1 then 7 else if w = 2 then 12 else if w = 3 then 16 else if w = 4 then 22 else if w = 5 then 29 else if w = 6 then 37 else if w = 7 then 44 else if w = 8 then 50 else if w = 9 then 54 else 57
theorem wd_len {m : Nat} (hm : m < 10) : so_ ((m : Int) + 1) - so_ (m : Int) = ((bc_tx m).length : Int) ∧ 3 ≤ (bc_tx m).length ∧ (bc_tx m).length ≤ 8 ∧ 0 ≤ so_ (m : Int) ∧ so_ (m : Int) + ((bc_tx m).length : Int) ≤ 57 ∧ (∀ c ∈ bc_tx m, 1 ≤ c ∧ c ≤ 126) := by
  have : m = 0 ∨ m = 1 ∨ m = 2 ∨ m = 3 ∨ m = 4 ∨ m = 5 ∨ m = 6 ∨ m = 7 ∨ m = 8 ∨ m = 9 := by omega
  rcases this with rfl | rfl | rfl | rfl | rfl | rfl | rfl | rfl | rfl | rfl <;> decide
theorem wd_at {m : Nat} (hm : m < 10) : ∀ k : Nat, k < (bc_tx m).length → (bc_tx 16).getD (so_ (m : Int) + (k : Int)).toNat 0 = (bc_tx m).getD k 0 := by
  have : m = 0 ∨ m = 1 ∨ m = 2 ∨ m = 3 ∨ m = 4 ∨ m = 5 ∨ m = 6 ∨ m = 7 ∨ m = 8 ∨ m = 9 := by omega
  rcases this with rfl | rfl | rfl | rfl | rfl | rfl | rfl | rfl | rfl | rfl <;> decide
section REF
variable {g : bc_C} {d : Nat} {σ : bc_M} {l : List Int} {p w : Int} {Rr : Option bc_A → bc_M → Prop} {X : Nat → bc_M → Prop}
theorem t_X11_startOf {i : Int} (hi : 0 ≤ i ∧ i ≤ 10) (h : Rr (some (bc_I (so_ i))) σ) : bc_Sem g (d + 1) mX11_startOf [bc_I i] σ Rr X := by
  have : i = 0 ∨ i = 1 ∨ i = 2 ∨ i = 3 ∨ i = 4 ∨ i = 5 ∨ i = 6 ∨ i = 7 ∨ i = 8 ∨ i = 9 ∨ i = 10 := by omega
  refine e_X11_startOf rfl (fun K hK => ?_)
  refine hK.1 [] 60 _ _ _ _ _ ?_
  refine bc_ob_i (by constructor <;> omega) ?_
  rcases this with rfl | rfl | rfl | rfl | rfl | rfl | rfl | rfl | rfl | rfl | rfl
  all_goals
    repeat' refine bc_br_i (fun c => ?_) (fun c => ?_)
  all_goals first | (exfalso; revert c; decide) | exact h | (exfalso; omega)
theorem t_X11_kindHere (hS : rsc_ σ l p (-1)) (h : ∀ σ', rsc_ σ' l (if (qw_ l p 10 0).1 = -1 then p else (qw_ l p 10 0).2) (if (qw_ l p 10 0).1 = -1 then (qw_ l p 10 0).2 else -1) → rsf_ σ σ' → Rr (some (bc_I (qw_ l p 10 0).1)) σ') : bc_Sem g (d + 2) mX11_kindHere [bc_R 218] σ Rr X := by
  obtain ⟨⟨⟨a1, a2⟩, a3, a4⟩, ⟨b1, b2, b3⟩, c1, c2⟩ := id hS
  generalize hW : qw_ l p 10 0 = W at *
  refine e_X11_kindHere rfl (fun K hK => ?_)
  -- no word
  have En : ∀ (b : Int) (z : bc_LV), 0 ≤ b → p + b ≤ l.length → W = (-1, p + b) → K 121 ([(0, bc_R 218), (1, bc_I (p + b)), (2, bc_I (-1))] ++ z) [] σ 0 := by
    intro b z b0 bl e
    rw [e] at h
    rw [if_pos rfl, if_pos rfl] at h
    have S1 := rsc_17 hS (v := p + b) (by omega)
    have e16 := S1.2.1.1
    have S2 := rsc_16 S1 (v := p) (by omega)
    refine hK.2 _ _ [(0, bc_R 218), (1, bc_I (p + b)), (2, bc_I (-1))] _ _ _ (ls_ _ _) ?_
    refine hK.1 [] 60 _ _ _ _ _ ?_
    refine bc_ob_i (by decide) ?_
    refine bc_br_i (fun _ => ?_) (fun c => absurd (by decide) c)
    refine bc_ob_i (by decide) ?_
    refine bc_br_i (fun _ => ?_) (fun c => absurd (by decide) c)
    refine h _ ?_ (rsf_trans rsf_17 rsf_16)
    rw [e16, show p + 0 = p by omega]
    exact S2
  -- a word
  have Ey : ∀ (m : Nat) (far : Int) (z : bc_LV), m < 10 → p + (bc_tx m).length ≤ l.length → W = ((m : Int), p + (bc_tx m).length) → K 121 ([(0, bc_R 218), (1, bc_I far), (2, bc_I m)] ++ z) [] σ 0 := by
    intro m far z hm bl e
    obtain ⟨w1, w2, w3, w4, w5, w6⟩ := wd_len hm
    rw [e] at h
    rw [if_neg (show ¬ (m : Int) = -1 by omega), if_neg (show ¬ (m : Int) = -1 by omega)] at h
    have S1 := rsc_17 hS (v := σ.1 218 ((17 : Nat) : Int)) (by rw [c1]; decide)
    have e16 := S1.2.1.1
    rw [c1] at S1
    have S2 := rsc_16 S1 (v := p + (bc_tx m).length) (by omega)
    refine hK.2 _ _ [(0, bc_R 218), (1, bc_I far), (2, bc_I m)] _ _ _ (ls_ _ _) ?_
    refine hK.1 [] 90 _ _ _ _ _ ?_
    refine bc_ob_i (by constructor <;> constructor <;> omega) ?_
    refine bc_br_i (fun c => absurd c (by omega)) (fun _ => ?_)
    refine bc_ob_i (by constructor <;> constructor <;> omega) ?_
    refine bc_br_i (fun c => absurd c (by omega)) (fun _ => ?_)
    refine t_X11_startOf (by omega) ?_
    refine t_X11_startOf (by omega) ?_
    refine h _ ?_ (rsf_trans rsf_17 rsf_16)
    rw [e16, w1, c1]
    exact S2
  have F9 : ∀ (m : Nat) (far i : Int) (z : bc_LV), m < 10 → (0 ≤ i ∧ i ≤ 10) → p + (bc_tx m).length ≤ l.length → W = ((m : Int), p + (bc_tx m).length) → K 9 ([(0, bc_R 218), (1, bc_I far), (2, bc_I m), (3, bc_I i)] ++ z) [] σ 0 := by
    intro m far i z hm hi bl e
    have go := Ey m far [(3, bc_I i)] hm bl e
    refine hK.2 _ _ [(0, bc_R 218), (1, bc_I far), (2, bc_I m), (3, bc_I i)] _ _ _ (ls_ _ _) ?_
    refine hK.1 [121] 60 _ _ _ _ _ ?_
    refine bc_ob_i (by constructor <;> constructor <;> omega) ?_
    refine bc_br_i (fun c => ?_) (fun _ => go)
    refine bc_ob_i (by constructor <;> constructor <;> omega) ?_
    refine bc_br_i (fun c => absurd c (by omega)) (fun _ => go)
  have L : ∀ n : Nat, n ≤ 10 → ∀ b z, 0 ≤ b → p + b ≤ l.length → W = qw_ l p n b → K 9 ([(0, bc_R 218), (1, bc_I (p + b)), (2, bc_I (-1)), (3, bc_I (10 - n))] ++ z) [] σ 0 := by
    intro n
    induction n with
    | zero =>
      intro hn b z b0 b1 h1
      refine hK.2 _ _ [(0, bc_R 218), (1, bc_I (p + b)), (2, bc_I (-1)), (3, bc_I (10 - ((0 : Nat) : Int)))] _ _ _ (ls_ _ _) ?_
      refine hK.1 [121] 60 _ _ _ _ _ ?_
      refine bc_ob_i (by decide) ?_
      refine bc_br_i (fun c => absurd c (by decide)) (fun _ => ?_)
      exact En b [(3, bc_I (10 - ((0 : Nat) : Int)))] b0 b1 h1
    | succ n ih =>
      intro hn b z b0 bl h1
      refine hK.2 _ _ [(0, bc_R 218), (1, bc_I (p + b)), (2, bc_I (-1)), (3, bc_I (10 - ((n + 1 : Nat) : Int)))] _ _ _ (ls_ _ _) ?_
      have ek : 10 - ((n + 1 : Nat) : Int) = ((9 - n : Nat) : Int) := by omega
      have ek2 : 10 - (n : Int) = ((9 - n : Nat) : Int) + 1 := by omega
      rw [ek]
      rw [ek2] at ih
      rw [qw_s] at h1
      have hm : 9 - n < 10 := by omega
      generalize 9 - n = m at hm h1 ih ⊢
      obtain ⟨w1, w2, w3, w4, w5, w6⟩ := wd_len hm
      have q1 := qm_in (bc_tx m) p (fun c hc => by have := w6 c hc; omega) b2 b3
      have q2 := qm_le (l := l) (bc_tx m) p
      -- the word's end
      have T90 : ∀ k : Int, k = qm_ l p (bc_tx m) → K 90 [(0, bc_R 218), (1, bc_I (p + b)), (2, bc_I (-1)), (3, bc_I m), (4, bc_I ((bc_tx m).length : Int)), (5, bc_I k)] [] σ 0 := by
        intro k hk
        subst hk
        have e : max (p + b) (σ.1 218 ((16 : Nat) : Int) + qm_ l p (bc_tx m)) = p + max b (qm_ l p (bc_tx m)) := by rw [b1]; omega
        refine hK.1 [9] 60 _ _ _ _ _ ?_
        refine bc_ob_i ⟨by constructor <;> omega, by rw [b1]; constructor <;> omega, Nat.le_of_ble_eq_true rfl⟩ ?_
        refine bc_ob_i (by constructor <;> constructor <;> omega) ?_
        refine bc_br_i (fun c => ?_) (fun c => ?_)
        · rw [if_pos c, c] at h1
          exact F9 m _ _ [(4, bc_I ((bc_tx m).length : Int)), (5, bc_I (qm_ l p (bc_tx m)))] hm (by omega) (by omega) h1
        · rw [if_neg c] at h1
          have go := ih (by omega) (max b (qm_ l p (bc_tx m))) [(4, bc_I ((bc_tx m).length : Int)), (5, bc_I (qm_ l p (bc_tx m)))] (by omega) (by omega) h1
          rw [← e] at go
          exact go
      have Lk : ∀ i : Int, 0 ≤ i → i ≤ (bc_tx m).length → qm_ l p (bc_tx m) = i + qm_ l (p + i) ((bc_tx m).drop i.toNat) → K 36 [(0, bc_R 218), (1, bc_I (p + b)), (2, bc_I (-1)), (3, bc_I m), (4, bc_I ((bc_tx m).length : Int)), (5, bc_I i)] [] σ 0 := by
        refine up_ind ((bc_tx m).length) (fun i hi h0 h1 h2 => ?_) (fun i hi ih h0 h1 h2 => ?_)
        · have ei : i = (bc_tx m).length := by omega
          rw [List.drop_eq_nil_of_le (by omega)] at h2
          have h3 : qm_ l p (bc_tx m) = i + 0 := h2
          refine hK.1 [36, 90] 60 _ _ _ _ _ ?_
          refine bc_ob_i (by constructor <;> constructor <;> omega) ?_
          refine bc_br_i (fun c => absurd c (by omega)) (fun _ => ?_)
          exact T90 i (by omega)
        · have hlt : i.toNat < (bc_tx m).length := by omega
          have hd : (bc_tx m).drop i.toNat = (bc_tx m)[i.toNat] :: (bc_tx m).drop (i.toNat + 1) := List.drop_eq_getElem_cons hlt
          have hge : (bc_tx m).getD i.toNat 0 = (bc_tx m)[i.toNat] := by rw [List.getD_eq_getElem?_getD, List.getElem?_eq_getElem hlt]; rfl
          have hc := w6 _ (List.getElem_mem hlt)
          have hwa := wd_at hm i.toNat hlt
          rw [hge, show ((i.toNat : Nat) : Int) = i by omega] at hwa
          have hg := tg_le a4 (p + i)
          rw [hd, qm_c] at h2
          have out : ¬ tg_ l (p + i) = ((bc_tx m)[i.toNat] : Nat) → K 90 [(0, bc_R 218), (1, bc_I (p + b)), (2, bc_I (-1)), (3, bc_I m), (4, bc_I ((bc_tx m).length : Int)), (5, bc_I i)] [] σ 0 := by
            intro no
            rw [if_neg no] at h2
            exact T90 i (by omega)
          refine hK.1 [36, 90] 90 _ _ _ _ _ ?_
          refine bc_ob_i (by constructor <;> constructor <;> omega) ?_
          refine bc_br_i (fun _ => ?_) (fun c => absurd c (by omega))
          refine bc_ob_i (by rw [b1, a1]; constructor <;> constructor <;> omega) ?_
          rw [b1, a1]
          refine bc_br_i (fun c => ?_) (fun c => ?_)
          · have et := rsc_at hS (i := p + i) (by omega) c
            refine bc_ob_i (by rw [b1]; omega) ?_
            refine t_X11_startOf (by omega) ?_
            refine bc_ob_i ⟨⟨⟨by omega, by omega⟩, Nat.le_of_ble_eq_true rfl⟩, by omega, show so_ (m : Int) + i < 57 by omega⟩ ?_
            have hv : (((bc_tx (1016 - 1000)).getD (so_ (m : Int) + i).toNat 0 : Nat) : Int) = ((bc_tx m)[i.toNat] : Nat) := congrArg _ hwa
            refine bc_ob_i (by rw [b1, et, hv]; constructor <;> constructor <;> omega) ?_
            rw [b1, et, hv]
            refine bc_br_i (fun c2 => ?_) (fun c2 => ?_)
            · rw [if_pos c2] at h2
              refine ih (by omega) (by omega) ?_
              rw [h2, show (i + 1).toNat = i.toNat + 1 by omega, show p + (i + 1) = p + i + 1 by omega]
              omega
            · exact out c2
          · refine out (fun e => ?_)
            have : tg_ l (p + i) = 0 := by
              unfold tg_
              rw [if_neg (by omega)]
            omega
      refine hK.1 [36] 60 _ _ _ _ _ ?_
      refine bc_ob_i (by constructor <;> constructor <;> omega) ?_
      refine bc_br_i (fun _ => ?_) (fun c => absurd c (by omega))
      refine bc_ob_i (by decide) ?_
      refine bc_br_i (fun _ => ?_) (fun c => absurd (by decide) c)
      refine t_X11_startOf (by omega) ?_
      refine t_X11_startOf (by omega) ?_
      have go := Lk 0 (Int.le_refl 0) (by omega) (by simp)
      rw [← w1] at go
      exact go
  refine hK.1 [9] 60 _ _ _ _ _ ?_
  have go := L 10 (Nat.le_refl 10) 0 [] (Int.le_refl 0) (by omega) hW.symm
  rw [show p + 0 = σ.1 218 ((16 : Nat) : Int) by omega] at go
  exact go
end REF
