/-! the reference: numbers, marks, typing, the line -/
/-- the reference's text -/
def tyt_ (σ : bc_M) (l : List Int) : Prop := σ.1 218 ((11 : Nat) : Int) = l.length ∧ l.length ≤ 60 ∧ ∀ j : Nat, j < l.length → σ.1 225 (j : Int) = l.getD j 0
section REF
variable {g : bc_C} {d : Nat} {σ : bc_M} {q b : rw_t} {h : List rw_t} {Rr : Option bc_A → bc_M → Prop} {X : Nat → bc_M → Prop} {B : Int}
theorem t_X11_memberCount (hN : nw_ σ 219 q) (f : ∀ σ', roc_ 0 σ σ' → Rr (some (bc_I (q 3))) σ') : bc_Sem g (d + 2) mX11_memberCount [bc_R 218] σ Rr X := by
  refine e_X11_memberCount rfl (fun K hK => ?_)
  refine hK.1 [] 60 _ _ _ _ _ ?_
  exact t_X11_total hN (by decide) (f _ (roc_wr rfl))
theorem t_X11_vowCount (hN : nw_ σ 219 q) (f : ∀ σ', roc_ 0 σ σ' → Rr (some (bc_I (q 4))) σ') : bc_Sem g (d + 2) mX11_vowCount [bc_R 218] σ Rr X := by
  refine e_X11_vowCount rfl (fun K hK => ?_)
  refine hK.1 [] 60 _ _ _ _ _ ?_
  exact t_X11_total hN (by decide) (f _ (roc_wr rfl))
theorem t_X11_keptTotal (hN : nw_ σ 219 q) (f : ∀ σ', roc_ 0 σ σ' → Rr (some (bc_I (q 6))) σ') : bc_Sem g (d + 2) mX11_keptTotal [bc_R 218] σ Rr X := by
  refine e_X11_keptTotal rfl (fun K hK => ?_)
  refine hK.1 [] 60 _ _ _ _ _ ?_
  exact t_X11_total hN (by decide) (f _ (roc_wr rfl))
theorem t_X11_brokenTotal (hN : nw_ σ 219 q) (f : ∀ σ', roc_ 0 σ σ' → Rr (some (bc_I (q 7))) σ') : bc_Sem g (d + 2) mX11_brokenTotal [bc_R 218] σ Rr X := by
  refine e_X11_brokenTotal rfl (fun K hK => ?_)
  refine hK.1 [] 60 _ _ _ _ _ ?_
  exact t_X11_total hN (by decide) (f _ (roc_wr rfl))
theorem t_X11_steel (hN : nw_ σ 219 q) (f : ∀ σ', roc_ 0 σ σ' → Rr (some (bc_I (q 1))) σ') : bc_Sem g (d + 2) mX11_steel [bc_R 218] σ Rr X := by
  refine e_X11_steel rfl (fun K hK => ?_)
  refine hK.1 [] 60 _ _ _ _ _ ?_
  exact t_X11_total hN (by decide) (f _ (roc_wr rfl))
theorem t_X11_day (hN : nw_ σ 219 q) (f : ∀ σ', roc_ 0 σ σ' → Rr (some (bc_I (q 0))) σ') : bc_Sem g (d + 2) mX11_day [bc_R 218] σ Rr X := by
  refine e_X11_day rfl (fun K hK => ?_)
  refine hK.1 [] 60 _ _ _ _ _ ?_
  exact t_X11_total hN (by decide) (f _ (roc_wr rfl))
theorem t_X11_nicheKind (hN : nw_ σ 219 q) (hW : wf_N q) (f : ∀ σ', roc_ 0 σ σ' → Rr (some (bc_I (q 11))) σ') : bc_Sem g (d + 2) mX11_nicheKind [bc_R 218] σ Rr X := by
  have w := hW.1
  refine e_X11_nicheKind rfl (fun K hK => ?_)
  refine hK.1 [] 60 _ _ _ _ _ ?_
  refine t_X11_total hN (by decide) ?_
  refine bc_ob_i (by omega) ?_
  exact rt_ (f _ (roc_wr rfl)) (by rcases w with e | e <;> rw [e] <;> decide)
theorem t_X11_nicheWeight (hN : nw_ σ 219 q) (f : ∀ σ', roc_ 0 σ σ' → Rr (some (bc_I (tw_ q))) σ') : bc_Sem g (d + 2) mX11_nicheWeight [bc_R 218] σ Rr X := by
  refine e_X11_nicheWeight rfl (fun K hK => ?_)
  refine hK.1 [] 60 _ _ _ _ _ ?_
  have R0 : roc_ 0 σ (bc_wr σ 218 ((14 : Nat) : Int) 0) := roc_wr rfl
  exact t_X11_weighs (nw_fr hN R0.2.1 (by decide)) (f _ R0)
theorem t_X11_steelByAccounts (hN : nw_ σ 219 q) (f : ∀ σ', roc_ 0 σ σ' → Rr (some (bc_I (30 + q 8 - q 9 - q 10))) σ') : bc_Sem g (d + 1) mX11_steelByAccounts [bc_R 218] σ Rr X := by
  have R0 : roc_ 0 σ (bc_wr σ 218 ((14 : Nat) : Int) 0) := roc_wr rfl
  have N := nw_fr hN R0.2.1 (by decide)
  have e8 := N 8 (by decide) (by decide)
  have e9 := N 9 (by decide) (by decide)
  have e10 := N 10 (by decide) (by decide)
  refine e_X11_steelByAccounts rfl (fun K hK => ?_)
  refine hK.1 [] 60 _ _ _ _ _ ?_
  refine bc_ob_i (by decide) ?_
  refine bc_ob_i (by decide) ?_
  refine bc_ob_i (by decide) ?_
  exact rt_ (f _ R0) (by rw [e8, e9, e10])
theorem t_X11_isConsistent (f : ∀ σ', roc_ 0 σ σ' → Rr (some (bc_I 1)) σ') : bc_Sem g (d + 1) mX11_isConsistent [bc_R 218] σ Rr X := by
  refine e_X11_isConsistent rfl (fun K hK => ?_)
  refine hK.1 [] 60 _ _ _ _ _ ?_
  refine bc_ob_i (by decide) ?_
  exact f _ (roc_wr rfl)
theorem t_X11_errorPosition {x : Int} (hx : σ.1 218 ((6 : Nat) : Int) = x) (l0 : -1 ≤ x ∧ x ≤ 60) (f1 : x = -1 → ∀ σ', roc_ 1 σ σ' → Rr (some (bc_I 0)) σ') (f0 : x ≠ -1 → ∀ σ', roc_ 0 σ σ' → Rr (some (bc_I x)) σ') : bc_Sem g (d + 3) mX11_errorPosition [bc_R 218] σ Rr X := by
  refine e_X11_errorPosition rfl (fun K hK => ?_)
  refine hK.1 [] 60 _ _ _ _ _ ?_
  refine bc_ob_i (by constructor <;> constructor <;> omega) ?_
  refine bc_br_i (fun c => ?_) (fun c => ?_)
  · refine t_X11_goes (by decide) ?_
    refine bc_ob_i (by decide) ?_
    refine bc_br_i (fun _ => ?_) (fun q => absurd rfl q)
    exact f1 (hx.symm.trans c) _ (roc_wr (by decide))
  · refine t_X11_goes (by decide) ?_
    refine bc_ob_i (by decide) ?_
    refine bc_br_i (fun q => absurd q (by decide)) (fun _ => ?_)
    have R0 : roc_ 0 σ (bc_wr σ 218 ((14 : Nat) : Int) (1 - 1)) := roc_wr (by decide)
    refine rt_ (f0 (fun e => c (hx.trans e)) _ R0) ?_
    rw [R0.2.2 ((6 : Nat) : Int) (by decide)]
    exact hx
theorem t_X11_failedCommand {x : Int} (hx : σ.1 218 ((7 : Nat) : Int) = x) (l0 : -1 ≤ x ∧ x ≤ 30) (f1 : x = -1 → ∀ σ', roc_ 1 σ σ' → Rr (some (bc_I 0)) σ') (f0 : x ≠ -1 → ∀ σ', roc_ 0 σ σ' → Rr (some (bc_I x)) σ') : bc_Sem g (d + 3) mX11_failedCommand [bc_R 218] σ Rr X := by
  refine e_X11_failedCommand rfl (fun K hK => ?_)
  refine hK.1 [] 60 _ _ _ _ _ ?_
  refine bc_ob_i (by constructor <;> constructor <;> omega) ?_
  refine bc_br_i (fun c => ?_) (fun c => ?_)
  · refine t_X11_goes (by decide) ?_
    refine bc_ob_i (by decide) ?_
    refine bc_br_i (fun _ => ?_) (fun q => absurd rfl q)
    exact f1 (hx.symm.trans c) _ (roc_wr (by decide))
  · refine t_X11_goes (by decide) ?_
    refine bc_ob_i (by decide) ?_
    refine bc_br_i (fun q => absurd q (by decide)) (fun _ => ?_)
    have R0 : roc_ 0 σ (bc_wr σ 218 ((14 : Nat) : Int) (1 - 1)) := roc_wr (by decide)
    refine rt_ (f0 (fun e => c (hx.trans e)) _ R0) ?_
    rw [R0.2.2 ((7 : Nat) : Int) (by decide)]
    exact hx
theorem t_X11_type {c : Int} {l : List Int} (hl : tyt_ σ l) (hc : 0 ≤ c ∧ c ≤ 65535) (f1 : ¬ (32 ≤ c ∧ c ≤ 126) → ∀ σ', roc_ 1 σ σ' → Rr (some (bc_I 0)) σ') (f2 : (32 ≤ c ∧ c ≤ 126) → 60 ≤ l.length → ∀ σ', roc_ 2 σ σ' → Rr (some (bc_I 0)) σ') (f0 : 32 ≤ c ∧ c ≤ 126 → l.length < 60 → ∀ σ', tyt_ σ' (l ++ [c]) → σ'.1 218 ((14 : Nat) : Int) = 0 → fr_ (fun k => k = 218 ∨ k = 225) σ σ' → fj_ (fun j => j = 11 ∨ j = 14) σ σ' → Rr (some (bc_I (l.length + 1))) σ') : bc_Sem g (d + 2) mX11_type [bc_R 218, bc_I c] σ Rr X := by
  obtain ⟨h1, h2, h3⟩ := hl
  refine e_X11_type rfl (fun K hK => ?_)
  have T : ∀ x y : Int, (x = if 32 ≤ c ∧ c ≤ 126 then 1 else 0) → (y = if l.length < 60 then 1 else 0) → K 23 [(0, bc_R 218), (1, bc_I c)] [bc_I y, bc_I x, bc_R 218] σ 0 := by
    intro x y hx hy
    have lx : 0 ≤ x ∧ x ≤ 1 := by rw [hx]; split <;> omega
    have ly : 0 ≤ y ∧ y ≤ 1 := by rw [hy]; split <;> omega
    refine hK.1 [] 80 _ _ _ _ _ ?_
    refine t_X11_holds lx ly (by decide) (by decide) ?_
    by_cases k : 32 ≤ c ∧ c ≤ 126
    · rw [if_pos k] at hx
      subst hx
      by_cases k2 : l.length < 60
      · rw [if_pos k2] at hy
        subst hy
        have F1 : fr_ (fun k => k = 218) σ (bc_wr σ 218 ((14 : Nat) : Int) (ho_ 1 1 1 1)) := fr_wr rfl
        have y1 : (bc_wr σ 218 ((14 : Nat) : Int) (ho_ 1 1 1 1)).1 218 ((11 : Nat) : Int) = l.length := by rw [← h1]; simp [bc_wr]
        have z1 : (bc_wr σ 218 ((14 : Nat) : Int) (ho_ 1 1 1 1)).1 218 ((14 : Nat) : Int) = 0 := by simp [bc_wr]; decide
        have J1 : fj_ (fun j => j = 11 ∨ j = 14) σ (bc_wr σ 218 ((14 : Nat) : Int) (ho_ 1 1 1 1)) := fj_wr (.inr rfl)
        have u1 : ∀ j : Nat, j < l.length → (bc_wr σ 218 ((14 : Nat) : Int) (ho_ 1 1 1 1)).1 225 (j : Int) = l.getD j 0 := fun j hj => by rw [F1.1 225 (by decide)]; exact h3 j hj
        refine bc_ob_i (by decide) ?_
        refine bc_br_i (fun q => absurd q (by decide)) (fun _ => ?_)
        generalize bc_wr σ 218 ((14 : Nat) : Int) (ho_ 1 1 1 1) = s1 at F1 y1 z1 J1 u1 ⊢
        have F2 : fr_ (fun k => k = 225) s1 (bc_wr s1 225 (s1.1 218 ((11 : Nat) : Int)) c) := fr_wr rfl
        have y2 : (bc_wr s1 225 (s1.1 218 ((11 : Nat) : Int)) c).1 218 ((11 : Nat) : Int) = l.length := by rw [F2.1 218 (by decide)]; exact y1
        refine bc_ob_i (by omega) ?_
        have F3 : fr_ (fun k => k = 218) (bc_wr s1 225 (s1.1 218 ((11 : Nat) : Int)) c) (bc_wr (bc_wr s1 225 (s1.1 218 ((11 : Nat) : Int)) c) 218 ((11 : Nat) : Int) ((bc_wr s1 225 (s1.1 218 ((11 : Nat) : Int)) c).1 218 ((11 : Nat) : Int) + 1)) := fr_wr rfl
        have y3 : (bc_wr (bc_wr s1 225 (s1.1 218 ((11 : Nat) : Int)) c) 218 ((11 : Nat) : Int) ((bc_wr s1 225 (s1.1 218 ((11 : Nat) : Int)) c).1 218 ((11 : Nat) : Int) + 1)).1 218 ((11 : Nat) : Int) = l.length + 1 := by
          rw [← y2]
          simp [bc_wr]
        refine rt_ (f0 k k2 _ ⟨by rw [y3]; simp, by simp; omega, fun j hj => ?_⟩ ?_ (fr_trans (fr_mono F1 (fun k hk => .inl hk)) (fr_trans (fr_mono F2 (fun k hk => .inr hk)) (fr_mono F3 (fun k hk => .inl hk)))) (fj_trans J1 (fj_trans (fj_fr F2 (by decide)) (fj_wr (.inl rfl))))) y3
        · rw [F3.1 225 (by decide)]
          simp only [bc_wr, if_true]
          rw [y1]
          by_cases e : j = l.length
          · subst e
            simp
          · rw [if_neg (by omega), u1 j (by simp at hj; omega)]
            simp at hj
            rw [List.getD_eq_getElem?_getD, List.getD_eq_getElem?_getD, List.getElem?_append_left (by omega)]
        · have e : (bc_wr (bc_wr s1 225 (s1.1 218 ((11 : Nat) : Int)) c) 218 ((11 : Nat) : Int) ((bc_wr s1 225 (s1.1 218 ((11 : Nat) : Int)) c).1 218 ((11 : Nat) : Int) + 1)).1 218 ((14 : Nat) : Int) = (bc_wr s1 225 (s1.1 218 ((11 : Nat) : Int)) c).1 218 ((14 : Nat) : Int) := by simp [bc_wr]
          rw [e, F2.1 218 (by decide)]
          exact z1
      · rw [if_neg k2] at hy
        subst hy
        refine bc_ob_i (by decide) ?_
        refine bc_br_i (fun _ => ?_) (fun q => absurd (by decide) q)
        exact f2 k (by omega) _ (roc_wr (by decide))
    · rw [if_neg k] at hx
      subst hx
      have e : ho_ 0 y 1 1 = 1 := by unfold ho_; rw [if_pos rfl]
      rw [e]
      refine bc_ob_i (by decide) ?_
      refine bc_br_i (fun _ => ?_) (fun q => absurd (by decide) q)
      exact f1 k _ (roc_wr rfl)
  refine hK.1 [23] 80 _ _ _ _ _ ?_
  refine t_X11_isIn (by constructor <;> omega) (by decide) (by decide) ?_
  refine bc_ob_i (by constructor <;> constructor <;> omega) ?_
  refine bc_br_i (fun e => ?_) (fun e => ?_)
  · first | exact T _ 1 rfl (if_pos (by omega)).symm | exact T _ 0 rfl (if_neg (by omega)).symm
  · first | exact T _ 1 rfl (if_pos (by omega)).symm | exact T _ 0 rfl (if_neg (by omega)).symm
end REF
