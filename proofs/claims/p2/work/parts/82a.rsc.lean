/-! the reference reads a script: signs and values -/
/-- the text l, the place p, the error w (-1: none) -/
def rsc_ (σ : bc_M) (l : List Int) (p w : Int) : Prop := ((σ.1 218 ((15 : Nat) : Int) = l.length ∧ l.length ≤ 60) ∧ (∀ j : Nat, j < l.length → σ.1 225 (j : Int) = l.getD j 0) ∧ ∀ c ∈ l, 0 ≤ c ∧ c ≤ 65535) ∧ (σ.1 218 ((16 : Nat) : Int) = p ∧ 0 ≤ p ∧ p ≤ l.length) ∧ σ.1 218 ((17 : Nat) : Int) = w ∧ -1 ≤ w ∧ w ≤ 60
/-- only the place and the error have changed -/
def rsf_ (σ σ' : bc_M) : Prop := fr_ (fun k => k = 218) σ σ' ∧ fj_ (fun j => j = 16 ∨ j = 17) σ σ'
theorem rsf_refl (σ : bc_M) : rsf_ σ σ := ⟨fr_refl _, fun _ _ => rfl⟩
theorem rsf_trans {a b c : bc_M} (h : rsf_ a b) (k : rsf_ b c) : rsf_ a c := ⟨fr_trans h.1 k.1, fj_trans h.2 k.2⟩
theorem rsc_16 {σ : bc_M} {l : List Int} {p w v : Int} (h : rsc_ σ l p w) (hv : 0 ≤ v ∧ v ≤ l.length) : rsc_ (bc_wr σ 218 ((16 : Nat) : Int) v) l v w := by
  obtain ⟨⟨⟨a1, a2⟩, a3, a4⟩, ⟨b1, b2⟩, c1, c2⟩ := h
  refine ⟨⟨⟨?_, a2⟩, fun j hj => ?_, a4⟩, ⟨by simp [bc_wr], hv⟩, ?_, c2⟩
  · rw [← a1]; simp [bc_wr]
  · rw [← a3 j hj]; simp [bc_wr]
  · rw [← c1]; simp [bc_wr]
theorem rsc_17 {σ : bc_M} {l : List Int} {p w v : Int} (h : rsc_ σ l p w) (hv : -1 ≤ v ∧ v ≤ 60) : rsc_ (bc_wr σ 218 ((17 : Nat) : Int) v) l p v := by
  obtain ⟨⟨⟨a1, a2⟩, a3, a4⟩, ⟨b1, b2⟩, c1, c2⟩ := h
  refine ⟨⟨⟨?_, a2⟩, fun j hj => ?_, a4⟩, ⟨?_, b2⟩, by simp [bc_wr], hv⟩
  · rw [← a1]; simp [bc_wr]
  · rw [← a3 j hj]; simp [bc_wr]
  · rw [← b1]; simp [bc_wr]
theorem rsf_16 {σ : bc_M} {v : Int} : rsf_ σ (bc_wr σ 218 ((16 : Nat) : Int) v) := ⟨fr_wr rfl, fj_wr (.inl rfl)⟩
theorem rsf_17 {σ : bc_M} {v : Int} : rsf_ σ (bc_wr σ 218 ((17 : Nat) : Int) v) := ⟨fr_wr rfl, fj_wr (.inr rfl)⟩
theorem rsc_at {σ : bc_M} {l : List Int} {p w i : Int} (h : rsc_ σ l p w) (h0 : 0 ≤ i) (h1 : i < l.length) : σ.1 225 i = tg_ l i := by
  have := h.1.2.1 i.toNat (by omega)
  rw [show ((i.toNat : Nat) : Int) = i by omega] at this
  unfold tg_
  rw [if_pos ⟨h0, h1⟩]
  exact this
/-- one value or sign read, with what goes before -/
def srd_ (l : List Int) (f : Int) (e : Int × Int) : Int × Int := if e.2 = -1 then (if f = 32 then (if tg_ l e.1 = 32 then (e.1 + 1, -1) else (e.1, e.1)) else ((qv_ l e.1 f).2, if (qv_ l e.1 f).1 = -1 then (qv_ l e.1 f).2 else -1)) else e
theorem srd_no {l : List Int} {f : Int} {e : Int × Int} (h : e.2 ≠ -1) : srd_ l f e = e := by
  unfold srd_
  rw [if_neg h]
section REF
variable {g : bc_C} {d : Nat} {σ : bc_M} {l : List Int} {p w : Int} {Rr : Option bc_A → bc_M → Prop} {X : Nat → bc_M → Prop}
theorem t_X11_letterHere (hS : rsc_ σ l p w) (h : Rr (some (bc_I (if p < l.length then tg_ l p else -1))) σ) : bc_Sem g (d + 1) mX11_letterHere [bc_R 218] σ Rr X := by
  obtain ⟨⟨⟨a1, a2⟩, a3, a4⟩, ⟨b1, b2, b3⟩, c1, c2⟩ := id hS
  refine e_X11_letterHere rfl (fun K hK => ?_)
  refine hK.1 [] 60 _ _ _ _ _ ?_
  refine bc_ob_i (by rw [a1, b1]; constructor <;> constructor <;> omega) ?_
  rw [a1, b1]
  refine bc_br_i (fun c => ?_) (fun c => ?_)
  · rw [if_pos c] at h
    refine bc_ob_i (by rw [b1]; omega) ?_
    refine rt_ h ?_
    rw [b1]
    exact rsc_at hS b2 c
  · rw [if_neg c] at h
    exact h
theorem t_X11_reads {a b : Int} (hS : rsc_ σ l p w) (ha : 1 ≤ a ∧ a ≤ 65535) (hb : 1 ≤ b ∧ b ≤ 65535) (h1 : w = -1 → p < l.length → a ≤ tg_ l p ∧ tg_ l p ≤ b → ∀ σ', rsc_ σ' l (p + 1) (-1) → rsf_ σ σ' → Rr (some (bc_I (tg_ l p))) σ') (h0 : ¬ (w = -1 ∧ a ≤ tg_ l p ∧ tg_ l p ≤ b) → ∀ σ', rsc_ σ' l p (if w = -1 then p else w) → rsf_ σ σ' → Rr (some (bc_I 48)) σ') : bc_Sem g (d + 2) mX11_reads [bc_R 218, bc_I a, bc_I b] σ Rr X := by
  obtain ⟨⟨⟨a1, a2⟩, a3, a4⟩, ⟨b1, b2, b3⟩, c1, c2, c3⟩ := id hS
  have lg := tg_le a4 p
  refine e_X11_reads rfl (fun K hK => ?_)
  have T42 : ¬ (w = -1 ∧ a ≤ tg_ l p ∧ tg_ l p ≤ b) → K 42 [(0, bc_R 218), (1, bc_I a), (2, bc_I b)] [] σ 0 := by
    intro no
    have fin := h0 no
    refine hK.1 [] 60 _ _ _ _ _ ?_
    refine bc_ob_i (by rw [c1]; constructor <;> constructor <;> omega) ?_
    rw [c1]
    refine bc_br_i (fun c => ?_) (fun c => ?_)
    · rw [if_pos c] at fin
      refine fin _ ?_ rsf_17
      rw [b1]
      exact rsc_17 hS (by omega)
    · rw [if_neg c] at fin
      refine fin _ ?_ rsf_17
      rw [c1]
      exact rsc_17 hS (by omega)
  refine hK.1 [42] 60 _ _ _ _ _ ?_
  refine bc_ob_i (by rw [c1]; constructor <;> constructor <;> omega) ?_
  rw [c1]
  refine bc_br_i (fun c => ?_) (fun c => ?_)
  · refine t_X11_letterHere hS ?_
    refine t_X11_isIn (by split <;> constructor <;> omega) (by constructor <;> omega) (by constructor <;> omega) ?_
    by_cases q : p < l.length
    · rw [if_pos q]
      by_cases r : a ≤ tg_ l p ∧ tg_ l p ≤ b
      · rw [if_pos r]
        refine bc_ob_i (by decide) ?_
        refine bc_br_i (fun c => absurd c (by decide)) (fun _ => ?_)
        have S1 := rsc_16 hS (v := σ.1 218 ((16 : Nat) : Int) + 1) (by rw [b1]; omega)
        have S2 : rsc_ (bc_wr σ 218 ((16 : Nat) : Int) (σ.1 218 ((16 : Nat) : Int) + 1)) l (p + 1) (-1) := by
          have k := rsc_16 hS (v := p + 1) (by omega)
          rw [c] at k
          rw [b1]
          exact k
        have fin := h1 c q r _ S2 rsf_16
        have e16 := S1.2.1.1
        have ev : (bc_wr σ 218 ((16 : Nat) : Int) (σ.1 218 ((16 : Nat) : Int) + 1)).1 225 ((bc_wr σ 218 ((16 : Nat) : Int) (σ.1 218 ((16 : Nat) : Int) + 1)).1 218 ((16 : Nat) : Int) - 1) = tg_ l p := by
          rw [rsc_at S1 (by rw [e16, b1]; omega) (by rw [e16, b1]; omega), e16, b1, show p + 1 - 1 = p by omega]
        refine bc_ob_i (by rw [e16, b1]; omega) ?_
        exact rt_ fin ev
      · rw [if_neg r]
        refine bc_ob_i (by decide) ?_
        refine bc_br_i (fun _ => ?_) (fun c => absurd (by decide) c)
        exact T42 (fun k => r k.2)
    · rw [if_neg q, if_neg (by omega)]
      refine bc_ob_i (by decide) ?_
      refine bc_br_i (fun _ => ?_) (fun c => absurd (by decide) c)
      refine T42 (fun k => ?_)
      have : tg_ l p = 0 := by
        unfold tg_
        rw [if_neg (by omega)]
      omega
  · exact T42 (fun k => c k.1)
theorem t_X11_blank (hS : rsc_ σ l p w) (h : ∀ σ', rsc_ σ' l (srd_ l 32 (p, w)).1 (srd_ l 32 (p, w)).2 → rsf_ σ σ' → Rr none σ') : bc_Sem g (d + 3) mX11_blank [bc_R 218] σ Rr X := by
  refine e_X11_blank rfl (fun K hK => ?_)
  refine hK.1 [] 60 _ _ _ _ _ ?_
  unfold srd_ at h
  refine t_X11_reads hS (by decide) (by decide) (fun c q r s S F => ?_) (fun no s S F => ?_)
  · have e : tg_ l p = 32 := by omega
    subst c
    rw [if_pos rfl, if_pos rfl, if_pos e] at h
    exact h s S F
  · by_cases c : w = -1
    · subst c
      have e : ¬ tg_ l p = 32 := fun e => no ⟨rfl, by omega⟩
      rw [if_pos rfl, if_pos rfl, if_neg e] at h
      exact h s S F
    · rw [if_neg c] at h S
      exact h s S F
/-- a value read: x -/
def rvx_ (l : List Int) (p w f x : Int) : Prop := (0 ≤ x ∧ x ≤ 999) ∧ (w = -1 → (qv_ l p f).1 ≠ -1 → x = (qv_ l p f).1)
theorem t_X11_digit0 (hS : rsc_ σ l p w) (h1 : w = -1 → 48 ≤ tg_ l p ∧ tg_ l p ≤ 57 → ∀ σ', rsc_ σ' l (p + 1) (-1) → rsf_ σ σ' → Rr (some (bc_I (tg_ l p - 48))) σ') (h0 : ¬ (w = -1 ∧ 48 ≤ tg_ l p ∧ tg_ l p ≤ 57) → ∀ σ', rsc_ σ' l p (if w = -1 then p else w) → rsf_ σ σ' → Rr (some (bc_I 0)) σ') : bc_Sem g (d + 3) mX11_digit [bc_R 218] σ Rr X := by
  refine e_X11_digit rfl (fun K hK => ?_)
  refine hK.1 [] 60 _ _ _ _ _ ?_
  refine t_X11_reads hS (by decide) (by decide) (fun c q r s S F => ?_) (fun no s S F => ?_)
  · exact h1 c r s S F
  · exact h0 no s S F
theorem qv_d {l : List Int} {p : Int} : qv_ l p 100 = if 48 ≤ tg_ l p ∧ tg_ l p ≤ 57 then (tg_ l p - 48, p + 1) else (-1, p) := by
  unfold qv_
  rw [if_neg (by decide), if_neg (by decide : ¬ (100 : Int) = 110), qd_s]
  by_cases c : 48 ≤ tg_ l p ∧ tg_ l p ≤ 57
  · rw [if_pos c, if_pos c]
    show (if p + 1 = p then (-1 : Int) else 0 * 10 + tg_ l p - 48, p + 1) = _
    rw [if_neg (by omega), show 0 * 10 + tg_ l p - 48 = tg_ l p - 48 by omega]
  · rw [if_neg c, if_neg c]
    show (if p = p then (-1 : Int) else 0, p) = _
    rw [if_pos rfl]
theorem t_X11_digit (hS : rsc_ σ l p w) (h : ∀ σ' x, rsc_ σ' l (srd_ l 100 (p, w)).1 (srd_ l 100 (p, w)).2 → rsf_ σ σ' → rvx_ l p w 100 x → Rr (some (bc_I x)) σ') : bc_Sem g (d + 3) mX11_digit [bc_R 218] σ Rr X := by
  unfold srd_ rvx_ at h
  rw [if_neg (by decide : ¬ (100 : Int) = 32), qv_d] at h
  refine t_X11_digit0 hS (fun c r s S F => ?_) (fun no s S F => ?_)
  · subst c
    rw [if_pos rfl, if_pos r] at h
    refine h s _ ?_ F ⟨by omega, fun _ _ => rfl⟩
    show rsc_ s l (p + 1) (if tg_ l p - 48 = -1 then p + 1 else -1)
    rw [if_neg (by omega)]
    exact S
  · by_cases c : w = -1
    · subst c
      have e : ¬ (48 ≤ tg_ l p ∧ tg_ l p ≤ 57) := fun e => no ⟨rfl, e⟩
      rw [if_pos rfl, if_neg e] at h
      exact h s 0 S F ⟨by decide, fun _ q => absurd rfl q⟩
    · rw [if_neg c] at h S
      exact h s 0 S F ⟨by decide, fun q => absurd q c⟩
theorem t_X11_kindOf (hS : rsc_ σ l p w) (h : ∀ σ' x, rsc_ σ' l (srd_ l 107 (p, w)).1 (srd_ l 107 (p, w)).2 → rsf_ σ σ' → rvx_ l p w 107 x → Rr (some (bc_I x)) σ') : bc_Sem g (d + 3) mX11_kindOf [bc_R 218] σ Rr X := by
  have a4 := hS.1.2.2
  have lg := tg_le a4 p
  have eq : qv_ l p 107 = if tg_ l p = 99 ∨ tg_ l p = 108 then (tg_ l p, p + 1) else (-1, p) := by
    unfold qv_
    rw [if_pos rfl]
  unfold srd_ rvx_ at h
  rw [if_neg (by decide : ¬ (107 : Int) = 32), eq] at h
  have H1 : w = -1 → tg_ l p = 99 ∨ tg_ l p = 108 → ∀ s, rsc_ s l (p + 1) (-1) → rsf_ σ s → Rr (some (bc_I (tg_ l p))) s := by
    intro c r s S F
    subst c
    rw [if_pos rfl, if_pos r] at h
    refine h s _ ?_ F ⟨by omega, fun _ _ => rfl⟩
    show rsc_ s l (p + 1) (if tg_ l p = -1 then p + 1 else -1)
    rw [if_neg (by omega)]
    exact S
  have H0 : ¬ (w = -1 ∧ (tg_ l p = 99 ∨ tg_ l p = 108)) → ∀ s, rsc_ s l p (if w = -1 then p else w) → rsf_ σ s → Rr (some (bc_I 48)) s := by
    intro no s S F
    by_cases c : w = -1
    · subst c
      have e : ¬ (tg_ l p = 99 ∨ tg_ l p = 108) := fun e => no ⟨rfl, e⟩
      rw [if_pos rfl, if_neg e] at h
      exact h s 48 S F ⟨by decide, fun _ q => absurd rfl q⟩
    · rw [if_neg c] at h S
      exact h s 48 S F ⟨by decide, fun q => absurd q c⟩
  refine e_X11_kindOf rfl (fun K hK => ?_)
  refine hK.1 [] 60 _ _ _ _ _ ?_
  refine t_X11_letterHere hS ?_
  by_cases q : p < l.length
  · rw [if_pos q]
    refine bc_ob_i (by constructor <;> constructor <;> omega) ?_
    refine bc_br_i (fun c => ?_) (fun c => ?_)
    · refine t_X11_reads hS (by decide) (by decide) (fun c2 q r s S F => H1 c2 (.inr c) s S F) (fun no s S F => ?_)
      exact H0 (fun k => no ⟨k.1, by omega⟩) s S F
    · refine t_X11_reads hS (by decide) (by decide) (fun c2 q r s S F => H1 c2 (.inl (by omega)) s S F) (fun no s S F => ?_)
      exact H0 (fun k => no ⟨k.1, by omega⟩) s S F
  · rw [if_neg q]
    have z : tg_ l p = 0 := by
      unfold tg_
      rw [if_neg (by omega)]
    refine bc_ob_i (by decide) ?_
    refine bc_br_i (fun c => absurd c (by decide)) (fun _ => ?_)
    refine t_X11_reads hS (by decide) (by decide) (fun c2 q r s S F => absurd z (by omega)) (fun no s S F => ?_)
    exact H0 (fun k => absurd z (by omega)) s S F
theorem t_X11_number (hS : rsc_ σ l p w) (h : ∀ σ' x, rsc_ σ' l (srd_ l 110 (p, w)).1 (srd_ l 110 (p, w)).2 → rsf_ σ σ' → rvx_ l p w 110 x → Rr (some (bc_I x)) σ') : bc_Sem g (d + 4) mX11_number [bc_R 218] σ Rr X := by
  unfold srd_ rvx_ at h
  rw [if_neg (by decide : ¬ (110 : Int) = 32)] at h
  have eq : qv_ l p 110 = (if (qd_ l 3 p 0).2 = p then -1 else (qd_ l 3 p 0).1, (qd_ l 3 p 0).2) := by
    unfold qv_
    rw [if_neg (by decide), if_pos rfl]
  have p0 := hS.2.1.2
  refine e_X11_number rfl (fun K hK => ?_)
  -- the further digits
  have L : 48 ≤ tg_ l p ∧ tg_ l p ≤ 57 → w = -1 → ∀ i : Nat, ∀ (s : bc_M) (v : Int), i ≤ 2 → rsc_ s l (p + 3 - i) (-1) → rsf_ σ s → (0 ≤ v ∧ (i = 2 → v ≤ 9) ∧ (i = 1 → v ≤ 99) ∧ v ≤ 999) → qd_ l i (p + 3 - i) v = qd_ l 3 p 0 → K 7 [(0, bc_R 218), (1, bc_I v), (2, bc_I (3 - i))] [] s 0 := by
    intro hd c i
    subst c
    rw [if_pos rfl, eq] at h
    induction i with
    | zero =>
      intro s v hi S F lv hq
      have e2 : (qd_ l 3 p 0).2 = p + 3 - ((0 : Nat) : Int) := by rw [← hq]; rfl
      have e1 : (qd_ l 3 p 0).1 = v := by rw [← hq]; rfl
      rw [e2, e1] at h
      refine hK.1 [7] 60 _ _ _ _ _ ?_
      refine bc_ob_i (by decide) ?_
      refine bc_br_i (fun c => absurd c (by decide)) (fun _ => ?_)
      refine h s v ?_ F ⟨by omega, fun _ _ => ?_⟩
      · show rsc_ s l (p + 3 - ((0 : Nat) : Int)) (if (if p + 3 - ((0 : Nat) : Int) = p then (-1 : Int) else v) = -1 then p + 3 - ((0 : Nat) : Int) else -1)
        rw [if_neg (by omega : ¬ p + 3 - ((0 : Nat) : Int) = p), if_neg (by omega)]
        exact S
      · show v = (if p + 3 - ((0 : Nat) : Int) = p then (-1 : Int) else v)
        rw [if_neg (by omega)]
    | succ i ih =>
      intro s v hi S F lv hq
      obtain ⟨-, ⟨b1, b2, b3⟩, c1, -⟩ := id S
      have a4 := S.1.2.2
      have lg := tg_le a4 (p + 3 - ((i + 1 : Nat) : Int))
      have out : ¬ (48 ≤ tg_ l (p + 3 - ((i + 1 : Nat) : Int)) ∧ tg_ l (p + 3 - ((i + 1 : Nat) : Int)) ≤ 57) → K 50 [(0, bc_R 218), (1, bc_I v), (2, bc_I (3 - ((i + 1 : Nat) : Int)))] [] s 0 := by
        intro no
        rw [qd_s, if_neg no] at hq
        have e2 : (qd_ l 3 p 0).2 = p + 3 - ((i + 1 : Nat) : Int) := by rw [← hq]
        have e1 : (qd_ l 3 p 0).1 = v := by rw [← hq]
        rw [e2, e1] at h
        refine hK.1 [] 60 _ _ _ _ _ ?_
        refine h s v ?_ F ⟨by omega, fun _ _ => ?_⟩
        · show rsc_ s l (p + 3 - ((i + 1 : Nat) : Int)) (if (if p + 3 - ((i + 1 : Nat) : Int) = p then (-1 : Int) else v) = -1 then p + 3 - ((i + 1 : Nat) : Int) else -1)
          rw [if_neg (by omega : ¬ p + 3 - ((i + 1 : Nat) : Int) = p), if_neg (by omega)]
          exact S
        · show v = (if p + 3 - ((i + 1 : Nat) : Int) = p then (-1 : Int) else v)
          rw [if_neg (by omega)]
      refine hK.1 [7, 50] 90 _ _ _ _ _ ?_
      refine bc_ob_i (by constructor <;> constructor <;> omega) ?_
      refine bc_br_i (fun _ => ?_) (fun c => absurd c (by omega))
      refine bc_ob_i (by rw [c1]; decide) ?_
      rw [c1]
      refine bc_br_i (fun _ => ?_) (fun c => absurd (by decide) c)
      refine t_X11_letterHere S ?_
      refine t_X11_isIn (by split <;> constructor <;> omega) (by decide) (by decide) ?_
      by_cases q : 48 ≤ tg_ l (p + 3 - ((i + 1 : Nat) : Int)) ∧ tg_ l (p + 3 - ((i + 1 : Nat) : Int)) ≤ 57
      · have hp := (tg_in (l := l) (p := p + 3 - ((i + 1 : Nat) : Int)) (by omega)).2
        rw [if_pos hp, if_pos q]
        refine bc_ob_i (by decide) ?_
        refine bc_br_i (fun c => absurd c (by decide)) (fun _ => ?_)
        refine t_X11_digit0 S (fun _ r s2 S2 F2 => ?_) (fun no s2 S2 F2 => absurd ⟨rfl, q⟩ no)
        rw [qd_s, if_pos q] at hq
        have ep : p + 3 - ((i + 1 : Nat) : Int) + 1 = p + 3 - (i : Int) := by omega
        have ek : (3 : Int) - ((i + 1 : Nat) : Int) + 1 = 3 - (i : Int) := by omega
        rw [ep] at S2 hq
        have hh : i = 0 ∨ i = 1 := by omega
        have go := ih s2 (10 * v + (tg_ l (p + 3 - ((i + 1 : Nat) : Int)) - 48)) (by omega) S2 (rsf_trans F F2) (by rcases hh with rfl | rfl <;> omega) (by rw [show 10 * v + (tg_ l (p + 3 - ((i + 1 : Nat) : Int)) - 48) = v * 10 + tg_ l (p + 3 - ((i + 1 : Nat) : Int)) - 48 by omega]; exact hq)
        rw [← ek] at go
        exact go
      · have e0 : ¬ (48 ≤ (if p + 3 - ((i + 1 : Nat) : Int) < l.length then tg_ l (p + 3 - ((i + 1 : Nat) : Int)) else -1) ∧ (if p + 3 - ((i + 1 : Nat) : Int) < l.length then tg_ l (p + 3 - ((i + 1 : Nat) : Int)) else -1) ≤ 57) := by
          split
          · exact q
          · decide
        rw [if_neg e0]
        refine bc_ob_i (by decide) ?_
        refine bc_br_i (fun _ => ?_) (fun c => absurd (by decide) c)
        exact out q
  refine hK.1 [7] 60 _ _ _ _ _ ?_
  refine t_X11_digit0 hS (fun c r s S F => ?_) (fun no s S F => ?_)
  · refine L r c 2 s _ (by decide) ?_ F (by omega) ?_
    · rw [show p + 3 - ((2 : Nat) : Int) = p + 1 by omega]
      exact S
    · rw [qd_s (n := 2), if_pos r, show p + 3 - ((2 : Nat) : Int) = p + 1 by omega, show 0 * 10 + tg_ l p - 48 = tg_ l p - 48 by omega]
  · have out : K 50 [(0, bc_R 218), (1, bc_I 0), (2, bc_I 1)] [] s 0 := by
      refine hK.1 [] 60 _ _ _ _ _ ?_
      by_cases c : w = -1
      · subst c
        have e : ¬ (48 ≤ tg_ l p ∧ tg_ l p ≤ 57) := fun e => no ⟨rfl, e⟩
        have eq2 : qd_ l 3 p 0 = (0, p) := by
          rw [qd_s (n := 2), if_neg e]
        rw [if_pos rfl, eq, eq2] at h
        refine h s 0 ?_ F ⟨by decide, fun _ q => absurd ?_ q⟩
        · show rsc_ s l p (if (if p = p then (-1 : Int) else 0) = -1 then p else -1)
          rw [if_pos rfl, if_pos rfl]
          exact S
        · show (if p = p then (-1 : Int) else 0) = -1
          rw [if_pos rfl]
      · rw [if_neg c] at h S
        exact h s 0 S F ⟨by decide, fun q => absurd q c⟩
    have nw : (if w = -1 then p else w) ≠ -1 := by
      split
      · omega
      · assumption
    have e17 := S.2.2.1
    have l17 := S.2.2.2
    refine hK.1 [7, 50] 60 _ _ _ _ _ ?_
    refine bc_ob_i (by decide) ?_
    refine bc_br_i (fun _ => ?_) (fun c => absurd (by decide) c)
    refine bc_ob_i (by rw [e17]; constructor <;> constructor <;> omega) ?_
    rw [e17]
    refine bc_br_i (fun c => absurd c nw) (fun _ => ?_)
    exact out
end REF
