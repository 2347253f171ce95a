/-! the reference tells members and ways -/
def lnt_ (σ : bc_M) (l : List Int) : Prop := l.length ≤ 60 ∧ (∀ j : Nat, j < l.length → σ.1 226 (j : Int) = l.getD j 0) ∧ ∀ c ∈ l, 0 ≤ c ∧ c ≤ 65535
theorem lnt_0 (σ : bc_M) : lnt_ σ [] := ⟨by decide, fun j hj => absurd hj (Nat.not_lt_zero _), fun c hc => by cases hc⟩
theorem lnt_fr {P : Nat → Prop} {σ σ' : bc_M} {l : List Int} (h : lnt_ σ l) (hf : fr_ P σ σ') (hp : ¬ P 226) : lnt_ σ' l := by
  unfold lnt_
  rw [hf.1 226 hp]
  exact h
theorem lnt_add {σ : bc_M} {l : List Int} {c : Int} (h : lnt_ σ l) (hl : l.length < 60) (hc : 0 ≤ c ∧ c ≤ 65535) : lnt_ (bc_wr σ 226 (l.length : Int) c) (ta_ l c) := by
  unfold ta_
  rw [if_pos hl]
  refine ⟨by simp; omega, fun j hj => ?_, fun x hx => ?_⟩
  · simp only [bc_wr, if_true]
    by_cases e : j = l.length
    · subst e
      simp
    · have hlt : j < l.length := by simp at hj; omega
      rw [if_neg (by omega), h.2.1 j hlt]
      simp [List.getD_eq_getElem?_getD, List.getElem?_append_left hlt]
  · rcases List.mem_append.mp hx with hx | hx
    · exact h.2.2 x hx
    · have : x = c := by simpa using hx
      rw [this]; exact hc
theorem ta_len {l : List Int} {c : Int} (hl : l.length < 60) : (ta_ l c).length = l.length + 1 := by
  unfold ta_
  rw [if_pos hl]
  simp
theorem tn_len {l : List Int} {n : Int} (hl : l.length + 2 ≤ 60) : l.length + 1 ≤ (tn_ l n).length ∧ (tn_ l n).length ≤ l.length + 2 := by
  unfold tn_
  split
  · have e1 := ta_len (l := l) (c := 48 + n / 10 % 10) (by omega)
    rw [ta_len (by omega)]
    omega
  · rw [ta_len (by omega)]
    omega
section REF
variable {g : bc_C} {d : Nat} {σ : bc_M} {q b : rw_t} {h : List rw_t} {Rr : Option bc_A → bc_M → Prop} {X : Nat → bc_M → Prop} {B : Int}
theorem t_X11_lays {l : List Int} {c n : Int} (hl : lnt_ σ l) (h6 : l.length < 60) (e : n = l.length) (hc : 0 ≤ c ∧ c ≤ 65535) (f : ∀ σ', lnt_ σ' (ta_ l c) → fr_ (fun k => k = 226) σ σ' → Rr (some (bc_I ((ta_ l c).length : Int))) σ') : bc_Sem g (d + 1) mX11_lays [bc_R 218, bc_I n, bc_I c] σ Rr X := by
  subst e
  refine e_X11_lays rfl (fun K hK => ?_)
  refine hK.1 [] 60 _ _ _ _ _ ?_
  refine bc_ob_i (by first | omega | decide | (constructor <;> omega) | (constructor <;> constructor <;> omega)) ?_
  exact rt_ (f _ (lnt_add hl h6 hc) (fr_wr rfl)) (by rw [ta_len h6]; omega)
theorem t_X11_writesNumber {l : List Int} {n m : Int} (hl : lnt_ σ l) (h6 : l.length + 2 ≤ 60) (e : m = l.length) (hn : 0 ≤ n ∧ n ≤ 99) (f : ∀ σ', lnt_ σ' (tn_ l n) → fr_ (fun k => k = 226) σ σ' → Rr (some (bc_I ((tn_ l n).length : Int))) σ') : bc_Sem g (d + 2) mX11_writesNumber [bc_R 218, bc_I m, bc_I n] σ Rr X := by
  subst e
  refine e_X11_writesNumber rfl (fun K hK => ?_)
  by_cases c : n ≤ 9
  · have e1 : tn_ l n = ta_ l (48 + n / 1 % 10) := by
      unfold tn_
      rw [if_neg (by omega), show 48 + n / 1 % 10 = 48 + n % 10 by omega]
    rw [e1] at f
    refine hK.1 [] 200 _ _ _ _ _ ?_
    refine bc_ob_i ⟨⟨by omega, by omega⟩, by decide, by decide⟩ ?_
    refine bc_ob_i (by first | omega | decide | (constructor <;> omega) | (constructor <;> constructor <;> omega)) ?_
    refine bc_br_i (fun k => absurd k (by omega)) (fun _ => ?_)
    refine bc_ob_i (by decide) ?_
    refine bc_br_i (fun _ => ?_) (fun k => absurd (by decide) k)
    refine bc_ob_i ⟨⟨by omega, by omega⟩, by decide, by decide⟩ ?_
    refine bc_ob_i ⟨⟨by omega, by omega⟩, by decide, by decide⟩ ?_
    refine t_X11_lays hl (by omega) rfl (by omega) (fun s1 l1 F1 => ?_)
    refine bc_ob_i ⟨⟨by decide, by decide⟩, by decide, by decide⟩ ?_
    refine bc_ob_i (by decide) ?_
    refine bc_br_i (fun c => absurd c (by decide)) (fun _ => ?_)
    exact f s1 l1 F1
  · have e1 : tn_ l n = ta_ (ta_ l (48 + n / (1 * 10) % 10)) (48 + n / (1 * 10 / 10) % 10) := by
      unfold tn_
      rw [if_pos (by omega), show 48 + n / (1 * 10) % 10 = 48 + n / 10 % 10 by omega, show 48 + n / (1 * 10 / 10) % 10 = 48 + n % 10 by omega]
    rw [e1] at f
    have y1 := ta_len (l := l) (c := 48 + n / (1 * 10) % 10) (by omega)
    refine hK.1 [] 300 _ _ _ _ _ ?_
    refine bc_ob_i ⟨⟨by omega, by omega⟩, by decide, by decide⟩ ?_
    refine bc_ob_i (by first | omega | decide | (constructor <;> omega) | (constructor <;> constructor <;> omega)) ?_
    refine bc_br_i (fun _ => ?_) (fun k => absurd (by omega) k)
    refine bc_ob_i ⟨⟨by omega, by omega⟩, by decide, by decide⟩ ?_
    refine bc_ob_i (by first | omega | decide | (constructor <;> omega) | (constructor <;> constructor <;> omega)) ?_
    refine bc_br_i (fun k => absurd k (by omega)) (fun _ => ?_)
    refine bc_ob_i (by decide) ?_
    refine bc_br_i (fun _ => ?_) (fun k => absurd (by decide) k)
    refine bc_ob_i ⟨⟨by omega, by omega⟩, by decide, by decide⟩ ?_
    refine bc_ob_i ⟨⟨by omega, by omega⟩, by decide, by decide⟩ ?_
    refine t_X11_lays hl (by omega) rfl (by omega) (fun s1 l1 F1 => ?_)
    refine bc_ob_i ⟨⟨by decide, by decide⟩, by decide, by decide⟩ ?_
    refine bc_ob_i (by decide) ?_
    refine bc_br_i (fun _ => ?_) (fun k => absurd (by decide) k)
    refine bc_ob_i ⟨⟨by omega, by omega⟩, by decide, by decide⟩ ?_
    refine bc_ob_i ⟨⟨by omega, by omega⟩, by decide, by decide⟩ ?_
    refine t_X11_lays l1 (by omega) rfl (by omega) (fun s2 l2 F2 => ?_)
    refine bc_ob_i ⟨⟨by decide, by decide⟩, by decide, by decide⟩ ?_
    refine bc_ob_i (by decide) ?_
    refine bc_br_i (fun c => absurd c (by decide)) (fun _ => ?_)
    exact f s2 l2 (fr_trans F1 F2)
/-- the reference's line -/
def liq_ (σ : bc_M) (l : List Int) : Prop := σ.1 218 ((13 : Nat) : Int) = l.length ∧ lnt_ σ l
/-- a telling call -/
def rot_ (σ σ' : bc_M) : Prop := σ'.1 218 ((14 : Nat) : Int) = 0 ∧ fr_ (fun k => k = 218 ∨ k = 223 ∨ k = 224 ∨ k = 226) σ σ' ∧ fj_ (fun j => j = 13 ∨ j = 14) σ σ'
theorem t_X11_renderMember {m : Int} (hN : nw_ σ 219 q) (hW : wf_M q) (hm : bc_in m) (f1 : ¬ (0 ≤ m ∧ m < q 3) → ∀ σ', roc_ 1 σ σ' → Rr (some (bc_I 0)) σ') (f0 : 0 ≤ m ∧ m < q 3 → ∀ σ', liq_ σ' (om_ q m) → rot_ σ σ' → Rr (some (bc_I ((om_ q m).length : Int))) σ') : bc_Sem g (d + 5) mX11_renderMember [bc_R 218, bc_I m] σ Rr X := by
  have w3 := hW.1
  refine e_X11_renderMember rfl (fun K hK => ?_)
  by_cases c : 0 ≤ m ∧ m < q 3
  · obtain ⟨g0, g1, g2, g3, g4, g5⟩ := hW.2 m c.1 (by omega)
    have R0 : roc_ 0 σ (bc_wr σ 218 ((14 : Nat) : Int) (1 - 1)) := roc_wr (by decide)
    -- the line stands
    have E : ∀ (s : bc_M) (l : List Int), l = om_ q m → lnt_ s l → fr_ (fun k => k = 218 ∨ k = 223 ∨ k = 224 ∨ k = 226) σ s → fj_ (fun j => j = 13 ∨ j = 14) σ s → s.1 218 ((14 : Nat) : Int) = 0 → ∀ z : bc_LV, K 131 ([(0, bc_R 218), (1, bc_I m)] ++ z) [bc_I (l.length : Int), bc_R 218] s 0 := by
      intro s l el hl F J t0 z
      subst el
      have l13 : (bc_wr s 218 ((13 : Nat) : Int) ((om_ q m).length : Int)).1 218 ((13 : Nat) : Int) = ((om_ q m).length : Int) := by simp [bc_wr]
      have F4 : fr_ (fun k => k = 218) s (bc_wr s 218 ((13 : Nat) : Int) ((om_ q m).length : Int)) := fr_wr rfl
      refine hK.2 _ _ [(0, bc_R 218), (1, bc_I m)] _ _ _ (ls_ _ _) ?_
      refine hK.1 [] 60 _ _ _ _ _ ?_
      refine rt_ (f0 c _ ⟨l13, lnt_fr hl F4 (by decide)⟩ ⟨?_, fr_trans (fr_mono F (fun k hk => by omega)) (fr_mono F4 (fun k hk => by omega)), fj_trans J (fj_wr (.inl rfl))⟩) l13
      have : (bc_wr s 218 ((13 : Nat) : Int) ((om_ q m).length : Int)).1 218 ((14 : Nat) : Int) = s.1 218 ((14 : Nat) : Int) := by simp [bc_wr]
      rw [this]
      exact t0
    refine hK.1 [131] 200 _ _ _ _ _ ?_
    refine t_X11_isMember hN w3 hm ?_
    rw [if_pos c]
    refine t_X11_goes (by decide) ?_
    generalize bc_wr σ 218 ((14 : Nat) : Int) (1 - 1) = s0 at R0 ⊢
    obtain ⟨t0, F0, J0⟩ := R0
    have N0 := nw_fr hN F0 (by decide)
    refine bc_ob_i (by decide) ?_
    refine bc_br_i (fun k => absurd k (by decide)) (fun _ => ?_)
    have Z : ∀ s : bc_M, fr_ (fun k => k = 226) s0 s → nw_ s 219 q := fun s F => nw_fr N0 F (by decide)
    have Q1 : fr_ (fun k => k = 226) s0 s0 := fr_refl _
    have y0 : ([] : List Int).length = 0 := rfl
    have y1 := tn_len (l := ([] : List Int)) (n := m) (by decide)
    refine t_X11_writesNumber (lnt_0 s0) (by decide) rfl (by omega) (fun s1 l1 G1 => ?_)
    have P1 : fr_ (fun k => k = 226) s0 s1 := fr_trans Q1 G1
    have y2 := ta_len (l := (tn_ ([] : List Int) (m))) (c := 58) (by omega)
    refine t_X11_lays l1 (by omega) rfl (by decide) (fun s2 l2 G2 => ?_)
    have P2 : fr_ (fun k => k = 226) s0 s2 := fr_trans P1 G2
    refine t_X11_ofM 16 (Z s2 P2) hW c.1 c.2 (by decide) rfl ?_
    have y3 := tn_len (l := (ta_ (tn_ ([] : List Int) (m)) 58)) (n := q (16 + 6 * m)) (by omega)
    refine t_X11_writesNumber l2 (by omega) rfl (by omega) (fun s3 l3 G3 => ?_)
    have P3 : fr_ (fun k => k = 226) s0 s3 := fr_trans P2 G3
    have y4 := ta_len (l := (tn_ (ta_ (tn_ ([] : List Int) (m)) 58) (q (16 + 6 * m)))) (c := 45) (by omega)
    refine t_X11_lays l3 (by omega) rfl (by decide) (fun s4 l4 G4 => ?_)
    have P4 : fr_ (fun k => k = 226) s0 s4 := fr_trans P3 G4
    refine t_X11_ofM 17 (Z s4 P4) hW c.1 c.2 (by decide) rfl ?_
    have y5 := tn_len (l := (ta_ (tn_ (ta_ (tn_ ([] : List Int) (m)) 58) (q (16 + 6 * m))) 45)) (n := q (17 + 6 * m)) (by omega)
    refine t_X11_writesNumber l4 (by omega) rfl (by omega) (fun s5 l5 G5 => ?_)
    have P5 : fr_ (fun k => k = 226) s0 s5 := fr_trans P4 G5
    have y6 := ta_len (l := (tn_ (ta_ (tn_ (ta_ (tn_ ([] : List Int) (m)) 58) (q (16 + 6 * m))) 45) (q (17 + 6 * m)))) (c := 115) (by omega)
    refine t_X11_lays l5 (by omega) rfl (by decide) (fun s6 l6 G6 => ?_)
    have P6 : fr_ (fun k => k = 226) s0 s6 := fr_trans P5 G6
    refine t_X11_ofM 18 (Z s6 P6) hW c.1 c.2 (by decide) rfl ?_
    have y7 := tn_len (l := (ta_ (tn_ (ta_ (tn_ (ta_ (tn_ ([] : List Int) (m)) 58) (q (16 + 6 * m))) 45) (q (17 + 6 * m))) 115)) (n := q (18 + 6 * m)) (by omega)
    refine t_X11_writesNumber l6 (by omega) rfl (by omega) (fun s7 l7 G7 => ?_)
    have P7 : fr_ (fun k => k = 226) s0 s7 := fr_trans P6 G7
    have y8 := ta_len (l := (tn_ (ta_ (tn_ (ta_ (tn_ (ta_ (tn_ ([] : List Int) (m)) 58) (q (16 + 6 * m))) 45) (q (17 + 6 * m))) 115) (q (18 + 6 * m)))) (c := 99) (by omega)
    refine t_X11_lays l7 (by omega) rfl (by decide) (fun s8 l8 G8 => ?_)
    have P8 : fr_ (fun k => k = 226) s0 s8 := fr_trans P7 G8
    refine t_X11_ofM 19 (Z s8 P8) hW c.1 c.2 (by decide) rfl ?_
    have y9 := tn_len (l := (ta_ (tn_ (ta_ (tn_ (ta_ (tn_ (ta_ (tn_ ([] : List Int) (m)) 58) (q (16 + 6 * m))) 45) (q (17 + 6 * m))) 115) (q (18 + 6 * m))) 99)) (n := q (19 + 6 * m)) (by omega)
    refine t_X11_writesNumber l8 (by omega) rfl (by omega) (fun s9 l9 G9 => ?_)
    have P9 : fr_ (fun k => k = 226) s0 s9 := fr_trans P8 G9
    have y10 := ta_len (l := (tn_ (ta_ (tn_ (ta_ (tn_ (ta_ (tn_ (ta_ (tn_ ([] : List Int) (m)) 58) (q (16 + 6 * m))) 45) (q (17 + 6 * m))) 115) (q (18 + 6 * m))) 99) (q (19 + 6 * m)))) (c := 119) (by omega)
    refine t_X11_lays l9 (by omega) rfl (by decide) (fun s10 l10 G10 => ?_)
    have P10 : fr_ (fun k => k = 226) s0 s10 := fr_trans P9 G10
    refine t_X11_ofM 20 (Z s10 P10) hW c.1 c.2 (by decide) rfl ?_
    have y11 := tn_len (l := (ta_ (tn_ (ta_ (tn_ (ta_ (tn_ (ta_ (tn_ (ta_ (tn_ ([] : List Int) (m)) 58) (q (16 + 6 * m))) 45) (q (17 + 6 * m))) 115) (q (18 + 6 * m))) 99) (q (19 + 6 * m))) 119)) (n := q (20 + 6 * m)) (by omega)
    refine t_X11_writesNumber l10 (by omega) rfl (by omega) (fun s11 l11 G11 => ?_)
    have P11 : fr_ (fun k => k = 226) s0 s11 := fr_trans P10 G11
    refine t_X11_ofM 21 (Z s11 P11) hW c.1 c.2 (by decide) rfl ?_
    have FF : fr_ (fun k => k = 218 ∨ k = 223 ∨ k = 224 ∨ k = 226) σ s11 := fr_trans (fr_mono F0 (fun k hk => by omega)) (fr_mono P11 (fun k hk => by omega))
    have JJ : fj_ (fun j => j = 13 ∨ j = 14) σ s11 := fj_trans (fun j hj => J0 j (fun e => hj (.inr e))) (fj_fr P11 (by decide))
    have t11 : s11.1 218 ((14 : Nat) : Int) = 0 := by rw [P11.1 218 (by decide)]; exact t0
    refine bc_ob_i (by constructor <;> constructor <;> omega) ?_
    refine bc_br_i (fun k => ?_) (fun k => ?_)
    rotate_left
    · refine E s11 _ ?_ l11 FF JJ t11 [(2, bc_I (_ : Int))]
      unfold om_
      rw [if_pos (by omega)]
    · have y12 := ta_len (l := (tn_ (ta_ (tn_ (ta_ (tn_ (ta_ (tn_ (ta_ (tn_ (ta_ (tn_ ([] : List Int) (m)) 58) (q (16 + 6 * m))) 45) (q (17 + 6 * m))) 115) (q (18 + 6 * m))) 99) (q (19 + 6 * m))) 119) (q (20 + 6 * m)))) (c := 120) (by omega)
      refine t_X11_lays l11 (by omega) rfl (by decide) (fun s12 l12 G12 => ?_)
      refine E s12 _ ?_ l12 (fr_trans FF (fr_mono G12 (fun k hk => by omega))) (fj_trans JJ (fj_fr G12 (by decide))) (by rw [G12.1 218 (by decide)]; exact t11) [(2, bc_I (_ : Int))]
      unfold om_
      rw [if_neg (by omega)]
  · refine hK.1 [] 60 _ _ _ _ _ ?_
    refine t_X11_isMember hN w3 hm ?_
    rw [if_neg c]
    refine t_X11_goes (by decide) ?_
    refine bc_ob_i (by decide) ?_
    refine bc_br_i (fun _ => ?_) (fun k => absurd rfl k)
    exact f1 c _ (roc_wr (by decide))
theorem t_X11_outputAt {l : List Int} {i : Int} (hl : liq_ σ l) (hi : bc_in i) (f1 : ¬ (0 ≤ i ∧ i < l.length) → ∀ σ', roc_ 1 σ σ' → Rr (some (bc_I 0)) σ') (f0 : 0 ≤ i ∧ i < l.length → ∀ σ', roc_ 0 σ σ' → Rr (some (bc_I (tg_ l i))) σ') : bc_Sem g (d + 3) mX11_outputAt [bc_R 218, bc_I i] σ Rr X := by
  obtain ⟨l13, l6, lj, lc⟩ := hl
  have lg := tg_le lc i
  refine e_X11_outputAt rfl (fun K hK => ?_)
  refine hK.1 [] 60 _ _ _ _ _ ?_
  refine t_X11_isIn hi (by decide) (by rw [l13]; constructor <;> omega) ?_
  rw [l13]
  by_cases c : 0 ≤ i ∧ i < l.length
  · rw [if_pos (by omega)]
    refine t_X11_goes (by decide) ?_
    have R0 : roc_ 0 σ (bc_wr σ 218 ((14 : Nat) : Int) (1 - 1)) := roc_wr (by decide)
    have fin := f0 c _ R0
    have e1 : (bc_wr σ 218 ((14 : Nat) : Int) (1 - 1)).1 226 i = tg_ l i := by
      rw [R0.2.1.1 226 (by decide)]
      have := lj i.toNat (by omega)
      rw [show ((i.toNat : Nat) : Int) = i by omega] at this
      unfold tg_
      rw [if_pos c]
      exact this
    generalize bc_wr σ 218 ((14 : Nat) : Int) (1 - 1) = s at fin e1 ⊢
    refine bc_ob_i (by decide) ?_
    refine bc_br_i (fun c => absurd c (by decide)) (fun _ => ?_)
    refine bc_ob_i (by omega) ?_
    refine bc_ob_i (by rw [e1]; omega) ?_
    exact rt_ fin (by rw [e1]; omega)
  · rw [if_neg (by omega)]
    refine t_X11_goes (by decide) ?_
    refine bc_ob_i (by decide) ?_
    refine bc_br_i (fun _ => ?_) (fun c => absurd (by decide) c)
    refine bc_ob_i (by decide) ?_
    exact f1 c _ (roc_wr (by decide))
end REF
