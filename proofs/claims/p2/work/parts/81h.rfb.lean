/-! the reference tells a way -/
theorem wyJ_le {q : rw_t} (hW : wf_M q) (hU : uj_ q) {u v : Int} (h : atw_ q u v = 0) {i : Int} (i0 : 0 ≤ i) (hi : i ≤ xm_ q (xw_ q u 8 v) (-1) v 8 u) : 0 ≤ wyJ_ q u v i ∧ wyJ_ q u v i ≤ 7 := by
  obtain ⟨⟨⟨u0, u1⟩, v0, v1⟩, hne, l1⟩ := atw_0 h
  have l9 := xw_99 hW u 8 v (fun e => hne e.symm)
  have W := wb_xw hW hU u0 u1 v0 v1 (fun e => hne e.symm) l9
  obtain ⟨P1, P2, P3⟩ := way_fw hW hU u0 u1 v0 v1 hne (fun _ => 0) (by rw [W]; exact l1)
  have L := (jw_le (f := sa_ q) (l := wb_ (sa_ q) u v) (a := u) (b := v) (dd := md_ (sa_ q) (wb_ (sa_ q) u v) v) (J := fun _ => 0) (fun j _ _ => ⟨Int.le_refl 0, (by decide : (0 : Int) ≤ 7)⟩) u0 u1 7 (Nat.le_refl 7)).1
  have e := P3 i.toNat (by rw [P2, W]; omega)
  rw [show ((i.toNat : Nat) : Int) = i by omega] at e
  have li := L i i0 (by rw [P2, W] at P1; omega)
  have e2 : (jw_ (sa_ q) (wb_ (sa_ q) u v) u v (md_ (sa_ q) (wb_ (sa_ q) u v) v) (fun _ => 0) 7).1 i = wyJ_ q u v i := by
    unfold wyJ_
    rw [← W]
    exact e
  rw [e2] at li
  exact li
theorem ow_s {J : Int → Int} {i : Int} (h : 1 ≤ i) : ow_ J (i + 1).toNat = tn_ (ta_ (ow_ J i.toNat) 62) (J i) := by
  obtain ⟨n, rfl⟩ : ∃ n : Nat, i = n := ⟨i.toNat, by omega⟩
  rw [show ((n : Int) + 1).toNat = n + 1 by omega, show ((n : Int)).toNat = n by omega]
  show tn_ (if 0 < n then ta_ (ow_ J n) 62 else ow_ J n) (J n) = _
  rw [if_pos (by omega)]
section REF
variable {g : bc_C} {d : Nat} {σ : bc_M} {q b : rw_t} {h : List rw_t} {Rr : Option bc_A → bc_M → Prop} {X : Nat → bc_M → Prop} {B : Int}
theorem t_X11_renderWay {u v : Int} (hN : nw_ σ 219 q) (hW : wf_M q) (hU : uj_ q) (ha : bc_in u) (hb : bc_in v) (f1 : atw_ q u v ≠ 0 → ∀ σ', roc_ (atw_ q u v) σ σ' → Rr (some (bc_I 0)) σ') (f0 : atw_ q u v = 0 → ∀ σ', liq_ σ' (ow_ (wyJ_ q u v) ((xm_ q (xw_ q u 8 v) (-1) v 8 u).toNat + 1)) → rot_ σ σ' → Rr (some (bc_I ((ow_ (wyJ_ q u v) ((xm_ q (xw_ q u 8 v) (-1) v 8 u).toNat + 1)).length : Int))) σ') : bc_Sem g (d + 8) mX11_renderWay [bc_R 218, bc_I u, bc_I v] σ Rr X := by
  have le := atw_le q u v
  refine e_X11_renderWay rfl (fun K hK => ?_)
  refine hK.1 [38] 80 _ _ _ _ _ ?_
  refine t_X11_asksWay hN hW ha hb (fun c s R => ?_) (fun c s R => ?_)
  · have t := R.1
    refine bc_ob_i (by constructor <;> omega) ?_
    refine bc_br_i (fun e => absurd e (by omega)) (fun _ => ?_)
    exact f1 c s R
  · have t := R.1
    obtain ⟨hj, hne, -⟩ := atw_0 c
    obtain ⟨hl, hm⟩ := atw_m hW hU c
    have hwy := fun i (i0 : 0 ≤ i) hi => wyJ_le (i := i) hW hU c i0 hi
    refine bc_ob_i (by constructor <;> omega) ?_
    refine bc_br_i (fun _ => ?_) (fun e => absurd t e)
    refine t_X11_finds (nw_fr hN R.2.1 (by decide)) hW hU hj.1 hj.2 hl (by omega) (fun s2 hwk F => ?_)
    have R2 := roc_fr R F (by decide) (fun k hk => hk)
    have fin := f0 c
    have hway : ∀ k : Int, 0 ≤ k → k ≤ xm_ q (xw_ q u 8 v) (-1) v 8 u → s2.1 224 k = wyJ_ q u v k := fun k k0 k1 => by
      have := hwk k.toNat (by omega)
      rw [show ((k.toNat : Nat) : Int) = k by omega] at this
      exact this
    have J0 : wyJ_ q u v 0 = u := rfl
    have eD : ((xm_ q (xw_ q u 8 v) (-1) v 8 u).toNat : Int) = xm_ q (xw_ q u 8 v) (-1) v 8 u := by omega
    have eB : bc_in (xw_ q u 8 v) := by constructor <;> omega
    have L : ∀ k : Int, ∀ (s : bc_M), 1 ≤ k → k ≤ xm_ q (xw_ q u 8 v) (-1) v 8 u + 1 → lnt_ s (ow_ (wyJ_ q u v) k.toNat) → ((ow_ (wyJ_ q u v) k.toNat).length : Int) ≤ 3 * k → s.1 218 ((13 : Nat) : Int) = (ow_ (wyJ_ q u v) k.toNat).length → s.1 218 ((14 : Nat) : Int) = 0 → fr_ (fun k => k = 218 ∨ k = 226) s2 s → fj_ (fun j => j = 13 ∨ j = 14) s2 s → K 38 [(0, bc_R 218), (1, bc_I u), (2, bc_I v), (3, bc_I (xw_ q u 8 v)), (4, bc_I (xm_ q (xw_ q u 8 v) (-1) v 8 u)), (5, bc_I k)] [] s 0 := by
      generalize xm_ q (xw_ q u 8 v) (-1) v 8 u = D at hwk hm eD hway hwy fin ⊢
      refine up_ind (D + 1) (fun k hk s k0 k1 hs hlen h13 h14 F3 J3 => ?_) (fun k hk ih s k0 k1 hs hlen h13 h14 F3 J3 => ?_)
      · have e : k = D + 1 := by omega
        subst e
        have ek : (D + 1).toNat = D.toNat + 1 := by omega
        rw [ek] at hs h13
        refine hK.1 [38] 60 _ _ _ _ _ ?_
        refine bc_ob_i (by first | omega | decide | (constructor <;> omega) | (constructor <;> constructor <;> omega)) ?_
        refine bc_br_i (fun _ => ?_) (fun c => absurd c (by omega))
        refine rt_ (fin s ⟨h13, hs⟩ ⟨h14, fr_trans (fr_mono R2.2.1 (fun k hk => by omega)) (fr_mono F3 (fun k hk => by omega)), fj_trans (fun j hj => R2.2.2 j (fun e => hj (.inr e))) J3⟩) h13
      · have ek := hway k (by omega) (by omega)
        have lk := hwy k (by omega) (by omega)
        rw [ow_s (by omega)] at ih
        generalize ow_ (wyJ_ q u v) k.toNat = l at hs hlen h13 ih
        have y1 := ta_len (l := l) (c := 62) (by omega)
        have y2 := tn_len (l := ta_ l 62) (n := wyJ_ q u v k) (by omega)
        refine hK.1 [38] 90 _ _ _ _ _ ?_
        refine bc_ob_i (by first | omega | decide | (constructor <;> omega) | (constructor <;> constructor <;> omega)) ?_
        refine bc_br_i (fun c => absurd c (by omega)) (fun _ => ?_)
        refine t_X11_lays hs (by omega) h13 (by decide) (fun s3 l3 F4 => ?_)
        refine bc_ob_i (by omega) ?_
        have e224 : s3.1 224 k = wyJ_ q u v k := by
          rw [F4.1 224 (by decide), F3.1 224 (by decide)]
          exact ek
        refine t_X11_writesNumber (n := s3.1 224 k) l3 (by omega) rfl (by omega) (fun s4 l4 F5 => ?_)
        have y3 : (tn_ (ta_ l 62) (s3.1 224 k)).length = (tn_ (ta_ l 62) (wyJ_ q u v k)).length := by rw [e224]
        have F6 : fr_ (fun k => k = 218) s4 (bc_wr s4 218 ((13 : Nat) : Int) ((tn_ (ta_ l 62) (s3.1 224 k)).length : Int)) := fr_wr rfl
        have F45 := fr_trans F4 F5
        have l6 := lnt_fr l4 F6 (by decide)
        rw [e224] at l6
        have l13 : (bc_wr s4 218 ((13 : Nat) : Int) ((tn_ (ta_ l 62) (s3.1 224 k)).length : Int)).1 218 ((13 : Nat) : Int) = (tn_ (ta_ l 62) (wyJ_ q u v k)).length := by
          rw [y3]
          simp [bc_wr]
        have l14 : (bc_wr s4 218 ((13 : Nat) : Int) ((tn_ (ta_ l 62) (s3.1 224 k)).length : Int)).1 218 ((14 : Nat) : Int) = 0 := by
          have : (bc_wr s4 218 ((13 : Nat) : Int) ((tn_ (ta_ l 62) (s3.1 224 k)).length : Int)).1 218 ((14 : Nat) : Int) = s4.1 218 ((14 : Nat) : Int) := by simp [bc_wr]
          rw [this, F45.1 218 (by decide)]
          exact h14
        refine ih _ (by omega) (by omega) l6 (by omega) l13 l14 (fr_trans F3 (fr_trans (fr_mono F45 (fun k hk => .inr hk)) (fr_mono F6 (fun k hk => .inl hk)))) (fj_trans J3 (fj_trans (fj_fr F45 (by decide)) (fj_wr (.inl rfl))))
    have y1 := tn_len (l := ([] : List Int)) (n := u) (by decide)
    have y0 : ([] : List Int).length = 0 := rfl
    refine t_X11_writesNumber (lnt_0 s2) (by decide) rfl (by omega) (fun s3 l3 F3 => ?_)
    have F6 : fr_ (fun k => k = 218) s3 (bc_wr s3 218 ((13 : Nat) : Int) ((tn_ [] u).length : Int)) := fr_wr rfl
    refine L 1 _ (by decide) (by omega) (lnt_fr l3 F6 (by decide)) (show ((tn_ [] u).length : Int) ≤ 3 * 1 by omega) (by simp [bc_wr]; rfl) ?_ (fr_trans (fr_mono F3 (fun k hk => .inr hk)) (fr_mono F6 (fun k hk => .inl hk))) (fj_trans (fj_fr F3 (by decide)) (fj_wr (.inl rfl)))
    have : (bc_wr s3 218 ((13 : Nat) : Int) ((tn_ [] u).length : Int)).1 218 ((14 : Nat) : Int) = s3.1 218 ((14 : Nat) : Int) := by simp [bc_wr]
    rw [this, F3.1 218 (by decide)]
    exact R2.1
end REF
