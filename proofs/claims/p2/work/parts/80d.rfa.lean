/-! the reference: days go by; the calls that change the state, whole -/
section REF
variable {g : bc_C} {d : Nat} {σ : bc_M} {q b : rw_t} {h : List rw_t} {Rr : Option bc_A → bc_M → Prop} {X : Nat → bc_M → Prop} {B : Int}
theorem t_X11_waits {n : Int} (hG : rg_ σ q h) (hb : nw_ σ 220 b) (hT : wf_T B q) (hB : B + 30 ≤ 1000000) (hn : bc_in n) (f1 : ¬ (1 ≤ n ∧ n ≤ 30) → ∀ σ', su_ 1 q h b σ σ' → Rr (some (bc_I 0)) σ') (f0 : 1 ≤ n ∧ n ≤ 30 → ∀ σ', su_ 0 (ps_ q n.toNat) h b σ σ' → Rr (some (bc_I (ps_ q n.toNat 6 - q 6))) σ') : bc_Sem g (d + 3) mX11_waits [bc_R 218, bc_I n] σ Rr X := by
  obtain ⟨hN, hH⟩ := hG
  refine e_X11_waits rfl (fun K hK => ?_)
  by_cases c : 1 ≤ n ∧ n ≤ 30
  · have E : ∀ s : bc_M, nw_ s 219 (ps_ q n.toNat) → fr_ (fun k => k = 219) σ s → K 36 [(0, bc_R 218), (1, bc_I n), (2, bc_I (ps_ q n.toNat 6 - q 6)), (3, bc_I 1), (4, bc_I n)] [] s 0 := by
      intro s N F
      have G1 : rg_ s (ps_ q n.toNat) h := ⟨N, mh_fr hH F (by decide) (by rw [F.1 218 (by decide)])⟩
      have S1 := su_t G1 (nw_fr hb F (by decide)) (1 - 1)
      refine hK.1 [] 60 _ _ _ _ _ ?_
      refine t_X11_goes (by decide) ?_
      refine bc_ob_i (by decide) ?_
      refine bc_br_i (fun q => absurd q (by decide)) (fun _ => ?_)
      exact f0 c _ ⟨S1.1, S1.2.1, fr_trans (fr_mono F (fun k hk => by omega)) S1.2.2.1, fj_trans (fj_fr F (by decide)) S1.2.2.2⟩
    have L : ∀ i : Int, ∀ (s : bc_M), 0 ≤ i → i ≤ n → nw_ s 219 (ps_ q i.toNat) → fr_ (fun k => k = 219) σ s → K 13 [(0, bc_R 218), (1, bc_I n), (2, bc_I (ps_ q i.toNat 6 - q 6)), (3, bc_I 1), (4, bc_I i)] [] s 0 := by
      refine up_ind n (fun i hi s i0 i1 N F => ?_) (fun i hi ih s i0 i1 N F => ?_)
      · have ei : i = n := by omega
        subst ei
        refine hK.1 [13, 36] 60 _ _ _ _ _ ?_
        refine bc_ob_i (by omega) ?_
        refine bc_br_i (fun c => absurd c (by omega)) (fun _ => ?_)
        exact E s N F
      · have W := (ps_wf hT i.toNat).1
        refine hK.1 [13, 36] 60 _ _ _ _ _ ?_
        refine bc_ob_i (by omega) ?_
        refine bc_br_i (fun _ => ?_) (fun c => absurd c (by omega))
        refine bc_ob_i (by decide) ?_
        refine bc_br_i (fun c => absurd c (by decide)) (fun _ => ?_)
        refine t_X11_passes N W (by omega) (fun s2 N2 F2 => ?_)
        have e1 : pd_ (ps_ q i.toNat) = ps_ q (i + 1).toNat := by
          rw [show (i + 1).toNat = i.toNat + 1 by omega]
          rfl
        rw [e1] at N2 ⊢
        have H := ih s2 (by omega) (by omega) N2 (fr_trans F F2)
        rw [show ps_ q (i + 1).toNat 6 - q 6 = ps_ q i.toNat 6 - q 6 + (ps_ q (i + 1).toNat 6 - ps_ q i.toNat 6) by omega] at H
        exact H
    refine hK.1 [13] 60 _ _ _ _ _ ?_
    refine t_X11_isIn hn (by decide) (by decide) ?_
    rw [if_pos c]
    have H := L 0 σ (by decide) (by omega) hN (fr_refl _)
    rw [show ps_ q (0 : Int).toNat 6 - q 6 = 0 by show q 6 - q 6 = 0; omega] at H
    exact H
  · have E : ∀ (s : bc_M) (i : Int), s = σ → K 36 [(0, bc_R 218), (1, bc_I n), (2, bc_I 0), (3, bc_I 0), (4, bc_I i)] [] s 0 := by
      intro s i e
      subst e
      refine hK.1 [] 60 _ _ _ _ _ ?_
      refine t_X11_goes (by decide) ?_
      refine bc_ob_i (by decide) ?_
      refine bc_br_i (fun _ => ?_) (fun q => absurd rfl q)
      exact f1 c _ (su_t ⟨hN, hH⟩ hb (1 - 0))
    refine hK.1 [36] 80 _ _ _ _ _ ?_
    refine t_X11_isIn hn (by decide) (by decide) ?_
    rw [if_neg c]
    refine bc_ob_i (by omega) ?_
    refine bc_br_i (fun _ => ?_) (fun _ => ?_)
    · refine bc_ob_i (by decide) ?_
      refine bc_br_i (fun _ => ?_) (fun c => absurd rfl c)
      exact E _ 0 rfl
    · exact E _ 0 rfl
/-- a whole call: thrown t, row q, history h -/
def spo_ (t : Int) (q : rw_t) (h : List rw_t) (σ σ' : bc_M) : Prop := rg_ σ' q h ∧ σ'.1 218 ((14 : Nat) : Int) = t ∧ fr_ ey_ σ σ' ∧ fj_ ej_ σ σ'
theorem t_X11_begins2 {K : Option bc_A → bc_M → Prop} (hG : rg_ σ q h) (f : ∀ σ', rg_ σ' q h → nw_ σ' 220 q → fr_ ey_ σ σ' → fj_ ej_ σ σ' → K none σ') : bc_Sem g (d + 2) mX11_begins [bc_R 218] σ K X := by
  refine t_X11_begins hG.1 (fun σ1 b1 g1 => ?_)
  exact f σ1 ⟨nw_fr hG.1 g1 (by decide), mh_fr hG.2 g1 (by decide) (by rw [g1.1 218 (by decide)])⟩ b1 (fr_mono g1 (fun k hk => by omega)) (fj_fr g1 (by decide))
theorem t_X11_ends1 {x t : Int} {σ0 σ1 : bc_M} (F0 : fr_ ey_ σ0 σ1) (J0 : fj_ ej_ σ0 σ1) (S : su_ t q h b σ1 σ) (t0 : 1 ≤ t ∧ t ≤ 4) (f : ∀ σ', spo_ t b h σ0 σ' → Rr (some (bc_I 0)) σ') : bc_Sem g (d + 3) mX11_ends [bc_R 218, bc_I x] σ Rr X := by
  obtain ⟨⟨G2, b2⟩, t2, g2, j2⟩ := S
  refine t_X11_ends G2 b2 t2 (by omega) (fun _ σ3 G3 t3 g3 j3 => ?_) (fun e => absurd e (by omega))
  exact f σ3 ⟨G3, t3, fr_trans F0 (fr_trans g2 (ey_ex g3)), fj_trans J0 (fj_trans j2 j3)⟩
theorem t_X11_ends0 {x : Int} {σ0 σ1 : bc_M} (F0 : fr_ ey_ σ0 σ1) (J0 : fj_ ej_ σ0 σ1) (S : su_ 0 q h b σ1 σ) (f : ∀ σ', spo_ 0 q (hr_ h b) σ0 σ' → Rr (some (bc_I x)) σ') : bc_Sem g (d + 3) mX11_ends [bc_R 218, bc_I x] σ Rr X := by
  obtain ⟨⟨G2, b2⟩, t2, g2, j2⟩ := S
  refine t_X11_ends G2 b2 t2 (by decide) (fun e => absurd rfl e) (fun _ σ3 G3 t3 g3 j3 => ?_)
  exact f σ3 ⟨G3, t3, fr_trans F0 (fr_trans g2 (ey_ex g3)), fj_trans J0 (fj_trans j2 j3)⟩
theorem er_le (q : rw_t) (m : Int) : 0 ≤ er_ q m ∧ er_ q m ≤ 4 := by
  unfold er_
  (repeat' split) <;> omega
theorem put_le (q : rw_t) (p c w : Int) : 0 ≤ put_ q p c w ∧ put_ q p c w ≤ 4 := by
  unfold put_
  (repeat' split) <;> omega
theorem adr_le {q : rw_t} {x y s t : Int} (h : adr_ q x y s t) : 0 ≤ t ∧ t ≤ 4 := by
  rcases h with ⟨-, e⟩ | ⟨-, -, e⟩ | ⟨-, -, -, e⟩ | ⟨-, -, -, -, e⟩ <;> omega
theorem t_X11_repair {m : Int} (hG : rg_ σ q h) (hW : wf_M q) (hT : wf_T B q) (hB : B ≤ 1000000) (hm : bc_in m)
    (f1 : er_ q m ≠ 0 → ∀ σ', spo_ (er_ q m) q h σ σ' → Rr (some (bc_I 0)) σ')
    (f0 : er_ q m = 0 → ∀ σ', spo_ 0 (rn_ (rs_ q (co_ q m)) m) (hr_ h q) σ σ' → Rr (some (bc_I (co_ q m))) σ') : bc_Sem g (d + 7) mX11_repair [bc_R 218, bc_I m] σ Rr X := by
  have le := er_le q m
  refine e_X11_repair rfl (fun K hK => ?_)
  refine hK.1 [] 60 _ _ _ _ _ ?_
  refine t_X11_begins2 hG (fun σ1 G1 b1 F1 J1 => ?_)
  refine t_X11_repairs G1 b1 hW hT hB hm (fun c σ2 S2 => ?_) (fun c σ2 S2 => ?_)
  · exact t_X11_ends1 F1 J1 S2 (by omega) (f1 c)
  · exact t_X11_ends0 F1 J1 S2 (f0 c)
theorem t_X11_put {p c w : Int} (hG : rg_ σ q h) (hW : wf_N q) (hp : bc_in p) (hc : bc_in c) (hw : bc_in w)
    (f1 : put_ q p c w ≠ 0 → ∀ σ', spo_ (put_ q p c w) q h σ σ' → Rr (some (bc_I 0)) σ')
    (f0 : put_ q p c w = 0 → ∀ σ', spo_ 0 (rp_ q p w) (hr_ h q) σ σ' → Rr (some (bc_I (tw_ (rp_ q p w)))) σ') : bc_Sem g (d + 4) mX11_put [bc_R 218, bc_I p, bc_I c, bc_I w] σ Rr X := by
  have le := put_le q p c w
  refine e_X11_put rfl (fun K hK => ?_)
  refine hK.1 [] 60 _ _ _ _ _ ?_
  refine t_X11_begins2 hG (fun σ1 G1 b1 F1 J1 => ?_)
  refine t_X11_puts G1 b1 hW hp hc hw (fun c σ2 S2 => ?_) (fun c σ2 S2 => ?_)
  · exact t_X11_ends1 F1 J1 S2 (by omega) (f1 c)
  · exact t_X11_ends0 F1 J1 S2 (f0 c)
theorem t_X11_addMember {x y s : Int} (hG : rg_ σ q h) (hW : wf_M q) (hx : bc_in x) (hy : bc_in y) (hs : bc_in s)
    (f1 : ∀ t, adr_ q x y s t → t ≠ 0 → ∀ σ', spo_ t q h σ σ' → Rr (some (bc_I 0)) σ')
    (f0 : adr_ q x y s 0 → ∀ σ', spo_ 0 (ra_ q x y s) (hr_ h q) σ σ' → Rr (some (bc_I (q 3))) σ') : bc_Sem g (d + 8) mX11_addMember [bc_R 218, bc_I x, bc_I y, bc_I s] σ Rr X := by
  refine e_X11_addMember rfl (fun K hK => ?_)
  refine hK.1 [] 60 _ _ _ _ _ ?_
  refine t_X11_begins2 hG (fun σ1 G1 b1 F1 J1 => ?_)
  refine t_X11_adds G1 b1 hW hx hy hs (fun t a c σ2 S2 => ?_) (fun c σ2 S2 => ?_)
  · have le := adr_le a
    exact t_X11_ends1 F1 J1 S2 (by omega) (f1 t a c)
  · exact t_X11_ends0 F1 J1 S2 (f0 c)
theorem t_X11_passDays {n : Int} (hG : rg_ σ q h) (hT : wf_T B q) (hB : B + 30 ≤ 1000000) (hn : bc_in n)
    (f1 : ¬ (1 ≤ n ∧ n ≤ 30) → ∀ σ', spo_ 1 q h σ σ' → Rr (some (bc_I 0)) σ')
    (f0 : 1 ≤ n ∧ n ≤ 30 → ∀ σ', spo_ 0 (ps_ q n.toNat) (hr_ h q) σ σ' → Rr (some (bc_I (ps_ q n.toNat 6 - q 6))) σ') : bc_Sem g (d + 4) mX11_passDays [bc_R 218, bc_I n] σ Rr X := by
  refine e_X11_passDays rfl (fun K hK => ?_)
  refine hK.1 [] 60 _ _ _ _ _ ?_
  refine t_X11_begins2 hG (fun σ1 G1 b1 F1 J1 => ?_)
  refine t_X11_waits G1 b1 hT hB hn (fun c σ2 S2 => ?_) (fun c σ2 S2 => ?_)
  · exact t_X11_ends1 F1 J1 S2 (by decide) (f1 c)
  · exact t_X11_ends0 F1 J1 S2 (f0 c)
theorem t_X11_save (hG : rg_ σ q h) (f : ∀ σ', rg_ σ' q h → nw_ σ' 221 q → σ'.1 218 ((4 : Nat) : Int) = 1 → σ'.1 218 ((14 : Nat) : Int) = 0 → fr_ (fun k => k = 218 ∨ k = 221) σ σ' → fj_ (fun j => j = 4 ∨ j = 14) σ σ' → Rr (some (bc_I (q 3))) σ') : bc_Sem g (d + 2) mX11_save [bc_R 218] σ Rr X := by
  obtain ⟨hN, hH⟩ := hG
  refine e_X11_save rfl (fun K hK => ?_)
  refine hK.1 [] 60 _ _ _ _ _ ?_
  have F0 : fr_ (fun k => k = 218) σ (bc_wr σ 218 ((14 : Nat) : Int) 0) := fr_wr rfl
  refine t_X11_copies (.inr (.inr (.inr (.inl ⟨rfl, rfl⟩)))) (by decide) (by decide) (fun σ2 hc => ?_)
  have F : fr_ (fun k => k = 218 ∨ k = 221) σ σ2 := fr_trans (fr_wr (.inl rfl)) (fr_mono hc.1 (fun k hk => .inr hk))
  have t2 : σ2.1 218 ((14 : Nat) : Int) = 0 := by
    rw [hc.1.1 218 (by decide)]
    simp [bc_wr]
  refine bc_ob_i (by decide) ?_
  refine bc_ob_i (by decide) ?_
  have F4 : fr_ (fun k => k = 218) σ2 (bc_wr σ2 218 ((4 : Nat) : Int) 1) := fr_wr rfl
  have F3 : fr_ (fun k => k = 218 ∨ k = 221) σ (bc_wr σ2 218 ((4 : Nat) : Int) 1) := fr_trans F (fr_mono F4 (fun k hk => .inl hk))
  have e3 := nw_fr hN F3 (by decide) 3 (by decide) (by decide)
  have N2 : nw_ σ2 221 q := fun j j0 j1 => by
    have := hc.2.1 j j0 j1
    rw [show (0 : Int) + j = j by omega] at this
    rw [this, F0.1 219 (by decide)]
    exact hN j j0 j1
  have J : fj_ (fun j => j = 4 ∨ j = 14) σ (bc_wr σ2 218 ((4 : Nat) : Int) 1) := fj_trans (fj_wr (.inr rfl)) (fj_trans (fj_fr hc.1 (by decide)) (fj_wr (.inl rfl)))
  have h5 : (bc_wr σ2 218 ((4 : Nat) : Int) 1).1 218 ((5 : Nat) : Int) = σ.1 218 ((5 : Nat) : Int) := J _ (by decide)
  exact rt_ (f _ ⟨nw_fr hN F3 (by decide), mh_fr hH F3 (by decide) h5⟩ (nw_fr N2 F4 (by decide)) (by simp [bc_wr]) (by rw [← t2]; simp [bc_wr]) F3 J) e3
theorem t_X11_restore0 (hG : rg_ σ q h) (z : σ.1 218 ((4 : Nat) : Int) = 0) (f : ∀ σ', spo_ 1 q h σ σ' → Rr (some (bc_I 0)) σ') : bc_Sem g (d + 3) mX11_restore [bc_R 218] σ Rr X := by
  refine e_X11_restore rfl (fun K hK => ?_)
  refine hK.1 [] 60 _ _ _ _ _ ?_
  refine t_X11_goes (by omega) ?_
  refine bc_ob_i (by omega) ?_
  refine bc_br_i (fun _ => ?_) (fun c => absurd z c)
  have F : fr_ (fun k => k = 218) σ (bc_wr σ 218 ((14 : Nat) : Int) (1 - σ.1 218 ((4 : Nat) : Int))) := fr_wr rfl
  exact f _ ⟨⟨nw_fr hG.1 F (by decide), mh_fr hG.2 F (by decide) (by simp [bc_wr])⟩, by rw [z]; simp [bc_wr], fr_mono F (fun k hk => by omega), fj_wr (.inr rfl)⟩
theorem t_X11_restore1 {p : rw_t} (hG : rg_ σ q h) (hp : nw_ σ 221 p) (z : σ.1 218 ((4 : Nat) : Int) = 1) (f : ∀ σ', spo_ 0 p [] σ σ' → Rr (some (bc_I (p 3))) σ') : bc_Sem g (d + 3) mX11_restore [bc_R 218] σ Rr X := by
  refine e_X11_restore rfl (fun K hK => ?_)
  refine hK.1 [] 60 _ _ _ _ _ ?_
  refine t_X11_goes (by omega) ?_
  refine bc_ob_i (by omega) ?_
  refine bc_br_i (fun c => absurd c (by omega)) (fun _ => ?_)
  have F : fr_ (fun k => k = 218) σ (bc_wr σ 218 ((14 : Nat) : Int) (1 - σ.1 218 ((4 : Nat) : Int))) := fr_wr rfl
  refine t_X11_copies (.inr (.inr (.inr (.inr (.inl ⟨rfl, rfl⟩))))) (by decide) (by decide) (fun σ2 hc => ?_)
  have N2 : nw_ σ2 219 p := fun j j0 j1 => by
    have := hc.2.1 j j0 j1
    rw [show (0 : Int) + j = j by omega] at this
    rw [this, F.1 221 (by decide)]
    exact hp j j0 j1
  have F5 : fr_ (fun k => k = 218) σ2 (bc_wr σ2 218 ((5 : Nat) : Int) 0) := fr_wr rfl
  have N3 := nw_fr N2 F5 (by decide)
  have e3 := N3 3 (by decide) (by decide)
  refine bc_ob_i (by decide) ?_
  have J : fj_ ej_ σ (bc_wr σ2 218 ((5 : Nat) : Int) 0) := fj_trans (fj_wr (.inr rfl)) (fj_trans (fj_fr hc.1 (by decide)) (fj_wr (.inl rfl)))
  have t14 : (bc_wr σ2 218 ((5 : Nat) : Int) 0).1 218 ((14 : Nat) : Int) = 0 := by
    have e1 : (bc_wr σ2 218 ((5 : Nat) : Int) 0).1 218 ((14 : Nat) : Int) = σ2.1 218 ((14 : Nat) : Int) := by simp [bc_wr]
    rw [e1, hc.1.1 218 (by decide), z]
    simp [bc_wr]
  exact rt_ (f _ ⟨⟨N3, by simp [bc_wr], by decide, fun t ht => absurd ht (by simp)⟩, t14, fr_trans (fr_mono F (fun k hk => by omega)) (fr_trans (fr_mono hc.1 (fun k hk => by omega)) (fr_mono F5 (fun k hk => by omega))), J⟩) e3
end REF
