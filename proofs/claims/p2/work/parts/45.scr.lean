/-! the whole script: (in order?, place, commands, kinds, arguments); n commands may still come -/
abbrev pz_t := Int × Int × Int × (Int → Int) × gr_t
def qp_ (l : List Int) : Nat → Int → Int → (Int → Int) → gr_t → pz_t
  | 0, c, p, k, A => (if p = l.length then 1 else 0, p, c, k, A)
  | n + 1, c, p, k, A =>
    if (qw_ l p 10 0).1 = -1 then (0, (qw_ l p 10 0).2, c, k, A)
    else if (qa_ l (qw_ l p 10 0).2 c (qw_ l p 10 0).1 A).1 = 0 then (0, (qa_ l (qw_ l p 10 0).2 c (qw_ l p 10 0).1 A).2.1, c, k, (qa_ l (qw_ l p 10 0).2 c (qw_ l p 10 0).1 A).2.2)
    else if tg_ l (qa_ l (qw_ l p 10 0).2 c (qw_ l p 10 0).1 A).2.1 = 59 then qp_ l n (c + 1) ((qa_ l (qw_ l p 10 0).2 c (qw_ l p 10 0).1 A).2.1 + 1) (up_ k c (qw_ l p 10 0).1) (qa_ l (qw_ l p 10 0).2 c (qw_ l p 10 0).1 A).2.2
    else (if (qa_ l (qw_ l p 10 0).2 c (qw_ l p 10 0).1 A).2.1 = l.length then 1 else 0, (qa_ l (qw_ l p 10 0).2 c (qw_ l p 10 0).1 A).2.1, c + 1, up_ k c (qw_ l p 10 0).1, (qa_ l (qw_ l p 10 0).2 c (qw_ l p 10 0).1 A).2.2)
theorem qp_s {l : List Int} {n : Nat} {c p : Int} {k : Int → Int} {A : gr_t} : qp_ l (n + 1) c p k A =
    if (qw_ l p 10 0).1 = -1 then (0, (qw_ l p 10 0).2, c, k, A)
    else if (qa_ l (qw_ l p 10 0).2 c (qw_ l p 10 0).1 A).1 = 0 then (0, (qa_ l (qw_ l p 10 0).2 c (qw_ l p 10 0).1 A).2.1, c, k, (qa_ l (qw_ l p 10 0).2 c (qw_ l p 10 0).1 A).2.2)
    else if tg_ l (qa_ l (qw_ l p 10 0).2 c (qw_ l p 10 0).1 A).2.1 = 59 then qp_ l n (c + 1) ((qa_ l (qw_ l p 10 0).2 c (qw_ l p 10 0).1 A).2.1 + 1) (up_ k c (qw_ l p 10 0).1) (qa_ l (qw_ l p 10 0).2 c (qw_ l p 10 0).1 A).2.2
    else (if (qa_ l (qw_ l p 10 0).2 c (qw_ l p 10 0).1 A).2.1 = l.length then 1 else 0, (qa_ l (qw_ l p 10 0).2 c (qw_ l p 10 0).1 A).2.1, c + 1, up_ k c (qw_ l p 10 0).1, (qa_ l (qw_ l p 10 0).2 c (qw_ l p 10 0).1 A).2.2) := rfl
def kk_ (k : Int → Int) : Prop := ∀ j : Int, 0 ≤ j → j < 16 → 0 ≤ k j ∧ k j ≤ 9
def ak_ (σ : bc_M) (k : Int → Int) : Prop := ∀ j : Int, 0 ≤ j → j < 16 → σ.1 198 j = k j
theorem ak_fr {P : Nat → Prop} {σ σ' : bc_M} {k : Int → Int} (h : ak_ σ k) (hf : fr_ P σ σ') (hp : ¬ P 198) : ak_ σ' k := fun j a b => by rw [hf.1 198 hp]; exact h j a b
theorem ak_wr {σ : bc_M} {k : Int → Int} {i v : Int} (h : ak_ σ k) : ak_ (bc_wr σ 198 i v) (up_ k i v) := fun j a b => by
  have := h j a b
  simp only [bc_wr, up_, if_true]
  split
  · rfl
  · exact this
/-- what was read of a script -/
def sz_ (σ : bc_M) (z : pz_t) : Prop := (σ.1 195 ((3 : Nat) : Int) = z.2.2.1 ∧ 0 ≤ z.2.2.1 ∧ z.2.2.1 ≤ 16) ∧ (ak_ σ z.2.2.2.1 ∧ kk_ z.2.2.2.1) ∧ s3_ σ z.2.2.2.2 ∧ g3_ z.2.2.2.2
theorem sz_fr {P : Nat → Prop} {σ σ' : bc_M} {z : pz_t} (h : sz_ σ z) (hf : fr_ P σ σ') (hp : ¬ P 195 ∧ ¬ P 198 ∧ ¬ P 199) : sz_ σ' z := by
  obtain ⟨h2, h3, h4, h5⟩ := h
  refine ⟨?_, ⟨ak_fr h3.1 hf hp.2.1, h3.2⟩, s3_fr h4 hf hp.2.2, h5⟩
  rw [hf.1 195 hp.1]
  exact h2
/-- a script as it stands -/
def sq_ (σ : bc_M) (l : List Int) (z : pz_t) : Prop := sc_ σ l z.2.1 ∧ (σ.1 195 ((3 : Nat) : Int) = z.2.2.1 ∧ 0 ≤ z.2.2.1 ∧ z.2.2.1 ≤ 16) ∧ (ak_ σ z.2.2.2.1 ∧ kk_ z.2.2.2.1) ∧ s3_ σ z.2.2.2.2 ∧ g3_ z.2.2.2.2
theorem sq_fr {P : Nat → Prop} {σ σ' : bc_M} {l : List Int} {z : pz_t} (h : sq_ σ l z) (hf : fr_ P σ σ') (hp : ∀ k, 195 ≤ k → k ≤ 199 → ¬ P k) : sq_ σ' l z := by
  obtain ⟨h1, h2, h3, h4, h5⟩ := h
  refine ⟨sc_fr h1 hf ⟨hp 195 (by decide) (by decide), hp 196 (by decide) (by decide), hp 197 (by decide) (by decide)⟩, ?_, ⟨ak_fr h3.1 hf (hp 198 (by decide) (by decide)), h3.2⟩, s3_fr h4 hf (hp 199 (by decide) (by decide)), h5⟩
  rw [hf.1 195 (hp 195 (by decide) (by decide))]
  exact h2
abbrev sx_ (k : Nat) : Prop := k = 195 ∨ k = 198 ∨ k = 199
section SCR
variable {g : bc_C} {d : Nat} {σ : bc_M} {l : List Int} {p : Int} {Rr : Option bc_A → bc_M → Prop} {X : Nat → bc_M → Prop}
theorem t_X5_readArgs {c k : Int} {A : gr_t} (hS : sc_ σ l p) (hc : σ.1 195 ((3 : Nat) : Int) = c) (c0 : 0 ≤ c) (c1 : c < 16) (hA : s3_ σ A) (gA : g3_ A) (k0 : 0 ≤ k) (hk : k < 10) (h : ∀ σ', sc_ σ' l (qa_ l p c k A).2.1 → s3_ σ' (qa_ l p c k A).2.2 → sh_ σ σ' → Rr (some (bc_I (qa_ l p c k A).1)) σ') : bc_Sem g (d + 5) mX5_readArguments [bc_R 195, bc_I k] σ Rr X := by
  obtain ⟨n, rfl⟩ := Int.eq_ofNat_of_zero_le k0
  exact t_X5_readArguments hS hc c0 c1 hA gA (by omega) h
theorem t_X5_parse {k : Int → Int} {A : gr_t} (hT : tx_ σ 196 l) (hk : ak_ σ k) (kk : kk_ k) (hA : s3_ σ A) (gA : g3_ A) (h : ∀ σ', sq_ σ' l (qp_ l 16 0 0 k A) → fr_ sx_ σ σ' → (0 ≤ (qp_ l 16 0 0 k A).1 ∧ (qp_ l 16 0 0 k A).1 ≤ 1) → Rr (some (bc_I (qp_ l 16 0 0 k A).1)) σ') : bc_Sem g (d + 6) mX5_parse [bc_R 195] σ Rr X := by
  refine e_X5_parse rfl (fun K hK => ?_)
  generalize hQ : qp_ l 16 0 0 k A = Q at *
  have s5 := hT.2.1
  have exit : ∀ (p c : Int) (k : Int → Int) (A : gr_t) (m : Int) (z : bc_LV) (σ' : bc_M), Q = (if p = l.length then 1 else 0, p, c, k, A) → (m = 0 ∨ (m = 1 ∧ c = 16)) → sc_ σ' l p → σ'.1 195 ((3 : Nat) : Int) = c → 0 ≤ c → c ≤ 16 → ak_ σ' k → kk_ k → s3_ σ' A → g3_ A → fr_ sx_ σ σ' → K 12 ([(0, bc_R 195), (1, bc_I m)] ++ z) [] σ' 0 := by
    intro p c k A m z σ' he hm hs hc c0 c1 hk kk hA gA hf
    refine hK.2 _ _ [(0, bc_R 195), (1, bc_I m)] _ _ _ (ls_ _ _) ?_
    have hl := hs.1.1
    have hp := hs.2.1
    have hp1 := hs.2.2
    have e1 : Q.1 = if p = l.length then 1 else 0 := by rw [he]
    have fin := h σ' (by rw [he]; exact ⟨hs, ⟨hc, c0, c1⟩, ⟨hk, kk⟩, hA, gA⟩) hf (by rw [e1]; split <;> omega)
    rw [e1] at fin
    refine hK.1 [12] 60 _ _ _ _ _ ?_
    refine bc_ob_i (by omega) ?_
    rcases hm with rfl | ⟨rfl, rfl⟩
    · refine bc_br_i (fun _ => ?_) (fun c => absurd rfl c)
      refine bc_ob_i (by omega) ?_
      refine bc_br_i (fun c => ?_) (fun c => ?_)
      · refine bc_ob_i (by decide) ?_
        exact rt_ fin (if_pos (by omega)).symm
      · refine bc_ob_i (by decide) ?_
        exact rt_ fin (if_neg (by omega)).symm
    · refine bc_br_i (fun c => absurd c (by decide)) (fun _ => ?_)
      refine bc_ob_i (by omega) ?_
      refine bc_br_i (fun c => by omega) (fun _ => ?_)
      refine bc_ob_i (by omega) ?_
      refine bc_br_i (fun c => ?_) (fun c => ?_)
      · refine bc_ob_i (by decide) ?_
        exact rt_ fin (if_pos (by omega)).symm
      · refine bc_ob_i (by decide) ?_
        exact rt_ fin (if_neg (by omega)).symm
  have L : ∀ (n : Nat) (c p : Int) (k : Int → Int) (A : gr_t) (z : bc_LV) (σ' : bc_M), c = 16 - n → n ≤ 16 → Q = qp_ l n c p k A → sc_ σ' l p → σ'.1 195 ((3 : Nat) : Int) = c → ak_ σ' k → kk_ k → s3_ σ' A → g3_ A → fr_ sx_ σ σ' → K 12 ([(0, bc_R 195), (1, bc_I 1)] ++ z) [] σ' 0 := by
    intro n
    induction n with
    | zero =>
      intro c p k A z σ' hn n16 he hs hc hk kk hA gA hf
      exact exit p c k A 1 z σ' he (.inr ⟨rfl, by omega⟩) hs hc (by omega) (by omega) hk kk hA gA hf
    | succ n ih =>
      intro c p k A z σ' hn n16 he hs hc hk kk hA gA hf
      refine hK.2 _ _ [(0, bc_R 195), (1, bc_I 1)] _ _ _ (ls_ _ _) ?_
      have hw := qw_le (l := l) (p := p) 10 (b := 0) (Nat.le_refl _) hs.2.2.1 hs.2.2.2 s5 (by omega) (by have := hs.2.2.2; omega)
      rw [qp_s] at he
      refine hK.1 [12] 60 _ _ _ _ _ ?_
      refine bc_ob_i (by decide) ?_
      refine bc_br_i (fun c => absurd c (by decide)) (fun _ => ?_)
      refine bc_ob_i (by omega) ?_
      refine bc_br_i (fun _ => ?_) (fun c => by omega)
      refine t_X5_readWord hs (fun σ1 u1 u2 => ?_)
      generalize hW : qw_ l p 10 0 = W at *
      refine bc_ob_i (by omega) ?_
      refine bc_br_i (fun c1 => ?_) (fun c1 => ?_)
      · rw [if_pos c1] at he
        have fin := h σ1 (by rw [he]; exact ⟨u1, ⟨by rw [u2.2]; exact hc, by simp only; omega, by simp only; omega⟩, ⟨ak_fr hk u2.1 (by decide), kk⟩, s3_fr hA u2.1 (by decide), gA⟩) (fr_trans hf (fr_mono u2.1 (by omega))) (by rw [he]; show 0 ≤ (0 : Int) ∧ (0 : Int) ≤ 1; decide)
        rw [he] at fin
        refine bc_ob_i (by decide) ?_
        exact fin
      · rw [if_neg c1] at he
        have ha := qa_le (l := l) (p := W.2) (c := c) (k := W.1) (A := A) (by have := hs.2.2.1; omega) (by omega) gA
        have hcc : σ1.1 195 ((3 : Nat) : Int) = c := by rw [u2.2]; exact hc
        refine t_X5_readArgs (A := A) u1 hcc (by omega) (by omega) (s3_fr hA u2.1 (by decide)) gA (by omega) (by omega) (fun σ2 v1 v2 v3 => ?_)
        generalize hZ : qa_ l W.2 c W.1 A = Z at *
        have hf2 : fr_ sx_ σ σ2 := fr_trans hf (fr_trans (fr_mono u2.1 (by omega)) (fr_mono v3.1 (by omega)))
        have hk2 : ak_ σ2 k := ak_fr (ak_fr hk u2.1 (by decide)) v3.1 (by decide)
        have hc2 : σ2.1 195 ((3 : Nat) : Int) = c := v3.2.trans hcc
        refine bc_ob_i (by omega) ?_
        refine bc_br_i (fun c2 => ?_) (fun c2 => ?_)
        · rw [if_pos c2] at he
          have fin := h σ2 (by rw [he]; exact ⟨v1, ⟨hc2, by simp only; omega, by simp only; omega⟩, ⟨hk2, kk⟩, v2, ha.2.1⟩) hf2 (by rw [he]; show 0 ≤ (0 : Int) ∧ (0 : Int) ≤ 1; decide)
          rw [he] at fin
          refine bc_ob_i (by decide) ?_
          exact fin
        · rw [if_neg c2] at he
          refine bc_ob_i (by omega) ?_
          have lc2 : σ2.1 195 3 = c := hc2
          have S3 : sc_ (bc_wr (bc_wr σ2 198 (σ2.1 195 ((3 : Nat) : Int)) W.1) 195 ((3 : Nat) : Int) ((bc_wr σ2 198 (σ2.1 195 ((3 : Nat) : Int)) W.1).1 195 ((3 : Nat) : Int) + 1)) l Z.2.1 := by
            refine ⟨tx_fr v1.1 (fr_trans (fr_wr (P := fun k => k = 195 ∨ k = 198) (by omega)) (fr_wr (by omega))) (by decide), ?_, v1.2.2⟩
            have := v1.2.1
            simp [bc_wr]
            exact this
          have C3 : (bc_wr (bc_wr σ2 198 (σ2.1 195 ((3 : Nat) : Int)) W.1) 195 ((3 : Nat) : Int) ((bc_wr σ2 198 (σ2.1 195 ((3 : Nat) : Int)) W.1).1 195 ((3 : Nat) : Int) + 1)).1 195 ((3 : Nat) : Int) = c + 1 := by
            simp [bc_wr]
            exact lc2
          have K3 : ak_ (bc_wr (bc_wr σ2 198 (σ2.1 195 ((3 : Nat) : Int)) W.1) 195 ((3 : Nat) : Int) ((bc_wr σ2 198 (σ2.1 195 ((3 : Nat) : Int)) W.1).1 195 ((3 : Nat) : Int) + 1)) (up_ k c W.1) := by
            refine ak_fr ?_ (fr_wr (P := fun k => k = 195) rfl) (by decide)
            rw [hc2]
            exact ak_wr hk2
          have A3 : s3_ (bc_wr (bc_wr σ2 198 (σ2.1 195 ((3 : Nat) : Int)) W.1) 195 ((3 : Nat) : Int) ((bc_wr σ2 198 (σ2.1 195 ((3 : Nat) : Int)) W.1).1 195 ((3 : Nat) : Int) + 1)) Z.2.2 := s3_fr v2 (fr_trans (fr_wr (P := fun k => k = 195 ∨ k = 198) (by omega)) (fr_wr (by omega))) (by decide)
          have F3 : fr_ sx_ σ (bc_wr (bc_wr σ2 198 (σ2.1 195 ((3 : Nat) : Int)) W.1) 195 ((3 : Nat) : Int) ((bc_wr σ2 198 (σ2.1 195 ((3 : Nat) : Int)) W.1).1 195 ((3 : Nat) : Int) + 1)) := fr_trans hf2 (fr_trans (fr_wr (by omega)) (fr_wr (by omega)))
          have KK : kk_ (up_ k c W.1) := fun j j0 j1 => by
            have := kk j j0 j1
            unfold up_
            split <;> omega
          refine t_X5_accept (c := 59) S3 (by decide) (fun e2 hl σ4 w1 w2 => ?_) (fun e2 => ?_)
          · rw [if_pos e2] at he
            exact ih (c + 1) _ _ _ [(2, bc_I W.1)] σ4 (by omega) (by omega) he w1 (w2.2.trans C3) (ak_fr K3 w2.1 (by decide)) KK (s3_fr A3 w2.1 (by decide)) ha.2.1 (fr_trans F3 (fr_mono w2.1 (by omega)))
          · rw [if_neg e2] at he
            exact exit _ _ _ _ 0 [(2, bc_I W.1)] _ he (.inl rfl) S3 C3 (by omega) (by omega) K3 KK A3 ha.2.1 F3
  have S0 : sc_ (bc_wr (bc_wr σ 195 ((3 : Nat) : Int) 0) 195 ((4 : Nat) : Int) 0) l 0 := ⟨tx_fr hT (fr_trans (fr_wr (P := fun k => k = 195) rfl) (fr_wr rfl)) (by decide), by simp [bc_wr], Int.le_refl _, by omega⟩
  have F0 : fr_ (fun k => k = 195) σ (bc_wr (bc_wr σ 195 ((3 : Nat) : Int) 0) 195 ((4 : Nat) : Int) 0) := fr_trans (fr_wr rfl) (fr_wr rfl)
  refine hK.1 [12] 60 _ _ _ _ _ ?_
  exact L 16 0 0 k A [] _ (by omega) (Nat.le_refl _) hQ.symm S0 (by simp [bc_wr]) (ak_fr hk F0 (by decide)) kk (s3_fr hA F0 (by decide)) gA (fr_mono F0 (by omega))
theorem t_X5_kindAt {z : pz_t} {i : Int} (hS : sz_ σ z) (hi : bc_in i) (h : Rr (some (bc_I (if 0 ≤ i ∧ i < z.2.2.1 then z.2.2.2.1 i else -1))) σ) : bc_Sem g (d + 1) mX5_kindAt [bc_R 195, bc_I i] σ Rr X := by
  obtain ⟨⟨h2, h2a, h2b⟩, ⟨h3, h3a⟩, h4, h5⟩ := hS
  refine e_X5_kindAt rfl (fun K hK => ?_)
  refine hK.1 [] 60 _ _ _ _ _ ?_
  refine bc_ob_i hi ?_
  refine bc_br_i (fun c => ?_) (fun c => ?_)
  · exact rt_ h (if_neg (by omega)).symm
  · refine bc_ob_i ⟨hi, by omega⟩ ?_
    refine bc_br_i (fun c2 => ?_) (fun c2 => ?_)
    · refine bc_ob_i (by omega) ?_
      exact rt_ h (by rw [if_pos (by omega)]; exact h3 i (by omega) (by omega))
    · exact rt_ h (if_neg (by omega)).symm
theorem t_X5_argument {z : pz_t} {i j : Int} (hS : sz_ σ z) (hi : bc_in i) (hj : bc_in j) (h : Rr (some (bc_I (if (0 ≤ i ∧ i < z.2.2.1) ∧ 0 ≤ j ∧ j < 3 then z.2.2.2.2 i j else 0))) σ) : bc_Sem g (d + 1) mX5_argument [bc_R 195, bc_I i, bc_I j] σ Rr X := by
  obtain ⟨⟨h2, h2a, h2b⟩, ⟨h3, h3a⟩, h4, h5⟩ := hS
  refine e_X5_argument rfl (fun K hK => ?_)
  have no : ¬ ((0 ≤ i ∧ i < z.2.2.1) ∧ 0 ≤ j ∧ j < 3) → Rr (some (bc_I 0)) σ := fun c => rt_ h (if_neg c).symm
  refine hK.1 [] 60 _ _ _ _ _ ?_
  refine bc_ob_i hi ?_
  refine bc_br_i (fun c => ?_) (fun c => ?_)
  · refine bc_ob_i (by decide) ?_
    refine bc_br_i (fun _ => no (by omega)) (fun c => absurd rfl c)
  · refine bc_ob_i ⟨hi, by omega⟩ ?_
    refine bc_br_i (fun c2 => ?_) (fun c2 => ?_)
    · refine bc_ob_i hj ?_
      refine bc_br_i (fun c3 => ?_) (fun c3 => ?_)
      · refine bc_ob_i (by decide) ?_
        refine bc_br_i (fun _ => no (by omega)) (fun c => absurd rfl c)
      · refine bc_ob_i ⟨hj, by decide⟩ ?_
        refine bc_br_i (fun c4 => ?_) (fun c4 => ?_)
        · refine bc_ob_i (by decide) ?_
          refine bc_br_i (fun c => absurd c (by decide)) (fun _ => ?_)
          refine bc_ob_i (by omega) ?_
          refine bc_ob_i (by omega) ?_
          exact rt_ h (by rw [if_pos (by omega)]; exact h4 i j (by omega) (by omega) (by omega) (by omega))
        · refine bc_ob_i (by decide) ?_
          refine bc_br_i (fun _ => no (by omega)) (fun c => absurd rfl c)
    · refine bc_ob_i (by decide) ?_
      refine bc_br_i (fun _ => no (by omega)) (fun c => absurd rfl c)
end SCR
