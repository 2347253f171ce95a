/-! the reference's calls that change the state: q the row, h the history -/
def rg_ (σ : bc_M) (q : rw_t) (h : List rw_t) : Prop := nw_ σ 219 q ∧ mh_ σ h
abbrev ex_ (k : Nat) : Prop := k = 218 ∨ k = 219 ∨ k = 220 ∨ k = 222
abbrev ej_ (j : Int) : Prop := j = 5 ∨ j = 14
theorem fj_refl {S : Int → Prop} (σ : bc_M) : fj_ S σ σ := fun _ _ => rfl
theorem fj_trans {S : Int → Prop} {a b c : bc_M} (h : fj_ S a b) (k : fj_ S b c) : fj_ S a c := fun j hj => (k j hj).trans (h j hj)
theorem fj_fr {S : Int → Prop} {P : Nat → Prop} {σ σ' : bc_M} (h : fr_ P σ σ') (hp : ¬ P 218) : fj_ S σ σ' := fun j _ => by rw [h.1 218 hp]
theorem fj_mono {S T : Int → Prop} {a b : bc_M} (h : fj_ S a b) (st : ∀ j, S j → T j) : fj_ T a b := fun j hj => h j (fun q => hj (st j q))
theorem fj_wr {S : Int → Prop} {σ : bc_M} {i v : Int} (h : S i) : fj_ S σ (bc_wr σ 218 i v) := fun j hj => by
  have e : j ≠ i := fun e => hj (by rw [e]; exact h)
  simp [bc_wr, e]
theorem mh_fr {P : Nat → Prop} {σ σ' : bc_M} {h : List rw_t} (H : mh_ σ h) (hf : fr_ P σ σ') (h2 : ¬ P 222) (h5 : σ'.1 218 ((5 : Nat) : Int) = σ.1 218 ((5 : Nat) : Int)) : mh_ σ' h := by
  obtain ⟨a, b, c⟩ := H
  refine ⟨by rw [h5]; exact a, b, fun t ht j j0 j1 => ?_⟩
  rw [hf.1 222 h2]
  exact c t ht j j0 j1
section REF
variable {g : bc_C} {d : Nat} {σ : bc_M} {q b : rw_t} {h : List rw_t} {Rr : Option bc_A → bc_M → Prop} {X : Nat → bc_M → Prop}
theorem t_X11_ends {x t : Int} (hG : rg_ σ q h) (hb : nw_ σ 220 b) (ht : σ.1 218 ((14 : Nat) : Int) = t) (t0 : 0 ≤ t ∧ t ≤ 4) (h1 : t ≠ 0 → ∀ σ', rg_ σ' b h → σ'.1 218 ((14 : Nat) : Int) = t → fr_ ex_ σ σ' → fj_ ej_ σ σ' → Rr (some (bc_I 0)) σ') (h0 : t = 0 → ∀ σ', rg_ σ' q (hr_ h b) → σ'.1 218 ((14 : Nat) : Int) = 0 → fr_ ex_ σ σ' → fj_ ej_ σ σ' → Rr (some (bc_I x)) σ') : bc_Sem g (d + 3) mX11_ends [bc_R 218, bc_I x] σ Rr X := by
  obtain ⟨hq, hH⟩ := hG
  refine e_X11_ends rfl (fun K hK => ?_)
  refine hK.1 [] 60 _ _ _ _ _ ?_
  refine bc_ob_i (by omega) ?_
  refine bc_br_i (fun c => ?_) (fun c => ?_)
  · refine t_X11_remembers hH hb (fun σ' H' f' j' => ?_)
    refine h0 (by omega) σ' ⟨nw_fr hq f' (by decide), H'⟩ ?_ (fr_mono f' (fun k hk => by omega)) (fj_mono j' (fun j hj => .inl hj))
    rw [j' ((14 : Nat) : Int) (by decide), ht]
    omega
  · refine t_X11_copies (.inr (.inl ⟨rfl, rfl⟩)) (by decide) (by decide) (fun σ' hc => ?_)
    refine h1 (by omega) σ' ⟨fun j j0 j1 => ?_, mh_fr hH hc.1 (by decide) (by rw [hc.1.1 218 (by decide)])⟩ (by rw [hc.1.1 218 (by decide)]; exact ht) (fr_mono hc.1 (fun k hk => by omega)) (fj_fr hc.1 (by decide))
    have := hc.2.1 j j0 j1
    rw [Int.zero_add] at this
    rw [this]
    exact hb j j0 j1
theorem t_X11_forges {n : Int} (hG : rg_ σ q h) (hb : nw_ σ 220 b) (hn : bc_in n) (f : ∀ σ', rg_ σ' (if 0 ≤ n ∧ n ≤ 20 then up_ q 2 n else q) h → nw_ σ' 220 b → σ'.1 218 ((14 : Nat) : Int) = (if 0 ≤ n ∧ n ≤ 20 then 0 else 1) → fr_ ex_ σ σ' → fj_ ej_ σ σ' → Rr (some (bc_I (q 2))) σ') : bc_Sem g (d + 3) mX11_forges [bc_R 218, bc_I n] σ Rr X := by
  obtain ⟨hq, hH⟩ := hG
  have e2 := hq 2 (by decide) (by decide)
  refine e_X11_forges rfl (fun K hK => ?_)
  refine hK.1 [] 60 _ _ _ _ _ ?_
  refine bc_ob_i (by decide) ?_
  refine t_X11_isIn hn (by decide) (by decide) ?_
  by_cases c : 0 ≤ n ∧ n ≤ 20
  · rw [if_pos c, if_pos c] at f
    rw [if_pos c]
    refine t_X11_goes (by decide) ?_
    refine bc_ob_i (by decide) ?_
    refine bc_br_i (fun q => absurd q (by decide)) (fun _ => ?_)
    refine bc_ob_i (by decide) ?_
    have f1 : fr_ (fun k => k = 218) σ (bc_wr σ 218 ((14 : Nat) : Int) (1 - 1)) := fr_wr rfl
    have f2 : fr_ (fun k => k = 218 ∨ k = 219) σ (bc_wr (bc_wr σ 218 ((14 : Nat) : Int) (1 - 1)) 219 2 n) := fr_trans (fr_mono f1 (fun k hk => .inl hk)) (fr_wr (.inr rfl))
    refine rt_ (f _ ⟨nw_wr (nw_fr hq f1 (by decide)), mh_fr hH f2 (by decide) (by simp [bc_wr])⟩ (nw_fr hb f2 (by decide)) (by simp [bc_wr]) (fr_mono f2 (fun k hk => by omega)) (fj_trans (fj_wr (.inr rfl)) (fj_fr (fr_wr (P := fun k => k = 219) rfl) (by decide)))) e2
  · rw [if_neg c, if_neg c] at f
    rw [if_neg c]
    refine t_X11_goes (by decide) ?_
    refine bc_ob_i (by decide) ?_
    refine bc_br_i (fun _ => ?_) (fun q => absurd rfl q)
    have f1 : fr_ (fun k => k = 218) σ (bc_wr σ 218 ((14 : Nat) : Int) (1 - 0)) := fr_wr rfl
    refine rt_ (f _ ⟨nw_fr hq f1 (by decide), mh_fr hH f1 (by decide) (by simp [bc_wr])⟩ (nw_fr hb f1 (by decide)) (by simp [bc_wr]) (fr_mono f1 (fun k hk => by omega)) (fj_wr (.inr rfl))) e2
theorem t_X11_setForge {n : Int} (hG : rg_ σ q h) (hn : bc_in n) (h1 : ¬ (0 ≤ n ∧ n ≤ 20) → ∀ σ', rg_ σ' q h → σ'.1 218 ((14 : Nat) : Int) = 1 → fr_ ex_ σ σ' → fj_ ej_ σ σ' → Rr (some (bc_I 0)) σ') (h0 : 0 ≤ n → n ≤ 20 → ∀ σ', rg_ σ' (up_ q 2 n) (hr_ h q) → σ'.1 218 ((14 : Nat) : Int) = 0 → fr_ ex_ σ σ' → fj_ ej_ σ σ' → Rr (some (bc_I (q 2))) σ') : bc_Sem g (d + 4) mX11_setForge [bc_R 218, bc_I n] σ Rr X := by
  refine e_X11_setForge rfl (fun K hK => ?_)
  refine hK.1 [] 60 _ _ _ _ _ ?_
  refine t_X11_begins hG.1 (fun σ1 b1 f1 => ?_)
  have F1 : fr_ ex_ σ σ1 := fr_mono f1 (fun k hk => by omega)
  have G1 : rg_ σ1 q h := ⟨nw_fr hG.1 f1 (by decide), mh_fr hG.2 f1 (by decide) (by rw [f1.1 218 (by decide)])⟩
  have J1 : fj_ ej_ σ σ1 := fj_fr f1 (by decide)
  refine t_X11_forges G1 b1 hn (fun σ2 G2 b2 t2 f2 j2 => ?_)
  by_cases c : 0 ≤ n ∧ n ≤ 20
  · rw [if_pos c] at G2 t2
    refine t_X11_ends G2 b2 t2 (by decide) (fun e => absurd rfl e) (fun _ σ3 G3 t3 f3 j3 => ?_)
    exact h0 c.1 c.2 σ3 G3 t3 (fr_trans F1 (fr_trans f2 f3)) (fj_trans J1 (fj_trans j2 j3))
  · rw [if_neg c] at G2 t2
    refine t_X11_ends G2 b2 t2 (by decide) (fun _ σ3 G3 t3 f3 j3 => ?_) (fun e => absurd e (by decide))
    exact h1 c σ3 G3 t3 (fr_trans F1 (fr_trans f2 f3)) (fj_trans J1 (fj_trans j2 j3))
end REF
