def ez_ (q : rw_t) (c i : Int) : rw_t := fun j => if j = 11 then c else if 12 ≤ j ∧ j < 12 + i then 0 else q j
section REF
variable {g : bc_C} {d : Nat} {σ : bc_M} {q b : rw_t} {h : List rw_t} {Rr : Option bc_A → bc_M → Prop} {X : Nat → bc_M → Prop}
theorem t_X11_empties {c : Int} (hG : rg_ σ q h) (hb : nw_ σ 220 b) (hc : bc_in c) (f : ∀ σ', rg_ σ' (if c = 99 ∨ c = 108 then re_ q c else q) h → nw_ σ' 220 b → σ'.1 218 ((14 : Nat) : Int) = (if c = 99 ∨ c = 108 then 0 else 1) → fr_ ex_ σ σ' → fj_ ej_ σ σ' → Rr (some (bc_I (tw_ q))) σ') : bc_Sem g (d + 3) mX11_empties [bc_R 218, bc_I c] σ Rr X := by
  obtain ⟨hq, hH⟩ := hG
  refine e_X11_empties rfl (fun K hK => ?_)
  by_cases ck : c = 99 ∨ c = 108
  · rw [if_pos ck, if_pos ck] at f
    have f1 : fr_ (fun k => k = 218) σ (bc_wr σ 218 ((14 : Nat) : Int) (1 - 1)) := fr_wr rfl
    have hH1 : mh_ (bc_wr σ 218 ((14 : Nat) : Int) (1 - 1)) h := mh_fr hH f1 (by decide) (by simp [bc_wr])
    have z14 : (bc_wr σ 218 ((14 : Nat) : Int) (1 - 1)).1 218 ((14 : Nat) : Int) = 0 := by simp [bc_wr]
    have hq1 := nw_fr hq f1 (by decide)
    have hb1 := nw_fr hb f1 (by decide)
    have j1 : fj_ ej_ σ (bc_wr σ 218 ((14 : Nat) : Int) (1 - 1)) := fj_wr (.inr rfl)
    have F1 : fr_ ex_ σ (bc_wr σ 218 ((14 : Nat) : Int) (1 - 1)) := fr_mono f1 (fun k hk => by omega)
    have L : ∀ i : Int, ∀ σ', 0 ≤ i → i ≤ 4 → nw_ σ' 219 (ez_ q c i) → fr_ (fun k => k = 219) (bc_wr σ 218 ((14 : Nat) : Int) (1 - 1)) σ' → K 26 [(0, bc_R 218), (1, bc_I c), (2, bc_I (tw_ q)), (3, bc_I i)] [] σ' 0 := by
      refine up_ind 4 (fun i hi σ' i0 i1 hn F => ?_) (fun i hi ih σ' i0 i1 hn F => ?_)
      · refine hK.1 [26] 60 _ _ _ _ _ ?_
        refine bc_ob_i (by omega) ?_
        refine bc_br_i (fun c => by omega) (fun _ => ?_)
        refine f σ' ⟨fun j j0 j1 => ?_, mh_fr hH1 F (by decide) (by rw [F.1 218 (by decide)])⟩ (nw_fr hb1 F (by decide)) (by rw [F.1 218 (by decide)]; exact z14) (fr_trans F1 (fr_mono F (fun k hk => by omega))) (fj_trans j1 (fj_fr F (by decide)))
        rw [hn j j0 j1]
        unfold re_ ez_
        by_cases e : j = 11
        · rw [if_pos e, if_pos e]
        · rw [if_neg e, if_neg e]
          by_cases e2 : 12 ≤ j ∧ j ≤ 15
          · rw [if_pos e2, if_pos (by omega)]
          · rw [if_neg e2, if_neg (by omega)]
      · refine hK.1 [26] 60 _ _ _ _ _ ?_
        refine bc_ob_i (by omega) ?_
        refine bc_br_i (fun _ => ?_) (fun c => by omega)
        refine bc_ob_i (by omega) ?_
        refine ih _ (by omega) (by omega) (fun j j0 j1 => ?_) (fr_trans F (fr_wr rfl))
        rw [nw_wr hn j j0 j1]
        unfold up_ ez_
        by_cases e : j = 12 + i
        · rw [if_pos e, if_neg (by omega), if_pos (by omega)]
        · rw [if_neg e]
          by_cases e1 : j = 11
          · rw [if_pos e1, if_pos e1]
          · rw [if_neg e1, if_neg e1]
            by_cases e2 : 12 ≤ j ∧ j < 12 + i
            · rw [if_pos e2, if_pos (by omega)]
            · rw [if_neg e2, if_neg (by omega)]
    refine hK.1 [26] 60 _ _ _ _ _ ?_
    refine t_X11_weighs hq ?_
    refine t_X11_isKind hc ?_
    rw [if_pos ck]
    refine t_X11_goes (by decide) ?_
    refine bc_ob_i (by decide) ?_
    refine bc_br_i (fun q => absurd q (by decide)) (fun _ => ?_)
    refine bc_ob_i (by decide) ?_
    refine L 0 _ (by decide) (by decide) (fun j j0 j1 => ?_) (fr_wr rfl)
    rw [nw_wr hq1 j j0 j1]
    unfold up_ ez_
    by_cases e1 : j = 11
    · rw [if_pos e1, if_pos e1]
    · rw [if_neg e1, if_neg e1, if_neg (by omega)]
  · rw [if_neg ck, if_neg ck] at f
    have f1 : fr_ (fun k => k = 218) σ (bc_wr σ 218 ((14 : Nat) : Int) (1 - 0)) := fr_wr rfl
    refine hK.1 [26] 60 _ _ _ _ _ ?_
    refine t_X11_weighs hq ?_
    refine t_X11_isKind hc ?_
    rw [if_neg ck]
    refine t_X11_goes (by decide) ?_
    refine bc_ob_i (by decide) ?_
    refine bc_br_i (fun _ => ?_) (fun q => absurd rfl q)
    exact f _ ⟨nw_fr hq f1 (by decide), mh_fr hH f1 (by decide) (by simp [bc_wr])⟩ (nw_fr hb f1 (by decide)) (by simp [bc_wr]) (fr_mono f1 (fun k hk => by omega)) (fj_wr (.inr rfl))
theorem t_X11_setNiche {c : Int} (hG : rg_ σ q h) (hc : bc_in c) (f1 : ¬ (c = 99 ∨ c = 108) → ∀ σ', rg_ σ' q h → σ'.1 218 ((14 : Nat) : Int) = 1 → fr_ ex_ σ σ' → fj_ ej_ σ σ' → Rr (some (bc_I 0)) σ') (f0 : c = 99 ∨ c = 108 → ∀ σ', rg_ σ' (re_ q c) (hr_ h q) → σ'.1 218 ((14 : Nat) : Int) = 0 → fr_ ex_ σ σ' → fj_ ej_ σ σ' → Rr (some (bc_I (tw_ q))) σ') : bc_Sem g (d + 4) mX11_setNiche [bc_R 218, bc_I c] σ Rr X := by
  refine e_X11_setNiche rfl (fun K hK => ?_)
  refine hK.1 [] 60 _ _ _ _ _ ?_
  refine t_X11_begins hG.1 (fun σ1 b1 g1 => ?_)
  have F1 : fr_ ex_ σ σ1 := fr_mono g1 (fun k hk => by omega)
  have G1 : rg_ σ1 q h := ⟨nw_fr hG.1 g1 (by decide), mh_fr hG.2 g1 (by decide) (by rw [g1.1 218 (by decide)])⟩
  have J1 : fj_ ej_ σ σ1 := fj_fr g1 (by decide)
  refine t_X11_empties G1 b1 hc (fun σ2 G2 b2 t2 g2 j2 => ?_)
  by_cases c0 : c = 99 ∨ c = 108
  · rw [if_pos c0] at G2 t2
    refine t_X11_ends G2 b2 t2 (by decide) (fun e => absurd rfl e) (fun _ σ3 G3 t3 g3 j3 => ?_)
    exact f0 c0 σ3 G3 t3 (fr_trans F1 (fr_trans g2 g3)) (fj_trans J1 (fj_trans j2 j3))
  · rw [if_neg c0] at G2 t2
    refine t_X11_ends G2 b2 t2 (by decide) (fun _ σ3 G3 t3 g3 j3 => ?_) (fun e => absurd e (by decide))
    exact f1 c0 σ3 G3 t3 (fr_trans F1 (fr_trans g2 g3)) (fj_trans J1 (fj_trans j2 j3))
end REF
