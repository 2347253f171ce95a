section REF
variable {g : bc_C} {d : Nat} {σ : bc_M} {q b : rw_t} {h : List rw_t} {Rr : Option bc_A → bc_M → Prop} {X : Nat → bc_M → Prop}
theorem t_X11_abandon {m : Int} (hG : rg_ σ q h) (hW : wf_M q) (hm : bc_in m)
    (f1 : lq_ q m (1 - 1) ≠ 0 → ∀ σ', rg_ σ' q h → σ'.1 218 ((14 : Nat) : Int) = (if lq_ q m (1 - 1) = 1 then 1 else 2) → fr_ ex_ σ σ' → fj_ ej_ σ σ' → Rr (some (bc_I 0)) σ')
    (f0 : lq_ q m (1 - 1) = 0 → ∀ σ', rg_ σ' (rl_ q m 1) (hr_ h q) → σ'.1 218 ((14 : Nat) : Int) = 0 → fr_ ex_ σ σ' → fj_ ej_ σ σ' → Rr (some (bc_I (ab_ (rl_ q m 1)))) σ') : bc_Sem g (d + 7) mX11_abandon [bc_R 218, bc_I m] σ Rr X := by
  refine e_X11_abandon rfl (fun K hK => ?_)
  refine hK.1 [] 60 _ _ _ _ _ ?_
  refine t_X11_begins hG.1 (fun σ1 b1 g1 => ?_)
  have F1 : fr_ ex_ σ σ1 := fr_mono g1 (fun k hk => by omega)
  have G1 : rg_ σ1 q h := ⟨nw_fr hG.1 g1 (by decide), mh_fr hG.2 g1 (by decide) (by rw [g1.1 218 (by decide)])⟩
  have J1 : fj_ ej_ σ σ1 := fj_fr g1 (by decide)
  refine t_X11_leaves G1 b1 hW hm (by decide) (fun c σ2 G2 b2 t2 g2 j2 => ?_) (fun c σ2 G2 b2 t2 g2 j2 => ?_)
  · refine t_X11_ends G2 b2 t2 (by split <;> omega) (fun _ σ3 G3 t3 g3 j3 => ?_) (fun e => absurd e (by split <;> omega))
    exact f1 c σ3 G3 t3 (fr_trans F1 (fr_trans g2 g3)) (fj_trans J1 (fj_trans j2 j3))
  · refine t_X11_ends G2 b2 t2 (by decide) (fun e => absurd rfl e) (fun _ σ3 G3 t3 g3 j3 => ?_)
    exact f0 c σ3 G3 t3 (fr_trans F1 (fr_trans g2 g3)) (fj_trans J1 (fj_trans j2 j3))
theorem t_X11_resume {m : Int} (hG : rg_ σ q h) (hW : wf_M q) (hm : bc_in m)
    (f1 : lq_ q m (1 - 0) ≠ 0 → ∀ σ', rg_ σ' q h → σ'.1 218 ((14 : Nat) : Int) = (if lq_ q m (1 - 0) = 1 then 1 else 2) → fr_ ex_ σ σ' → fj_ ej_ σ σ' → Rr (some (bc_I 0)) σ')
    (f0 : lq_ q m (1 - 0) = 0 → ∀ σ', rg_ σ' (rl_ q m 0) (hr_ h q) → σ'.1 218 ((14 : Nat) : Int) = 0 → fr_ ex_ σ σ' → fj_ ej_ σ σ' → Rr (some (bc_I (ab_ (rl_ q m 0)))) σ') : bc_Sem g (d + 7) mX11_resume [bc_R 218, bc_I m] σ Rr X := by
  refine e_X11_resume rfl (fun K hK => ?_)
  refine hK.1 [] 60 _ _ _ _ _ ?_
  refine t_X11_begins hG.1 (fun σ1 b1 g1 => ?_)
  have F1 : fr_ ex_ σ σ1 := fr_mono g1 (fun k hk => by omega)
  have G1 : rg_ σ1 q h := ⟨nw_fr hG.1 g1 (by decide), mh_fr hG.2 g1 (by decide) (by rw [g1.1 218 (by decide)])⟩
  have J1 : fj_ ej_ σ σ1 := fj_fr g1 (by decide)
  refine t_X11_leaves G1 b1 hW hm (by decide) (fun c σ2 G2 b2 t2 g2 j2 => ?_) (fun c σ2 G2 b2 t2 g2 j2 => ?_)
  · refine t_X11_ends G2 b2 t2 (by split <;> omega) (fun _ σ3 G3 t3 g3 j3 => ?_) (fun e => absurd e (by split <;> omega))
    exact f1 c σ3 G3 t3 (fr_trans F1 (fr_trans g2 g3)) (fj_trans J1 (fj_trans j2 j3))
  · refine t_X11_ends G2 b2 t2 (by decide) (fun e => absurd rfl e) (fun _ σ3 G3 t3 g3 j3 => ?_)
    exact f0 c σ3 G3 t3 (fr_trans F1 (fr_trans g2 g3)) (fj_trans J1 (fj_trans j2 j3))
end REF
