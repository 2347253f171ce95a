section REF
variable {g : bc_C} {d : Nat} {σ : bc_M} {q b : rw_t} {h : List rw_t} {Rr : Option bc_A → bc_M → Prop} {X : Nat → bc_M → Prop}
theorem t_X11_undo0 (hG : rg_ σ q []) (f : ∀ σ', rg_ σ' q [] → σ'.1 218 ((14 : Nat) : Int) = 1 → fr_ ex_ σ σ' → fj_ ej_ σ σ' → Rr (some (bc_I 0)) σ') : bc_Sem g (d + 3) mX11_undo [bc_R 218] σ Rr X := by
  obtain ⟨hq, hH⟩ := hG
  have e5 : σ.1 218 ((5 : Nat) : Int) = 0 := hH.1
  refine e_X11_undo rfl (fun K hK => ?_)
  refine hK.1 [] 60 _ _ _ _ _ ?_
  refine bc_ob_i (by omega) ?_
  refine bc_br_i (fun c => by omega) (fun _ => ?_)
  refine t_X11_goes (by decide) ?_
  refine bc_ob_i (by decide) ?_
  refine bc_br_i (fun _ => ?_) (fun q => absurd rfl q)
  have f1 : fr_ (fun k => k = 218) σ (bc_wr σ 218 ((14 : Nat) : Int) (1 - 0)) := fr_wr rfl
  exact f _ ⟨nw_fr hq f1 (by decide), mh_fr hH f1 (by decide) (by simp [bc_wr])⟩ (by simp [bc_wr]) (fr_mono f1 (fun k hk => by omega)) (fj_wr (.inr rfl))
theorem t_X11_undo1 {p : rw_t} {t : List rw_t} (hG : rg_ σ q (p :: t)) (f : ∀ σ', rg_ σ' p t → σ'.1 218 ((14 : Nat) : Int) = 0 → fr_ ex_ σ σ' → fj_ ej_ σ σ' → Rr (some (bc_I t.length)) σ') : bc_Sem g (d + 3) mX11_undo [bc_R 218] σ Rr X := by
  obtain ⟨hq, hH⟩ := hG
  obtain ⟨h1, h2, h3⟩ := hH
  have e5 : σ.1 218 ((5 : Nat) : Int) = (t.length : Int) + 1 := by rw [h1, List.length_cons]; omega
  rw [List.length_cons] at h2
  refine e_X11_undo rfl (fun K hK => ?_)
  refine hK.1 [] 60 _ _ _ _ _ ?_
  refine bc_ob_i (by omega) ?_
  refine bc_br_i (fun _ => ?_) (fun c => by omega)
  refine t_X11_goes (by decide) ?_
  refine bc_ob_i (by decide) ?_
  refine bc_br_i (fun q => absurd q (by decide)) (fun _ => ?_)
  have z5 : (bc_wr σ 218 ((14 : Nat) : Int) (1 - 1)).1 218 ((5 : Nat) : Int) = (t.length : Int) + 1 := by rw [← e5]; simp [bc_wr]
  have y5 : (bc_wr (bc_wr σ 218 ((14 : Nat) : Int) (1 - 1)) 218 ((5 : Nat) : Int) ((bc_wr σ 218 ((14 : Nat) : Int) (1 - 1)).1 218 ((5 : Nat) : Int) - 1)).1 218 ((5 : Nat) : Int) = t.length := by
    rw [z5]
    simp [bc_wr]
  have y14 : (bc_wr (bc_wr σ 218 ((14 : Nat) : Int) (1 - 1)) 218 ((5 : Nat) : Int) ((bc_wr σ 218 ((14 : Nat) : Int) (1 - 1)).1 218 ((5 : Nat) : Int) - 1)).1 218 ((14 : Nat) : Int) = 0 := by simp [bc_wr]
  have f2 : fr_ (fun k => k = 218) σ (bc_wr (bc_wr σ 218 ((14 : Nat) : Int) (1 - 1)) 218 ((5 : Nat) : Int) ((bc_wr σ 218 ((14 : Nat) : Int) (1 - 1)).1 218 ((5 : Nat) : Int) - 1)) := fr_trans (fr_wr rfl) (fr_wr rfl)
  have j2 : fj_ ej_ σ (bc_wr (bc_wr σ 218 ((14 : Nat) : Int) (1 - 1)) 218 ((5 : Nat) : Int) ((bc_wr σ 218 ((14 : Nat) : Int) (1 - 1)).1 218 ((5 : Nat) : Int) - 1)) := fj_trans (fj_wr (.inr rfl)) (fj_wr (.inl rfl))
  refine t_X11_copies (.inr (.inr (.inr (.inr (.inr ⟨rfl, rfl⟩))))) (by rw [y5]; have : cn_ 222 = 1088 := rfl; omega) (by decide) (fun σ2 hc => ?_)
  rw [y5] at hc
  have x5 : σ2.1 218 ((5 : Nat) : Int) = t.length := by rw [hc.1.1 218 (by decide)]; exact y5
  have F2 : fr_ (fun k => k = 218 ∨ k = 219) σ σ2 := fr_trans (fr_mono f2 (fun k hk => .inl hk)) (fr_mono hc.1 (fun k hk => .inr hk))
  refine rt_ (f σ2 ⟨fun j j0 j1 => ?_, x5, by omega, fun u hu j j0 j1 => ?_⟩ (by rw [hc.1.1 218 (by decide)]; exact y14) (fr_mono F2 (fun k hk => by omega)) (fj_trans j2 (fj_fr hc.1 (by decide)))) x5
  · have c2 := hc.2.1 j j0 j1
    rw [Int.zero_add] at c2
    rw [c2, f2.1 222 (by decide)]
    have := h3 0 (by simp) j j0 j1
    rw [← show ((p :: t)[0]'(by simp)) j = p j from rfl, ← this, List.length_cons]
    refine congrArg (σ.1 222) ?_
    omega
  · rw [F2.1 222 (by decide)]
    have := h3 (u + 1) (by rw [List.length_cons]; omega) j j0 j1
    rw [← show ((p :: t)[u + 1]'(by rw [List.length_cons]; omega)) j = t[u] j from rfl, ← this, List.length_cons]
    refine congrArg (σ.1 222) ?_
    omega
end REF
