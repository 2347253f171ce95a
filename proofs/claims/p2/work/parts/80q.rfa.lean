/-! a procession: class and reference leave the same row -/
theorem wkt_le (q : rw_t) (u v n : Int) : 0 ≤ wkt_ q u v n ∧ wkt_ q u v n ≤ 4 := by
  unfold wkt_
  (repeat' split) <;> omega
section REF
variable {g : bc_C} {d : Nat} {σ : bc_M} {q b : rw_t} {h : List rw_t} {Rr : Option bc_A → bc_M → Prop} {X : Nat → bc_M → Prop} {B : Int}
theorem t_X11_procession {u v n : Int} (hG : rg_ σ q h) (hW : wf_M q) (hN4 : wf_N q) (hU : uj_ q) (hu : bc_in u) (hv : bc_in v) (hn : bc_in n)
    (f1 : wkt_ q u v n ≠ 0 → ∀ σ', spo_ (wkt_ q u v n) q h σ σ' → Rr (some (bc_I 0)) σ')
    (f0 : wkt_ q u v n = 0 → ∀ σ' r', wl_ (n + tw_ q) (wyJ_ q u v) q (xm_ q (xw_ q u 8 v) (-1) v 8 u).toNat r' → spo_ 0 r' (hr_ h q) σ σ' → Rr (some (bc_I (xm_ q (xw_ q u 8 v) (-1) v 8 u))) σ') : bc_Sem g (d + 9) mX11_procession [bc_R 218, bc_I u, bc_I v, bc_I n] σ Rr X := by
  have le := wkt_le q u v n
  refine e_X11_procession rfl (fun K hK => ?_)
  refine hK.1 [] 60 _ _ _ _ _ ?_
  refine t_X11_begins2 hG (fun σ1 G1 b1 F1 J1 => ?_)
  refine t_X11_walks G1 b1 hW hN4 hU hu hv hn (fun c σ2 S2 => ?_) (fun c σ2 r' hw S2 => ?_)
  · exact t_X11_ends1 F1 J1 S2 (by omega) (f1 c)
  · exact t_X11_ends0 F1 J1 S2 (fun σ' S => f0 c σ' r' hw S)
end REF
theorem bt_eq {r : rw_t} (hu : uj_ r) {a b x y : Int} (hx : bt_ r a b x) (hy : bt_ r a b y) : x = y := by
  rcases hx with ⟨x0, hx⟩ | ⟨x0, x1, hx⟩
  · rcases hy with ⟨y0, -⟩ | ⟨y0, y1, hy⟩
    · omega
    · exact absurd hy (hx y y0 y1)
  · rcases hy with ⟨-, hy⟩ | ⟨y0, y1, hy⟩
    · exact absurd hx (hy x x0 x1)
    · exact uj_eq hu x0 x1 y0 y1 hx hy
theorem wl_eq {f : Int} {J J' : Int → Int} {q : rw_t} (h3 : q 3 ≤ 16) (hu : uj_ q) : ∀ (n : Nat) (r r' : rw_t), (∀ k : Nat, k ≤ n → J (k : Int) = J' (k : Int)) → wl_ f J q n r → wl_ f J' q n r' → r = r' ∧ eJ_ q r
  | 0, r, r', _, h, h' => by
    have e : r = q := h
    have e' : r' = q := h'
    rw [e, e']
    exact ⟨rfl, rfl, fun _ _ _ => ⟨rfl, rfl⟩⟩
  | n + 1, r, r', hJ, h, h' => by
    obtain ⟨q1, x, h1, b1, e1⟩ := h
    obtain ⟨q2, y, h2, b2, e2⟩ := h'
    obtain ⟨e, eJ⟩ := wl_eq h3 hu n q1 q2 (fun k hk => hJ k (by omega)) h1 h2
    subst e
    have hJ1 := hJ (n + 1) (Nat.le_refl _)
    rw [show ((n + 1 : Nat) : Int) = (n : Int) + 1 by omega] at hJ1
    rw [← hJ n (by omega), ← hJ1] at b2
    have exy := bt_eq (uj_eJ h3 eJ hu) b1 b2
    subst exy
    rw [e1, e2]
    refine ⟨rfl, ?_⟩
    split
    · exact eJ
    · exact rd_eJ eJ
/-- the same way, the same wear -/
theorem walk_same {q : rw_t} (hW : wf_M q) (hU : uj_ q) {u v n : Int} (J0 : Int → Int) (h0 : wkt_ q u v n = 0) : wb_ (sa_ q) u v = xw_ q u 8 v ∧ (fz_ (sa_ q) u v J0).2 = xm_ q (xw_ q u 8 v) (-1) v 8 u ∧ ∀ r1 r2 : rw_t, wl_ (n + tw_ q) (fz_ (sa_ q) u v J0).1 q (fz_ (sa_ q) u v J0).2.toNat r1 → wl_ (n + tw_ q) (wyJ_ q u v) q (xm_ q (xw_ q u 8 v) (-1) v 8 u).toNat r2 → r1 = r2 ∧ eJ_ q r1 := by
  have hj : (0 ≤ u ∧ u < 8) ∧ 0 ≤ v ∧ v < 8 := by
    refine Classical.byContradiction (fun c => ?_)
    unfold wkt_ at h0
    rw [if_pos c] at h0
    exact absurd h0 (by decide)
  have hne : u ≠ v := fun c => by
    unfold wkt_ at h0
    rw [if_neg (fun k => k hj), if_pos (.inl c)] at h0
    exact absurd h0 (by decide)
  have l1 : 1 ≤ xw_ q u 8 v := by
    refine Classical.byContradiction (fun c => ?_)
    unfold wkt_ at h0
    rw [if_neg (fun k => k hj)] at h0
    split at h0
    · exact absurd h0 (by decide)
    · rw [if_pos (by omega)] at h0
      exact absurd h0 (by decide)
  obtain ⟨⟨u0, u1⟩, v0, v1⟩ := hj
  have W := wb_xw hW hU u0 u1 v0 v1 (fun e => hne e.symm) (xw_99 hW u 8 v (fun e => hne e.symm))
  have ef : fz_ (sa_ q) u v J0 = fw_ (sa_ q) u v J0 := by
    unfold fz_
    rw [if_neg (by omega)]
  obtain ⟨P1, P2, P3⟩ := way_fw hW hU u0 u1 v0 v1 hne J0 (by omega)
  rw [ef]
  rw [W] at P2 P3
  refine ⟨W, P2, fun r1 r2 w1 w2 => ?_⟩
  rw [← P2] at w2
  refine wl_eq hW.1.2 hU _ r1 r2 (fun k hk => ?_) w1 w2
  rw [P3 k (by omega)]
  unfold wyJ_
  rw [Int.toNat_natCast]
/-- the faults of a walk, as class and reference count them -/
theorem wq_wkt {q : rw_t} (hW : wf_M q) (hU : uj_ q) (u v n : Int) : wq_ q u v n = if wkt_ q u v n = 3 then 4 else if wkt_ q u v n = 4 then 5 else wkt_ q u v n := by
  have le := wkt_le q u v n
  by_cases hj : (0 ≤ u ∧ u < 8) ∧ 0 ≤ v ∧ v < 8
  · by_cases hne : u = v
    · have e1 : wkt_ q u v n = 2 := by
        unfold wkt_
        rw [if_neg (fun k => k hj), if_pos (.inl hne)]
      have e2 : pf_ u v = 2 := by
        unfold pf_
        rw [if_neg (fun k => k hj), if_pos hne]
      unfold wq_
      rw [e1, e2]
      rfl
    · have e2 : pf_ u v = 0 := by
        unfold pf_
        rw [if_neg (fun k => k hj), if_neg hne]
      obtain ⟨⟨u0, u1⟩, v0, v1⟩ := id hj
      have W := wb_xw hW hU u0 u1 v0 v1 (fun e => hne e.symm) (xw_99 hW u 8 v (fun e => hne e.symm))
      have lw := (xw_lm hW u 8) v v0 v1
      have ew : wq_ q u v n = if n < 1 ∨ 99 < n then 2 else if xw_ q u 8 v = 0 then 4 else if xw_ q u 8 v < n + tw_ q then 5 else 0 := by
        unfold wq_
        rw [e2, W, if_neg (show ¬ (0 : Int) ≠ 0 by decide)]
      have ek : wkt_ q u v n = if u = v ∨ n < 1 ∨ 99 < n then 2 else if xw_ q u 8 v ≤ 0 then 3 else if xw_ q u 8 v < n + tw_ q then 4 else 0 := by
        unfold wkt_
        rw [if_neg (fun k => k hj)]
      rw [ew]
      by_cases c1 : n < 1 ∨ 99 < n
      · rw [if_pos (show u = v ∨ n < 1 ∨ 99 < n from .inr c1)] at ek
        rw [ek, if_pos c1]
        rfl
      · rw [if_neg (show ¬ (u = v ∨ n < 1 ∨ 99 < n) from fun k => k.elim hne c1)] at ek
        rw [if_neg c1]
        by_cases c2 : xw_ q u 8 v = 0
        · rw [if_pos (show xw_ q u 8 v ≤ 0 by omega)] at ek
          rw [ek, if_pos c2]
          rfl
        · rw [if_neg (show ¬ xw_ q u 8 v ≤ 0 by omega)] at ek
          rw [if_neg c2]
          by_cases c3 : xw_ q u 8 v < n + tw_ q
          · rw [if_pos c3] at ek
            rw [ek, if_pos c3]
            rfl
          · rw [if_neg c3] at ek
            rw [ek, if_neg c3]
            rfl
  · have e1 : wkt_ q u v n = 1 := by
      unfold wkt_
      rw [if_pos hj]
    have e2 : pf_ u v = 1 := by
      unfold pf_
      rw [if_pos hj]
    unfold wq_
    rw [e1, e2]
    rfl
