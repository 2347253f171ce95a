/-! the reference's calls over a row without members and vows -/
section REF
variable {g : bc_C} {d : Nat} {σ : bc_M} {q b : rw_t} {h : List rw_t} {Rr : Option bc_A → bc_M → Prop} {X : Nat → bc_M → Prop}
theorem m_addMember {a b s : Int} (hN : nw_ σ 219 q) (hH : mh_ σ h) (hW : wf_M q) (z3 : q 3 = 0) (ha : bc_in a) (hb : bc_in b) (hs : bc_in s) (f : ∀ σ', lpo_ (adt_ a b s) σ σ' → Rr (some (bc_I 0)) σ') : bc_Sem g (d + 8) mX11_addMember [bc_R 218, bc_I a, bc_I b, bc_I s] σ Rr X := by
  refine e_X11_addMember rfl (fun K hK => ?_)
  refine hK.1 [] 60 _ _ _ _ _ ?_
  refine m_begins (fun σ1 f1 => ?_)
  refine m_adds (nw_fr hN f1 (by decide)) hW z3 ha hb hs (fun σ2 B2 => ?_)
  refine m_turn f1 hH B2 (adt_in a b s) (fun σ3 l => ?_)
  exact rt_ (f σ3 l) (by split <;> rfl)
def wat_ (a b n : Int) : Int := if ¬ ((0 ≤ a ∧ a < 8) ∧ 0 ≤ b ∧ b < 8) then 1 else if a = b ∨ n < 1 ∨ 99 < n then 2 else 3
theorem wat_in (a b s : Int) : 1 ≤ wat_ a b s ∧ wat_ a b s ≤ 4 := by
  unfold wat_
  split
  · omega
  · split <;> omega
theorem m_walks {a b n : Int} (hN : nw_ σ 219 q) (z3 : q 3 = 0) (htw : 0 ≤ tw_ q ∧ tw_ q ≤ 80) (ha : bc_in a) (hb : bc_in b) (hn : bc_in n) (f : ∀ σ', bo_ (wat_ a b n) σ σ' → Rr (some (bc_I 0)) σ') : bc_Sem g (d + 4) mX11_walks [bc_R 218, bc_I a, bc_I b, bc_I n] σ Rr X := by
  refine e_X11_walks rfl (fun K hK => ?_)
  -- the last question, in any state whose found alone has changed
  have T : ∀ (x y w u : Int) (σ1 : bc_M), fr_ (fun k => k = 223) σ σ1 → (y = if (0 ≤ a ∧ a < 8) ∧ 0 ≤ b ∧ b < 8 then 1 else 0) → (x = if ((0 ≤ a ∧ a < 8) ∧ 0 ≤ b ∧ b < 8) ∧ a ≠ b ∧ 1 ≤ n ∧ n ≤ 99 then 1 else 0) → w = 0 → bc_in u → K 68 [(0, bc_R 218), (1, bc_I a), (2, bc_I b), (3, bc_I n), (4, bc_I y), (5, bc_I x), (6, bc_I w), (7, bc_I u)] [] σ1 0 := by
    intro x y w u σ1 F hy hx hw hu
    have lx : 0 ≤ x ∧ x ≤ 1 := by rw [hx]; split <;> omega
    have ly : 0 ≤ y ∧ y ≤ 1 := by rw [hy]; split <;> omega
    have ht : ∀ v : Int, ho_ y x 0 v = wat_ a b n := by
      intro v
      rw [hx, hy]
      unfold ho_ wat_
      (repeat' split) <;> first | rfl | omega
    have w1 := wat_in a b n
    have T2 : ∀ v : Int, 0 ≤ v ∧ v ≤ 1 → K 95 [(0, bc_R 218), (1, bc_I a), (2, bc_I b), (3, bc_I n), (4, bc_I y), (5, bc_I x), (6, bc_I w), (7, bc_I u)] [bc_I v, bc_I 0, bc_I x, bc_I y, bc_R 218] σ1 0 := by
      intro v lv
      refine hK.1 [] 60 _ _ _ _ _ ?_
      refine t_X11_holds ly lx (by decide) lv ?_
      rw [ht v]
      have B0 : bo_ (wat_ a b n) σ (bc_wr σ1 218 ((14 : Nat) : Int) (wat_ a b n)) := ⟨by simp [bc_wr], fr_trans (fr_mono F (fun k hk => by omega)) (fr_wr (.inl rfl)), by
        have : (bc_wr σ1 218 ((14 : Nat) : Int) (wat_ a b n)).1 218 ((5 : Nat) : Int) = σ1.1 218 ((5 : Nat) : Int) := by simp [bc_wr]
        rw [this, F.1 218 (by decide)]⟩
      refine bc_ob_i (by split <;> omega) ?_
      refine bc_br_i (fun _ => ?_) (fun c => absurd (by rw [if_neg (by omega)]) c)
      exact f _ B0
    refine hK.1 [95] 60 _ _ _ _ _ ?_
    refine bc_ob_i (by omega) ?_
    refine bc_br_i (fun c => absurd c (by omega)) (fun _ => ?_)
    refine bc_ob_i ⟨by omega, hu⟩ ?_
    refine bc_br_i (fun _ => ?_) (fun _ => ?_)
    · exact T2 0 (by decide)
    · exact T2 1 (by decide)
  have T1 : ∀ (x y : Int), (y = if (0 ≤ a ∧ a < 8) ∧ 0 ≤ b ∧ b < 8 then 1 else 0) → (x = if ((0 ≤ a ∧ a < 8) ∧ 0 ≤ b ∧ b < 8) ∧ a ≠ b ∧ 1 ≤ n ∧ n ≤ 99 then 1 else 0) → K 32 [(0, bc_R 218), (1, bc_I a), (2, bc_I b), (3, bc_I n), (4, bc_I y)] [bc_I x] σ 0 := by
    intro x y hy hx
    have lx : 0 ≤ x ∧ x ≤ 1 := by rw [hx]; split <;> omega
    refine hK.1 [68] 60 _ _ _ _ _ ?_
    refine bc_ob_i (by omega) ?_
    refine bc_br_i (fun c => ?_) (fun c => ?_)
    · refine bc_ob_i (by omega) ?_
      refine bc_br_i (fun _ => ?_) (fun c2 => absurd c c2)
      exact T x y 0 0 σ (fr_refl _) hy hx rfl (by decide)
    · have p : ((0 ≤ a ∧ a < 8) ∧ 0 ≤ b ∧ b < 8) ∧ a ≠ b ∧ 1 ≤ n ∧ n ≤ 99 := by
        refine Classical.byContradiction (fun np => ?_)
        rw [if_neg np] at hx
        exact c hx
      refine m_widest hN z3 p.1.1 p.1.2 p.2.1 (fun σ1 F => ?_)
      refine bc_ob_i (by omega) ?_
      refine bc_br_i (fun c2 => absurd c2 c) (fun _ => ?_)
      refine t_X11_weighs (nw_fr hN F (by decide)) ?_
      exact T x y 0 _ σ1 F hy hx rfl (by constructor <;> omega)
  refine hK.1 [32] 60 _ _ _ _ _ ?_
  refine t_X11_areJoints ha hb ?_
  refine bc_ob_i (by split <;> omega) ?_
  refine bc_br_i (fun c => ?_) (fun c => ?_)
  · exact T1 0 _ rfl (if_neg (fun q => by rw [if_pos q.1] at c; exact absurd c (by decide))).symm
  · have c1 : (0 ≤ a ∧ a < 8) ∧ 0 ≤ b ∧ b < 8 := by
      refine Classical.byContradiction (fun np => ?_)
      rw [if_neg np] at c
      exact c rfl
    refine bc_ob_i ⟨ha, hb⟩ ?_
    refine bc_br_i (fun e => ?_) (fun e => ?_)
    · exact T1 0 _ rfl (if_neg (fun q => q.2.1 e)).symm
    · refine t_X11_isIn hn (by decide) (by decide) ?_
      refine bc_ob_i (by split <;> omega) ?_
      refine bc_br_i (fun c2 => ?_) (fun c2 => ?_)
      · exact T1 0 _ rfl (if_neg (fun q => by rw [if_pos q.2.2] at c2; exact absurd c2 (by decide))).symm
      · exact T1 1 _ rfl (if_pos ⟨c1, e, by split at c2 <;> omega⟩).symm
theorem m_procession {a b n : Int} (hN : nw_ σ 219 q) (hH : mh_ σ h) (z3 : q 3 = 0) (htw : 0 ≤ tw_ q ∧ tw_ q ≤ 80) (ha : bc_in a) (hb : bc_in b) (hn : bc_in n) (f : ∀ σ', lpo_ (wat_ a b n) σ σ' → Rr (some (bc_I 0)) σ') : bc_Sem g (d + 5) mX11_procession [bc_R 218, bc_I a, bc_I b, bc_I n] σ Rr X := by
  have w := wat_in a b n
  refine e_X11_procession rfl (fun K hK => ?_)
  refine hK.1 [] 60 _ _ _ _ _ ?_
  refine m_begins (fun σ1 f1 => ?_)
  refine m_walks (nw_fr hN f1 (by decide)) z3 htw ha hb hn (fun σ2 B2 => ?_)
  refine m_turn f1 hH B2 (by omega) (fun σ3 l => ?_)
  exact rt_ (f σ3 l) (by split <;> rfl)
theorem m_costOf {m : Int} (hN : nw_ σ 219 q) (hW : wf_M q) (z3 : q 3 = 0) (hm : bc_in m) (f : ∀ x, 0 ≤ x → x ≤ 90 → Rr (some (bc_I x)) σ) : bc_Sem g (d + 5) mX11_costOf [bc_R 218, bc_I m] σ Rr X := by
  obtain ⟨g0, g1, g2, g3, g4, g5⟩ := hW.2 0 (by decide) (by decide)
  have p2 : pl_ q m 2 = 18 := by unfold pl_; rw [if_neg (by omega)]; rfl
  have p3 : pl_ q m 3 = 19 := by unfold pl_; rw [if_neg (by omega)]; rfl
  have k2 : q (18 + 6 * 0) = q 18 := rfl
  have k3 : q (19 + 6 * 0) = q 19 := rfl
  rw [k2] at g2
  rw [k3] at g3
  have hp := mul_le (a := (q 18 + 9) / 10) (A := 10) (by omega) (by omega) g3.1 g3.2
  refine e_X11_costOf rfl (fun K hK => ?_)
  refine hK.1 [] 60 _ _ _ _ _ ?_
  refine t_X11_of hN (by omega) hm (by decide) ?_
  rw [p2]
  refine bc_ob_i ⟨⟨by omega, by omega⟩, by decide, by decide⟩ ?_
  refine t_X11_of hN (by omega) hm (by decide) ?_
  rw [p3]
  exact f _ hp.1 (by omega)
theorem m_repairs {m : Int} (hN : nw_ σ 219 q) (hW : wf_M q) (z3 : q 3 = 0) (z1 : bc_in (q 1)) (hm : bc_in m) (f : ∀ σ', bo_ 1 σ σ' → Rr (some (bc_I 0)) σ') : bc_Sem g (d + 6) mX11_repairs [bc_R 218, bc_I m] σ Rr X := by
  obtain ⟨g0, g1, g2, g3, g4, g5⟩ := hW.2 0 (by decide) (by decide)
  have p5 : pl_ q m 5 = 21 := by unfold pl_; rw [if_neg (by omega)]; rfl
  have k5 : q (21 + 6 * 0) = q 21 := rfl
  rw [k5] at g5
  have e1 := hN 1 (by decide) (by decide)
  refine e_X11_repairs rfl (fun K hK => ?_)
  have T : ∀ (x y z : Int), 0 ≤ y ∧ y ≤ 1 → 0 ≤ z ∧ z ≤ 1 → K 41 [(0, bc_R 218), (1, bc_I m), (2, bc_I x)] [bc_I z, bc_I y, bc_I 0, bc_R 218] σ 0 := by
    intro x y z ly lz
    refine hK.1 [] 60 _ _ _ _ _ ?_
    refine t_X11_holds (by decide) ly lz (by decide) ?_
    have e : ho_ 0 y z 1 = 1 := by unfold ho_; rw [if_pos rfl]
    rw [e]
    refine bc_ob_i (by decide) ?_
    refine bc_br_i (fun _ => ?_) (fun q => absurd (by decide) q)
    exact f _ (bo_wr rfl)
  have T1 : ∀ (x y : Int), 0 ≤ x ∧ x ≤ 90 → 0 ≤ y ∧ y ≤ 1 → K 26 [(0, bc_R 218), (1, bc_I m), (2, bc_I x)] [bc_I y, bc_I 0, bc_R 218] σ 0 := by
    intro x y lx ly
    refine hK.1 [41] 60 _ _ _ _ _ ?_
    refine bc_ob_i (by decide) ?_
    refine bc_ob_i ⟨by constructor <;> omega, by rw [e1]; exact z1⟩ ?_
    refine bc_br_i (fun _ => ?_) (fun _ => ?_)
    · exact T x y 0 ly (by decide)
    · exact T x y 1 ly (by decide)
  refine hK.1 [26] 60 _ _ _ _ _ ?_
  refine m_costOf hN hW z3 hm (fun x x0 x1 => ?_)
  refine t_X11_isMember hN (by omega) hm ?_
  rw [if_neg (by omega)]
  refine t_X11_of hN (by omega) hm (by decide) ?_
  rw [p5]
  refine bc_ob_i (by omega) ?_
  refine bc_br_i (fun _ => ?_) (fun _ => ?_)
  · exact T1 x 1 ⟨x0, x1⟩ (by decide)
  · exact T1 x 0 ⟨x0, x1⟩ (by decide)
theorem m_repair {m : Int} (hN : nw_ σ 219 q) (hH : mh_ σ h) (hW : wf_M q) (z3 : q 3 = 0) (z1 : bc_in (q 1)) (hm : bc_in m) (f : ∀ σ', lpo_ 1 σ σ' → Rr (some (bc_I 0)) σ') : bc_Sem g (d + 7) mX11_repair [bc_R 218, bc_I m] σ Rr X := by
  refine e_X11_repair rfl (fun K hK => ?_)
  refine hK.1 [] 60 _ _ _ _ _ ?_
  refine m_begins (fun σ1 f1 => ?_)
  refine m_repairs (nw_fr hN f1 (by decide)) hW z3 z1 hm (fun σ2 B2 => ?_)
  refine m_turn f1 hH B2 (by decide) (fun σ3 l => ?_)
  exact rt_ (f σ3 l) (by split <;> rfl)
/-- what a put throws: the row's places free, its kind as the row says -/
def put_ (q : rw_t) (p c w : Int) : Int := if ¬ (0 ≤ p ∧ p ≤ 3) then 1 else if ¬ ((c = 99 ∨ c = 108) ∧ 1 ≤ w ∧ w ≤ 20) then 2 else if q 11 ≠ c then 3 else if q (12 + p) ≠ 0 then 4 else 0
theorem put_in (q : rw_t) (p c w : Int) : 0 ≤ put_ q p c w ∧ put_ q p c w ≤ 4 := by
  unfold put_
  repeat' split
  all_goals omega
theorem m_puts {p c w : Int} (hN : nw_ σ 219 q) (hW : wf_N q) (hp : bc_in p) (hc : 0 ≤ c ∧ c ≤ 65535) (hw : bc_in w) (f1 : put_ q p c w ≠ 0 → ∀ σ', bo_ (put_ q p c w) σ σ' → Rr (some (bc_I 0)) σ') (f0 : put_ q p c w = 0 → ∀ σ', bo_ 0 σ σ' → nw_ σ' 219 (rp_ q p w) → Rr (some (bc_I (tw_ (rp_ q p w)))) σ') : bc_Sem g (d + 3) mX11_puts [bc_R 218, bc_I p, bc_I c, bc_I w] σ Rr X := by
  obtain ⟨w1, w2, w3, w4, w5⟩ := hW
  have e11 := hN 11 (by decide) (by decide)
  refine e_X11_puts rfl (fun K hK => ?_)
  have T : ∀ (x y k n : Int), (x = if 0 ≤ p ∧ p ≤ 3 then 1 else 0) → (y = if (0 ≤ p ∧ p ≤ 3) ∧ q (12 + p) = 0 then 1 else 0) → (k = if (c = 99 ∨ c = 108) ∧ 1 ≤ w ∧ w ≤ 20 then 1 else 0) → (n = if q 11 = c then 1 else 0) → K 73 [(0, bc_R 218), (1, bc_I p), (2, bc_I c), (3, bc_I w), (4, bc_I x), (5, bc_I y)] [bc_I n, bc_I k, bc_I x, bc_R 218] σ 0 := by
    intro x y k n hx hy hk hn
    have lx : 0 ≤ x ∧ x ≤ 1 := by rw [hx]; split <;> omega
    have ly : 0 ≤ y ∧ y ≤ 1 := by rw [hy]; split <;> omega
    have lk : 0 ≤ k ∧ k ≤ 1 := by rw [hk]; split <;> omega
    have ln : 0 ≤ n ∧ n ≤ 1 := by rw [hn]; split <;> omega
    have ht : ho_ x k n y = put_ q p c w := by
      rw [hx, hk, hn, hy]
      unfold ho_ put_
      (repeat' split) <;> first | rfl | omega
    refine hK.1 [] 80 _ _ _ _ _ ?_
    refine t_X11_holds lx lk ln ly ?_
    rw [ht]
    have B0 : bo_ (put_ q p c w) σ (bc_wr σ 218 ((14 : Nat) : Int) (put_ q p c w)) := bo_wr rfl
    have n0 : nw_ (bc_wr σ 218 ((14 : Nat) : Int) (put_ q p c w)) 219 q := nw_fr hN (fr_wr (P := fun k => k = 218) rfl) (by decide)
    generalize bc_wr σ 218 ((14 : Nat) : Int) (put_ q p c w) = s0 at B0 n0 ⊢
    by_cases e : put_ q p c w = 0
    · rw [if_pos e]
      have pp : 0 ≤ p ∧ p ≤ 3 := by
        refine Classical.byContradiction (fun np => ?_)
        unfold put_ at e
        rw [if_pos np] at e
        exact absurd e (by decide)
      refine bc_ob_i (by decide) ?_
      refine bc_br_i (fun q => absurd q (by decide)) (fun _ => ?_)
      refine bc_ob_i (by omega) ?_
      have n1 : nw_ (bc_wr s0 219 (12 + p) w) 219 (rp_ q p w) := nw_wr n0
      refine t_X11_weighs n1 ?_
      rw [e] at B0
      exact f0 e _ (bo_w9 B0) n1
    · rw [if_neg e]
      refine bc_ob_i (by decide) ?_
      refine bc_br_i (fun _ => ?_) (fun q => absurd rfl q)
      exact f1 e _ B0
  have T1 : ∀ (x y k : Int), (x = if 0 ≤ p ∧ p ≤ 3 then 1 else 0) → (y = if (0 ≤ p ∧ p ≤ 3) ∧ q (12 + p) = 0 then 1 else 0) → (k = if (c = 99 ∨ c = 108) ∧ 1 ≤ w ∧ w ≤ 20 then 1 else 0) → K 57 [(0, bc_R 218), (1, bc_I p), (2, bc_I c), (3, bc_I w), (4, bc_I x), (5, bc_I y)] [bc_I k, bc_I x, bc_R 218] σ 0 := by
    intro x y k hx hy hk
    refine hK.1 [73] 60 _ _ _ _ _ ?_
    refine bc_ob_i (by decide) ?_
    refine bc_ob_i ⟨by rw [e11]; constructor <;> omega, by constructor <;> omega⟩ ?_
    rw [e11]
    refine bc_br_i (fun c3 => ?_) (fun c3 => ?_)
    · exact T x y k 1 hx hy hk (if_pos c3).symm
    · exact T x y k 0 hx hy hk (if_neg c3).symm
  have T2 : ∀ (x y : Int), (x = if 0 ≤ p ∧ p ≤ 3 then 1 else 0) → (y = if (0 ≤ p ∧ p ≤ 3) ∧ q (12 + p) = 0 then 1 else 0) → K 30 [(0, bc_R 218), (1, bc_I p), (2, bc_I c), (3, bc_I w), (4, bc_I x)] [bc_I y] σ 0 := by
    intro x y hx hy
    refine hK.1 [57] 60 _ _ _ _ _ ?_
    refine t_X11_isKind (by constructor <;> omega) ?_
    refine bc_ob_i (by split <;> omega) ?_
    refine bc_br_i (fun c2 => ?_) (fun c2 => ?_)
    · exact T1 x y 0 hx hy (if_neg (fun q => by rw [if_pos q.1] at c2; exact absurd c2 (by decide))).symm
    · have k1 : c = 99 ∨ c = 108 := by
        refine Classical.byContradiction (fun np => ?_)
        rw [if_neg np] at c2
        exact c2 rfl
      refine t_X11_isIn hw (by decide) (by decide) ?_
      refine bc_ob_i (by split <;> omega) ?_
      refine bc_br_i (fun c3 => ?_) (fun c3 => ?_)
      · exact T1 x y 0 hx hy (if_neg (fun q => by rw [if_pos q.2] at c3; exact absurd c3 (by decide))).symm
      · exact T1 x y 1 hx hy (if_pos ⟨k1, by split at c3 <;> omega⟩).symm
  refine hK.1 [30] 60 _ _ _ _ _ ?_
  refine t_X11_isIn hp (by decide) (by decide) ?_
  refine bc_ob_i (by split <;> omega) ?_
  refine bc_br_i (fun c1 => ?_) (fun c1 => ?_)
  · exact T2 _ 0 rfl (if_neg (fun q => by rw [if_pos q.1] at c1; exact absurd c1 (by decide))).symm
  · have pp : 0 ≤ p ∧ p ≤ 3 := by
      refine Classical.byContradiction (fun np => ?_)
      rw [if_neg np] at c1
      exact c1 rfl
    have ep := hN (12 + p) (by omega) (by omega)
    have lp : 0 ≤ q (12 + p) ∧ q (12 + p) ≤ 20 := by
      have hh : p = 0 ∨ p = 1 ∨ p = 2 ∨ p = 3 := by omega
      rcases hh with rfl | rfl | rfl | rfl <;> assumption
    refine bc_ob_i (by omega) ?_
    refine bc_ob_i (by rw [ep]; constructor <;> omega) ?_
    refine bc_br_i (fun c2 => ?_) (fun c2 => ?_)
    · exact T2 _ 1 rfl (if_pos ⟨pp, by rw [← ep]; exact c2⟩).symm
    · exact T2 _ 0 rfl (if_neg (fun q => c2 (by rw [ep]; exact q.2))).symm
theorem m_put {p c w : Int} (hN : nw_ σ 219 q) (hH : mh_ σ h) (hW : wf_N q) (hp : bc_in p) (hc : 0 ≤ c ∧ c ≤ 65535) (hw : bc_in w) (f : ∀ σ', lpo_ (put_ q p c w) σ σ' → Rr (some (bc_I (if put_ q p c w = 0 then tw_ (rp_ q p w) else 0))) σ') : bc_Sem g (d + 4) mX11_put [bc_R 218, bc_I p, bc_I c, bc_I w] σ Rr X := by
  refine e_X11_put rfl (fun K hK => ?_)
  refine hK.1 [] 60 _ _ _ _ _ ?_
  refine m_begins (fun σ1 f1 => ?_)
  refine m_puts (nw_fr hN f1 (by decide)) hW hp hc hw (fun e σ2 B2 => ?_) (fun e σ2 B2 _ => ?_)
  · refine m_turn f1 hH B2 (put_in q p c w) (fun σ3 l => ?_)
    exact rt_ (f σ3 l) (by rw [if_neg e, if_neg e])
  · refine m_turn f1 hH B2 (by decide) (fun σ3 l => ?_)
    rw [e] at f
    exact rt_ (f σ3 l) rfl
end REF
