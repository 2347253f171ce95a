theorem fa_k {P : Nat → Prop} {B : Int} {σ σ' : bc_M} {v : cs_t} {k : Int → Int} {A : gr_t} (h : fa_ B σ v) (hf : fr_ P σ σ') (hp : ∀ k, P k → xs_ k ∨ (198 ≤ k ∧ k ≤ 199)) (hk : ak_ σ' k ∧ kk_ k) (hA : s3_ σ' A ∧ g3_ A) : fa_ B σ' (u_k v k A) := by
  have no : ∀ k, ¬ (xs_ k ∨ (198 ≤ k ∧ k ≤ 199)) → ¬ P k := fun k hk q => hk (hp k q)
  obtain ⟨⟨h1, h2, h3, h4⟩, ⟨h5, h5b⟩, ⟨h6, h6b⟩, h7, ⟨h8, h8b⟩, ⟨h9, h9b⟩, h10, ⟨h11, h11b⟩, ⟨h12, h12b⟩, h13, h13b⟩ := h
  refine ⟨⟨st_A_fr h1 hf (fun k a b => no k (by omega)), st_A_fr h2 hf (fun k a b => no k (by omega)), st_A_fr h3 hf (fun k a b => no k (by omega)), st_H_fr h4 hf (fun k a b => no k (by omega))⟩, ⟨ar_fr h5 hf (no _ (by decide)), h5b⟩, ⟨?_, h6b⟩, tx_fr h7 hf ⟨no _ (by decide), no _ (by decide)⟩, hk, hA, tx_fr h10 hf ⟨no _ (by decide), no _ (by decide)⟩, ⟨?_, h11b⟩, ⟨?_, h12b⟩, ?_, h13b⟩
  · rw [hf.1 157 (no _ (by decide))]; exact h6
  · rw [hf.1 0 (no _ (by decide))]; exact h11
  · rw [hf.1 0 (no _ (by decide))]; exact h12
  · rw [hf.1 0 (no _ (by decide))]; exact h13
/-- the object after n commands without a fault -/
def rr_ (z : pz_t) (v : cs_t) : Nat → cs_t → Prop
  | 0, w => w = u_bs v (c_r v)
  | n + 1, w => ∃ q, rr_ z v n q ∧ cf_ (c_r q) (z.2.2.2.1 n) (z.2.2.2.2 n 0) (z.2.2.2.2 n 1) (z.2.2.2.2 n 2) 0 ∧ ck_ q (z.2.2.2.1 n) (z.2.2.2.2 n 0) (z.2.2.2.2 n 1) (z.2.2.2.2 n 2) w
section RUN
variable {g : bc_C} {d : Nat} {σ : bc_M} {B : Int} {v : cs_t} {Rr : Option bc_A → bc_M → Prop} {X : Nat → bc_M → Prop} {z : pz_t}
theorem t_X10_runCommands (hF : fa_ B σ v) (hB : B ≤ 999000) (hS : sz_ σ z)
    (h1 : ∀ (i : Nat) (q : cs_t) (f : Int) (σ' : bc_M), (i : Int) < z.2.2.1 → rr_ z v i q → cf_ (c_r q) (z.2.2.2.1 i) (z.2.2.2.2 i 0) (z.2.2.2.2 i 1) (z.2.2.2.2 i 2) f → f ≠ 0 → fa_ (B + 480) σ' (u_r q (c_bs q)) → fr_ ob_ σ σ' → Rr (some (bc_I i)) σ')
    (h0 : ∀ (q : cs_t) (σ' : bc_M), rr_ z v z.2.2.1.toNat q → fa_ (B + 480) σ' (u_h q (hr_ (c_h q) (c_bs q)) ((c_n q + 1) % 8)) → fr_ ob_ σ σ' → Rr (some (bc_I (-1))) σ') : bc_Sem g (d + 6) mX10_runCommands [bc_R 0] σ Rr X := by
  have hc := hS.1
  refine e_X10_runCommands rfl (fun K hK => ?_)
  have L : ∀ i : Int, ∀ (q : cs_t) (σ' : bc_M), 0 ≤ i → i ≤ z.2.2.1 → rr_ z v i.toNat q → fa_ (B + 30 * i) σ' q → sz_ σ' z → fr_ ob_ σ σ' → K 13 [(0, bc_R 0), (1, bc_I i)] [] σ' 0 := by
    refine up_ind z.2.2.1 (fun i hi q σ' i0 i1 hr F1 S1 f1 => ?_) (fun i hi ih q σ' i0 i1 hr F1 S1 f1 => ?_)
    · have e : i = z.2.2.1 := by omega
      have hc1 := S1.1
      rw [e] at hr F1
      have F1' := fa_mono F1 (show B + 30 * z.2.2.1 ≤ B + 480 by omega)
      refine hK.1 [13] 60 _ _ _ _ _ ?_
      refine bc_ob_i (by omega) ?_
      refine bc_br_i (fun c => by omega) (fun _ => ?_)
      refine t_X1_remember (.inr rfl) F1'.1.2.2.2 F1'.1.2.2.1 (fun σ2 H2 f2 => ?_)
      exact h0 q σ2 hr (fa_h F1' f2 (by omega) H2) (fr_trans f1 (fr_mono f2 (by omega)))
    · have hc1 := S1.1
      have en : ((i.toNat : Nat) : Int) = i := by omega
      have ei : (i + 1).toNat = i.toNat + 1 := by omega
      refine hK.1 [13] 60 _ _ _ _ _ ?_
      refine bc_ob_i (by omega) ?_
      refine bc_br_i (fun _ => ?_) (fun c => by omega)
      refine t_X10_commandFault F1 (by omega) S1 i0 hi (fun σ2 f hf lf F2 f2 => ?_)
      refine bc_ob_i (by constructor <;> omega) ?_
      refine bc_br_i (fun c => ?_) (fun c => ?_)
      · rw [c] at hf
        have S2 := sz_fr S1 f2 (by decide)
        refine t_X10_carryOut F2 (by omega) S2 i0 hi hf (fun σ3 w hw F3 f3 => ?_)
        refine ih w σ3 (by omega) (by omega) ?_ ?_ (sz_fr S2 f3 (by decide)) (fr_trans f1 (fr_trans f2 f3))
        · rw [ei]
          refine ⟨q, hr, ?_, ?_⟩
          · rw [en]; exact hf
          · rw [en]; exact hw
        · rw [show B + 30 * (i + 1) = B + 30 * i + 30 by omega]
          exact F3
      · have F2' := fa_mono F2 (show B + 30 * i ≤ B + 480 by omega)
        refine t_X6_copyFrom (a := 1) (b := 29) (by unfold cp_; decide) F2'.1.2.2.1 (fun σ3 A3 f3 => ?_)
        have q3 := h1 i.toNat q f σ3 (by omega) hr (by rw [en]; exact hf) c (fa_r F2' (Int.le_refl _) f3 (by omega) A3) (fr_trans f1 (fr_trans f2 (fr_mono f3 (by omega))))
        rw [en] at q3
        exact q3
  obtain ⟨⟨k1, k2, k3, k4⟩, -, -, -, -, -, -, ⟨e1, e1b⟩, ⟨e2, e2b⟩, e3, e3b⟩ := id hF
  refine hK.1 [13] 60 _ _ _ _ _ ?_
  refine t_X6_copyFrom (a := 29) (b := 1) (by unfold cp_; decide) k1 (fun σ1 A1 f1 => ?_)
  have z0 : σ1.1 0 = σ.1 0 := f1.1 0 (by omega)
  have F1 : fa_ B σ1 (u_bs v (c_r v)) := fa_c (s := c_sn v) (b := c_r v) (hs := c_hs v) (le := c_le v) (lf := c_lf v) hF f1 (by omega) (st_A_fr k2 f1 (by omega)) A1 ⟨by rw [z0]; exact e1, e1b⟩ ⟨by rw [z0]; exact e2, e2b⟩ ⟨by rw [z0]; exact e3, e3b⟩
  refine L 0 (u_bs v (c_r v)) σ1 (Int.le_refl _) hc.2.1 rfl ?_ (sz_fr hS f1 (by decide)) (fr_mono f1 (by omega))
  rw [show B + 30 * 0 = B by omega]
  exact F1
/-- what the parser makes of the typed text -/
abbrev zp_ (v : cs_t) : pz_t := qp_ (c_l v) 16 0 0 (c_k v) (c_A v)
abbrev vp_ (v : cs_t) : cs_t := u_l (u_k v (zp_ v).2.2.2.1 (zp_ v).2.2.2.2) []
theorem t_X10_runScript (hF : fa_ B σ v) (hB : B ≤ 999000)
    (h1 : (zp_ v).1 = 0 → ∀ σ', fa_ B σ' (u_le (vp_ v) (zp_ v).2.1) → fr_ ov_ σ σ' → X 1 σ')
    (h2 : (zp_ v).1 = 1 → ∀ (i : Nat) (q : cs_t) (f : Int) (σ' : bc_M), (i : Int) < (zp_ v).2.2.1 → rr_ (zp_ v) (vp_ v) i q → cf_ (c_r q) ((zp_ v).2.2.2.1 i) ((zp_ v).2.2.2.2 i 0) ((zp_ v).2.2.2.2 i 1) ((zp_ v).2.2.2.2 i 2) f → f ≠ 0 → fa_ (B + 480) σ' (u_lf (u_r q (c_bs q)) i) → fr_ ov_ σ σ' → X 2 σ')
    (h0 : (zp_ v).1 = 1 → ∀ (q : cs_t) (σ' : bc_M), rr_ (zp_ v) (vp_ v) (zp_ v).2.2.1.toNat q → fa_ (B + 480) σ' (u_h q (hr_ (c_h q) (c_bs q)) ((c_n q + 1) % 8)) → fr_ ov_ σ σ' → Rr (some (bc_I (zp_ v).2.2.1)) σ') : bc_Sem g (d + 7) mX10_runScript [bc_R 0] σ Rr X := by
  obtain ⟨-, -, -, hT, ⟨hk, kk⟩, ⟨hA, gA⟩, -⟩ := id hF
  refine e_X10_runScript rfl (fun K hK => ?_)
  refine hK.1 [] 60 _ _ _ _ _ ?_
  refine t_X5_parse hT hk kk hA gA (fun σ1 S1 f1 l1 => ?_)
  obtain ⟨sc1, sz1⟩ := id S1
  have F1 : fa_ B σ1 (u_k v (zp_ v).2.2.2.1 (zp_ v).2.2.2.2) := fa_k hF f1 (by omega) sz1.2.1 sz1.2.2
  have p1 : σ1.1 195 ((4 : Nat) : Int) = (zp_ v).2.1 := sc1.2.1
  have p2 : 0 ≤ (zp_ v).2.1 ∧ (zp_ v).2.1 ≤ (c_l v).length := sc1.2.2
  have l1 : 0 ≤ (zp_ v).1 ∧ (zp_ v).1 ≤ 1 := l1
  have p3 := sc1.1.2.1
  refine t_X7_clear (.inl rfl) sc1.1 (fun σ2 t2 f2 => ?_)
  have F2 : fa_ B σ2 (vp_ v) := fa_l F1 f2 (by omega) t2
  have S2 : sz_ σ2 (zp_ v) := sz_fr sz1 f2 (by decide)
  have f12 : fr_ ov_ σ σ2 := fr_trans (fr_mono f1 (by omega)) (fr_mono f2 (by omega))
  have p4 : σ2.1 195 ((4 : Nat) : Int) = (zp_ v).2.1 := by rw [f2.1 195 (by decide)]; exact p1
  refine bc_ob_i (by omega) ?_
  refine bc_br_i (fun c => ?_) (fun c => ?_)
  · obtain ⟨⟨k1, k2, k3, k4⟩, -, -, -, -, -, -, ⟨e1, e1b⟩, ⟨e2, e2b⟩, e3, e3b⟩ := id F2
    have f3 : fr_ (fun k => k = 0) σ2 (bc_wr σ2 0 ((10 : Nat) : Int) (σ2.1 195 ((4 : Nat) : Int))) := fr_wr rfl
    refine h1 c _ (fa_c (s := c_sn (vp_ v)) (b := c_bs (vp_ v)) (hs := c_hs (vp_ v)) (le := (zp_ v).2.1) (lf := c_lf (vp_ v)) F2 f3 (by omega) (st_A_fr k2 f3 (by omega)) (st_A_fr k3 f3 (by omega)) ⟨?_, e1b⟩ ⟨?_, by omega, by omega⟩ ⟨?_, e3b⟩) (fr_trans f12 (fr_mono f3 (by omega)))
    · have : σ2.1 0 9 = c_hs (vp_ v) := e1
      simp [bc_wr]
      exact this
    · have : σ2.1 195 4 = (zp_ v).2.1 := p4
      simp [bc_wr]
      exact this
    · have : σ2.1 0 11 = c_lf (vp_ v) := e3
      simp [bc_wr]
      exact this
  · have c' : ¬ (zp_ v).1 = 0 := c
    have c1 : (zp_ v).1 = 1 := by omega
    refine t_X10_runCommands F2 hB S2 (fun i q f σ3 hi hr hf hne F3 f3 => ?_) (fun q σ3 hr F3 f3 => ?_)
    · have lc := S2.1.2.2
      refine bc_ob_i (by constructor <;> constructor <;> omega) ?_
      refine bc_br_i (fun c => by omega) (fun _ => ?_)
      obtain ⟨⟨k1, k2, k3, k4⟩, -, -, -, -, -, -, ⟨e1, e1b⟩, ⟨e2, e2b⟩, e3, e3b⟩ := id F3
      have f4 : fr_ (fun k => k = 0) σ3 (bc_wr σ3 0 ((11 : Nat) : Int) i) := fr_wr rfl
      refine h2 c1 i q f _ hi hr hf hne (fa_c (s := c_sn q) (b := c_bs q) (hs := c_hs q) (le := c_le q) (lf := i) F3 f4 (by omega) (st_A_fr k2 f4 (by omega)) (st_A_fr k3 f4 (by omega)) ⟨?_, e1b⟩ ⟨?_, e2b⟩ ⟨?_, by omega, by omega⟩) (fr_trans f12 (fr_trans (fr_mono f3 (by omega)) (fr_mono f4 (by omega))))
      · have : σ3.1 0 9 = c_hs q := e1
        simp [bc_wr]
        exact this
      · have : σ3.1 0 10 = c_le q := e2
        simp [bc_wr]
        exact this
      · simp [bc_wr]
    · have S3 := sz_fr S2 f3 (by decide)
      refine bc_ob_i (by decide) ?_
      refine bc_br_i (fun _ => ?_) (fun c => absurd rfl c)
      exact rt_ (h0 c1 q σ3 hr F3 (fr_trans f12 (fr_mono f3 (by omega)))) S3.1.1
end RUN
