/-! the reference runs a script -/
theorem ari_1 (k : Int) : 1 ≤ ari_ k ∧ ari_ k ≤ 3 := by
  unfold ari_
  (repeat' split) <;> decide
theorem cf_cong {r : rw_t} {k x y z x' y' z' f : Int} (hk : 0 ≤ k ∧ k ≤ 9) (ex : x = x') (ey : 2 ≤ ari_ k → y = y') (ez : 3 ≤ ari_ k → z = z') : cf_ r k x y z f ↔ cf_ r k x' y' z' f := by
  subst ex
  have kk : k = 0 ∨ k = 1 ∨ k = 2 ∨ k = 3 ∨ k = 4 ∨ k = 5 ∨ k = 6 ∨ k = 7 ∨ k = 8 ∨ k = 9 := by omega
  rcases kk with rfl | rfl | rfl | rfl | rfl | rfl | rfl | rfl | rfl | rfl
  · rw [ey (by decide), ez (by decide)]
  · rw [ey (by decide), ez (by decide)]
  · rw [ey (by decide), cf_2, cf_2]
  · rw [cf_3, cf_3]
  · rw [cf_4, cf_4]
  · rw [cf_5, cf_5]
  · rw [cf_6, cf_6]
  · rw [cf_7, cf_7]
  · rw [ey (by decide), ez (by decide)]
  · rw [cf_9, cf_9]
theorem crow_cong {q q' : rw_t} {k x y z x' y' z' : Int} (hk : 0 ≤ k ∧ k ≤ 9) (ex : x = x') (ey : 2 ≤ ari_ k → y = y') (ez : 3 ≤ ari_ k → z = z') (h : crow_ q k x y z q') : crow_ q k x' y' z' q' := by
  subst ex
  have kk : k = 0 ∨ k = 1 ∨ k = 2 ∨ k = 3 ∨ k = 4 ∨ k = 5 ∨ k = 6 ∨ k = 7 ∨ k = 8 ∨ k = 9 := by omega
  rcases kk with rfl | rfl | rfl | rfl | rfl | rfl | rfl | rfl | rfl | rfl
  · rw [← ey (by decide), ← ez (by decide)]; exact h
  · rw [← ey (by decide), ← ez (by decide)]; exact h
  · rw [← ey (by decide)]; simpa [crow_] using h
  · simpa [crow_] using h
  · simpa [crow_] using h
  · simpa [crow_] using h
  · simpa [crow_] using h
  · simpa [crow_] using h
  · rw [← ey (by decide), ← ez (by decide)]; exact h
  · simpa [crow_] using h
theorem qp_kk {l : List Int} (hl : l.length ≤ 60) : ∀ (n : Nat) {c p : Int} {k : Int → Int} {A : gr_t}, 0 ≤ p → p ≤ l.length → g3_ A → kk_ k → kk_ (qp_ l n c p k A).2.2.2.1
  | 0, _, _, _, _, _, _, _, hk => hk
  | n + 1, c, p, k, A, p0, p1, gA, hk => by
    rw [qp_s]
    have lq := qw_le (l := l) (p := p) 10 (b := 0) (Nat.le_refl 10) p0 p1 hl (Int.le_refl 0) (by omega)
    have la := qa_le (l := l) (p := (qw_ l p 10 0).2) (c := c) (k := (qw_ l p 10 0).1) (A := A) (by omega) (by omega) gA
    have ku : (qw_ l p 10 0).1 ≠ -1 → kk_ (up_ k c (qw_ l p 10 0).1) := fun ne j j0 j1 => by
      unfold up_
      split
      · omega
      · exact hk j j0 j1
    split
    · exact hk
    · rename_i ne
      split
      · exact hk
      · split
        · rename_i t
          have hp := (tg_in (l := l) (p := (qa_ l (qw_ l p 10 0).2 c (qw_ l p 10 0).1 A).2.1) (by omega)).2
          exact qp_kk hl n (by omega) (by omega) la.2.1 (ku ne)
        · exact ku ne
/-- the reference's row after n commands -/
def rsx_ (z : pz_t) (q : rw_t) : Nat → rw_t → Prop
  | 0, r => r = q
  | n + 1, r => ∃ r0, rsx_ z q n r0 ∧ cf_ r0 (z.2.2.2.1 n) (z.2.2.2.2 n 0) (z.2.2.2.2 n 1) (z.2.2.2.2 n 2) 0 ∧ crow_ r0 (z.2.2.2.1 n) (z.2.2.2.2 n 0) (z.2.2.2.2 n 1) (z.2.2.2.2 n 2) r
abbrev eyz_ (k : Nat) : Prop := k = 218 ∨ k = 219 ∨ k = 220 ∨ k = 222 ∨ k = 223 ∨ k = 224 ∨ k = 227
abbrev jz_ (j : Int) : Prop := j = 5 ∨ j = 11 ∨ j = 14 ∨ j = 15 ∨ j = 16 ∨ j = 17 ∨ j = 18
/-- a script is done: thrown t -/
def rfin_ (t : Int) (σ s : bc_M) : Prop := s.1 218 ((14 : Nat) : Int) = t ∧ s.1 218 ((11 : Nat) : Int) = 0 ∧ (∀ j : Int, -1 ≤ s.1 227 j ∧ s.1 227 j ≤ 999) ∧ fr_ eyz_ σ s ∧ fj_ (fun j => jz_ j ∨ j = 6 ∨ j = 7) σ s
section REF
variable {g : bc_C} {d : Nat} {σ : bc_M} {q b : rw_t} {h : List rw_t} {l : List Int} {Rr : Option bc_A → bc_M → Prop} {X : Nat → bc_M → Prop} {B : Int}
theorem rg_fr {P : Nat → Prop} {σ' : bc_M} (hG : rg_ σ q h) (hf : fr_ P σ σ') (h1 : ¬ P 219) (h2 : ¬ P 222) (h5 : σ'.1 218 ((5 : Nat) : Int) = σ.1 218 ((5 : Nat) : Int)) : rg_ σ' q h := ⟨nw_fr hG.1 hf h1, mh_fr hG.2 hf h2 h5⟩
theorem t_X11_runScript {k0 : Int → Int} {A0 : gr_t} {F0 : Int → Int} (hG : rg_ σ q h) (hU : wu_ B q) (hB : B + 480 ≤ 1000000) (hl : tyt_ σ l) (hc : ∀ c ∈ l, 0 ≤ c ∧ c ≤ 65535) (kk : kk_ k0) (gA : g3_ A0) (hF : σ.1 227 = F0) (hb : ∀ j : Int, -1 ≤ F0 j ∧ F0 j ≤ 999)
    (he : (qp_ l 16 0 0 k0 A0).1 = 0 → ∀ s, rfin_ 1 σ s → rg_ s q h → s.1 218 ((6 : Nat) : Int) = (qp_ l 16 0 0 k0 A0).2.1 → s.1 218 ((7 : Nat) : Int) = σ.1 218 ((7 : Nat) : Int) → Rr (some (bc_I 0)) s)
    (hf : (qp_ l 16 0 0 k0 A0).1 = 1 → ∀ (i : Nat) (r : rw_t) (s : bc_M), (i : Int) < (qp_ l 16 0 0 k0 A0).2.2.1 → rsx_ (qp_ l 16 0 0 k0 A0) q i r → (∀ f, cf_ r ((qp_ l 16 0 0 k0 A0).2.2.2.1 i) ((qp_ l 16 0 0 k0 A0).2.2.2.2 i 0) ((qp_ l 16 0 0 k0 A0).2.2.2.2 i 1) ((qp_ l 16 0 0 k0 A0).2.2.2.2 i 2) f → f ≠ 0) → rfin_ 2 σ s → rg_ s q h → s.1 218 ((6 : Nat) : Int) = σ.1 218 ((6 : Nat) : Int) → s.1 218 ((7 : Nat) : Int) = i → Rr (some (bc_I 0)) s)
    (h0 : (qp_ l 16 0 0 k0 A0).1 = 1 → ∀ (r : rw_t) (s : bc_M), rsx_ (qp_ l 16 0 0 k0 A0) q (qp_ l 16 0 0 k0 A0).2.2.1.toNat r → wu_ (B + 480) r → rfin_ 0 σ s → rg_ s r (hr_ h q) → s.1 218 ((6 : Nat) : Int) = σ.1 218 ((6 : Nat) : Int) → s.1 218 ((7 : Nat) : Int) = σ.1 218 ((7 : Nat) : Int) → Rr (some (bc_I (qp_ l 16 0 0 k0 A0).2.2.1)) s) : bc_Sem g (d + 10) mX11_runScript [bc_R 218] σ Rr X := by
  have kZ := qp_kk hl.2.1 16 (c := 0) (p := 0) (k := k0) (A := A0) (Int.le_refl 0) (by omega) gA kk
  refine e_X11_runScript rfl (fun K hK => ?_)
  refine hK.1 [38] 90 _ _ _ _ _ ?_
  refine t_X11_readsAll (k0 := k0) (A0 := A0) hl hc gA hF hb (fun s t w F D lt lw sF bF s11 s17 s18 f1 j1 => ?_)
  generalize qp_ l 16 0 0 k0 A0 = Z at *
  have G1 : rg_ s q h := rg_fr hG f1 (by decide) (by decide) (j1 ((5 : Nat) : Int) (by decide))
  have J1 : fj_ jz_ σ s := fun j hj => j1 j (fun e => hj (by omega))
  have F1 : fr_ eyz_ σ s := fr_mono f1 (fun k hk => by omega)
  refine bc_ob_i (by rw [s17]; constructor <;> constructor <;> omega) ?_
  rw [s17]
  rcases D with ⟨z0, zw, wn⟩ | ⟨z1, wz, zt, za⟩
  · refine bc_br_i (fun c => absurd c wn) (fun _ => ?_)
    have g2 : fr_ (fun k => k = 218) s (bc_wr s 218 ((6 : Nat) : Int) (s.1 218 ((17 : Nat) : Int))) := fr_wr rfl
    have g3 : fr_ (fun k => k = 218) (bc_wr s 218 ((6 : Nat) : Int) (s.1 218 ((17 : Nat) : Int))) (bc_wr (bc_wr s 218 ((6 : Nat) : Int) (s.1 218 ((17 : Nat) : Int))) 218 ((14 : Nat) : Int) 1) := fr_wr rfl
    have g23 := fr_trans g2 g3
    have jj : fj_ (fun j => j = 6 ∨ j = 14) s (bc_wr (bc_wr s 218 ((6 : Nat) : Int) (s.1 218 ((17 : Nat) : Int))) 218 ((14 : Nat) : Int) 1) := fj_trans (fj_wr (.inl rfl)) (fj_wr (.inr rfl))
    refine he z0 _ ⟨by simp [bc_wr], ?_, fun j => ?_, fr_trans F1 (fr_mono g23 (fun k hk => by omega)), fj_trans (fun j hj => J1 j (fun e => hj (.inl e))) (fun j hj => jj j (fun e => hj (by omega)))⟩ (rg_fr G1 g23 (by decide) (by decide) (jj _ (by decide))) ?_ ?_
    · rw [jj ((11 : Nat) : Int) (by decide)]; exact s11
    · rw [g23.1 227 (by decide), sF]; exact bF j
    · rw [← zw, ← s17]; simp [bc_wr]
    · rw [jj ((7 : Nat) : Int) (by decide)]; exact j1 _ (by decide)
  · subst wz
    refine bc_br_i (fun _ => ?_) (fun c => absurd rfl c)
    refine t_X11_begins2 G1 (fun s2 G2 b2 f2 j2 => ?_)
    have g3 : fr_ (fun k => k = 218) s2 (bc_wr s2 218 ((14 : Nat) : Int) 0) := fr_wr rfl
    have j3 : fj_ (fun j => j = 14) s2 (bc_wr s2 218 ((14 : Nat) : Int) 0) := fj_wr rfl
    -- the commands one by one
    have L : ∀ i : Int, ∀ (r : rw_t) (s' : bc_M) (z : bc_LV), 0 ≤ i → i ≤ t → rsx_ Z q i.toNat r → wu_ (B + 30 * i) r → rg_ s' r h → nw_ s' 220 q → s'.1 227 = F → s'.1 218 ((11 : Nat) : Int) = 0 → s'.1 218 ((14 : Nat) : Int) = 0 → s'.1 218 ((18 : Nat) : Int) = t → fr_ eyz_ σ s' → fj_ jz_ σ s' → K 38 ([(0, bc_R 218), (1, bc_I i)] ++ z) [] s' 0 := by
      refine up_ind t (fun i hi r s' z i0 i1 hx hW hg hn h27 h11 h14 h18 hfr hfj => ?_) (fun i hi ih r s' z i0 i1 hx hW hg hn h27 h11 h14 h18 hfr hfj => ?_)
      · have ei : i = t := by omega
        subst ei
        refine hK.2 _ _ [(0, bc_R 218), (1, bc_I i)] _ _ _ (ls_ _ _) ?_
        refine hK.1 [38] 60 _ _ _ _ _ ?_
        refine bc_ob_i (by rw [h18]; constructor <;> constructor <;> omega) ?_
        rw [h18]
        refine bc_br_i (fun c => absurd c (by omega)) (fun _ => ?_)
        refine t_X11_ends hg hn h14 (by decide) (fun e => absurd rfl e) (fun _ s3 G3 t3 f3 j3 => ?_)
        rw [zt] at hx
        refine rt_ (h0 z1 r s3 hx (wu_mono hW (by omega)) ⟨t3, by rw [j3 ((11 : Nat) : Int) (by decide)]; exact h11, fun j => by rw [f3.1 227 (by decide), h27]; exact bF j, fr_trans hfr (fr_mono f3 (fun k hk => by omega)), fj_trans (fun j hj => hfj j (fun e => hj (.inl e))) (fun j hj => j3 j (fun e => hj (by omega)))⟩ G3 ?_ ?_) ?_
        · rw [j3 ((6 : Nat) : Int) (by decide)]; exact hfj _ (by decide)
        · rw [j3 ((7 : Nat) : Int) (by decide)]; exact hfj _ (by decide)
        · rw [h18]; exact zt
      · have en : ((i.toNat : Nat) : Int) = i := by omega
        obtain ⟨a1, a2⟩ := za i i0 hi
        have la := ari_1 (Z.2.2.2.1 i)
        have kzi := kZ i i0 (by omega)
        have v0 : F (4 * i + 1) = Z.2.2.2.2 i 0 := by have := a2 0 (Int.le_refl 0) (by omega); rw [show 4 * i + 1 + 0 = 4 * i + 1 by omega] at this; exact this
        have v1 : 2 ≤ ari_ (Z.2.2.2.1 i) → F (4 * i + 2) = Z.2.2.2.2 i 1 := fun q => by have := a2 1 (by decide) (by omega); rw [show 4 * i + 1 + 1 = 4 * i + 2 by omega] at this; exact this
        have v2 : 3 ≤ ari_ (Z.2.2.2.1 i) → F (4 * i + 3) = Z.2.2.2.2 i 2 := fun q => by have := a2 2 (by decide) (by omega); rw [show 4 * i + 1 + 2 = 4 * i + 3 by omega] at this; exact this
        refine hK.2 _ _ [(0, bc_R 218), (1, bc_I i)] _ _ _ (ls_ _ _) ?_
        refine hK.1 [38] 120 _ _ _ _ _ ?_
        refine bc_ob_i (by rw [h18]; constructor <;> constructor <;> omega) ?_
        rw [h18]
        refine bc_br_i (fun _ => ?_) (fun c => absurd hi c)
        refine t_X11_does hg hn hW (by omega) h27 (by omega) (by omega) (fun j _ _ => bF j) (by rw [a1]; exact kzi) (fun e x s3 le hno S => ?_) (fun r' x s3 hcf hcr S => ?_)
        · obtain ⟨⟨⟨N3, M3⟩, b3⟩, e14, f3, j3⟩ := S
          refine bc_ob_i (by rw [e14]; constructor <;> omega) ?_
          rw [e14]
          refine bc_br_i (fun c => absurd c (by omega)) (fun _ => ?_)
          have g4 : fr_ (fun k => k = 218) s3 (bc_wr (bc_wr s3 218 ((7 : Nat) : Int) i) 218 ((14 : Nat) : Int) 2) := fr_trans (fr_wr rfl) (fr_wr rfl)
          have j4 : fj_ (fun j => j = 7 ∨ j = 14) s3 (bc_wr (bc_wr s3 218 ((7 : Nat) : Int) i) 218 ((14 : Nat) : Int) 2) := fj_trans (fj_wr (.inl rfl)) (fj_wr (.inr rfl))
          refine t_X11_copies (.inr (.inl ⟨rfl, rfl⟩)) (by decide) (by decide) (fun s5 hcc => ?_)
          obtain ⟨g5, c5, -⟩ := hcc
          have g45 := fr_trans (fr_mono g4 (fun k hk => Or.inl hk)) (fr_mono g5 (fun k hk => Or.inr hk) : fr_ (fun k => k = 218 ∨ k = 219) _ _)
          have N5 : nw_ s5 219 q := fun j j0 j1 => by
            have e := c5 j j0 j1
            rw [Int.zero_add] at e
            rw [e, g4.1 220 (by decide)]
            exact b3 j j0 j1
          have j5 : fj_ (fun j => j = 7 ∨ j = 14) s3 s5 := fj_trans j4 (fj_fr g5 (by decide))
          have M5 : mh_ s5 h := mh_fr M3 g45 (by decide) (j5 _ (by decide))
          have hx2 := hf z1 i.toNat r s5 (by omega) hx (fun f hcf2 => hno f (by
            rw [en] at hcf2
            rw [a1]
            exact (cf_cong kzi v0 v1 v2).mpr hcf2))
          refine hx2 ⟨?_, ?_, fun j => ?_, fr_trans hfr (fr_trans (fr_mono f3 (fun k hk => by omega)) (fr_mono g45 (fun k hk => by omega))), fj_trans (fun j hj => hfj j (fun e => hj (.inl e))) (fj_trans (fun j hj => j3 j (fun e => hj (by omega))) (fun j hj => j5 j (fun e => hj (by omega))))⟩ ⟨N5, M5⟩ ?_ ?_
          · rw [g5.1 218 (by decide)]; simp [bc_wr]
          · rw [j5 ((11 : Nat) : Int) (by decide), j3 ((11 : Nat) : Int) (by decide)]; exact h11
          · rw [g45.1 227 (by decide), f3.1 227 (by decide), h27]; exact bF j
          · rw [j5 ((6 : Nat) : Int) (by decide), j3 ((6 : Nat) : Int) (by decide)]; exact hfj _ (by decide)
          · rw [g5.1 218 (by decide), en]; simp [bc_wr]
        · obtain ⟨⟨G3, b3⟩, e14, f3, j3⟩ := S
          refine bc_ob_i (by rw [e14]; decide) ?_
          rw [e14]
          refine bc_br_i (fun _ => ?_) (fun c => absurd rfl c)
          have hW2 := wu_step hW hcf hcr
          rw [a1] at hcf hcr
          have hx2 : rsx_ Z q (i + 1).toNat r' := by
            rw [show (i + 1).toNat = i.toNat + 1 by omega]
            refine ⟨r, hx, ?_, ?_⟩
            · rw [en]; exact (cf_cong kzi v0 v1 v2).mp hcf
            · rw [en]; exact crow_cong kzi v0 v1 v2 hcr
          exact ih r' s3 [(2, bc_I x)] (by omega) (by omega) hx2 (by rw [show B + 30 * (i + 1) = B + 30 * i + 30 by omega]; exact hW2) G3 b3 (by rw [f3.1 227 (by decide)]; exact h27) (by rw [j3 ((11 : Nat) : Int) (by decide)]; exact h11) e14 (by rw [j3 ((18 : Nat) : Int) (by decide)]; exact h18) (fr_trans hfr (fr_mono f3 (fun k hk => by omega))) (fj_trans hfj (fun j hj => j3 j (fun e => hj (by omega))))
    refine L 0 q _ [] (Int.le_refl 0) lt.1 rfl (wu_mono hU (by omega)) (rg_fr G2 g3 (by decide) (by decide) (j3 _ (by decide))) (nw_fr b2 g3 (by decide)) ?_ ?_ (by simp [bc_wr]) ?_ (fr_trans F1 (fr_trans (fr_mono f2 (fun k hk => by omega)) (fr_mono g3 (fun k hk => by omega)))) (fj_trans J1 (fj_trans (fun j hj => j2 j (fun e => hj (by omega))) (fun j hj => j3 j (fun e => hj (by omega)))))
    · rw [g3.1 227 (by decide), f2.1 227 (by decide)]; exact sF
    · rw [j3 ((11 : Nat) : Int) (by decide), j2 ((11 : Nat) : Int) (by decide)]; exact s11
    · rw [j3 ((18 : Nat) : Int) (by decide), j2 ((18 : Nat) : Int) (by decide)]; exact s18
end REF
