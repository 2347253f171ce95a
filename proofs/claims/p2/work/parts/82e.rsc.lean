/-! the reference reads a whole script -/
/-- the commands before n are laid down -/
def ag_ (F : Int → Int) (k : Int → Int) (A : gr_t) (n : Int) : Prop := ∀ i : Int, 0 ≤ i → i < n → F (4 * i) = k i ∧ ∀ j : Int, 0 ≤ j → j < ari_ (k i) → F (4 * i + 1 + j) = A i j
/-- a script's reading is done: told t, error w -/
def rdn_ (z : pz_t) (t w : Int) (F : Int → Int) : Prop := (z.1 = 0 ∧ w = z.2.1 ∧ w ≠ -1) ∨ (z.1 = 1 ∧ w = -1 ∧ t = z.2.2.1 ∧ ag_ F z.2.2.2.1 z.2.2.2.2 t)
theorem qw_3 {l : List Int} {p : Int} : ∀ (n : Nat) {b : Int}, n ≤ 10 → (qw_ l p n b).1 ≠ -1 → p + 3 ≤ (qw_ l p n b).2
  | 0, b, _, h => absurd rfl h
  | n + 1, b, hn, h => by
    rw [qw_s] at h ⊢
    have w := wd_len (m := 9 - n) (by omega)
    split
    · rename_i c
      show p + 3 ≤ p + qm_ l p (bc_tx (9 - n))
      rw [c]
      omega
    · rename_i c
      rw [if_neg c] at h
      exact qw_3 n (by omega) h
theorem qg_o {l : List Int} {c : Int} : ∀ (fs : List Nat) {p n : Int} {A : gr_t} {i : Int}, i ≠ c → ∀ j : Int, (qg_ l c fs p n A).2.2 i j = A i j
  | [], _, _, _, _, _, _ => rfl
  | f :: fs, p, n, A, i, hi, j => by
    rw [qg_c]
    split
    · split
      · exact qg_o fs hi j
      · rfl
    · split
      · rfl
      · rw [qg_o fs hi j]
        show (if i = c ∧ j = n then _ else A i j) = A i j
        rw [if_neg (fun k => hi k.1)]
theorem qa_o {l : List Int} {p c k : Int} {A : gr_t} {i : Int} (hi : i ≠ c) (j : Int) : (qa_ l p c k A).2.2 i j = A i j := by
  unfold qa_
  split
  · show (if i = c ∧ j = 0 then (1 : Int) else A i j) = A i j
    rw [if_neg (fun k => hi k.1)]
  · exact qg_o _ hi j
theorem ag_next {F F' : Int → Int} {k : Int → Int} {A A' : gr_t} {c kv : Int} (h : ag_ F k A c) (c0 : 0 ≤ c) (hu : ∀ j : Int, ¬ (4 * c ≤ j ∧ j < 4 * c + 4) → F' j = F j) (ha : ∀ i : Int, i ≠ c → ∀ j, A' i j = A i j) (hk : F' (4 * c) = kv) (hv : ∀ j : Int, 0 ≤ j → j < ari_ kv → F' (4 * c + 1 + j) = A' c j) : ag_ F' (up_ k c kv) A' (c + 1) := by
  intro i i0 i1
  have l3 : ∀ x, ari_ x ≤ 3 := fun x => by
    unfold ari_
    (repeat' split) <;> decide
  by_cases e : i = c
  · subst e
    rw [up_at]
    exact ⟨hk, hv⟩
  · obtain ⟨h1, h2⟩ := h i i0 (by omega)
    rw [up_ne e]
    refine ⟨(hu _ (by omega)).trans h1, fun j j0 j1 => ?_⟩
    have := l3 (k i)
    rw [hu _ (by omega), h2 j j0 j1, ha i e j]
section REF
variable {g : bc_C} {d : Nat} {σ : bc_M} {l : List Int} {p w : Int} {Rr : Option bc_A → bc_M → Prop} {X : Nat → bc_M → Prop}
theorem t_X11_readsAll {k0 : Int → Int} {A0 : gr_t} {F0 : Int → Int} (hl : tyt_ σ l) (hc : ∀ c ∈ l, 0 ≤ c ∧ c ≤ 65535) (gA : g3_ A0) (hF : σ.1 227 = F0) (hb : ∀ j : Int, -1 ≤ F0 j ∧ F0 j ≤ 999)
    (h : ∀ s t w F, rdn_ (qp_ l 16 0 0 k0 A0) t w F → (0 ≤ t ∧ t ≤ 16) → (-1 ≤ w ∧ w ≤ 60) → s.1 227 = F → (∀ j : Int, -1 ≤ F j ∧ F j ≤ 999) → s.1 218 ((11 : Nat) : Int) = 0 → s.1 218 ((17 : Nat) : Int) = w → s.1 218 ((18 : Nat) : Int) = t → fr_ (fun k => k = 218 ∨ k = 227) σ s → fj_ (fun j => j = 11 ∨ j = 15 ∨ j = 16 ∨ j = 17 ∨ j = 18) σ s → Rr none s) : bc_Sem g (d + 6) mX11_readsAll [bc_R 218] σ Rr X := by
  obtain ⟨a1, a2, a3⟩ := hl
  refine e_X11_readsAll rfl (fun K hK => ?_)
  generalize hZ : qp_ l 16 0 0 k0 A0 = Z at h
  -- the state at the first command
  have S0 : ∃ s0, s0 = bc_wr (bc_wr (bc_wr (bc_wr (bc_wr σ 218 ((15 : Nat) : Int) (σ.1 218 ((11 : Nat) : Int))) 218 ((11 : Nat) : Int) 0) 218 ((16 : Nat) : Int) 0) 218 ((17 : Nat) : Int) (-1)) 218 ((18 : Nat) : Int) 0 := ⟨_, rfl⟩
  obtain ⟨s0, hs0⟩ := S0
  have f0 : fr_ (fun k => k = 218) σ s0 := by
    rw [hs0]
    exact fr_trans (fr_trans (fr_trans (fr_trans (fr_wr rfl) (fr_wr rfl)) (fr_wr rfl)) (fr_wr rfl)) (fr_wr rfl)
  have j0 : fj_ (fun j => j = 11 ∨ j = 15 ∨ j = 16 ∨ j = 17 ∨ j = 18) σ s0 := by
    rw [hs0]
    exact fj_trans (fj_trans (fj_trans (fj_trans (fj_wr (.inr (.inl rfl))) (fj_wr (.inl rfl))) (fj_wr (.inr (.inr (.inl rfl))))) (fj_wr (.inr (.inr (.inr (.inl rfl)))))) (fj_wr (.inr (.inr (.inr (.inr rfl)))))
  have e11 : s0.1 218 ((11 : Nat) : Int) = 0 := by rw [hs0]; simp [bc_wr]
  have e15 : s0.1 218 ((15 : Nat) : Int) = l.length := by rw [hs0, ← a1]; simp [bc_wr]
  have e16 : s0.1 218 ((16 : Nat) : Int) = 0 := by rw [hs0]; simp [bc_wr]
  have e17 : s0.1 218 ((17 : Nat) : Int) = -1 := by rw [hs0]; simp [bc_wr]
  have e18 : s0.1 218 ((18 : Nat) : Int) = 0 := by rw [hs0]; simp [bc_wr]
  have R0 : rsc_ s0 l 0 (-1) := ⟨⟨⟨e15, a2⟩, fun j hj => by rw [f0.1 225 (by decide)]; exact a3 j hj, hc⟩, ⟨e16, Int.le_refl 0, by omega⟩, e17, by decide, by decide⟩
  have Q0 : rqs_ s0 l 0 0 (-1) F0 s0 := ⟨R0, by rw [f0.1 227 (by decide)]; exact hF, e18, fr_refl _, fun _ _ => rfl⟩
  have fin : ∀ s t p w F, rqs_ s0 l t p w F s → rdn_ Z t w F → (0 ≤ t ∧ t ≤ 16) → (∀ j : Int, -1 ≤ F j ∧ F j ≤ 999) → Rr none s := by
    intro s t p w F Q D ht hFb
    obtain ⟨q1, q2, q3, q4, q5⟩ := Q
    refine h s t w F D ht q1.2.2.2 q2 hFb ?_ q1.2.2.1 q3 (fr_trans (fr_mono f0 (fun k hk => .inl hk)) q4) (fj_trans j0 (fun j hj => q5 j (fun e => hj (by rcases e with e | e | e <;> simp [e]))))
    rw [q5 ((11 : Nat) : Int) (by decide)]
    exact e11
  have out : ∀ (s : bc_M) (z : bc_LV) (t p w : Int) (F : Int → Int), rqs_ s0 l t p w F s → rdn_ Z t w F → (0 ≤ t ∧ t ≤ 16) → (∀ j : Int, -1 ≤ F j ∧ F j ≤ 999) → (w ≠ -1 ∨ p = l.length) → K 32 ([(0, bc_R 218)] ++ z) [] s 0 := by
    intro s z t p w F Q D ht hFb hw
    have e17 := Q.1.2.2.1
    have l17 := Q.1.2.2.2
    have e16 := Q.1.2.1.1
    have e15 := Q.1.1.1.1
    have l60 := Q.1.1.1.2
    have go := fin s t p w F Q D ht hFb
    refine hK.2 _ _ [(0, bc_R 218)] _ _ _ (ls_ _ _) ?_
    refine hK.1 [32] 60 _ _ _ _ _ ?_
    refine bc_ob_i (by rw [e17]; constructor <;> constructor <;> omega) ?_
    rw [e17]
    refine bc_br_i (fun c => ?_) (fun _ => go)
    rcases hw with hw | hw
    · exact absurd c hw
    · refine bc_ob_i (by rw [e16, e15]; constructor <;> constructor <;> omega) ?_
      rw [e16, e15]
      refine bc_br_i (fun c2 => absurd c2 (by omega)) (fun _ => go)
  have step : ∀ n : Nat, (∀ m : Nat, n = m + 1 → ∀ (c p : Int) (k : Int → Int) (A : gr_t) (F : Int → Int) (s : bc_M) (p' w' : Int) (F' : Int → Int) (z : bc_LV), c + m = 15 → 0 ≤ c → 4 * c ≤ p → p ≤ l.length → g3_ A → ag_ F k A c → (∀ j : Int, -1 ≤ F j ∧ F j ≤ 999) → rqs_ s0 l (c + 1) p' w' F' s → rcm_ l p c F F' p' w' → Z = qp_ l (m + 1) c p k A → K 32 ([(0, bc_R 218)] ++ z) [] s 0) → ∀ (c p : Int) (k : Int → Int) (A : gr_t) (F : Int → Int) (s : bc_M) (p' w' : Int) (F' : Int → Int) (z : bc_LV), c + n = 15 → 0 ≤ c → 4 * c ≤ p → p ≤ l.length → g3_ A → ag_ F k A c → (∀ j : Int, -1 ≤ F j ∧ F j ≤ 999) → rqs_ s0 l (c + 1) p' w' F' s → rcm_ l p c F F' p' w' → Z = qp_ l (n + 1) c p k A → K 32 ([(0, bc_R 218)] ++ z) [] s 0 := by
    intro n ih c p k A F s p' w' F' z hn c0 hp pl gA1 hag hFb Q R hZ
    have l60 := Q.1.1.1.2
    have e15 := Q.1.1.1.1
    have lq := qw_le (l := l) (p := p) 10 (b := 0) (Nat.le_refl 10) (by omega) pl l60 (Int.le_refl 0) (by omega)
    obtain ⟨hu, hlF, hR⟩ := R
    have hFb' : ∀ j, -1 ≤ F' j ∧ F' j ≤ 999 := fun j => by
      rcases hlF j with e | e
      · rw [e]; exact hFb j
      · exact e
    rw [qp_s] at hZ
    rcases hR with ⟨q1, q2⟩ | ⟨q1, q2⟩
    · rw [if_pos q1] at hZ
      exact out s z (c + 1) p' w' F' Q (.inl ⟨by rw [hZ], by rw [hZ]; exact q2, by omega⟩) (by omega) hFb' (.inl (by omega))
    · rw [if_neg q1] at hZ
      have w3 := qw_3 10 (b := 0) (Nat.le_refl 10) q1
      have la := qa_le (l := l) (p := (qw_ l p 10 0).2) (c := c) (k := (qw_ l p 10 0).1) (A := A) (by omega) (by omega) gA1
      rcases q2 A with ⟨r1, r2, r3⟩ | ⟨r1, r2, r3, r4, r5⟩
      · rw [if_pos r1] at hZ
        exact out s z (c + 1) p' w' F' Q (.inl ⟨by rw [hZ], by rw [hZ]; exact r2, r3⟩) (by omega) hFb' (.inl r3)
      · rw [if_neg (by omega)] at hZ
        subst r3
        have ag2 := ag_next hag c0 hu (fun i hi j => qa_o hi j) r4 r5
        have gA2 := la.2.1
        rw [← r2] at hZ la
        generalize (qa_ l (qw_ l p 10 0).2 c (qw_ l p 10 0).1 A).2.2 = A2 at hZ ag2 gA2
        generalize (qw_ l p 10 0).1 = kv at hZ ag2
        have e16 := Q.1.2.1.1
        have e17 := Q.1.2.2.1
        by_cases t : tg_ l p' = 59
        · rw [if_pos t] at hZ
          have hp' := (tg_in (l := l) (p := p') (by omega)).2
          obtain ⟨m, rfl⟩ : ∃ m, n = m + 1 := ⟨n - 1, by omega⟩
          refine hK.2 _ _ [(0, bc_R 218)] _ _ _ (ls_ _ _) ?_
          refine hK.1 [32] 120 _ _ _ _ _ ?_
          refine bc_ob_i (by rw [e17]; decide) ?_
          rw [e17]
          refine bc_br_i (fun _ => ?_) (fun c => absurd (by decide) c)
          refine bc_ob_i (by rw [e16, e15]; constructor <;> constructor <;> omega) ?_
          rw [e16, e15]
          refine bc_br_i (fun _ => ?_) (fun c2 => absurd hp' c2)
          refine t_X11_reads Q.1 (by decide) (by decide) (fun _ _ _ s1 S1 G1 => ?_) (fun no => absurd ⟨rfl, by omega⟩ no)
          have Q1 := rqs_v Q S1 G1
          have e17b := S1.2.2.1
          refine bc_ob_i (by rw [e17b]; decide) ?_
          rw [e17b]
          refine bc_br_i (fun _ => ?_) (fun c => absurd (by decide) c)
          refine t_X11_readsCommand S1 Q1.2.2.1 (by omega) (by omega) Q1.2.1 (fun s2 p2 w2 F2 Q2 R2 => ?_)
          have Q3 : rqs_ s0 l (c + 1 + 1) p2 w2 F2 s2 := ⟨Q2.1, Q2.2.1, Q2.2.2.1, fr_trans Q1.2.2.2.1 Q2.2.2.2.1, fj_trans Q1.2.2.2.2 Q2.2.2.2.2⟩
          exact ih m rfl (c + 1) (p' + 1) (up_ k c kv) A2 F' s2 p2 w2 F2 [(1, bc_I (tg_ l p'))] (by omega) (by omega) (by omega) (by omega) gA2 ag2 hFb' Q3 R2 hZ
        · rw [if_neg t] at hZ
          by_cases e : p' = l.length
          · rw [if_pos e] at hZ
            exact out s z (c + 1) p' (-1) F' Q (.inr ⟨by rw [hZ], rfl, by rw [hZ], by rw [hZ]; exact ag2⟩) (by omega) hFb' (.inr e)
          · rw [if_neg e] at hZ
            refine hK.2 _ _ [(0, bc_R 218)] _ _ _ (ls_ _ _) ?_
            refine hK.1 [32] 120 _ _ _ _ _ ?_
            refine bc_ob_i (by rw [e17]; decide) ?_
            rw [e17]
            refine bc_br_i (fun _ => ?_) (fun c => absurd (by decide) c)
            refine bc_ob_i (by rw [e16, e15]; constructor <;> constructor <;> omega) ?_
            rw [e16, e15]
            refine bc_br_i (fun _ => ?_) (fun c2 => absurd (by omega) c2)
            refine t_X11_reads Q.1 (by decide) (by decide) (fun _ _ r => absurd (by omega) t) (fun no s1 S1 G1 => ?_)
            rw [if_pos rfl] at S1
            have Q1 := rqs_v Q S1 G1
            have e17b := S1.2.2.1
            refine bc_ob_i (by rw [e17b]; constructor <;> constructor <;> omega) ?_
            rw [e17b]
            refine bc_br_i (fun c2 => absurd c2 (by omega)) (fun _ => ?_)
            exact out s1 [(1, bc_I 48)] (c + 1) p' p' F' Q1 (.inl ⟨by rw [hZ], by rw [hZ], by omega⟩) (by omega) hFb' (.inl (by omega))
  have L : ∀ n : Nat, ∀ (c p : Int) (k : Int → Int) (A : gr_t) (F : Int → Int) (s : bc_M) (p' w' : Int) (F' : Int → Int) (z : bc_LV), c + n = 15 → 0 ≤ c → 4 * c ≤ p → p ≤ l.length → g3_ A → ag_ F k A c → (∀ j : Int, -1 ≤ F j ∧ F j ≤ 999) → rqs_ s0 l (c + 1) p' w' F' s → rcm_ l p c F F' p' w' → Z = qp_ l (n + 1) c p k A → K 32 ([(0, bc_R 218)] ++ z) [] s 0 := by
    intro n
    induction n with
    | zero => exact step 0 (fun m e => absurd e (by omega))
    | succ n ih => exact step (n + 1) (fun m e => by
        have e2 : m = n := by omega
        subst e2
        exact ih)
  subst hs0
  refine hK.1 [32] 90 _ _ _ _ _ ?_
  refine t_X11_readsCommand R0 e18 (Int.le_refl 0) (by decide) Q0.2.1 (fun s2 p2 w2 F2 Q2 R2 => ?_)
  exact L 15 0 0 k0 A0 F0 s2 p2 w2 F2 [] (by decide) (Int.le_refl 0) (by decide) (by omega) gA (fun i i0 i1 => by omega) hb Q2 R2 hZ.symm
end REF
