/-! the reference reads a command -/
theorem rsc_fr {P : Nat → Prop} {σ σ' : bc_M} {l : List Int} {p w : Int} (h : rsc_ σ l p w) (hf : fr_ P σ σ') (h1 : ¬ P 218) (h2 : ¬ P 225) : rsc_ σ' l p w := by
  unfold rsc_
  rw [hf.1 218 h1, hf.1 225 h2]
  exact h
/-- a run over the forms fs: the values xs, from e to e' -/
def rrun_ (l : List Int) : List Nat → Int × Int → List Int → Int × Int → Prop
  | [], e, xs, e' => xs = [] ∧ e' = e
  | f :: fs, e, xs, e' => if (f : Int) = 32 then rrun_ l fs (srd_ l 32 e) xs e' else ∃ x ys, xs = x :: ys ∧ rvx_ l e.1 e.2 f x ∧ rrun_ l fs (srd_ l f e) ys e'
theorem rr_0 {l : List Int} {e : Int × Int} : rrun_ l [] e [] e := ⟨rfl, rfl⟩
theorem rr_b {l : List Int} {fs : List Nat} {e e' : Int × Int} {xs : List Int} (h : rrun_ l fs (srd_ l 32 e) xs e') : rrun_ l (32 :: fs) e xs e' := by
  unfold rrun_
  rw [if_pos (by decide)]
  exact h
theorem rr_v {l : List Int} {f : Nat} {fs : List Nat} {e e' : Int × Int} {x : Int} {xs : List Int} (hf : (f : Int) ≠ 32) (hx : rvx_ l e.1 e.2 f x) (h : rrun_ l fs (srd_ l f e) xs e') : rrun_ l (f :: fs) e (x :: xs) e' := by
  unfold rrun_
  rw [if_neg hf]
  exact ⟨x, xs, rfl, hx, h⟩
theorem rr_no {l : List Int} : ∀ (fs : List Nat) {e e' : Int × Int} {xs : List Int}, e.2 ≠ -1 → rrun_ l fs e xs e' → e' = e := by
  intro fs
  induction fs with
  | nil => intro e e' xs _ h; exact h.2
  | cons f fs ih =>
    intro e e' xs he h
    unfold rrun_ at h
    split at h
    · rw [srd_no he] at h
      exact ih he h
    · obtain ⟨x, ys, -, -, h⟩ := h
      rw [srd_no he] at h
      exact ih he h
theorem rr_qg {l : List Int} {c : Int} : ∀ (fs : List Nat) {p n : Int} {xs : List Int} {e' : Int × Int} {A : gr_t}, 0 ≤ p → p ≤ l.length → 0 ≤ n → n + xs.length ≤ 3 → rrun_ l fs (p, -1) xs e' → ((qg_ l c fs p n A).1 = 0 ∧ e'.2 = (qg_ l c fs p n A).2.1 ∧ e'.2 ≠ -1) ∨ ((qg_ l c fs p n A).1 = 1 ∧ e' = ((qg_ l c fs p n A).2.1, -1) ∧ (∀ j : Nat, j < xs.length → (qg_ l c fs p n A).2.2 c (n + j) = xs.getD j 0) ∧ ∀ j : Int, j < n → (qg_ l c fs p n A).2.2 c j = A c j) := by
  intro fs
  induction fs with
  | nil =>
    intro p n xs e' A p0 p1 n0 n3 h
    obtain ⟨rfl, rfl⟩ := h
    exact .inr ⟨rfl, rfl, fun j hj => absurd hj (Nat.not_lt_zero _), fun _ _ => rfl⟩
  | cons f fs ih =>
    intro p n xs e' A p0 p1 n0 n3 h
    rw [qg_c]
    unfold rrun_ at h
    by_cases hf : (f : Int) = 32
    · rw [if_pos hf] at h ⊢
      unfold srd_ at h
      rw [if_pos rfl, if_pos rfl] at h
      by_cases t : tg_ l p = 32
      · rw [if_pos t] at h ⊢
        have hp := (tg_in (l := l) (p := p) (by omega)).2
        exact ih (by omega) (by omega) n0 n3 h
      · rw [if_neg t] at h ⊢
        have e := rr_no fs (show ((p, p) : Int × Int).2 ≠ -1 by show p ≠ -1; omega) h
        subst e
        exact .inl ⟨rfl, rfl, by show p ≠ -1; omega⟩
    · rw [if_neg hf] at h ⊢
      obtain ⟨x, ys, rfl, hx, h⟩ := h
      have lq := qv_le (l := l) (p := p) (f := (f : Int)) p0 p1
      unfold srd_ at h
      rw [if_pos rfl, if_neg hf] at h
      rw [List.length_cons] at n3
      by_cases v : (qv_ l p f).1 = -1
      · rw [if_pos (.inl v)]
        have h2 : rrun_ l fs ((qv_ l p f).2, (qv_ l p f).2) ys e' := by
          have := h
          rw [show ((if (qv_ l ((p, (-1 : Int)) : Int × Int).1 f).1 = -1 then (qv_ l ((p, (-1 : Int)) : Int × Int).1 f).2 else -1) : Int) = (qv_ l p f).2 from if_pos v] at this
          exact this
        have e := rr_no fs (show (((qv_ l p f).2, (qv_ l p f).2) : Int × Int).2 ≠ -1 by show (qv_ l p f).2 ≠ -1; omega) h2
        subst e
        exact .inl ⟨rfl, rfl, by show (qv_ l p f).2 ≠ -1; omega⟩
      · rw [if_neg (by omega)]
        have h2 : rrun_ l fs ((qv_ l p f).2, -1) ys e' := by
          have := h
          rw [show ((if (qv_ l ((p, (-1 : Int)) : Int × Int).1 f).1 = -1 then (qv_ l ((p, (-1 : Int)) : Int × Int).1 f).2 else -1) : Int) = -1 from if_neg v] at this
          exact this
        have ex := hx.2 rfl v
        rcases ih (A := ug_ A c n (qv_ l p f).1) (by omega) (by omega) (by omega : 0 ≤ n + 1) (by omega) h2 with r | ⟨r1, r2, r3, r4⟩
        · exact .inl r
        · refine .inr ⟨r1, r2, fun j hj => ?_, fun j hj => ?_⟩
          · cases j with
            | zero =>
              have e := r4 n (by omega)
              rw [show n + ((0 : Nat) : Int) = n by omega, e]
              show (if c = c ∧ n = n then (qv_ l p f).1 else A c n) = x
              rw [if_pos ⟨rfl, rfl⟩]
              exact ex.symm
            | succ j =>
              have e := r3 j (by rw [List.length_cons] at hj; omega)
              rw [show n + ((j + 1 : Nat) : Int) = n + 1 + (j : Int) by omega, e]
              rfl
          · rw [r4 j (by omega)]
            show (if c = c ∧ j = n then (qv_ l p f).1 else A c j) = A c j
            rw [if_neg (by omega)]
def ari_ (k : Int) : Int := if k = 0 ∨ k = 1 ∨ k = 8 then 3 else if k = 2 then 2 else 1
/-- what a command's reading has laid down -/
def rcm_ (l : List Int) (p c : Int) (F F' : Int → Int) (p' w' : Int) : Prop :=
  (∀ j : Int, ¬ (4 * c ≤ j ∧ j < 4 * c + 4) → F' j = F j) ∧ (∀ j : Int, F' j = F j ∨ (-1 ≤ F' j ∧ F' j ≤ 999)) ∧
  (((qw_ l p 10 0).1 = -1 ∧ w' = (qw_ l p 10 0).2) ∨ ((qw_ l p 10 0).1 ≠ -1 ∧ ∀ A : gr_t, ((qa_ l (qw_ l p 10 0).2 c (qw_ l p 10 0).1 A).1 = 0 ∧ w' = (qa_ l (qw_ l p 10 0).2 c (qw_ l p 10 0).1 A).2.1 ∧ w' ≠ -1) ∨ ((qa_ l (qw_ l p 10 0).2 c (qw_ l p 10 0).1 A).1 = 1 ∧ p' = (qa_ l (qw_ l p 10 0).2 c (qw_ l p 10 0).1 A).2.1 ∧ w' = -1 ∧ F' (4 * c) = (qw_ l p 10 0).1 ∧ ∀ j : Int, 0 ≤ j → j < ari_ (qw_ l p 10 0).1 → F' (4 * c + 1 + j) = (qa_ l (qw_ l p 10 0).2 c (qw_ l p 10 0).1 A).2.2 c j)))
theorem rcm_mk {l : List Int} {p c k : Int} {F F' : Int → Int} {p1 : Int} {fs : List Nat} {xs : List Int} {e' : Int × Int} (hk : (qw_ l p 10 0).1 = k) (k0 : 0 ≤ k) (h2 : (qw_ l p 10 0).2 = p1) (p0 : 0 ≤ p1) (pl : p1 ≤ l.length) (hfs : bc_tx (fx_ k) = fs) (h9 : ¬ (k = 9 ∧ tg_ l p1 ≠ 32)) (run : rrun_ l fs (p1, -1) xs e') (hx : (xs.length : Int) = ari_ k) (hb : F' (4 * c) = k) (hv : ∀ j : Nat, j < xs.length → F' (4 * c + 1 + j) = xs.getD j 0) (hu : ∀ j : Int, ¬ (4 * c ≤ j ∧ j < 4 * c + 4) → F' j = F j) (hl : ∀ j : Int, F' j = F j ∨ (-1 ≤ F' j ∧ F' j ≤ 999)) : rcm_ l p c F F' e'.1 e'.2 := by
  refine ⟨hu, hl, .inr ⟨by omega, fun A => ?_⟩⟩
  have l3 : (xs.length : Int) ≤ 3 := by
    rw [hx]
    unfold ari_
    (repeat' split) <;> decide
  rw [hk, h2]
  unfold qa_
  rw [if_neg h9, hfs]
  rcases rr_qg (c := c) fs (n := 0) (A := A) p0 pl (Int.le_refl 0) (by omega) run with r | ⟨r1, r2, r3, -⟩
  · exact .inl r
  · refine .inr ⟨r1, by rw [r2], by rw [r2], hb, fun j j0 j1 => ?_⟩
    have e := hv j.toNat (by omega)
    have e2 := r3 j.toNat (by omega)
    rw [show ((j.toNat : Nat) : Int) = j by omega] at e e2
    rw [Int.zero_add] at e2
    rw [e, e2]
theorem rcm_1 {l : List Int} {p c k : Int} {F : Int → Int} {p1 : Int} {fs : List Nat} {x : Int} {e' : Int × Int} (hk : (qw_ l p 10 0).1 = k) (k0 : 0 ≤ k) (k9 : k ≤ 9) (h2 : (qw_ l p 10 0).2 = p1) (p0 : 0 ≤ p1) (pl : p1 ≤ l.length) (hfs : bc_tx (fx_ k) = fs) (h9 : ¬ (k = 9 ∧ tg_ l p1 ≠ 32)) (run : rrun_ l fs (p1, -1) [x] e') (hx : ari_ k = 1) (l0 : 0 ≤ x ∧ x ≤ 999) : rcm_ l p c F (up_ (up_ (up_ F (4 * c) k) (4 * c + 1) 1) (4 * c + 1) x) e'.1 e'.2 := by
  refine rcm_mk hk k0 h2 p0 pl hfs h9 run (by rw [hx]; rfl) ?_ (fun j hj => ?_) (fun j hj => ?_) (fun j => ?_)
  · rw [up_ne (by omega), up_ne (by omega), up_at]
  · have : j = 0 := by simpa using hj
    subst this
    rw [show 4 * c + 1 + ((0 : Nat) : Int) = 4 * c + 1 by omega, up_at]
    rfl
  · rw [up_ne (by omega), up_ne (by omega), up_ne (by omega)]
  · unfold up_
    (repeat' split) <;> first | exact .inl rfl | (refine .inr ?_; omega)
theorem rcm_2 {l : List Int} {p c k : Int} {F : Int → Int} {p1 : Int} {fs : List Nat} {x y : Int} {e' : Int × Int} (hk : (qw_ l p 10 0).1 = k) (k0 : 0 ≤ k) (k9 : k ≤ 9) (h2 : (qw_ l p 10 0).2 = p1) (p0 : 0 ≤ p1) (pl : p1 ≤ l.length) (hfs : bc_tx (fx_ k) = fs) (h9 : ¬ (k = 9 ∧ tg_ l p1 ≠ 32)) (run : rrun_ l fs (p1, -1) [x, y] e') (hx : ari_ k = 2) (l0 : 0 ≤ x ∧ x ≤ 999) (l1 : 0 ≤ y ∧ y ≤ 999) : rcm_ l p c F (up_ (up_ (up_ (up_ F (4 * c) k) (4 * c + 1) 1) (4 * c + 1) x) (4 * c + 2) y) e'.1 e'.2 := by
  refine rcm_mk hk k0 h2 p0 pl hfs h9 run (by rw [hx]; rfl) ?_ (fun j hj => ?_) (fun j hj => ?_) (fun j => ?_)
  · rw [up_ne (by omega), up_ne (by omega), up_ne (by omega), up_at]
  · have : j = 0 ∨ j = 1 := by simp at hj; omega
    rcases this with rfl | rfl
    · rw [show 4 * c + 1 + ((0 : Nat) : Int) = 4 * c + 1 by omega, up_ne (by omega), up_at]
      rfl
    · rw [show 4 * c + 1 + ((1 : Nat) : Int) = 4 * c + 2 by omega, up_at]
      rfl
  · rw [up_ne (by omega), up_ne (by omega), up_ne (by omega), up_ne (by omega)]
  · unfold up_
    (repeat' split) <;> first | exact .inl rfl | (refine .inr ?_; omega)
theorem rcm_3 {l : List Int} {p c k : Int} {F : Int → Int} {p1 : Int} {fs : List Nat} {x y v : Int} {e' : Int × Int} (hk : (qw_ l p 10 0).1 = k) (k0 : 0 ≤ k) (k9 : k ≤ 9) (h2 : (qw_ l p 10 0).2 = p1) (p0 : 0 ≤ p1) (pl : p1 ≤ l.length) (hfs : bc_tx (fx_ k) = fs) (h9 : ¬ (k = 9 ∧ tg_ l p1 ≠ 32)) (run : rrun_ l fs (p1, -1) [x, y, v] e') (hx : ari_ k = 3) (l0 : 0 ≤ x ∧ x ≤ 999) (l1 : 0 ≤ y ∧ y ≤ 999) (l2 : 0 ≤ v ∧ v ≤ 999) : rcm_ l p c F (up_ (up_ (up_ (up_ (up_ F (4 * c) k) (4 * c + 1) 1) (4 * c + 1) x) (4 * c + 2) y) (4 * c + 3) v) e'.1 e'.2 := by
  refine rcm_mk hk k0 h2 p0 pl hfs h9 run (by rw [hx]; rfl) ?_ (fun j hj => ?_) (fun j hj => ?_) (fun j => ?_)
  · rw [up_ne (by omega), up_ne (by omega), up_ne (by omega), up_ne (by omega), up_at]
  · have : j = 0 ∨ j = 1 ∨ j = 2 := by simp at hj; omega
    rcases this with rfl | rfl | rfl
    · rw [show 4 * c + 1 + ((0 : Nat) : Int) = 4 * c + 1 by omega, up_ne (by omega), up_ne (by omega), up_at]
      rfl
    · rw [show 4 * c + 1 + ((1 : Nat) : Int) = 4 * c + 2 by omega, up_ne (by omega), up_at]
      rfl
    · rw [show 4 * c + 1 + ((2 : Nat) : Int) = 4 * c + 3 by omega, up_at]
      rfl
  · rw [up_ne (by omega), up_ne (by omega), up_ne (by omega), up_ne (by omega), up_ne (by omega)]
  · unfold up_
    (repeat' split) <;> first | exact .inl rfl | (refine .inr ?_; omega)
/-- within a command's reading: from σ -/
def rqs_ (σ : bc_M) (l : List Int) (c p w : Int) (F : Int → Int) (s : bc_M) : Prop := rsc_ s l p w ∧ s.1 227 = F ∧ s.1 218 ((18 : Nat) : Int) = c ∧ fr_ (fun k => k = 218 ∨ k = 227) σ s ∧ fj_ (fun j => j = 16 ∨ j = 17 ∨ j = 18) σ s
theorem rqs_v {σ s s' : bc_M} {l : List Int} {c p w p' w' : Int} {F : Int → Int} (h : rqs_ σ l c p w F s) (S : rsc_ s' l p' w') (G : rsf_ s s') : rqs_ σ l c p' w' F s' := by
  obtain ⟨h1, h2, h3, h4, h5⟩ := h
  refine ⟨S, by rw [G.1.1 227 (by decide)]; exact h2, ?_, fr_trans h4 (fr_mono G.1 (fun k hk => .inl hk)), fj_trans h5 (fun j hj => G.2 j (fun e => hj (by rcases e with e | e <;> simp [e])))⟩
  rw [G.2 ((18 : Nat) : Int) (by decide)]
  exact h3
theorem rqs_n {σ s : bc_M} {l : List Int} {c p w i v : Int} {F : Int → Int} (h : rqs_ σ l c p w F s) : rqs_ σ l c p w (up_ F i v) (bc_wr s 227 i v) := by
  obtain ⟨h1, h2, h3, h4, h5⟩ := h
  have F1 : fr_ (fun k => k = 227) s (bc_wr s 227 i v) := fr_wr rfl
  refine ⟨rsc_fr h1 F1 (by decide) (by decide), ?_, by rw [F1.1 218 (by decide)]; exact h3, fr_trans h4 (fr_mono F1 (fun k hk => .inr hk)), fj_trans h5 (fj_fr F1 (by decide))⟩
  funext j
  show (if (227 : Nat) = 227 then (if j = i then v else s.1 227 j) else s.1 227 j) = (if j = i then v else F j)
  rw [if_pos rfl, h2]
theorem rcm_9 {l : List Int} {p c : Int} {F : Int → Int} {p1 : Int} (hk : (qw_ l p 10 0).1 = 9) (h2 : (qw_ l p 10 0).2 = p1) (h9 : tg_ l p1 ≠ 32) : rcm_ l p c F (up_ (up_ F (4 * c) 9) (4 * c + 1) 1) p1 (-1) := by
  refine ⟨fun j hj => ?_, fun j => ?_, .inr ⟨by omega, fun A => ?_⟩⟩
  · rw [up_ne (by omega), up_ne (by omega)]
  · unfold up_
    (repeat' split) <;> first | exact .inl rfl | (refine .inr ?_; omega)
  · rw [hk, h2]
    unfold qa_
    rw [if_pos ⟨rfl, h9⟩]
    refine .inr ⟨rfl, rfl, rfl, ?_, fun j j0 j1 => ?_⟩
    · rw [up_ne (by omega), up_at]
    · have : j = 0 := by
        have e : ari_ 9 = 1 := by decide
        omega
      subst this
      rw [show 4 * c + 1 + 0 = 4 * c + 1 by omega, up_at]
      show (1 : Int) = (if c = c ∧ (0 : Int) = 0 then 1 else A c 0)
      rw [if_pos ⟨rfl, rfl⟩]
theorem rqs_t {σ s : bc_M} {l : List Int} {c p w : Int} {F : Int → Int} (h : rqs_ σ l c p w F s) : rqs_ σ l (c + 1) p w F (bc_wr s 218 ((18 : Nat) : Int) (s.1 218 ((18 : Nat) : Int) + 1)) := by
  obtain ⟨⟨⟨⟨a1, a2⟩, a3, a4⟩, ⟨b1, b2⟩, c1, c2⟩, h2, h3, h4, h5⟩ := h
  have F1 : fr_ (fun k => k = 218) s (bc_wr s 218 ((18 : Nat) : Int) (s.1 218 ((18 : Nat) : Int) + 1)) := fr_wr rfl
  refine ⟨⟨⟨⟨?_, a2⟩, fun j hj => ?_, a4⟩, ⟨?_, b2⟩, ?_, c2⟩, by rw [F1.1 227 (by decide)]; exact h2, ?_, fr_trans h4 (fr_mono F1 (fun k hk => .inl hk)), fj_trans h5 (fj_wr (.inr (.inr rfl)))⟩
  · rw [← a1]; simp [bc_wr]
  · rw [← a3 j hj]; simp [bc_wr]
  · rw [← b1]; simp [bc_wr]
  · rw [← c1]; simp [bc_wr]
  · rw [← h3]; simp [bc_wr]
section REF
variable {g : bc_C} {d : Nat} {σ : bc_M} {l : List Int} {p w : Int} {Rr : Option bc_A → bc_M → Prop} {X : Nat → bc_M → Prop}
theorem t_X11_readsCommand {c : Int} {F : Int → Int} (hS : rsc_ σ l p (-1)) (hc : σ.1 218 ((18 : Nat) : Int) = c) (c0 : 0 ≤ c) (c1 : c ≤ 15) (hF : σ.1 227 = F) (h : ∀ s p' w' F', rqs_ σ l (c + 1) p' w' F' s → rcm_ l p c F F' p' w' → Rr none s) : bc_Sem g (d + 5) mX11_readsCommand [bc_R 218] σ Rr X := by
  have lq := qw_le (l := l) (p := p) 10 (b := 0) (Nat.le_refl 10) hS.2.1.2.1 hS.2.1.2.2 hS.1.1.2 (Int.le_refl 0) (by have := hS.2.1.2.2; omega)
  have pl0 := hS.2.1.2
  have ll := hS.1.1.2
  generalize hk : (qw_ l p 10 0).1 = k at lq
  generalize h2 : (qw_ l p 10 0).2 = p1 at lq
  refine e_X11_readsCommand rfl (fun K hK => ?_)
  have T39 : ∀ (s : bc_M), rqs_ σ l (c + 1) (if k = -1 then p else p1) (if k = -1 then p1 else -1) (up_ (up_ F (4 * c) k) (4 * c + 1) 1) s → K 39 [(0, bc_R 218), (1, bc_I (4 * c)), (2, bc_I k)] [bc_R 218] s 0 := by
    intro s Q
    have e17 := Q.1.2.2.1
    by_cases kn : k = -1
    · rw [if_pos kn] at Q
      rw [if_pos kn] at e17 Q
      refine hK.1 [] 60 _ _ _ _ _ ?_
      refine bc_ob_i (by rw [e17]; constructor <;> constructor <;> omega) ?_
      rw [e17]
      refine bc_br_i (fun c => absurd c (by omega)) (fun _ => ?_)
      refine h _ _ _ _ Q ⟨fun j hj => ?_, fun j => ?_, .inl ⟨by omega, h2.symm⟩⟩
      · rw [up_ne (by omega), up_ne (by omega)]
      · unfold up_
        (repeat' split) <;> first | exact .inl rfl | (refine .inr ?_; omega)
    · rw [if_neg kn] at Q
      rw [if_neg kn] at e17 Q
      have lp : 0 ≤ p1 ∧ p1 ≤ l.length := by omega
      have T47 : K 47 [(0, bc_R 218), (1, bc_I (4 * c)), (2, bc_I k)] [] s 0 := by
        have Q0 := Q
        have kk : k = 0 ∨ k = 1 ∨ k = 2 ∨ k = 3 ∨ k = 4 ∨ k = 5 ∨ k = 6 ∨ k = 7 ∨ k = 8 ∨ k = 9 := by omega
        rcases kk with rfl | rfl | rfl | rfl | rfl | rfl | rfl | rfl | rfl | rfl
        · refine hK.1 [] 400 _ _ _ _ _ ?_
          refine bc_ob_i (by decide) ?_
          refine bc_br_i (fun c => absurd c (by decide)) (fun _ => ?_)
          refine bc_ob_i (by decide) ?_
          refine bc_br_i (fun _ => ?_) (fun c => absurd (by decide) c)
          refine bc_ob_i (by decide) ?_
          refine bc_br_i (fun c => absurd c (by decide)) (fun _ => ?_)
          refine bc_ob_i (by decide) ?_
          refine bc_br_i (fun c => absurd c (by decide)) (fun _ => ?_)
          refine t_X11_digit Q0.1 (fun s1 x1 S1 G1 V1 => ?_)
          have Q1 := rqs_v Q0 S1 G1
          refine bc_ob_i (by omega) ?_
          have Q2 := rqs_n (i := 4 * c + 1) (v := x1) Q1
          refine bc_ob_i (by decide) ?_
          refine bc_br_i (fun _ => ?_) (fun c => absurd (by decide) c)
          refine t_X11_digit Q2.1 (fun s3 x3 S3 G3 V3 => ?_)
          have Q3 := rqs_v Q2 S3 G3
          refine bc_ob_i (by omega) ?_
          have Q4 := rqs_n (i := 4 * c + 2) (v := x3) Q3
          refine t_X11_blank Q4.1 (fun s5 S5 G5 => ?_)
          have Q5 := rqs_v Q4 S5 G5
          refine t_X11_number Q5.1 (fun s6 x6 S6 G6 V6 => ?_)
          have Q6 := rqs_v Q5 S6 G6
          refine bc_ob_i (by omega) ?_
          have Q7 := rqs_n (i := 4 * c + 3) (v := x6) Q6
          refine bc_ob_i (by decide) ?_
          refine bc_br_i (fun c => absurd c (by decide)) (fun _ => ?_)
          refine bc_ob_i (by decide) ?_
          refine bc_br_i (fun c => absurd c (by decide)) (fun _ => ?_)
          exact h _ _ _ _ Q7 (rcm_3 hk (by decide) (by decide) h2 lp.1 lp.2 rfl (fun q => absurd q.1 (by decide)) (rr_v (by decide) V1 (rr_v (by decide) V3 (rr_b (rr_v (by decide) V6 rr_0)))) (by decide) V1.1 V3.1 V6.1)
        · refine hK.1 [] 400 _ _ _ _ _ ?_
          refine bc_ob_i (by decide) ?_
          refine bc_br_i (fun c => absurd c (by decide)) (fun _ => ?_)
          refine bc_ob_i (by decide) ?_
          refine bc_br_i (fun _ => ?_) (fun c => absurd (by decide) c)
          refine bc_ob_i (by decide) ?_
          refine bc_br_i (fun c => absurd c (by decide)) (fun _ => ?_)
          refine bc_ob_i (by decide) ?_
          refine bc_br_i (fun c => absurd c (by decide)) (fun _ => ?_)
          refine t_X11_digit Q0.1 (fun s1 x1 S1 G1 V1 => ?_)
          have Q1 := rqs_v Q0 S1 G1
          refine bc_ob_i (by omega) ?_
          have Q2 := rqs_n (i := 4 * c + 1) (v := x1) Q1
          refine bc_ob_i (by decide) ?_
          refine bc_br_i (fun _ => ?_) (fun c => absurd (by decide) c)
          refine t_X11_digit Q2.1 (fun s3 x3 S3 G3 V3 => ?_)
          have Q3 := rqs_v Q2 S3 G3
          refine bc_ob_i (by omega) ?_
          have Q4 := rqs_n (i := 4 * c + 2) (v := x3) Q3
          refine t_X11_blank Q4.1 (fun s5 S5 G5 => ?_)
          have Q5 := rqs_v Q4 S5 G5
          refine t_X11_number Q5.1 (fun s6 x6 S6 G6 V6 => ?_)
          have Q6 := rqs_v Q5 S6 G6
          refine bc_ob_i (by omega) ?_
          have Q7 := rqs_n (i := 4 * c + 3) (v := x6) Q6
          refine bc_ob_i (by decide) ?_
          refine bc_br_i (fun c => absurd c (by decide)) (fun _ => ?_)
          refine bc_ob_i (by decide) ?_
          refine bc_br_i (fun c => absurd c (by decide)) (fun _ => ?_)
          exact h _ _ _ _ Q7 (rcm_3 hk (by decide) (by decide) h2 lp.1 lp.2 rfl (fun q => absurd q.1 (by decide)) (rr_v (by decide) V1 (rr_v (by decide) V3 (rr_b (rr_v (by decide) V6 rr_0)))) (by decide) V1.1 V3.1 V6.1)
        · refine hK.1 [] 400 _ _ _ _ _ ?_
          refine bc_ob_i (by decide) ?_
          refine bc_br_i (fun c => absurd c (by decide)) (fun _ => ?_)
          refine bc_ob_i (by decide) ?_
          refine bc_br_i (fun c => absurd c (by decide)) (fun _ => ?_)
          refine bc_ob_i (by decide) ?_
          refine bc_br_i (fun c => absurd c (by decide)) (fun _ => ?_)
          refine bc_ob_i (by decide) ?_
          refine bc_br_i (fun c => absurd c (by decide)) (fun _ => ?_)
          refine bc_ob_i (by decide) ?_
          refine bc_br_i (fun _ => ?_) (fun c => absurd (by decide) c)
          refine t_X11_number Q0.1 (fun s1 x1 S1 G1 V1 => ?_)
          have Q1 := rqs_v Q0 S1 G1
          refine bc_ob_i (by omega) ?_
          have Q2 := rqs_n (i := 4 * c + 1) (v := x1) Q1
          refine bc_ob_i (by decide) ?_
          refine bc_br_i (fun c => absurd c (by decide)) (fun _ => ?_)
          refine bc_ob_i (by decide) ?_
          refine bc_br_i (fun _ => ?_) (fun c => absurd (by decide) c)
          refine t_X11_blank Q2.1 (fun s3 S3 G3 => ?_)
          have Q3 := rqs_v Q2 S3 G3
          refine t_X11_number Q3.1 (fun s4 x4 S4 G4 V4 => ?_)
          have Q4 := rqs_v Q3 S4 G4
          refine bc_ob_i (by omega) ?_
          have Q5 := rqs_n (i := 4 * c + 2) (v := x4) Q4
          refine bc_ob_i (by decide) ?_
          refine bc_br_i (fun c => absurd c (by decide)) (fun _ => ?_)
          exact h _ _ _ _ Q5 (rcm_2 hk (by decide) (by decide) h2 lp.1 lp.2 rfl (fun q => absurd q.1 (by decide)) (rr_v (by decide) V1 (rr_b (rr_v (by decide) V4 rr_0))) (by decide) V1.1 V4.1)
        · refine hK.1 [] 400 _ _ _ _ _ ?_
          refine bc_ob_i (by decide) ?_
          refine bc_br_i (fun c => absurd c (by decide)) (fun _ => ?_)
          refine bc_ob_i (by decide) ?_
          refine bc_br_i (fun c => absurd c (by decide)) (fun _ => ?_)
          refine bc_ob_i (by decide) ?_
          refine bc_br_i (fun c => absurd c (by decide)) (fun _ => ?_)
          refine bc_ob_i (by decide) ?_
          refine bc_br_i (fun c => absurd c (by decide)) (fun _ => ?_)
          refine bc_ob_i (by decide) ?_
          refine bc_br_i (fun _ => ?_) (fun c => absurd (by decide) c)
          refine t_X11_number Q0.1 (fun s1 x1 S1 G1 V1 => ?_)
          have Q1 := rqs_v Q0 S1 G1
          refine bc_ob_i (by omega) ?_
          have Q2 := rqs_n (i := 4 * c + 1) (v := x1) Q1
          refine bc_ob_i (by decide) ?_
          refine bc_br_i (fun c => absurd c (by decide)) (fun _ => ?_)
          refine bc_ob_i (by decide) ?_
          refine bc_br_i (fun c => absurd c (by decide)) (fun _ => ?_)
          refine bc_ob_i (by decide) ?_
          refine bc_br_i (fun c => absurd c (by decide)) (fun _ => ?_)
          exact h _ _ _ _ Q2 (rcm_1 hk (by decide) (by decide) h2 lp.1 lp.2 rfl (fun q => absurd q.1 (by decide)) (rr_v (by decide) V1 rr_0) (by decide) V1.1)
        · refine hK.1 [] 400 _ _ _ _ _ ?_
          refine bc_ob_i (by decide) ?_
          refine bc_br_i (fun c => absurd c (by decide)) (fun _ => ?_)
          refine bc_ob_i (by decide) ?_
          refine bc_br_i (fun c => absurd c (by decide)) (fun _ => ?_)
          refine bc_ob_i (by decide) ?_
          refine bc_br_i (fun c => absurd c (by decide)) (fun _ => ?_)
          refine bc_ob_i (by decide) ?_
          refine bc_br_i (fun c => absurd c (by decide)) (fun _ => ?_)
          refine bc_ob_i (by decide) ?_
          refine bc_br_i (fun _ => ?_) (fun c => absurd (by decide) c)
          refine t_X11_number Q0.1 (fun s1 x1 S1 G1 V1 => ?_)
          have Q1 := rqs_v Q0 S1 G1
          refine bc_ob_i (by omega) ?_
          have Q2 := rqs_n (i := 4 * c + 1) (v := x1) Q1
          refine bc_ob_i (by decide) ?_
          refine bc_br_i (fun c => absurd c (by decide)) (fun _ => ?_)
          refine bc_ob_i (by decide) ?_
          refine bc_br_i (fun c => absurd c (by decide)) (fun _ => ?_)
          refine bc_ob_i (by decide) ?_
          refine bc_br_i (fun c => absurd c (by decide)) (fun _ => ?_)
          exact h _ _ _ _ Q2 (rcm_1 hk (by decide) (by decide) h2 lp.1 lp.2 rfl (fun q => absurd q.1 (by decide)) (rr_v (by decide) V1 rr_0) (by decide) V1.1)
        · refine hK.1 [] 400 _ _ _ _ _ ?_
          refine bc_ob_i (by decide) ?_
          refine bc_br_i (fun c => absurd c (by decide)) (fun _ => ?_)
          refine bc_ob_i (by decide) ?_
          refine bc_br_i (fun c => absurd c (by decide)) (fun _ => ?_)
          refine bc_ob_i (by decide) ?_
          refine bc_br_i (fun c => absurd c (by decide)) (fun _ => ?_)
          refine bc_ob_i (by decide) ?_
          refine bc_br_i (fun c => absurd c (by decide)) (fun _ => ?_)
          refine bc_ob_i (by decide) ?_
          refine bc_br_i (fun _ => ?_) (fun c => absurd (by decide) c)
          refine t_X11_number Q0.1 (fun s1 x1 S1 G1 V1 => ?_)
          have Q1 := rqs_v Q0 S1 G1
          refine bc_ob_i (by omega) ?_
          have Q2 := rqs_n (i := 4 * c + 1) (v := x1) Q1
          refine bc_ob_i (by decide) ?_
          refine bc_br_i (fun c => absurd c (by decide)) (fun _ => ?_)
          refine bc_ob_i (by decide) ?_
          refine bc_br_i (fun c => absurd c (by decide)) (fun _ => ?_)
          refine bc_ob_i (by decide) ?_
          refine bc_br_i (fun c => absurd c (by decide)) (fun _ => ?_)
          exact h _ _ _ _ Q2 (rcm_1 hk (by decide) (by decide) h2 lp.1 lp.2 rfl (fun q => absurd q.1 (by decide)) (rr_v (by decide) V1 rr_0) (by decide) V1.1)
        · refine hK.1 [] 400 _ _ _ _ _ ?_
          refine bc_ob_i (by decide) ?_
          refine bc_br_i (fun c => absurd c (by decide)) (fun _ => ?_)
          refine bc_ob_i (by decide) ?_
          refine bc_br_i (fun c => absurd c (by decide)) (fun _ => ?_)
          refine bc_ob_i (by decide) ?_
          refine bc_br_i (fun c => absurd c (by decide)) (fun _ => ?_)
          refine bc_ob_i (by decide) ?_
          refine bc_br_i (fun c => absurd c (by decide)) (fun _ => ?_)
          refine bc_ob_i (by decide) ?_
          refine bc_br_i (fun _ => ?_) (fun c => absurd (by decide) c)
          refine t_X11_number Q0.1 (fun s1 x1 S1 G1 V1 => ?_)
          have Q1 := rqs_v Q0 S1 G1
          refine bc_ob_i (by omega) ?_
          have Q2 := rqs_n (i := 4 * c + 1) (v := x1) Q1
          refine bc_ob_i (by decide) ?_
          refine bc_br_i (fun c => absurd c (by decide)) (fun _ => ?_)
          refine bc_ob_i (by decide) ?_
          refine bc_br_i (fun c => absurd c (by decide)) (fun _ => ?_)
          refine bc_ob_i (by decide) ?_
          refine bc_br_i (fun c => absurd c (by decide)) (fun _ => ?_)
          exact h _ _ _ _ Q2 (rcm_1 hk (by decide) (by decide) h2 lp.1 lp.2 rfl (fun q => absurd q.1 (by decide)) (rr_v (by decide) V1 rr_0) (by decide) V1.1)
        · refine hK.1 [] 400 _ _ _ _ _ ?_
          refine bc_ob_i (by decide) ?_
          refine bc_br_i (fun c => absurd c (by decide)) (fun _ => ?_)
          refine bc_ob_i (by decide) ?_
          refine bc_br_i (fun c => absurd c (by decide)) (fun _ => ?_)
          refine bc_ob_i (by decide) ?_
          refine bc_br_i (fun c => absurd c (by decide)) (fun _ => ?_)
          refine bc_ob_i (by decide) ?_
          refine bc_br_i (fun _ => ?_) (fun c => absurd (by decide) c)
          refine t_X11_kindOf Q0.1 (fun s1 x1 S1 G1 V1 => ?_)
          have Q1 := rqs_v Q0 S1 G1
          refine bc_ob_i (by omega) ?_
          have Q2 := rqs_n (i := 4 * c + 1) (v := x1) Q1
          refine bc_ob_i (by decide) ?_
          refine bc_br_i (fun c => absurd c (by decide)) (fun _ => ?_)
          refine bc_ob_i (by decide) ?_
          refine bc_br_i (fun c => absurd c (by decide)) (fun _ => ?_)
          refine bc_ob_i (by decide) ?_
          refine bc_br_i (fun c => absurd c (by decide)) (fun _ => ?_)
          exact h _ _ _ _ Q2 (rcm_1 hk (by decide) (by decide) h2 lp.1 lp.2 rfl (fun q => absurd q.1 (by decide)) (rr_v (by decide) V1 rr_0) (by decide) V1.1)
        · refine hK.1 [] 400 _ _ _ _ _ ?_
          refine bc_ob_i (by decide) ?_
          refine bc_br_i (fun c => absurd c (by decide)) (fun _ => ?_)
          refine bc_ob_i (by decide) ?_
          refine bc_br_i (fun c => absurd c (by decide)) (fun _ => ?_)
          refine bc_ob_i (by decide) ?_
          refine bc_br_i (fun _ => ?_) (fun c => absurd (by decide) c)
          refine bc_ob_i (by decide) ?_
          refine bc_br_i (fun c => absurd c (by decide)) (fun _ => ?_)
          refine bc_ob_i (by decide) ?_
          refine bc_br_i (fun c => absurd c (by decide)) (fun _ => ?_)
          refine t_X11_digit Q0.1 (fun s1 x1 S1 G1 V1 => ?_)
          have Q1 := rqs_v Q0 S1 G1
          refine bc_ob_i (by omega) ?_
          have Q2 := rqs_n (i := 4 * c + 1) (v := x1) Q1
          refine bc_ob_i (by decide) ?_
          refine bc_br_i (fun c => absurd c (by decide)) (fun _ => ?_)
          refine bc_ob_i (by decide) ?_
          refine bc_br_i (fun c => absurd c (by decide)) (fun _ => ?_)
          refine bc_ob_i (by decide) ?_
          refine bc_br_i (fun _ => ?_) (fun c => absurd (by decide) c)
          refine t_X11_blank Q2.1 (fun s3 S3 G3 => ?_)
          have Q3 := rqs_v Q2 S3 G3
          refine t_X11_kindOf Q3.1 (fun s4 x4 S4 G4 V4 => ?_)
          have Q4 := rqs_v Q3 S4 G4
          refine bc_ob_i (by omega) ?_
          have Q5 := rqs_n (i := 4 * c + 2) (v := x4) Q4
          refine t_X11_number Q5.1 (fun s6 x6 S6 G6 V6 => ?_)
          have Q6 := rqs_v Q5 S6 G6
          refine bc_ob_i (by omega) ?_
          have Q7 := rqs_n (i := 4 * c + 3) (v := x6) Q6
          exact h _ _ _ _ Q7 (rcm_3 hk (by decide) (by decide) h2 lp.1 lp.2 rfl (fun q => absurd q.1 (by decide)) (rr_v (by decide) V1 (rr_b (rr_v (by decide) V4 (rr_v (by decide) V6 rr_0)))) (by decide) V1.1 V4.1 V6.1)
        · refine hK.1 [] 90 _ _ _ _ _ ?_
          refine bc_ob_i (by decide) ?_
          refine bc_br_i (fun _ => ?_) (fun c => absurd (by decide) c)
          refine t_X11_letterHere Q0.1 ?_
          have a4 := Q0.1.1.2.2
          have lg := tg_le a4 p1
          refine bc_ob_i (by split <;> constructor <;> constructor <;> omega) ?_
          refine bc_br_i (fun q => ?_) (fun q => ?_)
          · have t : tg_ l p1 = 32 := by
              split at q
              · exact q
              · omega
            refine t_X11_blank Q0.1 (fun s1 S1 G1 => ?_)
            have Q1 := rqs_v Q0 S1 G1
            refine t_X11_number Q1.1 (fun s2 x2 S2 G2 V2 => ?_)
            have Q2 := rqs_v Q1 S2 G2
            refine bc_ob_i (by omega) ?_
            have Q3 := rqs_n (i := 4 * c + 1) (v := x2) Q2
            exact h _ _ _ _ Q3 (rcm_1 hk (by decide) (by decide) h2 lp.1 lp.2 rfl (fun k => k.2 t) (rr_b (rr_v (by decide) V2 rr_0)) (by decide) V2.1)
          · have t : tg_ l p1 ≠ 32 := by
              intro t
              have hp := (tg_in (l := l) (p := p1) (by omega)).2
              rw [if_pos hp] at q
              exact q t
            exact h _ _ _ _ Q0 (rcm_9 hk h2 t)
      refine hK.1 [47] 60 _ _ _ _ _ ?_
      refine bc_ob_i (by rw [e17]; decide) ?_
      rw [e17]
      refine bc_br_i (fun _ => T47) (fun c => absurd rfl c)
  refine hK.1 [39] 120 _ _ _ _ _ ?_
  refine t_X11_kindHere hS (fun s1 S1 G1 => ?_)
  rw [hk, h2] at S1
  rw [hk]
  have Q1 : rqs_ σ l c (if k = -1 then p else p1) (if k = -1 then p1 else -1) F s1 := ⟨S1, by rw [G1.1.1 227 (by decide)]; exact hF, by rw [G1.2 ((18 : Nat) : Int) (by decide)]; exact hc, fr_mono G1.1 (fun k hk => .inl hk), fun j hj => G1.2 j (fun e => hj (by rcases e with e | e <;> simp [e]))⟩
  have Q2 := rqs_n (i := 4 * c) (v := k) Q1
  have Q3 := rqs_n (i := 4 * c + 1) (v := 1) Q2
  have Q4 := rqs_t Q3
  have go := T39 _ Q4
  refine bc_ob_i (by omega) ?_
  refine bc_ob_i (by omega) ?_
  rw [← hc] at go
  exact go
end REF
