/-! the best way of the class, and what is left of all that were tried -/
section P60W
variable {q : rw_t} {u v l : Int}
/-- the class's way, joint by joint -/
theorem fwp_ (hW : wf_M q) (hu : uj_ q) (u0 : 0 ≤ u) (u1 : u < 8) (v0 : 0 ≤ v) (v1 : v < 8) (hne : u ≠ v) (J : Int → Int) (l1 : 1 ≤ wb_ (sa_ q) u v) : (1 ≤ (fz_ (sa_ q) u v J).2 ∧ (fz_ (sa_ q) u v J).2 ≤ 7) ∧ (fz_ (sa_ q) u v J).2 = md_ (sa_ q) (wb_ (sa_ q) u v) v u ∧ (fz_ (sa_ q) u v J).1 0 = u ∧ (fz_ (sa_ q) u v J).1 (fz_ (sa_ q) u v J).2 = v ∧
    (∀ i : Int, 0 ≤ i → i ≤ (fz_ (sa_ q) u v J).2 → (0 ≤ (fz_ (sa_ q) u v J).1 i ∧ (fz_ (sa_ q) u v J).1 i < 8) ∧ md_ (sa_ q) (wb_ (sa_ q) u v) v ((fz_ (sa_ q) u v J).1 i) = (fz_ (sa_ q) u v J).2 - i) ∧
    ∀ i : Int, 0 ≤ i → i < (fz_ (sa_ q) u v J).2 → wb_ (sa_ q) u v ≤ sa_ q ((fz_ (sa_ q) u v J).1 i) ((fz_ (sa_ q) u v J).1 (i + 1)) ∧ ∀ j : Int, 0 ≤ j → j < (fz_ (sa_ q) u v J).1 (i + 1) → ¬ (wb_ (sa_ q) u v ≤ sa_ q ((fz_ (sa_ q) u v J).1 i) j ∧ md_ (sa_ q) (wb_ (sa_ q) u v) v j < md_ (sa_ q) (wb_ (sa_ q) u v) v ((fz_ (sa_ q) u v J).1 i)) := by
  obtain ⟨n1, n2, n3⟩ := way_fw hW hu u0 u1 v0 v1 hne J l1
  have ef : fz_ (sa_ q) u v J = fw_ (sa_ q) u v J := if_neg (by omega)
  rw [ef]
  generalize wb_ (sa_ q) u v = l at *
  generalize fw_ (sa_ q) u v J = p at *
  have eD : p.2 = md_ (sa_ q) l v u := by
    rcases md_xm hW hu v0 v1 u0 u1 l1 with ⟨-, e⟩ | ⟨-, e⟩
    · omega
    · omega
  have h7 : md_ (sa_ q) l v u ≤ 7 := by omega
  have al := way_all hW hu u0 u1 v0 v1 l1 J h7
  have at_ : ∀ i : Int, 0 ≤ i → i ≤ p.2 → (0 ≤ p.1 i ∧ p.1 i < 8) ∧ md_ (sa_ q) l v (p.1 i) = p.2 - i := fun i i0 i1 => by
    obtain ⟨-, -, a3, a4⟩ := al i.toNat (by omega)
    have e := n3 i.toNat (by omega)
    rw [Int.toNat_of_nonneg i0] at e a4
    rw [e]
    exact ⟨a3, by omega⟩
  refine ⟨n1, eD, ?_, ?_, at_, fun i i0 i1 => ?_⟩
  · have e := n3 0 (by omega)
    exact e
  · have e := at_ p.2 (by omega) (Int.le_refl _)
    exact md_z e.1.1 e.1.2 (show md_ (sa_ q) l v (p.1 p.2) = 0 by omega)
  · obtain ⟨b1, b2⟩ := at_ i i0 (by omega)
    obtain ⟨s1, s2, s3⟩ := way_step hW hu v0 v1 l1 b1.1 b1.2 (by omega) (by omega)
    have e1 := n3 (i.toNat + 1) (by omega)
    have e2 : wy1_ (sa_ q) l (xm_ q l (-1) v 8) u (i.toNat + 1) = nx_ (sa_ q) l (xm_ q l (-1) v 8) (wy1_ (sa_ q) l (xm_ q l (-1) v 8) u i.toNat) (xm_ q l (-1) v 8 u - ((i.toNat : Int) + 1)) 8 := rfl
    have e3 := n3 i.toNat (by omega)
    rw [Int.toNat_of_nonneg i0] at e3 e2
    rw [show ((i.toNat + 1 : Nat) : Int) = i + 1 by omega, e2, ← e3, ← n2] at e1
    rw [b2, show p.2 - i - 1 = p.2 - (i + 1) by omega, ← e1] at s1
    rw [s1] at s3
    have el : ln_ (sa_ q) l (md_ (sa_ q) l v) (p.1 i) = if lk_ (sa_ q) l (md_ (sa_ q) l v) (p.1 i) 8 = -1 then p.1 i else lk_ (sa_ q) l (md_ (sa_ q) l v) (p.1 i) 8 := rfl
    by_cases c : lk_ (sa_ q) l (md_ (sa_ q) l v) (p.1 i) 8 = -1
    · rw [if_pos c, s1] at el
      rw [el] at s3
      omega
    · rw [if_neg c, s1] at el
      rcases lk_spec (sa_ q) l (md_ (sa_ q) l v) (p.1 i) 8 with ⟨e, -⟩ | ⟨-, k1, k2⟩
      · exact absurd e c
      · rw [← el] at k1 k2
        exact ⟨k1.1, k2⟩
/-- a chain of members reaches -/
theorem chf_ {f : gr_t} {a c m : Int} {wy : Int → Int} (h0 : wy 0 = a) (hr : ∀ i : Int, 0 ≤ i → i ≤ m → 0 ≤ wy i ∧ wy i < 8) (he : ∀ i : Int, 0 ≤ i → i < m → c ≤ f (wy i) (wy (i + 1))) : ∀ n : Nat, (n : Int) ≤ m → rch_ f c a n (wy (n : Int))
  | 0, _ => h0
  | n + 1, h => .inr ⟨wy (n : Int), hr n (by omega) (by omega), chf_ h0 hr he n (by omega), he n (by omega) (by omega)⟩
theorem chb_ {f : gr_t} {b c m : Int} {wy : Int → Int} (hs : ∀ i j : Int, f i j = f j i) (h0 : wy m = b) (hr : ∀ i : Int, 0 ≤ i → i ≤ m → 0 ≤ wy i ∧ wy i < 8) (he : ∀ i : Int, 0 ≤ i → i < m → c ≤ f (wy i) (wy (i + 1))) : ∀ n : Nat, (n : Int) ≤ m → rch_ f c b n (wy (m - (n : Int)))
  | 0, _ => by
    show wy (m - ((0 : Nat) : Int)) = b
    rw [show m - ((0 : Nat) : Int) = m by omega]
    exact h0
  | n + 1, h => by
    refine .inr ⟨wy (m - (n : Int)), hr _ (by omega) (by omega), chb_ hs h0 hr he n (by omega), ?_⟩
    have := he (m - ((n + 1 : Nat) : Int)) (by omega) (by omega)
    rw [hs, show m - (n : Int) = m - ((n + 1 : Nat) : Int) + 1 by omega]
    exact this
/-- nothing is found where there is no way -/
theorem tbn_ (u0 : 0 ≤ u) (u1 : u < 8) (v0 : 0 ≤ v) (v1 : v < 8) (hne : u ≠ v) {bs : Int → Int} (h : tb1_ (sa_ q) u v bs) (hb : 1 ≤ bs 0) : bs 0 ≤ wb_ (sa_ q) u v := by
  rcases h with ⟨h, -⟩ | ⟨h1, h2, h3, h4, h5, h6⟩
  · omega
  · have := chf_ (f := sa_ q) (a := u) (c := bs 0) (m := bs 1) (wy := fun i => bs (2 + i)) (by show bs (2 + 0) = u; exact h3) h5 (fun i i0 i1 => by
      have := h6 i i0 i1
      rw [show 3 + i = 2 + (i + 1) by omega] at this
      exact this) (bs 1).toNat (by omega)
    have e : bs (2 + ((bs 1).toNat : Int)) = v := by
      rw [Int.toNat_of_nonneg h2.1]
      exact h4
    have this : rch_ (sa_ q) (bs 0) u (bs 1).toNat (bs (2 + ((bs 1).toNat : Int))) := this
    rw [e] at this
    exact (wb_iff (f := sa_ q) u0 u1 v0 v1 (fun e => hne e.symm) hb).mpr (rch_7 u0 u1 v0 v1 this)
/-- the best of all ways is the class's -/
theorem tbe_ (hW : wf_M q) (hu : uj_ q) (u0 : 0 ≤ u) (u1 : u < 8) (v0 : 0 ≤ v) (v1 : v < 8) (hne : u ≠ v) (J : Int → Int) (l1 : 1 ≤ wb_ (sa_ q) u v) {bs : Int → Int} (h : tb1_ (sa_ q) u v bs) (hg : tg1_ (wb_ (sa_ q) u v) (fz_ (sa_ q) u v J).2 (fz_ (sa_ q) u v J).1 bs) : bs 0 = wb_ (sa_ q) u v ∧ bs 1 = (fz_ (sa_ q) u v J).2 ∧ ∀ i : Int, 0 ≤ i → i ≤ bs 1 → bs (2 + i) = (fz_ (sa_ q) u v J).1 i := by
  obtain ⟨n1, n2, n3, n4, n5, n6⟩ := fwp_ hW hu u0 u1 v0 v1 hne J l1
  have hb : 1 ≤ bs 0 := by
    rcases hg with hg | ⟨hg, -⟩ <;> omega
  have up := tbn_ u0 u1 v0 v1 hne h hb
  generalize wb_ (sa_ q) u v = l at *
  generalize fz_ (sa_ q) u v J = p at *
  rcases hg with hg | ⟨e0, hg⟩
  · omega
  · rcases h with ⟨h, -⟩ | ⟨h1, h2, h3, h4, h5, h6⟩
    · omega
    · have h6' : ∀ i : Int, 0 ≤ i → i < bs 1 → l ≤ sa_ q (bs (2 + i)) (bs (2 + (i + 1))) := fun i i0 i1 => by
        have := h6 i i0 i1
        rw [show 3 + i = 2 + (i + 1) by omega, e0] at this
        exact this
      have cb : ∀ n : Nat, (n : Int) ≤ bs 1 → md_ (sa_ q) l v (bs (2 + (bs 1 - (n : Int)))) ≤ n := fun n hn => by
        have := chb_ (f := sa_ q) (b := v) (c := l) (m := bs 1) (wy := fun i => bs (2 + i)) (sa_sym q) h4 h5 h6' n hn
        have hr := h5 (bs 1 - (n : Int)) (by omega) (by omega)
        exact (md_iff (sa_ q) hr.1 hr.2 (by omega)).mpr this
      have len : p.2 ≤ bs 1 := by
        have := cb (bs 1).toNat (by omega)
        rw [Int.toNat_of_nonneg h2.1, show 2 + (bs 1 - bs 1) = 2 by omega, h3] at this
        omega
      have e1 : bs 1 = p.2 := by
        rcases hg with hg | ⟨hg, -⟩ <;> omega
      refine ⟨e0, e1, ?_⟩
      rcases hg with hg | ⟨-, hg | ⟨k, k0, k1, k2, k3⟩⟩
      · omega
      · intro i i0 i1
        exact hg i i0 (by omega)
      · exfalso
        have kp : 1 ≤ k := by
          rcases Int.lt_or_le k 1 with c | c
          · have ek : k = 0 := by omega
            rw [ek, n3, show (2 : Int) + 0 = 2 by omega, h3] at k3
            omega
          · exact c
        obtain ⟨-, low⟩ := n6 (k - 1) (by omega) (by omega)
        have ex := k2 (k - 1) (by omega) (by omega)
        have hr := h5 k k0 (by omega)
        rw [show k - 1 + 1 = k by omega] at low
        refine low (bs (2 + k)) hr.1 k3 ⟨?_, ?_⟩
        · have := h6' (k - 1) (by omega) (by omega)
          rw [show k - 1 + 1 = k by omega, ex] at this
          exact this
        · have a1 := cb (bs 1 - k).toNat (by omega)
          rw [Int.toNat_of_nonneg (by omega), show bs 1 - (bs 1 - k) = k by omega] at a1
          have a2 := (n5 (k - 1) (by omega) (by omega)).2
          omega
/-- the class's way is one of those that are tried -/
theorem tpe_ (hW : wf_M q) (hu : uj_ q) (u0 : 0 ≤ u) (u1 : u < 8) (v0 : 0 ≤ v) (v1 : v < 8) (hne : u ≠ v) (J : Int → Int) (l1 : 1 ≤ wb_ (sa_ q) u v) (l9 : wb_ (sa_ q) u v ≤ 99) : tp1_ (sa_ q) v (wb_ (sa_ q) u v) (fz_ (sa_ q) u v J).2 (fz_ (sa_ q) u v J).1 := by
  obtain ⟨n1, n2, n3, n4, n5, n6⟩ := fwp_ hW hu u0 u1 v0 v1 hne J l1
  refine ⟨by omega, by omega, n4, fun i i0 i1 => (n5 i i0 i1).1, fun i i0 i1 => (n6 i i0 i1).1, fun i j i0 i1 j0 j1 e => ?_⟩
  have a1 := (n5 i i0 i1).2
  have a2 := (n5 j j0 j1).2
  rw [e, a2] at a1
  omega
end P60W
