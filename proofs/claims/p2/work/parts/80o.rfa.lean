/-! the best way whole: class and reference lay the same joints -/
section WAY
variable {q : rw_t} {u v l : Int}
theorem md_0 (f : gr_t) (v0 : 0 ≤ v) (v1 : v < 8) : md_ f l v v = 0 := by
  have a := (md_iff f (l := l) (t := v) v0 v1 (n := 0) (by decide)).mpr rfl
  have b := (md_le f (l := l) (t := v) v0 v1).1
  omega
theorem md_z {f : gr_t} {x : Int} (x0 : 0 ≤ x) (x1 : x < 8) (h : md_ f l v x = 0) : x = v := (md_iff f (l := l) (t := v) x0 x1 (n := 0) (by decide)).mp (by omega)
theorem way_all (hW : wf_M q) (hu : uj_ q) (u0 : 0 ≤ u) (u1 : u < 8) (v0 : 0 ≤ v) (v1 : v < 8) (l1 : 1 ≤ l) (J : Int → Int) (h7 : md_ (sa_ q) l v u ≤ 7) : ∀ k : Nat, (k : Int) ≤ md_ (sa_ q) l v u → (jw_ (sa_ q) l u v (md_ (sa_ q) l v) J k).2 = k ∧ (∀ i : Nat, i ≤ k → (jw_ (sa_ q) l u v (md_ (sa_ q) l v) J k).1 (i : Int) = wy1_ (sa_ q) l (xm_ q l (-1) v 8) u i) ∧ (0 ≤ wy1_ (sa_ q) l (xm_ q l (-1) v 8) u k ∧ wy1_ (sa_ q) l (xm_ q l (-1) v 8) u k < 8) ∧ md_ (sa_ q) l v (wy1_ (sa_ q) l (xm_ q l (-1) v 8) u k) = md_ (sa_ q) l v u - k
  | 0, _ => by
    refine ⟨rfl, fun i hi => ?_, ⟨u0, u1⟩, by show md_ (sa_ q) l v u = _; omega⟩
    have i0 : i = 0 := by omega
    subst i0
    exact (up_at : up_ J 0 u 0 = u)
  | k + 1, hk => by
    obtain ⟨h2, h1, hr, hd⟩ := way_all hW hu u0 u1 v0 v1 l1 J h7 k (by omega)
    have eD : xm_ q l (-1) v 8 u = md_ (sa_ q) l v u := by
      rcases md_xm hW hu v0 v1 u0 u1 l1 with ⟨-, e⟩ | ⟨e, -⟩
      · exact e
      · omega
    have e1 : jw_ (sa_ q) l u v (md_ (sa_ q) l v) J (k + 1) = js_ (sa_ q) l v (md_ (sa_ q) l v) ((k : Int) + 1) (jw_ (sa_ q) l u v (md_ (sa_ q) l v) J k) := rfl
    have e2 : wy1_ (sa_ q) l (xm_ q l (-1) v 8) u (k + 1) = nx_ (sa_ q) l (xm_ q l (-1) v 8) (wy1_ (sa_ q) l (xm_ q l (-1) v 8) u k) (xm_ q l (-1) v 8 u - ((k : Int) + 1)) 8 := rfl
    have hk1 := h1 k (Nat.le_refl k)
    have hne : wy1_ (sa_ q) l (xm_ q l (-1) v 8) u k ≠ v := fun e => by
      rw [e, md_0 _ v0 v1] at hd
      omega
    obtain ⟨s1, s2, s3⟩ := way_step hW hu v0 v1 l1 hr.1 hr.2 (by omega) (by omega)
    have e3 : js_ (sa_ q) l v (md_ (sa_ q) l v) ((k : Int) + 1) (jw_ (sa_ q) l u v (md_ (sa_ q) l v) J k) = (up_ (jw_ (sa_ q) l u v (md_ (sa_ q) l v) J k).1 ((k : Int) + 1) (ln_ (sa_ q) l (md_ (sa_ q) l v) (wy1_ (sa_ q) l (xm_ q l (-1) v 8) u k)), (k : Int) + 1) := by
      unfold js_
      rw [show (k : Int) + 1 - 1 = (k : Int) by omega, if_pos ⟨h2, by rw [hk1]; exact hne⟩, hk1]
    have e4 : ln_ (sa_ q) l (md_ (sa_ q) l v) (wy1_ (sa_ q) l (xm_ q l (-1) v 8) u k) = wy1_ (sa_ q) l (xm_ q l (-1) v 8) u (k + 1) := by
      rw [e2, s1, eD, hd]
      congr 1
      omega
    rw [e1, e3]
    rw [e4] at s2 s3 ⊢
    refine ⟨rfl, fun i hi => ?_, s2, by rw [s3, hd]; omega⟩
    by_cases e : i = k + 1
    · subst e
      exact up_at
    · show up_ _ _ _ (i : Int) = _
      rw [up_ne (by omega)]
      exact h1 i (by omega)
/-- the way that the class lays, and the reference's -/
theorem way_fw (hW : wf_M q) (hu : uj_ q) (u0 : 0 ≤ u) (u1 : u < 8) (v0 : 0 ≤ v) (v1 : v < 8) (hne : u ≠ v) (J : Int → Int) (l1 : 1 ≤ wb_ (sa_ q) u v) : (1 ≤ (fw_ (sa_ q) u v J).2 ∧ (fw_ (sa_ q) u v J).2 ≤ 7) ∧ (fw_ (sa_ q) u v J).2 = xm_ q (wb_ (sa_ q) u v) (-1) v 8 u ∧ ∀ i : Nat, (i : Int) ≤ (fw_ (sa_ q) u v J).2 → (fw_ (sa_ q) u v J).1 (i : Int) = wy1_ (sa_ q) (wb_ (sa_ q) u v) (xm_ q (wb_ (sa_ q) u v) (-1) v 8) u i := by
  have hr := (wb_iff (f := sa_ q) u0 u1 v0 v1 (fun e => hne e.symm) l1).mp (Int.le_refl _)
  obtain ⟨m, hm⟩ := rch_rev (sa_sym q) 7 v v0 v1 hr
  have h7 := (md_iff (sa_ q) u0 u1 (n := 7) (Nat.le_refl 7)).mpr (rch_7 v0 v1 u0 u1 hm)
  have h0 := (md_le (sa_ q) (l := wb_ (sa_ q) u v) (t := v) u0 u1).1
  have hp : md_ (sa_ q) (wb_ (sa_ q) u v) v u ≠ 0 := fun e => hne (md_z u0 u1 e)
  unfold fw_
  generalize wb_ (sa_ q) u v = l at l1 hm h7 h0 hp ⊢
  have eD : xm_ q l (-1) v 8 u = md_ (sa_ q) l v u := by
    rcases md_xm hW hu v0 v1 u0 u1 l1 with ⟨-, e⟩ | ⟨e, -⟩
    · exact e
    · omega
  obtain ⟨a1, a2, a3, a4⟩ := way_all hW hu u0 u1 v0 v1 l1 J h7 (md_ (sa_ q) l v u).toNat (by omega)
  have ez := md_z a3.1 a3.2 (by rw [a4]; omega)
  have et : ((md_ (sa_ q) l v u).toNat : Int) = md_ (sa_ q) l v u := by omega
  have st := jw_stop (f := sa_ q) (l := l) (a := u) (b := v) (dd := md_ (sa_ q) l v) (J := J) (k := (md_ (sa_ q) l v u).toNat) (by omega) (.inr ((a2 _ (Nat.le_refl _)).trans ez)) (by rw [a1]; omega)
  rw [st, a1, eD]
  exact ⟨by omega, et, fun i hi => a2 i (by omega)⟩
end WAY
