/-! class and reference side by side -/
/-- the reference's cells are as before -/
def yo_ (σ σ' : bc_M) : Prop := ∀ k : Nat, 218 ≤ k → σ'.1 k = σ.1 k
theorem yo_rf (σ : bc_M) : yo_ σ σ := fun _ _ => rfl
theorem yo_fr {P : Nat → Prop} {σ σ' : bc_M} (h : fr_ P σ σ') (hp : ∀ k, P k → k ≤ 217) : yo_ σ σ' := fun k hk => h.1 k (fun q => by have := hp k q; omega)
theorem ob_le (k : Nat) (h : ob_ k) : k ≤ 217 := h.1
theorem ov_le (k : Nat) (h : ov_ k) : k ≤ 217 := h
/-- the reference holds row r, history h, saved row sn (if hs = 1), marks le, lf, the typed text l, the line o -/
def rf2_ (σ : bc_M) (v : cs_t) : Prop := rg_ σ (c_r v) (c_h v) ∧ (c_hs v = 1 → nw_ σ 221 (c_sn v)) ∧ σ.1 218 ((4 : Nat) : Int) = c_hs v ∧ σ.1 218 ((6 : Nat) : Int) = c_le v ∧ σ.1 218 ((7 : Nat) : Int) = c_lf v ∧ tyt_ σ (c_l v) ∧ liq_ σ (c_o v) ∧ ∀ j : Int, -1 ≤ σ.1 227 j ∧ σ.1 227 j ≤ 999
/-- each pair of joints once, in every row that may come back -/
def ujs_ (v : cs_t) : Prop := uj_ (c_r v) ∧ (∀ q ∈ c_h v, uj_ q) ∧ (c_hs v = 1 → uj_ (c_sn v))
/-- both hold the same -/
def jnt_ (B : Int) (σ : bc_M) (v : cs_t) : Prop := fa_ B σ v ∧ ujs_ v ∧ rf2_ σ v
theorem rf2_yo {σ σ' : bc_M} {v : cs_t} (h : rf2_ σ v) (y : yo_ σ σ') : rf2_ σ' v := by
  have y8 := y 218 (by decide)
  have y5 := y 225 (by decide)
  have y6 := y 226 (by decide)
  obtain ⟨⟨g1, g2, g3, g4⟩, h2, h3, h4, h5, ⟨t1, t2, t3⟩, ⟨l1, l2, l3, l4⟩, h8⟩ := h
  refine ⟨⟨fun j a b => by rw [y 219 (by decide)]; exact g1 j a b, by rw [y8]; exact g2, g3, fun t ht j a b => by rw [y 222 (by decide)]; exact g4 t ht j a b⟩, fun e j a b => by rw [y 221 (by decide)]; exact h2 e j a b, by rw [y8]; exact h3, by rw [y8]; exact h4, by rw [y8]; exact h5, ⟨by rw [y8]; exact t1, t2, fun j hj => by rw [y5]; exact t3 j hj⟩, ⟨by rw [y8]; exact l1, l2, fun j hj => by rw [y6]; exact l3 j hj, l4⟩, fun j => by rw [y 227 (by decide)]; exact h8 j⟩
theorem fa_2 {B : Int} {σ : bc_M} {v : cs_t} {x : Int64} {y : UInt64} (h : fa_ B σ v) : fa_ B (σ.1, x, y) v := h
theorem rf2_2 {σ : bc_M} {v : cs_t} {x : Int64} {y : UInt64} (h : rf2_ σ v) : rf2_ (σ.1, x, y) v := h
theorem jo_2 {B : Int} {σ : bc_M} {v : cs_t} {x : Int64} {y : UInt64} (h : jnt_ B σ v) : jnt_ B (σ.1, x, y) v := h
theorem fa_ref {P : Nat → Prop} {B : Int} {σ σ' : bc_M} {v : cs_t} (h : fa_ B σ v) (hf : fr_ P σ σ') (hp : ∀ k, P k → 218 ≤ k) : fa_ B σ' v := fa_x h hf (fun k q => .inr (.inr (hp k q)))
theorem jo_wu {B : Int} {σ : bc_M} {v : cs_t} (h : jnt_ B σ v) : wu_ B (c_r v) := ⟨h.1.1.1.2.1, h.1.1.1.2.2.1, h.1.1.1.2.2.2, h.2.1.1⟩
theorem jo_mono {B B' : Int} {σ : bc_M} {v : cs_t} (h : jnt_ B σ v) (hb : B ≤ B') : jnt_ B' σ v := ⟨fa_mono h.1 hb, h.2⟩
/-- the class has only looked -/
theorem jo_cls {B : Int} {σ σ' : bc_M} {v : cs_t} (h : jnt_ B σ v) (F : fa_ B σ' v) (y : yo_ σ σ') : jnt_ B σ' v := ⟨F, h.2.1, rf2_yo h.2.2 y⟩
theorem tyt_fr {P : Nat → Prop} {σ σ' : bc_M} {l : List Int} (h : tyt_ σ l) (hf : fr_ P σ σ') (hp : ¬ P 225) (e : σ'.1 218 ((11 : Nat) : Int) = σ.1 218 ((11 : Nat) : Int)) : tyt_ σ' l := ⟨by rw [e]; exact h.1, h.2.1, fun j hj => by rw [hf.1 225 hp]; exact h.2.2 j hj⟩
theorem liq_fr {P : Nat → Prop} {σ σ' : bc_M} {l : List Int} (h : liq_ σ l) (hf : fr_ P σ σ') (hp : ¬ P 226) (e : σ'.1 218 ((13 : Nat) : Int) = σ.1 218 ((13 : Nat) : Int)) : liq_ σ' l := ⟨by rw [e]; exact h.1, lnt_fr h.2 hf hp⟩
/-- what of the reference's cells stays, when S of its numbers may change -/
theorem rf2_gen {P : Nat → Prop} {S : Int → Prop} {σ σ' : bc_M} {v : cs_t} {r : rw_t} {h : List rw_t} (H : rf2_ σ v) (G : rg_ σ' r h) (hf : fr_ P σ σ') (hj : fj_ S σ σ') (p1 : ¬ P 221) (p2 : ¬ P 225) (p3 : ¬ P 226) (p4 : ¬ P 227) (s4 : ¬ S 4) (s6 : ¬ S 6) (s7 : ¬ S 7) (s11 : ¬ S 11) (s13 : ¬ S 13) {n : Int} : rf2_ σ' (u_h (u_r v r) h n) := by
  obtain ⟨-, h2, h3, h4, h5, h6, h7, h8⟩ := H
  exact ⟨G, fun e => nw_fr (h2 e) hf p1, by rw [hj ((4 : Nat) : Int) s4]; exact h3, by rw [hj ((6 : Nat) : Int) s6]; exact h4, by rw [hj ((7 : Nat) : Int) s7]; exact h5, tyt_fr h6 hf p2 (hj _ s11), liq_fr h7 hf p3 (hj _ s13), fun j => by rw [hf.1 227 p4]; exact h8 j⟩
/-- the reference has only looked -/
theorem jo_roc {B t : Int} {σ σ' : bc_M} {v : cs_t} (h : jnt_ B σ v) (R : roc_ t σ σ') : jnt_ B σ' v :=
  ⟨fa_ref h.1 R.2.1 (by omega), h.2.1, rf2_gen (n := c_n v) h.2.2 ⟨nw_fr h.2.2.1.1 R.2.1 (by decide), mh_fr h.2.2.1.2 R.2.1 (by decide) (R.2.2 _ (by decide))⟩ R.2.1 R.2.2 (by decide) (by decide) (by decide) (by decide) (by decide) (by decide) (by decide) (by decide) (by decide)⟩
theorem ujs_hr {h : List rw_t} {r : rw_t} (hh : ∀ q ∈ h, uj_ q) (hr : uj_ r) : ∀ q ∈ hr_ h r, uj_ q := fun q hq => by
  have := List.mem_of_mem_take hq
  rcases List.mem_cons.mp this with e | e
  · rw [e]; exact hr
  · exact hh q e
/-- both have changed the row -/
theorem jo_spo {B B1 t : Int} {σ σ1 σ2 : bc_M} {v v1 : cs_t} {r : rw_t} {h : List rw_t} {n : Int} (J : jnt_ B σ v) (F : fa_ B1 σ1 v1) (y : yo_ σ σ1) (e : v1 = u_h (u_r v r) h n) (hu : uj_ r) (hh : ∀ q ∈ h, uj_ q) (S : spo_ t r h σ1 σ2) : jnt_ B1 σ2 v1 := by
  subst e
  exact ⟨fa_ref F S.2.2.1 (by omega), ⟨hu, hh, J.2.1.2.2⟩, rf2_gen (rf2_yo J.2.2 y) S.1 S.2.2.1 S.2.2.2 (by decide) (by decide) (by decide) (by decide) (by decide) (by decide) (by decide) (by decide) (by decide)⟩
theorem spo_ex {t : Int} {q : rw_t} {h : List rw_t} {σ σ' : bc_M} (h1 : rg_ σ' q h) (h2 : σ'.1 218 ((14 : Nat) : Int) = t) (h3 : fr_ ex_ σ σ') (h4 : fj_ ej_ σ σ') : spo_ t q h σ σ' := ⟨h1, h2, ey_ex h3, h4⟩
/-- the reference has refused -/
theorem jo_no {B t : Int} {σ σ' : bc_M} {v : cs_t} (J : jnt_ B σ v) (S : spo_ t (c_r v) (c_h v) σ σ') : jnt_ B σ' v := jo_spo (n := c_n v) J J.1 (yo_rf σ) rfl J.2.1.1 J.2.1.2.1 S
