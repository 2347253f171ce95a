/-! the reference looks -/
section ZRE
variable {g : bc_C} {d : Nat} {σ : bc_M} {B : Int} {v : cs_t} {Rr : Option bc_A → bc_M → Prop} {X : Nat → bc_M → Prop}
theorem z_firstJoint {m : Int} (J : jnt_ B σ v) (hB : B ≤ 999000) (hm : bc_in m) (f : ∀ (σ2 : bc_M) (t u : Int), jnt_ B σ2 v → σ2.1 218 ((14 : Nat) : Int) = t → (0 ≤ t ∧ t ≤ 4) → ((t = 1 ∧ ¬ (0 ≤ m ∧ m < (c_r v) 3)) ∨ (t = 0 ∧ (0 ≤ m ∧ m < (c_r v) 3) ∧ u = (c_r v) (16 + 6 * m))) → σ2.2 = σ.2 → Rr (some (bc_I u)) σ2) : bc_Sem g (d + 20) mX11_firstJoint [bc_R 218, bc_I m] σ Rr X := by
  have W := jo_wu J
  have N := J.2.2.1.1
  refine t_X11_firstJoint N W.1 hm (fun c s R => ?_) (fun c s R => ?_)
  · exact f s 1 0 (jo_roc J R) R.1 (by decide) (.inl ⟨rfl, c⟩) R.2.1.2
  · exact f s 0 _ (jo_roc J R) R.1 (by decide) (.inr ⟨rfl, c, rfl⟩) R.2.1.2
theorem z_secondJoint {m : Int} (J : jnt_ B σ v) (hB : B ≤ 999000) (hm : bc_in m) (f : ∀ (σ2 : bc_M) (t u : Int), jnt_ B σ2 v → σ2.1 218 ((14 : Nat) : Int) = t → (0 ≤ t ∧ t ≤ 4) → ((t = 1 ∧ ¬ (0 ≤ m ∧ m < (c_r v) 3)) ∨ (t = 0 ∧ (0 ≤ m ∧ m < (c_r v) 3) ∧ u = (c_r v) (17 + 6 * m))) → σ2.2 = σ.2 → Rr (some (bc_I u)) σ2) : bc_Sem g (d + 20) mX11_secondJoint [bc_R 218, bc_I m] σ Rr X := by
  have W := jo_wu J
  have N := J.2.2.1.1
  refine t_X11_secondJoint N W.1 hm (fun c s R => ?_) (fun c s R => ?_)
  · exact f s 1 0 (jo_roc J R) R.1 (by decide) (.inl ⟨rfl, c⟩) R.2.1.2
  · exact f s 0 _ (jo_roc J R) R.1 (by decide) (.inr ⟨rfl, c, rfl⟩) R.2.1.2
theorem z_crack {m : Int} (J : jnt_ B σ v) (hB : B ≤ 999000) (hm : bc_in m) (f : ∀ (σ2 : bc_M) (t u : Int), jnt_ B σ2 v → σ2.1 218 ((14 : Nat) : Int) = t → (0 ≤ t ∧ t ≤ 4) → ((t = 1 ∧ ¬ (0 ≤ m ∧ m < (c_r v) 3)) ∨ (t = 0 ∧ (0 ≤ m ∧ m < (c_r v) 3) ∧ u = (c_r v) (19 + 6 * m))) → σ2.2 = σ.2 → Rr (some (bc_I u)) σ2) : bc_Sem g (d + 20) mX11_crack [bc_R 218, bc_I m] σ Rr X := by
  have W := jo_wu J
  have N := J.2.2.1.1
  refine t_X11_crack N W.1 hm (fun c s R => ?_) (fun c s R => ?_)
  · exact f s 1 0 (jo_roc J R) R.1 (by decide) (.inl ⟨rfl, c⟩) R.2.1.2
  · exact f s 0 _ (jo_roc J R) R.1 (by decide) (.inr ⟨rfl, c, rfl⟩) R.2.1.2
theorem z_wear {m : Int} (J : jnt_ B σ v) (hB : B ≤ 999000) (hm : bc_in m) (f : ∀ (σ2 : bc_M) (t u : Int), jnt_ B σ2 v → σ2.1 218 ((14 : Nat) : Int) = t → (0 ≤ t ∧ t ≤ 4) → ((t = 1 ∧ ¬ (0 ≤ m ∧ m < (c_r v) 3)) ∨ (t = 0 ∧ (0 ≤ m ∧ m < (c_r v) 3) ∧ u = (c_r v) (20 + 6 * m))) → σ2.2 = σ.2 → Rr (some (bc_I u)) σ2) : bc_Sem g (d + 20) mX11_wear [bc_R 218, bc_I m] σ Rr X := by
  have W := jo_wu J
  have N := J.2.2.1.1
  refine t_X11_wear N W.1 hm (fun c s R => ?_) (fun c s R => ?_)
  · exact f s 1 0 (jo_roc J R) R.1 (by decide) (.inl ⟨rfl, c⟩) R.2.1.2
  · exact f s 0 _ (jo_roc J R) R.1 (by decide) (.inr ⟨rfl, c, rfl⟩) R.2.1.2
theorem z_isAbandoned {m : Int} (J : jnt_ B σ v) (hB : B ≤ 999000) (hm : bc_in m) (f : ∀ (σ2 : bc_M) (t u : Int), jnt_ B σ2 v → σ2.1 218 ((14 : Nat) : Int) = t → (0 ≤ t ∧ t ≤ 4) → ((t = 1 ∧ ¬ (0 ≤ m ∧ m < (c_r v) 3)) ∨ (t = 0 ∧ (0 ≤ m ∧ m < (c_r v) 3) ∧ u = (if (c_r v) (21 + 6 * m) = 1 then 1 else 0))) → σ2.2 = σ.2 → Rr (some (bc_I u)) σ2) : bc_Sem g (d + 20) mX11_isAbandoned [bc_R 218, bc_I m] σ Rr X := by
  have W := jo_wu J
  have N := J.2.2.1.1
  refine t_X11_isAbandoned N W.1 hm (fun c s R => ?_) (fun c s R => ?_)
  · exact f s 1 0 (jo_roc J R) R.1 (by decide) (.inl ⟨rfl, c⟩) R.2.1.2
  · exact f s 0 _ (jo_roc J R) R.1 (by decide) (.inr ⟨rfl, c, rfl⟩) R.2.1.2
theorem z_bearing {m : Int} (J : jnt_ B σ v) (hB : B ≤ 999000) (hm : bc_in m) (f : ∀ (σ2 : bc_M) (t u : Int), jnt_ B σ2 v → σ2.1 218 ((14 : Nat) : Int) = t → (0 ≤ t ∧ t ≤ 4) → ((t = 1 ∧ ¬ (0 ≤ m ∧ m < (c_r v) 3)) ∨ (t = 0 ∧ (0 ≤ m ∧ m < (c_r v) 3) ∧ u = br_ (c_r v) m)) → σ2.2 = σ.2 → Rr (some (bc_I u)) σ2) : bc_Sem g (d + 20) mX11_bearing [bc_R 218, bc_I m] σ Rr X := by
  have W := jo_wu J
  have N := J.2.2.1.1
  refine t_X11_bearing N W.1 hm (fun c s R => ?_) (fun c s R => ?_)
  · exact f s 1 0 (jo_roc J R) R.1 (by decide) (.inl ⟨rfl, c⟩) R.2.1.2
  · exact f s 0 _ (jo_roc J R) R.1 (by decide) (.inr ⟨rfl, c, rfl⟩) R.2.1.2
theorem z_repairCost {m : Int} (J : jnt_ B σ v) (hB : B ≤ 999000) (hm : bc_in m) (f : ∀ (σ2 : bc_M) (t u : Int), jnt_ B σ2 v → σ2.1 218 ((14 : Nat) : Int) = t → (0 ≤ t ∧ t ≤ 4) → ((t = 1 ∧ ¬ (0 ≤ m ∧ m < (c_r v) 3)) ∨ (t = 0 ∧ (0 ≤ m ∧ m < (c_r v) 3) ∧ u = co_ (c_r v) m)) → σ2.2 = σ.2 → Rr (some (bc_I u)) σ2) : bc_Sem g (d + 20) mX11_repairCost [bc_R 218, bc_I m] σ Rr X := by
  have W := jo_wu J
  have N := J.2.2.1.1
  refine t_X11_repairCost N W.1 hm (fun c s R => ?_) (fun c s R => ?_)
  · exact f s 1 0 (jo_roc J R) R.1 (by decide) (.inl ⟨rfl, c⟩) R.2.1.2
  · exact f s 0 _ (jo_roc J R) R.1 (by decide) (.inr ⟨rfl, c, rfl⟩) R.2.1.2
theorem z_isCritical {m : Int} (J : jnt_ B σ v) (hB : B ≤ 999000) (hm : bc_in m) (f : ∀ (σ2 : bc_M) (t u : Int), jnt_ B σ2 v → σ2.1 218 ((14 : Nat) : Int) = t → (0 ≤ t ∧ t ≤ 4) → ((t = 1 ∧ ¬ (0 ≤ m ∧ m < (c_r v) 3)) ∨ (t = 0 ∧ (0 ≤ m ∧ m < (c_r v) 3) ∧ u = acr_ (c_r v) m)) → σ2.2 = σ.2 → Rr (some (bc_I u)) σ2) : bc_Sem g (d + 20) mX11_isCritical [bc_R 218, bc_I m] σ Rr X := by
  have W := jo_wu J
  have N := J.2.2.1.1
  refine t_X11_isCritical N W.1 hm (fun c s R => ?_) (fun c s R => ?_)
  · exact f s 1 0 (jo_roc J R) R.1 (by decide) (.inl ⟨rfl, c⟩) R.2.1.2
  · exact f s 0 _ (jo_roc J R) R.1 (by decide) (.inr ⟨rfl, c, rfl⟩) R.2.1.2
theorem z_isCriticalByRemoval {m : Int} (J : jnt_ B σ v) (hB : B ≤ 999000) (hm : bc_in m) (f : ∀ (σ2 : bc_M) (t u : Int), jnt_ B σ2 v → σ2.1 218 ((14 : Nat) : Int) = t → (0 ≤ t ∧ t ≤ 4) → ((t = 1 ∧ ¬ (0 ≤ m ∧ m < (c_r v) 3)) ∨ (t = 0 ∧ (0 ≤ m ∧ m < (c_r v) 3) ∧ u = acr_ (c_r v) m)) → σ2.2 = σ.2 → Rr (some (bc_I u)) σ2) : bc_Sem g (d + 20) mX11_isCriticalByRemoval [bc_R 218, bc_I m] σ Rr X := by
  have W := jo_wu J
  have N := J.2.2.1.1
  refine t_X11_isCriticalByRemoval N W.1 hm (fun c s R => ?_) (fun c s R => ?_)
  · exact f s 1 0 (jo_roc J R) R.1 (by decide) (.inl ⟨rfl, c⟩) R.2.1.2
  · exact f s 0 _ (jo_roc J R) R.1 (by decide) (.inr ⟨rfl, c, rfl⟩) R.2.1.2
theorem z_strain {m l : Int} (J : jnt_ B σ v) (hB : B ≤ 999000) (hm : bc_in m) (hl : bc_in l) (f : ∀ (σ2 : bc_M) (t : Int) (u : UInt32), jnt_ B σ2 v → σ2.1 218 ((14 : Nat) : Int) = t → (0 ≤ t ∧ t ≤ 4) → (t = stt_ (c_r v) m ∧ (t = 0 → u = stv_ (c_r v) m l)) → σ2.2 = σ.2 → Rr (some (bc_F u)) σ2) : bc_Sem g (d + 20) mX11_strain [bc_R 218, bc_I m, bc_I l] σ Rr X := by
  have W := jo_wu J
  have N := J.2.2.1.1
  have ls := stt_le (c_r v) m
  refine t_X11_strain N W.1 hm (fun c s R => ?_) (fun c s R => ?_)
  · exact f s _ _ (jo_roc J R) R.1 (by omega) ⟨rfl, fun e => absurd e c⟩ R.2.1.2
  · exact f s 0 _ (jo_roc J R) R.1 (by decide) ⟨c.symm, fun _ => rfl⟩ R.2.1.2
theorem z_strainBits {m l : Int} (J : jnt_ B σ v) (hB : B ≤ 999000) (hm : bc_in m) (hl : bc_in l) (f : ∀ (σ2 : bc_M) (t u : Int), jnt_ B σ2 v → σ2.1 218 ((14 : Nat) : Int) = t → (0 ≤ t ∧ t ≤ 4) → (t = stt_ (c_r v) m ∧ (t = 0 → u = (stv_ (c_r v) m l).toInt32.toInt)) → σ2.2 = σ.2 → Rr (some (bc_I u)) σ2) : bc_Sem g (d + 20) mX11_strainBits [bc_R 218, bc_I m, bc_I l] σ Rr X := by
  have W := jo_wu J
  have N := J.2.2.1.1
  have ls := stt_le (c_r v) m
  refine t_X11_strainBits N W.1 hm (fun c s R => ?_) (fun c s R => ?_)
  · exact f s _ _ (jo_roc J R) R.1 (by omega) ⟨rfl, fun e => absurd e c⟩ R.2.1.2
  · exact f s 0 _ (jo_roc J R) R.1 (by decide) ⟨c.symm, fun _ => rfl⟩ R.2.1.2
theorem z_links (J : jnt_ B σ v) (hB : B ≤ 999000) (f : ∀ (σ2 : bc_M) (t : Int) (u : Int64), jnt_ B σ2 v → σ2.1 218 ((14 : Nat) : Int) = t → (0 ≤ t ∧ t ≤ 4) → (t = 0 ∧ u = lnk_ (c_r v) ((c_r v) 3).toNat) → σ2.2 = σ.2 → Rr (some (bc_J u)) σ2) : bc_Sem g (d + 20) mX11_links [bc_R 218] σ Rr X := by
  have W := jo_wu J
  have N := J.2.2.1.1
  refine t_X11_links N W.1 (fun s R => ?_)
  exact f s 0 _ (jo_roc J R) R.1 (by decide) ⟨rfl, rfl⟩ R.2.1.2
theorem z_widestLoad {a b : Int} (J : jnt_ B σ v) (hB : B ≤ 999000) (ha : bc_in a) (hb : bc_in b) (f : ∀ (σ2 : bc_M) (t u : Int), jnt_ B σ2 v → σ2.1 218 ((14 : Nat) : Int) = t → (0 ≤ t ∧ t ≤ 4) → (t = atw_ (c_r v) a b ∧ (t = 0 → u = xw_ (c_r v) a 8 b)) → σ2.2 = σ.2 → Rr (some (bc_I u)) σ2) : bc_Sem g (d + 20) mX11_widestLoad [bc_R 218, bc_I a, bc_I b] σ Rr X := by
  have W := jo_wu J
  have N := J.2.2.1.1
  have la := atw_le (c_r v) a b
  refine t_X11_widestLoad N W.1 ha hb (fun c s R => ?_) (fun c s R => ?_)
  · exact f s _ 0 (jo_roc J R) R.1 (by omega) ⟨rfl, fun e => absurd e c⟩ R.2.1.2
  · exact f s 0 _ (jo_roc J R) R.1 (by decide) ⟨c.symm, fun _ => rfl⟩ R.2.1.2
theorem z_widestLoadByTrial {a b : Int} (J : jnt_ B σ v) (hB : B ≤ 999000) (ha : bc_in a) (hb : bc_in b) (f : ∀ (σ2 : bc_M) (t u : Int), jnt_ B σ2 v → σ2.1 218 ((14 : Nat) : Int) = t → (0 ≤ t ∧ t ≤ 4) → (t = atw_ (c_r v) a b ∧ (t = 0 → u = xw_ (c_r v) a 8 b)) → σ2.2 = σ.2 → Rr (some (bc_I u)) σ2) : bc_Sem g (d + 20) mX11_widestLoadByTrial [bc_R 218, bc_I a, bc_I b] σ Rr X := by
  have W := jo_wu J
  have N := J.2.2.1.1
  have la := atw_le (c_r v) a b
  refine t_X11_widestLoadByTrial N W.1 ha hb (fun c s R => ?_) (fun c s R => ?_)
  · exact f s _ 0 (jo_roc J R) R.1 (by omega) ⟨rfl, fun e => absurd e c⟩ R.2.1.2
  · exact f s 0 _ (jo_roc J R) R.1 (by decide) ⟨c.symm, fun _ => rfl⟩ R.2.1.2
theorem z_wayLength {a b : Int} (J : jnt_ B σ v) (hB : B ≤ 999000) (ha : bc_in a) (hb : bc_in b) (f : ∀ (σ2 : bc_M) (t u : Int), jnt_ B σ2 v → σ2.1 218 ((14 : Nat) : Int) = t → (0 ≤ t ∧ t ≤ 4) → (t = atw_ (c_r v) a b ∧ (t = 0 → u = xm_ (c_r v) (xw_ (c_r v) a 8 b) (-1) b 8 a)) → σ2.2 = σ.2 → Rr (some (bc_I u)) σ2) : bc_Sem g (d + 20) mX11_wayLength [bc_R 218, bc_I a, bc_I b] σ Rr X := by
  have W := jo_wu J
  have N := J.2.2.1.1
  have la := atw_le (c_r v) a b
  refine t_X11_wayLength N W.1 W.2.2.2 ha hb (fun c s R => ?_) (fun c s R => ?_)
  · exact f s _ 0 (jo_roc J R) R.1 (by omega) ⟨rfl, fun e => absurd e c⟩ R.2.1.2
  · exact f s 0 _ (jo_roc J R) R.1 (by decide) ⟨c.symm, fun _ => rfl⟩ R.2.1.2
theorem z_wayJoint {a b i : Int} (J : jnt_ B σ v) (hB : B ≤ 999000) (ha : bc_in a) (hb : bc_in b) (hi : bc_in i) (f : ∀ (σ2 : bc_M) (t u : Int), jnt_ B σ2 v → σ2.1 218 ((14 : Nat) : Int) = t → (0 ≤ t ∧ t ≤ 4) → ((atw_ (c_r v) a b ≠ 0 ∧ t = atw_ (c_r v) a b) ∨ (atw_ (c_r v) a b = 0 ∧ ¬ (0 ≤ i ∧ i ≤ xm_ (c_r v) (xw_ (c_r v) a 8 b) (-1) b 8 a) ∧ t = 3) ∨ (atw_ (c_r v) a b = 0 ∧ (0 ≤ i ∧ i ≤ xm_ (c_r v) (xw_ (c_r v) a 8 b) (-1) b 8 a) ∧ t = 0 ∧ u = wyJ_ (c_r v) a b i)) → σ2.2 = σ.2 → Rr (some (bc_I u)) σ2) : bc_Sem g (d + 20) mX11_wayJoint [bc_R 218, bc_I a, bc_I b, bc_I i] σ Rr X := by
  have W := jo_wu J
  have N := J.2.2.1.1
  have la := atw_le (c_r v) a b
  refine t_X11_wayJoint N W.1 W.2.2.2 ha hb hi (fun c s R => ?_) (fun c e s R => ?_) (fun c e s R => ?_)
  · exact f s _ 0 (jo_roc J R) R.1 (by omega) (.inl ⟨c, rfl⟩) R.2.1.2
  · exact f s 3 0 (jo_roc J R) R.1 (by decide) (.inr (.inl ⟨c, e, rfl⟩)) R.2.1.2
  · exact f s 0 _ (jo_roc J R) R.1 (by decide) (.inr (.inr ⟨c, e, rfl, rfl⟩)) R.2.1.2
theorem z_affordableLoad {a b : Int} (J : jnt_ B σ v) (hB : B ≤ 999000) (ha : bc_in a) (hb : bc_in b) (f : ∀ (σ2 : bc_M) (t u : Int), jnt_ B σ2 v → σ2.1 218 ((14 : Nat) : Int) = t → (0 ≤ t ∧ t ≤ 4) → (True) → σ2.2 = σ.2 → Rr (some (bc_I u)) σ2) : bc_Sem g (d + 20) mX11_affordableLoad [bc_R 218, bc_I a, bc_I b] σ Rr X := by
  have W := jo_wu J
  have N := J.2.2.1.1
  refine t_X11_affordableLoad N W.1 W.2.2.1 (by omega) ha hb (fun t x s ht hx R => ?_)
  exact f s t x (jo_roc J R) R.1 (by omega) trivial R.2.1.2
theorem z_affordableLoadByTable {a b : Int} (J : jnt_ B σ v) (hB : B ≤ 999000) (ha : bc_in a) (hb : bc_in b) (f : ∀ (σ2 : bc_M) (t u : Int), jnt_ B σ2 v → σ2.1 218 ((14 : Nat) : Int) = t → (0 ≤ t ∧ t ≤ 4) → (True) → σ2.2 = σ.2 → Rr (some (bc_I u)) σ2) : bc_Sem g (d + 20) mX11_affordableLoadByTable [bc_R 218, bc_I a, bc_I b] σ Rr X := by
  have W := jo_wu J
  have N := J.2.2.1.1
  refine t_X11_affordableLoadByTable N W.1 W.2.2.1 (by omega) ha hb (fun t x s ht hx R => ?_)
  exact f s t x (jo_roc J R) R.1 (by omega) trivial R.2.1.2
theorem z_memberByBearing {a : Int} (J : jnt_ B σ v) (hB : B ≤ 999000) (ha : bc_in a) (f : ∀ (σ2 : bc_M) (t u : Int), jnt_ B σ2 v → σ2.1 218 ((14 : Nat) : Int) = t → (0 ≤ t ∧ t ≤ 4) → ((t = 1 ∧ rkx_ (c_r v) a ((c_r v) 3) (-1)) ∨ (t = 0 ∧ 0 ≤ u ∧ rkx_ (c_r v) a ((c_r v) 3) u)) → σ2.2 = σ.2 → Rr (some (bc_I u)) σ2) : bc_Sem g (d + 20) mX11_memberByBearing [bc_R 218, bc_I a] σ Rr X := by
  have W := jo_wu J
  have N := J.2.2.1.1
  refine t_X11_memberByBearing N W.1 ha (fun c s R => ?_) (fun x x0 c s R => ?_)
  · exact f s 1 0 (jo_roc J R) R.1 (by decide) (.inl ⟨rfl, c⟩) R.2.1.2
  · exact f s 0 x (jo_roc J R) R.1 (by decide) (.inr ⟨rfl, x0, c⟩) R.2.1.2
theorem z_vowAt {a : Int} (J : jnt_ B σ v) (hB : B ≤ 999000) (ha : bc_in a) (f : ∀ (σ2 : bc_M) (t u : Int), jnt_ B σ2 v → σ2.1 218 ((14 : Nat) : Int) = t → (0 ≤ t ∧ t ≤ 4) → ((t = 1 ∧ vkx_ (c_r v) a ((c_r v) 4) (-1)) ∨ (t = 0 ∧ 0 ≤ u ∧ vkx_ (c_r v) a ((c_r v) 4) u)) → σ2.2 = σ.2 → Rr (some (bc_I u)) σ2) : bc_Sem g (d + 20) mX11_vowAt [bc_R 218, bc_I a] σ Rr X := by
  have W := jo_wu J
  have N := J.2.2.1.1
  refine t_X11_vowAt N W.2.2.1 (by omega) ha (fun c s R => ?_) (fun x x0 c s R => ?_)
  · exact f s 1 0 (jo_roc J R) R.1 (by decide) (.inl ⟨rfl, c⟩) R.2.1.2
  · exact f s 0 x (jo_roc J R) R.1 (by decide) (.inr ⟨rfl, x0, c⟩) R.2.1.2
theorem z_dueDay {a : Int} (J : jnt_ B σ v) (hB : B ≤ 999000) (ha : bc_in a) (f : ∀ (σ2 : bc_M) (t u : Int), jnt_ B σ2 v → σ2.1 218 ((14 : Nat) : Int) = t → (0 ≤ t ∧ t ≤ 4) → ((t = 1 ∧ vwp_ (c_r v) a (-1)) ∨ (t = 0 ∧ ∃ x : Int, 0 ≤ x ∧ vwp_ (c_r v) a x ∧ u = (c_r v) (113 + 3 * x))) → σ2.2 = σ.2 → Rr (some (bc_I u)) σ2) : bc_Sem g (d + 20) mX11_dueDay [bc_R 218, bc_I a] σ Rr X := by
  have W := jo_wu J
  have N := J.2.2.1.1
  refine t_X11_dueDay N W.2.2.1 (by omega) ha (fun c s R => ?_) (fun x x0 c s R => ?_)
  · exact f s 1 0 (jo_roc J R) R.1 (by decide) (.inl ⟨rfl, c⟩) R.2.1.2
  · exact f s 0 _ (jo_roc J R) R.1 (by decide) (.inr ⟨rfl, x, x0, c, rfl⟩) R.2.1.2
theorem z_amount {a : Int} (J : jnt_ B σ v) (hB : B ≤ 999000) (ha : bc_in a) (f : ∀ (σ2 : bc_M) (t u : Int), jnt_ B σ2 v → σ2.1 218 ((14 : Nat) : Int) = t → (0 ≤ t ∧ t ≤ 4) → ((t = 1 ∧ vwp_ (c_r v) a (-1)) ∨ (t = 0 ∧ ∃ x : Int, 0 ≤ x ∧ vwp_ (c_r v) a x ∧ u = (c_r v) (114 + 3 * x))) → σ2.2 = σ.2 → Rr (some (bc_I u)) σ2) : bc_Sem g (d + 20) mX11_amount [bc_R 218, bc_I a] σ Rr X := by
  have W := jo_wu J
  have N := J.2.2.1.1
  refine t_X11_amount N W.2.2.1 (by omega) ha (fun c s R => ?_) (fun x x0 c s R => ?_)
  · exact f s 1 0 (jo_roc J R) R.1 (by decide) (.inl ⟨rfl, c⟩) R.2.1.2
  · exact f s 0 _ (jo_roc J R) R.1 (by decide) (.inr ⟨rfl, x, x0, c, rfl⟩) R.2.1.2
theorem z_greatestVow {a : Int} (J : jnt_ B σ v) (hB : B ≤ 999000) (ha : bc_in a) (f : ∀ (σ2 : bc_M) (t u : Int), jnt_ B σ2 v → σ2.1 218 ((14 : Nat) : Int) = t → (0 ≤ t ∧ t ≤ 4) → ((t = 1 ∧ ¬ ((c_r v) 0 < a ∧ a ≤ (c_r v) 0 + 50)) ∨ (t = 2 ∧ ((c_r v) 0 < a ∧ a ≤ (c_r v) 0 + 50) ∧ kpa_ (c_r v) 0) ∨ (t = 0 ∧ ((c_r v) 0 < a ∧ a ≤ (c_r v) 0 + 50) ∧ kpa_ (c_r v) 1 ∧ gv_ (c_r v) a ((c_r v) 4) u)) → σ2.2 = σ.2 → Rr (some (bc_I u)) σ2) : bc_Sem g (d + 20) mX11_greatestVow [bc_R 218, bc_I a] σ Rr X := by
  have W := jo_wu J
  have N := J.2.2.1.1
  refine t_X11_greatestVow N W.2.2.1 (by omega) ha (fun c s R => ?_) (fun c k s R => ?_) (fun c k x hx s R => ?_)
  · exact f s 1 0 (jo_roc J R) R.1 (by decide) (.inl ⟨rfl, c⟩) R.2.1.2
  · exact f s 2 0 (jo_roc J R) R.1 (by decide) (.inr (.inl ⟨rfl, c, k⟩)) R.2.1.2
  · exact f s 0 x (jo_roc J R) R.1 (by decide) (.inr (.inr ⟨rfl, c, k, hx⟩)) R.2.1.2
theorem z_canKeepAll (J : jnt_ B σ v) (hB : B ≤ 999000) (f : ∀ (σ2 : bc_M) (t u : Int), jnt_ B σ2 v → σ2.1 218 ((14 : Nat) : Int) = t → (0 ≤ t ∧ t ≤ 4) → (t = 0 ∧ kpa_ (c_r v) u) → σ2.2 = σ.2 → Rr (some (bc_I u)) σ2) : bc_Sem g (d + 20) mX11_canKeepAll [bc_R 218] σ Rr X := by
  have W := jo_wu J
  have N := J.2.2.1.1
  refine t_X11_canKeepAll N W.2.2.1 (by omega) (fun s x k R => ?_)
  exact f s 0 x (jo_roc J R) R.1 (by decide) ⟨rfl, k⟩ R.2.1.2
theorem z_canKeepAllBySums (J : jnt_ B σ v) (hB : B ≤ 999000) (f : ∀ (σ2 : bc_M) (t u : Int), jnt_ B σ2 v → σ2.1 218 ((14 : Nat) : Int) = t → (0 ≤ t ∧ t ≤ 4) → (t = 0 ∧ kpa_ (c_r v) u) → σ2.2 = σ.2 → Rr (some (bc_I u)) σ2) : bc_Sem g (d + 20) mX11_canKeepAllBySums [bc_R 218] σ Rr X := by
  have W := jo_wu J
  have N := J.2.2.1.1
  refine t_X11_canKeepAllBySums N W.2.2.1 (by omega) (fun s x k R => ?_)
  exact f s 0 x (jo_roc J R) R.1 (by decide) ⟨rfl, k⟩ R.2.1.2
theorem z_memberCount (J : jnt_ B σ v) (hB : B ≤ 999000) (f : ∀ (σ2 : bc_M) (t u : Int), jnt_ B σ2 v → σ2.1 218 ((14 : Nat) : Int) = t → (0 ≤ t ∧ t ≤ 4) → (t = 0 ∧ u = (c_r v) 3) → σ2.2 = σ.2 → Rr (some (bc_I u)) σ2) : bc_Sem g (d + 20) mX11_memberCount [bc_R 218] σ Rr X := by
  have W := jo_wu J
  have N := J.2.2.1.1
  refine t_X11_memberCount N (fun s R => ?_)
  exact f s 0 _ (jo_roc J R) R.1 (by decide) ⟨rfl, rfl⟩ R.2.1.2
theorem z_vowCount (J : jnt_ B σ v) (hB : B ≤ 999000) (f : ∀ (σ2 : bc_M) (t u : Int), jnt_ B σ2 v → σ2.1 218 ((14 : Nat) : Int) = t → (0 ≤ t ∧ t ≤ 4) → (t = 0 ∧ u = (c_r v) 4) → σ2.2 = σ.2 → Rr (some (bc_I u)) σ2) : bc_Sem g (d + 20) mX11_vowCount [bc_R 218] σ Rr X := by
  have W := jo_wu J
  have N := J.2.2.1.1
  refine t_X11_vowCount N (fun s R => ?_)
  exact f s 0 _ (jo_roc J R) R.1 (by decide) ⟨rfl, rfl⟩ R.2.1.2
theorem z_keptTotal (J : jnt_ B σ v) (hB : B ≤ 999000) (f : ∀ (σ2 : bc_M) (t u : Int), jnt_ B σ2 v → σ2.1 218 ((14 : Nat) : Int) = t → (0 ≤ t ∧ t ≤ 4) → (t = 0 ∧ u = (c_r v) 6) → σ2.2 = σ.2 → Rr (some (bc_I u)) σ2) : bc_Sem g (d + 20) mX11_keptTotal [bc_R 218] σ Rr X := by
  have W := jo_wu J
  have N := J.2.2.1.1
  refine t_X11_keptTotal N (fun s R => ?_)
  exact f s 0 _ (jo_roc J R) R.1 (by decide) ⟨rfl, rfl⟩ R.2.1.2
theorem z_brokenTotal (J : jnt_ B σ v) (hB : B ≤ 999000) (f : ∀ (σ2 : bc_M) (t u : Int), jnt_ B σ2 v → σ2.1 218 ((14 : Nat) : Int) = t → (0 ≤ t ∧ t ≤ 4) → (t = 0 ∧ u = (c_r v) 7) → σ2.2 = σ.2 → Rr (some (bc_I u)) σ2) : bc_Sem g (d + 20) mX11_brokenTotal [bc_R 218] σ Rr X := by
  have W := jo_wu J
  have N := J.2.2.1.1
  refine t_X11_brokenTotal N (fun s R => ?_)
  exact f s 0 _ (jo_roc J R) R.1 (by decide) ⟨rfl, rfl⟩ R.2.1.2
theorem z_steel (J : jnt_ B σ v) (hB : B ≤ 999000) (f : ∀ (σ2 : bc_M) (t u : Int), jnt_ B σ2 v → σ2.1 218 ((14 : Nat) : Int) = t → (0 ≤ t ∧ t ≤ 4) → (t = 0 ∧ u = (c_r v) 1) → σ2.2 = σ.2 → Rr (some (bc_I u)) σ2) : bc_Sem g (d + 20) mX11_steel [bc_R 218] σ Rr X := by
  have W := jo_wu J
  have N := J.2.2.1.1
  refine t_X11_steel N (fun s R => ?_)
  exact f s 0 _ (jo_roc J R) R.1 (by decide) ⟨rfl, rfl⟩ R.2.1.2
theorem z_day (J : jnt_ B σ v) (hB : B ≤ 999000) (f : ∀ (σ2 : bc_M) (t u : Int), jnt_ B σ2 v → σ2.1 218 ((14 : Nat) : Int) = t → (0 ≤ t ∧ t ≤ 4) → (t = 0 ∧ u = (c_r v) 0) → σ2.2 = σ.2 → Rr (some (bc_I u)) σ2) : bc_Sem g (d + 20) mX11_day [bc_R 218] σ Rr X := by
  have W := jo_wu J
  have N := J.2.2.1.1
  refine t_X11_day N (fun s R => ?_)
  exact f s 0 _ (jo_roc J R) R.1 (by decide) ⟨rfl, rfl⟩ R.2.1.2
theorem z_nicheKind (J : jnt_ B σ v) (hB : B ≤ 999000) (f : ∀ (σ2 : bc_M) (t u : Int), jnt_ B σ2 v → σ2.1 218 ((14 : Nat) : Int) = t → (0 ≤ t ∧ t ≤ 4) → (t = 0 ∧ u = (c_r v) 11) → σ2.2 = σ.2 → Rr (some (bc_I u)) σ2) : bc_Sem g (d + 20) mX11_nicheKind [bc_R 218] σ Rr X := by
  have W := jo_wu J
  have N := J.2.2.1.1
  refine t_X11_nicheKind N W.2.1 (fun s R => ?_)
  exact f s 0 _ (jo_roc J R) R.1 (by decide) ⟨rfl, rfl⟩ R.2.1.2
theorem z_nicheWeight (J : jnt_ B σ v) (hB : B ≤ 999000) (f : ∀ (σ2 : bc_M) (t u : Int), jnt_ B σ2 v → σ2.1 218 ((14 : Nat) : Int) = t → (0 ≤ t ∧ t ≤ 4) → (t = 0 ∧ u = tw_ (c_r v)) → σ2.2 = σ.2 → Rr (some (bc_I u)) σ2) : bc_Sem g (d + 20) mX11_nicheWeight [bc_R 218] σ Rr X := by
  have W := jo_wu J
  have N := J.2.2.1.1
  refine t_X11_nicheWeight N (fun s R => ?_)
  exact f s 0 _ (jo_roc J R) R.1 (by decide) ⟨rfl, rfl⟩ R.2.1.2
theorem z_steelByAccounts (J : jnt_ B σ v) (hB : B ≤ 999000) (f : ∀ (σ2 : bc_M) (t u : Int), jnt_ B σ2 v → σ2.1 218 ((14 : Nat) : Int) = t → (0 ≤ t ∧ t ≤ 4) → (t = 0 ∧ u = (c_r v) 1) → σ2.2 = σ.2 → Rr (some (bc_I u)) σ2) : bc_Sem g (d + 20) mX11_steelByAccounts [bc_R 218] σ Rr X := by
  have W := jo_wu J
  have N := J.2.2.1.1
  have e1 := W.2.2.1.2.2.2.2.2.2.2.2.2.2.2.1
  refine t_X11_steelByAccounts N (fun s R => ?_)
  exact f s 0 _ (jo_roc J R) R.1 (by decide) ⟨rfl, e1.symm⟩ R.2.1.2
theorem z_isConsistent (J : jnt_ B σ v) (hB : B ≤ 999000) (f : ∀ (σ2 : bc_M) (t u : Int), jnt_ B σ2 v → σ2.1 218 ((14 : Nat) : Int) = t → (0 ≤ t ∧ t ≤ 4) → (t = 0 ∧ u = 1) → σ2.2 = σ.2 → Rr (some (bc_I u)) σ2) : bc_Sem g (d + 20) mX11_isConsistent [bc_R 218] σ Rr X := by
  have W := jo_wu J
  have N := J.2.2.1.1
  refine t_X11_isConsistent (fun s R => ?_)
  exact f s 0 _ (jo_roc J R) R.1 (by decide) ⟨rfl, rfl⟩ R.2.1.2
theorem z_meanBearing (J : jnt_ B σ v) (hB : B ≤ 999000) (f : ∀ (σ2 : bc_M) (t : Int) (u : UInt64), jnt_ B σ2 v → σ2.1 218 ((14 : Nat) : Int) = t → (0 ≤ t ∧ t ≤ 4) → ((t = 1 ∧ (c_r v) 3 = 0) ∨ (t = 0 ∧ 0 < (c_r v) 3 ∧ u = FP.ddiv (FP.i2d (Int32.ofInt (sm_ (br_ (c_r v)) ((c_r v) 3).toNat))) (FP.i2d (Int32.ofInt ((c_r v) 3))))) → σ2.2 = σ.2 → Rr (some (bc_D u)) σ2) : bc_Sem g (d + 20) mX11_meanBearing [bc_R 218] σ Rr X := by
  have W := jo_wu J
  have N := J.2.2.1.1
  refine t_X11_meanBearing N W.1 (fun c s R => ?_) (fun c s R => ?_)
  · exact f s 1 _ (jo_roc J R) R.1 (by decide) (.inl ⟨rfl, c⟩) R.2.1.2
  · exact f s 0 _ (jo_roc J R) R.1 (by decide) (.inr ⟨rfl, c, rfl⟩) R.2.1.2
theorem z_crackedShare (J : jnt_ B σ v) (hB : B ≤ 999000) (f : ∀ (σ2 : bc_M) (t : Int) (u : UInt32), jnt_ B σ2 v → σ2.1 218 ((14 : Nat) : Int) = t → (0 ≤ t ∧ t ≤ 4) → ((t = 1 ∧ (c_r v) 3 = 0) ∨ (t = 0 ∧ 0 < (c_r v) 3 ∧ u = FP.fdiv (FP.i2f (Int32.ofInt (sm_ (fun k => if 0 < (c_r v) (19 + 6 * k) then 1 else 0) ((c_r v) 3).toNat))) (FP.i2f (Int32.ofInt ((c_r v) 3))))) → σ2.2 = σ.2 → Rr (some (bc_F u)) σ2) : bc_Sem g (d + 20) mX11_crackedShare [bc_R 218] σ Rr X := by
  have W := jo_wu J
  have N := J.2.2.1.1
  refine t_X11_crackedShare N W.1 (fun c s R => ?_) (fun c s R => ?_)
  · exact f s 1 _ (jo_roc J R) R.1 (by decide) (.inl ⟨rfl, c⟩) R.2.1.2
  · exact f s 0 _ (jo_roc J R) R.1 (by decide) (.inr ⟨rfl, c, rfl⟩) R.2.1.2
theorem z_outputAt {i : Int} (J : jnt_ B σ v) (hB : B ≤ 999000) (hi : bc_in i) (f : ∀ (σ2 : bc_M) (t u : Int), jnt_ B σ2 v → σ2.1 218 ((14 : Nat) : Int) = t → (0 ≤ t ∧ t ≤ 4) → ((t = 1 ∧ ¬ (0 ≤ i ∧ i < (c_o v).length)) ∨ (t = 0 ∧ (0 ≤ i ∧ i < (c_o v).length) ∧ u = tg_ (c_o v) i)) → σ2.2 = σ.2 → Rr (some (bc_I u)) σ2) : bc_Sem g (d + 20) mX11_outputAt [bc_R 218, bc_I i] σ Rr X := by
  have W := jo_wu J
  have N := J.2.2.1.1
  refine t_X11_outputAt J.2.2.2.2.2.2.2.2.1 hi (fun c s R => ?_) (fun c s R => ?_)
  · exact f s 1 0 (jo_roc J R) R.1 (by decide) (.inl ⟨rfl, c⟩) R.2.1.2
  · exact f s 0 _ (jo_roc J R) R.1 (by decide) (.inr ⟨rfl, c, rfl⟩) R.2.1.2
theorem z_errorPosition (J : jnt_ B σ v) (hB : B ≤ 999000) (f : ∀ (σ2 : bc_M) (t u : Int), jnt_ B σ2 v → σ2.1 218 ((14 : Nat) : Int) = t → (0 ≤ t ∧ t ≤ 4) → ((t = 1 ∧ c_le v = -1) ∨ (t = 0 ∧ c_le v ≠ -1 ∧ u = c_le v)) → σ2.2 = σ.2 → Rr (some (bc_I u)) σ2) : bc_Sem g (d + 20) mX11_errorPosition [bc_R 218] σ Rr X := by
  have W := jo_wu J
  have N := J.2.2.1.1
  refine t_X11_errorPosition J.2.2.2.2.2.1 J.1.2.2.2.2.2.2.2.2.1.2 (fun c s R => ?_) (fun c s R => ?_)
  · exact f s 1 0 (jo_roc J R) R.1 (by decide) (.inl ⟨rfl, c⟩) R.2.1.2
  · exact f s 0 _ (jo_roc J R) R.1 (by decide) (.inr ⟨rfl, c, rfl⟩) R.2.1.2
theorem z_failedCommand (J : jnt_ B σ v) (hB : B ≤ 999000) (f : ∀ (σ2 : bc_M) (t u : Int), jnt_ B σ2 v → σ2.1 218 ((14 : Nat) : Int) = t → (0 ≤ t ∧ t ≤ 4) → ((t = 1 ∧ c_lf v = -1) ∨ (t = 0 ∧ c_lf v ≠ -1 ∧ u = c_lf v)) → σ2.2 = σ.2 → Rr (some (bc_I u)) σ2) : bc_Sem g (d + 20) mX11_failedCommand [bc_R 218] σ Rr X := by
  have W := jo_wu J
  have N := J.2.2.1.1
  have lf := J.1.2.2.2.2.2.2.2.2.2.2
  refine t_X11_failedCommand J.2.2.2.2.2.2.1 (by omega) (fun c s R => ?_) (fun c s R => ?_)
  · exact f s 1 0 (jo_roc J R) R.1 (by decide) (.inl ⟨rfl, c⟩) R.2.1.2
  · exact f s 0 _ (jo_roc J R) R.1 (by decide) (.inr ⟨rfl, c, rfl⟩) R.2.1.2
end ZRE
