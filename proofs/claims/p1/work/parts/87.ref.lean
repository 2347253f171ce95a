/-! the reference's fresh object, its calls in one form -/
def rf_ (σ : bc_M) : Prop := nw_ σ 219 r0_ ∧ mh_ σ [] ∧ σ.1 218 ((4 : Nat) : Int) = 0 ∧ σ.1 218 ((6 : Nat) : Int) = -1 ∧ σ.1 218 ((7 : Nat) : Int) = -1 ∧ σ.1 218 ((11 : Nat) : Int) = 0 ∧ σ.1 218 ((13 : Nat) : Int) = 0
theorem rf_yo {σ σ' : bc_M} (h : rf_ σ) (y : yo_ σ σ') : rf_ σ' := by
  obtain ⟨h1, ⟨h2, h3, h4⟩, h5, h6, h7, h8, h9⟩ := h
  have y8 := y 218 (by decide)
  refine ⟨fun j a b => by rw [y 219 (by decide)]; exact h1 j a b, ⟨by rw [y8]; exact h2, h3, fun t ht => absurd ht (by simp)⟩, by rw [y8]; exact h5, by rw [y8]; exact h6, by rw [y8]; exact h7, by rw [y8]; exact h8, by rw [y8]; exact h9⟩
theorem ex_fr {σ σ' : bc_M} (h : fr_ ex_ σ σ') : fr_ (fun k => 218 ≤ k) σ σ' := fr_mono h (fun k hk => by rcases hk with rfl | rfl | rfl | rfl <;> decide)
section ZRE
variable {g : bc_C} {d : Nat} {σ : bc_M} {Rr : Option bc_A → bc_M → Prop} {X : Nat → bc_M → Prop}
theorem z_addMember {a b s : Int} (hR : rf_ σ) (ha : bc_in a) (hb : bc_in b) (hs : bc_in s) (f : ∀ (σ' : bc_M) (t u : Int), t = adt_ a b s → (t = 0 → u = 0) → lpo_ t σ σ' → Rr (some (bc_I u)) σ') : bc_Sem g (d + 20) mX11_addMember [bc_R 218, bc_I a, bc_I b, bc_I s] σ Rr X := by
  exact m_addMember hR.1 hR.2.1 r0_M r0_3 ha hb hs (fun σ' l => f σ' _ 0 rfl (fun _ => rfl) l)
theorem z_procession {a b n : Int} (hR : rf_ σ) (ha : bc_in a) (hb : bc_in b) (hn : bc_in n) (f : ∀ (σ' : bc_M) (t u : Int), t = wat_ a b n → (t = 0 → u = 0) → lpo_ t σ σ' → Rr (some (bc_I u)) σ') : bc_Sem g (d + 20) mX11_procession [bc_R 218, bc_I a, bc_I b, bc_I n] σ Rr X := by
  exact m_procession hR.1 hR.2.1 r0_3 (by rw [tw0]; decide) ha hb hn (fun σ' l => f σ' _ 0 rfl (fun _ => rfl) l)
theorem z_makeVow {a u0 : Int} (hR : rf_ σ) (ha : bc_in a) (hu0 : bc_in u0) (f : ∀ (σ' : bc_M) (t u : Int), t = (if vq_ r0_ a u0 = 0 then 0 else 1) → (t = 0 → u = 0) → lpo_ t σ σ' → Rr (some (bc_I u)) σ') : bc_Sem g (d + 20) mX11_makeVow [bc_R 218, bc_I a, bc_I u0] σ Rr X := by
  refine t_X11_makeVow ⟨hR.1, hR.2.1⟩ (by rw [r0_0]; decide) (by rw [r0_4]; decide) ha hu0 (fun c σ' _ t F _ => ?_) (fun c σ' _ t F _ => ?_)
  · have h2 := vq0 a u0
    rw [if_pos (by omega)] at t
    exact f σ' 1 0 (by rw [if_neg c]) (fun h => absurd h (by decide)) ⟨t, ex_fr F⟩
  · exact f σ' 0 _ (by rw [if_pos c]) (fun _ => by decide) ⟨t, ex_fr F⟩
theorem z_setForge {n : Int} (hR : rf_ σ) (hn : bc_in n) (f : ∀ (σ' : bc_M) (t u : Int), t = (if 0 ≤ n ∧ n ≤ 20 then 0 else 1) → (t = 0 → u = 5) → lpo_ t σ σ' → Rr (some (bc_I u)) σ') : bc_Sem g (d + 20) mX11_setForge [bc_R 218, bc_I n] σ Rr X := by
  refine t_X11_setForge ⟨hR.1, hR.2.1⟩ hn (fun c σ' _ t F _ => ?_) (fun c0 c1 σ' _ t F _ => ?_)
  · exact f σ' 1 0 (by rw [if_neg c]) (fun h => absurd h (by decide)) ⟨t, ex_fr F⟩
  · exact f σ' 0 _ (by rw [if_pos ⟨c0, c1⟩]) (fun _ => r0_2) ⟨t, ex_fr F⟩
theorem z_repair {m : Int} (hR : rf_ σ) (hm : bc_in m) (f : ∀ (σ' : bc_M) (t u : Int), t = 1 → (t = 0 → u = 0) → lpo_ t σ σ' → Rr (some (bc_I u)) σ') : bc_Sem g (d + 20) mX11_repair [bc_R 218, bc_I m] σ Rr X := by
  exact m_repair hR.1 hR.2.1 r0_M r0_3 (by rw [r0_1]; decide) hm (fun σ' l => f σ' 1 0 rfl (fun h => absurd h (by decide)) l)
theorem z_abandon {m : Int} (hR : rf_ σ) (hm : bc_in m) (f : ∀ (σ' : bc_M) (t u : Int), t = 1 → (t = 0 → u = 0) → lpo_ t σ σ' → Rr (some (bc_I u)) σ') : bc_Sem g (d + 20) mX11_abandon [bc_R 218, bc_I m] σ Rr X := by
  refine t_X11_abandon ⟨hR.1, hR.2.1⟩ r0_M hm (fun c σ' _ t F _ => ?_) (fun c => absurd ((lq0 m (1 - 1)).symm.trans c) (by decide))
  rw [lq0, if_pos rfl] at t
  exact f σ' 1 0 rfl (fun h => absurd h (by decide)) ⟨t, ex_fr F⟩
theorem z_resume {m : Int} (hR : rf_ σ) (hm : bc_in m) (f : ∀ (σ' : bc_M) (t u : Int), t = 1 → (t = 0 → u = 0) → lpo_ t σ σ' → Rr (some (bc_I u)) σ') : bc_Sem g (d + 20) mX11_resume [bc_R 218, bc_I m] σ Rr X := by
  refine t_X11_resume ⟨hR.1, hR.2.1⟩ r0_M hm (fun c σ' _ t F _ => ?_) (fun c => absurd ((lq0 m (1 - 0)).symm.trans c) (by decide))
  rw [lq0, if_pos rfl] at t
  exact f σ' 1 0 rfl (fun h => absurd h (by decide)) ⟨t, ex_fr F⟩
theorem z_setNiche {c : Int} (hR : rf_ σ) (hc : 0 ≤ c ∧ c ≤ 65535) (f : ∀ (σ' : bc_M) (t u : Int), t = (if c = 99 ∨ c = 108 then 0 else 1) → (t = 0 → u = 0) → lpo_ t σ σ' → Rr (some (bc_I u)) σ') : bc_Sem g (d + 20) mX11_setNiche [bc_R 218, bc_I c] σ Rr X := by
  refine t_X11_setNiche ⟨hR.1, hR.2.1⟩ (by constructor <;> omega) (fun c1 σ' _ t F _ => ?_) (fun c1 σ' _ t F _ => ?_)
  · exact f σ' 1 0 (by rw [if_neg c1]) (fun h => absurd h (by decide)) ⟨t, ex_fr F⟩
  · exact f σ' 0 _ (by rw [if_pos c1]) (fun _ => tw0) ⟨t, ex_fr F⟩
theorem z_put {p c w : Int} (hR : rf_ σ) (hp : bc_in p) (hc : 0 ≤ c ∧ c ≤ 65535) (hw : bc_in w) (f : ∀ (σ' : bc_M) (t u : Int), t = put_ r0_ p c w → (t = 0 → u = (if put_ r0_ p c w = 0 then tw_ (rp_ r0_ p w) else 0)) → lpo_ t σ σ' → Rr (some (bc_I u)) σ') : bc_Sem g (d + 20) mX11_put [bc_R 218, bc_I p, bc_I c, bc_I w] σ Rr X := by
  exact m_put hR.1 hR.2.1 r0_N hp hc hw (fun σ' l => f σ' _ _ rfl (fun _ => rfl) l)
theorem z_passDays {n : Int} (hR : rf_ σ) (hn : bc_in n) (f : ∀ (σ' : bc_M) (t u : Int), t = (if 1 ≤ n ∧ n ≤ 30 then 0 else 1) → (t = 0 → u = 0) → lpo_ t σ σ' → Rr (some (bc_I u)) σ') : bc_Sem g (d + 20) mX11_passDays [bc_R 218, bc_I n] σ Rr X := by
  exact m_passDays hR.1 hR.2.1 r0_4 hn (fun σ' l => f σ' _ 0 rfl (fun _ => rfl) l)
theorem z_firstJoint {m : Int} (hR : rf_ σ) (hm : bc_in m) (f : ∀ (σ' : bc_M) (t u : Int), t = 1 → (t = 0 → u = 0) → lpo_ t σ σ' → Rr (some (bc_I u)) σ') : bc_Sem g (d + 20) mX11_firstJoint [bc_R 218, bc_I m] σ Rr X := by
  exact m_firstJoint hR.1 r0_3 hm (fun σ' l => f σ' 1 0 rfl (fun h => absurd h (by decide)) l)
theorem z_secondJoint {m : Int} (hR : rf_ σ) (hm : bc_in m) (f : ∀ (σ' : bc_M) (t u : Int), t = 1 → (t = 0 → u = 0) → lpo_ t σ σ' → Rr (some (bc_I u)) σ') : bc_Sem g (d + 20) mX11_secondJoint [bc_R 218, bc_I m] σ Rr X := by
  exact m_secondJoint hR.1 r0_3 hm (fun σ' l => f σ' 1 0 rfl (fun h => absurd h (by decide)) l)
theorem z_crack {m : Int} (hR : rf_ σ) (hm : bc_in m) (f : ∀ (σ' : bc_M) (t u : Int), t = 1 → (t = 0 → u = 0) → lpo_ t σ σ' → Rr (some (bc_I u)) σ') : bc_Sem g (d + 20) mX11_crack [bc_R 218, bc_I m] σ Rr X := by
  exact m_crack hR.1 r0_3 hm (fun σ' l => f σ' 1 0 rfl (fun h => absurd h (by decide)) l)
theorem z_wear {m : Int} (hR : rf_ σ) (hm : bc_in m) (f : ∀ (σ' : bc_M) (t u : Int), t = 1 → (t = 0 → u = 0) → lpo_ t σ σ' → Rr (some (bc_I u)) σ') : bc_Sem g (d + 20) mX11_wear [bc_R 218, bc_I m] σ Rr X := by
  exact m_wear hR.1 r0_3 hm (fun σ' l => f σ' 1 0 rfl (fun h => absurd h (by decide)) l)
theorem z_isAbandoned {m : Int} (hR : rf_ σ) (hm : bc_in m) (f : ∀ (σ' : bc_M) (t u : Int), t = 1 → (t = 0 → u = 0) → lpo_ t σ σ' → Rr (some (bc_I u)) σ') : bc_Sem g (d + 20) mX11_isAbandoned [bc_R 218, bc_I m] σ Rr X := by
  exact m_isAbandoned hR.1 r0_3 hm (fun σ' l => f σ' 1 0 rfl (fun h => absurd h (by decide)) l)
theorem z_bearing {m : Int} (hR : rf_ σ) (hm : bc_in m) (f : ∀ (σ' : bc_M) (t u : Int), t = 1 → (t = 0 → u = 0) → lpo_ t σ σ' → Rr (some (bc_I u)) σ') : bc_Sem g (d + 20) mX11_bearing [bc_R 218, bc_I m] σ Rr X := by
  exact m_bearing hR.1 r0_3 hm (fun σ' l => f σ' 1 0 rfl (fun h => absurd h (by decide)) l)
theorem z_repairCost {m : Int} (hR : rf_ σ) (hm : bc_in m) (f : ∀ (σ' : bc_M) (t u : Int), t = 1 → (t = 0 → u = 0) → lpo_ t σ σ' → Rr (some (bc_I u)) σ') : bc_Sem g (d + 20) mX11_repairCost [bc_R 218, bc_I m] σ Rr X := by
  exact m_repairCost hR.1 r0_3 hm (fun σ' l => f σ' 1 0 rfl (fun h => absurd h (by decide)) l)
theorem z_renderMember {m : Int} (hR : rf_ σ) (hm : bc_in m) (f : ∀ (σ' : bc_M) (t u : Int), t = 1 → (t = 0 → u = 0) → lpo_ t σ σ' → Rr (some (bc_I u)) σ') : bc_Sem g (d + 20) mX11_renderMember [bc_R 218, bc_I m] σ Rr X := by
  exact m_renderMember hR.1 r0_3 hm (fun σ' l => f σ' 1 0 rfl (fun h => absurd h (by decide)) l)
theorem z_isCritical {m : Int} (hR : rf_ σ) (hm : bc_in m) (f : ∀ (σ' : bc_M) (t u : Int), t = 1 → (t = 0 → u = 0) → lpo_ t σ σ' → Rr (some (bc_I u)) σ') : bc_Sem g (d + 20) mX11_isCritical [bc_R 218, bc_I m] σ Rr X := by
  exact m_isCritical hR.1 r0_3 hm (fun σ' l => f σ' 1 0 rfl (fun h => absurd h (by decide)) l)
theorem z_isCriticalByRemoval {m : Int} (hR : rf_ σ) (hm : bc_in m) (f : ∀ (σ' : bc_M) (t u : Int), t = 1 → (t = 0 → u = 0) → lpo_ t σ σ' → Rr (some (bc_I u)) σ') : bc_Sem g (d + 20) mX11_isCriticalByRemoval [bc_R 218, bc_I m] σ Rr X := by
  exact m_isCriticalByRemoval hR.1 r0_3 hm (fun σ' l => f σ' 1 0 rfl (fun h => absurd h (by decide)) l)
theorem z_strainBits {m u0 : Int} (hR : rf_ σ) (hm : bc_in m) (hu0 : bc_in u0) (f : ∀ (σ' : bc_M) (t u : Int), t = 1 → (t = 0 → u = 0) → lpo_ t σ σ' → Rr (some (bc_I u)) σ') : bc_Sem g (d + 20) mX11_strainBits [bc_R 218, bc_I m, bc_I u0] σ Rr X := by
  exact m_strainBits hR.1 r0_3 hm (fun σ' l => f σ' 1 0 rfl (fun h => absurd h (by decide)) l)
theorem z_widestLoad {a b : Int} (hR : rf_ σ) (ha : bc_in a) (hb : bc_in b) (f : ∀ (σ' : bc_M) (t u : Int), t = aw0_ a b → (t = 0 → u = 0) → lpo_ t σ σ' → Rr (some (bc_I u)) σ') : bc_Sem g (d + 20) mX11_widestLoad [bc_R 218, bc_I a, bc_I b] σ Rr X := by
  exact m_widestLoad hR.1 r0_3 ha hb (fun σ' l => f σ' _ 0 rfl (fun _ => rfl) l)
theorem z_widestLoadByTrial {a b : Int} (hR : rf_ σ) (ha : bc_in a) (hb : bc_in b) (f : ∀ (σ' : bc_M) (t u : Int), t = aw0_ a b → (t = 0 → u = 0) → lpo_ t σ σ' → Rr (some (bc_I u)) σ') : bc_Sem g (d + 20) mX11_widestLoadByTrial [bc_R 218, bc_I a, bc_I b] σ Rr X := by
  exact m_widestLoadByTrial hR.1 r0_3 ha hb (fun σ' l => f σ' _ 0 rfl (fun _ => rfl) l)
theorem z_wayLength {a b : Int} (hR : rf_ σ) (ha : bc_in a) (hb : bc_in b) (f : ∀ (σ' : bc_M) (t u : Int), t = aw0_ a b → (t = 0 → u = 0) → lpo_ t σ σ' → Rr (some (bc_I u)) σ') : bc_Sem g (d + 20) mX11_wayLength [bc_R 218, bc_I a, bc_I b] σ Rr X := by
  exact m_wayLength hR.1 r0_3 ha hb (fun σ' l => f σ' _ 0 rfl (fun _ => rfl) l)
theorem z_renderWay {a b : Int} (hR : rf_ σ) (ha : bc_in a) (hb : bc_in b) (f : ∀ (σ' : bc_M) (t u : Int), t = aw0_ a b → (t = 0 → u = 0) → lpo_ t σ σ' → Rr (some (bc_I u)) σ') : bc_Sem g (d + 20) mX11_renderWay [bc_R 218, bc_I a, bc_I b] σ Rr X := by
  exact m_renderWay hR.1 r0_3 ha hb (fun σ' l => f σ' _ 0 rfl (fun _ => rfl) l)
theorem z_wayJoint {a b i0 : Int} (hR : rf_ σ) (ha : bc_in a) (hb : bc_in b) (hi0 : bc_in i0) (f : ∀ (σ' : bc_M) (t u : Int), t = aw0_ a b → (t = 0 → u = 0) → lpo_ t σ σ' → Rr (some (bc_I u)) σ') : bc_Sem g (d + 20) mX11_wayJoint [bc_R 218, bc_I a, bc_I b, bc_I i0] σ Rr X := by
  exact m_wayJoint hR.1 r0_3 ha hb (fun σ' l => f σ' _ 0 rfl (fun _ => rfl) l)
theorem z_affordableLoad {a b : Int} (hR : rf_ σ) (ha : bc_in a) (hb : bc_in b) (f : ∀ (σ' : bc_M) (t u : Int), t = aw0_ a b → (t = 0 → u = 0) → lpo_ t σ σ' → Rr (some (bc_I u)) σ') : bc_Sem g (d + 20) mX11_affordableLoad [bc_R 218, bc_I a, bc_I b] σ Rr X := by
  exact m_affordableLoad hR.1 r0_3 (by rw [r0_1]; decide) ha hb (fun σ' l => f σ' _ 0 rfl (fun _ => rfl) l)
theorem z_affordableLoadByTable {a b : Int} (hR : rf_ σ) (ha : bc_in a) (hb : bc_in b) (f : ∀ (σ' : bc_M) (t u : Int), t = aw0_ a b → (t = 0 → u = 0) → lpo_ t σ σ' → Rr (some (bc_I u)) σ') : bc_Sem g (d + 20) mX11_affordableLoadByTable [bc_R 218, bc_I a, bc_I b] σ Rr X := by
  exact m_affordableLoadByTable hR.1 r0_3 (by rw [r0_1]; decide) ha hb (fun σ' l => f σ' _ 0 rfl (fun _ => rfl) l)
theorem z_memberByBearing {a : Int} (hR : rf_ σ) (ha : bc_in a) (f : ∀ (σ' : bc_M) (t u : Int), t = 1 → (t = 0 → u = 0) → lpo_ t σ σ' → Rr (some (bc_I u)) σ') : bc_Sem g (d + 20) mX11_memberByBearing [bc_R 218, bc_I a] σ Rr X := by
  exact m_memberByBearing hR.1 r0_3 (fun σ' l => f σ' 1 0 rfl (fun h => absurd h (by decide)) l)
theorem z_vowAt {a : Int} (hR : rf_ σ) (ha : bc_in a) (f : ∀ (σ' : bc_M) (t u : Int), t = 1 → (t = 0 → u = 0) → lpo_ t σ σ' → Rr (some (bc_I u)) σ') : bc_Sem g (d + 20) mX11_vowAt [bc_R 218, bc_I a] σ Rr X := by
  exact m_vowAt hR.1 r0_4 (fun σ' l => f σ' 1 0 rfl (fun h => absurd h (by decide)) l)
theorem z_dueDay {a : Int} (hR : rf_ σ) (ha : bc_in a) (f : ∀ (σ' : bc_M) (t u : Int), t = 1 → (t = 0 → u = 0) → lpo_ t σ σ' → Rr (some (bc_I u)) σ') : bc_Sem g (d + 20) mX11_dueDay [bc_R 218, bc_I a] σ Rr X := by
  exact m_dueDay hR.1 r0_4 (fun σ' l => f σ' 1 0 rfl (fun h => absurd h (by decide)) l)
theorem z_amount {a : Int} (hR : rf_ σ) (ha : bc_in a) (f : ∀ (σ' : bc_M) (t u : Int), t = 1 → (t = 0 → u = 0) → lpo_ t σ σ' → Rr (some (bc_I u)) σ') : bc_Sem g (d + 20) mX11_amount [bc_R 218, bc_I a] σ Rr X := by
  exact m_amount hR.1 r0_4 (fun σ' l => f σ' 1 0 rfl (fun h => absurd h (by decide)) l)
theorem z_greatestVow {a : Int} (hR : rf_ σ) (ha : bc_in a) (f : ∀ (σ' : bc_M) (t u : Int), t = (if 0 < a ∧ a ≤ 50 then 0 else 1) → (t = 0 → u = 30 + 5 * a) → lpo_ t σ σ' → Rr (some (bc_I u)) σ') : bc_Sem g (d + 20) mX11_greatestVow [bc_R 218, bc_I a] σ Rr X := by
  refine m_greatestVow hR.1 r0_4 (by rw [r0_0]; decide) ha (fun c σ' l => ?_) (fun c σ' l => ?_)
  · rw [r0_0] at c
    exact f σ' 1 0 (by rw [if_neg (by omega)]) (fun h => absurd h (by decide)) l
  · rw [r0_0] at c
    exact f σ' 0 _ (by rw [if_pos (by omega)]) (fun _ => by rw [r0_0, r0_1, r0_2]; omega) l
theorem z_outputAt {i0 : Int} (hR : rf_ σ) (hi0 : bc_in i0) (f : ∀ (σ' : bc_M) (t u : Int), t = 1 → (t = 0 → u = 0) → lpo_ t σ σ' → Rr (some (bc_I u)) σ') : bc_Sem g (d + 20) mX11_outputAt [bc_R 218, bc_I i0] σ Rr X := by
  exact m_outputAt hR.2.2.2.2.2.2 hi0 (fun σ' l => f σ' 1 0 rfl (fun h => absurd h (by decide)) l)
theorem z_type {c : Int} (hR : rf_ σ) (hc : 0 ≤ c ∧ c ≤ 65535) (f : ∀ (σ' : bc_M) (t u : Int), t = (if 32 ≤ c ∧ c ≤ 126 then 0 else 1) → (t = 0 → u = 1) → lpo_ t σ σ' → Rr (some (bc_I u)) σ') : bc_Sem g (d + 20) mX11_type [bc_R 218, bc_I c] σ Rr X := by
  refine m_type hR.2.2.2.2.2.1 hc (fun c σ' l => ?_) (fun c σ' l => ?_)
  · exact f σ' 1 0 (by rw [if_neg c]) (fun h => absurd h (by decide)) l
  · exact f σ' 0 1 (by rw [if_pos c]) (fun _ => rfl) l
theorem z_runScript (hR : rf_ σ) (f : ∀ (σ' : bc_M) (t u : Int), t = 1 → (t = 0 → u = 0) → lpo_ t σ σ' → Rr (some (bc_I u)) σ') : bc_Sem g (d + 20) mX11_runScript [bc_R 218] σ Rr X := by
  exact m_runScript hR.2.2.2.2.2.1 (fun σ' l => f σ' 1 0 rfl (fun h => absurd h (by decide)) l)
theorem z_errorPosition (hR : rf_ σ) (f : ∀ (σ' : bc_M) (t u : Int), t = 1 → (t = 0 → u = 0) → lpo_ t σ σ' → Rr (some (bc_I u)) σ') : bc_Sem g (d + 20) mX11_errorPosition [bc_R 218] σ Rr X := by
  exact m_errorPosition hR.2.2.2.1 (fun σ' l => f σ' 1 0 rfl (fun h => absurd h (by decide)) l)
theorem z_failedCommand (hR : rf_ σ) (f : ∀ (σ' : bc_M) (t u : Int), t = 1 → (t = 0 → u = 0) → lpo_ t σ σ' → Rr (some (bc_I u)) σ') : bc_Sem g (d + 20) mX11_failedCommand [bc_R 218] σ Rr X := by
  exact m_failedCommand hR.2.2.2.2.1 (fun σ' l => f σ' 1 0 rfl (fun h => absurd h (by decide)) l)
theorem z_undo (hR : rf_ σ) (f : ∀ (σ' : bc_M) (t u : Int), t = 1 → (t = 0 → u = 0) → lpo_ t σ σ' → Rr (some (bc_I u)) σ') : bc_Sem g (d + 20) mX11_undo [bc_R 218] σ Rr X := by
  exact t_X11_undo0 ⟨hR.1, hR.2.1⟩ (fun σ' _ t F _ => f σ' 1 0 rfl (fun h => absurd h (by decide)) ⟨t, ex_fr F⟩)
theorem z_restore (hR : rf_ σ) (f : ∀ (σ' : bc_M) (t u : Int), t = 1 → (t = 0 → u = 0) → lpo_ t σ σ' → Rr (some (bc_I u)) σ') : bc_Sem g (d + 20) mX11_restore [bc_R 218] σ Rr X := by
  exact m_restore hR.2.2.1 (fun σ' l => f σ' 1 0 rfl (fun h => absurd h (by decide)) l)
theorem z_memberCount (hR : rf_ σ) (f : ∀ σ' : bc_M, Rr (some (bc_I (r0_ 3))) σ') : bc_Sem g (d + 20) mX11_memberCount [bc_R 218] σ Rr X := by
  refine e_X11_memberCount rfl (fun K hK => ?_)
  refine hK.1 [] 60 _ _ _ _ _ ?_
  exact t_X11_total hR.1 (by decide) (f _)
theorem z_vowCount (hR : rf_ σ) (f : ∀ σ' : bc_M, Rr (some (bc_I (r0_ 4))) σ') : bc_Sem g (d + 20) mX11_vowCount [bc_R 218] σ Rr X := by
  refine e_X11_vowCount rfl (fun K hK => ?_)
  refine hK.1 [] 60 _ _ _ _ _ ?_
  exact t_X11_total hR.1 (by decide) (f _)
theorem z_keptTotal (hR : rf_ σ) (f : ∀ σ' : bc_M, Rr (some (bc_I (r0_ 6))) σ') : bc_Sem g (d + 20) mX11_keptTotal [bc_R 218] σ Rr X := by
  refine e_X11_keptTotal rfl (fun K hK => ?_)
  refine hK.1 [] 60 _ _ _ _ _ ?_
  exact t_X11_total hR.1 (by decide) (f _)
theorem z_brokenTotal (hR : rf_ σ) (f : ∀ σ' : bc_M, Rr (some (bc_I (r0_ 7))) σ') : bc_Sem g (d + 20) mX11_brokenTotal [bc_R 218] σ Rr X := by
  refine e_X11_brokenTotal rfl (fun K hK => ?_)
  refine hK.1 [] 60 _ _ _ _ _ ?_
  exact t_X11_total hR.1 (by decide) (f _)
theorem z_steel (hR : rf_ σ) (f : ∀ σ' : bc_M, Rr (some (bc_I (r0_ 1))) σ') : bc_Sem g (d + 20) mX11_steel [bc_R 218] σ Rr X := by
  refine e_X11_steel rfl (fun K hK => ?_)
  refine hK.1 [] 60 _ _ _ _ _ ?_
  exact t_X11_total hR.1 (by decide) (f _)
theorem z_day (hR : rf_ σ) (f : ∀ σ' : bc_M, Rr (some (bc_I (r0_ 0))) σ') : bc_Sem g (d + 20) mX11_day [bc_R 218] σ Rr X := by
  refine e_X11_day rfl (fun K hK => ?_)
  refine hK.1 [] 60 _ _ _ _ _ ?_
  exact t_X11_total hR.1 (by decide) (f _)
theorem z_nicheKind (hR : rf_ σ) (f : ∀ σ' : bc_M, Rr (some (bc_I 99)) σ') : bc_Sem g (d + 20) mX11_nicheKind [bc_R 218] σ Rr X := by
  refine e_X11_nicheKind rfl (fun K hK => ?_)
  refine hK.1 [] 60 _ _ _ _ _ ?_
  refine t_X11_total hR.1 (by decide) ?_
  refine bc_ob_i (by decide) ?_
  exact rt_ (f _) (by decide)
end ZRE
