/-! a grid of numbers is made: the outer row, then the inner rows one behind another -/
abbrev mg_ (c : ClassId) (N h0 i : Nat) : Cell := arrV c N (fun j => if j < i then .ref (h0 + 1 + j) else .null)
abbrev mi_ (c : ClassId) (M : Nat) : Cell := arrV c M (fun _ => .int 0)
def mt_ (s : State) (c comp : ClassId) (N M : Nat) : Nat → State
  | 0 => s.pushCell (mg_ c N s.heap.size 0)
  | i + 1 => ((mt_ s c comp N M i).pushCell (mi_ comp M)).setCell s.heap.size (mg_ c N s.heap.size (i + 1))
theorem mg_s (c : ClassId) (N h0 i : Nat) : (mg_ c N h0 i).setSlot i (.ref (h0 + 1 + i)) = mg_ c N h0 (i + 1) := by
  unfold mg_
  rw [arrV_store]
  congr 1
  funext j
  unfold updV
  by_cases e : j = i
  · rw [if_pos e, if_pos (by omega), e]
  · rw [if_neg e]
    show (if j < i then Value.ref (h0 + 1 + j) else Value.null) = _
    by_cases e2 : j < i
    · rw [if_pos e2, if_pos (by omega)]
    · rw [if_neg e2, if_neg (by omega)]
theorem mg_0 (c : ClassId) (N h0 : Nat) : ({ cls := c, slots := Array.replicate N .null, vm := .none } : Cell) = mg_ c N h0 0 := by
  rw [arrV_new]
  unfold mg_
  congr 1
/-- what the state holds behind i rows -/
def mf_ (s T : State) (c comp : ClassId) (N M i : Nat) : Prop := T.heap.size = s.heap.size + 1 + i ∧ T.heap[s.heap.size]? = some (mg_ c N s.heap.size i) ∧ T.vm = s.vm ∧ T.slotsUsed = s.slotsUsed + N + i * M ∧ (∀ a, a < s.heap.size → T.heap[a]? = s.heap[a]?) ∧ ∀ j, j < i → T.heap[s.heap.size + 1 + j]? = some (mi_ comp M)
theorem mt_f (s : State) (c comp : ClassId) (N M : Nat) : ∀ i, mf_ s (mt_ s c comp N M i) c comp N M i := by
  intro i
  induction i with
  | zero =>
    refine ⟨by simp [mt_], by simp [mt_], rfl, by simp [mt_, arrV_size], fun a ha => State.heap_pushCell_of_lt _ _ ha, fun j hj => absurd hj (Nat.not_lt_zero _)⟩
  | succ i ih =>
    obtain ⟨a1, a2, a3, a4, a5, a6⟩ := ih
    have lt0 : s.heap.size < (mt_ s c comp N M i).heap.size := by omega
    have b2 : ((mt_ s c comp N M i).pushCell (mi_ comp M)).heap[s.heap.size]? = some (mg_ c N s.heap.size i) := by rw [State.heap_pushCell_of_lt (h := lt0)]; exact a2
    refine ⟨by simp [mt_, State.setCell, a1]; omega, State.heap_setCell_self b2, by simp [mt_, a3], ?_, fun a ha => ?_, fun j hj => ?_⟩
    · have e : (mi_ comp M).slots.size = M := arrV_size _ _ _
      simp [mt_, a4, e, Nat.succ_mul]
      omega
    · show (((mt_ s c comp N M i).pushCell (mi_ comp M)).setCell s.heap.size _).heap[a]? = _
      have la : a < (mt_ s c comp N M i).heap.size := by omega
      rw [State.heap_setCell_other (Nat.ne_of_gt ha), State.heap_pushCell_of_lt (h := la)]
      exact a5 a ha
    · show (((mt_ s c comp N M i).pushCell (mi_ comp M)).setCell s.heap.size _).heap[s.heap.size + 1 + j]? = _
      rw [State.heap_setCell_other (show s.heap.size ≠ s.heap.size + 1 + j by omega)]
      by_cases e : j = i
      · rw [e, ← a1]
        exact State.heap_pushCell_size _ _
      · have la : s.heap.size + 1 + j < (mt_ s c comp N M i).heap.size := by omega
        rw [State.heap_pushCell_of_lt (h := la)]
        exact a6 j (by omega)
theorem mt_top (s : State) (f : JFrame) (c comp : ClassId) (N M : Nat) : ∀ i, mt_ (s.setTop f) c comp N M i = (mt_ s c comp N M i).setTop f := by
  intro i
  induction i with
  | zero => rfl
  | succ i ih => simp only [mt_, ih, State.heap_setTop, State.pushCell_setTop, State.setCell_setTop]
section MUL
variable {E : CtlPost} {e : Env} {d : Bool} {acts : List Action} {s : State}
theorem mt_wp {c comp cc : ClassId} {k kc : Class} {n m : Int32} {N M : Nat} (hk : s.vm.classes[c]? = some k) (hkind : k.kind = .array comp (.array .int)) (hkc : s.vm.classes[comp]? = some kc) (hkindc : kc.kind = .array cc .int)
    (hn : ¬ n < 0) (hn0 : (n == 0) = false) (hm : ¬ m < 0) (hN : n.toNatClampNeg = N) (hM : m.toNatClampNeg = M)
    (hl1 : ¬ N > e.platform.arrayLengthLimit) (hh1 : ¬ N * componentBytes (.array .int) > e.platform.maxHeapBytes) (hl2 : ¬ M > e.platform.arrayLengthLimit) (hh2 : ¬ M * componentBytes .int > e.platform.maxHeapBytes)
    (hc : s.heap.size + 1 + N ≤ e.platform.maxCells) (hs : s.slotsUsed + N + N * M ≤ e.platform.maxSlots)
    {Q : Addr → Pre} (hq : ∀ d' acts', Q s.heap.size d' acts' (mt_ s c comp N M N)) : wp (multianewarray.make c [n, m]) Q E e d acts s := by
  rw [multianewarray.make]
  simp only [wp_bind', W.ite, hn, if_false, wp_pure', W.theClass, hk, hkind, Option.some.injEq, exists_eq_left', hN]
  refine W.newArray_of hk hkind hl1 hh1 (by omega) (by omega) rfl (fun acts1 => ?_)
  simp only [hn0, Bool.false_eq_true, if_false, wp_pure', wp_bind', Std.Legacy.Range.forIn_eq_forIn_range']
  rw [show ([:N] : Std.Legacy.Range).size = N by simp [Std.Legacy.Range.size]]
  show wp (forIn (List.range' 0 N 1) PUnit.unit _) _ E e d acts1 _
  refine wp_forIn_inv (fun rest s' => ∃ i, i ≤ N ∧ rest = List.range' i (N - i) ∧ s' = mt_ s c comp N M i) _ _ ⟨0, Nat.zero_le _, rfl, ?_⟩ ?_ ?_
  · show s.pushCell _ = s.pushCell _
    rw [← mg_0]
  · rintro x rest s' d' acts' Q' ⟨i, hi, hl, rfl⟩ hnext
    have hlt : i < N := by
      refine Classical.byContradiction (fun h => ?_)
      rw [show N - i = 0 by omega] at hl
      cases hl
    rw [show N - i = (N - (i + 1)) + 1 by omega, List.range'_succ] at hl
    obtain ⟨rfl, hrest⟩ := List.cons.inj hl
    obtain ⟨f1, f2, f3, f4, f5, f6⟩ := mt_f s c comp N M x
    have hmul : x * M + M ≤ N * M := by
      have := Nat.mul_le_mul_right M (show x + 1 ≤ N from hlt)
      rw [Nat.succ_mul] at this
      exact this
    simp only [wp_bind']
    rw [multianewarray.make]
    simp only [wp_bind', W.ite, hm, if_false, wp_pure', W.theClass, f3, hkc, hkindc, Option.some.injEq, exists_eq_left', hM]
    refine W.newArray_of (by rw [f3]; exact hkc) hkindc hl2 hh2 (by omega) (by omega) rfl (fun acts2 => ?_)
    have e0 : ({ cls := comp, slots := Array.replicate M (defaultValue .int) } : Cell) = mi_ comp M := arrV_new comp M (.int 0)
    rw [e0]
    have lt0 : s.heap.size < (mt_ s c comp N M x).heap.size := by omega
    simp only [wp_bind', W.writeLoc, wp_pure']
    refine ⟨mg_ c N s.heap.size x, by rw [State.heap_pushCell_of_lt (h := lt0)]; exact f2, (fun q => by cases q), by rw [arrV_size]; exact hlt, ?_, hnext _ _ _ ⟨x + 1, hlt, hrest, ?_⟩⟩
    · show State.fitsSlot _ c .none x _ = true
      simp [State.fitsSlot, State.slotType?, f3, hk, hkind, fits]
    · rw [f1, mg_s]
      rfl
  · rintro s' d' acts' ⟨i, hi, hl, rfl⟩
    have hiN : i = N := by
      refine Classical.byContradiction (fun h => ?_)
      rw [show N - i = (N - (i + 1)) + 1 by omega, List.range'_succ] at hl
      cases hl
    subst hiN
    simp only [wp_pure']
    exact hq _ _
end MUL
