/-! int[N][K]: the machine's own making of it, and the row of a constructor -/
section CnMulti
def cn_oc (cA : ClassId) (N h i : Nat) : Cell := arrV cA N (fun j => if j < i then .ref (h + 1 + j) else .null)
def cn_ic (cI : ClassId) (K : Nat) : Cell := arrV cI K (fun _ => .int 0)
theorem cn_oc_up (cA : ClassId) (N h i : Nat) : (cn_oc cA N h i).setSlot i (.ref (h + 1 + i)) = cn_oc cA N h (i + 1) := by
  unfold cn_oc
  rw [arrV_store]
  congr 1
  funext j
  unfold updV
  by_cases e : j = i
  · subst e
    rw [if_pos rfl, if_pos (by omega)]
  · rw [if_neg e]
    show (if j < i then Value.ref (h + 1 + j) else Value.null) = _
    by_cases q : j < i
    · rw [if_pos q, if_pos (by omega)]
    · rw [if_neg q, if_neg (by omega)]
/-- i rows are made -/
def cn_rw (U : State) (cA cI : ClassId) (N K : Nat) : Nat → State
  | 0 => U.pushCell (cn_oc cA N U.heap.size 0)
  | i + 1 => ((cn_rw U cA cI N K i).pushCell (cn_ic cI K)).setCell U.heap.size ((cn_oc cA N U.heap.size i).setSlot i (.ref (U.heap.size + 1 + i)))
theorem cn_rw_f (U : State) (cA cI : ClassId) (N K : Nat) : ∀ i, (cn_rw U cA cI N K i).heap.size = U.heap.size + 1 + i ∧ (cn_rw U cA cI N K i).heap[U.heap.size]? = some (cn_oc cA N U.heap.size i) ∧ (cn_rw U cA cI N K i).vm = U.vm ∧ (cn_rw U cA cI N K i).slotsUsed = U.slotsUsed + N + i * K ∧
    (∀ q, q < U.heap.size → (cn_rw U cA cI N K i).heap[q]? = U.heap[q]?) ∧ ∀ j, j < i → (cn_rw U cA cI N K i).heap[U.heap.size + 1 + j]? = some (cn_ic cI K) := by
  intro i
  induction i with
  | zero =>
    refine ⟨by simp [cn_rw], by simp [cn_rw], rfl, by simp [cn_rw, cn_oc, arrV_size], fun q hq => State.heap_pushCell_of_lt _ _ hq, fun j hj => absurd hj (Nat.not_lt_zero _)⟩
  | succ i ih =>
    obtain ⟨a1, a2, a3, a4, a5, a6⟩ := ih
    have hlt : U.heap.size < (cn_rw U cA cI N K i).heap.size := by omega
    have hb : ((cn_rw U cA cI N K i).pushCell (cn_ic cI K)).heap[U.heap.size]? = some (cn_oc cA N U.heap.size i) := by rw [State.heap_pushCell_of_lt (h := hlt)]; exact a2
    refine ⟨?_, ?_, ?_, ?_, fun q hq => ?_, fun j hj => ?_⟩
    · simp [cn_rw, State.setCell, a1]; omega
    · rw [← cn_oc_up]
      exact State.heap_setCell_self hb
    · simp [cn_rw, a3]
    · simp [cn_rw, a4, cn_ic, arrV_size, Nat.succ_mul]; omega
    · show (((cn_rw U cA cI N K i).pushCell (cn_ic cI K)).setCell U.heap.size _).heap[q]? = _
      have hq' : q < (cn_rw U cA cI N K i).heap.size := by omega
      rw [State.heap_setCell_other (Nat.ne_of_gt hq), State.heap_pushCell_of_lt (h := hq')]
      exact a5 q hq
    · show (((cn_rw U cA cI N K i).pushCell (cn_ic cI K)).setCell U.heap.size _).heap[U.heap.size + 1 + j]? = _
      rw [State.heap_setCell_other (show U.heap.size ≠ U.heap.size + 1 + j by omega)]
      by_cases q : j < i
      · have hq' : U.heap.size + 1 + j < (cn_rw U cA cI N K i).heap.size := by omega
        rw [State.heap_pushCell_of_lt (h := hq')]
        exact a6 j q
      · have e : j = i := by omega
        subst e
        rw [← a1]
        exact State.heap_pushCell_size _ _
theorem cn_rw_top (U : State) (f : JFrame) (cA cI : ClassId) (N K : Nat) : ∀ i, cn_rw (U.setTop f) cA cI N K i = (cn_rw U cA cI N K i).setTop f := by
  intro i
  induction i with
  | zero => rfl
  | succ i ih => simp only [cn_rw, ih, State.heap_setTop, State.pushCell_setTop, State.setCell_setTop]
section CnWp
variable {E : CtlPost} {e : Env} {d : Bool} {acts : List Action} {s : State}
theorem cn_wpnew {c comp : ClassId} {k : Class} {type : FieldType} {len : Nat} {init : Value} (hk : s.vm.classes[c]? = some k) (hkind : k.kind = .array comp type) (hl : ¬ len > e.platform.arrayLengthLimit) (hh : ¬ len * componentBytes type > e.platform.maxHeapBytes) (hfit : fits type init = true) (hdef : init.isDefault = true) {Q : Addr → Pre}
    (h1 : s.heap.size < e.platform.maxCells) (h2 : s.slotsUsed + len ≤ e.platform.maxSlots) (hq : Q s.heap.size d acts (s.pushCell (arrV c len (fun _ => init)))) : wp (Jvm.newArray c len init) Q E e d acts s := by
  rw [← arrV_new] at hq
  have hda : allocActs (Array.replicate len init) s.heap.size acts = acts := by
    unfold allocActs
    rw [if_pos (by rw [Array.all_replicate]; split <;> simp [hdef])]
  simp only [Jvm.newArray, Jvm.arrayFits, wp_bind', W.ask, W.ite, hl, if_false, wp_pure', W.theClass, hk, hkind, hh, W.alloc, W.stop, Option.some.injEq, exists_eq_left', Array.size_replicate, hda]
  rw [if_neg (by omega)]
  refine ⟨h1, h2, fun i v hv => ?_, hq⟩
  rw [Array.getElem?_replicate] at hv
  split at hv
  · cases hv
    simp [State.fitsSlot, State.slotType?, hk, hkind, hfit]
  · cases hv
theorem cn_wprow {cI cc : ClassId} {kc : Class} {m : Int32} (hkc : s.vm.classes[cI]? = some kc) (hkind : kc.kind = .array cc .int) (hm : ¬ m < 0) (hl : ¬ m.toNatClampNeg > e.platform.arrayLengthLimit) (hh : ¬ m.toNatClampNeg * componentBytes .int > e.platform.maxHeapBytes)
    (h1 : s.heap.size < e.platform.maxCells) (h2 : s.slotsUsed + m.toNatClampNeg ≤ e.platform.maxSlots) {Q : Addr → Pre} (hq : Q s.heap.size d acts (s.pushCell (cn_ic cI m.toNatClampNeg))) : wp (multianewarray.make cI [m]) Q E e d acts s := by
  rw [multianewarray.make]
  simp only [wp_bind', W.ite, hm, if_false, wp_pure', W.theClass, hkc, hkind, Option.some.injEq, exists_eq_left']
  exact cn_wpnew hkc hkind hl hh rfl rfl h1 h2 hq
theorem cn_wpmake {cA cI cc : ClassId} {k kc : Class} {n m : Int32} (hk : s.vm.classes[cA]? = some k) (hkind : k.kind = .array cI (.array .int)) (hkc : s.vm.classes[cI]? = some kc) (hkindc : kc.kind = .array cc .int) (hn : ¬ n < 0) (hm : ¬ m < 0)
    (hl1 : ¬ n.toNatClampNeg > e.platform.arrayLengthLimit) (hh1 : ¬ n.toNatClampNeg * componentBytes (.array .int) > e.platform.maxHeapBytes) (hl2 : ¬ m.toNatClampNeg > e.platform.arrayLengthLimit) (hh2 : ¬ m.toNatClampNeg * componentBytes .int > e.platform.maxHeapBytes)
    (hc : s.heap.size + 1 + n.toNatClampNeg ≤ e.platform.maxCells) (hs : s.slotsUsed + n.toNatClampNeg + n.toNatClampNeg * m.toNatClampNeg ≤ e.platform.maxSlots) {Q : Addr → Pre} (hq : ∀ d' acts', Q s.heap.size d' acts' (cn_rw s cA cI n.toNatClampNeg m.toNatClampNeg n.toNatClampNeg)) : wp (multianewarray.make cA [n, m]) Q E e d acts s := by
  have hfind : ([m].find? (· < 0)) = none := by simp [hm]
  rw [multianewarray.make]
  simp only [wp_bind', W.ite, hn, if_false, wp_pure', W.theClass, hk, hkind, Option.some.injEq, exists_eq_left']
  have h0 := Nat.zero_le (n.toNatClampNeg * m.toNatClampNeg)
  refine cn_wpnew hk hkind hl1 hh1 rfl rfl (by omega) (by omega) ?_
  simp only [hfind]
  rw [ite_self, wp_bind', Std.Legacy.Range.forIn_eq_forIn_range']
  rw [show ([:n.toNatClampNeg] : Std.Legacy.Range).size = n.toNatClampNeg by simp [Std.Legacy.Range.size]]
  show wp (forIn (List.range' 0 n.toNatClampNeg 1) PUnit.unit _) _ E e d acts _
  refine wp_forIn_inv (fun rest u => ∃ i, i ≤ n.toNatClampNeg ∧ rest = List.range' i (n.toNatClampNeg - i) ∧ u = cn_rw s cA cI n.toNatClampNeg m.toNatClampNeg i) _ _ ⟨0, Nat.zero_le _, rfl, rfl⟩ ?_ ?_
  · rintro x rest u d' acts' Q' ⟨i, hi, hl, rfl⟩ hnext
    by_cases hlt : i < n.toNatClampNeg
    · rw [show n.toNatClampNeg - i = (n.toNatClampNeg - (i + 1)) + 1 by omega, List.range'_succ] at hl
      obtain ⟨rfl, hrest⟩ := List.cons.inj hl
      obtain ⟨f1, f2, f3, f4, -, -⟩ := cn_rw_f s cA cI n.toNatClampNeg m.toNatClampNeg x
      have hmul : x * m.toNatClampNeg + m.toNatClampNeg ≤ n.toNatClampNeg * m.toNatClampNeg := by
        have := Nat.mul_le_mul_right m.toNatClampNeg (show x + 1 ≤ n.toNatClampNeg from hlt)
        rw [Nat.succ_mul] at this
        exact this
      simp only [wp_bind']
      refine cn_wprow (by rw [f3]; exact hkc) hkindc hm hl2 hh2 (by rw [f1]; omega) (by rw [f4]; omega) ?_
      simp only [wp_bind', W.writeLoc, wp_pure']
      have hq' : s.heap.size < (cn_rw s cA cI n.toNatClampNeg m.toNatClampNeg x).heap.size := by omega
      refine ⟨cn_oc cA n.toNatClampNeg s.heap.size x, by rw [State.heap_pushCell_of_lt (h := hq')]; exact f2, by simp [cn_oc, arrV], by show x < (arrV _ _ _).slots.size; rw [arrV_size]; exact hlt, ?_, hnext _ _ _ ⟨x + 1, hlt, hrest, ?_⟩⟩
      · simp [cn_oc, arrV, State.fitsSlot, State.slotType?, f3, hk, hkind, fits]
      · rw [f1]; rfl
    · rw [show n.toNatClampNeg - i = 0 by omega] at hl
      cases hl
  · rintro u d' acts' ⟨i, hi, hl, rfl⟩
    have e0 : i = n.toNatClampNeg := by
      by_cases hlt : i < n.toNatClampNeg
      · rw [show n.toNatClampNeg - i = (n.toNatClampNeg - (i + 1)) + 1 by omega, List.range'_succ] at hl
        cases hl
      · omega
    subst e0
    simp only [wp_pure']
    exact hq _ _
end CnWp
end CnMulti
