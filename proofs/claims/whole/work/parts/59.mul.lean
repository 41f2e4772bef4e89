/-! int[N][K]: the machine's own making of it, and the row of a constructor -/
section CnMulti
def cn_oc (cA : ClassId) (N h i : Nat) : Cell := arrV cA N (fun j => if j < i then .ref (h + 1 + j) else .null)
def cn_ic (cI : ClassId) (K : Nat) : Cell := arrV cI K (fun _ => .int 0)
theorem cn_oc_up (cA : ClassId) (N h i : Nat) : (cn_oc cA N h i).setSlot i (.ref (h + 1 + i)) = cn_oc cA N h (i + 1) := by
  unfold cn_oc
  rw [arrV_store]
  congr 1
  funext j
  unfold updV
  by_cases e : j = i
  · subst e
    rw [if_pos rfl, if_pos (by omega)]
  · rw [if_neg e]
    show (if j < i then Value.ref (h + 1 + j) else Value.null) = _
    by_cases q : j < i
    · rw [if_pos q, if_pos (by omega)]
    · rw [if_neg q, if_neg (by omega)]
/-- i rows are made -/
def cn_rw (U : State) (cA cI : ClassId) (N K : Nat) : Nat → State
  | 0 => U.pushCell (cn_oc cA N U.heap.size 0)
  | i + 1 => ((cn_rw U cA cI N K i).pushCell (cn_ic cI K)).setCell U.heap.size ((cn_oc cA N U.heap.size i).setSlot i (.ref (U.heap.size + 1 + i)))
theorem cn_rw_f (U : State) (cA cI : ClassId) (N K : Nat) : ∀ i, (cn_rw U cA cI N K i).heap.size = U.heap.size + 1 + i ∧ (cn_rw U cA cI N K i).heap[U.heap.size]? = some (cn_oc cA N U.heap.size i) ∧ (cn_rw U cA cI N K i).vm = U.vm ∧ (cn_rw U cA cI N K i).slotsUsed = U.slotsUsed + N + i * K ∧
    (∀ q, q < U.heap.size → (cn_rw U cA cI N K i).heap[q]? = U.heap[q]?) ∧ ∀ j, j < i → (cn_rw U cA cI N K i).heap[U.heap.size + 1 + j]? = some (cn_ic cI K) := by
  intro i
  induction i with
  | zero =>
    refine ⟨by simp [cn_rw], by simp [cn_rw], rfl, by simp [cn_rw, cn_oc, arrV_size], fun q hq => State.heap_pushCell_of_lt _ _ hq, fun j hj => absurd hj (Nat.not_lt_zero _)⟩
  | succ i ih =>
    obtain ⟨a1, a2, a3, a4, a5, a6⟩ := ih
    have hlt : U.heap.size < (cn_rw U cA cI N K i).heap.size := by omega
    have hb : ((cn_rw U cA cI N K i).pushCell (cn_ic cI K)).heap[U.heap.size]? = some (cn_oc cA N U.heap.size i) := by rw [State.heap_pushCell_of_lt (h := hlt)]; exact a2
    refine ⟨?_, ?_, ?_, ?_, fun q hq => ?_, fun j hj => ?_⟩
    · simp [cn_rw, State.setCell, a1]; omega
    · rw [← cn_oc_up]
      exact State.heap_setCell_self hb
    · simp [cn_rw, a3]
    · simp [cn_rw, a4, cn_ic, arrV_size, Nat.succ_mul]; omega
    · show (((cn_rw U cA cI N K i).pushCell (cn_ic cI K)).setCell U.heap.size _).heap[q]? = _
      have hq' : q < (cn_rw U cA cI N K i).heap.size := by omega
      rw [State.heap_setCell_other (Nat.ne_of_gt hq), State.heap_pushCell_of_lt (h := hq')]
      exact a5 q hq
    · show (((cn_rw U cA cI N K i).pushCell (cn_ic cI K)).setCell U.heap.size _).heap[U.heap.size + 1 + j]? = _
      rw [State.heap_setCell_other (show U.heap.size ≠ U.heap.size + 1 + j by omega)]
      by_cases q : j < i
      · have hq' : U.heap.size + 1 + j < (cn_rw U cA cI N K i).heap.size := by omega
        rw [State.heap_pushCell_of_lt (h := hq')]
        exact a6 j q
      · have e : j = i := by omega
        subst e
        rw [← a1]
        exact State.heap_pushCell_size _ _
theorem cn_rw_top (U : State) (f : JFrame) (cA cI : ClassId) (N K : Nat) : ∀ i, cn_rw (U.setTop f) cA cI N K i = (cn_rw U cA cI N K i).setTop f := by
  intro i
  induction i with
  | zero => rfl
  | succ i ih => simp only [cn_rw, ih, State.heap_setTop, State.pushCell_setTop, State.setCell_setTop]
section CnWp
variable {E : CtlPost} {e : Env} {d : Bool} {acts : List Action} {s : State}
theorem cn_wpnew {c comp : ClassId} {k : Class} {type : FieldType} {len : Nat} {init : Value} (hk : s.vm.classes[c]? = some k) (hkind : k.kind = .array comp type) (hl : ¬ len > e.platform.arrayLengthLimit) (hh : ¬ len * componentBytes type > e.platform.maxHeapBytes) (hfit : fits type init = true) (hdef : init.isDefault = true) {Q : Addr → Pre}
    (h1 : s.heap.size < e.platform.maxCells) (h2 : s.slotsUsed + len ≤ e.platform.maxSlots) (hq : Q s.heap.size d acts (s.pushCell (arrV c len (fun _ => init)))) : wp (Jvm.newArray c len init) Q E e d acts s := by
  rw [← arrV_new] at hq
  have hda : allocActs (Array.replicate len init) s.heap.size acts = acts := by
    unfold allocActs
    rw [if_pos (by rw [Array.all_replicate]; split <;> simp [hdef])]
  simp only [Jvm.newArray, Jvm.arrayFits, wp_bind', W.ask, W.ite, hl, if_false, wp_pure', W.theClass, hk, hkind, hh, W.alloc, W.stop, Option.some.injEq, exists_eq_left', Array.size_replicate, hda]
  rw [if_neg (by omega)]
  refine ⟨h1, h2, fun i v hv => ?_, hq⟩
  rw [Array.getElem?_replicate] at hv
  split at hv
  · cases hv
    simp [State.fitsSlot, State.slotType?, hk, hkind, hfit]
  · cases hv
theorem cn_wprow {cI cc : ClassId} {kc : Class} {m : Int32} (hkc : s.vm.classes[cI]? = some kc) (hkind : kc.kind = .array cc .int) (hm : ¬ m < 0) (hl : ¬ m.toNatClampNeg > e.platform.arrayLengthLimit) (hh : ¬ m.toNatClampNeg * componentBytes .int > e.platform.maxHeapBytes)
    (h1 : s.heap.size < e.platform.maxCells) (h2 : s.slotsUsed + m.toNatClampNeg ≤ e.platform.maxSlots) {Q : Addr → Pre} (hq : Q s.heap.size d acts (s.pushCell (cn_ic cI m.toNatClampNeg))) : wp (multianewarray.make cI [m]) Q E e d acts s := by
  rw [multianewarray.make]
  simp only [wp_bind', W.ite, hm, if_false, wp_pure', W.theClass, hkc, hkind, Option.some.injEq, exists_eq_left']
  exact cn_wpnew hkc hkind hl hh rfl rfl h1 h2 hq
theorem cn_wpmake {cA cI cc : ClassId} {k kc : Class} {n m : Int32} (hk : s.vm.classes[cA]? = some k) (hkind : k.kind = .array cI (.array .int)) (hkc : s.vm.classes[cI]? = some kc) (hkindc : kc.kind = .array cc .int) (hn : ¬ n < 0) (hm : ¬ m < 0)
    (hl1 : ¬ n.toNatClampNeg > e.platform.arrayLengthLimit) (hh1 : ¬ n.toNatClampNeg * componentBytes (.array .int) > e.platform.maxHeapBytes) (hl2 : ¬ m.toNatClampNeg > e.platform.arrayLengthLimit) (hh2 : ¬ m.toNatClampNeg * componentBytes .int > e.platform.maxHeapBytes)
    (hc : s.heap.size + 1 + n.toNatClampNeg ≤ e.platform.maxCells) (hs : s.slotsUsed + n.toNatClampNeg + n.toNatClampNeg * m.toNatClampNeg ≤ e.platform.maxSlots) {Q : Addr → Pre} (hq : ∀ d' acts', Q s.heap.size d' acts' (cn_rw s cA cI n.toNatClampNeg m.toNatClampNeg n.toNatClampNeg)) : wp (multianewarray.make cA [n, m]) Q E e d acts s := by
  have hfind : ([m].find? (· < 0)) = none := by simp [hm]
  rw [multianewarray.make]
  simp only [wp_bind', W.ite, hn, if_false, wp_pure', W.theClass, hk, hkind, Option.some.injEq, exists_eq_left']
  have h0 := Nat.zero_le (n.toNatClampNeg * m.toNatClampNeg)
  refine cn_wpnew hk hkind hl1 hh1 rfl rfl (by omega) (by omega) ?_
  simp only [hfind]
  rw [ite_self, wp_bind', Std.Legacy.Range.forIn_eq_forIn_range']
  rw [show ([:n.toNatClampNeg] : Std.Legacy.Range).size = n.toNatClampNeg by simp [Std.Legacy.Range.size]]
  show wp (forIn (List.range' 0 n.toNatClampNeg 1) PUnit.unit _) _ E e d acts _
  refine wp_forIn_inv (fun rest u => ∃ i, i ≤ n.toNatClampNeg ∧ rest = List.range' i (n.toNatClampNeg - i) ∧ u = cn_rw s cA cI n.toNatClampNeg m.toNatClampNeg i) _ _ ⟨0, Nat.zero_le _, rfl, rfl⟩ ?_ ?_
  · rintro x rest u d' acts' Q' ⟨i, hi, hl, rfl⟩ hnext
    by_cases hlt : i < n.toNatClampNeg
    · rw [show n.toNatClampNeg - i = (n.toNatClampNeg - (i + 1)) + 1 by omega, List.range'_succ] at hl
      obtain ⟨rfl, hrest⟩ := List.cons.inj hl
      obtain ⟨f1, f2, f3, f4, -, -⟩ := cn_rw_f s cA cI n.toNatClampNeg m.toNatClampNeg x
      have hmul : x * m.toNatClampNeg + m.toNatClampNeg ≤ n.toNatClampNeg * m.toNatClampNeg := by
        have := Nat.mul_le_mul_right m.toNatClampNeg (show x + 1 ≤ n.toNatClampNeg from hlt)
        rw [Nat.succ_mul] at this
        exact this
      simp only [wp_bind']
      refine cn_wprow (by rw [f3]; exact hkc) hkindc hm hl2 hh2 (by rw [f1]; omega) (by rw [f4]; omega) ?_
      simp only [wp_bind', W.writeLoc, wp_pure']
      have hq' : s.heap.size < (cn_rw s cA cI n.toNatClampNeg m.toNatClampNeg x).heap.size := by omega
      refine ⟨cn_oc cA n.toNatClampNeg s.heap.size x, by rw [State.heap_pushCell_of_lt (h := hq')]; exact f2, by simp [cn_oc, arrV], by show x < (arrV _ _ _).slots.size; rw [arrV_size]; exact hlt, ?_, hnext _ _ _ ⟨x + 1, hlt, hrest, ?_⟩⟩
      · simp [cn_oc, arrV, State.fitsSlot, State.slotType?, f3, hk, hkind, fits]
      · rw [f1]; rfl
    · rw [show n.toNatClampNeg - i = 0 by omega] at hl
      cases hl
  · rintro u d' acts' ⟨i, hi, hl, rfl⟩
    have e0 : i = n.toNatClampNeg := by
      by_cases hlt : i < n.toNatClampNeg
      · rw [show n.toNatClampNeg - i = (n.toNatClampNeg - (i + 1)) + 1 by omega, List.range'_succ] at hl
        cases hl
      · omega
    subst e0
    simp only [wp_pure']
    exact hq _ _
end CnWp
variable {M : cn_M} {p : Program} {l : Launch} {e : Env} {R : Room} {s : State} {m : MethodId} {args : Array Value} {below : List Frame} {meth : Method} {c : Code} {w : g_W} {H : Heap} {locs : List Loc} {cells slots a pc : Nat} {lsA : Array Slot} {rest : List Value} {Q : State → Prop} {L : List va_E} {T : State}
theorem cn_stand (X : Stand p l e R s m args below meth c T locs cells slots) (cA cI : ClassId) (N K : Nat) : ∀ i, Stand p l e R s m args below meth c (cn_rw T cA cI N K i) locs (cells + 1 + i) (slots + N + i * K) := by
  intro i
  induction i with
  | zero =>
    have h := X.pushed (cn_oc cA N T.heap.size 0)
    rw [show (cn_oc cA N T.heap.size 0).slots.size = N from arrV_size _ _ _] at h
    simpa [cn_rw] using h
  | succ i ih =>
    obtain ⟨f1, f2, -, -, -, -⟩ := cn_rw_f T cA cI N K i
    have hlt : T.heap.size < (cn_rw T cA cI N K i).heap.size := by omega
    have hcell : ((cn_rw T cA cI N K i).pushCell (cn_ic cI K)).heap[T.heap.size]? = some (cn_oc cA N T.heap.size i) := by rw [State.heap_pushCell_of_lt (h := hlt)]; exact f2
    have h := (ih.pushed (cn_ic cI K)).stored hcell i (.ref (T.heap.size + 1 + i))
    rw [show (cn_ic cI K).slots.size = K from arrV_size _ _ _] at h
    have h' := h.dropFresh (fun x hx => by
      rcases List.mem_cons.mp hx with rfl | hx
      · exact X.heapGrown
      · cases hx)
    rw [show slots + N + (i + 1) * K = slots + N + i * K + K by rw [Nat.succ_mul]; omega]
    exact h'
theorem cn_multi (C : cn_Ctx M p l e R s m args below meth c w) (hH : cnH (wD w) s.heap a L H) {idx : Nat} (hw : Cond.classLink (cnO M) idx ("[" ++ (FieldType.array .int).toString) ∈ lwG) (hover : cn_AI s) (harr : Cond.arrayClass .int ∈ lwG)
    {n k : Int32} {N K : Nat} (hn : ¬ n < 0) (hk : ¬ k < 0) (hN : n.toNatClampNeg = N) (hK : k.toNatClampNeg = K) (hb1 : N * 4 ≤ 536870912) (hb2 : K * 4 ≤ 536870912) (hc : cells + (1 + N) ≤ cnC M) (hs : slots + (N + N * K) ≤ cnS M) (hd : decode (cnB M) pc = .ok (.multianewarray idx 2, 4))
    (kk : ∀ H1 : Heap, cnH (wD w) s.heap a (L ++ (.inl (wC w 6, (N, .inr (.inr (.inr (.inr (fun j => some (a + L.length + 1 + j))))))) :: List.replicate N (.inl (wC w 0, (K, .inl fun _ => 0))))) H1 → W p l e R s m args below meth c H1 locs (cells + 1 + N) (slots + N + N * K) Q (F0 m (pc + 4) lsA (.ref (a + L.length) :: rest))) : W p l e R s m args below meth c H locs cells slots Q (F0 m pc lsA (.int k :: .int n :: rest)) := by
  obtain ⟨c1, c2, c3, c4, c5, c6, c7, c8, ⟨c9, c10, c11, c12⟩, c13, c14⟩ := C
  subst hN
  subst hK
  intro T hT X
  have hpl : e.platform.magicAccessors = ({} : Platform).magicAccessors := by rw [X.admits.platform]
  obtain ⟨comp, cA, kA, hcomp, hidx, hkA, hkindA, hnameA⟩ := arrayOverA_spec hover
  obtain ⟨comp2, kC, cc, hcomp2, hkC, hkindC⟩ := Cond.arrayClass_spec (c7 _ harr)
  have ecomp : comp2 = comp := Option.some.inj (hcomp2.symm.trans hcomp)
  subst ecomp
  obtain ⟨c0, hfc0, hcl⟩ := Cond.classLink_spec c6 (c7 _ hw) e.platform hpl
  cases hnameA.symm.trans hfc0
  have hcA : cA = wC w 6 := Option.some.inj (hnameA.symm.trans (c8.2 6 (wC w 6, .array .int) rfl).2)
  have hco : comp2 = wC w 0 := Option.some.inj (hcomp.symm.trans (c8.2 0 (wC w 0, .int) rfl).2)
  subst hcA
  subst hco
  obtain ⟨hg1, hwarm1, hready1⟩ := State.classEntry (e := e) X.warmed hcl
  generalize T.vm.noted m.cls idx (.cls (wC w 6)) = vm1 at hg1 hwarm1 hready1
  have hal : s.vm.Alike vm1 := hwarm1.alike
  obtain ⟨kA1, hkA1, heA⟩ := hal.2.2 _ _ hkA
  obtain ⟨kC1, hkC1, heC⟩ := hal.2.2 _ _ hkC
  have hkindA1 : kA1.kind = .array (wC w 0) (.array .int) := by rw [heA]; exact hkindA
  have hkindC1 : kC1.kind = .array cc .int := by rw [heC]; exact hkindC
  have X1 := X.noted hwarm1
  obtain ⟨hr1, hr2⟩ := X.roomAbove (by rw [c11]; exact hc) (by rw [c12]; exact hs)
  have XF := cn_stand X1 (wC w 6) (wC w 0) n.toNatClampNeg k.toNatClampNeg n.toNatClampNeg
  obtain ⟨f1, f2, f3, f4, f5, f6⟩ := cn_rw_f (T.setVm vm1) (wC w 6) (wC w 0) n.toNatClampNeg k.toNatClampNeg n.toNatClampNeg
  have hTz : (T.setVm vm1).heap = H := hT
  rw [hTz] at f1 f2 f5 f6
  obtain ⟨t, a1, b1⟩ := kk _ (hH.many (by rw [f1, List.length_cons, List.length_replicate]; omega) f5 (fun j x hx => by
      cases j with
      | zero =>
        cases hx
        show _ = some (vp_cell _ _)
        rw [Nat.add_zero, f2, vp_cell_q]
        refine congrArg some (g_arrV_congr (fun j hj => ?_))
        rw [if_pos hj, hH.1]
        rfl
      | succ j =>
        rw [List.getElem?_cons_succ, List.getElem?_replicate] at hx
        by_cases hj : j < n.toNatClampNeg
        · rw [if_pos hj] at hx
          cases hx
          show _ = some (vp_cell _ _)
          rw [show H.size + (j + 1) = H.size + 1 + j by omega, f6 j hj]
          rfl
        · rw [if_neg hj] at hx
          cases hx)) _ rfl XF
  refine ⟨t, ?_, b1⟩
  have hTs : T.heap.size = a + L.length := by rw [hT]; exact hH.1
  have hl1 : ¬ n.toNatClampNeg > e.platform.arrayLengthLimit := by rw [Launch.admits_arrayLengthLimit X.admits]; omega
  have hh1 : ¬ n.toNatClampNeg * componentBytes (.array .int) > e.platform.maxHeapBytes := by
    rw [Launch.admits_maxHeapBytes X.admits]; show ¬ n.toNatClampNeg * 4 > 536870912; omega
  have hl2 : ¬ k.toNatClampNeg > e.platform.arrayLengthLimit := by rw [Launch.admits_arrayLengthLimit X.admits]; omega
  have hh2 : ¬ k.toNatClampNeg * componentBytes .int > e.platform.maxHeapBytes := by
    rw [Launch.admits_maxHeapBytes X.admits]; show ¬ k.toNatClampNeg * 4 > 536870912; omega
  have hdg : decode c.code (F0 m pc lsA (.int k :: .int n :: rest)).pc = .ok (.multianewarray idx 2, 4) := by rw [c2]; exact hd
  jvm_step X.here [c1, hdg]
  simp only [multianewarray.sem, wp_bind', W.resolveClassAt_links (State.method?_setTop (F0 m pc lsA (.int k :: .int n :: rest)) X.here.top) hg1]
  rw [W.popN, if_neg (by decide)]
  refine ⟨F0 m pc lsA (.int k :: .int n :: rest), State.topJava?_setTop' (s := T.setVm vm1) _ X.here.top, [.int n, .int k], rest, rfl, rfl, ?_⟩
  simp only [List.mapM_cons, List.mapM_nil, wp_bind', wp_pure']
  refine cn_wpmake (k := kA1) (kc := kC1) hkA1 hkindA1 hkC1 hkindC1 hn hk hl1 hh1 hl2 hh2 (by show T.heap.size + 1 + _ ≤ _; omega) (by show T.slotsUsed + _ + _ ≤ _; omega) (fun d' acts' => ?_)
  have eS : ((T.setTop (F0 m pc lsA (.int k :: .int n :: rest))).setVm vm1).setTop { F0 m pc lsA (.int k :: .int n :: rest) with stack := rest } = (T.setVm vm1).setTop { F0 m pc lsA (.int k :: .int n :: rest) with stack := rest } := by
    show ((T.setVm vm1).setTop _).setTop _ = _
    rw [State.setTop_setTop]
  rw [eS, cn_rw_top]
  simp only [wp_bind', W.mark, W.pushRef, State.topJava?_setTop' _ XF.here.top, Option.some.injEq, exists_eq_left', State.setTop_setTop, State.heap_setTop]
  intro acts
  simp [jvm, XF.here.top]
  rw [← hTs] at a1
  exact a1
end CnMulti
