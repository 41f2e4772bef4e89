/-! CONSTRUCTORS: a heap that grows -/
/-- below a the heap is B; from a on lie the cells L -/
def cnH (D : va_G) (B : Heap) (a : Nat) (L : List va_E) (H : Heap) : Prop := H.size = a + L.length ∧ (∀ q, q < a → H[q]? = B[q]?) ∧ ∀ j e, L[j]? = some e → va_at D vwCl (a + j, e) H
theorem cn_at {D : va_G} {q : Nat × va_E} {H H1 : Heap} (h : va_at D vwCl q H) (e : H1[q.1]? = H[q.1]?) : va_at D vwCl q H1 := by
  have hP : va_P D vwCl [q] H := fun k x hx => by
    cases k with
    | zero => cases hx; exact h
    | succ k => cases hx
  exact (hP.kept (fun k x hx => by
    cases k with
    | zero => cases hx; exact e
    | succ k => cases hx)) 0 q rfl
theorem cnH.push {D : va_G} {B H H1 : Heap} {a : Nat} {L : List va_E} {e : va_E} (h : cnH D B a L H) (hz : H1.size = H.size + 1) (ho : ∀ q, q < H.size → H1[q]? = H[q]?) (he : va_at D vwCl (H.size, e) H1) : cnH D B a (L ++ [e]) H1 := by
  obtain ⟨h1, h2, h3⟩ := h
  refine ⟨by rw [hz, h1, List.length_append]; rfl, fun q hq => (ho q (by omega)).trans (h2 q hq), fun j x hx => ?_⟩
  by_cases hj : j < L.length
  · rw [List.getElem?_append_left hj] at hx
    exact cn_at (h3 j x hx) (ho _ (by show a + j < _; omega))
  · rw [List.getElem?_append_right (by omega)] at hx
    have hk : j - L.length < 1 := (List.getElem?_eq_some_iff.mp hx).1
    have e0 : j = L.length := by omega
    subst e0
    rw [Nat.sub_self] at hx
    cases hx
    rw [← h1]
    exact he
theorem cnH.set {D : va_G} {B H H1 : Heap} {a j : Nat} {L : List va_E} {e : va_E} (h : cnH D B a L H) (hz : H1.size = H.size) (ho : ∀ q, q ≠ a + j → H1[q]? = H[q]?) (he : va_at D vwCl (a + j, e) H1) : cnH D B a (L.set j e) H1 := by
  obtain ⟨h1, h2, h3⟩ := h
  refine ⟨by rw [hz, h1, List.length_set], fun q hq => (ho q (by omega)).trans (h2 q hq), fun i x hx => ?_⟩
  rw [List.getElem?_set] at hx
  by_cases hi : j = i
  · subst hi
    rw [if_pos rfl] at hx
    by_cases hl : j < L.length
    · rw [if_pos hl] at hx
      cases hx
      exact he
    · rw [if_neg hl] at hx
      cases hx
  · rw [if_neg hi] at hx
    exact cn_at (h3 i x hx) (ho _ (by show a + i ≠ a + j; omega))
theorem cnH.app {D : va_G} {B H H2 : Heap} {a : Nat} {L CS : List va_E} {e0 : va_E} (h : cnH D B a (L ++ [e0]) H) (hc : cnH D H (a + L.length) CS H2) : cnH D B a (L ++ CS) H2 := by
  obtain ⟨h1, h2, h3⟩ := h
  obtain ⟨g1, g2, g3⟩ := hc
  refine ⟨by rw [g1, List.length_append]; omega, fun q hq => (g2 q (by omega)).trans (h2 q hq), fun j x hx => ?_⟩
  by_cases hj : j < L.length
  · rw [List.getElem?_append_left hj] at hx
    exact cn_at (h3 j x (by rw [List.getElem?_append_left hj]; exact hx)) (g2 _ (by show a + j < _; omega))
  · rw [List.getElem?_append_right (by omega)] at hx
    have := g3 _ x hx
    rw [show a + L.length + (j - L.length) = a + j by omega] at this
    exact this
/-- a constructor: its class, bytes, locals, depth, cells, slots -/
abbrev cn_M : Type := String × ByteArray × Nat × Nat × Nat × Nat × Bool × Bool
abbrev cnO (M : cn_M) : String := M.1
abbrev cnB (M : cn_M) : ByteArray := M.2.1
abbrev cnL (M : cn_M) : Nat := M.2.2.1
abbrev cnD (M : cn_M) : Nat := M.2.2.2.1
abbrev cnC (M : cn_M) : Nat := M.2.2.2.2.1
abbrev cnS (M : cn_M) : Nat := M.2.2.2.2.2.1
abbrev cnN (M : cn_M) : Bool := M.2.2.2.2.2.2.1
abbrev cnI (M : cn_M) : Bool := M.2.2.2.2.2.2.2
/-- nest mates' constructors -/
def cn_nl : List (String × Nat × MethodName) := [("GalleyRoom", 25, ⟨"GalleyRoom$Galley", "<init>", "()V"⟩), ("GalleyRoom", 46, ⟨"GalleyRoom$Reader", "<init>", "()V"⟩), ("GalleyRoom", 63, ⟨"GalleyRoom$Paper", "<init>", "()V"⟩), ("GalleyRoom", 9, ⟨"GalleyRoom$Desk", "<init>", "()V"⟩),
  ("GalleyRoom$Desk", 11, ⟨"GalleyRoom$Galley", "<init>", "()V"⟩), ("GalleyRoom$Desk", 20, ⟨"GalleyRoom$Log", "<init>", "()V"⟩), ("GalleyRoom$Desk", 27, ⟨"GalleyRoom$Sheet", "<init>", "()V"⟩), ("GalleyRoom$Desk", 34, ⟨"GalleyRoom$Machine", "<init>", "()V"⟩),
  ("GalleyRoom$Line", 17, ⟨"GalleyRoom$Machine", "<init>", "()V"⟩), ("GalleyRoom$Paper", 27, ⟨"GalleyRoom$Line", "<init>", "()V"⟩), ("GalleyRoom$Sheet", 25, ⟨"GalleyRoom$Line", "<init>", "()V"⟩)]
/-- arrays over int[] are known -/
def cn_AI (U : State) : Prop := (Cond.arrayOver (.array .int)).before #[] U = true
theorem cn_AI.moved {u U : State} (hvm : u.vm.Alike U.vm) (h : cn_AI u) : cn_AI U := by
  obtain ⟨comp, c, k, h1, h2, h3, h4, h5⟩ := arrayOverA_spec h
  obtain ⟨k', hk', he⟩ := hvm.2.2 _ _ h3
  have hi : (U.vm.classes.findIdx? fun (x : Class) => match x.kind with | .array component _ => component == comp | _ => false) = some c := by
    have e1 := va_idx_bare U.vm comp
    have e2 := va_idx_bare u.vm comp
    have e3 := hvm.bare_eq
    first
      | (rw [e3] at e1; exact e1.symm.trans (e2.trans h2))
      | (rw [← e3] at e1; exact e1.symm.trans (e2.trans h2))
  have hkind : k'.kind = .array comp (.array .int) := by rw [he]; exact h4
  have f1 : U.vm.findClass (FieldType.array .int).toString = some comp := by rw [hvm.findClass]; exact h1
  have f2 : U.vm.findClass ("[" ++ (FieldType.array .int).toString) = some c := by rw [hvm.findClass]; exact h5
  unfold cn_AI Cond.before Cond.holds
  simp only [Cond.value]
  rw [f1, Option.bind_some]
  refine (congrArg (fun o : Option Nat => (o.bind (fun c => (U.vm.classes[c]?).map fun (k : Class) => match k.kind with | .array _ ty => decide (ty = FieldType.array .int) && decide (U.vm.findClass ("[" ++ (FieldType.array .int).toString) = some c) | _ => false) == some true)) hi).trans ?_
  simp [hk', hkind, f2]
def cn_N (b : Bool) (U : State) : Prop := b = true → (∀ q ∈ cn_nl, va_Nw (.methodLinkNest q.1 q.2.1 q.2.2 "GalleyRoom") U) ∧ va_AO "GalleyRoom$Text" U ∧ va_AO "GalleyRoom$Galley" U ∧ cn_AI U
theorem cn_N.warm {b : Bool} {s U : State} (hW : s.WarmedH U.vm) (h : cn_N b s) : cn_N b U := fun hb => ⟨fun q hq => ((h hb).1 q hq).warmM hW, (h hb).2.1.moved hW.alike, (h hb).2.2.1.moved hW.alike, (h hb).2.2.2.moved hW.alike⟩
theorem cn_N.call {b : Bool} {U : State} {g : JFrame} {mk : MethodId} {A : Array Value} (h : cn_N b U) : cn_N b (U.calling g mk A) := fun hb => ⟨fun q hq => ((h hb).1 q hq).same rfl rfl, va_AO.moved (u := U) (Vm.Alike.refl U.vm) (h hb).2.1, va_AO.moved (u := U) (Vm.Alike.refl U.vm) (h hb).2.2.1, cn_AI.moved (u := U) (Vm.Alike.refl U.vm) (h hb).2.2.2⟩
def cn_Ctx (M : cn_M) (p : Program) (l : Launch) (e : Env) (R : Room) (s : State) (m : MethodId) (args : Array Value) (below : List Frame) (meth : Method) (c : Code) (w : g_W) : Prop :=
  p.tables.exec = Jvm.exec ∧ c.code = cnB M ∧ c.maxLocals = cnL M ∧ (cnI M = true → meth.sig.returnType = none) ∧ meth.locks = false ∧ s.vm.findClass (cnO M) = some m.cls ∧ (∀ x ∈ lwG, x.before args s = true) ∧
  va_K (wD w) vwCl (g_tys w) s ∧ (cnD M ≤ R.frames ∧ 40 * cnD M ≤ R.locals ∧ R.cells = cnC M ∧ R.slots = cnS M) ∧ (cnI M = true → meth.name = "<init>") ∧ cn_N (cnN M) s
def cn_Qc (w : g_W) (a : Nat) (CS : List va_E) : Array Value → State → Outcome → State → Prop := fun _ st o t => o = .returned none ∧ cnH (wD w) st.heap a CS t.heap
def cn_Met (l : Launch) (y : MethodName) (M : cn_M) (w : g_W) (ci : Nat) (df : List Value) (vs : List Value) (CS : Nat → List va_E) : Prop :=
  ∀ a : Nat, Met l y (Cond.code y (cnB M) (cnL M) none :: lwG) { frames := cnD M, cells := cnC M, slots := cnS M, locals := 40 * cnD M }
    (va_Pc (.ref a :: vs) (fun U => cnH (wD w) U.heap a [.inr (ci, df)] U.heap ∧ va_K (wD w) vwCl (g_tys w) U ∧ cn_N (cnN M) U)) (cn_Qc w a (CS a)) (cnC M) (cnS M) (fun q => a ≤ q)
theorem cn_entry {M : cn_M} {y : MethodName} {l : Launch} {w : g_W} {ci : Nat} {df vs : List Value} {CS : Nat → List va_E} (hy : plainName y.cls = true) (hyc : y.cls = cnO M) (hyn : y.name = "<init>") (hlen : ∀ a, (lg_sl (.ref a :: vs)).length ≤ cnL M)
    (body : ∀ (a : Nat) (p : Program) (e : Env) (R : Room) (s : State) (m : MethodId) (below : List Frame) (meth : Method) (c : Code) (lsA : Array Slot), cn_Ctx M p l e R s m (.ref a :: vs : List Value).toArray below meth c w → cnH (wD w) s.heap a [.inr (ci, df)] s.heap → lsA.size = cnL M → lv_wf lsA → (∀ q ∈ lv_args 0 (.ref a :: vs), lsA[q.1]? = some (.val q.2)) →
      W p l e R s m (.ref a :: vs : List Value).toArray below meth c s.heap [] 0 0 (MQ below (cn_Qc w a (CS a)) (.ref a :: vs : List Value).toArray s (cnC M) (cnS M) (fun q => a ≤ q)) (F0 m 0 lsA [])) : cn_Met l y M w ci df vs CS := by
  intro a
  refine Met.ofW (cc := cnB M) (maxL := cnL M) (ret := none) hy rfl ?_
  intro p e s m args below meth c s₁ BL hml hv
  obtain ⟨rfl, hb, hK, hNs⟩ := hv
  have hts := atoms_spec (ws := Cond.code y (cnB M) (cnL M) none :: lwG) BL.pre
  have hown : s.vm.findClass (cnO M) = some m.cls := by rw [← hyc]; exact findClass_of_methodNamed BL.named
  have hin : meth.name = "<init>" := by rw [← hyn]; exact (name_of_methodNamed BL.named BL.method).1
  have hl := lv_entry (.ref a :: vs) (n := cnL M) (hlen a)
  rw [lg_entry_eq]
  generalize (lg_sl (.ref a :: vs) ++ List.replicate (cnL M - (lg_sl (.ref a :: vs)).length) Slot.unset).toArray = lsA at hl ⊢
  have C : cn_Ctx M p l e ({ frames := cnD M, cells := cnC M, slots := cnS M, locals := 40 * cnD M } : Room) s m (.ref a :: vs : List Value).toArray below meth c w :=
    ⟨BL.exec, BL.bytes, hml, fun _ => BL.returns, BL.notSynchronized, hown, fun x hx => hts x (List.mem_cons_of_mem _ hx), hK, ⟨Nat.le_refl _, Nat.le_refl _, rfl, rfl⟩, fun _ => hin, hNs⟩
  exact body a p e _ s m below meth c lsA C hb hl.1 hl.2.1 hl.2.2
section CnRows
variable {M : cn_M} {p : Program} {l : Launch} {e : Env} {R : Room} {s : State} {m : MethodId} {args : Array Value} {below : List Frame} {meth : Method} {c : Code} {w : g_W} {H : Heap} {locs : List Loc} {cells slots a pc : Nat} {lsA : Array Slot} {rest : List Value} {Q : State → Prop} {L : List va_E}
theorem cn_ret {CS : List va_E} (C : cn_Ctx M p l e R s m args below meth c w) (hI : cnI M = true) (hH : cnH (wD w) s.heap a CS H) (hL : ∀ q ∈ locs, a ≤ q.base) (hc : cells ≤ cnC M) (hs : slots ≤ cnS M) (hd : decode (cnB M) pc = .ok (.return_, 1)) :
    W p l e R s m args below meth c H locs cells slots (MQ below (cn_Qc w a CS) args s (cnC M) (cnS M) (fun q => a ≤ q)) (F0 m pc lsA []) := by
  obtain ⟨c1, c2, c3, c4, c5, c6, c7, c8, c9, c10⟩ := C
  refine W.widen (k := cnC M) (n := cnS M) hc hs ?_
  exact W.vret c1 c2 (c4 hI) (fun t ht _ => ⟨rfl, by rw [ht]; exact hH⟩) hL hd c5
theorem cn_obj (C : cn_Ctx M p l e R s m args below meth c w) {idx : Nat} (hw : Cond.methodLink (cnO M) idx Lib.objectInit ∈ lwG ∧ Cond.instanceMethod Lib.objectInit ∈ lwG ∧ Cond.code Lib.objectInit ⟨#[0xb1]⟩ 1 none ∈ lwG) (hls : lsA.size = cnL M) (hr : (rest.map fun v => v.category).sum ≤ 8) (hm : 1 ≤ cnD M)
    (hd : decode (cnB M) pc = .ok (.invokespecial idx, 3)) (kk : W p l e R s m args below meth c H locs cells slots Q (F0 m (pc + 3) lsA rest)) : W p l e R s m args below meth c H locs cells slots Q (F0 m pc lsA (.ref a :: rest)) := by
  obtain ⟨c1, c2, c3, c4, c5, c6, c7, c8, ⟨c9, c10, c11, c12⟩, c13, c14⟩ := C
  refine W.objInit c1 c2 c6 (c7 _ hw.1) (c7 _ hw.2.1) (c7 _ hw.2.2) (g := F0 m pc lsA (.ref a :: rest)) rfl (hls.trans c3.symm) rfl hd (by omega) ?_ kk
  show 2 * 0 + _ + 12 ≤ _
  omega
theorem cn_newa (C : cn_Ctx M p l e R s m args below meth c w) (hH : cnH (wD w) s.heap a L H) {atype : ArrayType} {ty : FieldType} (hty : newarray.typeOf atype = ty) (hw : Cond.arrayClass ty ∈ lwG) {k : Nat} {cA : ClassId} (hk : (g_tys w)[k]? = some (cA, ty)) (hra : ∀ U, va_RA U cA ty → U.vm.findClass ("[" ++ ty.toString) = some cA)
    {n : Int32} {N : Nat} {a0 : vp_A} (ha : ∀ cA : ClassId, vp_cell cA a0 = arrV cA N (fun _ => defaultValue ty)) (hn : ¬ n < 0) (hN : n.toNatClampNeg = N) (hb : N * componentBytes ty ≤ 536870912) (hc : cells + 1 ≤ cnC M) (hs : slots + N ≤ cnS M) (hd : decode (cnB M) pc = .ok (.newarray atype, 2))
    (kk : ∀ H1 : Heap, cnH (wD w) s.heap a (L ++ [.inl (cA, a0)]) H1 → W p l e R s m args below meth c H1 locs (cells + 1) (slots + N) Q (F0 m (pc + 2) lsA (.ref (a + L.length) :: rest))) : W p l e R s m args below meth c H locs cells slots Q (F0 m pc lsA (.int n :: rest)) := by
  obtain ⟨c1, c2, c3, c4, c5, c6, c7, c8, ⟨c9, c10, c11, c12⟩, c13, c14⟩ := C
  subst hty
  refine va_newaK c1 c2 (c7 _ hw) (g := F0 m pc lsA (.int n :: rest)) rfl hd rfl hn hN hb (by rw [c11]; exact hc) (by rw [c12]; exact hs) hH.1 (fun H1 cB e1 z1 o1 hAr hNm => ?_)
  have hcc : cB = cA := Option.some.inj (hNm.symm.trans (hra s (c8.2 k _ hk).2))
  subst hcc
  refine kk H1 (hH.push (by rw [z1, hH.1]) (fun q hq => o1 q (by rw [← hH.1]; exact hq)) ?_)
  show H1[H.size]? = some (vp_cell cB a0)
  rw [ha, hH.1]
  exact e1
/-- a field of the own object -/
def cn_Fp (own : String) (idx ci sl N : Nat) (ty : FieldType) : Prop := sl < N ∧ ∃ (T : u_T) (ty0 : Nat → FieldType), vwCl[ci]? = some (own, T, N) ∧ (∀ x ∈ u_ws own T N, x ∈ lwG) ∧ Cond.fieldLink own idx (T sl).1 (T sl).2.1 (T sl).2.2.1 ∈ lwG ∧
  (∀ k, k < N → parseFieldDescriptor (T k).2.2.1 = some (ty0 k)) ∧ (∀ a, a < N → ∀ b, b < N → a ≠ b → (T a).2.1 ≠ (T b).2.1) ∧ (T sl).1 = own ∧ parseFieldDescriptor (T sl).2.2.1 = some ty
theorem cn_put (C : cn_Ctx M p l e R s m args below meth c w) (hH : cnH (wD w) s.heap a L H) (hL : ∀ q ∈ locs, a ≤ q.base) {idx ci sl N : Nat} {ty : FieldType} {fs : List Value} {v : Value} (hI : ∀ T : u_T, vwCl[ci]? = some (cnO M, T, N) → (T sl).2.2.2 = true → cnI M = true) (hf : cn_Fp (cnO M) idx ci sl N ty) (h0 : L[0]? = some (.inr (ci, fs))) (hlen : fs.length = N) (hn : narrow ty v = v) (hfit : fits ty v = true)
    (hd : decode (cnB M) pc = .ok (.putfield idx, 3)) (kk : ∀ (H1 : Heap) (locs1 : List Loc), cnH (wD w) s.heap a (L.set 0 (.inr (ci, fs.set sl v))) H1 → (∀ q ∈ locs1, a ≤ q.base) → W p l e R s m args below meth c H1 locs1 cells slots Q (F0 m (pc + 3) lsA rest)) : W p l e R s m args below meth c H locs cells slots Q (F0 m pc lsA (v :: .ref a :: rest)) := by
  obtain ⟨hsl, T, ty0, hc, hin, hw, hty, hnm, hdecl, hpd⟩ := hf
  obtain ⟨c1, c2, c3, c4, c5, c6, c7, c8, c9, c13, c14⟩ := C
  have hap := va_apart (own := cnO M) c7 hin ty0 hty hnm c8 hc
  obtain ⟨r', h1, cell, q1, q2, q3, q4⟩ := hH.2.2 0 _ h0
  have hr : r' = (cnO M, T, N) := Option.some.inj (h1.symm.trans hc)
  subst hr
  obtain ⟨hSS, hfc, kC, hkC, hkind⟩ := c8.1 ci _ hc
  obtain ⟨cf, kf, fi, f, hi, hsl2⟩ := hSS sl hsl
  have hlay := c7 _ (hin _ (u_in_lay hsl))
  have hst := (u_facts hfc hkC (u_lays c7 hin hsl) hi).1
  have done : ∀ H' : Heap, H'[a]? = some (cell.setSlot f.slot v) → H'.size = H.size → (∀ q, q ≠ a → H'[q]? = H[q]?) → cnH (wD w) s.heap a (L.set 0 (.inr (ci, fs.set sl v))) H' := fun H' e1 e2 e3 => by
    rw [hsl2] at e1
    exact hH.set (j := 0) e2 e3 ⟨_, hc, t_OB.to (V := updV (vp_V fs) sl v) ⟨_, e1, q2, q3, t_set q4 hap hsl _⟩ (fun j _ => vp_updV_set (by rw [hlen]; exact hsl) _ j)⟩
  have lo : ∀ q ∈ locs ++ [(⟨a, f.slot⟩ : Loc)], a ≤ q.base := fun q hq => by
    rcases List.mem_append.mp hq with h | h
    · exact hL q h
    · rcases List.mem_cons.mp h with rfl | h
      · exact Nat.le_refl _
      · cases h
  have q1' : H[a]? = some cell := q1
  unfold u_lay at hlay
  cases hfin : (T sl).2.2.2 with
  | false =>
    rw [if_neg (by rw [hfin]; decide)] at hlay
    have h6 := u_store hfc hkC hkind hlay hi hpd hn hfit
    exact W.putK c1 c2 (f := f) ⟨c6, c7 _ hw, ⟨_, _, _, hi⟩, hst⟩ (by rw [q2]; exact h6) q1' q3 (by rw [hsl2]; exact k2_hasslot (q4 sl hsl)) rfl rfl hd fun H' e1 e2 e3 => kk H' _ (done H' e1 e2 e3) lo
  | true =>
    rw [if_pos hfin] at hlay
    have hcf : m.cls = cf := by
      obtain ⟨_, _, c', _, _, _, -, -, hf', -, -, -, hown2, -⟩ := Cond.laysFinal_spec hlay
      have e1 : c' = cf := by have := hi.symm.trans hf'; simp at this; exact this.1.symm
      rw [hdecl] at hown2
      rw [← e1]; exact Option.some.inj (c6.symm.trans hown2)
    have h6 := u_fits hfc hkC hkind (Or.inr hlay) hi hpd hn hfit
    exact W.putFinK c1 c2 c6 (c7 _ hw) hi hst hcf (c13 (hI T hc hfin)) (by rw [q2]; exact h6) q1' q3 (by rw [hsl2]; exact k2_hasslot (q4 sl hsl)) rfl rfl hd fun H' e1 e2 e3 => kk H' _ (done H' e1 e2 e3) lo
theorem cn_new (C : cn_Ctx M p l e R s m args below meth c w) (hH : cnH (wD w) s.heap a L H) {Cn : String} {T : u_T} {N ci idx : Nat} {ty : Nat → FieldType} {df : List Value} (hc : vwCl[ci]? = some (Cn, T, N)) (hin : ∀ x ∈ u_ws Cn T N, x ∈ lwG) (hty : ∀ k, k < N → parseFieldDescriptor (T k).2.2.1 = some (ty k)) (hdf : ∀ j, j < N → defaultValue (ty j) = vp_V df j)
    (hw : Cond.classLink (cnO M) idx Cn ∈ lwG ∧ Cond.instantiable Cn N ∈ lwG ∧ Cond.initialized Cn ∈ lwG) (hcl : cells + 1 ≤ cnC M) (hs : slots + N ≤ cnS M) (hd : decode (cnB M) pc = .ok (.new idx, 3))
    (kk : ∀ H1 : Heap, cnH (wD w) s.heap a (L ++ [.inr (ci, df)]) H1 → W p l e R s m args below meth c H1 locs (cells + 1) (slots + N) Q (F0 m (pc + 3) lsA (.ref (a + L.length) :: rest))) : W p l e R s m args below meth c H locs cells slots Q (F0 m pc lsA rest) := by
  obtain ⟨c1, c2, c3, c4, c5, c6, c7, c8, ⟨c9, c10, c11, c12⟩, c13, c14⟩ := C
  have hKn := c8.1 ci _ hc
  refine W.newcK c1 c2 c6 (c7 _ hw.1) (c7 _ hw.2.1) (c7 _ hw.2.2) (g := F0 m pc lsA rest) rfl hd (by rw [c11]; exact hcl) (by rw [c12]; exact hs) hKn.2.1 hH.1 fun H1 kC hkC e1 z1 o1 => ?_
  refine kk H1 (hH.push (by rw [z1, hH.1]) (fun q hq => o1 q (by rw [← hH.1]; exact hq)) ?_)
  rw [hH.1]
  exact ⟨_, hc, (u_born ty c7 hin hKn hkC e1 hty).to hdf⟩
theorem cn_call (C : cn_Ctx M p l e R s m args below meth c w) {Mc : cn_M} {y : MethodName} {ci : Nat} {df vs : List Value} {CS : Nat → List va_E} (hM : cn_Met l y Mc w ci df vs CS) {e0 : va_E} (he0 : e0 = .inr (ci, df)) (hH : cnH (wD w) s.heap a (L ++ [e0]) H) (hL : ∀ q ∈ locs, a ≤ q.base) {idx n : Nat} (hnn : cnN Mc = true → cnN M = true) (hyn : y.name = "<init>")
    (hw : Cond.methodLink (cnO M) idx y ∈ lwG ∧ Cond.code y (cnB Mc) (cnL Mc) none ∈ lwG ∧ Cond.initialized y.cls ∈ lwG ∧ Cond.instanceMethod y ∈ lwG) (hy : y.cls ≠ "java/lang/invoke/MethodHandle" ∧ y.cls ≠ "java/lang/invoke/VarHandle" ∧ (parseMethodDescriptor y.desc).map (fun d => d.parameters.length) = some n) (hmd : cnD Mc + 1 ≤ cnD M ∧ cnL Mc ≤ 21) (hlen : vs.length = n)
    (hls : lsA.size = cnL M) (hroom : (rest.map fun v => v.category).sum ≤ 8) (hd : decode (cnB M) pc = .ok (.invokespecial idx, 3)) (hcs : cells + cnC Mc ≤ cnC M ∧ slots + cnS Mc ≤ cnS M)
    (kk : ∀ (H1 : Heap) (locs1 : List Loc), cnH (wD w) s.heap a (L ++ CS (a + L.length)) H1 → (∀ q ∈ locs1, a ≤ q.base) → W p l e R s m args below meth c H1 locs1 (cells + cnC Mc) (slots + cnS Mc) Q (F0 m (pc + 3) lsA rest)) : W p l e R s m args below meth c H locs cells slots Q (F0 m pc lsA (vs.reverse ++ .ref (a + L.length) :: rest)) := by
  obtain ⟨c1, c2, c3, c4, c5, c6, c7, c8, ⟨c9, c10, c11, c12⟩, c13, c14⟩ := C
  subst he0
  have hG : GoodIn lwG (Cond.code y (cnB Mc) (cnL Mc) none :: lwG) := by
    refine g_goodIn (fun x hx => ?_)
    rcases List.mem_cons.mp hx with rfl | q
    · exact hw.2.1
    · exact q
  have cw := callB_of (R := R) (own := cnO M) (rm := ({ frames := cnD Mc, cells := cnC Mc, slots := cnS Mc, locals := 40 * cnD Mc } : Room)) n c7 hG rfl rfl rfl (c7 _ hw.2.2.1) (c7 _ hw.1) hy ⟨by show cnD Mc + 1 ≤ _; omega, by show 8 + (cnL Mc + 11) + 40 * cnD Mc ≤ _; omega⟩
  have hb0 : cnH (wD w) H (a + L.length) [.inr (ci, df)] H := by
    refine ⟨by rw [hH.1, List.length_append]; rfl, fun _ _ => rfl, fun j x hx => ?_⟩
    have := hH.2.2 (L.length + j) x (by rw [List.getElem?_append_right (by omega)]; rw [show L.length + j - L.length = j by omega]; exact hx)
    rw [Nat.add_assoc]
    exact this
  have hr := va_runI (p := p) (below := below) (meth := meth) (e := e) (locs := locs) (cells := cells) (slots := slots) (g := F0 m pc lsA (vs.reverse ++ .ref (a + L.length) :: rest)) (b := a + L.length) (As := vs) (rest := rest) ⟨c1, c2, c3, c6, c7⟩ (hM (a + L.length)) ⟨cw, hyn, c7 _ hw.2.2.2⟩
    ⟨fun A U g mk q => ⟨q.1, q.2.1, va_K.moved (u := U) (U := U.calling g mk A) (Vm.Alike.refl U.vm) q.2.2.1, q.2.2.2.call⟩, fun U hU hW => ⟨rfl, by rw [hU]; exact hb0, va_K.moved hW.alike c8, fun hb => c14.warm hW (hnn hb)⟩⟩ rfl hlen hls rfl (lv_room hroom) hd ⟨by rw [c11]; exact hcs.1, by rw [c12]; exact hcs.2⟩
  intro T hT X
  obtain ⟨v', st₀, t, T', Ln, h0, X', hLn, e1, e2, ⟨hv, hcn⟩, st⟩ := hr T hT X
  cases hv
  rw [h0] at hcn
  obtain ⟨t2, a1, b1⟩ := kk T'.heap (locs ++ Ln) (by rw [e1]; exact hH.app hcn) (fun q hq => by
      rcases List.mem_append.mp hq with h | h
      · exact hL q h
      · exact Nat.le_trans (Nat.le_add_right _ _) (hLn q h)) T' rfl X'
  exact ⟨t2, st t2 a1, b1⟩
theorem cn_callN (C : cn_Ctx M p l e R s m args below meth c w) {Mc : cn_M} {y : MethodName} {ci : Nat} {df vs : List Value} {CS : Nat → List va_E} (hM : cn_Met l y Mc w ci df vs CS) {e0 : va_E} (he0 : e0 = .inr (ci, df)) (hH : cnH (wD w) s.heap a (L ++ [e0]) H) (hL : ∀ q ∈ locs, a ≤ q.base) {idx n : Nat} (hnn : cnN Mc = true → cnN M = true) (hyn : y.name = "<init>")
    (hwb : cnN M = true) (hwn : (cnO M, idx, y) ∈ cn_nl) (hw : Cond.code y (cnB Mc) (cnL Mc) none ∈ lwG ∧ Cond.initialized y.cls ∈ lwG ∧ Cond.instanceMethod y ∈ lwG) (hy : y.cls ≠ "java/lang/invoke/MethodHandle" ∧ y.cls ≠ "java/lang/invoke/VarHandle" ∧ (parseMethodDescriptor y.desc).map (fun d => d.parameters.length) = some n) (hmd : cnD Mc + 1 ≤ cnD M ∧ cnL Mc ≤ 21) (hlen : vs.length = n)
    (hls : lsA.size = cnL M) (hroom : (rest.map fun v => v.category).sum ≤ 8) (hd : decode (cnB M) pc = .ok (.invokespecial idx, 3)) (hcs : cells + cnC Mc ≤ cnC M ∧ slots + cnS Mc ≤ cnS M)
    (kk : ∀ (H1 : Heap) (locs1 : List Loc), cnH (wD w) s.heap a (L ++ CS (a + L.length)) H1 → (∀ q ∈ locs1, a ≤ q.base) → W p l e R s m args below meth c H1 locs1 (cells + cnC Mc) (slots + cnS Mc) Q (F0 m (pc + 3) lsA rest)) : W p l e R s m args below meth c H locs cells slots Q (F0 m pc lsA (vs.reverse ++ .ref (a + L.length) :: rest)) := by
  obtain ⟨c1, c2, c3, c4, c5, c6, c7, c8, ⟨c9, c10, c11, c12⟩, c13, c14⟩ := C
  subst he0
  have hG : GoodIn lwG (Cond.code y (cnB Mc) (cnL Mc) none :: lwG) := by
    refine g_goodIn (fun x hx => ?_)
    rcases List.mem_cons.mp hx with rfl | q
    · exact hw.1
    · exact q
  have cw := va_cnB (R := R) (own := cnO M) (rm := ({ frames := cnD Mc, cells := cnC Mc, slots := cnS Mc, locals := 40 * cnD Mc } : Room)) n c7 hG rfl rfl rfl ((c14 hwb).1 _ hwn) (c7 _ hw.2.1) hy ⟨by show cnD Mc + 1 ≤ _; omega, by show 8 + (cnL Mc + 11) + 40 * cnD Mc ≤ _; omega⟩
  have hb0 : cnH (wD w) H (a + L.length) [.inr (ci, df)] H := by
    refine ⟨by rw [hH.1, List.length_append]; rfl, fun _ _ => rfl, fun j x hx => ?_⟩
    have := hH.2.2 (L.length + j) x (by rw [List.getElem?_append_right (by omega)]; rw [show L.length + j - L.length = j by omega]; exact hx)
    rw [Nat.add_assoc]
    exact this
  have hr := va_runIN (p := p) (below := below) (meth := meth) (e := e) (locs := locs) (cells := cells) (slots := slots) (g := F0 m pc lsA (vs.reverse ++ .ref (a + L.length) :: rest)) (b := a + L.length) (As := vs) (rest := rest) ⟨c1, c2, c3, c6, c7⟩ (hM (a + L.length)) ⟨cw, hyn, c7 _ hw.2.2⟩
    ⟨fun A U g mk q => ⟨q.1, q.2.1, va_K.moved (u := U) (U := U.calling g mk A) (Vm.Alike.refl U.vm) q.2.2.1, q.2.2.2.call⟩, fun U hU hW => ⟨rfl, by rw [hU]; exact hb0, va_K.moved hW.alike c8, fun hb => c14.warm hW (hnn hb)⟩⟩ rfl hlen hls rfl (lv_room hroom) hd ⟨by rw [c11]; exact hcs.1, by rw [c12]; exact hcs.2⟩
  intro T hT X
  obtain ⟨v', st₀, t, T', Ln, h0, X', hLn, e1, e2, ⟨hv, hcn⟩, st⟩ := hr T hT X
  cases hv
  rw [h0] at hcn
  obtain ⟨t2, a1, b1⟩ := kk T'.heap (locs ++ Ln) (by rw [e1]; exact hH.app hcn) (fun q hq => by
      rcases List.mem_append.mp hq with h | h
      · exact hL q h
      · exact Nat.le_trans (Nat.le_add_right _ _) (hLn q h)) T' rfl X'
  exact ⟨t2, st t2 a1, b1⟩
end CnRows
