/-! CONSTRUCTORS: arrays of references, of arrays; stores into new arrays -/
section CnRows2
variable {M : cn_M} {p : Program} {l : Launch} {e : Env} {R : Room} {s : State} {m : MethodId} {args : Array Value} {below : List Frame} {meth : Method} {c : Code} {w : g_W} {H : Heap} {locs : List Loc} {cells slots a pc : Nat} {lsA : Array Slot} {rest : List Value} {Q : State → Prop} {L : List va_E}
theorem cnH.many {D : va_G} {B H H1 : Heap} {a : Nat} {L CS : List va_E} (h : cnH D B a L H) (hz : H1.size = H.size + CS.length) (ho : ∀ q, q < H.size → H1[q]? = H[q]?) (he : ∀ j x, CS[j]? = some x → va_at D vwCl (H.size + j, x) H1) : cnH D B a (L ++ CS) H1 := by
  obtain ⟨h1, h2, h3⟩ := h
  refine ⟨by rw [hz, h1, List.length_append]; omega, fun q hq => (ho q (by omega)).trans (h2 q hq), fun j x hx => ?_⟩
  by_cases hj : j < L.length
  · rw [List.getElem?_append_left hj] at hx
    exact cn_at (h3 j x hx) (ho _ (by show a + j < _; omega))
  · rw [List.getElem?_append_right (by omega)] at hx
    have := he _ x hx
    rw [h1, show a + L.length + (j - L.length) = a + j by omega] at this
    exact this
theorem cn_anew (C : cn_Ctx M p l e R s m args below meth c w) (hH : cnH (wD w) s.heap a L H) {Cn : String} {idx k : Nat} {cA : ClassId} (hw : Cond.classLink (cnO M) idx Cn ∈ lwG) (hover : va_AO Cn s) (hk : (g_tys w)[k]? = some (cA, .object Cn))
    {n : Int32} {N : Nat} (hn : ¬ n < 0) (hN : n.toNatClampNeg = N) (hb : N * 4 ≤ 536870912) (hc : cells + 1 ≤ cnC M) (hs : slots + N ≤ cnS M) (hd : decode (cnB M) pc = .ok (.anewarray idx, 3))
    (kk : ∀ H1 : Heap, cnH (wD w) s.heap a (L ++ [.inl (cA, (N, .inr (.inr (.inr (.inr (fun _ => none))))))]) H1 → W p l e R s m args below meth c H1 locs (cells + 1) (slots + N) Q (F0 m (pc + 3) lsA (.ref (a + L.length) :: rest))) : W p l e R s m args below meth c H locs cells slots Q (F0 m pc lsA (.int n :: rest)) := by
  obtain ⟨c1, c2, c3, c4, c5, c6, c7, c8, ⟨c9, c10, c11, c12⟩, c13, c14⟩ := C
  subst hN
  refine W.anew c1 c2 c6 (c7 _ hw) (va_AO.use hover) (g := F0 m pc lsA (.int n :: rest)) rfl hd rfl hn hb (by rw [c11]; exact hc) (by rw [c12]; exact hs) fun cB kA comp f1 f2 f3 f4 => ?_
  obtain ⟨kA', comp', -, -, -, f5⟩ := (c8.2 k _ hk).2
  have hcc : cB = cA := Option.some.inj (f1.symm.trans f5)
  subst hcc
  generalize hH1 : H.push ({ cls := cB, slots := Array.replicate n.toNatClampNeg .null, vm := .none } : Cell) = H1
  have z1 : H1.size = H.size + 1 := by rw [← hH1, Array.size_push]
  have e1 : H1[H.size]? = some (arrV cB n.toNatClampNeg (fun _ => .null)) := by rw [← hH1, Array.getElem?_push_size, ← arrV_new]
  have o1 : ∀ q : Nat, q < H.size → H1[q]? = H[q]? := fun q hq => by rw [← hH1, Array.getElem?_push, if_neg (Nat.ne_of_lt hq)]
  rw [show (H.size : Nat) = a + L.length from hH.1]
  exact kk H1 (hH.push z1 o1 e1)
theorem cn_iast (C : cn_Ctx M p l e R s m args below meth c w) (hH : cnH (wD w) s.heap a L H) (hL : ∀ q ∈ locs, a ≤ q.base) {j n : Nat} {f : Nat → Int32} (hj : L[j]? = some (.inl (wC w 0, (n, .inl f)))) {i x : Int32} (hin : vp_in i n) (hd : decode (cnB M) pc = .ok (.iastore, 1))
    (kk : ∀ (H1 : Heap) (locs1 : List Loc), cnH (wD w) s.heap a (L.set j (.inl (wC w 0, (n, .inl (upd f i.toNatClampNeg x))))) H1 → (∀ q ∈ locs1, a ≤ q.base) → W p l e R s m args below meth c H1 locs1 cells slots Q (F0 m (pc + 1) lsA rest)) : W p l e R s m args below meth c H locs cells slots Q (F0 m pc lsA (.int x :: .int i :: .ref (a + j) :: rest)) := by
  obtain ⟨c1, c2, c3, c4, c5, c6, c7, c8, c9, c13, c14⟩ := C
  have h0 : H[a + j]? = some (vp_cell (wC w 0) (n, .inl f)) := hH.2.2 j _ hj
  refine W.iast c1 c2 h0 ((c8.2 0 (wC w 0, .int) rfl).1 n (fun j => .int (f j))) (fun q => by cases q) (by show ¬ (i < 0 ∨ (arrV _ _ _).slots.size ≤ _); rw [arrV_size]; exact hin) rfl rfl hd fun H1 e z oq => ?_
  refine kk H1 _ (hH.set z oq ?_) (fun q hq => ?_)
  · show H1[a + j]? = some (vp_cell _ _)
    rw [e]
    rw [vp_cell_i, vp_cell_i, arrV_store]
    congr 2
    funext q
    by_cases hq : q = i.toNatClampNeg
    · subst hq
      simp [updV, upd]
    · simp [updV, upd, hq]
  · rcases List.mem_append.mp hq with h | h
    · exact hL q h
    · rcases List.mem_cons.mp h with rfl | h
      · exact Nat.le_add_right _ _
      · cases h
theorem cn_bast (C : cn_Ctx M p l e R s m args below meth c w) (hH : cnH (wD w) s.heap a L H) (hL : ∀ q ∈ locs, a ≤ q.base) {j n : Nat} {f : Nat → Int32} (hj : L[j]? = some (.inl (wC w 1, (n, .inl f)))) {i x : Int32} (hin : vp_in i n) (hd : decode (cnB M) pc = .ok (.bastore, 1))
    (kk : ∀ (H1 : Heap) (locs1 : List Loc), cnH (wD w) s.heap a (L.set j (.inl (wC w 1, (n, .inl (upd f i.toNatClampNeg (vp_nar .byte x)))))) H1 → (∀ q ∈ locs1, a ≤ q.base) → W p l e R s m args below meth c H1 locs1 cells slots Q (F0 m (pc + 1) lsA rest)) : W p l e R s m args below meth c H locs cells slots Q (F0 m pc lsA (.int x :: .int i :: .ref (a + j) :: rest)) := by
  obtain ⟨c1, c2, c3, c4, c5, c6, c7, c8, c9, c13, c14⟩ := C
  have h0 : H[a + j]? = some (vp_cell (wC w 1) (n, .inl f)) := hH.2.2 j _ hj
  refine W.bast c1 c2 h0 ((c8.2 1 (wC w 1, .byte) rfl).1 n (fun j => .int (f j))) (fun q => by cases q) (by show ¬ (i < 0 ∨ (arrV _ _ _).slots.size ≤ _); rw [arrV_size]; exact hin) rfl rfl hd fun H1 e z oq => ?_
  refine kk H1 _ (hH.set z oq ?_) (fun q hq => ?_)
  · show H1[a + j]? = some (vp_cell _ _)
    rw [e]
    rw [vp_cell_i, vp_cell_i, arrV_store]
    congr 2
    funext q
    by_cases hq : q = i.toNatClampNeg
    · subst hq
      simp [updV, upd, narrow, vp_nar]
    · simp [updV, upd, hq]
  · rcases List.mem_append.mp hq with h | h
    · exact hL q h
    · rcases List.mem_cons.mp h with rfl | h
      · exact Nat.le_add_right _ _
      · cases h
theorem cn_aast (C : cn_Ctx M p l e R s m args below meth c w) (hH : cnH (wD w) s.heap a L H) (hL : ∀ q ∈ locs, a ≤ q.base) {j jv n ci k : Nat} {f : Nat → Option Nat} {fs : List Value} {r : vw_C} {cA : ClassId} (hj : L[j]? = some (.inl (cA, (n, .inr (.inr (.inr (.inr f))))))) (hv : L[jv]? = some (.inr (ci, fs))) (hc : vwCl[ci]? = some r) (hk : (g_tys w)[k]? = some (cA, .object r.1)) {i : Int32} (hin : vp_in i n) (hd : decode (cnB M) pc = .ok (.aastore, 1))
    (kk : ∀ (H1 : Heap) (locs1 : List Loc), cnH (wD w) s.heap a (L.set j (.inl (cA, (n, .inr (.inr (.inr (.inr (va_up f i.toNatClampNeg (some (a + jv))))))))) ) H1 → (∀ q ∈ locs1, a ≤ q.base) → W p l e R s m args below meth c H1 locs1 cells slots Q (F0 m (pc + 1) lsA rest)) : W p l e R s m args below meth c H locs cells slots Q (F0 m pc lsA (.ref (a + jv) :: .int i :: .ref (a + j) :: rest)) := by
  obtain ⟨c1, c2, c3, c4, c5, c6, c7, c8, c9, c13, c14⟩ := C
  have hlt : i.toNatClampNeg < n := Nat.not_le.mp fun q => hin (Or.inr q)
  have h0 : ¬ i < 0 := fun q => hin (Or.inl q)
  have hP : va_P (wD w) vwCl [(a + jv, .inr (ci, fs))] H := fun k x hx => by
    cases k with
    | zero => cases hx; exact hH.2.2 jv _ hv
    | succ k => cases hx
  obtain ⟨cellV, g1, g3, ⟨kC, hkC⟩, hasg⟩ := va_rAny (E := r.1) (q0 := 0) c8 hP rfl hc (fun comp c0 h1 h2 => by
    have e : comp = c0 := Option.some.inj (h1.symm.trans h2)
    subst e
    obtain ⟨-, h3⟩ := c8.1 ci r hc
    have e2 : comp = (wD w).1 ci := Option.some.inj (h1.symm.trans h3.1)
    subst e2
    exact va_assign h3)
  have hcell : H[a + j]? = some (vp_cell cA (n, .inr (.inr (.inr (.inr f))))) := hH.2.2 j _ hj
  obtain ⟨kA, comp, k1, k2, k3, -⟩ := (c8.2 k _ hk).2
  obtain ⟨kE, hkE, -⟩ := Vm.findClass_spec k3
  refine W.aast c1 c2 hcell (fun q h => by cases h) (fun h => by cases h) k1 k2 rfl hkE ⟨h0, by show _ < (arrV _ _ _).slots.size; rw [arrV_size]; exact hlt⟩ g1 (fun q h => by rw [h] at g3; cases g3) hkC (hasg _ k3) rfl rfl hd fun H1 e z oq => ?_
  refine kk H1 _ (hH.set z oq ?_) (fun q hq => ?_)
  · show H1[a + j]? = some (vp_cell _ _)
    rw [e]
    rw [vp_cell_q, vp_cell_q, arrV_store]
    congr 2
    funext q
    by_cases hq : q = i.toNatClampNeg
    · subst hq
      simp [updV, va_up, va_rf]
    · simp [updV, va_up, hq]
  · rcases List.mem_append.mp hq with h | h
    · exact hL q h
    · rcases List.mem_cons.mp h with rfl | h
      · exact Nat.le_add_right _ _
      · cases h
/-- a field of a new object -/
theorem cn_get (C : cn_Ctx M p l e R s m args below meth c w) (hH : cnH (wD w) s.heap a L H) {idx ci sl N j : Nat} {Cn : String} {T : u_T} {fs : List Value} {v : Value} (hc : vwCl[ci]? = some (Cn, T, N)) (hin : ∀ x ∈ u_ws Cn T N, x ∈ lwG) (hsl : sl < N) (hw : Cond.fieldLink (cnO M) idx (T sl).1 (T sl).2.1 (T sl).2.2.1 ∈ lwG) (hj : L[j]? = some (.inr (ci, fs))) (hv : fs[sl]? = some v)
    (hd : decode (cnB M) pc = .ok (.getfield idx, 3)) (kk : W p l e R s m args below meth c H locs cells slots Q (F0 m (pc + 3) lsA (v :: rest))) : W p l e R s m args below meth c H locs cells slots Q (F0 m pc lsA (.ref (a + j) :: rest)) := by
  obtain ⟨c1, c2, c3, c4, c5, c6, c7, c8, c9, c13, c14⟩ := C
  have hP : va_P (wD w) vwCl [(a + j, .inr (ci, fs))] H := fun k x hx => by
    cases k with
    | zero => cases hx; exact hH.2.2 j _ hj
    | succ k => cases hx
  exact va_get (C := Cn) (T := T) (N := N) (ref := (T sl).1) (index := idx) c1 c2 c7 hin c6 c8 hP 0 rfl hc sl hsl (c7 _ hw) (fun x h => h) hv hd kk
end CnRows2
