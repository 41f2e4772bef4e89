/-! THE HEAP: the world's cells as a list, what a store does to it -/
theorem nth_lt {α : Type} : ∀ {l : List α} {n : Nat} {d : α}, nth l n d ≠ d → n < l.length
  | [], n, d, h => absurd (by cases n <;> rfl) h
  | _ :: _, 0, _, _ => by simp
  | _ :: t, n + 1, d, h => by
    have := nth_lt (l := t) (n := n) (d := d) h
    simpa using this
theorem g_tx_lt {k : Nat} (h : g_tx k = true) : k < 76 := by
  unfold g_tx at h
  simp only [Bool.or_eq_true, Bool.and_eq_true] at h
  rcases h with h | ⟨h1, h2⟩
  · have := Nat.eq_of_beq_eq_true h; omega
  · have := Nat.le_of_ble_eq_true h2; omega
theorem nodup_inj {α : Type} {l : List α} (h : l.Nodup) {i j : Nat} {x : α} (hi : l[i]? = some x) (hj : l[j]? = some x) : i = j := by
  obtain ⟨li, ei⟩ := List.getElem?_eq_some_iff.mp hi
  obtain ⟨lj, ej⟩ := List.getElem?_eq_some_iff.mp hj
  have hp := List.pairwise_iff_getElem.mp h
  rcases Nat.lt_trichotomy i j with q | q | q
  · exact absurd (ei.trans ej.symm) (hp i j li lj q)
  · exact q
  · exact absurd (ej.trans ei.symm) (hp j i lj li q)
def g_ids (w : g_W) (σ : Sg) : List (Nat × Nat) := ((List.range 76).flatMap (fun k => (List.range (g_cnt σ k)).map (fun i => (k, i)))).filter (fun q => wk w q.1)
theorem g_ids_mem {w : g_W} {σ : Sg} {k i : Nat} : (k, i) ∈ g_ids w σ ↔ k < 76 ∧ g_vo w σ k i := by
  unfold g_ids g_vo
  simp only [List.mem_filter, List.mem_flatMap, List.mem_range, List.mem_map, Prod.mk.injEq]
  constructor
  · rintro ⟨⟨a, h1, b, h2, rfl, rfl⟩, h3⟩
    exact ⟨h1, h3, h2⟩
  · rintro ⟨h1, h3, h2⟩
    exact ⟨⟨k, h1, i, h2, rfl, rfl⟩, h3⟩
theorem g_ids_nodup (w : g_W) (σ : Sg) : (g_ids w σ).Nodup := by
  refine List.Pairwise.filter _ (List.pairwise_flatMap.mpr ⟨fun k _ => ?_, ?_⟩)
  · refine List.pairwise_map.mpr (List.Pairwise.imp ?_ List.nodup_range)
    intro a b h e
    exact h (Prod.mk.inj e).2
  · refine List.Pairwise.imp ?_ (List.nodup_range (n := 76))
    intro a b h x hx y hy e
    obtain ⟨i, -, rfl⟩ := List.mem_map.mp hx
    obtain ⟨j, -, rfl⟩ := List.mem_map.mp hy
    exact h (Prod.mk.inj e).1
def g_ws (w : g_W) (σ : Sg) : va_W := (g_ids w σ).map (fun q => (wr w q.1 q.2, g_cell w σ q.1 q.2))
theorem g_vo_sv {w : g_W} {σ : Sg} {k i : Nat} (h : g_vo w σ k i) : g_sv w k i := by
  refine ⟨h.1, ?_⟩
  have h2 := h.2
  unfold g_cnt at h2
  cases e : g_tx k with
  | true => exact Or.inl rfl
  | false => rw [e] at h2; exact Or.inr h2
theorem g_ws_P {w : g_W} {σ : Sg} {H : Heap} (h : g_Rep w σ H) : va_P (wD w) vwCl (g_ws w σ) H := by
  intro n q hq
  obtain ⟨x, hx, rfl⟩ := List.mem_map.mp (List.mem_of_getElem? hq)
  exact h.2.1 _ _ (g_ids_mem.mp hx).1 (g_ids_mem.mp hx).2
theorem g_ws_at {w : g_W} {σ : Sg} {k i : Nat} (hk : k < 76) (h : g_vo w σ k i) : ∃ q0 : Nat, (g_ids w σ)[q0]? = some (k, i) ∧ (g_ws w σ)[q0]? = some (wr w k i, g_cell w σ k i) := by
  obtain ⟨q0, hq⟩ := List.getElem?_of_mem (g_ids_mem.mpr ⟨hk, h⟩)
  refine ⟨q0, hq, ?_⟩
  unfold g_ws
  rw [List.getElem?_map, hq]
  rfl
theorem g_ws_D {w : g_W} (hw : g_Wk w) (σ : Sg) : va_D (wA w) (g_ws w σ) := by
  constructor
  · intro i j p q hi hj hpq
    unfold g_ws at hi hj
    rw [List.getElem?_map] at hi hj
    cases ei : (g_ids w σ)[i]? with
    | none => rw [ei] at hi; cases hi
    | some x =>
      cases ej : (g_ids w σ)[j]? with
      | none => rw [ej] at hj; cases hj
      | some y =>
        rw [ei] at hi
        rw [ej] at hj
        cases hi
        cases hj
        have vx := (g_ids_mem.mp (List.mem_of_getElem? ei)).2
        have vy := (g_ids_mem.mp (List.mem_of_getElem? ej)).2
        obtain ⟨e1, e2⟩ := hw.1.1 _ _ _ _ (g_ids_mem.mp (List.mem_of_getElem? ei)).1 (g_ids_mem.mp (List.mem_of_getElem? ej)).1 (g_vo_sv vx) (g_vo_sv vy) hpq
        have exy : x = y := Prod.ext e1 e2
        subst exy
        exact nodup_inj (g_ids_nodup w σ) ei ej
  · intro n q hq
    obtain ⟨x, hx, rfl⟩ := List.mem_map.mp (List.mem_of_getElem? hq)
    obtain ⟨h1, h2⟩ := g_ids_mem.mp hx
    exact hw.2.1 _ _ (g_vo_sv h2) h1
theorem g_cell_congr {w : g_W} {σ σ' : Sg} {k i : Nat} (h1 : ∀ s, rI σ' k i s = rI σ k i s) (h2 : ∀ s, rL σ' k i s = rL σ k i s) (h3 : ∀ s, rN σ' k i s = rN σ k i s) : g_cell w σ' k i = g_cell w σ k i := by
  have e1 : rI σ' k i = rI σ k i := funext h1
  have e2 : rL σ' k i = rL σ k i := funext h2
  have e3 : rN σ' k i = rN σ k i := funext h3
  have ea : aln σ' k i = aln σ k i := by
    unfold aln
    cases e : Nat.beq k 36 with
    | false => rfl
    | true =>
      cases Nat.eq_of_beq_eq_true e
      exact h3 0
  have ec : g_con w σ' k i = g_con w σ k i := by
    unfold g_con
    simp only [e1, e2, e3]
  have ef : g_fv w σ' k i = g_fv w σ k i := by
    funext s
    unfold g_fv
    simp only [h1, h2, h3]
  unfold g_cell g_obj
  rw [ea, ec, ef]
/-- a store at one cell: what it gives of the new state -/
theorem g_Rep_set {w : g_W} {σ σ' : Sg} {H0 H H1 : Heap} {locs locs1 : List Loc} {k i q0 : Nat} {e : va_E} (hR : g_Rep w σ H) (hS : va_S (wA w) H0 H locs) (hext : ∀ k, 76 ≤ k → ∀ i, g_sv w k i → wr w k i < H0.size ∧ ¬ wA w (wr w k i))
    (hq : (g_ids w σ)[q0]? = some (k, i)) (hz : H1.size = H.size) (hP1 : va_P (wD w) vwCl ((g_ws w σ).set q0 (wr w k i, e)) H1) (hS1 : va_S (wA w) H0 H1 locs1)
    (he : g_cell w σ' k i = e) (ho : ∀ k' i', (k' = k → i' = i → False) → g_cell w σ' k' i' = g_cell w σ k' i') (hn : g_nT σ' = g_nT σ) : g_Rep w σ' H1 := by
  have hvo : ∀ k' i', g_vo w σ' k' i' → g_vo w σ k' i' := fun k' i' hv => by
    refine ⟨hv.1, ?_⟩
    have := hv.2
    unfold g_cnt at this ⊢
    rwa [hn] at this
  refine ⟨by rw [hz, hR.1, hn], fun k' i' hk hv => ?_, fun k' i' hk hk9 hv j hj => ?_⟩
  · have hv0 := hvo k' i' hv
    obtain ⟨q1, h1, h2⟩ := g_ws_at hk hv0
    by_cases hqq : q1 = q0
    · subst hqq
      rw [hq] at h1
      cases h1
      rw [he]
      refine hP1 q1 _ ?_
      rw [List.getElem?_set_self (List.getElem?_eq_some_iff.mp h2).1]
    · rw [ho k' i' (fun e1 e2 => by
        subst e1; subst e2
        exact hqq (nodup_inj (g_ids_nodup w σ) h1 hq))]
      refine hP1 q1 _ ?_
      rw [List.getElem?_set_ne (Ne.symm hqq)]
      exact h2
  · have hki : k' = k → i' = i → False := fun e1 _ => by
      subst e1
      have := (g_ids_mem.mp (List.mem_of_getElem? hq)).1
      omega
    have ec := ho k' i' hki
    have e9 : ∀ τ : Sg, g_cell w τ k' i' = .inl (wC w 0, (4, .inl (rI τ k' i'))) := fun τ => by
      have : k' = 76 ∨ k' = 77 ∨ k' = 78 := by omega
      rcases this with rfl | rfl | rfl <;> rfl
    rw [e9, e9] at ec
    have er : rI σ' k' i' = rI σ k' i' := by
      injection ec with ec
      injection ec with _ ec
      injection ec with _ ec
      injection ec
    rw [er]
    exact hR.2.2 k' i' hk hk9 (hvo k' i' hv) j hj
/-- of the fields: which class, that its rows are there, the link -/
def g_Fl (own : String) (idx ci sl : Nat) : Prop := Nat.blt ci 11 = true ∧ sl < g_nf ci ∧ ∃ (C : String) (T : u_T), vwCl[ci]? = some (C, T, g_nf ci) ∧ (∀ x ∈ u_ws C T (g_nf ci), x ∈ lwG) ∧ Cond.fieldLink own idx (T sl).1 (T sl).2.1 (T sl).2.2.1 ∈ lwG
def g_Fp (own : String) (idx ci sl : Nat) (ty : FieldType) : Prop := Nat.blt ci 11 = true ∧ sl < g_nf ci ∧ ∃ (C : String) (T : u_T) (ty0 : Nat → FieldType), vwCl[ci]? = some (C, T, g_nf ci) ∧ (∀ x ∈ u_ws C T (g_nf ci), x ∈ lwG) ∧ Cond.fieldLink own idx (T sl).1 (T sl).2.1 (T sl).2.2.1 ∈ lwG ∧
  (∀ k, k < g_nf ci → parseFieldDescriptor (T k).2.2.1 = some (ty0 k)) ∧ (∀ a, a < g_nf ci → ∀ b, b < g_nf ci → a ≠ b → (T a).2.1 ≠ (T b).2.1) ∧ (T sl).2.2.2 = false ∧ parseFieldDescriptor (T sl).2.2.1 = some ty
theorem g_obj_get {w : g_W} {σ : Sg} {k i s : Nat} (h : s < g_nf k) : (g_obj w σ k i)[s]? = some (g_fv w σ k i s) := by
  unfold g_obj
  rw [List.getElem?_map, List.getElem?_range h]
  rfl
theorem g_obj_len {w : g_W} {σ : Sg} {k i : Nat} : (g_obj w σ k i).length = g_nf k := by
  unfold g_obj
  simp
theorem g_obj_set {w : g_W} {σ σ' : Sg} {k i s : Nat} {v : Value} (h : s < g_nf k) (hv : g_fv w σ' k i s = v) (ho : ∀ s', s' ≠ s → g_fv w σ' k i s' = g_fv w σ k i s') : g_obj w σ' k i = (g_obj w σ k i).set s v := by
  apply List.ext_getElem?
  intro n
  by_cases hn : n < g_nf k
  · by_cases e : n = s
    · subst e
      rw [List.getElem?_set_self (by rw [g_obj_len]; exact h), g_obj_get hn, hv]
    · rw [List.getElem?_set_ne (Ne.symm e), g_obj_get hn, g_obj_get hn, ho n e]
  · rw [List.getElem?_eq_none (by rw [g_obj_len]; omega), List.getElem?_eq_none (by rw [List.length_set, g_obj_len]; omega)]
theorem g_cell_obj {w : g_W} {σ : Sg} {k i : Nat} (h : Nat.blt k 11 = true) : g_cell w σ k i = .inr (k, g_obj w σ k i) := by
  unfold g_cell; rw [h]
/-- an array's kind: what it holds, how long it is -/
def g_Ak (kd n e : Nat) : Prop := Nat.blt kd 11 = false ∧ g_ety kd = e ∧ Nat.beq kd 36 = false ∧ nth lenTbl kd 0 = n ∧ kd < 76
theorem g_cell_arr {w : g_W} {σ : Sg} {k i n e : Nat} (h : g_Ak k n e) : g_cell w σ k i = .inl (wC w e, (n, g_con w σ k i)) := by
  unfold g_cell aln
  rw [h.1, h.2.1, h.2.2.1]
  show Sum.inl (wC w e, (nth lenTbl k 0, _)) = _
  rw [h.2.2.2.1]
theorem g_con_i {w : g_W} {σ : Sg} {k i e : Nat} (h : g_ety k = e) (he : e = 0 ∨ e = 1 ∨ e = 2) : g_con w σ k i = .inl (rI σ k i) := by
  unfold g_con
  rw [h]
  rcases he with rfl | rfl | rfl <;> rfl
theorem g_con_l {w : g_W} {σ : Sg} {k i : Nat} (h : g_ety k = 3) : g_con w σ k i = .inr (.inl (rL σ k i)) := by
  unfold g_con
  rw [h]
  rfl
theorem hrI_wI (σ : Sg) (k i s : Nat) (v : Int32) (k' i' s' : Nat) : rI (wI σ k i s v) k' i' s' = if k' = k ∧ i' = i ∧ s' = s then v else rI σ k' i' s' := rfl
theorem hrL_wI (σ : Sg) (k i s : Nat) (v : Int32) (k' i' s' : Nat) : rL (wI σ k i s v) k' i' s' = rL σ k' i' s' := rfl
theorem hrN_wI (σ : Sg) (k i s : Nat) (v : Int32) (k' i' s' : Nat) : rN (wI σ k i s v) k' i' s' = rN σ k' i' s' := rfl
theorem hrI_wL (σ : Sg) (k i s : Nat) (v : Int64) (k' i' s' : Nat) : rI (wL σ k i s v) k' i' s' = rI σ k' i' s' := rfl
theorem hrL_wL (σ : Sg) (k i s : Nat) (v : Int64) (k' i' s' : Nat) : rL (wL σ k i s v) k' i' s' = if k' = k ∧ i' = i ∧ s' = s then v else rL σ k' i' s' := rfl
theorem hrN_wL (σ : Sg) (k i s : Nat) (v : Int64) (k' i' s' : Nat) : rN (wL σ k i s v) k' i' s' = rN σ k' i' s' := rfl
theorem hrI_wN (σ : Sg) (k i s : Nat) (v : Nat) (k' i' s' : Nat) : rI (wN σ k i s v) k' i' s' = rI σ k' i' s' := rfl
theorem hrL_wN (σ : Sg) (k i s : Nat) (v : Nat) (k' i' s' : Nat) : rL (wN σ k i s v) k' i' s' = rL σ k' i' s' := rfl
theorem hrN_wN (σ : Sg) (k i s : Nat) (v : Nat) (k' i' s' : Nat) : rN (wN σ k i s v) k' i' s' = if k' = k ∧ i' = i ∧ s' = s then v else rN σ k' i' s' := rfl
section HeapRows
variable {ρ : Type} {M : g_M} {ret : Rt ρ} {b pc nx : Nat} {k : Bk ρ}
/-- a step that reads the heap: the stack alone changes -/
theorem g_rd {ls : Lc} {st st' : List PV} {σ : Sg} {r : ρ} (hk : g_Gd M ret b nx k) (h : k ls st' σ = some r)
    (hok : ∀ w : g_W, g_Wk w → g_wf w σ → (∀ v ∈ st, g_ok w σ v) → ∀ v ∈ st', g_ok w σ v)
    (row : ∀ (p : Program) (l : Launch) (e : Env) (R : Room) (s : State) (m : MethodId) (args : Array Value) (below : List Frame) (meth : Method) (c : Code) (w : g_W), g_Ctx M p l e R s m args below meth c w →
      ∀ (H : Heap) (locs : List Loc) (lsA : Array Slot) (cells slots : Nat) (Q : State → Prop), g_Rep w σ H → va_S (wA w) s.heap H locs → (∀ v ∈ st, g_ok w σ v) →
      W p l e R s m args below meth c H locs cells slots Q (F0 m nx lsA (st'.map (g_vl w))) → W p l e R s m args below meth c H locs cells slots Q (F0 m pc lsA (st.map (g_vl w)))) : g_Go M ret b pc ls st σ r := by
  intro p l e R s m args below meth c w C n0 H locs lsA hI
  obtain ⟨h1, h2, h3, h4, h5, h6, h7⟩ := hI
  exact row p l e R s m args below meth c w C H locs lsA _ _ _ h1 h2 h5 (hk ls st' σ r h p l e R s m args below meth c w C n0 H locs lsA ⟨h1, h2, h3, h4, hok w C.2.2.2.2.2.2.2.2.1 h6 h5, h6, h7⟩)
theorem g_one {w : g_W} {σ : Sg} {H : Heap} {k i : Nat} (hk : k < 76) (h : g_Rep w σ H) (hv : g_vo w σ k i) {e : va_E} (he : g_cell w σ k i = e) : va_P (wD w) vwCl [(wr w k i, e)] H := by
  intro n q hq
  cases n with
  | zero => cases hq; rw [← he]; exact h.2.1 k i hk hv
  | succ n => simp at hq
theorem g_getI_inv {ci sl : Nat} {ls : Lc} {st : List PV} {σ : Sg} {r : ρ} (h : s_getI ci sl k ls st σ = some r) : ∃ i rest, st = .inr (.inr (some (ci, i))) :: rest ∧ k ls (.inl (rI σ ci i sl) :: rest) σ = some r := by
  unfold s_getI at h
  split at h
  · next q rest =>
    obtain ⟨a, i⟩ := q
    split at h
    · next e => cases Nat.eq_of_beq_eq_true e; exact ⟨i, rest, rfl, h⟩
    · cases h
  · cases h
theorem g_getL_inv {ci sl : Nat} {ls : Lc} {st : List PV} {σ : Sg} {r : ρ} (h : s_getL ci sl k ls st σ = some r) : ∃ i rest, st = .inr (.inr (some (ci, i))) :: rest ∧ k ls (.inr (.inl (rL σ ci i sl)) :: rest) σ = some r := by
  unfold s_getL at h
  split at h
  · next q rest =>
    obtain ⟨a, i⟩ := q
    split at h
    · next e => cases Nat.eq_of_beq_eq_true e; exact ⟨i, rest, rfl, h⟩
    · cases h
  · cases h
theorem g_getRc_inv {ci sl kd c : Nat} {ls : Lc} {st : List PV} {σ : Sg} {r : ρ} (h : s_getRc ci sl kd c k ls st σ = some r) : ∃ i rest, st = .inr (.inr (some (ci, i))) :: rest ∧ k ls (.inr (.inr (some (kd, c))) :: rest) σ = some r := by
  unfold s_getRc at h
  split at h
  · next q rest =>
    obtain ⟨a, i⟩ := q
    split at h
    · next e => cases Nat.eq_of_beq_eq_true e; exact ⟨i, rest, rfl, h⟩
    · cases h
  · cases h
theorem g_getRv_inv {ci sl kd : Nat} {ls : Lc} {st : List PV} {σ : Sg} {r : ρ} (h : s_getRv ci sl kd k ls st σ = some r) : ∃ i rest, st = .inr (.inr (some (ci, i))) :: rest ∧ k ls (.inr (.inr (some (kd, i))) :: rest) σ = some r := by
  unfold s_getRv at h
  split at h
  · next q rest =>
    obtain ⟨a, i⟩ := q
    split at h
    · next e => cases Nat.eq_of_beq_eq_true e; exact ⟨i, rest, rfl, h⟩
    · cases h
  · cases h
theorem g_getD_inv {sl : Nat} {ls : Lc} {st : List PV} {σ : Sg} {r : ρ} (h : s_getD sl k ls st σ = some r) : ∃ i rest, st = .inr (.inr (some (7, i))) :: rest ∧ k ls (.inr (.inr (some (75, rN σ 7 i sl))) :: rest) σ = some r := by
  unfold s_getD at h
  split at h
  · next q rest =>
    obtain ⟨a, i⟩ := q
    split at h
    · next e => cases Nat.eq_of_beq_eq_true e; exact ⟨i, rest, rfl, h⟩
    · cases h
  · cases h
/-- getfield, whatever it holds -/
theorem g_getrow {σ : Sg} {ci sl idx i : Nat} {v : PV} {rest : List PV} (hf : g_Fl (mo M) idx ci sl) (hd : decode (g_mc M) pc = .ok (.getfield idx, 3))
    (p : Program) (l : Launch) (e : Env) (R : Room) (s : State) (m : MethodId) (args : Array Value) (below : List Frame) (meth : Method) (c : Code) (w : g_W) (C : g_Ctx M p l e R s m args below meth c w)
    (H : Heap) (locs : List Loc) (lsA : Array Slot) (cells slots : Nat) (Q : State → Prop) (hR : g_Rep w σ H) (hv : g_vo w σ ci i) (hfv : g_fv w σ ci i sl = g_vl w v)
    (K : W p l e R s m args below meth c H locs cells slots Q (F0 m (pc + 3) lsA ((v :: rest).map (g_vl w)))) : W p l e R s m args below meth c H locs cells slots Q (F0 m pc lsA ((.inr (.inr (some (ci, i))) :: rest : List PV).map (g_vl w))) := by
  obtain ⟨h11, hsl, Cn, T, hc, hin, hw⟩ := hf
  obtain ⟨c1, c2, c3, c4, c5, c6, c7, c8, c9⟩ := C
  exact va_get c1 c2 (Ts := lwG) c7 hin c6 c8 (g_one (by have := Nat.le_of_ble_eq_true h11; omega) hR hv (g_cell_obj h11)) 0 rfl hc sl hsl (c7 _ hw) (fun x h => h) ((g_obj_get hsl).trans (congrArg some hfv)) hd K
theorem g_top {w : g_W} {σ : Sg} {a i : Nat} {rest : List PV} (h : ∀ v ∈ (.inr (.inr (some (a, i))) :: rest : List PV), g_ok w σ v) : g_vo w σ a i := h _ List.mem_cons_self
theorem G_getI {ci sl idx : Nat} (hf : g_Fl (mo M) idx ci sl) (ht : g_ft ci sl = 0 ∨ g_ft ci sl = 1) (hd : decode (g_mc M) pc = .ok (.getfield idx, 3)) (hn : pc + 3 = nx) (hk : g_Gd M ret b nx k) : g_Gd M ret b pc (s_getI ci sl k) := by
  subst hn
  intro ls st σ r h
  obtain ⟨i, rest, rfl, h'⟩ := g_getI_inv h
  exact g_rd hk h' (fun w _ _ h => g_cs trivial (g_tl h)) (fun p l e R s m args below meth c w C H locs lsA cells slots Q hR hS h5 K => g_getrow (v := .inl (rI σ ci i sl)) hf hd p l e R s m args below meth c w C H locs lsA cells slots Q hR (g_top h5) (by unfold g_fv; rcases ht with e | e <;> rw [e] <;> rfl) K)
theorem G_getL {ci sl idx : Nat} (hf : g_Fl (mo M) idx ci sl) (ht : g_ft ci sl = 2) (hd : decode (g_mc M) pc = .ok (.getfield idx, 3)) (hn : pc + 3 = nx) (hk : g_Gd M ret b nx k) : g_Gd M ret b pc (s_getL ci sl k) := by
  subst hn
  intro ls st σ r h
  obtain ⟨i, rest, rfl, h'⟩ := g_getL_inv h
  exact g_rd hk h' (fun w _ _ h => g_cs trivial (g_tl h)) (fun p l e R s m args below meth c w C H locs lsA cells slots Q hR hS h5 K => g_getrow (v := .inr (.inl (rL σ ci i sl))) hf hd p l e R s m args below meth c w C H locs lsA cells slots Q hR (g_top h5) (by unfold g_fv; rw [ht]; rfl) K)
theorem G_getRc {ci sl idx kd cn : Nat} (hf : g_Fl (mo M) idx ci sl) (ht : g_ft ci sl = 3 ∧ (∀ i, g_rf ci sl i = (kd, cn)) ∧ nth grpTbl kd 9 = nth grpTbl ci 8 ∧ ((g_tx kd = false ∧ cn < nth cntTbl kd 0) ∨ (kd = 8 ∧ cn = 0))) (hd : decode (g_mc M) pc = .ok (.getfield idx, 3)) (hn : pc + 3 = nx) (hk : g_Gd M ret b nx k) : g_Gd M ret b pc (s_getRc ci sl kd cn k) := by
  subst hn
  intro ls st σ r h
  obtain ⟨i, rest, rfl, h'⟩ := g_getRc_inv h
  obtain ⟨t1, t2, t3, t4⟩ := ht
  refine g_rd hk h' (fun w hw hwf h => g_cs ?_ (g_tl h)) (fun p l e R s m args below meth c w C H locs lsA cells slots Q hR hS h5 K => g_getrow (v := .inr (.inr (some (kd, cn)))) hf hd p l e R s m args below meth c w C H locs lsA cells slots Q hR (g_top h5) (by unfold g_fv; rw [t1]; show Value.ref _ = Value.ref _; rw [t2]) K)
  have hv := g_top h
  have hkd : wk w kd = true := (hw.2.2 kd ci t3).trans hv.1
  refine ⟨hkd, ?_⟩
  rcases t4 with ⟨e1, e2⟩ | ⟨rfl, rfl⟩
  · show cn < g_cnt σ kd
    unfold g_cnt
    rw [e1]
    exact e2
  · exact hwf.1 hkd
theorem G_getRv {ci sl idx kd : Nat} (hf : g_Fl (mo M) idx ci sl) (ht : g_ft ci sl = 3 ∧ (∀ i, g_rf ci sl i = (kd, i)) ∧ nth grpTbl kd 9 = nth grpTbl ci 8 ∧ g_tx kd = g_tx ci ∧ nth cntTbl ci 0 ≤ nth cntTbl kd 0) (hd : decode (g_mc M) pc = .ok (.getfield idx, 3)) (hn : pc + 3 = nx) (hk : g_Gd M ret b nx k) : g_Gd M ret b pc (s_getRv ci sl kd k) := by
  subst hn
  intro ls st σ r h
  obtain ⟨i, rest, rfl, h'⟩ := g_getRv_inv h
  obtain ⟨t1, t2, t3, t4, t5⟩ := ht
  refine g_rd hk h' (fun w hw hwf h => g_cs ?_ (g_tl h)) (fun p l e R s m args below meth c w C H locs lsA cells slots Q hR hS h5 K => g_getrow (v := .inr (.inr (some (kd, i)))) hf hd p l e R s m args below meth c w C H locs lsA cells slots Q hR (g_top h5) (by unfold g_fv; rw [t1]; show Value.ref _ = Value.ref _; rw [t2]) K)
  have hv := g_top h
  refine ⟨(hw.2.2 kd ci t3).trans hv.1, ?_⟩
  have := hv.2
  show i < g_cnt σ kd
  unfold g_cnt at this ⊢
  rw [t4]
  cases e : g_tx ci with
  | true => rw [e] at this; exact this
  | false => rw [e] at this; exact Nat.lt_of_lt_of_le this t5
theorem G_getD {sl idx : Nat} (hf : g_Fl (mo M) idx 7 sl) (ht : g_ft 7 sl = 4) (hd : decode (g_mc M) pc = .ok (.getfield idx, 3)) (hn : pc + 3 = nx) (hk : g_Gd M ret b nx k) : g_Gd M ret b pc (s_getD sl k) := by
  subst hn
  intro ls st σ r h
  obtain ⟨i, rest, rfl, h'⟩ := g_getD_inv h
  refine g_rd hk h' (fun w hw hwf h => g_cs ?_ (g_tl h)) (fun p l e R s m args below meth c w C H locs lsA cells slots Q hR hS h5 K => g_getrow (v := .inr (.inr (some (75, rN σ 7 i sl)))) hf hd p l e R s m args below meth c w C H locs lsA cells slots Q hR (g_top h5) (by unfold g_fv; rw [ht]; rfl) K)
  have hv := g_top h
  have hi : i = 0 := by
    have := hv.2
    change i < 1 at this
    omega
  subst hi
  exact ⟨(hw.2.2 75 7 rfl).trans hv.1, hwf.2.2 sl⟩
end HeapRows
