/-! STORES: fields and arrays; statics; lengths; copies -/
section PutRows
variable {ρ : Type} {M : g_M} {ret : Rt ρ} {b pc nx : Nat} {k : Bk ρ}
/-- a step that writes one cell -/
theorem g_wr {ls : Lc} {st rest : List PV} {σ σ' : Sg} {r : ρ} {kd i : Nat} (hk : g_Gd M ret b nx k) (h : k ls rest σ' = some r) (hkd : kd < 76)
    (hok : ∀ w : g_W, g_Wk w → g_wf w σ → (∀ v ∈ st, g_ok w σ v) → g_vo w σ kd i ∧ (∀ v ∈ rest, g_ok w σ v) ∧ g_wf w σ')
    (hn : g_nT σ' = g_nT σ) (ho : ∀ w : g_W, ∀ k' i', (k' = kd → i' = i → False) → g_cell w σ' k' i' = g_cell w σ k' i')
    (row : ∀ (p : Program) (l : Launch) (e : Env) (R : Room) (s : State) (m : MethodId) (args : Array Value) (below : List Frame) (meth : Method) (c : Code) (w : g_W), g_Ctx M p l e R s m args below meth c w →
      ∀ (H : Heap) (locs : List Loc) (lsA : Array Slot) (cells slots : Nat) (Q : State → Prop) (q0 : Nat), g_Rep w σ H → va_S (wA w) s.heap H locs → (∀ v ∈ st, g_ok w σ v) → g_wf w σ → g_Lv w (ml M) ls lsA → (g_ids w σ)[q0]? = some (kd, i) → (g_ws w σ)[q0]? = some (wr w kd i, g_cell w σ kd i) →
      (∀ (H1 : Heap) (locs1 : List Loc) (e1 : va_E), g_cell w σ' kd i = e1 → H1.size = H.size → va_P (wD w) vwCl ((g_ws w σ).set q0 (wr w kd i, e1)) H1 → va_S (wA w) s.heap H1 locs1 → W p l e R s m args below meth c H1 locs1 cells slots Q (F0 m nx lsA (rest.map (g_vl w)))) →
      W p l e R s m args below meth c H locs cells slots Q (F0 m pc lsA (st.map (g_vl w)))) : g_Go M ret b pc ls st σ r := by
  intro p l e R s m args below meth c w C n0 H locs lsA hI
  obtain ⟨h1, h2, h3, h4, h5, h6, h7, h8⟩ := hI
  have C' := C
  obtain ⟨c1, c2, c3, c4, c5, c6, c7, c8, c9, c10, c11⟩ := C'
  obtain ⟨v1, v2, v3⟩ := hok w c9 h6 h5
  obtain ⟨q0, g1, g2⟩ := g_ws_at hkd v1
  refine row p l e R s m args below meth c w C H locs lsA _ _ _ q0 h1 h2 h5 h6 h3 g1 g2 (fun H1 locs1 e1 he hz hP1 hS1 => ?_)
  have hR1 : g_Rep w σ' H1 := g_Rep_set h1 h2 (fun k hk i hi => c11.1 k hk i hi) g1 hz hP1 hS1 he (ho w) hn
  have hvo : ∀ k i, g_vo w σ k i → g_vo w σ' k i := fun k i hv => ⟨hv.1, by have := hv.2; unfold g_cnt at this ⊢; rwa [hn]⟩
  have hokv : ∀ v, g_ok w σ v → g_ok w σ' v := fun v hv => by
    rcases v with x | x | x
    · trivial
    · trivial
    · cases x with
      | none => trivial
      | some q => exact hvo _ _ hv
  have K := hk ls rest σ' r h p l e R s m args below meth c w C n0 H1 locs1 lsA ⟨hR1, hS1, h3, fun n v hv => hokv v (h4 n v hv), fun v hv => hokv v (v2 v hv), v3, by rw [hn]; exact h7, by rw [hn]; exact h8⟩
  rw [hn] at K
  exact K
theorem g_wf_wI {w : g_W} {σ : Sg} {k i s : Nat} {v : Int32} (h : g_wf w σ) : g_wf w (wI σ k i s v) := h
theorem g_wf_wL {w : g_W} {σ : Sg} {k i s : Nat} {v : Int64} (h : g_wf w σ) : g_wf w (wL σ k i s v) := h
theorem g_oI {w : g_W} {σ : Sg} {kd i s : Nat} {v : Int32} : ∀ k' i', (k' = kd → i' = i → False) → g_cell w (wI σ kd i s v) k' i' = g_cell w σ k' i' := by
  intro k' i' hne
  refine g_cell_congr (fun s' => ?_) (fun _ => rfl) (fun _ => rfl)
  rw [hrI_wI, if_neg (fun q => hne q.1 q.2.1)]
theorem g_oL {w : g_W} {σ : Sg} {kd i s : Nat} {v : Int64} : ∀ k' i', (k' = kd → i' = i → False) → g_cell w (wL σ kd i s v) k' i' = g_cell w σ k' i' := by
  intro k' i' hne
  refine g_cell_congr (fun _ => rfl) (fun s' => ?_) (fun _ => rfl)
  rw [hrL_wL, if_neg (fun q => hne q.1 q.2.1)]
theorem g_oN {w : g_W} {σ : Sg} {kd i s : Nat} {v : Nat} : ∀ k' i', (k' = kd → i' = i → False) → g_cell w (wN σ kd i s v) k' i' = g_cell w σ k' i' := by
  intro k' i' hne
  refine g_cell_congr (fun _ => rfl) (fun _ => rfl) (fun s' => ?_)
  rw [hrN_wN, if_neg (fun q => hne q.1 q.2.1)]
/-- putfield, whatever it puts -/
theorem g_putrow {σ σ' : Sg} {ci sl idx i : Nat} {ty : FieldType} {v : PV} {rest : List PV} (hf : g_Fp (mo M) idx ci sl ty) (hd : decode (g_mc M) pc = .ok (.putfield idx, 3))
    (p : Program) (l : Launch) (e : Env) (R : Room) (s : State) (m : MethodId) (args : Array Value) (below : List Frame) (meth : Method) (c : Code) (w : g_W) (C : g_Ctx M p l e R s m args below meth c w)
    (H : Heap) (locs : List Loc) (lsA : Array Slot) (cells slots : Nat) (Q : State → Prop) (q0 : Nat) (hR : g_Rep w σ H) (hS : va_S (wA w) s.heap H locs) (hq : (g_ws w σ)[q0]? = some (wr w ci i, g_cell w σ ci i))
    (hnr : narrow ty (g_vl w v) = g_vl w v) (hft : fits ty (g_vl w v) = true) (hfv : g_fv w σ' ci i sl = g_vl w v) (hfo : ∀ s', s' ≠ sl → g_fv w σ' ci i s' = g_fv w σ ci i s')
    (K : ∀ (H1 : Heap) (locs1 : List Loc) (e1 : va_E), g_cell w σ' ci i = e1 → H1.size = H.size → va_P (wD w) vwCl ((g_ws w σ).set q0 (wr w ci i, e1)) H1 → va_S (wA w) s.heap H1 locs1 → W p l e R s m args below meth c H1 locs1 cells slots Q (F0 m (pc + 3) lsA (rest.map (g_vl w)))) :
    W p l e R s m args below meth c H locs cells slots Q (F0 m pc lsA ((v :: .inr (.inr (some (ci, i))) :: rest : List PV).map (g_vl w))) := by
  obtain ⟨h11, hsl, Cn, T, ty0, hc, hin, hw, hty, hnm, hfin, hpd⟩ := hf
  obtain ⟨c1, c2, c3, c4, c5, c6, c7, c8, c9, c10, c11⟩ := C
  rw [g_cell_obj h11] at hq
  have hD := g_ws_D c9 σ
  have hP := g_ws_P hR
  have hap := va_apart (own := mo M) c7 hin ty0 hty hnm c8 hc
  obtain ⟨r', h1, cell, q1, q2, q3, q4⟩ := hP q0 _ hq
  have hr : r' = (Cn, T, g_nf ci) := Option.some.inj (h1.symm.trans hc)
  subst hr
  obtain ⟨hSS, hfc, kC, hkC, hkind⟩ := c8.1 ci _ hc
  obtain ⟨cf, kf, fi, f, hi, hsl2⟩ := hSS sl hsl
  have hlay := c7 _ (hin _ (u_in_lay hsl))
  unfold u_lay at hlay
  rw [if_neg (by rw [hfin]; decide)] at hlay
  have hst := (u_facts hfc hkC (u_lays c7 hin hsl) hi).1
  have h6 := u_store hfc hkC hkind hlay hi hpd hnr hft
  refine W.putK c1 c2 (f := f) ⟨c6, c7 _ hw, ⟨_, _, _, hi⟩, hst⟩ (by rw [q2]; exact h6) q1 q3 (by rw [hsl2]; exact k2_hasslot (q4 sl hsl)) rfl rfl hd fun H' e1 e2 e3 => ?_
  rw [hsl2] at e1 ⊢
  refine K H' _ (.inr (ci, (g_obj w σ ci i).set sl (g_vl w v))) ?_ e2 (hP.set hD hq ⟨_, hc, t_OB.to (V := updV (vp_V (g_obj w σ ci i)) sl (g_vl w v)) ⟨_, e1, q2, q3, t_set q4 hap hsl _⟩ (fun j _ => vp_updV_set (by rw [g_obj_len]; exact hsl) _ j)⟩ e3) (hS.put e2 e3 (hD.2 q0 _ hq))
  rw [g_cell_obj h11, g_obj_set hsl hfv hfo]
theorem g_put_inv {ci : Nat} {β : Type} {mk : β → PV} {st : List PV} {f : β → Nat → List PV → Option ρ} {r : ρ} (h : ∃ x q rest, st = mk x :: .inr (.inr (some q)) :: rest ∧ q.1 = ci ∧ f x q.2 rest = some r) : ∃ x i rest, st = mk x :: .inr (.inr (some (ci, i))) :: rest ∧ f x i rest = some r := by
  obtain ⟨x, ⟨a, i⟩, rest, rfl, rfl, h⟩ := h
  exact ⟨x, i, rest, rfl, h⟩
theorem g_putI_inv {ci sl : Nat} {ls : Lc} {st : List PV} {σ : Sg} {r : ρ} (h : s_putI ci sl k ls st σ = some r) : ∃ x i rest, st = .inl x :: .inr (.inr (some (ci, i))) :: rest ∧ k ls rest (wI σ ci i sl x) = some r := by
  unfold s_putI at h
  split at h
  · next x q rest =>
    obtain ⟨a, i⟩ := q
    split at h
    · next e => cases Nat.eq_of_beq_eq_true e; exact ⟨x, i, rest, rfl, h⟩
    · cases h
  · cases h
theorem g_putZ_inv {ci sl : Nat} {ls : Lc} {st : List PV} {σ : Sg} {r : ρ} (h : s_putZ ci sl k ls st σ = some r) : ∃ x i rest, st = .inl x :: .inr (.inr (some (ci, i))) :: rest ∧ isB x ∧ k ls rest (wI σ ci i sl x) = some r := by
  unfold s_putZ at h
  split at h
  · next x q rest =>
    obtain ⟨a, i⟩ := q
    split at h
    · next e => cases Nat.eq_of_beq_eq_true e; exact ⟨x, i, rest, rfl, gd_some h⟩
    · cases h
  · cases h
theorem g_putL_inv {ci sl : Nat} {ls : Lc} {st : List PV} {σ : Sg} {r : ρ} (h : s_putL ci sl k ls st σ = some r) : ∃ x i rest, st = .inr (.inl x) :: .inr (.inr (some (ci, i))) :: rest ∧ k ls rest (wL σ ci i sl x) = some r := by
  unfold s_putL at h
  split at h
  · next x q rest =>
    obtain ⟨a, i⟩ := q
    split at h
    · next e => cases Nat.eq_of_beq_eq_true e; exact ⟨x, i, rest, rfl, h⟩
    · cases h
  · cases h
theorem g_putD_inv {sl : Nat} {ls : Lc} {st : List PV} {σ : Sg} {r : ρ} (h : s_putD sl k ls st σ = some r) : ∃ x i rest, st = .inr (.inr (some (75, x))) :: .inr (.inr (some (7, i))) :: rest ∧ k ls rest (wN σ 7 i sl x) = some r := by
  unfold s_putD at h
  split at h
  · next v q rest =>
    obtain ⟨a, i⟩ := q
    obtain ⟨a2, x⟩ := v
    split at h
    · next e =>
      cases Nat.eq_of_beq_eq_true e
      split at h
      · next e => cases Nat.eq_of_beq_eq_true e; exact ⟨x, i, rest, rfl, h⟩
      · cases h
    · cases h
  · cases h
theorem g_fv_oI {w : g_W} {σ : Sg} {ci i sl : Nat} {x : Int32} : ∀ s', s' ≠ sl → g_fv w (wI σ ci i sl x) ci i s' = g_fv w σ ci i s' := by
  intro s' hne
  unfold g_fv
  simp only [hrI_wI, hrL_wI, hrN_wI]
  rw [if_neg (fun q => hne q.2.2)]
theorem g_fv_oL {w : g_W} {σ : Sg} {ci i sl : Nat} {x : Int64} : ∀ s', s' ≠ sl → g_fv w (wL σ ci i sl x) ci i s' = g_fv w σ ci i s' := by
  intro s' hne
  unfold g_fv
  simp only [hrI_wL, hrL_wL, hrN_wL]
  rw [if_neg (fun q => hne q.2.2)]
theorem g_fv_oN {w : g_W} {σ : Sg} {ci i sl : Nat} {x : Nat} : ∀ s', s' ≠ sl → g_fv w (wN σ ci i sl x) ci i s' = g_fv w σ ci i s' := by
  intro s' hne
  unfold g_fv
  simp only [hrI_wN, hrL_wN, hrN_wN]
  rw [if_neg (fun q => hne q.2.2)]
theorem g_76 {ci : Nat} (h : Nat.blt ci 11 = true) : ci < 76 := by have := Nat.le_of_ble_eq_true h; omega
theorem G_putI {ci sl idx : Nat} (hf : g_Fp (mo M) idx ci sl .int) (ht : g_ft ci sl = 0) (hd : decode (g_mc M) pc = .ok (.putfield idx, 3)) (hn : pc + 3 = nx) (hk : g_Gd M ret b nx k) : g_Gd M ret b pc (s_putI ci sl k) := by
  subst hn
  intro ls st σ r h
  obtain ⟨x, i, rest, rfl, h'⟩ := g_putI_inv h
  exact g_wr (kd := ci) (i := i) hk h' (g_76 hf.1) (fun w _ hwf h => ⟨g_top (g_tl h), g_tl (g_tl h), g_wf_wI hwf⟩) rfl (fun w => g_oI)
    (fun p l e R s m args below meth c w C H locs lsA cells slots Q q0 hR hS h5 hwf hL hi hq K => g_putrow (v := .inl x) hf hd p l e R s m args below meth c w C H locs lsA cells slots Q q0 hR hS hq rfl rfl (by unfold g_fv; rw [ht]; show Value.int _ = Value.int _; rw [hrI_wI, if_pos ⟨rfl, rfl, rfl⟩]) g_fv_oI K)
theorem G_putZ {ci sl idx : Nat} (hf : g_Fp (mo M) idx ci sl .boolean) (ht : g_ft ci sl = 1) (hd : decode (g_mc M) pc = .ok (.putfield idx, 3)) (hn : pc + 3 = nx) (hk : g_Gd M ret b nx k) : g_Gd M ret b pc (s_putZ ci sl k) := by
  subst hn
  intro ls st σ r h
  obtain ⟨x, i, rest, rfl, hb, h'⟩ := g_putZ_inv h
  exact g_wr (kd := ci) (i := i) hk h' (g_76 hf.1) (fun w _ hwf h => ⟨g_top (g_tl h), g_tl (g_tl h), g_wf_wI hwf⟩) rfl (fun w => g_oI)
    (fun p l e R s m args below meth c w C H locs lsA cells slots Q q0 hR hS h5 hwf hL hi hq K => g_putrow (v := .inl x) hf hd p l e R s m args below meth c w C H locs lsA cells slots Q q0 hR hS hq (by rcases hb with rfl | rfl <;> rfl) (by rcases hb with rfl | rfl <;> rfl) (by unfold g_fv; rw [ht]; show Value.int _ = Value.int _; rw [hrI_wI, if_pos ⟨rfl, rfl, rfl⟩]) g_fv_oI K)
theorem G_putL {ci sl idx : Nat} (hf : g_Fp (mo M) idx ci sl .long) (ht : g_ft ci sl = 2) (hd : decode (g_mc M) pc = .ok (.putfield idx, 3)) (hn : pc + 3 = nx) (hk : g_Gd M ret b nx k) : g_Gd M ret b pc (s_putL ci sl k) := by
  subst hn
  intro ls st σ r h
  obtain ⟨x, i, rest, rfl, h'⟩ := g_putL_inv h
  exact g_wr (kd := ci) (i := i) hk h' (g_76 hf.1) (fun w _ hwf h => ⟨g_top (g_tl h), g_tl (g_tl h), g_wf_wL hwf⟩) rfl (fun w => g_oL)
    (fun p l e R s m args below meth c w C H locs lsA cells slots Q q0 hR hS h5 hwf hL hi hq K => g_putrow (v := .inr (.inl x)) hf hd p l e R s m args below meth c w C H locs lsA cells slots Q q0 hR hS hq rfl rfl (by unfold g_fv; rw [ht]; show Value.long _ = Value.long _; rw [hrL_wL, if_pos ⟨rfl, rfl, rfl⟩]) g_fv_oL K)
theorem G_putD {sl idx : Nat} (hf : g_Fp (mo M) idx 7 sl (.array .int)) (ht : g_ft 7 sl = 4) (hd : decode (g_mc M) pc = .ok (.putfield idx, 3)) (hn : pc + 3 = nx) (hk : g_Gd M ret b nx k) : g_Gd M ret b pc (s_putD sl k) := by
  subst hn
  intro ls st σ r h
  obtain ⟨x, i, rest, rfl, h'⟩ := g_putD_inv h
  refine g_wr (kd := 7) (i := i) hk h' (g_76 hf.1) (fun w _ hwf h => ⟨g_top (g_tl h), g_tl (g_tl h), ?_⟩) rfl (fun w => g_oN)
    (fun p l e R s m args below meth c w C H locs lsA cells slots Q q0 hR hS h5 hwf hL hi hq K => g_putrow (v := .inr (.inr (some (75, x)))) hf hd p l e R s m args below meth c w C H locs lsA cells slots Q q0 hR hS hq rfl rfl (by unfold g_fv; rw [ht]; show Value.ref _ = Value.ref _; rw [hrN_wN, if_pos ⟨rfl, rfl, rfl⟩]) g_fv_oN K)
  refine ⟨hwf.1, fun g i hg hi => ?_, fun s' => ?_⟩
  · rw [hrN_wN, if_neg (fun q => by cases q.1)]
    exact hwf.2.1 g i hg hi
  · rw [hrN_wN]
    by_cases e : 7 = 7 ∧ 0 = i ∧ s' = sl
    · rw [if_pos e]
      have := (g_top h).2
      exact this
    · rw [if_neg e]
      exact hwf.2.2 s'
/-! arrays -/
theorem g_iald_inv {kd n : Nat} {ls : Lc} {st : List PV} {σ : Sg} {r : ρ} (h : s_iald kd n k ls st σ = some r) : ∃ j i rest, st = .inl j :: .inr (.inr (some (kd, i))) :: rest ∧ vp_in j n ∧ k ls (.inl (rI σ kd i (ix j)) :: rest) σ = some r := by
  unfold s_iald at h
  split at h
  · next j q rest =>
    obtain ⟨a, i⟩ := q
    split at h
    · next e => cases Nat.eq_of_beq_eq_true e; exact ⟨j, i, rest, rfl, gd_some h⟩
    · cases h
  · cases h
theorem g_lald_inv {kd n : Nat} {ls : Lc} {st : List PV} {σ : Sg} {r : ρ} (h : s_lald kd n k ls st σ = some r) : ∃ j i rest, st = .inl j :: .inr (.inr (some (kd, i))) :: rest ∧ vp_in j n ∧ k ls (.inr (.inl (rL σ kd i (ix j))) :: rest) σ = some r := by
  unfold s_lald at h
  split at h
  · next j q rest =>
    obtain ⟨a, i⟩ := q
    split at h
    · next e => cases Nat.eq_of_beq_eq_true e; exact ⟨j, i, rest, rfl, gd_some h⟩
    · cases h
  · cases h
theorem g_ci {w : g_W} {σ : Sg} {kd i n e : Nat} (h : g_Ak kd n e) (he : e = 0 ∨ e = 1 ∨ e = 2) : g_cell w σ kd i = .inl (wC w e, (n, .inl (rI σ kd i))) := by
  rw [g_cell_arr h, g_con_i h.2.1 he]
theorem g_cl {w : g_W} {σ : Sg} {kd i n : Nat} (h : g_Ak kd n 3) : g_cell w σ kd i = .inl (wC w 3, (n, .inr (.inl (rL σ kd i)))) := by
  rw [g_cell_arr h, g_con_l h.2.1]
theorem G_iald {kd n : Nat} (ha : g_Ak kd n 0) (hd : decode (g_mc M) pc = .ok (.iaload, 1)) (hn : pc + 1 = nx) (hk : g_Gd M ret b nx k) : g_Gd M ret b pc (s_iald kd n k) := by
  subst hn
  intro ls st σ r h
  obtain ⟨j, i, rest, rfl, hj, h'⟩ := g_iald_inv h
  exact g_rd hk h' (fun w _ _ h => g_cs trivial (g_tl (g_tl h))) (fun p l e R s m args below meth c w C H locs lsA cells slots Q hR hS h5 K => va_iald C.1 C.2.1 C.2.2.2.2.2.2.2.1 (g_one ha.2.2.2.2 hR (g_top (g_tl h5)) (g_ci ha (Or.inl rfl))) 0 0 rfl rfl hj hd K)
def g_Ax (kd : Nat) : Prop := kd = 76 ∨ kd = 77 ∨ kd = 78
theorem g_Zx {w : g_W} {U : State} {H : Heap} {kd : Nat} (h : g_Ax kd) (hZ : g_Zs w U H) : va_T .int (wr w kd 0) 4 (fun j => .int (g_xT kd j)) (wA w) U H := by
  rcases h with rfl | rfl | rfl
  · exact hZ.2.1.2
  · exact hZ.2.2.1.2
  · exact hZ.2.2.2.1.2
theorem g_Ax0 {w : g_W} {σ : Sg} {kd i : Nat} (ha : g_Ax kd) (hv : g_vo w σ kd i) : i = 0 := by
  rcases ha with rfl | rfl | rfl <;> exact Nat.lt_one_iff.mp hv.2
theorem g_xld {p : Program} {l : Launch} {e : Env} {R : Room} {s : State} {m : MethodId} {args : Array Value} {below : List Frame} {meth : Method} {c : Code} {w : g_W} {σ : Sg} {kd i : Nat} {j : Int32} {H : Heap} {locs : List Loc} {lsA : Array Slot} {cells slots : Nat} {Q : State → Prop} {rest : List Value} (C : g_Ctx M p l e R s m args below meth c w) (ha : g_Ax kd) (hR : g_Rep w σ H) (hS : va_S (wA w) s.heap H locs) (hv : g_vo w σ kd i) (hj : vp_in j 4) (hd : decode (g_mc M) pc = .ok (.iaload, 1))
    (K : W p l e R s m args below meth c H locs cells slots Q (F0 m (pc + 1) lsA (.int (rI σ kd i (ix j)) :: rest))) : W p l e R s m args below meth c H locs cells slots Q (F0 m pc lsA (.int j :: .ref (wr w kd i) :: rest)) := by
  have hi := g_Ax0 ha hv
  subst hi
  have hjl : ix j < 4 := Nat.not_le.mp fun q => hj (Or.inr q)
  have h76 : 76 ≤ kd ∧ kd < 79 := by rcases ha with rfl | rfl | rfl <;> decide
  have e : rI σ kd 0 (ix j) = g_xT kd (ix j) := hR.2.2 kd 0 h76.1 h76.2 hv _ hjl
  rw [e] at K
  exact va_ti C.1 C.2.1 (g_Zx ha C.2.2.2.2.2.2.2.2.2.2) hS hj rfl hd K
theorem G_ialdx {kd : Nat} (ha : g_Ax kd) (hd : decode (g_mc M) pc = .ok (.iaload, 1)) (hn : pc + 1 = nx) (hk : g_Gd M ret b nx k) : g_Gd M ret b pc (s_iald kd 4 k) := by
  subst hn
  intro ls st σ r h
  obtain ⟨j, i, rest, rfl, hj, h'⟩ := g_iald_inv h
  exact g_rd hk h' (fun w _ _ h => g_cs trivial (g_tl (g_tl h))) (fun p l e R s m args below meth c w C H locs lsA cells slots Q hR hS h5 K => g_xld C ha hR hS (g_top (g_tl h5)) hj hd K)
theorem G_bald {kd n : Nat} (ha : g_Ak kd n 1) (hd : decode (g_mc M) pc = .ok (.baload, 1)) (hn : pc + 1 = nx) (hk : g_Gd M ret b nx k) : g_Gd M ret b pc (s_bald kd n k) := by
  subst hn
  intro ls st σ r h
  obtain ⟨j, i, rest, rfl, hj, h'⟩ := g_iald_inv h
  exact g_rd hk h' (fun w _ _ h => g_cs trivial (g_tl (g_tl h))) (fun p l e R s m args below meth c w C H locs lsA cells slots Q hR hS h5 K => va_bald C.1 C.2.1 C.2.2.2.2.2.2.2.1 (g_one ha.2.2.2.2 hR (g_top (g_tl h5)) (g_ci ha (Or.inr (Or.inl rfl)))) 0 1 rfl rfl hj hd K)
theorem G_zald {kd n : Nat} (ha : g_Ak kd n 2) (hd : decode (g_mc M) pc = .ok (.baload, 1)) (hn : pc + 1 = nx) (hk : g_Gd M ret b nx k) : g_Gd M ret b pc (s_bald kd n k) := by
  subst hn
  intro ls st σ r h
  obtain ⟨j, i, rest, rfl, hj, h'⟩ := g_iald_inv h
  exact g_rd hk h' (fun w _ _ h => g_cs trivial (g_tl (g_tl h))) (fun p l e R s m args below meth c w C H locs lsA cells slots Q hR hS h5 K => va_zald C.1 C.2.1 C.2.2.2.2.2.2.2.1 (g_one ha.2.2.2.2 hR (g_top (g_tl h5)) (g_ci ha (Or.inr (Or.inr rfl)))) 0 2 rfl rfl hj hd K)
theorem G_lald {kd n : Nat} (ha : g_Ak kd n 3) (hd : decode (g_mc M) pc = .ok (.laload, 1)) (hn : pc + 1 = nx) (hk : g_Gd M ret b nx k) : g_Gd M ret b pc (s_lald kd n k) := by
  subst hn
  intro ls st σ r h
  obtain ⟨j, i, rest, rfl, hj, h'⟩ := g_lald_inv h
  exact g_rd hk h' (fun w _ _ h => g_cs trivial (g_tl (g_tl h))) (fun p l e R s m args below meth c w C H locs lsA cells slots Q hR hS h5 K => va_lald C.1 C.2.1 C.2.2.2.2.2.2.2.1 (g_one ha.2.2.2.2 hR (g_top (g_tl h5)) (g_cl ha)) 0 3 rfl rfl hj hd K)
theorem g_iast_inv {kd n : Nat} {ls : Lc} {st : List PV} {σ : Sg} {r : ρ} (h : s_iast kd n k ls st σ = some r) : ∃ x j i rest, st = .inl x :: .inl j :: .inr (.inr (some (kd, i))) :: rest ∧ vp_in j n ∧ k ls rest (wI σ kd i (ix j) x) = some r := by
  unfold s_iast at h
  split at h
  · next x j q rest =>
    obtain ⟨a, i⟩ := q
    split at h
    · next e => cases Nat.eq_of_beq_eq_true e; exact ⟨x, j, i, rest, rfl, gd_some h⟩
    · cases h
  · cases h
theorem g_bast_inv {ty : FieldType} {kd n : Nat} {ls : Lc} {st : List PV} {σ : Sg} {r : ρ} (h : s_bast ty kd n k ls st σ = some r) : ∃ x j i rest, st = .inl x :: .inl j :: .inr (.inr (some (kd, i))) :: rest ∧ vp_in j n ∧ k ls rest (wI σ kd i (ix j) (vp_nar ty x)) = some r := by
  unfold s_bast at h
  split at h
  · next x j q rest =>
    obtain ⟨a, i⟩ := q
    split at h
    · next e => cases Nat.eq_of_beq_eq_true e; exact ⟨x, j, i, rest, rfl, gd_some h⟩
    · cases h
  · cases h
theorem g_last_inv {kd n : Nat} {ls : Lc} {st : List PV} {σ : Sg} {r : ρ} (h : s_last kd n k ls st σ = some r) : ∃ x j i rest, st = .inr (.inl x) :: .inl j :: .inr (.inr (some (kd, i))) :: rest ∧ vp_in j n ∧ k ls rest (wL σ kd i (ix j) x) = some r := by
  unfold s_last at h
  split at h
  · next x j q rest =>
    obtain ⟨a, i⟩ := q
    split at h
    · next e => cases Nat.eq_of_beq_eq_true e; exact ⟨x, j, i, rest, rfl, gd_some h⟩
    · cases h
  · cases h
theorem g_updI {σ : Sg} {kd i s : Nat} {x : Int32} : rI (wI σ kd i s x) kd i = upd (rI σ kd i) s x := by
  funext s'
  rw [hrI_wI]
  unfold upd
  by_cases e : s' = s
  · rw [if_pos ⟨rfl, rfl, e⟩, if_pos e]
  · rw [if_neg (fun q => e q.2.2), if_neg e]
theorem g_updL {σ : Sg} {kd i s : Nat} {x : Int64} : rL (wL σ kd i s x) kd i = vp_updL (rL σ kd i) s x := by
  funext s'
  rw [hrL_wL]
  unfold vp_updL
  by_cases e : s' = s
  · rw [if_pos ⟨rfl, rfl, e⟩, if_pos e]
  · rw [if_neg (fun q => e q.2.2), if_neg e]
/-- a store's row gives the size, too -/
theorem g_szI {H H1 : Heap} {D : va_G} {cl : List vw_C} {A : Nat → Prop} {ws ws1 : va_W} {H0 : Heap} {locs locs1 : List Loc} (hz : H1.size = H.size) : H1.size = H.size := hz
theorem g_uv (f : Nat → Int32) (n : Nat) (x : Int32) : updV (fun j => Value.int (f j)) n (.int x) = fun j => Value.int (upd f n x j) := by
  funext j
  unfold updV upd
  by_cases q : j = n <;> simp [q]
theorem g_uvL (f : Nat → Int64) (n : Nat) (x : Int64) : updV (fun j => Value.long (f j)) n (.long x) = fun j => Value.long (vp_updL f n x j) := by
  funext j
  unfold updV vp_updL
  by_cases q : j = n <;> simp [q]
theorem G_iast {kd n : Nat} (ha : g_Ak kd n 0) (h76 : kd < 76) (hd : decode (g_mc M) pc = .ok (.iastore, 1)) (hn : pc + 1 = nx) (hk : g_Gd M ret b nx k) : g_Gd M ret b pc (s_iast kd n k) := by
  subst hn
  intro ls st σ r h
  obtain ⟨x, j, i, rest, rfl, hj, h'⟩ := g_iast_inv h
  refine g_wr (kd := kd) (i := i) hk h' h76 (fun w _ hwf h => ⟨g_top (g_tl (g_tl h)), g_tl (g_tl (g_tl h)), g_wf_wI hwf⟩) rfl (fun w => g_oI)
    (fun p l e R s m args below meth c w C H locs lsA cells slots Q q0 hR hS h5 hwf hL hi hq K => ?_)
  have hD := g_ws_D C.2.2.2.2.2.2.2.2.1 σ
  have hP := g_ws_P hR
  rw [g_ci ha (Or.inl rfl)] at hq
  have hK := C.2.2.2.2.2.2.2.1
  refine W.iast C.1 C.2.1 (hP q0 _ hq) ((hK.2 0 (wC w 0, .int) rfl).1 n (fun j => .int (rI σ kd i j))) (fun q => by cases q) (by show ¬ (j < 0 ∨ (arrV _ _ _).slots.size ≤ _); rw [arrV_size]; exact hj) rfl rfl hd fun H1 e z oq => ?_
  refine K H1 _ _ rfl z (hP.set hD hq ?_ oq) (hS.put z oq (hD.2 q0 _ hq))
  rw [g_ci ha (Or.inl rfl), g_updI]
  show H1[_]? = some (vp_cell _ _)
  rw [e]
  rw [vp_cell_i, vp_cell_i, arrV_store]
  congr 2
  exact g_uv _ _ _
theorem G_bast {kd n : Nat} (ha : g_Ak kd n 1) (h76 : kd < 76) (hd : decode (g_mc M) pc = .ok (.bastore, 1)) (hn : pc + 1 = nx) (hk : g_Gd M ret b nx k) : g_Gd M ret b pc (s_bast .byte kd n k) := by
  subst hn
  intro ls st σ r h
  obtain ⟨x, j, i, rest, rfl, hj, h'⟩ := g_bast_inv h
  refine g_wr (kd := kd) (i := i) hk h' h76 (fun w _ hwf h => ⟨g_top (g_tl (g_tl h)), g_tl (g_tl (g_tl h)), g_wf_wI hwf⟩) rfl (fun w => g_oI)
    (fun p l e R s m args below meth c w C H locs lsA cells slots Q q0 hR hS h5 hwf hL hi hq K => ?_)
  have hD := g_ws_D C.2.2.2.2.2.2.2.2.1 σ
  have hP := g_ws_P hR
  rw [g_ci ha (Or.inr (Or.inl rfl))] at hq
  have hK := C.2.2.2.2.2.2.2.1
  refine W.bast C.1 C.2.1 (hP q0 _ hq) ((hK.2 1 (wC w 1, .byte) rfl).1 n (fun j => .int (rI σ kd i j))) (fun q => by cases q) (by show ¬ (j < 0 ∨ (arrV _ _ _).slots.size ≤ _); rw [arrV_size]; exact hj) rfl rfl hd fun H1 e z oq => ?_
  refine K H1 _ _ rfl z (hP.set hD hq ?_ oq) (hS.put z oq (hD.2 q0 _ hq))
  rw [g_ci ha (Or.inr (Or.inl rfl)), g_updI]
  show H1[_]? = some (vp_cell _ _)
  rw [e]
  rw [vp_cell_i, vp_cell_i, arrV_store]
  congr 2
  exact g_uv _ _ _
theorem G_zast {kd n : Nat} (ha : g_Ak kd n 2) (h76 : kd < 76) (hd : decode (g_mc M) pc = .ok (.bastore, 1)) (hn : pc + 1 = nx) (hk : g_Gd M ret b nx k) : g_Gd M ret b pc (s_bast .boolean kd n k) := by
  subst hn
  intro ls st σ r h
  obtain ⟨x, j, i, rest, rfl, hj, h'⟩ := g_bast_inv h
  refine g_wr (kd := kd) (i := i) hk h' h76 (fun w _ hwf h => ⟨g_top (g_tl (g_tl h)), g_tl (g_tl (g_tl h)), g_wf_wI hwf⟩) rfl (fun w => g_oI)
    (fun p l e R s m args below meth c w C H locs lsA cells slots Q q0 hR hS h5 hwf hL hi hq K => ?_)
  have hD := g_ws_D C.2.2.2.2.2.2.2.2.1 σ
  have hP := g_ws_P hR
  rw [g_ci ha (Or.inr (Or.inr rfl))] at hq
  have hK := C.2.2.2.2.2.2.2.1
  refine W.zast C.1 C.2.1 (hP q0 _ hq) ((hK.2 2 (wC w 2, .boolean) rfl).1 n (fun j => .int (rI σ kd i j))) (fun q => by cases q) (by show ¬ (j < 0 ∨ (arrV _ _ _).slots.size ≤ _); rw [arrV_size]; exact hj) rfl rfl hd fun H1 e z oq => ?_
  refine K H1 _ _ rfl z (hP.set hD hq ?_ oq) (hS.put z oq (hD.2 q0 _ hq))
  rw [g_ci ha (Or.inr (Or.inr rfl)), g_updI]
  show H1[_]? = some (vp_cell _ _)
  rw [e]
  rw [vp_cell_i, vp_cell_i, arrV_store]
  congr 2
  exact g_uv _ _ _
theorem G_last {kd n : Nat} (ha : g_Ak kd n 3) (h76 : kd < 76) (hd : decode (g_mc M) pc = .ok (.lastore, 1)) (hn : pc + 1 = nx) (hk : g_Gd M ret b nx k) : g_Gd M ret b pc (s_last kd n k) := by
  subst hn
  intro ls st σ r h
  obtain ⟨x, j, i, rest, rfl, hj, h'⟩ := g_last_inv h
  refine g_wr (kd := kd) (i := i) hk h' h76 (fun w _ hwf h => ⟨g_top (g_tl (g_tl h)), g_tl (g_tl (g_tl h)), g_wf_wL hwf⟩) rfl (fun w => g_oL)
    (fun p l e R s m args below meth c w C H locs lsA cells slots Q q0 hR hS h5 hwf hL hi hq K => ?_)
  have hD := g_ws_D C.2.2.2.2.2.2.2.2.1 σ
  have hP := g_ws_P hR
  rw [g_cl ha] at hq
  have hK := C.2.2.2.2.2.2.2.1
  refine W.last C.1 C.2.1 (hP q0 _ hq) ((hK.2 3 (wC w 3, .long) rfl).1 n (fun j => .long (rL σ kd i j))) (fun q => by cases q) (by show ¬ (j < 0 ∨ (arrV _ _ _).slots.size ≤ _); rw [arrV_size]; exact hj) rfl rfl hd fun H1 e z oq => ?_
  refine K H1 _ _ rfl z (hP.set hD hq ?_ oq) (hS.put z oq (hD.2 q0 _ hq))
  rw [g_cl ha, g_updL]
  show H1[_]? = some (vp_cell _ _)
  rw [e]
  rw [vp_cell_l, vp_cell_l, arrV_store]
  congr 2
  exact g_uvL _ _ _
/-! the code of a text: an array as long as it was made -/
theorem g_cc {w : g_W} {σ : Sg} {i : Nat} : g_cell w σ 36 i = .inl (wC w 0, (rN σ 36 i 0, .inl (rI σ 36 i))) := rfl
theorem G_ialdC (hd : decode (g_mc M) pc = .ok (.iaload, 1)) (hn : pc + 1 = nx) (hk : g_Gd M ret b nx k) : g_Gd M ret b pc (s_ialdC k) := by
  subst hn
  intro ls st σ r h
  unfold s_ialdC at h
  split at h
  · next j q rest =>
    obtain ⟨a, i⟩ := q
    split at h
    · next e0 =>
      cases Nat.eq_of_beq_eq_true e0
      obtain ⟨hj, h'⟩ := gd_some h
      exact g_rd hk h' (fun w _ _ h => g_cs trivial (g_tl (g_tl h))) (fun p l e R s m args below meth c w C H locs lsA cells slots Q hR hS h5 K => va_iald C.1 C.2.1 C.2.2.2.2.2.2.2.1 (g_one (by decide) hR (g_top (g_tl h5)) g_cc) 0 0 rfl rfl hj hd K)
    · cases h
  · cases h
theorem G_iastC (hd : decode (g_mc M) pc = .ok (.iastore, 1)) (hn : pc + 1 = nx) (hk : g_Gd M ret b nx k) : g_Gd M ret b pc (s_iastC k) := by
  subst hn
  intro ls st σ r h
  unfold s_iastC at h
  split at h
  · next x j q rest =>
    obtain ⟨a, i⟩ := q
    split at h
    · next e0 =>
      cases Nat.eq_of_beq_eq_true e0
      obtain ⟨hj, h'⟩ := gd_some h
      refine g_wr (kd := 36) (i := i) hk h' (by omega) (fun w _ hwf h => ⟨g_top (g_tl (g_tl h)), g_tl (g_tl (g_tl h)), g_wf_wI hwf⟩) rfl (fun w => g_oI)
        (fun p l e R s m args below meth c w C H locs lsA cells slots Q q0 hR hS h5 hwf hL hi hq K => ?_)
      have hD := g_ws_D C.2.2.2.2.2.2.2.2.1 σ
      have hP := g_ws_P hR
      rw [g_cc] at hq
      have hK := C.2.2.2.2.2.2.2.1
      refine W.iast C.1 C.2.1 (hP q0 _ hq) ((hK.2 0 (wC w 0, .int) rfl).1 _ (fun j => .int (rI σ 36 i j))) (fun q => by cases q) (by show ¬ (j < 0 ∨ (arrV _ _ _).slots.size ≤ _); rw [arrV_size]; exact hj) rfl rfl hd fun H1 e z oq => ?_
      refine K H1 _ _ rfl z (hP.set hD hq ?_ oq) (hS.put z oq (hD.2 q0 _ hq))
      rw [g_cc, g_updI, hrN_wI]
      show H1[_]? = some (vp_cell _ _)
      rw [e]
      rw [vp_cell_i, vp_cell_i, arrV_store]
      congr 2
      exact g_uv _ _ _
    · cases h
  · cases h
theorem G_alen {kd n e : Nat} (ha : g_Ak kd n e) (he : e = 0 ∨ e = 1 ∨ e = 2 ∨ e = 3) (hd : decode (g_mc M) pc = .ok (.arraylength, 1)) (hn : pc + 1 = nx) (hk : g_Gd M ret b nx k) : g_Gd M ret b pc (s_alen kd n k) := by
  subst hn
  intro ls st σ r h
  unfold s_alen at h
  split at h
  · next q rest =>
    obtain ⟨a, i⟩ := q
    split at h
    · next e0 =>
      cases Nat.eq_of_beq_eq_true e0
      refine g_rd hk h (fun w _ _ h => g_cs trivial (g_tl h)) (fun p l e R s m args below meth c w C H locs lsA cells slots Q hR hS h5 K => ?_)
      have hP := g_one ha.2.2.2.2 hR (g_top h5) (g_cell_arr ha)
      rcases he with rfl | rfl | rfl | rfl
      · exact va_alen C.1 C.2.1 C.2.2.2.2.2.2.2.1 hP 0 0 rfl (ty := .int) rfl rfl hd K
      · exact va_alen C.1 C.2.1 C.2.2.2.2.2.2.2.1 hP 0 1 rfl (ty := .byte) rfl rfl hd K
      · exact va_alen C.1 C.2.1 C.2.2.2.2.2.2.2.1 hP 0 2 rfl (ty := .boolean) rfl rfl hd K
      · exact va_alen C.1 C.2.1 C.2.2.2.2.2.2.2.1 hP 0 3 rfl (ty := .long) rfl rfl hd K
    · cases h
  · cases h
theorem G_alenx {kd : Nat} (ha : g_Ax kd) (hd : decode (g_mc M) pc = .ok (.arraylength, 1)) (hn : pc + 1 = nx) (hk : g_Gd M ret b nx k) : g_Gd M ret b pc (s_alen kd 4 k) := by
  subst hn
  intro ls st σ r h
  unfold s_alen at h
  split at h
  · next q rest =>
    obtain ⟨a, i⟩ := q
    split at h
    · next e0 =>
      cases Nat.eq_of_beq_eq_true e0
      refine g_rd hk h (fun w _ _ h => g_cs trivial (g_tl h)) (fun p l e R s m args below meth c w C H locs lsA cells slots Q hR hS h5 K => ?_)
      have hi := g_Ax0 ha (g_top h5)
      subst hi
      exact va_tlen C.1 C.2.1 (g_Zx ha C.2.2.2.2.2.2.2.2.2.2) hS rfl hd K
    · cases h
  · cases h
theorem G_alenC (hd : decode (g_mc M) pc = .ok (.arraylength, 1)) (hn : pc + 1 = nx) (hk : g_Gd M ret b nx k) : g_Gd M ret b pc (s_alenC k) := by
  subst hn
  intro ls st σ r h
  unfold s_alenC at h
  split at h
  · next q rest =>
    obtain ⟨a, i⟩ := q
    split at h
    · next e0 =>
      cases Nat.eq_of_beq_eq_true e0
      exact g_rd hk h (fun w _ _ h => g_cs trivial (g_tl h)) (fun p l e R s m args below meth c w C H locs lsA cells slots Q hR hS h5 K => va_alen C.1 C.2.1 C.2.2.2.2.2.2.2.1 (g_one (by decide) hR (g_top h5) g_cc) 0 0 rfl (ty := .int) rfl rfl hd K)
    · cases h
  · cases h
/-- any int array: its kind by its number -/
theorem g_cv {w : g_W} {σ : Sg} {kd i : Nat} (h : g_ety kd = 0) : g_cell w σ kd i = .inl (wC w 0, (aln σ kd i, .inl (rI σ kd i))) ∧ kd < 79 := by
  have h1 : Nat.blt kd 11 = false := by
    cases e : Nat.blt kd 11 with
    | false => rfl
    | true =>
      have := Nat.le_of_ble_eq_true e
      exfalso
      have hk : kd < 11 := by omega
      have : ∀ k, k < 11 → g_ety k ≠ 0 := by decide
      exact this kd hk h
  have h2 : kd < 79 := by
    rcases Nat.lt_or_ge kd 79 with q | q
    · exact q
    · exfalso
      by_cases q2 : kd = 79
      · subst q2; revert h; decide
      · have hn : ¬ kd < etyTbl.length := by
          have : etyTbl.length = 80 := by decide
          omega
        have : g_ety kd = 9 := by
          unfold g_ety
          apply Classical.byContradiction
          intro q3
          exact hn (nth_lt q3)
        omega
  refine ⟨?_, h2⟩
  unfold g_cell
  rw [h1, h, g_con_i h (Or.inl rfl)]
theorem G_ialdV (hd : decode (g_mc M) pc = .ok (.iaload, 1)) (hn : pc + 1 = nx) (hk : g_Gd M ret b nx k) : g_Gd M ret b pc (s_ialdV k) := by
  subst hn
  intro ls st σ r h
  unfold s_ialdV at h
  split at h
  · next j q rest =>
    obtain ⟨a, i⟩ := q
    obtain ⟨h0, h⟩ := gd_some h
    obtain ⟨hj, h'⟩ := gd_some h
    refine g_rd hk h' (fun w _ _ h => g_cs trivial (g_tl (g_tl h))) (fun p l e R s m args below meth c w C H locs lsA cells slots Q hR hS h5 K => ?_)
    have h79 := (g_cv (w := w) (σ := σ) (i := i) h0).2
    by_cases h76 : a < 76
    · exact va_iald C.1 C.2.1 C.2.2.2.2.2.2.2.1 (g_one h76 hR (g_top (g_tl h5)) (g_cv h0).1) 0 0 rfl rfl hj hd K
    · have ha : g_Ax a := by unfold g_Ax; omega
      have hj4 : vp_in j 4 := by rcases ha with rfl | rfl | rfl <;> exact hj
      exact g_xld C ha hR hS (g_top (g_tl h5)) hj4 hd K
  · cases h
theorem G_alenV (hd : decode (g_mc M) pc = .ok (.arraylength, 1)) (hn : pc + 1 = nx) (hk : g_Gd M ret b nx k) : g_Gd M ret b pc (s_alenV k) := by
  subst hn
  intro ls st σ r h
  unfold s_alenV at h
  split at h
  · next q rest =>
    obtain ⟨a, i⟩ := q
    obtain ⟨h0, h⟩ := gd_some h
    refine g_rd hk h (fun w _ _ h => g_cs trivial (g_tl h)) (fun p l e R s m args below meth c w C H locs lsA cells slots Q hR hS h5 K => ?_)
    have h79 := (g_cv (w := w) (σ := σ) (i := i) h0).2
    by_cases h76 : a < 76
    · exact va_alen C.1 C.2.1 C.2.2.2.2.2.2.2.1 (g_one h76 hR (g_top h5) (g_cv h0).1) 0 0 rfl (ty := .int) rfl rfl hd K
    · have ha : g_Ax a := by unfold g_Ax; omega
      have hi := g_Ax0 ha (g_top h5)
      subst hi
      have e4 : aln σ a 0 = 4 := by rcases ha with rfl | rfl | rfl <;> rfl
      rw [e4] at K
      exact va_tlen C.1 C.2.1 (g_Zx ha C.2.2.2.2.2.2.2.2.2.2) hS rfl hd K
  · cases h
/-! arrays of references -/
theorem g_c4 {w : g_W} {σ : Sg} {i : Nat} : g_cell w σ 18 i = .inl (wC w 4, (6, .inr (.inr (.inr (.inr (fun s => match rN σ 18 i s with
    | 0 => none
    | t + 1 => some (wr w 8 t))))))) := rfl
theorem g_c5 {w : g_W} {σ : Sg} {i : Nat} : g_cell w σ 37 i = .inl (wC w 5, (2, .inr (.inr (.inr (.inr (fun s => some (wr w 1 (3 + s)))))))) := rfl
theorem g_c6 {w : g_W} {σ : Sg} {i : Nat} : g_cell w σ 30 i = .inl (wC w 6, (7, .inr (.inr (.inr (.inr (fun s => some (wr w 74 s))))))) := rfl
theorem g_ixlt {j : Int32} {n : Nat} (h : vp_in j n) : ix j < n := Nat.not_le.mp fun q => h (Or.inr q)
theorem g_vrf (cA : ClassId) (f : Nat → Option Nat) (n : Nat) (v : Option Nat) : (vp_cell cA (6, .inr (.inr (.inr (.inr f))))).setSlot n (va_rf v) = vp_cell cA (6, .inr (.inr (.inr (.inr (va_up f n v))))) := by
  show (arrV cA 6 (fun j => va_rf (f j))).setSlot n (va_rf v) = arrV cA 6 (fun j => va_rf (va_up f n v j))
  rw [arrV_store]
  congr 1
  funext q
  by_cases hq : q = n <;> simp [updV, va_up, hq]
theorem G_aaldG (hd : decode (g_mc M) pc = .ok (.aaload, 1)) (hn : pc + 1 = nx) (hk : g_Gd M ret b nx k) : g_Gd M ret b pc (s_aaldG k) := by
  subst hn
  intro ls st σ r h
  unfold s_aaldG at h
  split at h
  · next j q rest =>
    obtain ⟨a, i⟩ := q
    split at h
    · next e0 =>
      cases Nat.eq_of_beq_eq_true e0
      obtain ⟨hj, h'⟩ := gd_some h
      refine g_rd hk h' (fun w hw _ h => g_cs ?_ (g_tl (g_tl h))) (fun p l e R s m args below meth c w C H locs lsA cells slots Q hR hS h5 K => va_aldq C.1 C.2.1 C.2.2.2.2.2.2.2.1 (g_one (by decide) hR (g_top (g_tl h5)) g_c5) 0 5 rfl rfl hj hd K)
      have hv := g_top (g_tl h)
      have := g_ixlt hj
      refine ⟨(hw.2.2 1 37 rfl).trans hv.1, ?_⟩
      show 3 + ix j < 6
      omega
    · cases h
  · cases h
theorem G_aaldT (hd : decode (g_mc M) pc = .ok (.aaload, 1)) (hn : pc + 1 = nx) (hk : g_Gd M ret b nx k) : g_Gd M ret b pc (s_aaldT k) := by
  subst hn
  intro ls st σ r h
  unfold s_aaldT at h
  split at h
  · next j q rest =>
    obtain ⟨a, i⟩ := q
    split at h
    · next e0 =>
      cases Nat.eq_of_beq_eq_true e0
      obtain ⟨hj, h'⟩ := gd_some h
      refine g_rd hk h' (fun w hw _ h => g_cs ?_ (g_tl (g_tl h))) (fun p l e R s m args below meth c w C H locs lsA cells slots Q hR hS h5 K => ?_)
      · have hv := g_top (g_tl h)
        exact ⟨(hw.2.2 74 30 rfl).trans hv.1, g_ixlt hj⟩
      · have hP := g_one (by decide) hR (g_top (g_tl h5)) g_c6
        have hK := C.2.2.2.2.2.2.2.1
        exact W.aald (v := .ref (wr w 74 (ix j))) (ty := .array .int) C.1 C.2.1 (hP 0 _ rfl) ((hK.2 6 (wC w 6, .array .int) rfl).1 7 (fun s => va_rf (some (wr w 74 s)))) rfl (fun q => by cases q) (by show ¬ (j < 0 ∨ (arrV _ _ _).slots.size ≤ _); rw [arrV_size]; exact hj) (by show (arrV _ _ _).slots[_]? = _; rw [arrV_read _ _ (show j.toNatClampNeg < 7 from g_ixlt hj)]; rfl) rfl rfl hd K
    · cases h
  · cases h
theorem G_aaldL (hd : decode (g_mc M) pc = .ok (.aaload, 1)) (hn : pc + 1 = nx) (hk : g_Gd M ret b nx k) : g_Gd M ret b pc (s_aaldL k) := by
  subst hn
  intro ls st σ r h
  unfold s_aaldL at h
  split at h
  · next j q rest =>
    obtain ⟨a, i⟩ := q
    split at h
    · next e0 =>
      cases Nat.eq_of_beq_eq_true e0
      obtain ⟨hj, h'⟩ := gd_some h
      split at h'
      · next e1 =>
        refine g_rd hk h' (fun w hw _ h => g_cs trivial (g_tl (g_tl h))) (fun p l e R s m args below meth c w C H locs lsA cells slots Q hR hS h5 K => va_aldq C.1 C.2.1 C.2.2.2.2.2.2.2.1 (g_one (by decide) hR (g_top (g_tl h5)) g_c4) 0 4 rfl rfl hj hd ?_)
        change rN σ 18 i (ix j) = 0 at e1
        show W p l e R s m args below meth c H locs cells slots Q (F0 m (pc + 1) lsA (va_rf (match rN σ 18 i (ix j) with
          | 0 => none
          | t + 1 => some (wr w 8 t)) :: _))
        rw [e1]
        exact K
      · next t e1 =>
        change rN σ 18 i (ix j) = t + 1 at e1
        refine g_rd hk h' (fun w hw hwf h => g_cs ?_ (g_tl (g_tl h))) (fun p l e R s m args below meth c w C H locs lsA cells slots Q hR hS h5 K => va_aldq C.1 C.2.1 C.2.2.2.2.2.2.2.1 (g_one (by decide) hR (g_top (g_tl h5)) g_c4) 0 4 rfl rfl hj hd ?_)
        · have hv := g_top (g_tl h)
          refine ⟨(hw.2.2 8 18 rfl).trans hv.1, ?_⟩
          have h1 : i < 6 := hv.2
          have := hwf.2.1 i (ix j) h1 (g_ixlt hj)
          show t < g_nT σ
          omega
        · show W p l e R s m args below meth c H locs cells slots Q (F0 m (pc + 1) lsA (va_rf (match rN σ 18 i (ix j) with
            | 0 => none
            | t + 1 => some (wr w 8 t)) :: _))
          rw [e1]
          exact K
    · cases h
  · cases h
/-- a text (or null) into a law's row -/
theorem g_con4 {w : g_W} {σ : Sg} {i s : Nat} {n : Nat} : (fun s' => match rN (wN σ 18 i s n) 18 i s' with
    | 0 => none
    | t + 1 => some (wr w 8 t)) = va_up (fun s' => match rN σ 18 i s' with
    | 0 => none
    | t + 1 => some (wr w 8 t)) s (match n with
    | 0 => none
    | t + 1 => some (wr w 8 t)) := by
  funext s'
  unfold va_up
  rw [hrN_wN]
  by_cases e : s' = s
  · rw [if_pos ⟨rfl, rfl, e⟩, if_pos e]
  · rw [if_neg (fun q => e q.2.2), if_neg e]
theorem g_wf_18 {w : g_W} {σ : Sg} {i s n : Nat} (h : g_wf w σ) (hn : n ≤ g_nT σ) : g_wf w (wN σ 18 i s n) := by
  refine ⟨h.1, fun g i' hg hi => ?_, fun s' => ?_⟩
  · rw [hrN_wN]
    by_cases e : 18 = 18 ∧ g = i ∧ i' = s
    · rw [if_pos e]; exact hn
    · rw [if_neg e]; exact h.2.1 g i' hg hi
  · rw [hrN_wN, if_neg (fun q => by cases q.1)]
    exact h.2.2 s'
theorem G_aastL (hd : decode (g_mc M) pc = .ok (.aastore, 1)) (hn : pc + 1 = nx) (hk : g_Gd M ret b nx k) : g_Gd M ret b pc (s_aastL k) := by
  subst hn
  intro ls st σ r h
  unfold s_aastL at h
  split at h
  · next j q rest =>
    obtain ⟨a, i⟩ := q
    split at h
    · next e0 =>
      cases Nat.eq_of_beq_eq_true e0
      obtain ⟨hj, h'⟩ := gd_some h
      refine g_wr (kd := 18) (i := i) hk h' (by decide) (fun w _ hwf h => ⟨g_top (g_tl (g_tl h)), g_tl (g_tl (g_tl h)), g_wf_18 hwf (Nat.zero_le _)⟩) rfl (fun w => g_oN)
        (fun p l e R s m args below meth c w C H locs lsA cells slots Q q0 hR hS h5 hwf hL hi hq K => ?_)
      have hD := g_ws_D C.2.2.2.2.2.2.2.2.1 σ
      have hP := g_ws_P hR
      rw [g_c4] at hq
      have hK := C.2.2.2.2.2.2.2.1
      refine va_WaastN (C := "GalleyRoom$Text") C.1 C.2.1 (hP q0 _ hq) ((hK.2 4 (wC w 4, .object "GalleyRoom$Text") rfl).1 6 (fun s => va_rf ((fun s' => match rN σ 18 i s' with
        | 0 => none
        | t + 1 => some (wr w 8 t)) s))) (fun h => by cases h) (by show ¬ (j < 0 ∨ (arrV _ _ _).slots.size ≤ _); rw [arrV_size]; exact hj) rfl rfl hd fun H1 e z oq => ?_
      refine K H1 _ _ rfl z (hP.set hD hq ?_ oq) (hS.put z oq (hD.2 q0 _ hq))
      rw [g_c4, g_con4]
      show H1[_]? = some (vp_cell _ _)
      rw [e]
      exact congrArg some (g_vrf _ _ _ none)
    · cases h
  · next v j q rest =>
    obtain ⟨a, i⟩ := q
    obtain ⟨a2, x⟩ := v
    split at h
    · next e0 =>
      cases Nat.eq_of_beq_eq_true e0
      split at h
      · next e1 =>
        cases Nat.eq_of_beq_eq_true e1
        obtain ⟨hj, h'⟩ := gd_some h
        refine g_wr (kd := 18) (i := i) hk h' (by decide) (fun w _ hwf h => ⟨g_top (g_tl (g_tl h)), g_tl (g_tl (g_tl h)), g_wf_18 hwf ?_⟩) rfl (fun w => g_oN)
          (fun p l e R s m args below meth c w C H locs lsA cells slots Q q0 hR hS h5 hwf hL hi hq K => ?_)
        · have hv : x < g_nT σ := (g_top h).2
          exact hv
        · have hD := g_ws_D C.2.2.2.2.2.2.2.2.1 σ
          have hP := g_ws_P hR
          rw [g_c4] at hq
          have hK := C.2.2.2.2.2.2.2.1
          have hT := g_one (k := 8) (i := x) (by decide) hR (g_top h5) (g_cell_obj rfl)
          have h0 : ¬ j < 0 := fun q => hj (Or.inl q)
          obtain ⟨r', hr', cellV, g1, g2, g3, -⟩ := hT 0 _ rfl
          have hcls := (hK.1 8 (RX8, TX8, 9) rfl).2
          obtain ⟨kA, comp, k1, k2, k3, -⟩ := (hK.2 4 (wC w 4, .object "GalleyRoom$Text") rfl).2
          have hcomp : comp = (wD w).1 8 := Option.some.inj (k3.symm.trans hcls.1)
          subst hcomp
          obtain ⟨kC, hkC, -⟩ := hcls.2
          refine W.aast C.1 C.2.1 (hP q0 _ hq) (fun q h => by cases h) (fun h => by cases h) k1 k2 rfl hkC ⟨h0, by show _ < (arrV _ _ _).slots.size; rw [arrV_size]; exact g_ixlt hj⟩ g1 (fun q h => by rw [g3] at h; cases h) (by rw [g2]; exact hkC) (by rw [g2]; exact va_assign hcls) rfl rfl hd fun H1 e z oq => ?_
          refine K H1 _ _ rfl z (hP.set hD hq ?_ oq) (hS.put z oq (hD.2 q0 _ hq))
          rw [g_c4, g_con4]
          show H1[_]? = some (vp_cell _ _)
          rw [e]
          exact congrArg some (g_vrf _ _ _ (some (wr w 8 x)))
      · cases h
    · cases h
  · cases h
end PutRows
