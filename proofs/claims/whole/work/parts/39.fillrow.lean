/-! ARRAYS.FILL: its contract, the row of a call -/
theorem g_arrV_congr {cA : ClassId} {n : Nat} {f g : Nat → Value} (h : ∀ j, j < n → f j = g j) : arrV cA n f = arrV cA n g := by
  unfold arrV
  congr 1
  apply Array.ext
  · simp
  · intro i h1 h2
    simp only [Array.getElem_ofFn]
    exact h i (by simpa using h1)
theorem g_con_d {w : g_W} {σ : Sg} {k i : Nat} (h3 : g_ety k ≠ 3) (h4 : g_ety k ≠ 4) (h5 : g_ety k ≠ 5) (h6 : g_ety k ≠ 6) : g_con w σ k i = .inl (rI σ k i) := by
  unfold g_con
  split <;> first | contradiction | rfl
/-- what an array holds beyond its length doesn't count -/
theorem g_Rep_ext {w : g_W} {σ σ' : Sg} {H : Heap} (h1 : ∀ k i s, Nat.blt k 11 = true ∨ s < aln σ k i → rI σ' k i s = rI σ k i s) (h2 : ∀ k i s, Nat.blt k 11 = true ∨ s < aln σ k i → rL σ' k i s = rL σ k i s) (h3 : ∀ k i s, rN σ' k i s = rN σ k i s) (h : g_Rep w σ H) : g_Rep w σ' H := by
  have hn : g_nT σ' = g_nT σ := h3 79 0 0
  have ha : ∀ k i, aln σ' k i = aln σ k i := fun k i => by unfold aln; rw [h3]
  have hvo : ∀ k i, g_vo w σ' k i → g_vo w σ k i := fun k i hv => ⟨hv.1, by have := hv.2; unfold g_cnt at this ⊢; rwa [hn] at this⟩
  refine ⟨by rw [h.1, hn], fun k i hk hv => ?_, fun k i hk hk9 hv j hj => ?_⟩
  case refine_2 =>
    rw [h1 k i j (Or.inr (by
      have e4 : aln σ k i = 4 := by
        have : k = 76 ∨ k = 77 ∨ k = 78 := by omega
        rcases this with rfl | rfl | rfl <;> rfl
      rw [e4]; exact hj))]
    exact h.2.2 k i hk hk9 (hvo k i hv) j hj
  have hv0 := hvo k i hv
  have h0 := h.2.1 k i hk hv0
  unfold g_cell at h0 ⊢
  cases e : Nat.blt k 11 with
  | true =>
    rw [e] at h0
    have ef : g_fv w σ' k i = g_fv w σ k i := by
      funext s
      unfold g_fv
      rw [h1 k i s (Or.inl e), h2 k i s (Or.inl e), h3]
    show va_at _ _ (_, .inr (k, g_obj w σ' k i)) H
    unfold g_obj
    rw [ef]
    exact h0
  | false =>
    rw [e] at h0
    show H[_]? = some (vp_cell _ (aln σ' k i, g_con w σ' k i))
    have h0 : H[wr w k i]? = some (vp_cell (wC w (g_ety k)) (aln σ k i, g_con w σ k i)) := h0
    rw [h0, ha]
    congr 1
    have e3 : rN σ' k i = rN σ k i := funext (h3 k i)
    by_cases q3 : g_ety k = 3
    · rw [g_con_l q3, g_con_l q3]
      exact g_arrV_congr (fun j hj => congrArg Value.long (h2 k i j (Or.inr hj)).symm)
    by_cases q4 : g_ety k = 4
    · unfold g_con
      rw [e3]
      rw [q4]
      rfl
    by_cases q5 : g_ety k = 5
    · unfold g_con
      rw [q5]
      rfl
    by_cases q6 : g_ety k = 6
    · unfold g_con
      rw [q6]
      rfl
    rw [g_con_d q3 q4 q5 q6, g_con_d q3 q4 q5 q6]
    exact g_arrV_congr (fun j hj => congrArg Value.int (h1 k i j (Or.inr hj)).symm)
theorem g_entryR {ρ : Type} {M : g_M} {y : MethodName} {ret : Rt ρ} {l : Launch} {w : g_W} {σ σ1 σ' : Sg} {as : List PV} {v : Option PV} {r : ρ} (hy : plainName y.cls = true) (hyc : y.cls = mo M) (hw : g_Wk w) (hwf : g_wf w σ) (has : ∀ v ∈ as, g_ok w σ v) (hlen : (g_al as).length ≤ ml M)
    (hGo : g_Go M ret (me M) 0 (g_loc as (ml M)) [] σ r) (hret : ∀ σ2 v2, ret σ2 v2 = some r → σ2 = σ1 ∧ v2 = v) (hr : ∀ H, g_Rep w σ1 H → g_Rep w σ' H) (hwf' : g_wf w σ1 → g_wf w σ') (hnT : g_nT σ' = g_nT σ1) : g_Mt l y M w σ as σ' v := by
  refine Met.ofW (cc := g_mc M) (maxL := ml M) (ret := mr M) hy rfl ?_
  intro p e s m args below meth c s₁ B hml hv
  obtain ⟨rfl, hR, hK, hZ⟩ := hv
  have hts := atoms_spec (ws := Cond.code y (g_mc M) (ml M) (mr M) :: lwG) B.pre
  have hown : s.vm.findClass (mo M) = some m.cls := by rw [← hyc]; exact findClass_of_methodNamed B.named
  have hl := lv_entry (as.map (g_vl w)) (n := ml M) (by rw [g_al_len]; exact hlen)
  rw [lg_entry_eq]
  generalize (lg_sl (as.map (g_vl w)) ++ List.replicate (ml M - (lg_sl (as.map (g_vl w))).length) Slot.unset).toArray = lsA at hl ⊢
  have hL : g_Lv w (ml M) (g_loc as (ml M)) lsA := by
    refine ⟨hl.1, hl.2.1, ?_, fun i v hv => ?_⟩
    · unfold g_loc
      rw [List.length_append, List.length_replicate]
      omega
    · have := g_al_args w as 0 i v (g_loc_get hv)
      rw [Nat.zero_add] at this
      exact hl.2.2 _ this
  have C : g_Ctx M p l e ({ frames := md M, cells := 7 * me M, slots := g_SL * me M, locals := 40 * md M } : Room) s m (as.map (g_vl w)).toArray below meth c w :=
    ⟨B.exec, B.bytes, hml, B.returns, B.notSynchronized, hown, fun x hx => hts x (List.mem_cons_of_mem _ hx), hK, hw, ⟨Nat.le_refl _, Nat.le_refl _, rfl, rfl⟩, hZ⟩
  have K := hGo p l e _ s m _ below meth c w C (g_nT σ) s.heap [] lsA ⟨hR, va_S.rf, hL, fun i v hv => g_al_ok as has i v (g_loc_get hv), (fun v hv => by cases hv), hwf, Nat.le_refl _, Nat.le_refl _⟩
  rw [Nat.sub_self, Nat.mul_zero, Nat.mul_zero] at K
  refine W.post ?_ K
  rintro t ⟨o, h1, h2, ⟨σ2, v2, q1, q2, q3, q4, q5, q6, q7, q8⟩, h4⟩
  obtain ⟨rfl, rfl⟩ := hret σ2 v2 q1
  exact ⟨o, h1, h2, ⟨q2, hr _ q3, q4, hwf' q5, fun x hx => g_ok_mono (by omega) (q6 x hx), by omega, by omega⟩, h4⟩
def y_flI : MethodName := ⟨"java/util/Arrays", "fill", "([II)V"⟩
def y_flL : MethodName := ⟨"java/util/Arrays", "fill", "([JJ)V"⟩
theorem wfl_init : (Cond.initialized "java/util/Arrays") ∈ lwG := lwG_1 (List.mem_of_getElem? (i := 18) rfl) rfl
theorem wflI_static : (Cond.static ({ cls := "java/util/Arrays", name := "fill", desc := "([II)V" } : Jvm.MethodName)) ∈ lwG := lwG_5 (List.mem_of_getElem? (i := 3) rfl) rfl
theorem wflI_code : (Cond.code ({ cls := "java/util/Arrays", name := "fill", desc := "([II)V" } : Jvm.MethodName) prog_18_method_103_code (4 : Nat) (Option.none : Option Jvm.ClassFile.FieldType)) ∈ lwG := lwG_5 (List.mem_of_getElem? (i := 4) rfl) rfl
theorem wflL_static : (Cond.static ({ cls := "java/util/Arrays", name := "fill", desc := "([JJ)V" } : Jvm.MethodName)) ∈ lwG := lwG_4 (List.mem_of_getElem? (i := 140) rfl) rfl
theorem wflL_code : (Cond.code ({ cls := "java/util/Arrays", name := "fill", desc := "([JJ)V" } : Jvm.MethodName) prog_18_method_101_code (5 : Nat) (Option.none : Option Jvm.ClassFile.FieldType)) ∈ lwG := lwG_4 (List.mem_of_getElem? (i := 141) rfl) rfl
noncomputable def F_flI75 : Fn := fun _ σ as k => match as with
  | [.inr (.inr (some q)), .inl v] => (match Nat.beq q.1 75 with | true => k (g_fillI σ 75 q.2 v) none | false => none)
  | _ => none
theorem h_flI75 : g_Fn M_flI y_flI 2 F_flI75 := by
  intro l w hw σ as hlen hwf hok ρ k r e
  unfold F_flI75 at e
  split at e
  · next q v =>
    obtain ⟨a, g0⟩ := q
    split at e
    · next e0 =>
      cases Nat.eq_of_beq_eq_true e0
      refine ⟨_, _, e, Or.inl rfl, ?_⟩
      have h0 : g_flI σ 75 g0 0 v = σ := by
        unfold g_flI
        refine Prod.ext ?_ rfl
        funext a b c
        show (if a = 75 ∧ b = g0 ∧ c < 0 then v else _) = _
        rw [if_neg (fun q => by have := q.2.2; omega)]
      have hl := l_flI75 σ g0 v FU 0 (by decide) (by decide)
      rw [h0] at hl
      refine g_entryR (σ1 := g_flI σ 75 g0 256 v) (ret := retV) (by decide) rfl hw hwf hok (Nat.le_of_ble_eq_true rfl) (E_flI75 σ g0 v _ hl) (fun σ2 v2 h => retV_inv h) (fun H hR => ?_) (fun h => h) rfl
      refine g_Rep_ext (σ := g_flI σ 75 g0 256 v) (fun k i s hs => ?_) (fun k i s hs => ?_) (fun _ _ _ => rfl) hR
      · show (if k = 75 ∧ i = g0 then v else σ.1 k i s) = (if k = 75 ∧ i = g0 ∧ s < 256 then v else σ.1 k i s)
        by_cases q : k = 75 ∧ i = g0
        · obtain ⟨rfl, rfl⟩ := q
          have hs2 : s < 256 := by
            rcases hs with hs | hs
            · cases hs
            · exact hs
          rw [if_pos ⟨rfl, rfl⟩, if_pos ⟨rfl, rfl, hs2⟩]
        · rw [if_neg q, if_neg (fun z => q ⟨z.1, z.2.1⟩)]
      · rfl
    · cases e
  · cases e
theorem c_flI75 {ρ : Type} {k : Bk ρ} {ls : Lc} {st : List PV} {σ : Sg} {r : ρ} (h : s_fillI 75 k ls st σ = some r) : s_call F_flI75 2 k ls st σ = some r := by
  unfold s_fillI at h
  split at h
  · next v q rest =>
    split at h
    · next e0 =>
      split at h
      · next e1 =>
        show (match stOK rest 8 with
          | true => F_flI75 ρ σ [.inr (.inr (some q)), .inl v] (fun σ' v => match v with
            | some w => k ls (w :: rest) σ'
            | none => k ls rest σ')
          | false => none) = some r
        rw [e1]
        show (match Nat.beq q.1 75 with | true => k ls rest (g_fillI σ 75 q.2 v) | false => none) = some r
        rw [e0]
        exact h
      · cases h
    · cases h
  · cases h
theorem G_fillI75 {ρ : Type} {M : g_M} {ret : Rt ρ} {b pc nx : Nat} {k : Bk ρ} {idx : Nat} (hw : Cond.methodLink (mo M) idx y_flI ∈ lwG) (hmd : 2 ≤ md M) (hd : decode (g_mc M) pc = .ok (.invokestatic idx, 3)) (hn : pc + 3 = nx) (hk : g_Gd M ret b nx k) : g_Gd M ret b pc (s_fillI 75 k) := by
  subst hn
  intro ls st σ r h
  refine g_call_go h_flI75 (b0 := b) (Nat.le_of_eq (Nat.zero_add b)) hk (c_flI75 h) (fun p l e R s m args below meth c w C H locs lsA cells slots as rest σ' v h1 h2 h3 h4 h5 h6 h7 h8 h9 hM => ?_)
  obtain ⟨c1, c2, c3, c4, c5, c6, c7, c8, c9, ⟨c10, c11, c12, c13⟩, c14⟩ := C
  have hG : GoodIn lwG (Cond.code y_flI (g_mc M_flI) (ml M_flI) (mr M_flI) :: lwG) := by
    refine g_goodIn (fun x hx => ?_)
    rcases List.mem_cons.mp hx with rfl | q
    · exact wflI_code
    · exact q
  have cw := callB_of (R := R) (own := mo M) (rm := ({ frames := md M_flI, cells := 7 * me M_flI, slots := g_SL * me M_flI, locals := 40 * md M_flI } : Room)) 2 c7 hG rfl rfl rfl (c7 _ wfl_init) (c7 _ hw) ⟨by decide, by decide, by decide +kernel⟩ ⟨by show 1 + 1 ≤ _; omega, by show 8 + (4 + 11) + 40 * 1 ≤ _; omega⟩
  refine va_runS (As := as.map (g_vl w)) (rest := rest.map (g_vl w)) ⟨c1, c2, c3, c6, c7⟩ hM ⟨cw, c7 _ wflI_static⟩ ⟨g_blind w σ _, fun U hU hW => ⟨rfl, by rw [hU]; exact h4, va_K.moved hW.alike c8, by rw [hU]; exact g_Zs_to hW c14 h5.1 h5.2.1⟩⟩ rfl (by rw [List.length_map]; exact h2) h6.1 ?_ (lv_room (stOK_sum w rest 8 h3)) hd ⟨h8, h9⟩
  show st.map (g_vl w) = _
  rw [h1]
  simp [List.map_reverse]
noncomputable def F_flL27 : Fn := fun _ σ as k => match as with
  | [.inr (.inr (some q)), .inr (.inl v)] => (match Nat.beq q.1 27 with | true => k (g_fillL σ 27 q.2 v) none | false => none)
  | _ => none
theorem h_flL27 : g_Fn M_flL y_flL 2 F_flL27 := by
  intro l w hw σ as hlen hwf hok ρ k r e
  unfold F_flL27 at e
  split at e
  · next q v =>
    obtain ⟨a, g0⟩ := q
    split at e
    · next e0 =>
      cases Nat.eq_of_beq_eq_true e0
      refine ⟨_, _, e, Or.inl rfl, ?_⟩
      have h0 : g_flL σ 27 g0 0 v = σ := by
        unfold g_flL
        refine Prod.ext rfl (Prod.ext ?_ rfl)
        funext a b c
        show (if a = 27 ∧ b = g0 ∧ c < 0 then v else _) = _
        rw [if_neg (fun q => by have := q.2.2; omega)]
      have hl := l_flL27 σ g0 v FU 0 (by decide) (by decide)
      rw [h0] at hl
      refine g_entryR (σ1 := g_flL σ 27 g0 625 v) (ret := retV) (by decide) rfl hw hwf hok (Nat.le_of_ble_eq_true rfl) (E_flL27 σ g0 v _ hl) (fun σ2 v2 h => retV_inv h) (fun H hR => ?_) (fun h => h) rfl
      refine g_Rep_ext (σ := g_flL σ 27 g0 625 v) (fun k i s hs => ?_) (fun k i s hs => ?_) (fun _ _ _ => rfl) hR
      · rfl
      · show (if k = 27 ∧ i = g0 then v else σ.2.1 k i s) = (if k = 27 ∧ i = g0 ∧ s < 625 then v else σ.2.1 k i s)
        by_cases q : k = 27 ∧ i = g0
        · obtain ⟨rfl, rfl⟩ := q
          have hs2 : s < 625 := by
            rcases hs with hs | hs
            · cases hs
            · exact hs
          rw [if_pos ⟨rfl, rfl⟩, if_pos ⟨rfl, rfl, hs2⟩]
        · rw [if_neg q, if_neg (fun z => q ⟨z.1, z.2.1⟩)]
    · cases e
  · cases e
theorem c_flL27 {ρ : Type} {k : Bk ρ} {ls : Lc} {st : List PV} {σ : Sg} {r : ρ} (h : s_fillL 27 k ls st σ = some r) : s_call F_flL27 2 k ls st σ = some r := by
  unfold s_fillL at h
  split at h
  · next v q rest =>
    split at h
    · next e0 =>
      split at h
      · next e1 =>
        show (match stOK rest 8 with
          | true => F_flL27 ρ σ [.inr (.inr (some q)), .inr (.inl v)] (fun σ' v => match v with
            | some w => k ls (w :: rest) σ'
            | none => k ls rest σ')
          | false => none) = some r
        rw [e1]
        show (match Nat.beq q.1 27 with | true => k ls rest (g_fillL σ 27 q.2 v) | false => none) = some r
        rw [e0]
        exact h
      · cases h
    · cases h
  · cases h
theorem G_fillL27 {ρ : Type} {M : g_M} {ret : Rt ρ} {b pc nx : Nat} {k : Bk ρ} {idx : Nat} (hw : Cond.methodLink (mo M) idx y_flL ∈ lwG) (hmd : 2 ≤ md M) (hd : decode (g_mc M) pc = .ok (.invokestatic idx, 3)) (hn : pc + 3 = nx) (hk : g_Gd M ret b nx k) : g_Gd M ret b pc (s_fillL 27 k) := by
  subst hn
  intro ls st σ r h
  refine g_call_go h_flL27 (b0 := b) (Nat.le_of_eq (Nat.zero_add b)) hk (c_flL27 h) (fun p l e R s m args below meth c w C H locs lsA cells slots as rest σ' v h1 h2 h3 h4 h5 h6 h7 h8 h9 hM => ?_)
  obtain ⟨c1, c2, c3, c4, c5, c6, c7, c8, c9, ⟨c10, c11, c12, c13⟩, c14⟩ := C
  have hG : GoodIn lwG (Cond.code y_flL (g_mc M_flL) (ml M_flL) (mr M_flL) :: lwG) := by
    refine g_goodIn (fun x hx => ?_)
    rcases List.mem_cons.mp hx with rfl | q
    · exact wflL_code
    · exact q
  have cw := callB_of (R := R) (own := mo M) (rm := ({ frames := md M_flL, cells := 7 * me M_flL, slots := g_SL * me M_flL, locals := 40 * md M_flL } : Room)) 2 c7 hG rfl rfl rfl (c7 _ wfl_init) (c7 _ hw) ⟨by decide, by decide, by decide +kernel⟩ ⟨by show 1 + 1 ≤ _; omega, by show 8 + (5 + 11) + 40 * 1 ≤ _; omega⟩
  refine va_runS (As := as.map (g_vl w)) (rest := rest.map (g_vl w)) ⟨c1, c2, c3, c6, c7⟩ hM ⟨cw, c7 _ wflL_static⟩ ⟨g_blind w σ _, fun U hU hW => ⟨rfl, by rw [hU]; exact h4, va_K.moved hW.alike c8, by rw [hU]; exact g_Zs_to hW c14 h5.1 h5.2.1⟩⟩ rfl (by rw [List.length_map]; exact h2) h6.1 ?_ (lv_room (stOK_sum w rest 8 h3)) hd ⟨h8, h9⟩
  show st.map (g_vl w) = _
  rw [h1]
  simp [List.map_reverse]
noncomputable def F_flL40 : Fn := fun _ σ as k => match as with
  | [.inr (.inr (some q)), .inr (.inl v)] => (match Nat.beq q.1 40 with | true => k (g_fillL σ 40 q.2 v) none | false => none)
  | _ => none
theorem h_flL40 : g_Fn M_flL y_flL 2 F_flL40 := by
  intro l w hw σ as hlen hwf hok ρ k r e
  unfold F_flL40 at e
  split at e
  · next q v =>
    obtain ⟨a, g0⟩ := q
    split at e
    · next e0 =>
      cases Nat.eq_of_beq_eq_true e0
      refine ⟨_, _, e, Or.inl rfl, ?_⟩
      have h0 : g_flL σ 40 g0 0 v = σ := by
        unfold g_flL
        refine Prod.ext rfl (Prod.ext ?_ rfl)
        funext a b c
        show (if a = 40 ∧ b = g0 ∧ c < 0 then v else _) = _
        rw [if_neg (fun q => by have := q.2.2; omega)]
      have hl := l_flL40 σ g0 v FU 0 (by decide) (by decide)
      rw [h0] at hl
      refine g_entryR (σ1 := g_flL σ 40 g0 20 v) (ret := retV) (by decide) rfl hw hwf hok (Nat.le_of_ble_eq_true rfl) (E_flL40 σ g0 v _ hl) (fun σ2 v2 h => retV_inv h) (fun H hR => ?_) (fun h => h) rfl
      refine g_Rep_ext (σ := g_flL σ 40 g0 20 v) (fun k i s hs => ?_) (fun k i s hs => ?_) (fun _ _ _ => rfl) hR
      · rfl
      · show (if k = 40 ∧ i = g0 then v else σ.2.1 k i s) = (if k = 40 ∧ i = g0 ∧ s < 20 then v else σ.2.1 k i s)
        by_cases q : k = 40 ∧ i = g0
        · obtain ⟨rfl, rfl⟩ := q
          have hs2 : s < 20 := by
            rcases hs with hs | hs
            · cases hs
            · exact hs
          rw [if_pos ⟨rfl, rfl⟩, if_pos ⟨rfl, rfl, hs2⟩]
        · rw [if_neg q, if_neg (fun z => q ⟨z.1, z.2.1⟩)]
    · cases e
  · cases e
theorem c_flL40 {ρ : Type} {k : Bk ρ} {ls : Lc} {st : List PV} {σ : Sg} {r : ρ} (h : s_fillL 40 k ls st σ = some r) : s_call F_flL40 2 k ls st σ = some r := by
  unfold s_fillL at h
  split at h
  · next v q rest =>
    split at h
    · next e0 =>
      split at h
      · next e1 =>
        show (match stOK rest 8 with
          | true => F_flL40 ρ σ [.inr (.inr (some q)), .inr (.inl v)] (fun σ' v => match v with
            | some w => k ls (w :: rest) σ'
            | none => k ls rest σ')
          | false => none) = some r
        rw [e1]
        show (match Nat.beq q.1 40 with | true => k ls rest (g_fillL σ 40 q.2 v) | false => none) = some r
        rw [e0]
        exact h
      · cases h
    · cases h
  · cases h
theorem G_fillL40 {ρ : Type} {M : g_M} {ret : Rt ρ} {b pc nx : Nat} {k : Bk ρ} {idx : Nat} (hw : Cond.methodLink (mo M) idx y_flL ∈ lwG) (hmd : 2 ≤ md M) (hd : decode (g_mc M) pc = .ok (.invokestatic idx, 3)) (hn : pc + 3 = nx) (hk : g_Gd M ret b nx k) : g_Gd M ret b pc (s_fillL 40 k) := by
  subst hn
  intro ls st σ r h
  refine g_call_go h_flL40 (b0 := b) (Nat.le_of_eq (Nat.zero_add b)) hk (c_flL40 h) (fun p l e R s m args below meth c w C H locs lsA cells slots as rest σ' v h1 h2 h3 h4 h5 h6 h7 h8 h9 hM => ?_)
  obtain ⟨c1, c2, c3, c4, c5, c6, c7, c8, c9, ⟨c10, c11, c12, c13⟩, c14⟩ := C
  have hG : GoodIn lwG (Cond.code y_flL (g_mc M_flL) (ml M_flL) (mr M_flL) :: lwG) := by
    refine g_goodIn (fun x hx => ?_)
    rcases List.mem_cons.mp hx with rfl | q
    · exact wflL_code
    · exact q
  have cw := callB_of (R := R) (own := mo M) (rm := ({ frames := md M_flL, cells := 7 * me M_flL, slots := g_SL * me M_flL, locals := 40 * md M_flL } : Room)) 2 c7 hG rfl rfl rfl (c7 _ wfl_init) (c7 _ hw) ⟨by decide, by decide, by decide +kernel⟩ ⟨by show 1 + 1 ≤ _; omega, by show 8 + (5 + 11) + 40 * 1 ≤ _; omega⟩
  refine va_runS (As := as.map (g_vl w)) (rest := rest.map (g_vl w)) ⟨c1, c2, c3, c6, c7⟩ hM ⟨cw, c7 _ wflL_static⟩ ⟨g_blind w σ _, fun U hU hW => ⟨rfl, by rw [hU]; exact h4, va_K.moved hW.alike c8, by rw [hU]; exact g_Zs_to hW c14 h5.1 h5.2.1⟩⟩ rfl (by rw [List.length_map]; exact h2) h6.1 ?_ (lv_room (stOK_sum w rest 8 h3)) hd ⟨h8, h9⟩
  show st.map (g_vl w) = _
  rw [h1]
  simp [List.map_reverse]
