/-! CALLS: a method's contract, how a method is entered, how it is called -/
/-- what holds behind a method -/
def g_Po (M : g_M) (w : g_W) (σ σ' : Sg) (v : Option PV) : Array Value → State → Outcome → State → Prop := fun _ st o t => o = .returned (v.map (g_vl w)) ∧ g_Rep w σ' t.heap ∧ va_F (wA w) st t ∧ g_wf w σ' ∧ (∀ x, v = some x → g_ok w σ' x) ∧ g_nT σ ≤ g_nT σ' ∧ g_nT σ' ≤ g_nT σ + me M
def g_Mt (l : Launch) (y : MethodName) (M : g_M) (w : g_W) (σ : Sg) (as : List PV) (σ' : Sg) (v : Option PV) : Prop :=
  Met l y (Cond.code y (g_mc M) (ml M) (mr M) :: lwG) { frames := md M, cells := 7 * me M, slots := g_SL * me M, locals := 40 * md M }
    (va_Pc (as.map (g_vl w)) (fun U => g_Rep w σ U.heap ∧ va_K (wD w) vwCl (g_tys w) U ∧ g_Zs w U U.heap))
    (g_Po M w σ σ' v) (7 * me M) (g_SL * me M) (wA w)
/-- what F says of method y, it does: n arguments -/
def g_Ft (M : g_M) (y : MethodName) (n : Nat) (F : Fn) : Prop :=
  ∀ (l : Launch) (w : g_W), g_Wk w → ∀ (σ : Sg) (as : List PV), as.length = n → g_wf w σ → (∀ v ∈ as, g_ok w σ v) → ∀ (ρ : Type) (k : Sg → Option PV → Option ρ) (r : ρ), F ρ σ as k = some r →
    ∃ (σ' : Sg) (v : Option PV), k σ' v = some r ∧ g_Mt l y M w σ as σ' v
/-- the same, and it makes no texts, or just so many -/
def g_Fn (M : g_M) (y : MethodName) (n : Nat) (F : Fn) : Prop :=
  ∀ (l : Launch) (w : g_W), g_Wk w → ∀ (σ : Sg) (as : List PV), as.length = n → g_wf w σ → (∀ v ∈ as, g_ok w σ v) → ∀ (ρ : Type) (k : Sg → Option PV → Option ρ) (r : ρ), F ρ σ as k = some r →
    ∃ (σ' : Sg) (v : Option PV), k σ' v = some r ∧ (me M = 0 ∨ g_nT σ' = g_nT σ + me M) ∧ g_Mt l y M w σ as σ' v
theorem g_Fn_of {M : g_M} {y : MethodName} {n : Nat} {F : Fn} (h0 : me M = 0) (h : g_Ft M y n F) : g_Fn M y n F := by
  intro l w hw σ as hl hwf hok ρ k r e
  obtain ⟨σ', v, k1, k2⟩ := h l w hw σ as hl hwf hok ρ k r e
  exact ⟨σ', v, k1, Or.inl h0, k2⟩
theorem W.post {p : Program} {l : Launch} {e : Env} {R : Room} {s : State} {m : MethodId} {args : Array Value} {below : List Frame} {meth : Method} {c : Code} {H : Heap} {locs : List Loc} {cells slots : Nat} {Q Q' : State → Prop} {g : JFrame} (h : ∀ t, Q t → Q' t) (K : W p l e R s m args below meth c H locs cells slots Q g) : W p l e R s m args below meth c H locs cells slots Q' g := by
  intro T hT X
  obtain ⟨t, a, b⟩ := K T hT X
  exact ⟨t, a, h t b⟩
def g_al : List PV → Lc
  | [] => []
  | v :: t => match isL v with
    | true => some v :: none :: g_al t
    | false => some v :: g_al t
def g_loc (as : List PV) (n : Nat) : Lc := g_al as ++ List.replicate (n - (g_al as).length) none
theorem lget_app : ∀ (a b : Lc) (i : Nat), lget (a ++ b) i = if i < a.length then lget a i else lget b (i - a.length)
  | [], b, i => by simp
  | x :: t, b, 0 => by simp [lget]
  | x :: t, b, i + 1 => by
    have := lget_app t b i
    simp only [List.cons_append, lget, this, List.length_cons, Nat.add_lt_add_iff_right, Nat.add_sub_add_right]
theorem lget_rep : ∀ (n i : Nat), lget (List.replicate n none) i = none
  | 0, i => by cases i <;> rfl
  | n + 1, 0 => rfl
  | n + 1, i + 1 => by rw [List.replicate_succ]; exact lget_rep n i
theorem g_al_args (w : g_W) : ∀ (as : List PV) (o i : Nat) (v : PV), lget (g_al as) i = some v → (o + i, g_vl w v) ∈ lv_args o (as.map (g_vl w))
  | [], o, i, v, h => by simp [g_al, lget] at h
  | a :: t, o, i, v, h => by
    rw [List.map_cons]
    unfold lv_args
    cases e : isL a with
    | true =>
      have hc : (g_vl w a).category = 2 := by
        rcases a with x | x | x
        · cases e
        · rfl
        · cases e
      simp only [g_al, e] at h
      rw [if_pos hc]
      match i, h with
      | 0, h => cases h; exact List.mem_cons_self
      | 1, h => simp [lget] at h
      | i + 2, h =>
        have := g_al_args w t (o + 2) i v h
        rw [show o + (i + 2) = o + 2 + i by omega]
        exact List.mem_cons_of_mem _ this
    | false =>
      have hc : ¬ (g_vl w a).category = 2 := by rw [g_cat e]; decide
      simp only [g_al, e] at h
      rw [if_neg hc]
      match i, h with
      | 0, h => cases h; exact List.mem_cons_self
      | i + 1, h =>
        have := g_al_args w t (o + 1) i v h
        rw [show o + (i + 1) = o + 1 + i by omega]
        exact List.mem_cons_of_mem _ this
theorem g_al_len (w : g_W) : ∀ as : List PV, (lg_sl (as.map (g_vl w))).length = (g_al as).length
  | [] => rfl
  | a :: t => by
    have ih := g_al_len w t
    unfold lg_sl at ih ⊢
    rw [List.map_cons, List.flatMap_cons, List.length_append, ih]
    cases e : isL a with
    | true =>
      have hc : (g_vl w a).category = 2 := by
        rcases a with x | x | x
        · cases e
        · rfl
        · cases e
      simp only [g_al, e]
      rw [if_pos hc]
      simp only [List.length_cons, List.length_nil]
      omega
    | false =>
      have hc : ¬ (g_vl w a).category = 2 := by rw [g_cat e]; decide
      simp only [g_al, e]
      rw [if_neg hc]
      simp only [List.length_cons, List.length_nil]
      omega
theorem g_al_ok {w : g_W} {σ : Sg} : ∀ (as : List PV), (∀ v ∈ as, g_ok w σ v) → ∀ i v, lget (g_al as) i = some v → g_ok w σ v
  | [], _, i, v, h => by simp [g_al, lget] at h
  | a :: t, ha, i, v, h => by
    cases e : isL a with
    | true =>
      simp only [g_al, e] at h
      match i, h with
      | 0, h => cases h; exact ha _ List.mem_cons_self
      | 1, h => simp [lget] at h
      | i + 2, h => exact g_al_ok t (g_tl ha) i v h
    | false =>
      simp only [g_al, e] at h
      match i, h with
      | 0, h => cases h; exact ha _ List.mem_cons_self
      | i + 1, h => exact g_al_ok t (g_tl ha) i v h
theorem g_loc_get {as : List PV} {n i : Nat} {v : PV} (h : lget (g_loc as n) i = some v) : lget (g_al as) i = some v := by
  unfold g_loc at h
  rw [lget_app] at h
  by_cases q : i < (g_al as).length
  · rwa [if_pos q] at h
  · rw [if_neg q, lget_rep] at h; cases h
theorem g_entry {ρ : Type} {M : g_M} {y : MethodName} {ret : Rt ρ} {l : Launch} {w : g_W} {σ σ' : Sg} {as : List PV} {v : Option PV} {r : ρ} (hy : plainName y.cls = true) (hyc : y.cls = mo M) (hw : g_Wk w) (hwf : g_wf w σ) (has : ∀ v ∈ as, g_ok w σ v) (hlen : (g_al as).length ≤ ml M)
    (hGo : g_Go M ret (me M) 0 (g_loc as (ml M)) [] σ r) (hret : ∀ σ2 v2, ret σ2 v2 = some r → σ2 = σ' ∧ v2 = v) : g_Mt l y M w σ as σ' v := by
  refine Met.ofW (cc := g_mc M) (maxL := ml M) (ret := mr M) hy rfl ?_
  intro p e s m args below meth c s₁ B hml hv
  obtain ⟨rfl, hR, hK, hZ⟩ := hv
  have hts := atoms_spec (ws := Cond.code y (g_mc M) (ml M) (mr M) :: lwG) B.pre
  have hown : s.vm.findClass (mo M) = some m.cls := by rw [← hyc]; exact findClass_of_methodNamed B.named
  have hl := lv_entry (as.map (g_vl w)) (n := ml M) (by rw [g_al_len]; exact hlen)
  rw [lg_entry_eq]
  generalize (lg_sl (as.map (g_vl w)) ++ List.replicate (ml M - (lg_sl (as.map (g_vl w))).length) Slot.unset).toArray = lsA at hl ⊢
  have hL : g_Lv w (ml M) (g_loc as (ml M)) lsA := by
    refine ⟨hl.1, hl.2.1, ?_, fun i v hv => ?_⟩
    · unfold g_loc
      rw [List.length_append, List.length_replicate]
      omega
    · have := g_al_args w as 0 i v (g_loc_get hv)
      rw [Nat.zero_add] at this
      exact hl.2.2 _ this
  have C : g_Ctx M p l e ({ frames := md M, cells := 7 * me M, slots := g_SL * me M, locals := 40 * md M } : Room) s m (as.map (g_vl w)).toArray below meth c w :=
    ⟨B.exec, B.bytes, hml, B.returns, B.notSynchronized, hown, fun x hx => hts x (List.mem_cons_of_mem _ hx), hK, hw, ⟨Nat.le_refl _, Nat.le_refl _, rfl, rfl⟩, hZ⟩
  have K := hGo p l e _ s m _ below meth c w C (g_nT σ) s.heap [] lsA ⟨hR, va_S.rf, hL, fun i v hv => g_al_ok as has i v (g_loc_get hv), (fun v hv => by cases hv), hwf, Nat.le_refl _, Nat.le_refl _⟩
  rw [Nat.sub_self, Nat.mul_zero, Nat.mul_zero] at K
  refine W.post ?_ K
  rintro t ⟨o, h1, h2, ⟨σ2, v2, q1, q2, q3, q4, q5⟩, h4⟩
  obtain ⟨rfl, rfl⟩ := hret σ2 v2 q1
  exact ⟨o, h1, h2, ⟨q2, q3, q4, q5⟩, h4⟩
theorem stOK_sum (w : g_W) : ∀ (st : List PV) (n : Nat), stOK st n = true → ((st.map (g_vl w)).map fun v => v.category).sum ≤ n
  | [], n, _ => by simp
  | v :: t, n, h => by
    unfold stOK at h
    rw [List.map_cons, List.map_cons, List.sum_cons]
    split at h
    · next n' e =>
      have := stOK_sum w t n' h
      rw [g_cat e]
      omega
    · next n' e =>
      have := stOK_sum w t n' h
      have hc : (g_vl w v).category = 2 := by
        rcases v with x | x | x
        · cases e
        · rfl
        · cases e
      rw [hc]
      omega
    · cases h
theorem lwG_good {x : Cond} (h : x ∈ lwG) : goodWord x = true := (List.mem_filter.mp h).2
theorem g_goodIn {ws : List Cond} (h : ∀ x ∈ ws, x ∈ lwG) : GoodIn lwG ws := fun x hx => ⟨h x hx, good_of_word (lwG_good (h x hx))⟩
theorem popr_some : ∀ {n : Nat} {acc st as rest : List PV}, popr n acc st = some (as, rest) → ∃ xs : List PV, xs.length = n ∧ st = xs ++ rest ∧ as = xs.reverse ++ acc
  | 0, acc, st, as, rest, h => by cases h; exact ⟨[], rfl, rfl, rfl⟩
  | n + 1, acc, v :: st, as, rest, h => by
    obtain ⟨xs, h1, h2, h3⟩ := popr_some (n := n) h
    exact ⟨v :: xs, by simp [h1], by rw [h2]; rfl, by rw [h3]; simp⟩
  | n + 1, acc, [], as, rest, h => by cases h
theorem g_vo_mono {w : g_W} {σ σ' : Sg} (h : g_nT σ ≤ g_nT σ') {k i : Nat} (hv : g_vo w σ k i) : g_vo w σ' k i := by
  refine ⟨hv.1, ?_⟩
  have := hv.2
  unfold g_cnt at this ⊢
  cases e : g_tx k with
  | true => rw [e] at this; exact Nat.lt_of_lt_of_le this h
  | false => rw [e] at this; exact this
theorem g_ok_mono {w : g_W} {σ σ' : Sg} (h : g_nT σ ≤ g_nT σ') {v : PV} (hv : g_ok w σ v) : g_ok w σ' v := by
  rcases v with x | x | x
  · trivial
  · trivial
  · cases x with
    | none => trivial
    | some q => exact g_vo_mono h hv
/-- the words of a method that is called, by where they stand -/
def g_Cw (own : String) (idx : Nat) (M : g_M) (y : MethodName) (n : Nat) : Prop :=
  Cond.methodLink own idx y ∈ lwG ∧ Cond.code y (g_mc M) (ml M) (mr M) ∈ lwG ∧ Cond.initialized y.cls ∈ lwG ∧ ((y.cls ≠ "java/lang/invoke/MethodHandle" ∧ y.cls ≠ "java/lang/invoke/VarHandle") ∧ (parseMethodDescriptor y.desc).map (fun d => d.parameters.length) = some n)
section CallRows
variable {ρ : Type} {M : g_M} {ret : Rt ρ} {b b0 pc nx : Nat} {k : Bk ρ}
/-- behind a call: what the callee's contract gives, and the way on -/
theorem g_back {p : Program} {l : Launch} {e : Env} {R : Room} {s : State} {m : MethodId} {args : Array Value} {below : List Frame} {meth : Method} {c : Code} {w : g_W} {H : Heap} {locs : List Loc} {lsA : Array Slot} {cells slots g_mc' ms' : Nat} {Q : State → Prop} {st0 rest : List Value} {Mc : g_M} {σ σ' : Sg} {v : Option PV} {a : Array Value}
    (hr : va_Run p l e R s m args below meth c H locs cells slots g_mc' ms' (F0 m pc lsA st0) rest (g_Po Mc w σ σ' v a) (wA w)) (hS : va_S (wA w) s.heap H locs)
    (kk : ∀ (H1 : Heap) (locs1 : List Loc), g_Rep w σ' H1 → va_S (wA w) s.heap H1 locs1 → g_wf w σ' → (∀ x, v = some x → g_ok w σ' x) → g_nT σ ≤ g_nT σ' → g_nT σ' ≤ g_nT σ + me Mc → W p l e R s m args below meth c H1 locs1 (cells + g_mc') (slots + ms') Q (F0 m (pc + 3) lsA ((v.map (g_vl w)).toList ++ rest))) : W p l e R s m args below meth c H locs cells slots Q (F0 m pc lsA st0) := by
  intro T hT X
  obtain ⟨v', st₀, t, T', L, h0, X', hL, e1, e2, ⟨hv, hR1, ⟨hz, hkk⟩, p1, p2, p3, p4⟩, st⟩ := hr T hT X
  cases hv
  rw [h0] at hz hkk
  obtain ⟨t2, a1, b1⟩ := kk T'.heap (locs ++ L) (by rw [e1]; exact hR1)
    ⟨Nat.le_trans hS.1 (by rw [e1]; exact hz), fun q h1 h2 => by rw [e1, hkk q (Nat.lt_of_lt_of_le h1 hS.1) h2]; exact hS.2.1 q h1 h2, fun q hq => by
      rcases List.mem_append.mp hq with h | h
      · exact hS.2.2 q h
      · exact hL q h⟩ p1 p2 p3 p4 T' rfl X'
  exact ⟨t2, st t2 a1, b1⟩
theorem g_blind (w : g_W) (σ : Sg) (as : List PV) : FrameBlind (va_Pc (as.map (g_vl w)) (fun U => g_Rep w σ U.heap ∧ va_K (wD w) vwCl (g_tys w) U ∧ g_Zs w U U.heap)) := by
  intro a U g mk q
  obtain ⟨q0, qR, qK, qZ⟩ := q
  exact ⟨q0, qR, va_K.moved (u := U) (U := U.calling g mk a) (Vm.Alike.refl U.vm) qK, ⟨qZ.1, by
    obtain ⟨h1, h2, h3, h4, ⟨adV, h5⟩, h6, n1, n2, v, hc7, h7⟩ := qZ.2
    have ha := Vm.Alike.refl U.vm
    exact ⟨h1.moved ha, h2.moved ha, h3.moved ha, h4.same rfl, ⟨adV, h5.moved ha⟩, h6.moved ha, n1.same rfl rfl, n2.same rfl rfl, v, hc7, h7.moved ha⟩⟩⟩
theorem g_call_go {Mc : g_M} {y : MethodName} {F : Fn} {n : Nat} {ls : Lc} {st : List PV} {σ : Sg} {r : ρ} (hF : g_Fn Mc y n F) (hme : me Mc + b0 ≤ b) (hk : g_Gd M ret b0 (pc + 3) k) (h : s_call F n k ls st σ = some r)
    (row : ∀ (p : Program) (l : Launch) (e : Env) (R : Room) (s : State) (m : MethodId) (args : Array Value) (below : List Frame) (meth : Method) (c : Code) (w : g_W), g_Ctx M p l e R s m args below meth c w →
      ∀ (H : Heap) (locs : List Loc) (lsA : Array Slot) (cells slots : Nat) (as rest : List PV) (σ' : Sg) (v : Option PV), st = as.reverse ++ rest → as.length = n → stOK rest 8 = true → g_Rep w σ H → va_S (wA w) s.heap H locs → g_Lv w (ml M) ls lsA → (∀ x ∈ as, g_ok w σ x) → cells + 7 * me Mc ≤ R.cells → slots + g_SL * me Mc ≤ R.slots → g_Mt l y Mc w σ as σ' v →
      va_Run p l e R s m args below meth c H locs cells slots (7 * me Mc) (g_SL * me Mc) (F0 m pc lsA (st.map (g_vl w))) (rest.map (g_vl w)) (g_Po Mc w σ σ' v (as.map (g_vl w)).toArray) (wA w)) : g_Go M ret b pc ls st σ r := by
  unfold s_call at h
  split at h
  · next q hq =>
    obtain ⟨as, rest⟩ := q
    split at h
    · next hst =>
      obtain ⟨xs, x1, x2, x3⟩ := popr_some hq
      rw [List.append_nil] at x3
      intro p l e R s m args below meth c w C n0 H locs lsA hI
      obtain ⟨h1, h2, h3, h4, h5, h6, h7, h8⟩ := hI
      have C' := C
      obtain ⟨c1, c2, c3, c4, c5, c6, c7, c8, c9, ⟨c10, c11, c12, c13⟩, c14⟩ := C'
      have hst2 : st = as.reverse ++ rest := by rw [x3, List.reverse_reverse]; exact x2
      have hal : as.length = n := by rw [x3, List.length_reverse]; exact x1
      have hao : ∀ x ∈ as, g_ok w σ x := fun x hx => h5 x (by rw [hst2]; exact List.mem_append_left _ (List.mem_reverse.mpr hx))
      have hro : ∀ x ∈ rest, g_ok w σ x := fun x hx => h5 x (by rw [hst2]; exact List.mem_append_right _ hx)
      obtain ⟨σ', v, k1, k7, k6⟩ := hF l w c9 σ as hal h6 hao ρ _ r h
      have hb1 : 7 * (g_nT σ - n0) + 7 * me Mc ≤ 7 * me M := by omega
      have hb2 : g_SL * (g_nT σ - n0) + g_SL * me Mc ≤ g_SL * me M := by
        rw [← Nat.mul_add]
        exact Nat.mul_le_mul_left _ (by omega)
      refine g_back (a := (as.map (g_vl w)).toArray) (row p l e R s m args below meth c w C H locs lsA _ _ as rest σ' v hst2 hal hst h1 h2 h3 hao (by rw [c12]; exact hb1) (by rw [c13]; exact hb2) k6) h2 (fun H1 locs1 hR1 hS1 k2 k3 k4 k8 => ?_)
      have k5 : g_nT σ' = g_nT σ + me Mc := by omega
      have hlok : ∀ i x, lget ls i = some x → g_ok w σ' x := fun i x hx => g_ok_mono k4 (h4 i x hx)
      have hrok : ∀ x ∈ rest, g_ok w σ' x := fun x hx => g_ok_mono k4 (hro x hx)
      have hc1 : 7 * (g_nT σ - n0) + 7 * me Mc = 7 * (g_nT σ' - n0) := by omega
      have hc2 : g_SL * (g_nT σ - n0) + g_SL * me Mc = g_SL * (g_nT σ' - n0) := by rw [← Nat.mul_add]; congr 1; omega
      rw [hc1, hc2]
      cases v with
      | none => exact hk ls rest σ' r k1 p l e R s m args below meth c w C n0 H1 locs1 lsA ⟨hR1, hS1, h3, hlok, hrok, k2, by omega, by omega⟩
      | some x => exact hk ls (x :: rest) σ' r k1 p l e R s m args below meth c w C n0 H1 locs1 lsA ⟨hR1, hS1, h3, hlok, g_cs (k3 x rfl) hrok, k2, by omega, by omega⟩
    · cases h
  · cases h
/-- a method of an object -/
theorem G_callV {Mc : g_M} {y : MethodName} {F : Fn} {n idx ci : Nat} {T : u_T} (hF : g_Fn Mc y (n + 1) F) (hw : g_Cw (mo M) idx Mc y n) (hwi : Cond.instanceMethod y ∈ lwG ∧ Cond.selects y.cls y y ∈ lwG) (hc : vwCl[ci]? = some (y.cls, T, g_nf ci) ∧ Nat.blt ci 11 = true) (hmd : md Mc + 1 ≤ md M ∧ ml Mc ≤ 21) (hme : me Mc + b0 ≤ b)
    (hrec : ∀ ρ' σ as (k' : Sg → Option PV → Option ρ') r, F ρ' σ as k' = some r → ∃ i t, as = .inr (.inr (some (ci, i))) :: t)
    (hd : decode (g_mc M) pc = .ok (.invokevirtual idx, 3)) (hn : pc + 3 = nx) (hk : g_Gd M ret b0 nx k) : g_Gd M ret b pc (s_call F (n + 1) k) := by
  subst hn
  intro ls st σ r h
  have h' := h
  unfold s_call at h'
  split at h'
  · next q hq =>
    obtain ⟨as0, rest0⟩ := q
    split at h'
    · next hst =>
      obtain ⟨i, t, has0⟩ := hrec _ _ _ _ _ h'
      refine g_call_go hF hme hk h (fun p l e R s m args below meth c w C H locs lsA cells slots as rest σ' v h1 h2 h3 h4 h5 h6 h7 h8 h9 hM => ?_)
      obtain ⟨xs, x1, x2, x3⟩ := popr_some hq
      rw [List.append_nil] at x3
      have hass : as = as0 := by
        have e1 : as.reverse = as0.reverse := by
          rw [x3, List.reverse_reverse]
          have := h1.symm.trans x2
          exact (List.append_inj this (by rw [List.length_reverse, h2, x1])).1
        exact by rw [← List.reverse_reverse as, e1, List.reverse_reverse]
      subst hass
      subst has0
      obtain ⟨c1, c2, c3, c4, c5, c6, c7, c8, c9, ⟨c10, c11, c12, c13⟩, c14⟩ := C
      have hv : g_vo w σ ci i := h7 _ List.mem_cons_self
      have hP := g_one (by have := Nat.le_of_ble_eq_true hc.2; omega) h4 hv (g_cell_obj hc.2)
      have hG : GoodIn lwG (wsV (mo M) idx y.cls y (Cond.code y (g_mc Mc) (ml Mc) (mr Mc) :: lwG)) := by
        refine g_goodIn (fun x hx => ?_)
        rcases List.mem_append.mp hx with q | q
        · rcases List.mem_cons.mp q with rfl | q
          · exact hw.1
          · rcases List.mem_cons.mp q with rfl | q
            · exact hwi.1
            · rcases List.mem_cons.mp q with rfl | q
              · exact hwi.2
              · rcases List.mem_cons.mp q with rfl | q
                · exact hw.2.2.1
                · cases q
        · rcases List.mem_cons.mp q with rfl | q
          · exact hw.2.1
          · exact q
      have cw := cwV (R := R) (rm := ({ frames := md Mc, cells := 7 * me Mc, slots := g_SL * me Mc, locals := 40 * md Mc } : Room)) n c7 hG rfl rfl rfl ⟨rfl, hw.2.2.2.1.1, hw.2.2.2.1.2, hw.2.2.2.2⟩ ⟨by show md Mc + 1 ≤ _; omega, by show 8 + (ml Mc + 11) + 40 * md Mc ≤ _; omega⟩
      refine va_runV (C := y.cls) (As := t.map (g_vl w)) (b := wr w ci i) (rest := rest.map (g_vl w)) ⟨c1, c2, c3, c6, c7⟩ hM cw ⟨g_blind w σ _, ?_, fun U hU hW => ⟨rfl, by rw [hU]; exact h4, va_K.moved hW.alike c8, by rw [hU]; exact g_Zs_to hW c14 h5.1 h5.2.1⟩⟩ rfl (by rw [List.length_map]; simpa using h2) h6.1 ?_ (lv_room (stOK_sum w rest 8 h3)) hd ⟨h8, h9⟩
      · exact va_recv c8 hP hc.1 (q0 := 0) rfl
      · show st.map (g_vl w) = _
        rw [h1]
        simp [List.map_reverse, g_vl]
    · cases h'
  · cases h'
theorem G_callS {Mc : g_M} {y : MethodName} {F : Fn} {n idx : Nat} (hF : g_Fn Mc y n F) (hw : g_Cw (mo M) idx Mc y n) (hws : Cond.static y ∈ lwG) (hown : y.cls = mo M) (hmd : md Mc + 1 ≤ md M ∧ ml Mc ≤ 21) (hme : me Mc + b0 ≤ b)
    (hd : decode (g_mc M) pc = .ok (.invokestatic idx, 3)) (hn : pc + 3 = nx) (hk : g_Gd M ret b0 nx k) : g_Gd M ret b pc (s_call F n k) := by
  subst hn
  intro ls st σ r h
  refine g_call_go hF hme hk h (fun p l e R s m args below meth c w C H locs lsA cells slots as rest σ' v h1 h2 h3 h4 h5 h6 h7 h8 h9 hM => ?_)
  obtain ⟨c1, c2, c3, c4, c5, c6, c7, c8, c9, ⟨c10, c11, c12, c13⟩, c14⟩ := C
  have hG : GoodIn lwG (wsS (mo M) idx y (Cond.code y (g_mc Mc) (ml Mc) (mr Mc) :: lwG)) := by
    refine g_goodIn (fun x hx => ?_)
    rcases List.mem_append.mp hx with q | q
    · rcases List.mem_cons.mp q with rfl | q
      · exact hw.1
      · rcases List.mem_cons.mp q with rfl | q
        · exact hws
        · rcases List.mem_cons.mp q with rfl | q
          · rw [← hown]; exact hw.2.2.1
          · cases q
    · rcases List.mem_cons.mp q with rfl | q
      · exact hw.2.1
      · exact q
  have cw := cwS (R := R) (rm := ({ frames := md Mc, cells := 7 * me Mc, slots := g_SL * me Mc, locals := 40 * md Mc } : Room)) n c7 hG rfl rfl rfl ⟨hown, hw.2.2.2.1.1, hw.2.2.2.1.2, hw.2.2.2.2⟩ ⟨by show md Mc + 1 ≤ _; omega, by show 8 + (ml Mc + 11) + 40 * md Mc ≤ _; omega⟩
  refine va_runS (As := as.map (g_vl w)) (rest := rest.map (g_vl w)) ⟨c1, c2, c3, c6, c7⟩ hM cw ⟨g_blind w σ _, fun U hU hW => ⟨rfl, by rw [hU]; exact h4, va_K.moved hW.alike c8, by rw [hU]; exact g_Zs_to hW c14 h5.1 h5.2.1⟩⟩ rfl (by rw [List.length_map]; exact h2) h6.1 ?_ (lv_room (stOK_sum w rest 8 h3)) hd ⟨h8, h9⟩
  show st.map (g_vl w) = _
  rw [h1]
  simp [List.map_reverse]
/-- a nest mate's static method: clamp alone -/
theorem G_clamp {Mc : g_M} {y : MethodName} {F : Fn} {n : Nat} (hy : y = ⟨"GalleyRoom", "clamp", "(JI)I"⟩) (hF : g_Fn Mc y n F) (hw : Cond.code y (g_mc Mc) (ml Mc) (mr Mc) ∈ lwG ∧ Cond.initialized y.cls ∈ lwG ∧ (parseMethodDescriptor y.desc).map (fun d => d.parameters.length) = some n) (hws : Cond.static y ∈ lwG) (hown : mo M = "GalleyRoom$Line") (hmd : md Mc + 1 ≤ md M ∧ ml Mc ≤ 21) (hme : me Mc + b0 ≤ b)
    (hd : decode (g_mc M) pc = .ok (.invokestatic 82, 3)) (hn : pc + 3 = nx) (hk : g_Gd M ret b0 nx k) : g_Gd M ret b pc (s_call F n k) := by
  subst hn
  intro ls st σ r h
  refine g_call_go hF hme hk h (fun p l e R s m args below meth c w C H locs lsA cells slots as rest σ' v h1 h2 h3 h4 h5 h6 h7 h8 h9 hM => ?_)
  obtain ⟨c1, c2, c3, c4, c5, c6, c7, c8, c9, ⟨c10, c11, c12, c13⟩, c14⟩ := C
  have hZ := c14.2
  obtain ⟨z1, z2, z3, z4, z5, z6, n1, n2, z7⟩ := hZ
  have hG : GoodIn lwG (Cond.code y (g_mc Mc) (ml Mc) (mr Mc) :: lwG) := by
    refine g_goodIn (fun x hx => ?_)
    rcases List.mem_cons.mp hx with rfl | q
    · exact hw.1
    · exact q
  rw [hown] at c6
  rw [← hy] at n2
  have cw := va_cnB (R := R) (own := "GalleyRoom$Line") (rm := ({ frames := md Mc, cells := 7 * me Mc, slots := g_SL * me Mc, locals := 40 * md Mc } : Room)) n c7 hG rfl rfl rfl n2 (c7 _ hw.2.1) ⟨by rw [hy]; decide, by rw [hy]; decide, hw.2.2⟩ ⟨by show md Mc + 1 ≤ _; omega, by show 8 + (ml Mc + 11) + 40 * md Mc ≤ _; omega⟩
  refine va_runSN (As := as.map (g_vl w)) (rest := rest.map (g_vl w)) ⟨c1, c2, c3, c6, c7⟩ hM ⟨cw, c7 _ hws, trivial⟩ ⟨g_blind w σ _, fun U hU hW => ⟨rfl, by rw [hU]; exact h4, va_K.moved hW.alike c8, by rw [hU]; exact g_Zs_to hW c14 h5.1 h5.2.1⟩⟩ rfl (by rw [List.length_map]; exact h2) h6.1 ?_ (lv_room (stOK_sum w rest 8 h3)) hd ⟨h8, h9⟩
  show st.map (g_vl w) = _
  rw [h1]
  simp [List.map_reverse]
/-- statics' rows -/
theorem g_ref_inv {kd kx : Nat} {ls : Lc} {st : List PV} {σ : Sg} {r : ρ} (h : s_ref kd kx k ls st σ = some r) : ∃ i, lget ls 0 = some (.inr (.inr (some (kx, i)))) ∧ k ls (.inr (.inr (some (kd, 0))) :: st) σ = some r := by
  unfold s_ref at h
  split at h
  · next q e0 =>
    obtain ⟨a, i⟩ := q
    split at h
    · next e => cases Nat.eq_of_beq_eq_true e; exact ⟨i, e0, h⟩
    · cases h
  · cases h
theorem G_gets {kd kx idx : Nat} {nm : String} (hkd : (kd = 76 ∧ nm = "LEAST_TERM") ∨ (kd = 77 ∧ nm = "MOST_TERM") ∨ (kd = 78 ∧ nm = "TOLD_BY_FACT")) (hg : nth grpTbl 76 9 = nth grpTbl kx 8)
    (hw : Cond.fieldLink (mo M) idx "GalleyRoom" nm "[I" ∈ lwG ∨ (mo M = "GalleyRoom$Sheet" ∧ idx = 112 ∧ nm = "TOLD_BY_FACT")) (hd : decode (g_mc M) pc = .ok (.getstatic idx, 3)) (hn : pc + 3 = nx) (hk : g_Gd M ret b nx k) : g_Gd M ret b pc (s_ref kd kx k) := by
  subst hn
  intro ls st σ r h
  obtain ⟨ixx, hl0, h⟩ := g_ref_inv h
  intro p l e R s m args below meth c w C n0 H locs lsA hI
  obtain ⟨h1, h2, h3, h4, h5, h6⟩ := hI
  have C' := C
  obtain ⟨c1, c2, c3, c4, c5, c6, c7, c8, c9, c10, c14⟩ := C'
  have hZ := c14.2
  obtain ⟨z1, z2, z3, z4, z5, z6, n1, n2, z7⟩ := hZ
  have hx76 : wk w 76 = true := by
    have hv : g_vo w σ kx ixx := h4 _ _ hl0
    exact (c9.2.2 76 kx hg).trans hv.1
  have hgrp : wk w kd = true := by
    rcases hkd with ⟨rfl, -⟩ | ⟨rfl, -⟩ | ⟨rfl, -⟩
    · exact hx76
    · exact (c9.2.2 77 76 rfl).trans hx76
    · exact (c9.2.2 78 76 rfl).trans hx76
  have hvo : g_vo w σ kd 0 := by
    refine ⟨hgrp, ?_⟩
    rcases hkd with ⟨rfl, -⟩ | ⟨rfl, -⟩ | ⟨rfl, -⟩ <;> exact Nat.zero_lt_one
  have K := hk ls (.inr (.inr (some (kd, 0))) :: st) σ r h p l e R s m args below meth c w C n0 H locs lsA ⟨h1, h2, h3, h4, g_cs hvo h5, h6⟩
  have hz : va_Z "GalleyRoom" nm "[I" (.ref (wr w kd 0)) (wA w) s s.heap := by
    rcases hkd with ⟨rfl, rfl⟩ | ⟨rfl, rfl⟩ | ⟨rfl, rfl⟩
    · exact z1.1
    · exact z2.1
    · exact z3.1
  rcases hw with hw | ⟨q1, rfl, rfl⟩
  · exact va_gets c1 c2 hz h2 c6 (c7 _ hw) (fun x h => h) hd K
  · rw [q1] at c6
    exact va_getsN c1 c2 hz h2 c6 (n1.use rfl) (fun x h => h) hd K
/-- the text of words -/
theorem G_ldcS {kx : Nat} (hg : nth grpTbl 76 9 = nth grpTbl kx 8) (hown : mo M = "GalleyRoom$Reader") (hd : decode (g_mc M) pc = .ok (.ldc 79, 2)) (hn : pc + 2 = nx) (hk : g_Gd M ret b nx k) : g_Gd M ret b pc (s_ref 79 kx k) := by
  subst hn
  intro ls st σ r h
  obtain ⟨ixx, hl0, h⟩ := g_ref_inv h
  intro p l e R s m args below meth c w C n0 H locs lsA hI
  obtain ⟨h1, h2, h3, h4, h5, h6⟩ := hI
  have C' := C
  obtain ⟨c1, c2, c3, c4, c5, c6, c7, c8, c9, c10, c14⟩ := C'
  have hZ := c14.2
  obtain ⟨z1, z2, z3, z4, z5, z6, n1, n2, z7⟩ := hZ
  have hx79 : wk w 79 = true := by
    have hv : g_vo w σ kx ixx := h4 _ _ hl0
    exact (c9.2.2 79 76 rfl).trans ((c9.2.2 76 kx hg).trans hv.1)
  have hvo : g_vo w σ 79 0 := ⟨hx79, Nat.zero_lt_one⟩
  have K := hk ls (.inr (.inr (some (79, 0))) :: st) σ r h p l e R s m args below meth c w C n0 H locs lsA ⟨h1, h2, h3, h4, g_cs hvo h5, h6⟩
  rw [hown] at c6
  exact va_ldcS c1 c2 c6 z4 hd K
theorem g_m2_inv {f : Int32 → Int32 → Int32} {ls : Lc} {st : List PV} {σ : Sg} {r : ρ} (h : s_m2 f k ls st σ = some r) : ∃ y x rest, st = .inl y :: .inl x :: rest ∧ stOK rest 8 = true ∧ k ls (.inl (f x y) :: rest) σ = some r := by
  unfold s_m2 at h
  split at h
  · next y x rest =>
    split at h
    · next e => exact ⟨y, x, rest, rfl, e, h⟩
    · cases h
  · cases h
theorem g_lm2_inv {f : Int64 → Int64 → Int64} {ls : Lc} {st : List PV} {σ : Sg} {r : ρ} (h : s_lm2 f k ls st σ = some r) : ∃ y x rest, st = .inr (.inl y) :: .inr (.inl x) :: rest ∧ stOK rest 8 = true ∧ k ls (.inr (.inl (f x y)) :: rest) σ = some r := by
  unfold s_lm2 at h
  split at h
  · next y x rest =>
    split at h
    · next e => exact ⟨y, x, rest, rfl, e, h⟩
    · cases h
  · cases h
/-- a step of the stack alone that needs room -/
theorem g_stkR {ls : Lc} {st st' : List PV} {σ : Sg} {r : ρ} (hk : g_Gd M ret b nx k) (h : k ls st' σ = some r)
    (hok : ∀ w : g_W, (∀ v ∈ st, g_ok w σ v) → ∀ v ∈ st', g_ok w σ v)
    (row : ∀ (p : Program) (l : Launch) (e : Env) (R : Room) (s : State) (m : MethodId) (args : Array Value) (below : List Frame) (meth : Method) (c : Code) (w : g_W), g_Ctx M p l e R s m args below meth c w →
      ∀ (H : Heap) (locs : List Loc) (lsA : Array Slot) (cells slots : Nat) (Q : State → Prop), g_Lv w (ml M) ls lsA → cells ≤ R.cells → slots ≤ R.slots →
      W p l e R s m args below meth c H locs cells slots Q (F0 m nx lsA (st'.map (g_vl w))) → W p l e R s m args below meth c H locs cells slots Q (F0 m pc lsA (st.map (g_vl w)))) : g_Go M ret b pc ls st σ r := by
  intro p l e R s m args below meth c w C n0 H locs lsA hI
  obtain ⟨h1, h2, h3, h4, h5, h6, h7, h8⟩ := hI
  have C' := C
  obtain ⟨c1, c2, c3, c4, c5, c6, c7, c8, c9, ⟨c10, c11, c12, c13⟩, c14⟩ := C'
  exact row p l e R s m args below meth c w C H locs lsA _ _ _ h3 (by rw [c12]; omega) (by rw [c13]; exact Nat.mul_le_mul_left _ (by omega)) (hk ls st' σ r h p l e R s m args below meth c w C n0 H locs lsA ⟨h1, h2, h3, h4, hok w h5, h6, h7, h8⟩)
theorem G_max {idx : Nat} (hw : Cond.methodLink (mo M) idx Lib.Math.max.name ∈ lwG ∧ Cond.static Lib.Math.max.name ∈ lwG ∧ Cond.initialized "java/lang/Math" ∈ lwG ∧ Cond.code Lib.Math.max.name Lib.Math.max.code 2 (some .int) ∈ lwG) (hmd : 1 ≤ md M) (hd : decode (g_mc M) pc = .ok (.invokestatic idx, 3)) (hn : pc + 3 = nx) (hk : g_Gd M ret b nx k) : g_Gd M ret b pc (s_m2 g_max k) := by
  subst hn
  intro ls st σ r h
  obtain ⟨y, x, rest, rfl, hst, h'⟩ := g_m2_inv h
  refine g_stkR hk h' (fun w h => g_cs trivial (g_tl (g_tl h))) (fun p l e R s m args below meth c w C H locs lsA cells slots Q hL hc hs K => ?_)
  obtain ⟨c1, c2, c3, c4, c5, c6, c7, c8, c9, ⟨c10, c11, c12, c13⟩, c14⟩ := C
  have hsum := stOK_sum w rest 8 hst
  exact va_mmax c1 c2 (c3.trans hL.1.symm) c6 (c7 _ hw.1) (c7 _ hw.2.1) (c7 _ hw.2.2.1) (c7 _ hw.2.2.2) (by omega) (by omega) hc hs hd K
theorem G_min {idx : Nat} (hw : Cond.methodLink (mo M) idx Lib.Math.min.name ∈ lwG ∧ Cond.static Lib.Math.min.name ∈ lwG ∧ Cond.initialized "java/lang/Math" ∈ lwG ∧ Cond.code Lib.Math.min.name Lib.Math.min.code 2 (some .int) ∈ lwG) (hmd : 1 ≤ md M) (hd : decode (g_mc M) pc = .ok (.invokestatic idx, 3)) (hn : pc + 3 = nx) (hk : g_Gd M ret b nx k) : g_Gd M ret b pc (s_m2 g_min k) := by
  subst hn
  intro ls st σ r h
  obtain ⟨y, x, rest, rfl, hst, h'⟩ := g_m2_inv h
  refine g_stkR hk h' (fun w h => g_cs trivial (g_tl (g_tl h))) (fun p l e R s m args below meth c w C H locs lsA cells slots Q hL hc hs K => ?_)
  obtain ⟨c1, c2, c3, c4, c5, c6, c7, c8, c9, ⟨c10, c11, c12, c13⟩, c14⟩ := C
  have hsum := stOK_sum w rest 8 hst
  exact va_mmin c1 c2 (c3.trans hL.1.symm) c6 (c7 _ hw.1) (c7 _ hw.2.1) (c7 _ hw.2.2.1) (c7 _ hw.2.2.2) (by omega) (by omega) hc hs hd K
theorem G_lmax {idx : Nat} (hw : Cond.methodLink (mo M) idx Lib.MathLoose.max_long.x ∈ lwG ∧ Cond.static Lib.MathLoose.max_long.x ∈ lwG ∧ Cond.initialized "java/lang/Math" ∈ lwG ∧ Cond.code Lib.MathLoose.max_long.x Lib.MathLoose.max_long.code 4 (some .long) ∈ lwG) (hmd : 1 ≤ md M) (hd : decode (g_mc M) pc = .ok (.invokestatic idx, 3)) (hn : pc + 3 = nx) (hk : g_Gd M ret b nx k) : g_Gd M ret b pc (s_lm2 g_lmax k) := by
  subst hn
  intro ls st σ r h
  obtain ⟨y, x, rest, rfl, hst, h'⟩ := g_lm2_inv h
  refine g_stkR hk h' (fun w h => g_cs trivial (g_tl (g_tl h))) (fun p l e R s m args below meth c w C H locs lsA cells slots Q hL hc hs K => ?_)
  obtain ⟨c1, c2, c3, c4, c5, c6, c7, c8, c9, ⟨c10, c11, c12, c13⟩, c14⟩ := C
  have hsum := stOK_sum w rest 8 hst
  exact va_mmax_long c1 c2 (c3.trans hL.1.symm) c6 (c7 _ hw.1) (c7 _ hw.2.1) (c7 _ hw.2.2.1) (c7 _ hw.2.2.2) (by omega) (by omega) hc hs hd K
theorem G_lmin {idx : Nat} (hw : Cond.methodLink (mo M) idx Lib.MathLoose.min_long.x ∈ lwG ∧ Cond.static Lib.MathLoose.min_long.x ∈ lwG ∧ Cond.initialized "java/lang/Math" ∈ lwG ∧ Cond.code Lib.MathLoose.min_long.x Lib.MathLoose.min_long.code 4 (some .long) ∈ lwG) (hmd : 1 ≤ md M) (hd : decode (g_mc M) pc = .ok (.invokestatic idx, 3)) (hn : pc + 3 = nx) (hk : g_Gd M ret b nx k) : g_Gd M ret b pc (s_lm2 g_lmin k) := by
  subst hn
  intro ls st σ r h
  obtain ⟨y, x, rest, rfl, hst, h'⟩ := g_lm2_inv h
  refine g_stkR hk h' (fun w h => g_cs trivial (g_tl (g_tl h))) (fun p l e R s m args below meth c w C H locs lsA cells slots Q hL hc hs K => ?_)
  obtain ⟨c1, c2, c3, c4, c5, c6, c7, c8, c9, ⟨c10, c11, c12, c13⟩, c14⟩ := C
  have hsum := stOK_sum w rest 8 hst
  exact va_mmin_long c1 c2 (c3.trans hL.1.symm) c6 (c7 _ hw.1) (c7 _ hw.2.1) (c7 _ hw.2.2.1) (c7 _ hw.2.2.2) (by omega) (by omega) hc hs hd K
end CallRows
