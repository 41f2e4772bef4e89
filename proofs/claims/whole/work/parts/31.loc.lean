/-! LOCALS, SWITCHES, LABELS -/
theorem lget_lset : ∀ (ls : Lc) (n : Nat) (v : Option PV) (i : Nat), lget (lset ls n v) i = if i = n ∧ n < ls.length then v else lget ls i
  | [], n, v, i => by simp [lset, lget]
  | x :: t, 0, v, 0 => by simp [lset, lget]
  | x :: t, 0, v, i + 1 => by simp [lset, lget]
  | x :: t, n + 1, v, 0 => by simp [lset, lget]
  | x :: t, n + 1, v, i + 1 => by
    have h := lget_lset t n v i
    simp only [lset, lget, h, List.length_cons, Nat.add_right_cancel_iff, Nat.add_lt_add_iff_right]
theorem length_lset : ∀ (ls : Lc) (n : Nat) (v : Option PV), (lset ls n v).length = ls.length
  | [], _, _ => rfl
  | _ :: _, 0, _ => rfl
  | _ :: t, n + 1, v => by simp [lset, length_lset t n v]
theorem lget_lt : ∀ {ls : Lc} {n : Nat} {v : PV}, lget ls n = some v → n < ls.length
  | [], n, v, h => by simp [lget] at h
  | _ :: t, 0, v, h => by simp
  | _ :: t, n + 1, v, h => by
    have := lget_lt (ls := t) (n := n) (v := v) h
    simpa using this
def g_lvl (w : g_W) (ls : Lc) : List (Nat × Value) := (List.range ls.length).filterMap (fun i => (lget ls i).map (fun v => (i, g_vl w v)))
theorem g_lvl_has {w : g_W} {nL : Nat} {ls : Lc} {lsA : Array Slot} (h : g_Lv w nL ls lsA) : lv_has lsA nL (g_lvl w ls) := by
  refine ⟨h.1, h.2.1, fun q hq => ?_⟩
  obtain ⟨i, -, hi⟩ := List.mem_filterMap.mp hq
  cases e : lget ls i with
  | none => rw [e] at hi; cases hi
  | some v =>
    rw [e] at hi
    cases hi
    exact h.2.2.2 _ _ e
theorem g_lvl_mem {w : g_W} {ls : Lc} {i : Nat} {v : PV} (h : lget ls i = some v) : (i, g_vl w v) ∈ g_lvl w ls :=
  List.mem_filterMap.mpr ⟨i, List.mem_range.mpr (lget_lt h), by rw [h]; rfl⟩
theorem g_cat2 {w : g_W} {v : PV} (h : isJ (some v) = false) : ((g_vl w v).category == 2) = false := by
  rcases v with x | x | x
  · rfl
  · cases h
  · cases x <;> rfl
theorem g_Lv1 {w : g_W} {nL : Nat} {ls : Lc} {lsA ls' : Array Slot} {n : Nat} {x : PV} (h : g_Lv w nL ls lsA) (hb : lbef ls n = false)
    (hs : lv_has ls' nL ((n, g_vl w x) :: (g_lvl w ls).filter (fun q => !(q.1 == n) && !(q.1 + 1 == n && q.2.category == 2)))) : g_Lv w nL (lset ls n (some x)) ls' := by
  refine ⟨hs.1, hs.2.1, by rw [length_lset]; exact h.2.2.1, fun i v hv => ?_⟩
  rw [lget_lset] at hv
  refine hs.2.2 (i, g_vl w v) ?_
  by_cases hi : i = n ∧ n < ls.length
  · rw [if_pos hi] at hv
    cases hv
    obtain ⟨rfl, -⟩ := hi
    exact List.mem_cons_self
  · rw [if_neg hi] at hv
    have hlt := lget_lt hv
    have hne : i ≠ n := fun q => hi ⟨q, by omega⟩
    refine List.mem_cons_of_mem _ (List.mem_filter.mpr ⟨g_lvl_mem hv, ?_⟩)
    by_cases h1 : i + 1 = n
    · subst h1
      have hj : isJ (some v) = false := by
        have := hb
        unfold lbef at this
        simpa [hv] using this
      simp [g_cat2 (w := w) hj]
    · simp [hne, h1]
theorem g_Lv2 {w : g_W} {nL : Nat} {ls : Lc} {lsA ls' : Array Slot} {n : Nat} {x : PV} (h : g_Lv w nL ls lsA) (hb : lbef ls n = false) (hlt : n + 1 < nL)
    (hs : lv_has ls' nL ((n, g_vl w x) :: (g_lvl w ls).filter (fun q => !(q.1 == n) && (!(q.1 == n + 1) && !(q.1 + 1 == n && q.2.category == 2))))) : g_Lv w nL (lset (lset ls n (some x)) (n + 1) none) ls' := by
  refine ⟨hs.1, hs.2.1, by rw [length_lset, length_lset]; exact h.2.2.1, fun i v hv => ?_⟩
  rw [lget_lset, lget_lset, length_lset] at hv
  refine hs.2.2 (i, g_vl w v) ?_
  by_cases h2 : i = n + 1 ∧ n + 1 < ls.length
  · rw [if_pos h2] at hv; cases hv
  rw [if_neg h2] at hv
  by_cases hi : i = n ∧ n < ls.length
  · rw [if_pos hi] at hv
    cases hv
    obtain ⟨rfl, -⟩ := hi
    exact List.mem_cons_self
  · rw [if_neg hi] at hv
    have hlt2 := lget_lt hv
    have hne : i ≠ n := fun q => hi ⟨q, by omega⟩
    have hne2 : i ≠ n + 1 := fun q => h2 ⟨q, by omega⟩
    refine List.mem_cons_of_mem _ (List.mem_filter.mpr ⟨g_lvl_mem hv, ?_⟩)
    by_cases h1 : i + 1 = n
    · subst h1
      have hj : isJ (some v) = false := by
        have := hb
        unfold lbef at this
        simpa [hv] using this
      simp [g_cat2 (w := w) hj]
      omega
    · simp [hne, h1, hne2]
section Locals
variable {ρ : Type} {M : g_M} {ret : Rt ρ} {b pc nx : Nat} {k : Bk ρ}
theorem g_lok {w : g_W} {σ : Sg} {ls : Lc} {n : Nat} {x : Option PV} (h : ∀ n v, lget ls n = some v → g_ok w σ v) (hx : ∀ v, x = some v → g_ok w σ v) : ∀ i v, lget (lset ls n x) i = some v → g_ok w σ v := by
  intro i v hv
  rw [lget_lset] at hv
  by_cases hi : i = n ∧ n < ls.length
  · rw [if_pos hi] at hv; exact hx v hv
  · rw [if_neg hi] at hv; exact h i v hv
/-- a store of one word: by its row -/
theorem g_sto1 {ls : Lc} {rest : List PV} {σ : Sg} {r : ρ} {n : Nat} {x : PV} (hk : g_Gd M ret b nx k) (h : k (lset ls n (some x)) rest σ = some r) (hb : lbef ls n = false)
    (row : ∀ (p : Program) (l : Launch) (e : Env) (R : Room) (s : State) (m : MethodId) (args : Array Value) (below : List Frame) (meth : Method) (c : Code) (w : g_W), g_Ctx M p l e R s m args below meth c w →
      ∀ (H : Heap) (locs : List Loc) (lsA : Array Slot) (cells slots : Nat) (Q : State → Prop), lv_has lsA (ml M) (g_lvl w ls) →
      (∀ ls' : Array Slot, lv_has ls' (ml M) ((n, g_vl w x) :: (g_lvl w ls).filter (fun q => !(q.1 == n) && !(q.1 + 1 == n && q.2.category == 2))) → W p l e R s m args below meth c H locs cells slots Q (F0 m nx ls' (rest.map (g_vl w)))) → W p l e R s m args below meth c H locs cells slots Q (F0 m pc lsA ((x :: rest).map (g_vl w)))) : g_Go M ret b pc ls (x :: rest) σ r := by
  intro p l e R s m args below meth c w C n0 H locs lsA hI
  obtain ⟨h1, h2, h3, h4, h5, h6⟩ := hI
  refine row p l e R s m args below meth c w C H locs lsA _ _ _ (g_lvl_has h3) (fun ls' hs => ?_)
  exact hk _ _ σ r h p l e R s m args below meth c w C n0 H locs ls' ⟨h1, h2, g_Lv1 h3 hb hs, g_lok h4 (fun v hv => by cases hv; exact h5 _ List.mem_cons_self), g_tl h5, h6⟩
theorem g_stI_inv {n : Nat} {ls : Lc} {st : List PV} {σ : Sg} {r : ρ} (h : s_stI n k ls st σ = some r) : ∃ x rest, st = .inl x :: rest ∧ lbef ls n = false ∧ k (lset ls n (some (.inl x))) rest σ = some r := by
  unfold s_stI at h
  split at h
  · next x rest =>
    split at h
    · next e => exact ⟨x, rest, rfl, e, h⟩
    · cases h
  · cases h
theorem g_stA_inv {n : Nat} {ls : Lc} {st : List PV} {σ : Sg} {r : ρ} (h : s_stA n k ls st σ = some r) : ∃ x rest, st = .inr (.inr x) :: rest ∧ lbef ls n = false ∧ k (lset ls n (some (.inr (.inr x)))) rest σ = some r := by
  unfold s_stA at h
  split at h
  · next x rest =>
    split at h
    · next e => exact ⟨x, rest, rfl, e, h⟩
    · cases h
  · cases h
theorem g_stL_inv {n : Nat} {ls : Lc} {st : List PV} {σ : Sg} {r : ρ} (h : s_stL n k ls st σ = some r) : ∃ x rest, st = .inr (.inl x) :: rest ∧ lbef ls n = false ∧ k (lset (lset ls n (some (.inr (.inl x)))) (n + 1) none) rest σ = some r := by
  unfold s_stL at h
  split at h
  · next x rest =>
    split at h
    · next e => exact ⟨x, rest, rfl, e, h⟩
    · cases h
  · cases h
theorem G_stIn {n : Fin 4} {i : Nat} (hl : i < ml M) (hd : decode (g_mc M) pc = .ok (.istore_n n, 1)) (hi : (n : Nat) = i) (hn : pc + 1 = nx) (hk : g_Gd M ret b nx k) : g_Gd M ret b pc (s_stI i k) := by
  subst hn
  intro ls st σ r h
  obtain ⟨x, rest, rfl, hb, h⟩ := g_stI_inv h
  exact g_sto1 hk h hb (fun p l e R s m args below meth c w C H locs lsA cells slots Q hh K => lv_istore_n C.1 C.2.1 hd hi hh hl rfl K)
theorem G_stI {i : Nat} (hl : i < ml M) (hd : decode (g_mc M) pc = .ok (.istore i, 2)) (hn : pc + 2 = nx) (hk : g_Gd M ret b nx k) : g_Gd M ret b pc (s_stI i k) := by
  subst hn
  intro ls st σ r h
  obtain ⟨x, rest, rfl, hb, h⟩ := g_stI_inv h
  exact g_sto1 hk h hb (fun p l e R s m args below meth c w C H locs lsA cells slots Q hh K => lv_istore C.1 C.2.1 hd hh hl rfl K)
theorem G_stAn {n : Fin 4} {i : Nat} (hl : i < ml M) (hd : decode (g_mc M) pc = .ok (.astore_n n, 1)) (hi : (n : Nat) = i) (hn : pc + 1 = nx) (hk : g_Gd M ret b nx k) : g_Gd M ret b pc (s_stA i k) := by
  subst hn
  intro ls st σ r h
  obtain ⟨x, rest, rfl, hb, h⟩ := g_stA_inv h
  refine g_sto1 hk h hb (fun p l e R s m args below meth c w C H locs lsA cells slots Q hh K => ?_)
  cases x with
  | none => exact lv_astore_nN C.1 C.2.1 hd hi hh hl rfl K
  | some q => exact lv_astore_n C.1 C.2.1 hd hi hh hl rfl K
theorem G_stA {i : Nat} (hl : i < ml M) (hd : decode (g_mc M) pc = .ok (.astore i, 2)) (hn : pc + 2 = nx) (hk : g_Gd M ret b nx k) : g_Gd M ret b pc (s_stA i k) := by
  subst hn
  intro ls st σ r h
  obtain ⟨x, rest, rfl, hb, h⟩ := g_stA_inv h
  refine g_sto1 hk h hb (fun p l e R s m args below meth c w C H locs lsA cells slots Q hh K => ?_)
  cases x with
  | none => exact lv_astoreN C.1 C.2.1 hd hh hl rfl K
  | some q => exact lv_astore C.1 C.2.1 hd hh hl rfl K
theorem g_sto2 {ls : Lc} {rest : List PV} {σ : Sg} {r : ρ} {n : Nat} {x : PV} (hl : n + 1 < ml M) (hk : g_Gd M ret b nx k) (h : k (lset (lset ls n (some x)) (n + 1) none) rest σ = some r) (hb : lbef ls n = false)
    (row : ∀ (p : Program) (l : Launch) (e : Env) (R : Room) (s : State) (m : MethodId) (args : Array Value) (below : List Frame) (meth : Method) (c : Code) (w : g_W), g_Ctx M p l e R s m args below meth c w →
      ∀ (H : Heap) (locs : List Loc) (lsA : Array Slot) (cells slots : Nat) (Q : State → Prop), lv_has lsA (ml M) (g_lvl w ls) →
      (∀ ls' : Array Slot, lv_has ls' (ml M) ((n, g_vl w x) :: (g_lvl w ls).filter (fun q => !(q.1 == n) && (!(q.1 == n + 1) && !(q.1 + 1 == n && q.2.category == 2)))) → W p l e R s m args below meth c H locs cells slots Q (F0 m nx ls' (rest.map (g_vl w)))) → W p l e R s m args below meth c H locs cells slots Q (F0 m pc lsA ((x :: rest).map (g_vl w)))) : g_Go M ret b pc ls (x :: rest) σ r := by
  intro p l e R s m args below meth c w C n0 H locs lsA hI
  obtain ⟨h1, h2, h3, h4, h5, h6⟩ := hI
  refine row p l e R s m args below meth c w C H locs lsA _ _ _ (g_lvl_has h3) (fun ls' hs => ?_)
  exact hk _ _ σ r h p l e R s m args below meth c w C n0 H locs ls' ⟨h1, h2, g_Lv2 h3 hb hl hs, g_lok (g_lok h4 (fun v hv => by cases hv; exact h5 _ List.mem_cons_self)) (fun v hv => by cases hv), g_tl h5, h6⟩
theorem G_stLn {n : Fin 4} {i : Nat} (hl : i + 1 < ml M) (hd : decode (g_mc M) pc = .ok (.lstore_n n, 1)) (hi : (n : Nat) = i) (hn : pc + 1 = nx) (hk : g_Gd M ret b nx k) : g_Gd M ret b pc (s_stL i k) := by
  subst hn
  intro ls st σ r h
  obtain ⟨x, rest, rfl, hb, h⟩ := g_stL_inv h
  exact g_sto2 hl hk h hb (fun p l e R s m args below meth c w C H locs lsA cells slots Q hh K => lv_lstore_n C.1 C.2.1 hd hi hh hl rfl K)
theorem G_stL {i : Nat} (hl : i + 1 < ml M) (hd : decode (g_mc M) pc = .ok (.lstore i, 2)) (hn : pc + 2 = nx) (hk : g_Gd M ret b nx k) : g_Gd M ret b pc (s_stL i k) := by
  subst hn
  intro ls st σ r h
  obtain ⟨x, rest, rfl, hb, h⟩ := g_stL_inv h
  exact g_sto2 hl hk h hb (fun p l e R s m args below meth c w C H locs lsA cells slots Q hh K => lv_lstore C.1 C.2.1 hd hh hl rfl K)
theorem g_inc_bef {w : g_W} {nL : Nat} {ls : Lc} {lsA : Array Slot} {n : Nat} {x : Int32} (h : g_Lv w nL ls lsA) (hx : lget ls n = some (.inl x)) : lbef ls n = false := by
  cases n with
  | zero => rfl
  | succ n =>
    show isJ (lget ls n) = false
    cases e : lget ls n with
    | none => rfl
    | some v =>
      rcases v with y | y | y
      · rfl
      · have h1 := h.2.1.1 n _ (h.2.2.2 _ _ e) rfl
        rw [h.2.2.2 _ _ hx] at h1
        cases h1
      · cases y <;> rfl
theorem G_inc {i : Nat} {n : Int} {d : Int32} (hl : i < ml M) (hd : decode (g_mc M) pc = .ok (.iinc i n, 3)) (hv : Int32.ofInt n = d) (hn : pc + 3 = nx) (hk : g_Gd M ret b nx k) : g_Gd M ret b pc (s_inc i d k) := by
  subst hn
  subst hv
  intro ls st σ r h
  unfold s_inc at h
  split at h
  · next x e0 =>
    intro p l e R s m args below meth c w C n0 H locs lsA hI
    obtain ⟨h1, h2, h3, h4, h5, h6⟩ := hI
    have hh := g_lvl_has h3
    have hh2 : lv_has lsA (ml M) ((i, g_vl w (.inl x)) :: g_lvl w ls) := ⟨hh.1, hh.2.1, fun q hq => (List.mem_cons.mp hq).elim (fun e => by rw [e]; exact h3.2.2.2 _ _ e0) (hh.2.2 q)⟩
    refine lv_iinc C.1 C.2.1 hd hh2 (k := 0) rfl rfl hl rfl (fun ls' hs => ?_)
    refine hk _ _ σ r h p l e R s m args below meth c w C n0 H locs ls' ⟨h1, h2, g_Lv1 h3 (g_inc_bef h3 e0) ⟨hs.1, hs.2.1, fun q hq => hs.2.2 q ?_⟩, g_lok h4 (fun v hv => by cases hv; trivial), h5, h6⟩
    rcases List.mem_cons.mp hq with h | h
    · exact List.mem_cons.mpr (Or.inl h)
    · refine List.mem_cons_of_mem _ (List.mem_filter.mpr ⟨List.mem_cons_of_mem _ (List.mem_filter.mp h).1, (List.mem_filter.mp h).2⟩)
  · cases h
/-- a table of cases: what the machine does with it, case by case -/
theorem g_sw_go {cs : List (Int32 × Bk ρ)} {dB : Bk ρ} {x : Int32} {ls : Lc} {rest : List PV} {σ : Sg} {r : ρ} (h : swk cs dB x ls rest σ = some r) :
    (∃ q ∈ cs, x = q.1 ∧ q.2 ls rest σ = some r) ∨ ((∀ q ∈ cs, x ≠ q.1) ∧ dB ls rest σ = some r) := by
  induction cs with
  | nil => exact Or.inr ⟨fun q hq => (by cases hq), h⟩
  | cons a t ih =>
    rcases gif_some h with ⟨h1, h2⟩ | ⟨h1, h2⟩
    · exact Or.inl ⟨a, List.mem_cons_self, h1, h2⟩
    · rcases ih h2 with ⟨q, hq, h3⟩ | ⟨h3, h4⟩
      · exact Or.inl ⟨q, List.mem_cons_of_mem _ hq, h3⟩
      · exact Or.inr ⟨fun q hq => (List.mem_cons.mp hq).elim (fun e => e ▸ h1) (h3 q), h4⟩
/-- tg: the targets, a place each from lo on -/
theorem G_sw {cs : List (Int32 × Bk ρ)} {dB : Bk ρ} {dflt lo hi : Int} {offs : Array Int} {len td : Nat} (hd : decode (g_mc M) pc = .ok (.tableswitch dflt lo hi offs, len)) (htd : (pc : Int) + dflt = (td : Int))
    (hin : ∀ q ∈ cs, ∃ (off : Int) (tg : Nat), ¬ q.1.toInt < lo ∧ ¬ hi < q.1.toInt ∧ offs[(q.1.toInt - lo).toNat]? = some off ∧ (pc : Int) + off = (tg : Int) ∧ g_Gd M ret b tg q.2)
    (hall : ∀ x : Int32, (∀ q ∈ cs, x ≠ q.1) → x.toInt < lo ∨ hi < x.toInt) (hdB : g_Gd M ret b td dB) : g_Gd M ret b pc (s_sw cs dB) := by
  intro ls st σ r h
  unfold s_sw at h
  split at h
  · next x rest =>
    rcases g_sw_go h with ⟨q, hq, hx, h'⟩ | ⟨hne, h'⟩
    · obtain ⟨off, tg, h1, h2, h3, h4, h5⟩ := hin q hq
      subst hx
      exact g_stk h5 h' (fun w _ h => g_tl h) (fun p l e R s m args below meth c w C H locs lsA cells slots Q hl K => lv_tableIn C.1 C.2.1 hd h1 h2 h3 h4 K)
    · exact g_stk hdB h' (fun w _ h => g_tl h) (fun p l e R s m args below meth c w C H locs lsA cells slots Q hl K => lv_tableOut C.1 C.2.1 hd (hall x hne) htd K)
  · cases h
/-- fewer locals known: it is as good -/
theorem g_weak {ls ls0 : Lc} {st : List PV} {σ : Sg} {r : ρ} (h : g_Go M ret b pc ls0 st σ r) (hlen : ls0.length = ml M) (hs : ∀ n v, lget ls0 n = some v → lget ls n = some v) : g_Go M ret b pc ls st σ r := by
  intro p l e R s m args below meth c w C n0 H locs lsA hI
  obtain ⟨h1, h2, h3, h4, h5, h6⟩ := hI
  exact h p l e R s m args below meth c w C n0 H locs lsA ⟨h1, h2, ⟨h3.1, h3.2.1, hlen, fun n v hv => h3.2.2.2 n v (hs n v hv)⟩, fun n v hv => h4 n v (hs n v hv), h5, h6⟩
theorem g_more {b' : Nat} {B : Bk ρ} (h : g_Gd M ret b pc B) (hb : b ≤ b') : g_Gd M ret b' pc B := by
  intro ls st σ r e p l e' R s m args below meth c w C n0 H locs lsA hI
  obtain ⟨h1, h2, h3, h4, h5, h6, h7, h8⟩ := hI
  exact h ls st σ r e p l e' R s m args below meth c w C n0 H locs lsA ⟨h1, h2, h3, h4, h5, h6, h7, by omega⟩
/-- a label, its values taken place by place: what is known of the locals so far, and of the stack -/
def g_Lb (M : g_M) (ret : Rt ρ) (b pc : Nat) (fs : List (Nat × PV)) (ss : List PV) (B : Bk ρ) : Prop :=
  ∀ ls st σ r, (∀ q ∈ fs, lget ls q.1 = some q.2) → B ls st σ = some r → g_Go M ret b pc ls (ss ++ st) σ r
theorem Gp_I {n : Nat} {f : Int32 → Bk ρ} {fs : List (Nat × PV)} {ss : List PV} (h : ∀ x, g_Lb M ret b pc ((n, .inl x) :: fs) ss (f x)) : g_Lb M ret b pc fs ss (p_I n f) := by
  intro ls st σ r hf e
  unfold p_I at e
  split at e
  · next x e0 => exact h x ls st σ r (fun q hq => (List.mem_cons.mp hq).elim (fun a => a ▸ e0) (hf q)) e
  · cases e
theorem Gp_L {n : Nat} {f : Int64 → Bk ρ} {fs : List (Nat × PV)} {ss : List PV} (h : ∀ x, g_Lb M ret b pc ((n, .inr (.inl x)) :: fs) ss (f x)) : g_Lb M ret b pc fs ss (p_L n f) := by
  intro ls st σ r hf e
  unfold p_L at e
  split at e
  · next x e0 => exact h x ls st σ r (fun q hq => (List.mem_cons.mp hq).elim (fun a => a ▸ e0) (hf q)) e
  · cases e
theorem Gp_R {n kd : Nat} {f : Nat → Bk ρ} {fs : List (Nat × PV)} {ss : List PV} (h : ∀ x, g_Lb M ret b pc ((n, .inr (.inr (some (kd, x)))) :: fs) ss (f x)) : g_Lb M ret b pc fs ss (p_R n kd f) := by
  intro ls st σ r hf e
  unfold p_R at e
  split at e
  · next x e0 =>
    obtain ⟨a, i⟩ := x
    split at e
    · next e1 =>
      cases Nat.eq_of_beq_eq_true e1
      exact h i ls st σ r (fun q hq => (List.mem_cons.mp hq).elim (fun a => a ▸ e0) (hf q)) e
    · cases e
  · cases e
theorem Gp_C {n kd c : Nat} {f : Bk ρ} {fs : List (Nat × PV)} {ss : List PV} (h : g_Lb M ret b pc ((n, .inr (.inr (some (kd, c)))) :: fs) ss f) : g_Lb M ret b pc fs ss (p_C n kd c f) := by
  intro ls st σ r hf e
  unfold p_C at e
  split at e
  · next x e0 =>
    obtain ⟨a, i⟩ := x
    split at e
    · next e1 =>
      split at e
      · next e2 =>
        cases Nat.eq_of_beq_eq_true e1
        cases Nat.eq_of_beq_eq_true e2
        exact h ls st σ r (fun q hq => (List.mem_cons.mp hq).elim (fun a => a ▸ e0) (hf q)) e
      · cases e
    · cases e
  · cases e
theorem Gp_N {n : Nat} {f : Nat → Bk ρ} {fs : List (Nat × PV)} {ss : List PV} (h : ∀ x, g_Lb M ret b pc ((n, g_nt x) :: fs) ss (f x)) : g_Lb M ret b pc fs ss (p_N n f) := by
  intro ls st σ r hf e
  unfold p_N at e
  split at e
  · next e0 => exact h 0 ls st σ r (fun q hq => (List.mem_cons.mp hq).elim (fun a => a ▸ e0) (hf q)) e
  · next x e0 =>
    obtain ⟨a, i⟩ := x
    split at e
    · next e1 =>
      cases Nat.eq_of_beq_eq_true e1
      exact h (i + 1) ls st σ r (fun q hq => (List.mem_cons.mp hq).elim (fun a => a ▸ e0) (hf q)) e
    · cases e
  · cases e
theorem Gp_F {n : Nat} {f : Nat → Nat → Bk ρ} {fs : List (Nat × PV)} {ss : List PV} (h : ∀ x y, g_Lb M ret b pc ((n, .inr (.inr (some (x, y)))) :: fs) ss (f x y)) : g_Lb M ret b pc fs ss (p_F n f) := by
  intro ls st σ r hf e
  unfold p_F at e
  split at e
  · next x e0 => exact h x.1 x.2 ls st σ r (fun q hq => (List.mem_cons.mp hq).elim (fun a => a ▸ e0) (hf q)) e
  · cases e
theorem Gq_I {f : Int32 → Bk ρ} {fs : List (Nat × PV)} {ss : List PV} (h : ∀ x, g_Lb M ret b pc fs (ss ++ [.inl x]) (f x)) : g_Lb M ret b pc fs ss (q_I f) := by
  intro ls st σ r hf e
  unfold q_I at e
  split at e
  · next x rest =>
    have := h x ls rest σ r hf e
    rwa [List.append_assoc] at this
  · cases e
theorem Gq_L {f : Int64 → Bk ρ} {fs : List (Nat × PV)} {ss : List PV} (h : ∀ x, g_Lb M ret b pc fs (ss ++ [.inr (.inl x)]) (f x)) : g_Lb M ret b pc fs ss (q_L f) := by
  intro ls st σ r hf e
  unfold q_L at e
  split at e
  · next x rest =>
    have := h x ls rest σ r hf e
    rwa [List.append_assoc] at this
  · cases e
theorem Gq_R {kd : Nat} {f : Nat → Bk ρ} {fs : List (Nat × PV)} {ss : List PV} (h : ∀ x, g_Lb M ret b pc fs (ss ++ [.inr (.inr (some (kd, x)))]) (f x)) : g_Lb M ret b pc fs ss (q_R kd f) := by
  intro ls st σ r hf e
  unfold q_R at e
  split at e
  · next x rest =>
    obtain ⟨a, i⟩ := x
    split at e
    · next e1 =>
      cases Nat.eq_of_beq_eq_true e1
      have := h i ls rest σ r hf e
      rwa [List.append_assoc] at this
    · cases e
  · cases e
theorem Gq_C {kd c : Nat} {f : Bk ρ} {fs : List (Nat × PV)} {ss : List PV} (h : g_Lb M ret b pc fs (ss ++ [.inr (.inr (some (kd, c)))]) f) : g_Lb M ret b pc fs ss (q_C kd c f) := by
  intro ls st σ r hf e
  unfold q_C at e
  split at e
  · next x rest =>
    obtain ⟨a, i⟩ := x
    split at e
    · next e1 =>
      split at e
      · next e2 =>
        cases Nat.eq_of_beq_eq_true e1
        cases Nat.eq_of_beq_eq_true e2
        have := h ls rest σ r hf e
        rwa [List.append_assoc] at this
      · cases e
    · cases e
  · cases e
/-- the locals of which something is known, as a list -/
def g_look : List (Nat × PV) → Nat → Option PV
  | [], _ => none
  | q :: t, n => match Nat.beq q.1 n with
    | true => some q.2
    | false => g_look t n
def g_sp (fs : List (Nat × PV)) (n : Nat) : Nat → Lc
  | 0 => []
  | k + 1 => g_look fs n :: g_sp fs (n + 1) k
theorem g_sp_len (fs : List (Nat × PV)) : ∀ (k n : Nat), (g_sp fs n k).length = k
  | 0, _ => rfl
  | k + 1, n => by simp [g_sp, g_sp_len fs k (n + 1)]
theorem g_sp_get (fs : List (Nat × PV)) : ∀ (k n i : Nat) (v : PV), lget (g_sp fs n k) i = some v → g_look fs (n + i) = some v
  | 0, n, i, v, h => by simp [g_sp, lget] at h
  | k + 1, n, 0, v, h => h
  | k + 1, n, i + 1, v, h => by
    have := g_sp_get fs k (n + 1) i v h
    rwa [show n + 1 + i = n + (i + 1) by omega] at this
theorem g_look_mem {n : Nat} {v : PV} : ∀ {fs : List (Nat × PV)}, g_look fs n = some v → (n, v) ∈ fs
  | [], h => by cases h
  | q :: t, h => by
    obtain ⟨x, y⟩ := q
    unfold g_look at h
    split at h
    · next e =>
      cases h
      cases Nat.eq_of_beq_eq_true e
      exact List.mem_cons_self
    · exact List.mem_cons_of_mem _ (g_look_mem h)
theorem Gp_E {f : Sg → Option ρ} {fs : List (Nat × PV)} {ss : List PV} (h : ∀ σ r, f σ = some r → g_Go M ret b pc (g_sp fs 0 (ml M)) ss σ r) : g_Lb M ret b pc fs ss (p_E f) := by
  intro ls st σ r hf e
  unfold p_E at e
  split at e
  · rw [List.append_nil]
    refine g_weak (h σ r e) (g_sp_len _ _ _) (fun n v hv => ?_)
    have := g_sp_get fs _ _ _ _ hv
    rw [Nat.zero_add] at this
    exact hf _ (g_look_mem this)
  · cases e
theorem G_lbl {B : Bk ρ} (h : g_Lb M ret b pc [] [] B) : g_Gd M ret b pc B := by
  intro ls st σ r e
  exact h ls st σ r (fun q hq => by cases hq) e
end Locals
