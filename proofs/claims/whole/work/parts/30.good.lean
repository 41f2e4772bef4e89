def cntTbl : List Nat := [1, 6, 2, 2, 3, 1, 1, 1, 0, 1, 1, 1, 6, 6, 6, 6, 6, 6, 6, 2, 2, 2, 2, 3, 1, 1, 1, 1, 1, 1, 1, 0, 0, 0, 0, 0, 0, 1, 1, 1, 1, 1, 1, 1, 1, 1, 1, 1, 1, 1, 1, 1, 1, 1, 1, 1, 1, 1, 1, 1, 1, 1, 1, 1, 1, 1, 1, 1, 1, 1, 1, 1, 1, 1, 7, 2, 1, 1, 1, 1]
def grpTbl : List Nat := [0, 0, 0, 0, 0, 0, 0, 0, 0, 0, 1, 0, 0, 0, 0, 0, 0, 0, 0, 0, 0, 0, 0, 0, 0, 0, 0, 0, 0, 0, 0, 0, 0, 0, 0, 0, 0, 0, 0, 0, 0, 0, 1, 1, 1, 1, 1, 1, 1, 1, 1, 1, 1, 1, 1, 1, 1, 1, 1, 1, 1, 1, 1, 1, 1, 1, 1, 1, 1, 1, 1, 1, 1, 1, 0, 0, 0, 0, 0, 0]
/-- of a field: 0 int, 1 boolean, 2 long, 3 a fixed reference, 4 a moving one -/
def ftTbl : List (List Nat) := [[3, 3, 3, 3, 3, 3, 3, 0, 0],
  [3, 3, 3, 3, 3, 3, 3, 0, 0, 0, 0, 0, 0],
  [3, 3, 0, 0, 0, 0, 0, 1, 1],
  [3, 3, 3, 0],
  [3, 1],
  [3, 3, 3, 3, 3, 0],
  [3, 3, 3, 0, 0, 1, 0],
  [3, 4, 4, 3, 0],
  [3, 3, 3, 3, 3, 3, 0, 0, 1],
  [3, 3, 3, 3, 3, 3, 3, 3, 3, 3, 3, 3, 3, 0, 0, 0, 0],
  [0, 3, 3, 3, 3, 3, 0, 3, 0, 0, 1, 3, 3, 0, 0, 3, 3, 3, 0, 0, 0, 0, 3, 3, 0, 0, 0, 1, 3, 0, 0, 0, 0, 3, 2, 3, 0, 0, 0, 0, 0, 0, 3, 0, 3, 3, 0, 3, 3, 3, 3, 3, 3, 3, 3, 3, 3, 3, 0, 0, 0, 0, 1, 1, 3, 3, 0, 0]]
/-! WHAT THE PURE MACHINE MEANS: a world (class numbers, array classes, addresses, what may be written, which kinds, the heap's size by how many texts there are) -/
abbrev g_W : Type := va_G × (Nat → ClassId) × (Nat → Nat → Nat) × (Nat → Prop) × (Nat → Bool) × (Nat → Nat)
abbrev wD (w : g_W) : va_G := w.1
abbrev wC (w : g_W) : Nat → ClassId := w.2.1
abbrev wr (w : g_W) : Nat → Nat → Nat := w.2.2.1
abbrev wA (w : g_W) : Nat → Prop := w.2.2.2.1
abbrev wk (w : g_W) : Nat → Bool := w.2.2.2.2.1
abbrev wz (w : g_W) : Nat → Nat := w.2.2.2.2.2
def g_nT (σ : Sg) : Nat := rN σ 79 0 0
def g_tx (k : Nat) : Bool := Nat.beq k 8 || (Nat.ble 31 k && Nat.ble k 36)
def g_cnt (σ : Sg) (k : Nat) : Nat := bif g_tx k then g_nT σ else nth cntTbl k 0
def g_vo (w : g_W) (σ : Sg) (k i : Nat) : Prop := wk w k = true ∧ i < g_cnt σ k
def g_sv (w : g_W) (k i : Nat) : Prop := wk w k = true ∧ (g_tx k = true ∨ i < nth cntTbl k 0)
def g_ok (w : g_W) (σ : Sg) (v : PV) : Prop := match v with
  | .inr (.inr (some q)) => g_vo w σ q.1 q.2
  | _ => True
def g_vl (w : g_W) (v : PV) : Value := match v with
  | .inl n => .int n
  | .inr (.inl n) => .long n
  | .inr (.inr none) => .null
  | .inr (.inr (some q)) => .ref (wr w q.1 q.2)
def g_ft (k s : Nat) : Nat := nth (nth ftTbl k []) s 9
def g_nf (k : Nat) : Nat := (nth ftTbl k []).length
def g_fv (w : g_W) (σ : Sg) (k i s : Nat) : Value := match g_ft k s with
  | 0 => .int (rI σ k i s)
  | 1 => .int (rI σ k i s)
  | 2 => .long (rL σ k i s)
  | 3 => .ref (wr w (g_rf k s i).1 (g_rf k s i).2)
  | _ => .ref (wr w 75 (rN σ k i s))
def g_obj (w : g_W) (σ : Sg) (k i : Nat) : List Value := (List.range (g_nf k)).map (g_fv w σ k i)
def g_con (w : g_W) (σ : Sg) (k i : Nat) : (Nat → Int32) ⊕ (Nat → Int64) ⊕ (Nat → UInt32) ⊕ (Nat → UInt64) ⊕ (Nat → Option Nat) := match g_ety k with
  | 3 => .inr (.inl (rL σ k i))
  | 4 => .inr (.inr (.inr (.inr (fun s => match rN σ k i s with
    | 0 => none
    | t + 1 => some (wr w 8 t)))))
  | 5 => .inr (.inr (.inr (.inr (fun s => some (wr w 1 (3 + s))))))
  | 6 => .inr (.inr (.inr (.inr (fun s => some (wr w 74 s)))))
  | _ => .inl (rI σ k i)
def g_cell (w : g_W) (σ : Sg) (k i : Nat) : va_E := match Nat.blt k 11 with
  | true => .inr (k, g_obj w σ k i)
  | false => .inl (wC w (g_ety k), (aln σ k i, g_con w σ k i))
def g_tys (w : g_W) : List (ClassId × FieldType) := [(wC w 0, .int), (wC w 1, .byte), (wC w 2, .boolean), (wC w 3, .long), (wC w 4, .object "GalleyRoom$Text"), (wC w 5, .object "GalleyRoom$Galley"), (wC w 6, .array .int)]
/-- the rows of the statics: what they hold -/
def g_xT (k j : Nat) : Int32 := nth (nth [[0, 0, 0, 10], [999, 10, 9, 60], [1, 3, 4, 2]] (k - 76) []) j 0
def g_Rep (w : g_W) (σ : Sg) (H : Heap) : Prop := H.size = wz w (g_nT σ) ∧ (∀ k i, k < 76 → g_vo w σ k i → va_at (wD w) vwCl (wr w k i, g_cell w σ k i) H) ∧ ∀ k i, 76 ≤ k → k < 79 → g_vo w σ k i → ∀ j, j < 4 → rI σ k i j = g_xT k j
/-- what never changes of a world -/
def g_Wt (w : g_W) : Prop := wk w 8 = true → ∀ t, 1 ≤ t → wr w 8 t = wz w t ∧ (∀ j, j < 6 → wr w (31 + j) t = wz w t + 1 + j) ∧ wz w (t + 1) = wz w t + 7 ∧ ∀ q, wz w t ≤ q → wA w q
def g_Wk (w : g_W) : Prop :=
  ((∀ k i k' i', k < 76 → k' < 76 → g_sv w k i → g_sv w k' i' → wr w k i = wr w k' i' → k = k' ∧ i = i') ∧ g_Wt w) ∧
  (∀ k i, g_sv w k i → k < 76 → wA w (wr w k i)) ∧
  (∀ k k', nth grpTbl k 9 = nth grpTbl k' 8 → wk w k = wk w k')
/-- what holds of every state: a text of a law, a river's row is there -/
def g_wf (w : g_W) (σ : Sg) : Prop :=
  (wk w 8 = true → 1 ≤ g_nT σ) ∧ (∀ g i, g < 6 → i < 6 → rN σ 18 g i ≤ g_nT σ) ∧ (∀ s, rN σ 7 0 s < 2)
abbrev g_M : Type := String × ByteArray × Nat × Option FieldType × Nat × Nat
abbrev mo (M : g_M) : String := M.1
abbrev g_mc (M : g_M) : ByteArray := M.2.1
abbrev ml (M : g_M) : Nat := M.2.2.1
abbrev mr (M : g_M) : Option FieldType := M.2.2.2.1
abbrev md (M : g_M) : Nat := M.2.2.2.2.1
abbrev me (M : g_M) : Nat := M.2.2.2.2.2
def g_SL : Nat := 600
/-- statics' rows, the text of words: of the class's world alone -/
def g_wds : String := "costs pays bars end split swell pass to times if or and not line pieces short hyphen last kind mood proof done latest lines fit wide ends "
def g_Zt (nm : String) (k a : Nat) (A : Nat → Prop) (U : State) (H : Heap) : Prop := va_Z "GalleyRoom" nm "[I" (.ref a) A U H ∧ va_T .int a 4 (fun j => .int (g_xT k j)) A U H
theorem g_Zt.moved {nm : String} {k a : Nat} {A : Nat → Prop} {u U : State} {H : Heap} (hvm : u.vm.Alike U.vm) (h : g_Zt nm k a A u H) : g_Zt nm k a A U H := ⟨h.1.moved hvm, h.2.moved hvm⟩
theorem g_Zt.kept {nm : String} {k a : Nat} {A : Nat → Prop} {U : State} {H H1 : Heap} (h : g_Zt nm k a A U H) (hq : ∀ a : Nat, a < H.size → ¬ A a → H1[a]? = H[a]?) : g_Zt nm k a A U H1 := ⟨h.1.kept hq, h.2.kept hq⟩
theorem g_Zt.narrow {nm : String} {k a : Nat} {A B : Nat → Prop} {U : State} {H : Heap} (h : g_Zt nm k a A U H) (hAB : ∀ q, B q → A q) : g_Zt nm k a B U H := ⟨h.1.narrow hAB, h.2.narrow hAB⟩
def g_Zs (w : g_W) (U : State) (H : Heap) : Prop := (∀ k, 76 ≤ k → ∀ i, g_sv w k i → wr w k i < H.size ∧ ¬ wA w (wr w k i)) ∧ (
  g_Zt "LEAST_TERM" 76 (wr w 76 0) (wA w) U H ∧ g_Zt "MOST_TERM" 77 (wr w 77 0) (wA w) U H ∧ g_Zt "TOLD_BY_FACT" 78 (wr w 78 0) (wA w) U H ∧
  vk_R "GalleyRoom$Reader" 79 g_wds (wr w 79 0) U ∧ (∃ adV : Nat → Nat, vk_S 1 [g_strN] [g_str] (fun _ => wr w 79 0) adV (wA w) U H) ∧ va_Z "java/lang/String" "COMPACT_STRINGS" "Z" (.int 1) (wA w) U H ∧
  va_Nw (.fieldLinkNest "GalleyRoom$Sheet" 112 "GalleyRoom" "TOLD_BY_FACT" "[I" "GalleyRoom") U ∧ va_Nw (.methodLinkNest "GalleyRoom$Line" 82 ⟨"GalleyRoom", "clamp", "(JI)I"⟩ "GalleyRoom") U ∧
  ∃ v : Value, v.category = 1 ∧ va_Z "jdk/internal/util/Preconditions" "SIOOBE_FORMATTER" "Ljava/util/function/BiFunction;" v (wA w) U H)
theorem g_Zs_to {w : g_W} {s U : State} {H H1 : Heap} (hW : s.WarmedH U.vm) (h : g_Zs w s H) (hz : H.size ≤ H1.size) (hq : ∀ a : Nat, a < H.size → ¬ wA w a → H1[a]? = H[a]?) : g_Zs w U H1 := by
  refine ⟨fun k hk i hi => ⟨Nat.lt_of_lt_of_le (h.1 k hk i hi).1 hz, (h.1 k hk i hi).2⟩, ?_⟩
  obtain ⟨h1, h2, h3, h4, ⟨adV, h5⟩, h6, n1, n2, v, hc7, h7⟩ := h.2
  have ha := hW.alike
  exact ⟨(h1.moved ha).kept hq, (h2.moved ha).kept hq, (h3.moved ha).kept hq, h4.warm hW, ⟨adV, (h5.moved ha).kept hq⟩, (h6.moved ha).kept hq, n1.warmF hW, n2.warmM hW, v, hc7, (h7.moved ha).kept hq⟩
def g_Ctx (M : g_M) (p : Program) (l : Launch) (e : Env) (R : Room) (s : State) (m : MethodId) (args : Array Value) (below : List Frame) (meth : Method) (c : Code) (w : g_W) : Prop :=
  p.tables.exec = Jvm.exec ∧ c.code = g_mc M ∧ c.maxLocals = ml M ∧ meth.sig.returnType = mr M ∧ meth.locks = false ∧ s.vm.findClass (mo M) = some m.cls ∧ (∀ x ∈ lwG, x.before args s = true) ∧
  va_K (wD w) vwCl (g_tys w) s ∧ g_Wk w ∧ (md M ≤ R.frames ∧ 40 * md M ≤ R.locals ∧ R.cells = 7 * me M ∧ R.slots = g_SL * me M) ∧ g_Zs w s s.heap
def g_Lv (w : g_W) (nL : Nat) (ls : Lc) (lsA : Array Slot) : Prop := lsA.size = nL ∧ lv_wf lsA ∧ ls.length = nL ∧ ∀ n v, lget ls n = some v → lsA[n]? = some (.val (g_vl w v))
def g_In (M : g_M) (w : g_W) (n0 b : Nat) (s : State) (σ : Sg) (ls : Lc) (st : List PV) (H : Heap) (locs : List Loc) (lsA : Array Slot) : Prop :=
  g_Rep w σ H ∧ va_S (wA w) s.heap H locs ∧ g_Lv w (ml M) ls lsA ∧ (∀ n v, lget ls n = some v → g_ok w σ v) ∧ (∀ v ∈ st, g_ok w σ v) ∧ g_wf w σ ∧ n0 ≤ g_nT σ ∧ g_nT σ + b ≤ n0 + me M
def g_Q {ρ : Type} (M : g_M) (w : g_W) (ret : Rt ρ) (r : ρ) (n0 : Nat) (below : List Frame) (args : Array Value) (s : State) : State → Prop :=
  MQ below (fun _ s0 o t => ∃ (σ' : Sg) (v : Option PV), ret σ' v = some r ∧ o = .returned (v.map (g_vl w)) ∧ g_Rep w σ' t.heap ∧ va_F (wA w) s0 t ∧ g_wf w σ' ∧ (∀ x, v = some x → g_ok w σ' x) ∧ n0 ≤ g_nT σ' ∧ g_nT σ' ≤ n0 + me M) args s (7 * me M) (g_SL * me M) (wA w)
def g_Go {ρ : Type} (M : g_M) (ret : Rt ρ) (b pc : Nat) (ls : Lc) (st : List PV) (σ : Sg) (r : ρ) : Prop :=
  ∀ (p : Program) (l : Launch) (e : Env) (R : Room) (s : State) (m : MethodId) (args : Array Value) (below : List Frame) (meth : Method) (c : Code) (w : g_W), g_Ctx M p l e R s m args below meth c w →
  ∀ (n0 : Nat) (H : Heap) (locs : List Loc) (lsA : Array Slot), g_In M w n0 b s σ ls st H locs lsA →
    W p l e R s m args below meth c H locs (7 * (g_nT σ - n0)) (g_SL * (g_nT σ - n0)) (g_Q M w ret r n0 below args s) (F0 m pc lsA (st.map (g_vl w)))
def g_Gd {ρ : Type} (M : g_M) (ret : Rt ρ) (b pc : Nat) (B : Bk ρ) : Prop := ∀ ls st σ r, B ls st σ = some r → g_Go M ret b pc ls st σ r
theorem gif_some {ρ : Type} {p : Prop} {x y : Option ρ} {r : ρ} (h : gif p x y = some r) : (p ∧ x = some r) ∨ (¬ p ∧ y = some r) := by
  unfold gif at h
  by_cases hp : p
  · rw [if_pos hp] at h; exact Or.inl ⟨hp, h⟩
  · rw [if_neg hp] at h; exact Or.inr ⟨hp, h⟩
theorem gd_some {ρ : Type} {p : Prop} {x : Option ρ} {r : ρ} (h : gd p x = some r) : p ∧ x = some r := by
  unfold gd at h
  by_cases hp : p
  · rw [if_pos hp] at h; exact ⟨hp, h⟩
  · rw [if_neg hp] at h; cases h
section Plain
variable {ρ : Type} {M : g_M} {ret : Rt ρ} {b pc nx : Nat} {k : Bk ρ}
/-- a step that changes the stack alone -/
theorem g_stk {ls : Lc} {st st' : List PV} {σ : Sg} {r : ρ} (hk : g_Gd M ret b nx k) (h : k ls st' σ = some r)
    (hok : ∀ w : g_W, (∀ n v, lget ls n = some v → g_ok w σ v) → (∀ v ∈ st, g_ok w σ v) → ∀ v ∈ st', g_ok w σ v)
    (row : ∀ (p : Program) (l : Launch) (e : Env) (R : Room) (s : State) (m : MethodId) (args : Array Value) (below : List Frame) (meth : Method) (c : Code) (w : g_W), g_Ctx M p l e R s m args below meth c w →
      ∀ (H : Heap) (locs : List Loc) (lsA : Array Slot) (cells slots : Nat) (Q : State → Prop), g_Lv w (ml M) ls lsA →
      W p l e R s m args below meth c H locs cells slots Q (F0 m nx lsA (st'.map (g_vl w))) → W p l e R s m args below meth c H locs cells slots Q (F0 m pc lsA (st.map (g_vl w)))) : g_Go M ret b pc ls st σ r := by
  intro p l e R s m args below meth c w C n0 H locs lsA hI
  obtain ⟨h1, h2, h3, h4, h5, h6⟩ := hI
  exact row p l e R s m args below meth c w C H locs lsA _ _ _ h3 (hk ls st' σ r h p l e R s m args below meth c w C n0 H locs lsA ⟨h1, h2, h3, h4, hok w h4 h5, h6⟩)
theorem g_tl {w : g_W} {σ : Sg} {v : PV} {rest : List PV} (h : ∀ x ∈ v :: rest, g_ok w σ x) : ∀ x ∈ rest, g_ok w σ x := fun x hx => h x (List.mem_cons_of_mem _ hx)
theorem g_cs {w : g_W} {σ : Sg} {v : PV} {rest : List PV} (hv : g_ok w σ v) (h : ∀ x ∈ rest, g_ok w σ x) : ∀ x ∈ v :: rest, g_ok w σ x := fun x hx => (List.mem_cons.mp hx).elim (fun e => e ▸ hv) (h x)
theorem G_ic {n : Int} {v : Int32} (hd : decode (g_mc M) pc = .ok (.iconst n, 1)) (hv : Int32.ofInt n = v) (hn : pc + 1 = nx) (hk : g_Gd M ret b nx k) : g_Gd M ret b pc (s_ic v k) := by
  subst hn
  intro ls st σ r h
  exact g_stk hk h (fun w _ h => g_cs trivial h) (fun p l e R s m args below meth c w C H locs lsA cells slots Q hl K => lv_iconst C.1 C.2.1 hd hv K)
theorem G_bi {n : Int} {v : Int32} (hd : decode (g_mc M) pc = .ok (.bipush n, 2)) (hv : (Int8.ofInt n).toInt32 = v) (hn : pc + 2 = nx) (hk : g_Gd M ret b nx k) : g_Gd M ret b pc (s_ic v k) := by
  subst hn
  intro ls st σ r h
  exact g_stk hk h (fun w _ h => g_cs trivial h) (fun p l e R s m args below meth c w C H locs lsA cells slots Q hl K => lv_bipush C.1 C.2.1 hd hv K)
theorem G_si {n : Int} {v : Int32} (hd : decode (g_mc M) pc = .ok (.sipush n, 3)) (hv : (Int16.ofInt n).toInt32 = v) (hn : pc + 3 = nx) (hk : g_Gd M ret b nx k) : g_Gd M ret b pc (s_ic v k) := by
  subst hn
  intro ls st σ r h
  exact g_stk hk h (fun w _ h => g_cs trivial h) (fun p l e R s m args below meth c w C H locs lsA cells slots Q hl K => lv_sipush C.1 C.2.1 hd hv K)
theorem G_ldc {n : Nat} {v : Int32} (hw : Cond.constant (mo M) n v ∈ lwG) (hd : decode (g_mc M) pc = .ok (.ldc n, 2)) (hn : pc + 2 = nx) (hk : g_Gd M ret b nx k) : g_Gd M ret b pc (s_ic v k) := by
  subst hn
  intro ls st σ r h
  exact g_stk hk h (fun w _ h => g_cs trivial h) (fun p l e R s m args below meth c w C H locs lsA cells slots Q hl K => lv_ldc C.1 C.2.1 C.2.2.2.2.2.1 (C.2.2.2.2.2.2.1 _ hw) hd K)
theorem G_ldcw {n : Nat} {v : Int32} (hw : Cond.constant (mo M) n v ∈ lwG) (hd : decode (g_mc M) pc = .ok (.ldc_w n, 3)) (hn : pc + 3 = nx) (hk : g_Gd M ret b nx k) : g_Gd M ret b pc (s_ic v k) := by
  subst hn
  intro ls st σ r h
  exact g_stk hk h (fun w _ h => g_cs trivial h) (fun p l e R s m args below meth c w C H locs lsA cells slots Q hl K => lv_ldcw C.1 C.2.1 C.2.2.2.2.2.1 (C.2.2.2.2.2.2.1 _ hw) hd K)
theorem G_lc {n : Fin 2} {v : Int64} (hd : decode (g_mc M) pc = .ok (.lconst n, 1)) (hv : Int64.ofNat (n : Nat) = v) (hn : pc + 1 = nx) (hk : g_Gd M ret b nx k) : g_Gd M ret b pc (s_lc v k) := by
  subst hn
  intro ls st σ r h
  exact g_stk hk h (fun w _ h => g_cs trivial h) (fun p l e R s m args below meth c w C H locs lsA cells slots Q hl K => lv_lconst C.1 C.2.1 hd hv K)
theorem G_ldc2 {n : Nat} {v : Int64} (hw : Cond.constantLong (mo M) n v ∈ lwG) (hd : decode (g_mc M) pc = .ok (.ldc2_w n, 3)) (hn : pc + 3 = nx) (hk : g_Gd M ret b nx k) : g_Gd M ret b pc (s_lc v k) := by
  subst hn
  intro ls st σ r h
  exact g_stk hk h (fun w _ h => g_cs trivial h) (fun p l e R s m args below meth c w C H locs lsA cells slots Q hl K => lv_ldc2 C.1 C.2.1 C.2.2.2.2.2.1 (C.2.2.2.2.2.2.1 _ hw) hd K)
theorem G_null (hd : decode (g_mc M) pc = .ok (.aconst_null, 1)) (hn : pc + 1 = nx) (hk : g_Gd M ret b nx k) : g_Gd M ret b pc (s_null k) := by
  subst hn
  intro ls st σ r h
  exact g_stk hk h (fun w _ h => g_cs trivial h) (fun p l e R s m args below meth c w C H locs lsA cells slots Q hl K => lv_null C.1 C.2.1 hd K)
theorem g_ldI_inv {n : Nat} {ls : Lc} {st : List PV} {σ : Sg} {r : ρ} (h : s_ldI n k ls st σ = some r) : ∃ x, lget ls n = some (.inl x) ∧ k ls (.inl x :: st) σ = some r := by
  unfold s_ldI at h
  split at h
  · next x e => exact ⟨x, e, h⟩
  · cases h
theorem g_ldL_inv {n : Nat} {ls : Lc} {st : List PV} {σ : Sg} {r : ρ} (h : s_ldL n k ls st σ = some r) : ∃ x, lget ls n = some (.inr (.inl x)) ∧ k ls (.inr (.inl x) :: st) σ = some r := by
  unfold s_ldL at h
  split at h
  · next x e => exact ⟨x, e, h⟩
  · cases h
theorem g_ldA_inv {n : Nat} {ls : Lc} {st : List PV} {σ : Sg} {r : ρ} (h : s_ldA n k ls st σ = some r) : ∃ x, lget ls n = some (.inr (.inr x)) ∧ k ls (.inr (.inr x) :: st) σ = some r := by
  unfold s_ldA at h
  split at h
  · next x e => exact ⟨x, e, h⟩
  · cases h
theorem G_ldIn {n : Fin 4} {i : Nat} (hd : decode (g_mc M) pc = .ok (.iload_n n, 1)) (hi : (n : Nat) = i) (hn : pc + 1 = nx) (hk : g_Gd M ret b nx k) : g_Gd M ret b pc (s_ldI i k) := by
  subst hn
  intro ls st σ r h
  obtain ⟨x, e, h⟩ := g_ldI_inv h
  exact g_stk hk h (fun w _ h => g_cs trivial h) (fun p l e' R s m args below meth c w C H locs lsA cells slots Q hl K => lv_iload_n C.1 C.2.1 hd hi (hl.2.2.2 _ _ e) K)
theorem G_ldI {i : Nat} (hd : decode (g_mc M) pc = .ok (.iload i, 2)) (hn : pc + 2 = nx) (hk : g_Gd M ret b nx k) : g_Gd M ret b pc (s_ldI i k) := by
  subst hn
  intro ls st σ r h
  obtain ⟨x, e, h⟩ := g_ldI_inv h
  exact g_stk hk h (fun w _ h => g_cs trivial h) (fun p l e' R s m args below meth c w C H locs lsA cells slots Q hl K => lv_iload C.1 C.2.1 hd (hl.2.2.2 _ _ e) K)
theorem G_ldLn {n : Fin 4} {i : Nat} (hd : decode (g_mc M) pc = .ok (.lload_n n, 1)) (hi : (n : Nat) = i) (hn : pc + 1 = nx) (hk : g_Gd M ret b nx k) : g_Gd M ret b pc (s_ldL i k) := by
  subst hn
  intro ls st σ r h
  obtain ⟨x, e, h⟩ := g_ldL_inv h
  exact g_stk hk h (fun w _ h => g_cs trivial h) (fun p l e' R s m args below meth c w C H locs lsA cells slots Q hl K => lv_lload_n C.1 C.2.1 hd hi (hl.2.2.2 _ _ e) K)
theorem G_ldL {i : Nat} (hd : decode (g_mc M) pc = .ok (.lload i, 2)) (hn : pc + 2 = nx) (hk : g_Gd M ret b nx k) : g_Gd M ret b pc (s_ldL i k) := by
  subst hn
  intro ls st σ r h
  obtain ⟨x, e, h⟩ := g_ldL_inv h
  exact g_stk hk h (fun w _ h => g_cs trivial h) (fun p l e' R s m args below meth c w C H locs lsA cells slots Q hl K => lv_lload C.1 C.2.1 hd (hl.2.2.2 _ _ e) K)
theorem G_ldAn {n : Fin 4} {i : Nat} (hd : decode (g_mc M) pc = .ok (.aload_n n, 1)) (hi : (n : Nat) = i) (hn : pc + 1 = nx) (hk : g_Gd M ret b nx k) : g_Gd M ret b pc (s_ldA i k) := by
  subst hn
  intro ls st σ r h
  obtain ⟨x, e, h⟩ := g_ldA_inv h
  refine g_stk hk h (fun w hl h => g_cs (hl _ _ e) h) (fun p l e' R s m args below meth c w C H locs lsA cells slots Q hl K => ?_)
  have e1 := hl.2.2.2 _ _ e
  cases x with
  | none => exact lv_aload_nN C.1 C.2.1 hd hi e1 K
  | some q => exact lv_aload_n C.1 C.2.1 hd hi e1 K
theorem G_ldA {i : Nat} (hd : decode (g_mc M) pc = .ok (.aload i, 2)) (hn : pc + 2 = nx) (hk : g_Gd M ret b nx k) : g_Gd M ret b pc (s_ldA i k) := by
  subst hn
  intro ls st σ r h
  obtain ⟨x, e, h⟩ := g_ldA_inv h
  refine g_stk hk h (fun w hl h => g_cs (hl _ _ e) h) (fun p l e' R s m args below meth c w C H locs lsA cells slots Q hl K => ?_)
  have e1 := hl.2.2.2 _ _ e
  cases x with
  | none => exact lv_aloadN C.1 C.2.1 hd e1 K
  | some q => exact lv_aload C.1 C.2.1 hd e1 K
theorem g_bin_inv {f : Int32 → Int32 → Int32} {ls : Lc} {st : List PV} {σ : Sg} {r : ρ} (h : s_bin f k ls st σ = some r) : ∃ y x rest, st = .inl y :: .inl x :: rest ∧ k ls (.inl (f x y) :: rest) σ = some r := by
  unfold s_bin at h
  split at h
  · next y x rest => exact ⟨y, x, rest, rfl, h⟩
  · cases h

theorem g_lbin_inv {f : Int64 → Int64 → Int64} {ls : Lc} {st : List PV} {σ : Sg} {r : ρ} (h : s_lbin f k ls st σ = some r) : ∃ y x rest, st = .inr (.inl y) :: .inr (.inl x) :: rest ∧ k ls (.inr (.inl (f x y)) :: rest) σ = some r := by
  unfold s_lbin at h
  split at h
  · next y x rest => exact ⟨y, x, rest, rfl, h⟩
  · cases h

theorem g_div_inv {f : Int32 → Int32 → Int32} {ls : Lc} {st : List PV} {σ : Sg} {r : ρ} (h : s_div f k ls st σ = some r) : ∃ y x rest, st = .inl y :: .inl x :: rest ∧ ¬ y = 0 ∧ k ls (.inl (f x y) :: rest) σ = some r := by
  unfold s_div at h
  split at h
  · next y x rest => exact ⟨y, x, rest, rfl, gd_some h⟩
  · cases h

theorem g_ldivr_inv {f : Int64 → Int64 → Int64} {ls : Lc} {st : List PV} {σ : Sg} {r : ρ} (h : s_ldivr f k ls st σ = some r) : ∃ y x rest, st = .inr (.inl y) :: .inr (.inl x) :: rest ∧ ¬ y = 0 ∧ k ls (.inr (.inl (f x y)) :: rest) σ = some r := by
  unfold s_ldivr at h
  split at h
  · next y x rest => exact ⟨y, x, rest, rfl, gd_some h⟩
  · cases h

theorem g_lcmp_inv {ls : Lc} {st : List PV} {σ : Sg} {r : ρ} (h : s_lcmp k ls st σ = some r) : ∃ y x rest, st = .inr (.inl y) :: .inr (.inl x) :: rest ∧ k ls (.inl (lg_cmp x y) :: rest) σ = some r := by
  unfold s_lcmp at h
  split at h
  · next y x rest => exact ⟨y, x, rest, rfl, h⟩
  · cases h

theorem g_neg_inv {ls : Lc} {st : List PV} {σ : Sg} {r : ρ} (h : s_neg k ls st σ = some r) : ∃ x rest, st = .inl x :: rest ∧ k ls (.inl (-x) :: rest) σ = some r := by
  unfold s_neg at h
  split at h
  · next x rest => exact ⟨x, rest, rfl, h⟩
  · cases h

theorem g_i2l_inv {ls : Lc} {st : List PV} {σ : Sg} {r : ρ} (h : s_i2l k ls st σ = some r) : ∃ x rest, st = .inl x :: rest ∧ k ls (.inr (.inl x.toInt64) :: rest) σ = some r := by
  unfold s_i2l at h
  split at h
  · next x rest => exact ⟨x, rest, rfl, h⟩
  · cases h

theorem g_l2i_inv {ls : Lc} {st : List PV} {σ : Sg} {r : ρ} (h : s_l2i k ls st σ = some r) : ∃ x rest, st = .inr (.inl x) :: rest ∧ k ls (.inl x.toInt32 :: rest) σ = some r := by
  unfold s_l2i at h
  split at h
  · next x rest => exact ⟨x, rest, rfl, h⟩
  · cases h

theorem g_i2b_inv {ls : Lc} {st : List PV} {σ : Sg} {r : ρ} (h : s_i2b k ls st σ = some r) : ∃ x rest, st = .inl x :: rest ∧ k ls (.inl x.toInt8.toInt32 :: rest) σ = some r := by
  unfold s_i2b at h
  split at h
  · next x rest => exact ⟨x, rest, rfl, h⟩
  · cases h

theorem G_iadd (hd : decode (g_mc M) pc = .ok (.iadd, 1)) (hn : pc + 1 = nx) (hk : g_Gd M ret b nx k) : g_Gd M ret b pc (s_bin (fun x y => x + y) k) := by
  subst hn
  intro ls st σ r h
  obtain ⟨y, x, rest, rfl, h⟩ := g_bin_inv h
  exact g_stk hk h (fun w _ h => g_cs trivial (g_tl (g_tl h))) (fun p l e R s m args below meth c w C H locs lsA cells slots Q hl K => lv_iadd C.1 C.2.1 hd K)

theorem G_isub (hd : decode (g_mc M) pc = .ok (.isub, 1)) (hn : pc + 1 = nx) (hk : g_Gd M ret b nx k) : g_Gd M ret b pc (s_bin (fun x y => x - y) k) := by
  subst hn
  intro ls st σ r h
  obtain ⟨y, x, rest, rfl, h⟩ := g_bin_inv h
  exact g_stk hk h (fun w _ h => g_cs trivial (g_tl (g_tl h))) (fun p l e R s m args below meth c w C H locs lsA cells slots Q hl K => lv_isub C.1 C.2.1 hd K)

theorem G_imul (hd : decode (g_mc M) pc = .ok (.imul, 1)) (hn : pc + 1 = nx) (hk : g_Gd M ret b nx k) : g_Gd M ret b pc (s_bin (fun x y => x * y) k) := by
  subst hn
  intro ls st σ r h
  obtain ⟨y, x, rest, rfl, h⟩ := g_bin_inv h
  exact g_stk hk h (fun w _ h => g_cs trivial (g_tl (g_tl h))) (fun p l e R s m args below meth c w C H locs lsA cells slots Q hl K => lv_imul C.1 C.2.1 hd K)

theorem G_iand (hd : decode (g_mc M) pc = .ok (.iand, 1)) (hn : pc + 1 = nx) (hk : g_Gd M ret b nx k) : g_Gd M ret b pc (s_bin (fun x y => x &&& y) k) := by
  subst hn
  intro ls st σ r h
  obtain ⟨y, x, rest, rfl, h⟩ := g_bin_inv h
  exact g_stk hk h (fun w _ h => g_cs trivial (g_tl (g_tl h))) (fun p l e R s m args below meth c w C H locs lsA cells slots Q hl K => lv_iand C.1 C.2.1 hd K)

theorem G_ior (hd : decode (g_mc M) pc = .ok (.ior, 1)) (hn : pc + 1 = nx) (hk : g_Gd M ret b nx k) : g_Gd M ret b pc (s_bin (fun x y => x ||| y) k) := by
  subst hn
  intro ls st σ r h
  obtain ⟨y, x, rest, rfl, h⟩ := g_bin_inv h
  exact g_stk hk h (fun w _ h => g_cs trivial (g_tl (g_tl h))) (fun p l e R s m args below meth c w C H locs lsA cells slots Q hl K => lv_ior C.1 C.2.1 hd K)

theorem G_ixor (hd : decode (g_mc M) pc = .ok (.ixor, 1)) (hn : pc + 1 = nx) (hk : g_Gd M ret b nx k) : g_Gd M ret b pc (s_bin (fun x y => x ^^^ y) k) := by
  subst hn
  intro ls st σ r h
  obtain ⟨y, x, rest, rfl, h⟩ := g_bin_inv h
  exact g_stk hk h (fun w _ h => g_cs trivial (g_tl (g_tl h))) (fun p l e R s m args below meth c w C H locs lsA cells slots Q hl K => lv_ixor C.1 C.2.1 hd K)

theorem G_ishl (hd : decode (g_mc M) pc = .ok (.ishl, 1)) (hn : pc + 1 = nx) (hk : g_Gd M ret b nx k) : g_Gd M ret b pc (s_bin (fun x y => x <<< (y &&& 31)) k) := by
  subst hn
  intro ls st σ r h
  obtain ⟨y, x, rest, rfl, h⟩ := g_bin_inv h
  exact g_stk hk h (fun w _ h => g_cs trivial (g_tl (g_tl h))) (fun p l e R s m args below meth c w C H locs lsA cells slots Q hl K => lv_ishl C.1 C.2.1 hd K)

theorem G_ishr (hd : decode (g_mc M) pc = .ok (.ishr, 1)) (hn : pc + 1 = nx) (hk : g_Gd M ret b nx k) : g_Gd M ret b pc (s_bin (fun x y => x >>> (y &&& 31)) k) := by
  subst hn
  intro ls st σ r h
  obtain ⟨y, x, rest, rfl, h⟩ := g_bin_inv h
  exact g_stk hk h (fun w _ h => g_cs trivial (g_tl (g_tl h))) (fun p l e R s m args below meth c w C H locs lsA cells slots Q hl K => lv_ishr C.1 C.2.1 hd K)

theorem G_ladd (hd : decode (g_mc M) pc = .ok (.ladd, 1)) (hn : pc + 1 = nx) (hk : g_Gd M ret b nx k) : g_Gd M ret b pc (s_lbin (fun x y => x + y) k) := by
  subst hn
  intro ls st σ r h
  obtain ⟨y, x, rest, rfl, h⟩ := g_lbin_inv h
  exact g_stk hk h (fun w _ h => g_cs trivial (g_tl (g_tl h))) (fun p l e R s m args below meth c w C H locs lsA cells slots Q hl K => lv_ladd C.1 C.2.1 hd K)

theorem G_lsub (hd : decode (g_mc M) pc = .ok (.lsub, 1)) (hn : pc + 1 = nx) (hk : g_Gd M ret b nx k) : g_Gd M ret b pc (s_lbin (fun x y => x - y) k) := by
  subst hn
  intro ls st σ r h
  obtain ⟨y, x, rest, rfl, h⟩ := g_lbin_inv h
  exact g_stk hk h (fun w _ h => g_cs trivial (g_tl (g_tl h))) (fun p l e R s m args below meth c w C H locs lsA cells slots Q hl K => lv_lsub C.1 C.2.1 hd K)

theorem G_lmul (hd : decode (g_mc M) pc = .ok (.lmul, 1)) (hn : pc + 1 = nx) (hk : g_Gd M ret b nx k) : g_Gd M ret b pc (s_lbin (fun x y => x * y) k) := by
  subst hn
  intro ls st σ r h
  obtain ⟨y, x, rest, rfl, h⟩ := g_lbin_inv h
  exact g_stk hk h (fun w _ h => g_cs trivial (g_tl (g_tl h))) (fun p l e R s m args below meth c w C H locs lsA cells slots Q hl K => lv_lmul C.1 C.2.1 hd K)

theorem G_idiv (hd : decode (g_mc M) pc = .ok (.idiv, 1)) (hn : pc + 1 = nx) (hk : g_Gd M ret b nx k) : g_Gd M ret b pc (s_div (fun x y => x / y) k) := by
  subst hn
  intro ls st σ r h
  obtain ⟨y, x, rest, rfl, hy, h⟩ := g_div_inv h
  exact g_stk hk h (fun w _ h => g_cs trivial (g_tl (g_tl h))) (fun p l e R s m args below meth c w C H locs lsA cells slots Q hl K => lv_idiv C.1 C.2.1 hd hy K)

theorem G_irem (hd : decode (g_mc M) pc = .ok (.irem, 1)) (hn : pc + 1 = nx) (hk : g_Gd M ret b nx k) : g_Gd M ret b pc (s_div g_rem k) := by
  subst hn
  intro ls st σ r h
  obtain ⟨y, x, rest, rfl, hy, h⟩ := g_div_inv h
  exact g_stk hk h (fun w _ h => g_cs trivial (g_tl (g_tl h))) (fun p l e R s m args below meth c w C H locs lsA cells slots Q hl K => lv_irem C.1 C.2.1 hd hy K)

theorem G_ldiv (hd : decode (g_mc M) pc = .ok (.ldiv, 1)) (hn : pc + 1 = nx) (hk : g_Gd M ret b nx k) : g_Gd M ret b pc (s_ldivr (fun x y => x / y) k) := by
  subst hn
  intro ls st σ r h
  obtain ⟨y, x, rest, rfl, hy, h⟩ := g_ldivr_inv h
  exact g_stk hk h (fun w _ h => g_cs trivial (g_tl (g_tl h))) (fun p l e R s m args below meth c w C H locs lsA cells slots Q hl K => lv_ldiv C.1 C.2.1 hd hy K)

theorem G_lrem (hd : decode (g_mc M) pc = .ok (.lrem, 1)) (hn : pc + 1 = nx) (hk : g_Gd M ret b nx k) : g_Gd M ret b pc (s_ldivr g_lrem k) := by
  subst hn
  intro ls st σ r h
  obtain ⟨y, x, rest, rfl, hy, h⟩ := g_ldivr_inv h
  exact g_stk hk h (fun w _ h => g_cs trivial (g_tl (g_tl h))) (fun p l e R s m args below meth c w C H locs lsA cells slots Q hl K => lv_lrem C.1 C.2.1 hd hy K)

theorem G_lcmp (hd : decode (g_mc M) pc = .ok (.lcmp, 1)) (hn : pc + 1 = nx) (hk : g_Gd M ret b nx k) : g_Gd M ret b pc (s_lcmp k) := by
  subst hn
  intro ls st σ r h
  obtain ⟨y, x, rest, rfl, h⟩ := g_lcmp_inv h
  exact g_stk hk h (fun w _ h => g_cs trivial (g_tl (g_tl h))) (fun p l e R s m args below meth c w C H locs lsA cells slots Q hl K => W.lcmp C.1 C.2.1 hd K)

theorem G_neg (hd : decode (g_mc M) pc = .ok (.ineg, 1)) (hn : pc + 1 = nx) (hk : g_Gd M ret b nx k) : g_Gd M ret b pc (s_neg k) := by
  subst hn
  intro ls st σ r h
  obtain ⟨x, rest, rfl, h⟩ := g_neg_inv h
  exact g_stk hk h (fun w _ h => g_cs trivial (g_tl h)) (fun p l e R s m args below meth c w C H locs lsA cells slots Q hl K => lv_ineg C.1 C.2.1 hd K)

theorem G_i2l (hd : decode (g_mc M) pc = .ok (.i2l, 1)) (hn : pc + 1 = nx) (hk : g_Gd M ret b nx k) : g_Gd M ret b pc (s_i2l k) := by
  subst hn
  intro ls st σ r h
  obtain ⟨x, rest, rfl, h⟩ := g_i2l_inv h
  exact g_stk hk h (fun w _ h => g_cs trivial (g_tl h)) (fun p l e R s m args below meth c w C H locs lsA cells slots Q hl K => lv_i2l C.1 C.2.1 hd rfl K)

theorem G_l2i (hd : decode (g_mc M) pc = .ok (.l2i, 1)) (hn : pc + 1 = nx) (hk : g_Gd M ret b nx k) : g_Gd M ret b pc (s_l2i k) := by
  subst hn
  intro ls st σ r h
  obtain ⟨x, rest, rfl, h⟩ := g_l2i_inv h
  exact g_stk hk h (fun w _ h => g_cs trivial (g_tl h)) (fun p l e R s m args below meth c w C H locs lsA cells slots Q hl K => lv_l2i C.1 C.2.1 hd rfl K)

theorem G_i2b (hd : decode (g_mc M) pc = .ok (.i2b, 1)) (hn : pc + 1 = nx) (hk : g_Gd M ret b nx k) : g_Gd M ret b pc (s_i2b k) := by
  subst hn
  intro ls st σ r h
  obtain ⟨x, rest, rfl, h⟩ := g_i2b_inv h
  exact g_stk hk h (fun w _ h => g_cs trivial (g_tl h)) (fun p l e R s m args below meth c w C H locs lsA cells slots Q hl K => lv_i2b C.1 C.2.1 hd rfl K)

theorem g_cat {w : g_W} {v : PV} (h : isL v = false) : (g_vl w v).category = 1 := by
  rcases v with x | x | x
  · rfl
  · cases h
  · cases x <;> rfl
theorem G_dup (hd : decode (g_mc M) pc = .ok (.dup, 1)) (hn : pc + 1 = nx) (hk : g_Gd M ret b nx k) : g_Gd M ret b pc (s_dup k) := by
  subst hn
  intro ls st σ r h
  unfold s_dup at h
  split at h
  · next v rest =>
    split at h
    · next e =>
      have hv : isL v = false := by simpa using e
      exact g_stk hk h (fun w _ h => g_cs (h _ List.mem_cons_self) h) (fun p l e R s m args below meth c w C H locs lsA cells slots Q hl K => lv_dup C.1 C.2.1 hd (g_cat hv) K)
    · cases h
  · cases h
theorem G_dup2 (hd : decode (g_mc M) pc = .ok (.dup2, 1)) (hn : pc + 1 = nx) (hk : g_Gd M ret b nx k) : g_Gd M ret b pc (s_dup2 k) := by
  subst hn
  intro ls st σ r h
  unfold s_dup2 at h
  split at h
  · next v u rest =>
    split at h
    · next e =>
      split at h
      · next e2 =>
        have hv : isL v = false := by simpa using e
        have hu : isL u = false := by simpa using e2
        exact g_stk hk h (fun w _ h => g_cs (h _ List.mem_cons_self) (g_cs (g_tl h _ List.mem_cons_self) h)) (fun p l e R s m args below meth c w C H locs lsA cells slots Q hl K => lv_dup2_11 C.1 C.2.1 hd (g_cat hv) (g_cat hu) K)
      · cases h
    · cases h
  · cases h
theorem G_pop (hd : decode (g_mc M) pc = .ok (.pop, 1)) (hn : pc + 1 = nx) (hk : g_Gd M ret b nx k) : g_Gd M ret b pc (s_pop k) := by
  subst hn
  intro ls st σ r h
  unfold s_pop at h
  split at h
  · next v rest =>
    split at h
    · next e =>
      have hv : isL v = false := by simpa using e
      exact g_stk hk h (fun w _ h => g_tl h) (fun p l e R s m args below meth c w C H locs lsA cells slots Q hl K => lv_pop C.1 C.2.1 hd (g_cat hv) K)
    · cases h
  · cases h
theorem G_goto {off : Int} (hd : decode (g_mc M) pc = .ok (.goto off, 3)) (ht : (pc : Int) + off = (nx : Int)) (hk : g_Gd M ret b nx k) : g_Gd M ret b pc (s_goto k) := by
  intro ls st σ r h
  exact g_stk hk h (fun w _ h => h) (fun p l e R s m args below meth c w C H locs lsA cells slots Q hl K => lv_goto C.1 C.2.1 hd ht K)
theorem g_null0_inv {t f : Bk ρ} {ls : Lc} {st : List PV} {σ : Sg} {r : ρ} (h : s_null0 t f ls st σ = some r) : ∃ x rest, st = .inr (.inr x) :: rest ∧ ((x = none ∧ t ls rest σ = some r) ∨ (∃ q, x = some q ∧ f ls rest σ = some r)) := by
  unfold s_null0 at h
  split at h
  · next rest => exact ⟨none, rest, rfl, Or.inl ⟨rfl, h⟩⟩
  · next q rest => exact ⟨some q, rest, rfl, Or.inr ⟨q, rfl, h⟩⟩
  · cases h
theorem G_ifnull {t f : Bk ρ} {off : Int} {tg nf : Nat} (hd : decode (g_mc M) pc = .ok (.ifnull off, 3)) (ht : (pc : Int) + off = (tg : Int)) (hn : pc + 3 = nf) (h1 : g_Gd M ret b tg t) (h2 : g_Gd M ret b nf f) : g_Gd M ret b pc (s_null0 t f) := by
  subst hn
  intro ls st σ r h
  obtain ⟨x, rest, rfl, h | h⟩ := g_null0_inv h
  · obtain ⟨rfl, h⟩ := h
    exact g_stk h1 h (fun w _ h => g_tl h) (fun p l e R s m args below meth c w C H locs lsA cells slots Q hl K => lv_ifnullN C.1 C.2.1 hd ht K)
  · obtain ⟨q, rfl, h⟩ := h
    exact g_stk h2 h (fun w _ h => g_tl h) (fun p l e R s m args below meth c w C H locs lsA cells slots Q hl K => lv_ifnull C.1 C.2.1 hd K)
theorem G_ifnonnull {t f : Bk ρ} {off : Int} {tg nf : Nat} (hd : decode (g_mc M) pc = .ok (.ifnonnull off, 3)) (ht : (pc : Int) + off = (tg : Int)) (hn : pc + 3 = nf) (h1 : g_Gd M ret b nf t) (h2 : g_Gd M ret b tg f) : g_Gd M ret b pc (s_null0 t f) := by
  subst hn
  intro ls st σ r h
  obtain ⟨x, rest, rfl, h | h⟩ := g_null0_inv h
  · obtain ⟨rfl, h⟩ := h
    exact g_stk h1 h (fun w _ h => g_tl h) (fun p l e R s m args below meth c w C H locs lsA cells slots Q hl K => lv_ifnonnullN C.1 C.2.1 hd K)
  · obtain ⟨q, rfl, h⟩ := h
    exact g_stk h2 h (fun w _ h => g_tl h) (fun p l e R s m args below meth c w C H locs lsA cells slots Q hl K => lv_ifnonnull C.1 C.2.1 hd ht K)

theorem g_eq0_inv {t f : Bk ρ} {ls : Lc} {st : List PV} {σ : Sg} {r : ρ} (h : s_eq0 t f ls st σ = some r) : ∃ x rest, st = .inl x :: rest ∧ ((x = 0 ∧ t ls rest σ = some r) ∨ (¬ x = 0 ∧ f ls rest σ = some r)) := by
  unfold s_eq0 at h
  split at h
  · next x rest => exact ⟨x, rest, rfl, gif_some h⟩
  · cases h

theorem g_lt0_inv {t f : Bk ρ} {ls : Lc} {st : List PV} {σ : Sg} {r : ρ} (h : s_lt0 t f ls st σ = some r) : ∃ x rest, st = .inl x :: rest ∧ ((x < 0 ∧ t ls rest σ = some r) ∨ (¬ x < 0 ∧ f ls rest σ = some r)) := by
  unfold s_lt0 at h
  split at h
  · next x rest => exact ⟨x, rest, rfl, gif_some h⟩
  · cases h

theorem g_gt0_inv {t f : Bk ρ} {ls : Lc} {st : List PV} {σ : Sg} {r : ρ} (h : s_gt0 t f ls st σ = some r) : ∃ x rest, st = .inl x :: rest ∧ ((0 < x ∧ t ls rest σ = some r) ∨ (¬ 0 < x ∧ f ls rest σ = some r)) := by
  unfold s_gt0 at h
  split at h
  · next x rest => exact ⟨x, rest, rfl, gif_some h⟩
  · cases h

theorem g_ceq_inv {t f : Bk ρ} {ls : Lc} {st : List PV} {σ : Sg} {r : ρ} (h : s_ceq t f ls st σ = some r) : ∃ y x rest, st = .inl y :: .inl x :: rest ∧ ((x = y ∧ t ls rest σ = some r) ∨ (¬ x = y ∧ f ls rest σ = some r)) := by
  unfold s_ceq at h
  split at h
  · next y x rest => exact ⟨y, x, rest, rfl, gif_some h⟩
  · cases h

theorem g_clt_inv {t f : Bk ρ} {ls : Lc} {st : List PV} {σ : Sg} {r : ρ} (h : s_clt t f ls st σ = some r) : ∃ y x rest, st = .inl y :: .inl x :: rest ∧ ((x < y ∧ t ls rest σ = some r) ∨ (¬ x < y ∧ f ls rest σ = some r)) := by
  unfold s_clt at h
  split at h
  · next y x rest => exact ⟨y, x, rest, rfl, gif_some h⟩
  · cases h

theorem g_cgt_inv {t f : Bk ρ} {ls : Lc} {st : List PV} {σ : Sg} {r : ρ} (h : s_cgt t f ls st σ = some r) : ∃ y x rest, st = .inl y :: .inl x :: rest ∧ ((y < x ∧ t ls rest σ = some r) ∨ (¬ y < x ∧ f ls rest σ = some r)) := by
  unfold s_cgt at h
  split at h
  · next y x rest => exact ⟨y, x, rest, rfl, gif_some h⟩
  · cases h

theorem G_ifeq {t f : Bk ρ} {off : Int} {tg nf : Nat} (hd : decode (g_mc M) pc = .ok (.ifCond .eq off, 3)) (ht : (pc : Int) + off = (tg : Int)) (hn : pc + 3 = nf) (h1 : g_Gd M ret b tg t) (h2 : g_Gd M ret b (pc + 3) f) : g_Gd M ret b pc (s_eq0 t f) := by
  subst hn
  intro ls st σ r h
  obtain ⟨x, rest, rfl, h | h⟩ := g_eq0_inv h
  · obtain ⟨hp, h⟩ := h
    exact g_stk h1 h (fun w _ h => g_tl h) (fun p l e R s m args below meth c w C H locs lsA cells slots Q hl K => lv_if_eq C.1 C.2.1 hd ht (fun q => K) (fun q => absurd hp q))
  · obtain ⟨hp, h⟩ := h
    exact g_stk h2 h (fun w _ h => g_tl h) (fun p l e R s m args below meth c w C H locs lsA cells slots Q hl K => lv_if_eq C.1 C.2.1 hd ht (fun q => absurd q hp) (fun q => K))

theorem G_ifne {t f : Bk ρ} {off : Int} {tg nf : Nat} (hd : decode (g_mc M) pc = .ok (.ifCond .ne off, 3)) (ht : (pc : Int) + off = (tg : Int)) (hn : pc + 3 = nf) (h1 : g_Gd M ret b (pc + 3) t) (h2 : g_Gd M ret b tg f) : g_Gd M ret b pc (s_eq0 t f) := by
  subst hn
  intro ls st σ r h
  obtain ⟨x, rest, rfl, h | h⟩ := g_eq0_inv h
  · obtain ⟨hp, h⟩ := h
    exact g_stk h1 h (fun w _ h => g_tl h) (fun p l e R s m args below meth c w C H locs lsA cells slots Q hl K => lv_if_ne C.1 C.2.1 hd ht (fun q => absurd hp q) (fun q => K))
  · obtain ⟨hp, h⟩ := h
    exact g_stk h2 h (fun w _ h => g_tl h) (fun p l e R s m args below meth c w C H locs lsA cells slots Q hl K => lv_if_ne C.1 C.2.1 hd ht (fun q => K) (fun q => absurd q hp))

theorem G_iflt {t f : Bk ρ} {off : Int} {tg nf : Nat} (hd : decode (g_mc M) pc = .ok (.ifCond .lt off, 3)) (ht : (pc : Int) + off = (tg : Int)) (hn : pc + 3 = nf) (h1 : g_Gd M ret b tg t) (h2 : g_Gd M ret b (pc + 3) f) : g_Gd M ret b pc (s_lt0 t f) := by
  subst hn
  intro ls st σ r h
  obtain ⟨x, rest, rfl, h | h⟩ := g_lt0_inv h
  · obtain ⟨hp, h⟩ := h
    exact g_stk h1 h (fun w _ h => g_tl h) (fun p l e R s m args below meth c w C H locs lsA cells slots Q hl K => lv_if_lt C.1 C.2.1 hd ht (fun q => K) (fun q => absurd hp q))
  · obtain ⟨hp, h⟩ := h
    exact g_stk h2 h (fun w _ h => g_tl h) (fun p l e R s m args below meth c w C H locs lsA cells slots Q hl K => lv_if_lt C.1 C.2.1 hd ht (fun q => absurd q hp) (fun q => K))

theorem G_ifge {t f : Bk ρ} {off : Int} {tg nf : Nat} (hd : decode (g_mc M) pc = .ok (.ifCond .ge off, 3)) (ht : (pc : Int) + off = (tg : Int)) (hn : pc + 3 = nf) (h1 : g_Gd M ret b (pc + 3) t) (h2 : g_Gd M ret b tg f) : g_Gd M ret b pc (s_lt0 t f) := by
  subst hn
  intro ls st σ r h
  obtain ⟨x, rest, rfl, h | h⟩ := g_lt0_inv h
  · obtain ⟨hp, h⟩ := h
    exact g_stk h1 h (fun w _ h => g_tl h) (fun p l e R s m args below meth c w C H locs lsA cells slots Q hl K => lv_if_ge C.1 C.2.1 hd ht (fun q => absurd hp (Int32.not_lt.mpr q)) (fun q => K))
  · obtain ⟨hp, h⟩ := h
    exact g_stk h2 h (fun w _ h => g_tl h) (fun p l e R s m args below meth c w C H locs lsA cells slots Q hl K => lv_if_ge C.1 C.2.1 hd ht (fun q => K) (fun q => absurd (Int32.not_lt.mp hp) q))

theorem G_ifgt {t f : Bk ρ} {off : Int} {tg nf : Nat} (hd : decode (g_mc M) pc = .ok (.ifCond .gt off, 3)) (ht : (pc : Int) + off = (tg : Int)) (hn : pc + 3 = nf) (h1 : g_Gd M ret b tg t) (h2 : g_Gd M ret b (pc + 3) f) : g_Gd M ret b pc (s_gt0 t f) := by
  subst hn
  intro ls st σ r h
  obtain ⟨x, rest, rfl, h | h⟩ := g_gt0_inv h
  · obtain ⟨hp, h⟩ := h
    exact g_stk h1 h (fun w _ h => g_tl h) (fun p l e R s m args below meth c w C H locs lsA cells slots Q hl K => lv_if_gt C.1 C.2.1 hd ht (fun q => K) (fun q => absurd hp q))
  · obtain ⟨hp, h⟩ := h
    exact g_stk h2 h (fun w _ h => g_tl h) (fun p l e R s m args below meth c w C H locs lsA cells slots Q hl K => lv_if_gt C.1 C.2.1 hd ht (fun q => absurd q hp) (fun q => K))

theorem G_ifle {t f : Bk ρ} {off : Int} {tg nf : Nat} (hd : decode (g_mc M) pc = .ok (.ifCond .le off, 3)) (ht : (pc : Int) + off = (tg : Int)) (hn : pc + 3 = nf) (h1 : g_Gd M ret b (pc + 3) t) (h2 : g_Gd M ret b tg f) : g_Gd M ret b pc (s_gt0 t f) := by
  subst hn
  intro ls st σ r h
  obtain ⟨x, rest, rfl, h | h⟩ := g_gt0_inv h
  · obtain ⟨hp, h⟩ := h
    exact g_stk h1 h (fun w _ h => g_tl h) (fun p l e R s m args below meth c w C H locs lsA cells slots Q hl K => lv_if_le C.1 C.2.1 hd ht (fun q => absurd hp (Int32.not_lt.mpr q)) (fun q => K))
  · obtain ⟨hp, h⟩ := h
    exact g_stk h2 h (fun w _ h => g_tl h) (fun p l e R s m args below meth c w C H locs lsA cells slots Q hl K => lv_if_le C.1 C.2.1 hd ht (fun q => K) (fun q => absurd (Int32.not_lt.mp hp) q))

theorem G_icmpeq {t f : Bk ρ} {off : Int} {tg nf : Nat} (hd : decode (g_mc M) pc = .ok (.if_icmp .eq off, 3)) (ht : (pc : Int) + off = (tg : Int)) (hn : pc + 3 = nf) (h1 : g_Gd M ret b tg t) (h2 : g_Gd M ret b (pc + 3) f) : g_Gd M ret b pc (s_ceq t f) := by
  subst hn
  intro ls st σ r h
  obtain ⟨y, x, rest, rfl, h | h⟩ := g_ceq_inv h
  · obtain ⟨hp, h⟩ := h
    exact g_stk h1 h (fun w _ h => g_tl (g_tl h)) (fun p l e R s m args below meth c w C H locs lsA cells slots Q hl K => lv_icmp_eq C.1 C.2.1 hd ht (fun q => K) (fun q => absurd hp q))
  · obtain ⟨hp, h⟩ := h
    exact g_stk h2 h (fun w _ h => g_tl (g_tl h)) (fun p l e R s m args below meth c w C H locs lsA cells slots Q hl K => lv_icmp_eq C.1 C.2.1 hd ht (fun q => absurd q hp) (fun q => K))

theorem G_icmpne {t f : Bk ρ} {off : Int} {tg nf : Nat} (hd : decode (g_mc M) pc = .ok (.if_icmp .ne off, 3)) (ht : (pc : Int) + off = (tg : Int)) (hn : pc + 3 = nf) (h1 : g_Gd M ret b (pc + 3) t) (h2 : g_Gd M ret b tg f) : g_Gd M ret b pc (s_ceq t f) := by
  subst hn
  intro ls st σ r h
  obtain ⟨y, x, rest, rfl, h | h⟩ := g_ceq_inv h
  · obtain ⟨hp, h⟩ := h
    exact g_stk h1 h (fun w _ h => g_tl (g_tl h)) (fun p l e R s m args below meth c w C H locs lsA cells slots Q hl K => lv_icmp_ne C.1 C.2.1 hd ht (fun q => absurd hp q) (fun q => K))
  · obtain ⟨hp, h⟩ := h
    exact g_stk h2 h (fun w _ h => g_tl (g_tl h)) (fun p l e R s m args below meth c w C H locs lsA cells slots Q hl K => lv_icmp_ne C.1 C.2.1 hd ht (fun q => K) (fun q => absurd q hp))

theorem G_icmplt {t f : Bk ρ} {off : Int} {tg nf : Nat} (hd : decode (g_mc M) pc = .ok (.if_icmp .lt off, 3)) (ht : (pc : Int) + off = (tg : Int)) (hn : pc + 3 = nf) (h1 : g_Gd M ret b tg t) (h2 : g_Gd M ret b (pc + 3) f) : g_Gd M ret b pc (s_clt t f) := by
  subst hn
  intro ls st σ r h
  obtain ⟨y, x, rest, rfl, h | h⟩ := g_clt_inv h
  · obtain ⟨hp, h⟩ := h
    exact g_stk h1 h (fun w _ h => g_tl (g_tl h)) (fun p l e R s m args below meth c w C H locs lsA cells slots Q hl K => lv_icmp_lt C.1 C.2.1 hd ht (fun q => K) (fun q => absurd hp q))
  · obtain ⟨hp, h⟩ := h
    exact g_stk h2 h (fun w _ h => g_tl (g_tl h)) (fun p l e R s m args below meth c w C H locs lsA cells slots Q hl K => lv_icmp_lt C.1 C.2.1 hd ht (fun q => absurd q hp) (fun q => K))

theorem G_icmpge {t f : Bk ρ} {off : Int} {tg nf : Nat} (hd : decode (g_mc M) pc = .ok (.if_icmp .ge off, 3)) (ht : (pc : Int) + off = (tg : Int)) (hn : pc + 3 = nf) (h1 : g_Gd M ret b (pc + 3) t) (h2 : g_Gd M ret b tg f) : g_Gd M ret b pc (s_clt t f) := by
  subst hn
  intro ls st σ r h
  obtain ⟨y, x, rest, rfl, h | h⟩ := g_clt_inv h
  · obtain ⟨hp, h⟩ := h
    exact g_stk h1 h (fun w _ h => g_tl (g_tl h)) (fun p l e R s m args below meth c w C H locs lsA cells slots Q hl K => lv_icmp_ge C.1 C.2.1 hd ht (fun q => absurd hp (Int32.not_lt.mpr q)) (fun q => K))
  · obtain ⟨hp, h⟩ := h
    exact g_stk h2 h (fun w _ h => g_tl (g_tl h)) (fun p l e R s m args below meth c w C H locs lsA cells slots Q hl K => lv_icmp_ge C.1 C.2.1 hd ht (fun q => K) (fun q => absurd (Int32.not_lt.mp hp) q))

theorem G_icmpgt {t f : Bk ρ} {off : Int} {tg nf : Nat} (hd : decode (g_mc M) pc = .ok (.if_icmp .gt off, 3)) (ht : (pc : Int) + off = (tg : Int)) (hn : pc + 3 = nf) (h1 : g_Gd M ret b tg t) (h2 : g_Gd M ret b (pc + 3) f) : g_Gd M ret b pc (s_cgt t f) := by
  subst hn
  intro ls st σ r h
  obtain ⟨y, x, rest, rfl, h | h⟩ := g_cgt_inv h
  · obtain ⟨hp, h⟩ := h
    exact g_stk h1 h (fun w _ h => g_tl (g_tl h)) (fun p l e R s m args below meth c w C H locs lsA cells slots Q hl K => lv_icmp_gt C.1 C.2.1 hd ht (fun q => K) (fun q => absurd hp q))
  · obtain ⟨hp, h⟩ := h
    exact g_stk h2 h (fun w _ h => g_tl (g_tl h)) (fun p l e R s m args below meth c w C H locs lsA cells slots Q hl K => lv_icmp_gt C.1 C.2.1 hd ht (fun q => absurd q hp) (fun q => K))

theorem G_icmple {t f : Bk ρ} {off : Int} {tg nf : Nat} (hd : decode (g_mc M) pc = .ok (.if_icmp .le off, 3)) (ht : (pc : Int) + off = (tg : Int)) (hn : pc + 3 = nf) (h1 : g_Gd M ret b (pc + 3) t) (h2 : g_Gd M ret b tg f) : g_Gd M ret b pc (s_cgt t f) := by
  subst hn
  intro ls st σ r h
  obtain ⟨y, x, rest, rfl, h | h⟩ := g_cgt_inv h
  · obtain ⟨hp, h⟩ := h
    exact g_stk h1 h (fun w _ h => g_tl (g_tl h)) (fun p l e R s m args below meth c w C H locs lsA cells slots Q hl K => lv_icmp_le C.1 C.2.1 hd ht (fun q => absurd hp (Int32.not_lt.mpr q)) (fun q => K))
  · obtain ⟨hp, h⟩ := h
    exact g_stk h2 h (fun w _ h => g_tl (g_tl h)) (fun p l e R s m args below meth c w C H locs lsA cells slots Q hl K => lv_icmp_le C.1 C.2.1 hd ht (fun q => K) (fun q => absurd (Int32.not_lt.mp hp) q))

/-- returns -/
theorem g_end {σ : Sg} {v : Option PV} {r : ρ} {w : g_W} {n0 : Nat} {s : State} {ls : Lc} {st : List PV} {H : Heap} {locs : List Loc} {lsA : Array Slot} (hI : g_In M w n0 b s σ ls st H locs lsA) (h : ret σ v = some r) (hv : ∀ x, v = some x → g_ok w σ x) {below : List Frame} {args : Array Value} :
    (∀ t : State, t.heap = H → s.WarmedH t.vm → ∃ (σ' : Sg) (v' : Option PV), ret σ' v' = some r ∧ Outcome.returned (v.map (g_vl w)) = .returned (v'.map (g_vl w)) ∧ g_Rep w σ' t.heap ∧ va_F (wA w) s t ∧ g_wf w σ' ∧ (∀ x, v' = some x → g_ok w σ' x) ∧ n0 ≤ g_nT σ' ∧ g_nT σ' ≤ n0 + me M) := by
  obtain ⟨h1, h2, h3, h4, h5, h6, h7, h8⟩ := hI
  intro t ht _
  exact ⟨σ, v, h, rfl, by rw [ht]; exact h1, h2.F ht, h6, hv, h7, by omega⟩
theorem G_iret (hr : mr M = some .int) (hd : decode (g_mc M) pc = .ok (.ireturn, 1)) : g_Gd M ret b pc (s_iret ret) := by
  intro ls st σ r h
  unfold s_iret at h
  split at h
  · next x =>
    intro p l e R s m args below meth c w C n0 H locs lsA hI
    have h8 := hI.2.2.2.2.2.2.2
    refine W.widen (k := 7 * me M) (n := g_SL * me M) (Nat.mul_le_mul_left _ (by omega)) (Nat.mul_le_mul_left _ (by omega)) ?_
    exact W.iret C.1 C.2.1 (C.2.2.2.1.trans hr) (g_end (below := below) (args := args) hI h (fun y hy => by cases hy; trivial)) hI.2.1.2.2 hd C.2.2.2.2.1
  · cases h
theorem G_zret (hr : mr M = some .boolean) (hd : decode (g_mc M) pc = .ok (.ireturn, 1)) : g_Gd M ret b pc (s_zret ret) := by
  intro ls st σ r h
  unfold s_zret at h
  split at h
  · next x =>
    obtain ⟨hb, h⟩ := gd_some h
    intro p l e R s m args below meth c w C n0 H locs lsA hI
    have h8 := hI.2.2.2.2.2.2.2
    refine W.widen (k := 7 * me M) (n := g_SL * me M) (Nat.mul_le_mul_left _ (by omega)) (Nat.mul_le_mul_left _ (by omega)) ?_
    exact W.zret C.1 C.2.1 (C.2.2.2.1.trans hr) (by rcases hb with rfl | rfl <;> rfl) (g_end (below := below) (args := args) hI h (fun y hy => by cases hy; trivial)) hI.2.1.2.2 hd C.2.2.2.2.1
  · cases h
theorem G_lret (hr : mr M = some .long) (hd : decode (g_mc M) pc = .ok (.lreturn, 1)) : g_Gd M ret b pc (s_lret ret) := by
  intro ls st σ r h
  unfold s_lret at h
  split at h
  · next x =>
    intro p l e R s m args below meth c w C n0 H locs lsA hI
    have h8 := hI.2.2.2.2.2.2.2
    refine W.widen (k := 7 * me M) (n := g_SL * me M) (Nat.mul_le_mul_left _ (by omega)) (Nat.mul_le_mul_left _ (by omega)) ?_
    exact W.lret C.1 C.2.1 (C.2.2.2.1.trans hr) (g_end (below := below) (args := args) hI h (fun y hy => by cases hy; trivial)) hI.2.1.2.2 hd C.2.2.2.2.1
  · cases h
theorem G_vret (hr : mr M = none) (hd : decode (g_mc M) pc = .ok (.return_, 1)) : g_Gd M ret b pc (s_vret ret) := by
  intro ls st σ r h
  unfold s_vret at h
  split at h
  · intro p l e R s m args below meth c w C n0 H locs lsA hI
    have h8 := hI.2.2.2.2.2.2.2
    refine W.widen (k := 7 * me M) (n := g_SL * me M) (Nat.mul_le_mul_left _ (by omega)) (Nat.mul_le_mul_left _ (by omega)) ?_
    exact W.vret C.1 C.2.1 (C.2.2.2.1.trans hr) (g_end (below := below) (args := args) hI h (fun y hy => by cases hy)) hI.2.1.2.2 hd C.2.2.2.2.1
  · cases h
theorem G_aret {n : String} (hr : mr M = some (.object n)) (hd : decode (g_mc M) pc = .ok (.areturn, 1)) : g_Gd M ret b pc (s_aret ret) := by
  intro ls st σ r h
  unfold s_aret at h
  split at h
  · next x =>
    intro p l e R s m args below meth c w C n0 H locs lsA hI
    have h8 := hI.2.2.2.2.2.2.2
    have h5 := hI.2.2.2.2.1
    refine W.widen (k := 7 * me M) (n := g_SL * me M) (Nat.mul_le_mul_left _ (by omega)) (Nat.mul_le_mul_left _ (by omega)) ?_
    exact W.aret (v := g_vl w (.inr (.inr x))) C.1 C.2.1 (C.2.2.2.1.trans hr) (Or.inl ⟨n, rfl⟩) (by cases x <;> first | exact Or.inl rfl | exact Or.inr ⟨_, rfl⟩) (g_end (below := below) (args := args) hI h (fun y hy => by cases hy; exact h5 _ List.mem_cons_self)) hI.2.1.2.2 hd C.2.2.2.2.1
  · cases h
end Plain
