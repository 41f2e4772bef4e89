/-! THE TEXT OF WORDS: String.length, charAt, the JDK's own code -/
theorem wj3_133 : (Cond.fieldLink "java/lang/String" (1053 : Nat) "jdk/internal/util/Preconditions" "SIOOBE_FORMATTER" "Ljava/util/function/BiFunction;") ∈ lwG := lwG_3 (List.mem_of_getElem? (i := 133) rfl) rfl
theorem wj3_117 : (Cond.fieldLink "java/lang/String" (38 : Nat) "java/lang/String" "COMPACT_STRINGS" "Z") ∈ lwG := lwG_3 (List.mem_of_getElem? (i := 117) rfl) rfl
theorem wj8_169 : (Cond.fieldLink "java/lang/String" (15 : Nat) "java/lang/String" "coder" "B") ∈ lwG := lwG_8 (List.mem_of_getElem? (i := 169) rfl) rfl
theorem wj8_168 : (Cond.fieldLink "java/lang/String" (9 : Nat) "java/lang/String" "value" "[B") ∈ lwG := lwG_8 (List.mem_of_getElem? (i := 168) rfl) rfl
theorem wj3_135 : (Cond.methodLink "java/lang/String" (1059 : Nat) ({ cls := "jdk/internal/util/Preconditions", name := "checkIndex", desc := "(IILjava/util/function/BiFunction;)I" } : Jvm.MethodName)) ∈ lwG := lwG_3 (List.mem_of_getElem? (i := 135) rfl) rfl
theorem wj3_137 : (Cond.code ({ cls := "jdk/internal/util/Preconditions", name := "checkIndex", desc := "(IILjava/util/function/BiFunction;)I" } : Jvm.MethodName) prog_19_method_11_code (3 : Nat) (Option.some Jvm.ClassFile.FieldType.int)) ∈ lwG := lwG_3 (List.mem_of_getElem? (i := 137) rfl) rfl
theorem wj1_15 : (Cond.initialized "jdk/internal/util/Preconditions") ∈ lwG := lwG_1 (List.mem_of_getElem? (i := 15) rfl) rfl
theorem wj3_136 : (Cond.static ({ cls := "jdk/internal/util/Preconditions", name := "checkIndex", desc := "(IILjava/util/function/BiFunction;)I" } : Jvm.MethodName)) ∈ lwG := lwG_3 (List.mem_of_getElem? (i := 136) rfl) rfl
theorem wj3_130 : (Cond.methodLink "java/lang/StringLatin1" (9 : Nat) ({ cls := "java/lang/String", name := "checkIndex", desc := "(II)V" } : Jvm.MethodName)) ∈ lwG := lwG_3 (List.mem_of_getElem? (i := 130) rfl) rfl
theorem wj3_132 : (Cond.code ({ cls := "java/lang/String", name := "checkIndex", desc := "(II)V" } : Jvm.MethodName) prog_14_method_155_code (2 : Nat) (Option.none : Option Jvm.ClassFile.FieldType)) ∈ lwG := lwG_3 (List.mem_of_getElem? (i := 132) rfl) rfl
theorem wj1_13 : (Cond.initialized "java/lang/String") ∈ lwG := lwG_1 (List.mem_of_getElem? (i := 13) rfl) rfl
theorem wj3_131 : (Cond.static ({ cls := "java/lang/String", name := "checkIndex", desc := "(II)V" } : Jvm.MethodName)) ∈ lwG := lwG_3 (List.mem_of_getElem? (i := 131) rfl) rfl
theorem wj3_127 : (Cond.methodLink "java/lang/String" (495 : Nat) ({ cls := "java/lang/StringLatin1", name := "charAt", desc := "([BI)C" } : Jvm.MethodName)) ∈ lwG := lwG_3 (List.mem_of_getElem? (i := 127) rfl) rfl
theorem wj3_129 : (Cond.code ({ cls := "java/lang/StringLatin1", name := "charAt", desc := "([BI)C" } : Jvm.MethodName) prog_15_method_2_code (2 : Nat) (Option.some Jvm.ClassFile.FieldType.char)) ∈ lwG := lwG_3 (List.mem_of_getElem? (i := 129) rfl) rfl
theorem wj1_14 : (Cond.initialized "java/lang/StringLatin1") ∈ lwG := lwG_1 (List.mem_of_getElem? (i := 14) rfl) rfl
theorem wj3_128 : (Cond.static ({ cls := "java/lang/StringLatin1", name := "charAt", desc := "([BI)C" } : Jvm.MethodName)) ∈ lwG := lwG_3 (List.mem_of_getElem? (i := 128) rfl) rfl
theorem wj3_113 : (Cond.methodLink "java/lang/String" (335 : Nat) ({ cls := "java/lang/String", name := "coder", desc := "()B" } : Jvm.MethodName)) ∈ lwG := lwG_3 (List.mem_of_getElem? (i := 113) rfl) rfl
theorem wj3_116 : (Cond.code ({ cls := "java/lang/String", name := "coder", desc := "()B" } : Jvm.MethodName) prog_14_method_152_code (1 : Nat) (Option.some Jvm.ClassFile.FieldType.byte)) ∈ lwG := lwG_3 (List.mem_of_getElem? (i := 116) rfl) rfl
theorem wj3_114 : (Cond.instanceMethod ({ cls := "java/lang/String", name := "coder", desc := "()B" } : Jvm.MethodName)) ∈ lwG := lwG_3 (List.mem_of_getElem? (i := 114) rfl) rfl
theorem wj3_115 : (Cond.selects "java/lang/String" ({ cls := "java/lang/String", name := "coder", desc := "()B" } : Jvm.MethodName) ({ cls := "java/lang/String", name := "coder", desc := "()B" } : Jvm.MethodName)) ∈ lwG := lwG_3 (List.mem_of_getElem? (i := 115) rfl) rfl
theorem wj3_123 : (Cond.methodLink "java/lang/String" (492 : Nat) ({ cls := "java/lang/String", name := "isLatin1", desc := "()Z" } : Jvm.MethodName)) ∈ lwG := lwG_3 (List.mem_of_getElem? (i := 123) rfl) rfl
theorem wj3_126 : (Cond.code ({ cls := "java/lang/String", name := "isLatin1", desc := "()Z" } : Jvm.MethodName) prog_14_method_154_code (1 : Nat) (Option.some Jvm.ClassFile.FieldType.boolean)) ∈ lwG := lwG_3 (List.mem_of_getElem? (i := 126) rfl) rfl
theorem wj3_124 : (Cond.instanceMethod ({ cls := "java/lang/String", name := "isLatin1", desc := "()Z" } : Jvm.MethodName)) ∈ lwG := lwG_3 (List.mem_of_getElem? (i := 124) rfl) rfl
theorem wj3_125 : (Cond.selects "java/lang/String" ({ cls := "java/lang/String", name := "isLatin1", desc := "()Z" } : Jvm.MethodName) ({ cls := "java/lang/String", name := "isLatin1", desc := "()Z" } : Jvm.MethodName)) ∈ lwG := lwG_3 (List.mem_of_getElem? (i := 125) rfl) rfl
theorem wj3_109 : (Cond.methodLink "GalleyRoom$Reader" (81 : Nat) ({ cls := "java/lang/String", name := "length", desc := "()I" } : Jvm.MethodName)) ∈ lwG := lwG_3 (List.mem_of_getElem? (i := 109) rfl) rfl
theorem wj3_112 : (Cond.code ({ cls := "java/lang/String", name := "length", desc := "()I" } : Jvm.MethodName) prog_14_method_54_code (1 : Nat) (Option.some Jvm.ClassFile.FieldType.int)) ∈ lwG := lwG_3 (List.mem_of_getElem? (i := 112) rfl) rfl
theorem wj3_110 : (Cond.instanceMethod ({ cls := "java/lang/String", name := "length", desc := "()I" } : Jvm.MethodName)) ∈ lwG := lwG_3 (List.mem_of_getElem? (i := 110) rfl) rfl
theorem wj3_111 : (Cond.selects "java/lang/String" ({ cls := "java/lang/String", name := "length", desc := "()I" } : Jvm.MethodName) ({ cls := "java/lang/String", name := "length", desc := "()I" } : Jvm.MethodName)) ∈ lwG := lwG_3 (List.mem_of_getElem? (i := 111) rfl) rfl
theorem wj3_119 : (Cond.methodLink "GalleyRoom$Reader" (86 : Nat) ({ cls := "java/lang/String", name := "charAt", desc := "(I)C" } : Jvm.MethodName)) ∈ lwG := lwG_3 (List.mem_of_getElem? (i := 119) rfl) rfl
theorem wj3_122 : (Cond.code ({ cls := "java/lang/String", name := "charAt", desc := "(I)C" } : Jvm.MethodName) prog_14_method_56_code (2 : Nat) (Option.some Jvm.ClassFile.FieldType.char)) ∈ lwG := lwG_3 (List.mem_of_getElem? (i := 122) rfl) rfl
theorem wj3_120 : (Cond.instanceMethod ({ cls := "java/lang/String", name := "charAt", desc := "(I)C" } : Jvm.MethodName)) ∈ lwG := lwG_3 (List.mem_of_getElem? (i := 120) rfl) rfl
theorem wj3_121 : (Cond.selects "java/lang/String" ({ cls := "java/lang/String", name := "charAt", desc := "(I)C" } : Jvm.MethodName) ({ cls := "java/lang/String", name := "charAt", desc := "(I)C" } : Jvm.MethodName)) ∈ lwG := lwG_3 (List.mem_of_getElem? (i := 121) rfl) rfl
def y_jPc : MethodName := ⟨"jdk/internal/util/Preconditions", "checkIndex", "(IILjava/util/function/BiFunction;)I"⟩
def M_jPc : g_M := ("jdk/internal/util/Preconditions", prog_19_method_11_code, 3, some .int, 1, 0)
def y_jCi : MethodName := ⟨"java/lang/String", "checkIndex", "(II)V"⟩
def M_jCi : g_M := ("java/lang/String", prog_14_method_155_code, 2, none, 2, 0)
def y_jSl : MethodName := ⟨"java/lang/StringLatin1", "charAt", "([BI)C"⟩
def M_jSl : g_M := ("java/lang/StringLatin1", prog_15_method_2_code, 2, some .char, 3, 0)
def y_jIs : MethodName := ⟨"java/lang/String", "isLatin1", "()Z"⟩
def M_jIs : g_M := ("java/lang/String", prog_14_method_154_code, 1, some .boolean, 1, 0)
def y_jCo : MethodName := ⟨"java/lang/String", "coder", "()B"⟩
def M_jCo : g_M := ("java/lang/String", prog_14_method_152_code, 1, some .byte, 1, 0)
def y_jLen : MethodName := ⟨"java/lang/String", "length", "()I"⟩
def M_jLen : g_M := ("java/lang/String", prog_14_method_54_code, 1, some .int, 2, 0)
def y_jCh : MethodName := ⟨"java/lang/String", "charAt", "(I)C"⟩
def M_jCh : g_M := ("java/lang/String", prog_14_method_56_code, 2, some .char, 4, 0)
/-- what holds of a state ahead of a method of the JDK -/
def g_Bs (w : g_W) (σ : Sg) (U : State) : Prop := g_Rep w σ U.heap ∧ va_K (wD w) vwCl (g_tys w) U ∧ g_Zs w U U.heap
def g_MtV (l : Launch) (y : MethodName) (M : g_M) (w : g_W) (σ : Sg) (B : State → Prop) (vs : List Value) (v : Option PV) : Prop :=
  Met l y (Cond.code y (g_mc M) (ml M) (mr M) :: lwG) { frames := md M, cells := 7 * me M, slots := g_SL * me M, locals := 40 * md M }
    (va_Pc vs B) (g_Po M w σ σ v) (7 * me M) (g_SL * me M) (wA w)
theorem js_entry {M : g_M} {y : MethodName} {l : Launch} {w : g_W} {σ : Sg} {B : State → Prop} {vs : List Value} {v : Option PV} (hB : ∀ U, B U → g_Bs w σ U) (hy : plainName y.cls = true) (hyc : y.cls = mo M) (hw : g_Wk w) (hlen : (lg_sl vs).length ≤ ml M)
    (body : ∀ (p : Program) (e : Env) (R : Room) (s : State) (m : MethodId) (below : List Frame) (meth : Method) (c : Code) (lsA : Array Slot), g_Ctx M p l e R s m vs.toArray below meth c w → B s → lsA.size = ml M → (∀ q ∈ lv_args 0 vs, lsA[q.1]? = some (.val q.2)) →
      W p l e R s m vs.toArray below meth c s.heap [] 0 0 (MQ below (g_Po M w σ σ v) vs.toArray s (7 * me M) (g_SL * me M) (wA w)) (F0 m 0 lsA [])) : g_MtV l y M w σ B vs v := by
  refine Met.ofW (cc := g_mc M) (maxL := ml M) (ret := mr M) hy rfl ?_
  intro p e s m args below meth c s₁ BL hml hv
  obtain ⟨rfl, hb⟩ := hv
  have hb' := hB _ hb
  have hts := atoms_spec (ws := Cond.code y (g_mc M) (ml M) (mr M) :: lwG) BL.pre
  have hown : s.vm.findClass (mo M) = some m.cls := by rw [← hyc]; exact findClass_of_methodNamed BL.named
  have hl := lv_entry vs (n := ml M) hlen
  rw [lg_entry_eq]
  generalize (lg_sl vs ++ List.replicate (ml M - (lg_sl vs).length) Slot.unset).toArray = lsA at hl ⊢
  have C : g_Ctx M p l e ({ frames := md M, cells := 7 * me M, slots := g_SL * me M, locals := 40 * md M } : Room) s m vs.toArray below meth c w :=
    ⟨BL.exec, BL.bytes, hml, BL.returns, BL.notSynchronized, hown, fun x hx => hts x (List.mem_cons_of_mem _ hx), hb'.2.1, hw, ⟨Nat.le_refl _, Nat.le_refl _, rfl, rfl⟩, hb'.2.2⟩
  exact body p e _ s m below meth c lsA C hb hl.1 hl.2.2
theorem g_Bs_blind {w : g_W} {σ : Sg} {U : State} (g : JFrame) (mk : MethodId) (a : Array Value) (q : g_Bs w σ U) : g_Bs w σ (U.calling g mk a) := by
  obtain ⟨qR, qK, qZ⟩ := q
  exact ⟨qR, va_K.moved (u := U) (U := U.calling g mk a) (Vm.Alike.refl U.vm) qK, ⟨qZ.1, by
    obtain ⟨h1, h2, h3, h4, ⟨adV, h5⟩, h6, n1, n2, v, hc7, h7⟩ := qZ.2
    have ha := Vm.Alike.refl U.vm
    exact ⟨h1.moved ha, h2.moved ha, h3.moved ha, h4.same rfl, ⟨adV, h5.moved ha⟩, h6.moved ha, n1.same rfl rfl, n2.same rfl rfl, v, hc7, h7.moved ha⟩⟩⟩
theorem g_Bs_to {M : g_M} {p : Program} {l : Launch} {e : Env} {R : Room} {s : State} {m : MethodId} {args : Array Value} {below : List Frame} {meth : Method} {c : Code} {w : g_W} (C : g_Ctx M p l e R s m args below meth c w) {σ : Sg} {H : Heap} {locs : List Loc} (hR : g_Rep w σ H) (hS : va_S (wA w) s.heap H locs) (U : State) (hU : U.heap = H) (hW : s.WarmedH U.vm) : g_Bs w σ U := by
  obtain ⟨c1, c2, c3, c4, c5, c6, c7, c8, c9, c10, c14⟩ := C
  exact ⟨by rw [hU]; exact hR, va_K.moved hW.alike c8, by rw [hU]; exact g_Zs_to hW c14 hS.1 hS.2.1⟩
section JsCalls
variable {M Mc : g_M} {p : Program} {l : Launch} {e : Env} {R : Room} {s : State} {m : MethodId} {args : Array Value} {below : List Frame} {meth : Method} {c : Code} {w : g_W} {σ : Sg} {B : State → Prop} {y : MethodName} {vs : List Value} {v : Option PV} {idx n pc : Nat} {H : Heap} {locs : List Loc} {lsA : Array Slot} {rest : List Value} {Q : State → Prop} {cells slots : Nat}
theorem js_callS (C : g_Ctx M p l e R s m args below meth c w) (hM : g_MtV l y Mc w σ B vs v) (hbl : ∀ (U : State) (g : JFrame) (mk : MethodId) (a : Array Value), B U → B (U.calling g mk a)) (hme : me Mc = 0)
    (hw : Cond.methodLink (mo M) idx y ∈ lwG ∧ Cond.code y (g_mc Mc) (ml Mc) (mr Mc) ∈ lwG ∧ Cond.initialized y.cls ∈ lwG ∧ Cond.static y ∈ lwG) (hy : y.cls ≠ "java/lang/invoke/MethodHandle" ∧ y.cls ≠ "java/lang/invoke/VarHandle" ∧ (parseMethodDescriptor y.desc).map (fun d => d.parameters.length) = some n) (hmd : md Mc + 1 ≤ md M ∧ ml Mc ≤ 21) (hlen : vs.length = n)
    (hS : va_S (wA w) s.heap H locs) (hB : ∀ U : State, U.heap = H → s.WarmedH U.vm → B U) (hls : lsA.size = ml M) (hroom : (rest.map fun v => v.category).sum ≤ 8) (hd : decode (g_mc M) pc = .ok (.invokestatic idx, 3)) (hcs : cells ≤ R.cells ∧ slots ≤ R.slots)
    (kk : ∀ (H1 : Heap) (locs1 : List Loc), g_Rep w σ H1 → va_S (wA w) s.heap H1 locs1 → W p l e R s m args below meth c H1 locs1 cells slots Q (F0 m (pc + 3) lsA ((v.map (g_vl w)).toList ++ rest))) : W p l e R s m args below meth c H locs cells slots Q (F0 m pc lsA (vs.reverse ++ rest)) := by
  obtain ⟨c1, c2, c3, c4, c5, c6, c7, c8, c9, ⟨c10, c11, c12, c13⟩, c14⟩ := C
  have hG : GoodIn lwG (Cond.code y (g_mc Mc) (ml Mc) (mr Mc) :: lwG) := by
    refine g_goodIn (fun x hx => ?_)
    rcases List.mem_cons.mp hx with rfl | q
    · exact hw.2.1
    · exact q
  have cw := callB_of (R := R) (own := mo M) (rm := ({ frames := md Mc, cells := 7 * me Mc, slots := g_SL * me Mc, locals := 40 * md Mc } : Room)) n c7 hG rfl rfl rfl (c7 _ hw.2.2.1) (c7 _ hw.1) hy ⟨by show md Mc + 1 ≤ _; omega, by show 8 + (ml Mc + 11) + 40 * md Mc ≤ _; omega⟩
  have hr := va_runS (p := p) (below := below) (meth := meth) (e := e) (locs := locs) (cells := cells) (slots := slots) (g := F0 m pc lsA (vs.reverse ++ rest)) (As := vs) (rest := rest) ⟨c1, c2, c3, c6, c7⟩ hM ⟨cw, c7 _ hw.2.2.2⟩ ⟨fun a U g mk q => ⟨q.1, hbl U g mk a q.2⟩, fun U hU hW => ⟨rfl, hB U hU hW⟩⟩ rfl hlen hls rfl (lv_room hroom) hd ⟨by rw [hme]; exact hcs.1, by rw [hme]; exact hcs.2⟩
  refine g_back hr hS (fun H1 locs1 hR1 hS1 _ _ _ _ => ?_)
  rw [hme]
  exact kk H1 locs1 hR1 hS1
theorem js_callV (C : g_Ctx M p l e R s m args below meth c w) (hM : g_MtV l y Mc w σ B (.ref (wr w 79 0) :: vs) v) (hbl : ∀ (U : State) (g : JFrame) (mk : MethodId) (a : Array Value), B U → B (U.calling g mk a)) (hme : me Mc = 0) (hyS : y.cls = "java/lang/String")
    (hw : Cond.methodLink (mo M) idx y ∈ lwG ∧ Cond.code y (g_mc Mc) (ml Mc) (mr Mc) ∈ lwG ∧ Cond.initialized y.cls ∈ lwG ∧ Cond.instanceMethod y ∈ lwG ∧ Cond.selects "java/lang/String" y y ∈ lwG) (hy : y.cls ≠ "java/lang/invoke/MethodHandle" ∧ y.cls ≠ "java/lang/invoke/VarHandle" ∧ (parseMethodDescriptor y.desc).map (fun d => d.parameters.length) = some n) (hmd : md Mc + 1 ≤ md M ∧ ml Mc ≤ 21) (hlen : vs.length = n)
    (hS : va_S (wA w) s.heap H locs) (hB : ∀ U : State, U.heap = H → s.WarmedH U.vm → B U) (hls : lsA.size = ml M) (hroom : (rest.map fun v => v.category).sum ≤ 8) (hd : decode (g_mc M) pc = .ok (.invokevirtual idx, 3)) (hcs : cells ≤ R.cells ∧ slots ≤ R.slots)
    (kk : ∀ (H1 : Heap) (locs1 : List Loc), g_Rep w σ H1 → va_S (wA w) s.heap H1 locs1 → W p l e R s m args below meth c H1 locs1 cells slots Q (F0 m (pc + 3) lsA ((v.map (g_vl w)).toList ++ rest))) : W p l e R s m args below meth c H locs cells slots Q (F0 m pc lsA (vs.reverse ++ .ref (wr w 79 0) :: rest)) := by
  obtain ⟨c1, c2, c3, c4, c5, c6, c7, c8, c9, ⟨c10, c11, c12, c13⟩, c14⟩ := C
  obtain ⟨z1, z2, z3, z4, ⟨adV, z5⟩, z6, n1, n2, fv, zc, z7⟩ := c14.2
  have hG : GoodIn lwG (Cond.code y (g_mc Mc) (ml Mc) (mr Mc) :: lwG) := by
    refine g_goodIn (fun x hx => ?_)
    rcases List.mem_cons.mp hx with rfl | q
    · exact hw.2.1
    · exact q
  have cw := callB_of (R := R) (own := mo M) (rm := ({ frames := md Mc, cells := 7 * me Mc, slots := g_SL * me Mc, locals := 40 * md Mc } : Room)) n c7 hG rfl rfl rfl (c7 _ hw.2.2.1) (c7 _ hw.1) hy ⟨by show md Mc + 1 ≤ _; omega, by show 8 + (ml Mc + 11) + 40 * md Mc ≤ _; omega⟩
  have hr := va_runV (p := p) (below := below) (meth := meth) (e := e) (locs := locs) (cells := cells) (slots := slots) (g := F0 m pc lsA (vs.reverse ++ .ref (wr w 79 0) :: rest)) (C := "java/lang/String") (b := wr w 79 0) (As := vs) (rest := rest) ⟨c1, c2, c3, c6, c7⟩ hM ⟨cw, c7 _ hw.2.2.2.1, c7 _ hw.2.2.2.2⟩ ⟨fun a U g mk q => ⟨q.1, hbl U g mk a q.2⟩, vk_recv (N := 1) (adK := fun _ => wr w 79 0) z5 (i := 0) (by decide) hS, fun U hU hW => ⟨rfl, hB U hU hW⟩⟩ rfl hlen hls rfl (lv_room hroom) hd ⟨by rw [hme]; exact hcs.1, by rw [hme]; exact hcs.2⟩
  refine g_back hr hS (fun H1 locs1 hR1 hS1 _ _ _ _ => ?_)
  rw [hme]
  exact kk H1 locs1 hR1 hS1
end JsCalls
theorem js_po {M : g_M} {w : g_W} {σ : Sg} {v : Option PV} {H : Heap} {locs : List Loc} {s : State} {a : Array Value} (hwf : g_wf w σ) (hv : ∀ x, v = some x → g_ok w σ x) (hR : g_Rep w σ H) (hS : va_S (wA w) s.heap H locs) : ∀ t : State, t.heap = H → s.WarmedH t.vm → g_Po M w σ σ v a s (.returned (v.map (g_vl w))) t :=
  fun t ht _ => ⟨rfl, by rw [ht]; exact hR, hS.F ht, hwf, hv, Nat.le_refl _, Nat.le_add_right _ _⟩
theorem js_int {w : g_W} {σ : Sg} {x : Int32} : ∀ y, (some (Sum.inl x) : Option PV) = some y → g_ok w σ y := fun y hy => by cases hy; trivial
theorem h_jPc {l : Launch} {w : g_W} {σ : Sg} (hwk : g_Wk w) (hwf : g_wf w σ) {i n : Int32} {fv : Value} (hc : fv.category = 1) (h0 : ¬ i < 0) (h1 : i < n) : g_MtV l y_jPc M_jPc w σ (g_Bs w σ) [.int i, .int n, fv] (some (.inl i)) := by
  refine js_entry (fun U h => h) (by decide) rfl hwk ?_ (fun p e R s m below meth c lsA C hB hls hl => ?_)
  · show (lg_sl [.int i, .int n, fv]).length ≤ 3
    cases fv <;> first | exact Nat.le_of_ble_eq_true rfl | (simp [Value.category] at hc)
  have l0 : lsA[0]? = some (.val (.int i)) := hl (0, .int i) (by simp [lv_args])
  have l1 : lsA[1]? = some (.val (.int n)) := hl (1, .int n) (by simp [lv_args, Value.category])
  obtain ⟨c1, c2, c3, c4, c5, c6, c7, c8, c9, c10, c14⟩ := C
  refine lv_iload_n (k := 0) c1 c2 (by decide +kernel) rfl l0 ?_
  refine lv_if_lt (off := 8) (tgt := 9) c1 c2 (by decide +kernel) (by decide +kernel) (fun q => absurd q h0) (fun _ => ?_)
  refine lv_iload_n (k := 0) c1 c2 (by decide +kernel) rfl l0 ?_
  refine lv_iload_n (k := 1) c1 c2 (by decide +kernel) rfl l1 ?_
  refine lv_icmp_lt (off := 10) (tgt := 16) c1 c2 (by decide +kernel) (by decide +kernel) (fun _ => ?_) (fun q => absurd h1 q)
  refine lv_iload_n (k := 0) c1 c2 (by decide +kernel) rfl l0 ?_
  exact W.iret c1 c2 c4 (js_po (v := some (.inl i)) hwf js_int hB.1 va_S.rf) (fun q hq => by cases hq) (by decide +kernel) c5
theorem h_jCi {l : Launch} {w : g_W} {σ : Sg} (hwk : g_Wk w) (hwf : g_wf w σ) {i n : Int32} (h0 : ¬ i < 0) (h1 : i < n) : g_MtV l y_jCi M_jCi w σ (g_Bs w σ) [.int i, .int n] none := by
  refine js_entry (fun U h => h) (by decide) rfl hwk (Nat.le_of_ble_eq_true rfl) (fun p e R s m below meth c lsA C hB hls hl => ?_)
  have l0 : lsA[0]? = some (.val (.int i)) := hl (0, .int i) (by simp [lv_args])
  have l1 : lsA[1]? = some (.val (.int n)) := hl (1, .int n) (by simp [lv_args, Value.category])
  have C' := C
  obtain ⟨c1, c2, c3, c4, c5, c6, c7, c8, c9, c10, c14⟩ := C'
  obtain ⟨z1, z2, z3, z4, ⟨adV, z5⟩, z6, n1, n2, fv, zc, z7⟩ := c14.2
  refine lv_iload_n (k := 0) c1 c2 (by decide +kernel) rfl l0 ?_
  refine lv_iload_n (k := 1) c1 c2 (by decide +kernel) rfl l1 ?_
  refine va_gets c1 c2 z7 va_S.rf c6 (c7 _ wj3_133) (fun x h => h) (by decide +kernel) ?_
  refine js_callS (vs := [.int i, .int n, fv]) (rest := []) (n := 3) C (h_jPc hwk hwf zc h0 h1) (fun U g mk a q => g_Bs_blind g mk a q) rfl ⟨wj3_135, wj3_137, wj1_15, wj3_136⟩ ⟨by decide, by decide, by decide +kernel⟩ ⟨by decide, by decide⟩ rfl va_S.rf (g_Bs_to C hB.1 va_S.rf) hls (Nat.zero_le _) (by decide +kernel) ⟨Nat.zero_le _, Nat.zero_le _⟩ (fun H1 locs1 hR1 hS1 => ?_)
  refine lv_pop c1 c2 (by decide +kernel) rfl ?_
  exact W.vret c1 c2 c4 (js_po (v := none) hwf (fun x hx => by cases hx) hR1 hS1) hS1.2.2 (by decide +kernel) c5
theorem js_ch : ∀ j, j < 138 → (((g_str.getD j 0 &&& 255).toUInt32 % 65536).toInt32 = nth g_str j 0 ∧ narrow .char (.int (nth g_str j 0)) = .int (nth g_str j 0)) := by decide +kernel
def js_T (w : g_W) (a : Nat) (U : State) : Prop := va_T .byte a 138 (fun j => .int (g_str.getD j 0)) (wA w) U U.heap
theorem js_inb {i : Int32} (h : inb i 138) : (¬ i < 0) ∧ i < 138 ∧ ix i < 138 ∧ vp_in i 138 := by
  have h' := inb_iff.mp h
  refine ⟨?_, ?_, ?_, h⟩
  · simp only [ti_lt, li_0]; omega
  · simp only [ti_lt, li_138]; omega
  · rw [ix_eq]; omega
theorem h_jSl {l : Launch} {w : g_W} {σ : Sg} (hwk : g_Wk w) (hwf : g_wf w σ) {a : Nat} {i : Int32} (hi : inb i 138) : g_MtV l y_jSl M_jSl w σ (fun U => g_Bs w σ U ∧ js_T w a U) [.ref a, .int i] (some (.inl (g_strat i))) := by
  obtain ⟨i0, i1, i2, i3⟩ := js_inb hi
  obtain ⟨k1, k2⟩ := js_ch (ix i) i2
  refine js_entry (fun U h => h.1) (by decide) rfl hwk (Nat.le_of_ble_eq_true rfl) (fun p e R s m below meth c lsA C hB hls hl => ?_)
  have l0 : lsA[0]? = some (.val (.ref a)) := hl (0, .ref a) (by simp [lv_args])
  have l1 : lsA[1]? = some (.val (.int i)) := hl (1, .int i) (by simp [lv_args, Value.category])
  have C' := C
  obtain ⟨c1, c2, c3, c4, c5, c6, c7, c8, c9, c10, c14⟩ := C'
  refine lv_iload_n (k := 1) c1 c2 (by decide +kernel) rfl l1 ?_
  refine lv_aload_n (k := 0) c1 c2 (by decide +kernel) rfl l0 ?_
  refine va_tlen (v := 138) c1 c2 hB.2 va_S.rf rfl (by decide +kernel) ?_
  refine js_callS (vs := [.int i, .int 138]) (rest := []) (n := 2) C (h_jCi hwk hwf i0 i1) (fun U g mk a q => g_Bs_blind g mk a q) rfl ⟨wj3_130, wj3_132, wj1_13, wj3_131⟩ ⟨by decide, by decide, by decide +kernel⟩ ⟨by decide, by decide⟩ rfl va_S.rf (g_Bs_to C hB.1.1 va_S.rf) hls (Nat.zero_le _) (by decide +kernel) ⟨Nat.zero_le _, Nat.zero_le _⟩ (fun H1 locs1 hR1 hS1 => ?_)
  refine lv_aload_n (k := 0) c1 c2 (by decide +kernel) rfl l0 ?_
  refine lv_iload_n (k := 1) c1 c2 (by decide +kernel) rfl l1 ?_
  refine va_tb c1 c2 hB.2 hS1 i3 rfl (by decide +kernel) ?_
  refine lv_sipush (n := 255) (v := 255) c1 c2 (by decide +kernel) (by decide +kernel) ?_
  refine lv_iand c1 c2 (by decide +kernel) ?_
  refine lv_i2c c1 c2 (by decide +kernel) k1 ?_
  exact W.zret c1 c2 c4 k2 (js_po (v := some (.inl (g_strat i))) hwf js_int hR1 hS1) hS1.2.2 (by decide +kernel) c5
theorem js_T_of {w : g_W} {adV : Nat → Nat} {s U : State} {H : Heap} {locs : List Loc} (z5 : vk_S 1 [g_strN] [g_str] (fun _ => wr w 79 0) adV (wA w) s s.heap) (hS : va_S (wA w) s.heap H locs) (hU : U.heap = H) (hW : s.WarmedH U.vm) : js_T w (adV 0) U := by
  unfold js_T
  rw [hU]
  exact (((z5.1 0 (by decide)).2.2.2).moved hW.alike).kept hS.2.1
theorem h_jIs {l : Launch} {w : g_W} {σ : Sg} (hwk : g_Wk w) (hwf : g_wf w σ) : g_MtV l y_jIs M_jIs w σ (g_Bs w σ) [.ref (wr w 79 0)] (some (.inl 1)) := by
  refine js_entry (fun U h => h) (by decide) rfl hwk (Nat.le_of_ble_eq_true rfl) (fun p e R s m below meth c lsA C hB hls hl => ?_)
  have l0 : lsA[0]? = some (.val (.ref (wr w 79 0))) := hl (0, .ref (wr w 79 0)) (by simp [lv_args])
  obtain ⟨c1, c2, c3, c4, c5, c6, c7, c8, c9, c10, c14⟩ := C
  obtain ⟨z1, z2, z3, z4, ⟨adV, z5⟩, z6, n1, n2, fv, zc, z7⟩ := c14.2
  refine va_gets c1 c2 z6 va_S.rf c6 (c7 _ wj3_117) (fun x h => h) (by decide +kernel) ?_
  refine lv_if_eq (off := 14) (tgt := 17) c1 c2 (by decide +kernel) (by decide +kernel) (fun q => absurd q (by decide)) (fun _ => ?_)
  refine lv_aload_n (k := 0) c1 c2 (by decide +kernel) rfl l0 ?_
  refine vk_getf c1 c2 (z5.1 0 (by decide)).2.1 va_S.rf c6 (c7 _ wj8_169) (fun x h => h) (by decide +kernel) ?_
  refine lv_if_ne (off := 7) (tgt := 17) c1 c2 (by decide +kernel) (by decide +kernel) (fun q => absurd rfl q) (fun _ => ?_)
  refine lv_iconst (n := 1) (v := 1) c1 c2 (by decide +kernel) (by decide +kernel) ?_
  refine lv_goto (off := 4) (tgt := 18) c1 c2 (by decide +kernel) (by decide +kernel) ?_
  exact W.zret c1 c2 c4 rfl (js_po (v := some (.inl 1)) hwf js_int hB.1 va_S.rf) (fun q hq => by cases hq) (by decide +kernel) c5
theorem h_jCo {l : Launch} {w : g_W} {σ : Sg} (hwk : g_Wk w) (hwf : g_wf w σ) : g_MtV l y_jCo M_jCo w σ (g_Bs w σ) [.ref (wr w 79 0)] (some (.inl 0)) := by
  refine js_entry (fun U h => h) (by decide) rfl hwk (Nat.le_of_ble_eq_true rfl) (fun p e R s m below meth c lsA C hB hls hl => ?_)
  have l0 : lsA[0]? = some (.val (.ref (wr w 79 0))) := hl (0, .ref (wr w 79 0)) (by simp [lv_args])
  obtain ⟨c1, c2, c3, c4, c5, c6, c7, c8, c9, c10, c14⟩ := C
  obtain ⟨z1, z2, z3, z4, ⟨adV, z5⟩, z6, n1, n2, fv, zc, z7⟩ := c14.2
  refine va_gets c1 c2 z6 va_S.rf c6 (c7 _ wj3_117) (fun x h => h) (by decide +kernel) ?_
  refine lv_if_eq (off := 10) (tgt := 13) c1 c2 (by decide +kernel) (by decide +kernel) (fun q => absurd q (by decide)) (fun _ => ?_)
  refine lv_aload_n (k := 0) c1 c2 (by decide +kernel) rfl l0 ?_
  refine vk_getf c1 c2 (z5.1 0 (by decide)).2.1 va_S.rf c6 (c7 _ wj8_169) (fun x h => h) (by decide +kernel) ?_
  refine lv_goto (off := 4) (tgt := 14) c1 c2 (by decide +kernel) (by decide +kernel) ?_
  exact W.zret c1 c2 c4 rfl (js_po (v := some (.inl 0)) hwf js_int hB.1 va_S.rf) (fun q hq => by cases hq) (by decide +kernel) c5
theorem h_jLen {l : Launch} {w : g_W} {σ : Sg} (hwk : g_Wk w) (hwf : g_wf w σ) : g_MtV l y_jLen M_jLen w σ (g_Bs w σ) [.ref (wr w 79 0)] (some (.inl g_strlen)) := by
  refine js_entry (fun U h => h) (by decide) rfl hwk (Nat.le_of_ble_eq_true rfl) (fun p e R s m below meth c lsA C hB hls hl => ?_)
  have l0 : lsA[0]? = some (.val (.ref (wr w 79 0))) := hl (0, .ref (wr w 79 0)) (by simp [lv_args])
  have C' := C
  obtain ⟨c1, c2, c3, c4, c5, c6, c7, c8, c9, c10, c14⟩ := C'
  obtain ⟨z1, z2, z3, z4, ⟨adV, z5⟩, z6, n1, n2, fv, zc, z7⟩ := c14.2
  refine lv_aload_n (k := 0) c1 c2 (by decide +kernel) rfl l0 ?_
  refine vk_getf c1 c2 (z5.1 0 (by decide)).2.2.1 va_S.rf c6 (c7 _ wj8_168) (fun x h => h) (by decide +kernel) ?_
  refine va_tlen (v := 138) c1 c2 (z5.1 0 (by decide)).2.2.2 va_S.rf rfl (by decide +kernel) ?_
  refine lv_aload_n (k := 0) c1 c2 (by decide +kernel) rfl l0 ?_
  refine js_callV (vs := []) (rest := [.int 138]) (n := 0) C (h_jCo hwk hwf) (fun U g mk a q => g_Bs_blind g mk a q) rfl rfl ⟨wj3_113, wj3_116, wj1_13, wj3_114, wj3_115⟩ ⟨by decide, by decide, by decide +kernel⟩ ⟨by decide, by decide⟩ rfl va_S.rf (g_Bs_to C hB.1 va_S.rf) hls (Nat.le_of_ble_eq_true rfl) (by decide +kernel) ⟨Nat.zero_le _, Nat.zero_le _⟩ (fun H1 locs1 hR1 hS1 => ?_)
  refine lv_ishr c1 c2 (by decide +kernel) ?_
  exact W.iret c1 c2 c4 (js_po (v := some (.inl g_strlen)) hwf js_int hR1 hS1) hS1.2.2 (by decide +kernel) c5
theorem h_jCh {l : Launch} {w : g_W} {σ : Sg} (hwk : g_Wk w) (hwf : g_wf w σ) {i : Int32} (hi : inb i 138) : g_MtV l y_jCh M_jCh w σ (g_Bs w σ) [.ref (wr w 79 0), .int i] (some (.inl (g_strat i))) := by
  refine js_entry (fun U h => h) (by decide) rfl hwk (Nat.le_of_ble_eq_true rfl) (fun p e R s m below meth c lsA C hB hls hl => ?_)
  have l0 : lsA[0]? = some (.val (.ref (wr w 79 0))) := hl (0, .ref (wr w 79 0)) (by simp [lv_args])
  have l1 : lsA[1]? = some (.val (.int i)) := hl (1, .int i) (by simp [lv_args, Value.category])
  have C' := C
  obtain ⟨c1, c2, c3, c4, c5, c6, c7, c8, c9, c10, c14⟩ := C'
  obtain ⟨z1, z2, z3, z4, ⟨adV, z5⟩, z6, n1, n2, fv, zc, z7⟩ := c14.2
  refine lv_aload_n (k := 0) c1 c2 (by decide +kernel) rfl l0 ?_
  refine js_callV (vs := []) (rest := []) (n := 0) C (h_jIs hwk hwf) (fun U g mk a q => g_Bs_blind g mk a q) rfl rfl ⟨wj3_123, wj3_126, wj1_13, wj3_124, wj3_125⟩ ⟨by decide, by decide, by decide +kernel⟩ ⟨by decide, by decide⟩ rfl va_S.rf (g_Bs_to C hB.1 va_S.rf) hls (Nat.zero_le _) (by decide +kernel) ⟨Nat.zero_le _, Nat.zero_le _⟩ (fun H1 locs1 hR1 hS1 => ?_)
  refine lv_if_eq (off := 12) (tgt := 16) c1 c2 (by decide +kernel) (by decide +kernel) (fun q => absurd q (by decide)) (fun _ => ?_)
  refine lv_aload_n (k := 0) c1 c2 (by decide +kernel) rfl l0 ?_
  refine vk_getf c1 c2 (z5.1 0 (by decide)).2.2.1 hS1 c6 (c7 _ wj8_168) (fun x h => h) (by decide +kernel) ?_
  refine lv_iload_n (k := 1) c1 c2 (by decide +kernel) rfl l1 ?_
  refine js_callS (vs := [.ref (adV 0), .int i]) (rest := []) (n := 2) C (h_jSl (a := adV 0) hwk hwf hi) (fun U g mk a q => ⟨g_Bs_blind g mk a q.1, q.2.moved (Vm.Alike.refl U.vm)⟩) rfl ⟨wj3_127, wj3_129, wj1_14, wj3_128⟩ ⟨by decide, by decide, by decide +kernel⟩ ⟨by decide, by decide⟩ rfl hS1 (fun U hU hW => ⟨g_Bs_to C hR1 hS1 U hU hW, js_T_of z5 hS1 hU hW⟩) hls (Nat.zero_le _) (by decide +kernel) ⟨Nat.zero_le _, Nat.zero_le _⟩ (fun H2 locs2 hR2 hS2 => ?_)
  have k2 := (js_ch (ix i) (js_inb hi).2.2.1).2
  exact W.zret c1 c2 c4 k2 (js_po (v := some (.inl (g_strat i))) hwf js_int hR2 hS2) hS2.2.2 (by decide +kernel) c5
/-! the rows -/
noncomputable def F_jLen : Fn := fun _ σ as k => match as with
  | [.inr (.inr (some q))] => (match Nat.beq q.1 79 with | true => k σ (some (.inl g_strlen)) | false => none)
  | _ => none
noncomputable def F_jCh : Fn := fun _ σ as k => match as with
  | [.inr (.inr (some q)), .inl i] => (match Nat.beq q.1 79 with | true => gd (inb i g_strN) (k σ (some (.inl (g_strat i)))) | false => none)
  | _ => none
theorem h_FjLen : g_Fn M_jLen y_jLen 1 F_jLen := by
  intro l w hw σ as hlen hwf hok ρ k r e
  unfold F_jLen at e
  split at e
  · next q =>
    obtain ⟨a, g0⟩ := q
    split at e
    · next e0 =>
      cases Nat.eq_of_beq_eq_true e0
      refine ⟨_, _, e, Or.inl rfl, ?_⟩
      have hv : g_vo w σ 79 g0 := hok _ List.mem_cons_self
      have h0 : g0 = 0 := by
        have : g0 < 1 := hv.2
        omega
      subst h0
      exact h_jLen hw hwf
    · cases e
  · cases e
theorem h_FjCh : g_Fn M_jCh y_jCh 2 F_jCh := by
  intro l w hw σ as hlen hwf hok ρ k r e
  unfold F_jCh at e
  split at e
  · next q i =>
    obtain ⟨a, g0⟩ := q
    split at e
    · next e0 =>
      cases Nat.eq_of_beq_eq_true e0
      obtain ⟨hi, e⟩ := gd_some e
      refine ⟨_, _, e, Or.inl rfl, ?_⟩
      have hv : g_vo w σ 79 g0 := hok _ List.mem_cons_self
      have h0 : g0 = 0 := by
        have : g0 < 1 := hv.2
        omega
      subst h0
      exact h_jCh hw hwf hi
    · cases e
  · cases e
theorem c_jLen {ρ : Type} {k : Bk ρ} {ls : Lc} {st : List PV} {σ : Sg} {r : ρ} (h : s_strlen k ls st σ = some r) : s_call F_jLen 1 k ls st σ = some r := by
  unfold s_strlen at h
  split at h
  · next q rest =>
    split at h
    · next e0 =>
      split at h
      · next e1 =>
        show (match stOK rest 8 with
          | true => F_jLen ρ σ [.inr (.inr (some q))] (fun σ' v => match v with
            | some w => k ls (w :: rest) σ'
            | none => k ls rest σ')
          | false => none) = some r
        rw [e1]
        show (match Nat.beq q.1 79 with | true => k ls (.inl g_strlen :: rest) σ | false => none) = some r
        rw [e0]
        exact h
      · cases h
    · cases h
  · cases h
theorem c_jCh {ρ : Type} {k : Bk ρ} {ls : Lc} {st : List PV} {σ : Sg} {r : ρ} (h : s_strat k ls st σ = some r) : s_call F_jCh 2 k ls st σ = some r := by
  unfold s_strat at h
  split at h
  · next i q rest =>
    split at h
    · next e0 =>
      split at h
      · next e1 =>
        show (match stOK rest 8 with
          | true => F_jCh ρ σ [.inr (.inr (some q)), .inl i] (fun σ' v => match v with
            | some w => k ls (w :: rest) σ'
            | none => k ls rest σ')
          | false => none) = some r
        rw [e1]
        show (match Nat.beq q.1 79 with | true => gd (inb i g_strN) (k ls (.inl (g_strat i) :: rest) σ) | false => none) = some r
        rw [e0]
        exact h
      · cases h
    · cases h
  · cases h
theorem js_row {ρ : Type} {M Mc : g_M} {ret : Rt ρ} {b pc nx idx n : Nat} {k : Bk ρ} {F : Fn} {y : MethodName} (hF : g_Fn Mc y (n + 1) F) (hme : me Mc = 0) (hrec : ∀ ρ' σ as (k' : Sg → Option PV → Option ρ') r, F ρ' σ as k' = some r → ∃ i t, as = .inr (.inr (some (79, i))) :: t)
    (hyS : y.cls = "java/lang/String") (hw : Cond.methodLink (mo M) idx y ∈ lwG ∧ Cond.code y (g_mc Mc) (ml Mc) (mr Mc) ∈ lwG ∧ Cond.initialized y.cls ∈ lwG ∧ Cond.instanceMethod y ∈ lwG ∧ Cond.selects "java/lang/String" y y ∈ lwG) (hy : y.cls ≠ "java/lang/invoke/MethodHandle" ∧ y.cls ≠ "java/lang/invoke/VarHandle" ∧ (parseMethodDescriptor y.desc).map (fun d => d.parameters.length) = some n) (hmd : md Mc + 1 ≤ md M ∧ ml Mc ≤ 21)
    (hd : decode (g_mc M) pc = .ok (.invokevirtual idx, 3)) (hn : pc + 3 = nx) (hk : g_Gd M ret b nx k) {ls : Lc} {st : List PV} {σ : Sg} {r : ρ} (h : s_call F (n + 1) k ls st σ = some r) : g_Go M ret b pc ls st σ r := by
  subst hn
  have h' := h
  unfold s_call at h'
  split at h'
  · next q hq =>
    obtain ⟨as0, rest0⟩ := q
    split at h'
    · next hst =>
      obtain ⟨i, t, has0⟩ := hrec _ _ _ _ _ h'
      refine g_call_go hF (b0 := b) (by rw [hme]; omega) hk h (fun p l e R s m args below meth c w C H locs lsA cells slots as rest σ' v h1 h2 h3 h4 h5 h6 h7 h8 h9 hM => ?_)
      obtain ⟨xs, x1, x2, x3⟩ := popr_some hq
      rw [List.append_nil] at x3
      have hass : as = as0 := by
        have e1 : as.reverse = as0.reverse := by
          rw [x3, List.reverse_reverse]
          have := h1.symm.trans x2
          exact (List.append_inj this (by rw [List.length_reverse, h2, x1])).1
        exact by rw [← List.reverse_reverse as, e1, List.reverse_reverse]
      subst hass
      subst has0
      obtain ⟨c1, c2, c3, c4, c5, c6, c7, c8, c9, ⟨c10, c11, c12, c13⟩, c14⟩ := C
      obtain ⟨z1, z2, z3, z4, ⟨adV, z5⟩, z6, n1, n2, fv, zc, z7⟩ := c14.2
      have hv : g_vo w σ 79 i := h7 _ List.mem_cons_self
      have h0 : i = 0 := by
        have : i < 1 := hv.2
        omega
      subst h0
      have hG : GoodIn lwG (Cond.code y (g_mc Mc) (ml Mc) (mr Mc) :: lwG) := by
        refine g_goodIn (fun x hx => ?_)
        rcases List.mem_cons.mp hx with rfl | q
        · exact hw.2.1
        · exact q
      have cw := callB_of (R := R) (own := mo M) (rm := ({ frames := md Mc, cells := 7 * me Mc, slots := g_SL * me Mc, locals := 40 * md Mc } : Room)) n c7 hG rfl rfl rfl (c7 _ hw.2.2.1) (c7 _ hw.1) hy ⟨by show md Mc + 1 ≤ _; omega, by show 8 + (ml Mc + 11) + 40 * md Mc ≤ _; omega⟩
      refine va_runV (C := "java/lang/String") (As := t.map (g_vl w)) (b := wr w 79 0) (rest := rest.map (g_vl w)) ⟨c1, c2, c3, c6, c7⟩ hM ⟨cw, c7 _ hw.2.2.2.1, c7 _ hw.2.2.2.2⟩ ⟨g_blind w σ _, vk_recv (N := 1) (adK := fun _ => wr w 79 0) z5 (i := 0) (by decide) h5, fun U hU hW => ⟨rfl, by rw [hU]; exact h4, va_K.moved hW.alike c8, by rw [hU]; exact g_Zs_to hW c14 h5.1 h5.2.1⟩⟩ rfl (by rw [List.length_map]; simpa using h2) h6.1 ?_ (lv_room (stOK_sum w rest 8 h3)) hd ⟨h8, h9⟩
      show st.map (g_vl w) = _
      rw [h1]
      simp [List.map_reverse, g_vl]
    · cases h'
  · cases h'
theorem G_strlen {ρ : Type} {M : g_M} {ret : Rt ρ} {b pc nx : Nat} {k : Bk ρ} (hM : mo M = "GalleyRoom$Reader" ∧ 7 ≤ md M) (hd : decode (g_mc M) pc = .ok (.invokevirtual 81, 3)) (hn : pc + 3 = nx) (hk : g_Gd M ret b nx k) : g_Gd M ret b pc (s_strlen k) := by
  intro ls st σ r h
  refine js_row (Mc := M_jLen) (n := 0) h_FjLen rfl (fun ρ' σ as k' r e => ?_) rfl ⟨by rw [hM.1]; exact wj3_109, wj3_112, wj1_13, wj3_110, wj3_111⟩ ⟨by decide, by decide, by decide +kernel⟩ ⟨by show 2 + 1 ≤ _; omega, by decide⟩ hd hn hk (c_jLen h)
  unfold F_jLen at e
  split at e
  · next q =>
    obtain ⟨a, i⟩ := q
    split at e
    · next e0 => cases Nat.eq_of_beq_eq_true e0; exact ⟨i, [], rfl⟩
    · cases e
  · cases e
theorem G_strat {ρ : Type} {M : g_M} {ret : Rt ρ} {b pc nx : Nat} {k : Bk ρ} (hM : mo M = "GalleyRoom$Reader" ∧ 7 ≤ md M) (hd : decode (g_mc M) pc = .ok (.invokevirtual 86, 3)) (hn : pc + 3 = nx) (hk : g_Gd M ret b nx k) : g_Gd M ret b pc (s_strat k) := by
  intro ls st σ r h
  refine js_row (Mc := M_jCh) (n := 1) h_FjCh rfl (fun ρ' σ as k' r e => ?_) rfl ⟨by rw [hM.1]; exact wj3_119, wj3_122, wj1_13, wj3_120, wj3_121⟩ ⟨by decide, by decide, by decide +kernel⟩ ⟨by show 4 + 1 ≤ _; omega, by decide⟩ hd hn hk (c_jCh h)
  unfold F_jCh at e
  split at e
  · next q x =>
    obtain ⟨a, i⟩ := q
    split at e
    · next e0 => cases Nat.eq_of_beq_eq_true e0; exact ⟨i, [.inl x], rfl⟩
    · cases e
  · cases e
