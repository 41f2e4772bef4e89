/-! CONSTRUCTORS: the small ones -/
theorem wk1_143 : (Cond.methodLink "GalleyRoom$Machine" (3 : Nat) ({ cls := "java/lang/Object", name := "<init>", desc := "()V" } : Jvm.MethodName)) ∈ lwG := lwG_1 (List.mem_of_getElem? (i := 143) rfl) rfl
theorem wk1_25 : (Cond.instanceMethod ({ cls := "java/lang/Object", name := "<init>", desc := "()V" } : Jvm.MethodName)) ∈ lwG := lwG_1 (List.mem_of_getElem? (i := 25) rfl) rfl
theorem wk1_26 : (Cond.code ({ cls := "java/lang/Object", name := "<init>", desc := "()V" } : Jvm.MethodName) object_method_1_code (1 : Nat) (Option.none : Option Jvm.ClassFile.FieldType)) ∈ lwG := lwG_1 (List.mem_of_getElem? (i := 26) rfl) rfl
theorem wk1_153 : (Cond.arrayClass Jvm.ClassFile.FieldType.long) ∈ lwG := lwG_1 (List.mem_of_getElem? (i := 153) rfl) rfl
theorem wk1_144 : (Cond.fieldLink "GalleyRoom$Machine" (9 : Nat) "GalleyRoom$Machine" "stack" "[J") ∈ lwG := lwG_1 (List.mem_of_getElem? (i := 144) rfl) rfl
theorem wk1_137 : (Cond.methodLink "GalleyRoom$Line" (3 : Nat) ({ cls := "java/lang/Object", name := "<init>", desc := "()V" } : Jvm.MethodName)) ∈ lwG := lwG_1 (List.mem_of_getElem? (i := 137) rfl) rfl
theorem wk1_103 : (Cond.arrayClass Jvm.ClassFile.FieldType.int) ∈ lwG := lwG_1 (List.mem_of_getElem? (i := 103) rfl) rfl
theorem wk1_154 : (Cond.fieldLink "GalleyRoom$Line" (9 : Nat) "GalleyRoom$Line" "facts" "[I") ∈ lwG := lwG_1 (List.mem_of_getElem? (i := 154) rfl) rfl
theorem wk1_138 : (Cond.classLink "GalleyRoom$Line" (15 : Nat) "GalleyRoom$Machine") ∈ lwG := lwG_1 (List.mem_of_getElem? (i := 138) rfl) rfl
theorem wk1_139 : (Cond.instantiable "GalleyRoom$Machine" (2 : Nat)) ∈ lwG := lwG_1 (List.mem_of_getElem? (i := 139) rfl) rfl
theorem wk1_7 : (Cond.initialized "GalleyRoom$Machine") ∈ lwG := lwG_1 (List.mem_of_getElem? (i := 7) rfl) rfl
theorem wk1_142 : (Cond.code ({ cls := "GalleyRoom$Machine", name := "<init>", desc := "()V" } : Jvm.MethodName) prog_6_method_1_code (1 : Nat) (Option.none : Option Jvm.ClassFile.FieldType)) ∈ lwG := lwG_1 (List.mem_of_getElem? (i := 142) rfl) rfl
theorem wk1_141 : (Cond.instanceMethod ({ cls := "GalleyRoom$Machine", name := "<init>", desc := "()V" } : Jvm.MethodName)) ∈ lwG := lwG_1 (List.mem_of_getElem? (i := 141) rfl) rfl
theorem wk1_155 : (Cond.fieldLink "GalleyRoom$Line" (18 : Nat) "GalleyRoom$Line" "machine" "LGalleyRoom$Machine;") ∈ lwG := lwG_1 (List.mem_of_getElem? (i := 155) rfl) rfl
def Mk_4 : cn_M := (RX4, cX4_init, 1, 1, 1, 64, false)
theorem df_4 : ∀ j, j < 2 → defaultValue (tyX4 j) = vp_V [.null, .int 0] j := by decide +kernel
def cs_4 (w : g_W) (a : Nat) : List va_E := [.inr (4, [.ref (a + 1), .int 0]), .inl (wC w 3, (64, .inr (.inl fun _ => 0)))]
set_option maxRecDepth 20000 in
theorem k_4 {l : Launch} {w : g_W} : cn_Met l yX4_init Mk_4 w 4 [.null, .int 0] [] (cs_4 w) := by
  refine cn_entry (by decide) rfl rfl (fun _ => Nat.le_of_ble_eq_true rfl) (fun a p e R s m below meth c lsA C hH hls hl => ?_)
  have l0 : lsA[0]? = some (.val (.ref a)) := hl (0, .ref a) (by simp [lv_args])
  have hL : ∀ q ∈ ([] : List Loc), a ≤ q.base := fun q hq => by cases hq
  have C0 := C
  obtain ⟨c1, c2, c3, c4, c5, c6, c7, c8, c9, c13, c14⟩ := C0
  refine lv_aload_n (k := 0) c1 c2 (by decide +kernel) rfl l0 ?_
  refine cn_obj C (idx := 3) ⟨wk1_143, wk1_25, wk1_26⟩ hls (Nat.le_of_ble_eq_true rfl) (by decide) (by decide +kernel) ?_
  refine lv_aload_n (k := 0) c1 c2 (by decide +kernel) rfl l0 ?_
  refine lv_bipush (n := 64) (v := 64) c1 c2 (by decide +kernel) (by decide +kernel) ?_
  refine cn_newa (L := [.inr (4, [.null, .int 0])]) C hH (atype := .long) (ty := .long) rfl wk1_153 (k := 3) (cA := wC w 3) rfl (fun _ h => h) (n := 64) (N := 64) (a0 := (64, .inr (.inl fun _ => 0))) (fun _ => rfl) (by decide) (by decide) (by decide) (by decide) (by decide) (by decide +kernel) (fun H1 h1 => ?_)
  have p2 : cnH (wD w) s.heap a [.inr (4, [.null, .int 0]), .inl (wC w 3, (64, .inr (.inl fun _ => 0)))] H1 := h1
  refine cn_put (L := [.inr (4, [.null, .int 0]), .inl (wC w 3, (64, .inr (.inl fun _ => 0)))]) C p2 hL (idx := 9) (ci := 4) (sl := 0) (N := 2) (ty := (.array .long)) (fs := [.null, .int 0]) ⟨by decide, TX4, tyX4, rfl, inX4, wk1_144, tyX4_ok, nmX4, rfl, tyX4_ok 0 (by decide)⟩ rfl rfl rfl rfl (by decide +kernel) (fun H3 L3 h3 q3 => ?_)
  have p4 : cnH (wD w) s.heap a [.inr (4, [.ref (a + 1), .int 0]), .inl (wC w 3, (64, .inr (.inl fun _ => 0)))] H3 := h3
  exact cn_ret (CS := cs_4 w a) C p4 q3 (by decide) (by decide) (by decide +kernel)
def Mk_2 : cn_M := (RX2, cX2_init, 1, 2, 3, 74, true)
theorem df_2 : ∀ j, j < 9 → defaultValue (tyX2 j) = vp_V [.null, .null, .int 0, .int 0, .int 0, .int 0, .int 0, .int 0, .int 0] j := by decide +kernel
def cs_2 (w : g_W) (a : Nat) : List va_E := [.inr (2, [.ref (a + 1), .ref (a + 2), .int 0, .int 0, .int 0, .int 0, .int 0, .int 0, .int 0]), .inl (wC w 0, (8, .inl fun _ => 0)), .inr (4, [.ref (a + 3), .int 0]), .inl (wC w 3, (64, .inr (.inl fun _ => 0)))]
set_option maxRecDepth 20000 in
theorem k_2 {l : Launch} {w : g_W} : cn_Met l yX2_init Mk_2 w 2 [.null, .null, .int 0, .int 0, .int 0, .int 0, .int 0, .int 0, .int 0] [] (cs_2 w) := by
  refine cn_entry (by decide) rfl rfl (fun _ => Nat.le_of_ble_eq_true rfl) (fun a p e R s m below meth c lsA C hH hls hl => ?_)
  have l0 : lsA[0]? = some (.val (.ref a)) := hl (0, .ref a) (by simp [lv_args])
  have hL : ∀ q ∈ ([] : List Loc), a ≤ q.base := fun q hq => by cases hq
  have C0 := C
  obtain ⟨c1, c2, c3, c4, c5, c6, c7, c8, c9, c13, c14⟩ := C0
  refine lv_aload_n (k := 0) c1 c2 (by decide +kernel) rfl l0 ?_
  refine cn_obj C (idx := 3) ⟨wk1_137, wk1_25, wk1_26⟩ hls (Nat.le_of_ble_eq_true rfl) (by decide) (by decide +kernel) ?_
  refine lv_aload_n (k := 0) c1 c2 (by decide +kernel) rfl l0 ?_
  refine lv_bipush (n := 8) (v := 8) c1 c2 (by decide +kernel) (by decide +kernel) ?_
  refine cn_newa (L := [.inr (2, [.null, .null, .int 0, .int 0, .int 0, .int 0, .int 0, .int 0, .int 0])]) C hH (atype := .int) (ty := .int) rfl wk1_103 (k := 0) (cA := wC w 0) rfl (fun _ h => h) (n := 8) (N := 8) (a0 := (8, .inl fun _ => 0)) (fun _ => rfl) (by decide) (by decide) (by decide) (by decide) (by decide) (by decide +kernel) (fun H1 h1 => ?_)
  have p2 : cnH (wD w) s.heap a [.inr (2, [.null, .null, .int 0, .int 0, .int 0, .int 0, .int 0, .int 0, .int 0]), .inl (wC w 0, (8, .inl fun _ => 0))] H1 := h1
  refine cn_put (L := [.inr (2, [.null, .null, .int 0, .int 0, .int 0, .int 0, .int 0, .int 0, .int 0]), .inl (wC w 0, (8, .inl fun _ => 0))]) C p2 hL (idx := 9) (ci := 2) (sl := 0) (N := 9) (ty := (.array .int)) (fs := [.null, .null, .int 0, .int 0, .int 0, .int 0, .int 0, .int 0, .int 0]) ⟨by decide, TX2, tyX2, rfl, inX2, wk1_154, tyX2_ok, nmX2, rfl, tyX2_ok 0 (by decide)⟩ rfl rfl rfl rfl (by decide +kernel) (fun H3 L3 h3 q3 => ?_)
  have p4 : cnH (wD w) s.heap a [.inr (2, [.ref (a + 1), .null, .int 0, .int 0, .int 0, .int 0, .int 0, .int 0, .int 0]), .inl (wC w 0, (8, .inl fun _ => 0))] H3 := h3
  refine lv_aload_n (k := 0) c1 c2 (by decide +kernel) rfl l0 ?_
  refine cn_new (L := [.inr (2, [.ref (a + 1), .null, .int 0, .int 0, .int 0, .int 0, .int 0, .int 0, .int 0]), .inl (wC w 0, (8, .inl fun _ => 0))]) C p4 (Cn := RX4) (T := TX4) (N := 2) (ci := 4) (idx := 15) (ty := tyX4) (df := [.null, .int 0]) rfl inX4 tyX4_ok df_4 ⟨wk1_138, wk1_139, wk1_7⟩ (by decide) (by decide) (by decide +kernel) (fun H5 h5 => ?_)
  have p6 : cnH (wD w) s.heap a [.inr (2, [.ref (a + 1), .null, .int 0, .int 0, .int 0, .int 0, .int 0, .int 0, .int 0]), .inl (wC w 0, (8, .inl fun _ => 0)), .inr (4, [.null, .int 0])] H5 := h5
  refine lv_dup c1 c2 (by decide +kernel) rfl ?_
  refine cn_callN (L := [.inr (2, [.ref (a + 1), .null, .int 0, .int 0, .int 0, .int 0, .int 0, .int 0, .int 0]), .inl (wC w 0, (8, .inl fun _ => 0))]) (vs := []) C (k_4) rfl p6 q3 (idx := 17) (n := 0) (fun _ => rfl) rfl rfl (List.mem_of_getElem? (i := 8) rfl) ⟨wk1_142, wk1_7, wk1_141⟩ ⟨by decide, by decide, by decide +kernel⟩ ⟨by decide, by decide⟩ rfl hls (Nat.le_of_ble_eq_true rfl) (by decide +kernel) ⟨by decide, by decide⟩ (fun H7 L7 h7 q7 => ?_)
  have p8 : cnH (wD w) s.heap a [.inr (2, [.ref (a + 1), .null, .int 0, .int 0, .int 0, .int 0, .int 0, .int 0, .int 0]), .inl (wC w 0, (8, .inl fun _ => 0)), .inr (4, [.ref (a + 3), .int 0]), .inl (wC w 3, (64, .inr (.inl fun _ => 0)))] H7 := h7
  refine cn_put (L := [.inr (2, [.ref (a + 1), .null, .int 0, .int 0, .int 0, .int 0, .int 0, .int 0, .int 0]), .inl (wC w 0, (8, .inl fun _ => 0)), .inr (4, [.ref (a + 3), .int 0]), .inl (wC w 3, (64, .inr (.inl fun _ => 0)))]) C p8 q7 (idx := 18) (ci := 2) (sl := 1) (N := 9) (ty := (.object "GalleyRoom$Machine")) (fs := [.ref (a + 1), .null, .int 0, .int 0, .int 0, .int 0, .int 0, .int 0, .int 0]) ⟨by decide, TX2, tyX2, rfl, inX2, wk1_155, tyX2_ok, nmX2, rfl, tyX2_ok 1 (by decide)⟩ rfl rfl rfl rfl (by decide +kernel) (fun H9 L9 h9 q9 => ?_)
  have p10 : cnH (wD w) s.heap a [.inr (2, [.ref (a + 1), .ref (a + 2), .int 0, .int 0, .int 0, .int 0, .int 0, .int 0, .int 0]), .inl (wC w 0, (8, .inl fun _ => 0)), .inr (4, [.ref (a + 3), .int 0]), .inl (wC w 3, (64, .inr (.inl fun _ => 0)))] H9 := h9
  exact cn_ret (CS := cs_2 w a) C p10 q9 (by decide) (by decide) (by decide +kernel)
