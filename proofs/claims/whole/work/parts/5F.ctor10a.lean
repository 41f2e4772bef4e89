/-! CONSTRUCTORS: the model -/
theorem wx5_95 : (Cond.methodLink "GalleyRoomModel" (18 : Nat) ({ cls := "java/lang/Object", name := "<init>", desc := "()V" } : Jvm.MethodName)) ∈ lwG := lwG_5 (List.mem_of_getElem? (i := 95) rfl) rfl
theorem wx1_25 : (Cond.instanceMethod ({ cls := "java/lang/Object", name := "<init>", desc := "()V" } : Jvm.MethodName)) ∈ lwG := lwG_1 (List.mem_of_getElem? (i := 25) rfl) rfl
theorem wx1_26 : (Cond.code ({ cls := "java/lang/Object", name := "<init>", desc := "()V" } : Jvm.MethodName) object_method_1_code (1 : Nat) (Option.none : Option Jvm.ClassFile.FieldType)) ∈ lwG := lwG_1 (List.mem_of_getElem? (i := 26) rfl) rfl
theorem wx1_103 : (Cond.arrayClass Jvm.ClassFile.FieldType.int) ∈ lwG := lwG_1 (List.mem_of_getElem? (i := 103) rfl) rfl
theorem wx5_105 : (Cond.fieldLink "GalleyRoomModel" (7 : Nat) "GalleyRoomModel" "refused" "[I") ∈ lwG := lwG_5 (List.mem_of_getElem? (i := 105) rfl) rfl
theorem wx5_106 : (Cond.fieldLink "GalleyRoomModel" (24 : Nat) "GalleyRoomModel" "kept" "[I") ∈ lwG := lwG_5 (List.mem_of_getElem? (i := 106) rfl) rfl
theorem wx5_107 : (Cond.fieldLink "GalleyRoomModel" (27 : Nat) "GalleyRoomModel" "images" "[I") ∈ lwG := lwG_5 (List.mem_of_getElem? (i := 107) rfl) rfl
theorem wx2_72 : (Cond.arrayClass Jvm.ClassFile.FieldType.boolean) ∈ lwG := lwG_2 (List.mem_of_getElem? (i := 72) rfl) rfl
theorem wx5_108 : (Cond.fieldLink "GalleyRoomModel" (30 : Nat) "GalleyRoomModel" "hasImage" "[Z") ∈ lwG := lwG_5 (List.mem_of_getElem? (i := 108) rfl) rfl
theorem wx5_109 : (Cond.fieldLink "GalleyRoomModel" (34 : Nat) "GalleyRoomModel" "aside" "[I") ∈ lwG := lwG_5 (List.mem_of_getElem? (i := 109) rfl) rfl
theorem wx2_73 : (Cond.arrayClass Jvm.ClassFile.FieldType.byte) ∈ lwG := lwG_2 (List.mem_of_getElem? (i := 73) rfl) rfl
theorem wx5_111 : (Cond.fieldLink "GalleyRoomModel" (37 : Nat) "GalleyRoomModel" "words" "[B") ∈ lwG := lwG_5 (List.mem_of_getElem? (i := 111) rfl) rfl
theorem wx5_115 : (Cond.fieldLink "GalleyRoomModel" (41 : Nat) "GalleyRoomModel" "tape" "[B") ∈ lwG := lwG_5 (List.mem_of_getElem? (i := 115) rfl) rfl
theorem wx5_116 : (Cond.fieldLink "GalleyRoomModel" (44 : Nat) "GalleyRoomModel" "five" "[I") ∈ lwG := lwG_5 (List.mem_of_getElem? (i := 116) rfl) rfl
theorem wx5_118 : (Cond.fieldLink "GalleyRoomModel" (47 : Nat) "GalleyRoomModel" "fault" "I") ∈ lwG := lwG_5 (List.mem_of_getElem? (i := 118) rfl) rfl
theorem wx5_119 : (Cond.fieldLink "GalleyRoomModel" (50 : Nat) "GalleyRoomModel" "code" "[I") ∈ lwG := lwG_5 (List.mem_of_getElem? (i := 119) rfl) rfl
theorem wx5_120 : (Cond.fieldLink "GalleyRoomModel" (53 : Nat) "GalleyRoomModel" "value" "[I") ∈ lwG := lwG_5 (List.mem_of_getElem? (i := 120) rfl) rfl
theorem wx5_121 : (Cond.fieldLink "GalleyRoomModel" (56 : Nat) "GalleyRoomModel" "placed" "[I") ∈ lwG := lwG_5 (List.mem_of_getElem? (i := 121) rfl) rfl
theorem wx5_126 : (Cond.fieldLink "GalleyRoomModel" (59 : Nat) "GalleyRoomModel" "op" "[I") ∈ lwG := lwG_5 (List.mem_of_getElem? (i := 126) rfl) rfl
theorem wx5_127 : (Cond.fieldLink "GalleyRoomModel" (62 : Nat) "GalleyRoomModel" "opWith" "[I") ∈ lwG := lwG_5 (List.mem_of_getElem? (i := 127) rfl) rfl
theorem wx5_132 : (Cond.fieldLink "GalleyRoomModel" (65 : Nat) "GalleyRoomModel" "asked" "[I") ∈ lwG := lwG_5 (List.mem_of_getElem? (i := 132) rfl) rfl
theorem wx1_153 : (Cond.arrayClass Jvm.ClassFile.FieldType.long) ∈ lwG := lwG_1 (List.mem_of_getElem? (i := 153) rfl) rfl
theorem wx5_137 : (Cond.fieldLink "GalleyRoomModel" (68 : Nat) "GalleyRoomModel" "stack" "[J") ∈ lwG := lwG_5 (List.mem_of_getElem? (i := 137) rfl) rfl
theorem wx5_139 : (Cond.fieldLink "GalleyRoomModel" (72 : Nat) "GalleyRoomModel" "stands" "[I") ∈ lwG := lwG_5 (List.mem_of_getElem? (i := 139) rfl) rfl
theorem wx5_146 : (Cond.fieldLink "GalleyRoomModel" (75 : Nat) "GalleyRoomModel" "ending" "[I") ∈ lwG := lwG_5 (List.mem_of_getElem? (i := 146) rfl) rfl
theorem wx5_148 : (Cond.fieldLink "GalleyRoomModel" (78 : Nat) "GalleyRoomModel" "left0" "[I") ∈ lwG := lwG_5 (List.mem_of_getElem? (i := 148) rfl) rfl
theorem wx5_149 : (Cond.fieldLink "GalleyRoomModel" (81 : Nat) "GalleyRoomModel" "leftAhead" "[I") ∈ lwG := lwG_5 (List.mem_of_getElem? (i := 149) rfl) rfl
theorem wx5_151 : (Cond.fieldLink "GalleyRoomModel" (84 : Nat) "GalleyRoomModel" "fitting" "[Z") ∈ lwG := lwG_5 (List.mem_of_getElem? (i := 151) rfl) rfl
theorem wx5_152 : (Cond.fieldLink "GalleyRoomModel" (87 : Nat) "GalleyRoomModel" "price" "[I") ∈ lwG := lwG_5 (List.mem_of_getElem? (i := 152) rfl) rfl
theorem wx5_153 : (Cond.fieldLink "GalleyRoomModel" (90 : Nat) "GalleyRoomModel" "gain" "[I") ∈ lwG := lwG_5 (List.mem_of_getElem? (i := 153) rfl) rfl
theorem wx5_154 : (Cond.fieldLink "GalleyRoomModel" (93 : Nat) "GalleyRoomModel" "sum0" "[I") ∈ lwG := lwG_5 (List.mem_of_getElem? (i := 154) rfl) rfl
theorem wx5_155 : (Cond.fieldLink "GalleyRoomModel" (96 : Nat) "GalleyRoomModel" "ways0" "[J") ∈ lwG := lwG_5 (List.mem_of_getElem? (i := 155) rfl) rfl
theorem wx5_156 : (Cond.fieldLink "GalleyRoomModel" (99 : Nat) "GalleyRoomModel" "comes" "[Z") ∈ lwG := lwG_5 (List.mem_of_getElem? (i := 156) rfl) rfl
theorem wx5_157 : (Cond.fieldLink "GalleyRoomModel" (102 : Nat) "GalleyRoomModel" "spaces" "[I") ∈ lwG := lwG_5 (List.mem_of_getElem? (i := 157) rfl) rfl
theorem wx5_158 : (Cond.fieldLink "GalleyRoomModel" (105 : Nat) "GalleyRoomModel" "lengths" "[I") ∈ lwG := lwG_5 (List.mem_of_getElem? (i := 158) rfl) rfl
theorem wx5_159 : (Cond.fieldLink "GalleyRoomModel" (108 : Nat) "GalleyRoomModel" "spaceMany" "[I") ∈ lwG := lwG_5 (List.mem_of_getElem? (i := 159) rfl) rfl
theorem wx5_160 : (Cond.fieldLink "GalleyRoomModel" (111 : Nat) "GalleyRoomModel" "facts" "[I") ∈ lwG := lwG_5 (List.mem_of_getElem? (i := 160) rfl) rfl
theorem wx5_161 : (Cond.fieldLink "GalleyRoomModel" (114 : Nat) "GalleyRoomModel" "shares" "[J") ∈ lwG := lwG_5 (List.mem_of_getElem? (i := 161) rfl) rfl
theorem wx5_162 : (Cond.fieldLink "GalleyRoomModel" (117 : Nat) "GalleyRoomModel" "stopped0" "I") ∈ lwG := lwG_5 (List.mem_of_getElem? (i := 162) rfl) rfl
theorem wx5_168 : (Cond.fieldLink "GalleyRoomModel" (120 : Nat) "GalleyRoomModel" "sums" "[J") ∈ lwG := lwG_5 (List.mem_of_getElem? (i := 168) rfl) rfl
theorem wx5_169 : (Cond.fieldLink "GalleyRoomModel" (123 : Nat) "GalleyRoomModel" "drawnMoved" "[I") ∈ lwG := lwG_5 (List.mem_of_getElem? (i := 169) rfl) rfl
theorem wx5_170 : (Cond.fieldLink "GalleyRoomModel" (126 : Nat) "GalleyRoomModel" "drawnMany" "I") ∈ lwG := lwG_5 (List.mem_of_getElem? (i := 170) rfl) rfl
theorem wx5_96 : (Cond.methodLink "GalleyRoomModel" (129 : Nat) ({ cls := "GalleyRoomModel", name := "laysAllWords", desc := "()V" } : Jvm.MethodName)) ∈ lwG := lwG_5 (List.mem_of_getElem? (i := 96) rfl) rfl
theorem wx5_98 : (Cond.instanceMethod ({ cls := "GalleyRoomModel", name := "laysAllWords", desc := "()V" } : Jvm.MethodName)) ∈ lwG := lwG_5 (List.mem_of_getElem? (i := 98) rfl) rfl
theorem wx5_99 : (Cond.code ({ cls := "GalleyRoomModel", name := "laysAllWords", desc := "()V" } : Jvm.MethodName) prog_12_method_73_code (2 : Nat) (Option.none : Option Jvm.ClassFile.FieldType)) ∈ lwG := lwG_5 (List.mem_of_getElem? (i := 99) rfl) rfl
theorem wx1_12 : (Cond.initialized "GalleyRoomModel") ∈ lwG := lwG_1 (List.mem_of_getElem? (i := 12) rfl) rfl
def Mk_10 : cn_M := (RX10, cX10_init, 1, 4, 32, 70274, false, true)
theorem df_10 : ∀ j, j < 68 → defaultValue (tyX10 j) = vp_V [.int 0, .null, .null, .null, .null, .null, .int 0, .null, .int 0, .int 0, .int 0, .null, .null, .int 0, .int 0, .null, .null, .null, .int 0, .int 0, .int 0, .int 0, .null, .null, .int 0, .int 0, .int 0, .int 0, .null, .int 0, .int 0, .int 0, .int 0, .null, .long 0, .null, .int 0, .int 0, .int 0, .int 0, .int 0, .int 0, .null, .int 0, .null, .null, .int 0, .null, .null, .null, .null, .null, .null, .null, .null, .null, .null, .null, .int 0, .int 0, .int 0, .int 0, .int 0, .int 0, .null, .null, .int 0, .int 0] j := by decide +kernel
def cs_10 (w : g_W) (f : Nat → Int32) (a : Nat) : List va_E := (.inr (10, [.int 0, .ref (a + 1), .ref (a + 2), .ref (a + 3), .ref (a + 4), .ref (a + 5), .int 0, .ref (a + 6), .int 0, .int 0, .int 0, .ref (a + 7), .ref (a + 8), .int 0, .int (-1), .ref (a + 9), .ref (a + 10), .ref (a + 11), .int 0, .int 0, .int 0, .int 0, .ref (a + 12), .ref (a + 13), .int 0, .int 0, .int 0, .int 0, .ref (a + 14), .int 0, .int 0, .int 0, .int 0, .ref (a + 15), .long 0, .ref (a + 16), .int 0, .int 0, .int 0, .int 0, .int 0, .int 0, .ref (a + 17), .int 0, .ref (a + 18), .ref (a + 19), .int 0, .ref (a + 20), .ref (a + 21), .ref (a + 22), .ref (a + 23), .ref (a + 24), .ref (a + 25), .ref (a + 26), .ref (a + 27), .ref (a + 28), .ref (a + 29), .ref (a + 30), .int (-1), .int 0, .int 0, .int 0, .int 0, .int 0, .ref (a + 31), .ref (a + 32), .int (-1), .int 0]) :: .inl (wC w 0, (7, .inl fun _ => 0)) :: .inl (wC w 0, (5665, .inl (upd (upd (upd (fun _ => 0) (51 : Int32).toNatClampNeg 1) (53 : Int32).toNatClampNeg 30) (57 : Int32).toNatClampNeg (-1)))) :: .inl (wC w 0, (11330, .inl fun _ => 0)) :: .inl (wC w 2, (2, .inl fun _ => 0)) :: .inl (wC w 0, (30, .inl fun _ => 0)) :: .inl (wC w 1, (138, .inl f)) :: .inl (wC w 1, (400, .inl fun _ => 0)) :: .inl (wC w 0, (5, .inl fun _ => 0)) :: .inl (wC w 0, (401, .inl fun _ => 0)) :: .inl (wC w 0, (401, .inl fun _ => 0)) :: .inl (wC w 0, (401, .inl fun _ => 0)) :: .inl (wC w 0, (800, .inl fun _ => 0)) :: .inl (wC w 0, (800, .inl fun _ => 0)) :: .inl (wC w 0, (8, .inl fun _ => 0)) :: .inl (wC w 3, (400, .inr (.inl fun _ => 0))) :: .inl (wC w 0, (12, .inl fun _ => 0)) :: .inl (wC w 0, (24, .inl fun _ => 0)) :: .inl (wC w 0, (256, .inl fun _ => 0)) :: .inl (wC w 0, (256, .inl fun _ => 0)) :: .inl (wC w 2, (15625, .inl fun _ => 0)) :: .inl (wC w 0, (15625, .inl fun _ => 0)) :: .inl (wC w 0, (15625, .inl fun _ => 0)) :: .inl (wC w 0, (625, .inl fun _ => 0)) :: .inl (wC w 3, (625, .inr (.inl fun _ => 0))) :: .inl (wC w 2, (625, .inl fun _ => 0)) :: .inl (wC w 0, (26, .inl fun _ => 0)) :: .inl (wC w 0, (26, .inl fun _ => 0)) :: .inl (wC w 0, (2, .inl fun _ => 0)) :: .inl (wC w 0, (96, .inl fun _ => 0)) :: .inl (wC w 3, (21, .inr (.inl fun _ => 0))) :: .inl (wC w 3, (2, .inr (.inl fun _ => 0))) :: .inl (wC w 0, (15, .inl fun _ => 0)) :: [])
def k10L (w : g_W) (a : Nat) (f : Nat → Int32) : List va_E := [.inr (10, [.int 0, .ref (a + 1), .ref (a + 2), .ref (a + 3), .ref (a + 4), .ref (a + 5), .int 0, .null, .int 0, .int 0, .int 0, .null, .null, .int 0, .int 0, .null, .null, .null, .int 0, .int 0, .int 0, .int 0, .null, .null, .int 0, .int 0, .int 0, .int 0, .null, .int 0, .int 0, .int 0, .int 0, .null, .long 0, .null, .int 0, .int 0, .int 0, .int 0, .int 0, .int 0, .null, .int 0, .null, .null, .int 0, .null, .null, .null, .null, .null, .null, .null, .null, .null, .null, .null, .int 0, .int 0, .int 0, .int 0, .int 0, .int 0, .null, .null, .int 0, .int 0]), .inl (wC w 0, (7, .inl fun _ => 0)), .inl (wC w 0, (5665, .inl fun _ => 0)), .inl (wC w 0, (11330, .inl fun _ => 0)), .inl (wC w 2, (2, .inl fun _ => 0)), .inl (wC w 0, (30, .inl fun _ => 0)), .inl (wC w 1, (138, .inl f))]
set_option maxRecDepth 20000 in
theorem m0_Rep {w : g_W} {a : Nat} {B H : Heap} {f : Nat → Int32} (hr : ∀ j, j < 33 → wr w (mkj j) 0 = a + j) (hf : ∀ z, z < 138 → f z = nth mwords z 0) (h : cnH (wD w) B a (cs_10 w f a) H) : g_Rep (wM w a) sg0 H := by
  refine ⟨by rw [h.1]; rfl, fun k i hk hv => ?_, fun k i hk hk9 hv => ?_⟩
  case refine_2 =>
    have := grp_lt (show Nat.beq (nth grpTbl k 9) 1 = true from hv.1)
    omega
  obtain ⟨j, hj, rfl, rfl⟩ := wM_vo hv
  show va_at (wD w) vwCl (wr w (mkj j) 0, _) H
  rw [hr j hj]
  match j, hj with
  | 0, _ =>
    have r1 : wr w 42 0 = a + 1 := hr 1 (by decide)
    have r2 : wr w 43 0 = a + 2 := hr 2 (by decide)
    have r3 : wr w 44 0 = a + 3 := hr 3 (by decide)
    have r4 : wr w 45 0 = a + 4 := hr 4 (by decide)
    have r5 : wr w 46 0 = a + 5 := hr 5 (by decide)
    have r6 : wr w 47 0 = a + 6 := hr 6 (by decide)
    have r7 : wr w 48 0 = a + 7 := hr 7 (by decide)
    have r8 : wr w 49 0 = a + 8 := hr 8 (by decide)
    have r9 : wr w 50 0 = a + 9 := hr 9 (by decide)
    have r10 : wr w 51 0 = a + 10 := hr 10 (by decide)
    have r11 : wr w 52 0 = a + 11 := hr 11 (by decide)
    have r12 : wr w 53 0 = a + 12 := hr 12 (by decide)
    have r13 : wr w 54 0 = a + 13 := hr 13 (by decide)
    have r14 : wr w 55 0 = a + 14 := hr 14 (by decide)
    have r15 : wr w 56 0 = a + 15 := hr 15 (by decide)
    have r16 : wr w 57 0 = a + 16 := hr 16 (by decide)
    have r17 : wr w 58 0 = a + 17 := hr 17 (by decide)
    have r18 : wr w 59 0 = a + 18 := hr 18 (by decide)
    have r19 : wr w 60 0 = a + 19 := hr 19 (by decide)
    have r20 : wr w 61 0 = a + 20 := hr 20 (by decide)
    have r21 : wr w 62 0 = a + 21 := hr 21 (by decide)
    have r22 : wr w 63 0 = a + 22 := hr 22 (by decide)
    have r23 : wr w 64 0 = a + 23 := hr 23 (by decide)
    have r24 : wr w 65 0 = a + 24 := hr 24 (by decide)
    have r25 : wr w 66 0 = a + 25 := hr 25 (by decide)
    have r26 : wr w 67 0 = a + 26 := hr 26 (by decide)
    have r27 : wr w 68 0 = a + 27 := hr 27 (by decide)
    have r28 : wr w 69 0 = a + 28 := hr 28 (by decide)
    have r29 : wr w 70 0 = a + 29 := hr 29 (by decide)
    have r30 : wr w 71 0 = a + 30 := hr 30 (by decide)
    have r31 : wr w 72 0 = a + 31 := hr 31 (by decide)
    have r32 : wr w 73 0 = a + 32 := hr 32 (by decide)
    have eo : g_cell (wM w a) sg0 10 0 = .inr (10, (.int 0 :: .ref (wr w 42 0) :: .ref (wr w 43 0) :: .ref (wr w 44 0) :: .ref (wr w 45 0) :: .ref (wr w 46 0) :: .int 0 :: .ref (wr w 47 0) :: .int 0 :: .int 0 :: .int 0 :: .ref (wr w 48 0) :: .ref (wr w 49 0) :: .int 0 :: .int (-1) :: .ref (wr w 50 0) :: .ref (wr w 51 0) :: .ref (wr w 52 0) :: .int 0 :: .int 0 :: .int 0 :: .int 0 :: .ref (wr w 53 0) :: .ref (wr w 54 0) :: .int 0 :: .int 0 :: .int 0 :: .int 0 :: .ref (wr w 55 0) :: .int 0 :: .int 0 :: .int 0 :: .int 0 :: .ref (wr w 56 0) :: .long 0 :: .ref (wr w 57 0) :: .int 0 :: .int 0 :: .int 0 :: .int 0 :: .int 0 :: .int 0 :: .ref (wr w 58 0) :: .int 0 :: .ref (wr w 59 0) :: .ref (wr w 60 0) :: .int 0 :: .ref (wr w 61 0) :: .ref (wr w 62 0) :: .ref (wr w 63 0) :: .ref (wr w 64 0) :: .ref (wr w 65 0) :: .ref (wr w 66 0) :: .ref (wr w 67 0) :: .ref (wr w 68 0) :: .ref (wr w 69 0) :: .ref (wr w 70 0) :: .ref (wr w 71 0) :: .int (-1) :: .int 0 :: .int 0 :: .int 0 :: .int 0 :: .int 0 :: .ref (wr w 72 0) :: .ref (wr w 73 0) :: .int (-1) :: .int 0 :: [])) := rfl
    show va_at (wD w) vwCl (a + 0, g_cell (wM w a) sg0 10 0) H
    rw [eo, r1, r2, r3, r4, r5, r6, r7, r8, r9, r10, r11, r12, r13, r14, r15, r16, r17, r18, r19, r20, r21, r22, r23, r24, r25, r26, r27, r28, r29, r30, r31, r32]
    exact h.2.2 0 _ rfl
  | 1, _ => exact h.2.2 1 _ rfl
  | 2, _ => exact h.2.2 2 _ rfl
  | 3, _ => exact h.2.2 3 _ rfl
  | 4, _ => exact h.2.2 4 _ rfl
  | 5, _ => exact h.2.2 5 _ rfl
  | 6, _ =>
    have ho : H[a + 6]? = some (arrV (wC w 1) 138 (fun z => .int (f z))) := h.2.2 6 _ rfl
    show H[a + 6]? = some (arrV (wC w 1) 138 (fun z => .int (rI sg0 47 0 z)))
    rw [ho]
    exact congrArg some (g_arrV_congr (fun z hz => congrArg Value.int (hf z hz)))
  | 7, _ => exact h.2.2 7 _ rfl
  | 8, _ => exact h.2.2 8 _ rfl
  | 9, _ => exact h.2.2 9 _ rfl
  | 10, _ => exact h.2.2 10 _ rfl
  | 11, _ => exact h.2.2 11 _ rfl
  | 12, _ => exact h.2.2 12 _ rfl
  | 13, _ => exact h.2.2 13 _ rfl
  | 14, _ => exact h.2.2 14 _ rfl
  | 15, _ => exact h.2.2 15 _ rfl
  | 16, _ => exact h.2.2 16 _ rfl
  | 17, _ => exact h.2.2 17 _ rfl
  | 18, _ => exact h.2.2 18 _ rfl
  | 19, _ => exact h.2.2 19 _ rfl
  | 20, _ => exact h.2.2 20 _ rfl
  | 21, _ => exact h.2.2 21 _ rfl
  | 22, _ => exact h.2.2 22 _ rfl
  | 23, _ => exact h.2.2 23 _ rfl
  | 24, _ => exact h.2.2 24 _ rfl
  | 25, _ => exact h.2.2 25 _ rfl
  | 26, _ => exact h.2.2 26 _ rfl
  | 27, _ => exact h.2.2 27 _ rfl
  | 28, _ => exact h.2.2 28 _ rfl
  | 29, _ => exact h.2.2 29 _ rfl
  | 30, _ => exact h.2.2 30 _ rfl
  | 31, _ => exact h.2.2 31 _ rfl
  | 32, _ => exact h.2.2 32 _ rfl
  | n + 33, h => exact absurd h (by omega)
set_option maxRecDepth 20000 in
theorem k10_w0 {p : Program} {l : Launch} {e : Env} {R : Room} {s : State} {m : MethodId} {args : Array Value} {below : List Frame} {meth : Method} {c : Code} {w : g_W} {H : Heap} {locs : List Loc} {cells slots a : Nat} {lsA : Array Slot} {Q : State → Prop} (C : cn_Ctx Mk_10 p l e R s m args below meth c w) {f : Nat → Int32} (hL : ∀ q ∈ locs, a ≤ q.base) (p0 : cnH (wD w) s.heap a (k10L w a f) H) (hf : ∀ z, z < 0 → f z = nth mwords z 0)
    (kk : ∀ (H : Heap) (locs : List Loc) (f : Nat → Int32), (∀ q ∈ locs, a ≤ q.base) → cnH (wD w) s.heap a (k10L w a f) H → (∀ z, z < 23 → f z = nth mwords z 0) → W p l e R s m args below meth c H locs cells slots Q (F0 m 183 lsA [.ref (a + 6), .ref a])) : W p l e R s m args below meth c H locs cells slots Q (F0 m 51 lsA [.ref (a + 6), .ref a]) := by
  have C0 := C
  obtain ⟨c1, c2, c3, c4, c5, c6, c7, c8, c9, c13, c14⟩ := C0
  refine W.eq (g2 := F0 m 51 lsA [.ref (a + 6), .ref a]) rfl ?_
  refine lv_dup c1 c2 (by decide +kernel) rfl ?_
  refine lv_iconst (n := 0) (v := 0) c1 c2 (by decide +kernel) (by decide +kernel) ?_
  refine lv_bipush (n := 99) (v := 99) c1 c2 (by decide +kernel) (by decide +kernel) ?_
  refine cn_bast C p0 hL (j := 6) (n := 138) rfl (i := 0) (x := 99) (by unfold vp_in; decide) (by decide +kernel) (fun H0 L0 h0 hL0 => ?_)
  obtain ⟨f0, hf0, p0⟩ : ∃ f' : Nat → Int32, (∀ z, z < 1 → f' z = nth mwords z 0) ∧ cnH (wD w) s.heap a (k10L w a f') H0 := ⟨_, bst_next hf (by decide) (by decide), h0⟩
  clear h0
  refine W.eq (g2 := F0 m 56 lsA [.ref (a + 6), .ref a]) rfl ?_
  refine lv_dup c1 c2 (by decide +kernel) rfl ?_
  refine lv_iconst (n := 1) (v := 1) c1 c2 (by decide +kernel) (by decide +kernel) ?_
  refine lv_bipush (n := 111) (v := 111) c1 c2 (by decide +kernel) (by decide +kernel) ?_
  refine cn_bast C p0 hL0 (j := 6) (n := 138) rfl (i := 1) (x := 111) (by unfold vp_in; decide) (by decide +kernel) (fun H1 L1 h1 hL1 => ?_)
  obtain ⟨f1, hf1, p1⟩ : ∃ f' : Nat → Int32, (∀ z, z < 2 → f' z = nth mwords z 0) ∧ cnH (wD w) s.heap a (k10L w a f') H1 := ⟨_, bst_next hf0 (by decide) (by decide), h1⟩
  clear h1
  refine W.eq (g2 := F0 m 61 lsA [.ref (a + 6), .ref a]) rfl ?_
  refine lv_dup c1 c2 (by decide +kernel) rfl ?_
  refine lv_iconst (n := 2) (v := 2) c1 c2 (by decide +kernel) (by decide +kernel) ?_
  refine lv_bipush (n := 115) (v := 115) c1 c2 (by decide +kernel) (by decide +kernel) ?_
  refine cn_bast C p1 hL1 (j := 6) (n := 138) rfl (i := 2) (x := 115) (by unfold vp_in; decide) (by decide +kernel) (fun H2 L2 h2 hL2 => ?_)
  obtain ⟨f2, hf2, p2⟩ : ∃ f' : Nat → Int32, (∀ z, z < 3 → f' z = nth mwords z 0) ∧ cnH (wD w) s.heap a (k10L w a f') H2 := ⟨_, bst_next hf1 (by decide) (by decide), h2⟩
  clear h2
  refine W.eq (g2 := F0 m 66 lsA [.ref (a + 6), .ref a]) rfl ?_
  refine lv_dup c1 c2 (by decide +kernel) rfl ?_
  refine lv_iconst (n := 3) (v := 3) c1 c2 (by decide +kernel) (by decide +kernel) ?_
  refine lv_bipush (n := 116) (v := 116) c1 c2 (by decide +kernel) (by decide +kernel) ?_
  refine cn_bast C p2 hL2 (j := 6) (n := 138) rfl (i := 3) (x := 116) (by unfold vp_in; decide) (by decide +kernel) (fun H3 L3 h3 hL3 => ?_)
  obtain ⟨f3, hf3, p3⟩ : ∃ f' : Nat → Int32, (∀ z, z < 4 → f' z = nth mwords z 0) ∧ cnH (wD w) s.heap a (k10L w a f') H3 := ⟨_, bst_next hf2 (by decide) (by decide), h3⟩
  clear h3
  refine W.eq (g2 := F0 m 71 lsA [.ref (a + 6), .ref a]) rfl ?_
  refine lv_dup c1 c2 (by decide +kernel) rfl ?_
  refine lv_iconst (n := 4) (v := 4) c1 c2 (by decide +kernel) (by decide +kernel) ?_
  refine lv_bipush (n := 115) (v := 115) c1 c2 (by decide +kernel) (by decide +kernel) ?_
  refine cn_bast C p3 hL3 (j := 6) (n := 138) rfl (i := 4) (x := 115) (by unfold vp_in; decide) (by decide +kernel) (fun H4 L4 h4 hL4 => ?_)
  obtain ⟨f4, hf4, p4⟩ : ∃ f' : Nat → Int32, (∀ z, z < 5 → f' z = nth mwords z 0) ∧ cnH (wD w) s.heap a (k10L w a f') H4 := ⟨_, bst_next hf3 (by decide) (by decide), h4⟩
  clear h4
  refine W.eq (g2 := F0 m 76 lsA [.ref (a + 6), .ref a]) rfl ?_
  refine lv_dup c1 c2 (by decide +kernel) rfl ?_
  refine lv_iconst (n := 5) (v := 5) c1 c2 (by decide +kernel) (by decide +kernel) ?_
  refine lv_bipush (n := 32) (v := 32) c1 c2 (by decide +kernel) (by decide +kernel) ?_
  refine cn_bast C p4 hL4 (j := 6) (n := 138) rfl (i := 5) (x := 32) (by unfold vp_in; decide) (by decide +kernel) (fun H5 L5 h5 hL5 => ?_)
  obtain ⟨f5, hf5, p5⟩ : ∃ f' : Nat → Int32, (∀ z, z < 6 → f' z = nth mwords z 0) ∧ cnH (wD w) s.heap a (k10L w a f') H5 := ⟨_, bst_next hf4 (by decide) (by decide), h5⟩
  clear h5
  refine W.eq (g2 := F0 m 81 lsA [.ref (a + 6), .ref a]) rfl ?_
  refine lv_dup c1 c2 (by decide +kernel) rfl ?_
  refine lv_bipush (n := 6) (v := 6) c1 c2 (by decide +kernel) (by decide +kernel) ?_
  refine lv_bipush (n := 112) (v := 112) c1 c2 (by decide +kernel) (by decide +kernel) ?_
  refine cn_bast C p5 hL5 (j := 6) (n := 138) rfl (i := 6) (x := 112) (by unfold vp_in; decide) (by decide +kernel) (fun H6 L6 h6 hL6 => ?_)
  obtain ⟨f6, hf6, p6⟩ : ∃ f' : Nat → Int32, (∀ z, z < 7 → f' z = nth mwords z 0) ∧ cnH (wD w) s.heap a (k10L w a f') H6 := ⟨_, bst_next hf5 (by decide) (by decide), h6⟩
  clear h6
  refine W.eq (g2 := F0 m 87 lsA [.ref (a + 6), .ref a]) rfl ?_
  refine lv_dup c1 c2 (by decide +kernel) rfl ?_
  refine lv_bipush (n := 7) (v := 7) c1 c2 (by decide +kernel) (by decide +kernel) ?_
  refine lv_bipush (n := 97) (v := 97) c1 c2 (by decide +kernel) (by decide +kernel) ?_
  refine cn_bast C p6 hL6 (j := 6) (n := 138) rfl (i := 7) (x := 97) (by unfold vp_in; decide) (by decide +kernel) (fun H7 L7 h7 hL7 => ?_)
  obtain ⟨f7, hf7, p7⟩ : ∃ f' : Nat → Int32, (∀ z, z < 8 → f' z = nth mwords z 0) ∧ cnH (wD w) s.heap a (k10L w a f') H7 := ⟨_, bst_next hf6 (by decide) (by decide), h7⟩
  clear h7
  refine W.eq (g2 := F0 m 93 lsA [.ref (a + 6), .ref a]) rfl ?_
  refine lv_dup c1 c2 (by decide +kernel) rfl ?_
  refine lv_bipush (n := 8) (v := 8) c1 c2 (by decide +kernel) (by decide +kernel) ?_
  refine lv_bipush (n := 121) (v := 121) c1 c2 (by decide +kernel) (by decide +kernel) ?_
  refine cn_bast C p7 hL7 (j := 6) (n := 138) rfl (i := 8) (x := 121) (by unfold vp_in; decide) (by decide +kernel) (fun H8 L8 h8 hL8 => ?_)
  obtain ⟨f8, hf8, p8⟩ : ∃ f' : Nat → Int32, (∀ z, z < 9 → f' z = nth mwords z 0) ∧ cnH (wD w) s.heap a (k10L w a f') H8 := ⟨_, bst_next hf7 (by decide) (by decide), h8⟩
  clear h8
  refine W.eq (g2 := F0 m 99 lsA [.ref (a + 6), .ref a]) rfl ?_
  refine lv_dup c1 c2 (by decide +kernel) rfl ?_
  refine lv_bipush (n := 9) (v := 9) c1 c2 (by decide +kernel) (by decide +kernel) ?_
  refine lv_bipush (n := 115) (v := 115) c1 c2 (by decide +kernel) (by decide +kernel) ?_
  refine cn_bast C p8 hL8 (j := 6) (n := 138) rfl (i := 9) (x := 115) (by unfold vp_in; decide) (by decide +kernel) (fun H9 L9 h9 hL9 => ?_)
  obtain ⟨f9, hf9, p9⟩ : ∃ f' : Nat → Int32, (∀ z, z < 10 → f' z = nth mwords z 0) ∧ cnH (wD w) s.heap a (k10L w a f') H9 := ⟨_, bst_next hf8 (by decide) (by decide), h9⟩
  clear h9
  refine W.eq (g2 := F0 m 105 lsA [.ref (a + 6), .ref a]) rfl ?_
  refine lv_dup c1 c2 (by decide +kernel) rfl ?_
  refine lv_bipush (n := 10) (v := 10) c1 c2 (by decide +kernel) (by decide +kernel) ?_
  refine lv_bipush (n := 32) (v := 32) c1 c2 (by decide +kernel) (by decide +kernel) ?_
  refine cn_bast C p9 hL9 (j := 6) (n := 138) rfl (i := 10) (x := 32) (by unfold vp_in; decide) (by decide +kernel) (fun H10 L10 h10 hL10 => ?_)
  obtain ⟨f10, hf10, p10⟩ : ∃ f' : Nat → Int32, (∀ z, z < 11 → f' z = nth mwords z 0) ∧ cnH (wD w) s.heap a (k10L w a f') H10 := ⟨_, bst_next hf9 (by decide) (by decide), h10⟩
  clear h10
  refine W.eq (g2 := F0 m 111 lsA [.ref (a + 6), .ref a]) rfl ?_
  refine lv_dup c1 c2 (by decide +kernel) rfl ?_
  refine lv_bipush (n := 11) (v := 11) c1 c2 (by decide +kernel) (by decide +kernel) ?_
  refine lv_bipush (n := 98) (v := 98) c1 c2 (by decide +kernel) (by decide +kernel) ?_
  refine cn_bast C p10 hL10 (j := 6) (n := 138) rfl (i := 11) (x := 98) (by unfold vp_in; decide) (by decide +kernel) (fun H11 L11 h11 hL11 => ?_)
  obtain ⟨f11, hf11, p11⟩ : ∃ f' : Nat → Int32, (∀ z, z < 12 → f' z = nth mwords z 0) ∧ cnH (wD w) s.heap a (k10L w a f') H11 := ⟨_, bst_next hf10 (by decide) (by decide), h11⟩
  clear h11
  refine W.eq (g2 := F0 m 117 lsA [.ref (a + 6), .ref a]) rfl ?_
  refine lv_dup c1 c2 (by decide +kernel) rfl ?_
  refine lv_bipush (n := 12) (v := 12) c1 c2 (by decide +kernel) (by decide +kernel) ?_
  refine lv_bipush (n := 97) (v := 97) c1 c2 (by decide +kernel) (by decide +kernel) ?_
  refine cn_bast C p11 hL11 (j := 6) (n := 138) rfl (i := 12) (x := 97) (by unfold vp_in; decide) (by decide +kernel) (fun H12 L12 h12 hL12 => ?_)
  obtain ⟨f12, hf12, p12⟩ : ∃ f' : Nat → Int32, (∀ z, z < 13 → f' z = nth mwords z 0) ∧ cnH (wD w) s.heap a (k10L w a f') H12 := ⟨_, bst_next hf11 (by decide) (by decide), h12⟩
  clear h12
  refine W.eq (g2 := F0 m 123 lsA [.ref (a + 6), .ref a]) rfl ?_
  refine lv_dup c1 c2 (by decide +kernel) rfl ?_
  refine lv_bipush (n := 13) (v := 13) c1 c2 (by decide +kernel) (by decide +kernel) ?_
  refine lv_bipush (n := 114) (v := 114) c1 c2 (by decide +kernel) (by decide +kernel) ?_
  refine cn_bast C p12 hL12 (j := 6) (n := 138) rfl (i := 13) (x := 114) (by unfold vp_in; decide) (by decide +kernel) (fun H13 L13 h13 hL13 => ?_)
  obtain ⟨f13, hf13, p13⟩ : ∃ f' : Nat → Int32, (∀ z, z < 14 → f' z = nth mwords z 0) ∧ cnH (wD w) s.heap a (k10L w a f') H13 := ⟨_, bst_next hf12 (by decide) (by decide), h13⟩
  clear h13
  refine W.eq (g2 := F0 m 129 lsA [.ref (a + 6), .ref a]) rfl ?_
  refine lv_dup c1 c2 (by decide +kernel) rfl ?_
  refine lv_bipush (n := 14) (v := 14) c1 c2 (by decide +kernel) (by decide +kernel) ?_
  refine lv_bipush (n := 115) (v := 115) c1 c2 (by decide +kernel) (by decide +kernel) ?_
  refine cn_bast C p13 hL13 (j := 6) (n := 138) rfl (i := 14) (x := 115) (by unfold vp_in; decide) (by decide +kernel) (fun H14 L14 h14 hL14 => ?_)
  obtain ⟨f14, hf14, p14⟩ : ∃ f' : Nat → Int32, (∀ z, z < 15 → f' z = nth mwords z 0) ∧ cnH (wD w) s.heap a (k10L w a f') H14 := ⟨_, bst_next hf13 (by decide) (by decide), h14⟩
  clear h14
  refine W.eq (g2 := F0 m 135 lsA [.ref (a + 6), .ref a]) rfl ?_
  refine lv_dup c1 c2 (by decide +kernel) rfl ?_
  refine lv_bipush (n := 15) (v := 15) c1 c2 (by decide +kernel) (by decide +kernel) ?_
  refine lv_bipush (n := 32) (v := 32) c1 c2 (by decide +kernel) (by decide +kernel) ?_
  refine cn_bast C p14 hL14 (j := 6) (n := 138) rfl (i := 15) (x := 32) (by unfold vp_in; decide) (by decide +kernel) (fun H15 L15 h15 hL15 => ?_)
  obtain ⟨f15, hf15, p15⟩ : ∃ f' : Nat → Int32, (∀ z, z < 16 → f' z = nth mwords z 0) ∧ cnH (wD w) s.heap a (k10L w a f') H15 := ⟨_, bst_next hf14 (by decide) (by decide), h15⟩
  clear h15
  refine W.eq (g2 := F0 m 141 lsA [.ref (a + 6), .ref a]) rfl ?_
  refine lv_dup c1 c2 (by decide +kernel) rfl ?_
  refine lv_bipush (n := 16) (v := 16) c1 c2 (by decide +kernel) (by decide +kernel) ?_
  refine lv_bipush (n := 105) (v := 105) c1 c2 (by decide +kernel) (by decide +kernel) ?_
  refine cn_bast C p15 hL15 (j := 6) (n := 138) rfl (i := 16) (x := 105) (by unfold vp_in; decide) (by decide +kernel) (fun H16 L16 h16 hL16 => ?_)
  obtain ⟨f16, hf16, p16⟩ : ∃ f' : Nat → Int32, (∀ z, z < 17 → f' z = nth mwords z 0) ∧ cnH (wD w) s.heap a (k10L w a f') H16 := ⟨_, bst_next hf15 (by decide) (by decide), h16⟩
  clear h16
  refine W.eq (g2 := F0 m 147 lsA [.ref (a + 6), .ref a]) rfl ?_
  refine lv_dup c1 c2 (by decide +kernel) rfl ?_
  refine lv_bipush (n := 17) (v := 17) c1 c2 (by decide +kernel) (by decide +kernel) ?_
  refine lv_bipush (n := 102) (v := 102) c1 c2 (by decide +kernel) (by decide +kernel) ?_
  refine cn_bast C p16 hL16 (j := 6) (n := 138) rfl (i := 17) (x := 102) (by unfold vp_in; decide) (by decide +kernel) (fun H17 L17 h17 hL17 => ?_)
  obtain ⟨f17, hf17, p17⟩ : ∃ f' : Nat → Int32, (∀ z, z < 18 → f' z = nth mwords z 0) ∧ cnH (wD w) s.heap a (k10L w a f') H17 := ⟨_, bst_next hf16 (by decide) (by decide), h17⟩
  clear h17
  refine W.eq (g2 := F0 m 153 lsA [.ref (a + 6), .ref a]) rfl ?_
  refine lv_dup c1 c2 (by decide +kernel) rfl ?_
  refine lv_bipush (n := 18) (v := 18) c1 c2 (by decide +kernel) (by decide +kernel) ?_
  refine lv_bipush (n := 32) (v := 32) c1 c2 (by decide +kernel) (by decide +kernel) ?_
  refine cn_bast C p17 hL17 (j := 6) (n := 138) rfl (i := 18) (x := 32) (by unfold vp_in; decide) (by decide +kernel) (fun H18 L18 h18 hL18 => ?_)
  obtain ⟨f18, hf18, p18⟩ : ∃ f' : Nat → Int32, (∀ z, z < 19 → f' z = nth mwords z 0) ∧ cnH (wD w) s.heap a (k10L w a f') H18 := ⟨_, bst_next hf17 (by decide) (by decide), h18⟩
  clear h18
  refine W.eq (g2 := F0 m 159 lsA [.ref (a + 6), .ref a]) rfl ?_
  refine lv_dup c1 c2 (by decide +kernel) rfl ?_
  refine lv_bipush (n := 19) (v := 19) c1 c2 (by decide +kernel) (by decide +kernel) ?_
  refine lv_bipush (n := 111) (v := 111) c1 c2 (by decide +kernel) (by decide +kernel) ?_
  refine cn_bast C p18 hL18 (j := 6) (n := 138) rfl (i := 19) (x := 111) (by unfold vp_in; decide) (by decide +kernel) (fun H19 L19 h19 hL19 => ?_)
  obtain ⟨f19, hf19, p19⟩ : ∃ f' : Nat → Int32, (∀ z, z < 20 → f' z = nth mwords z 0) ∧ cnH (wD w) s.heap a (k10L w a f') H19 := ⟨_, bst_next hf18 (by decide) (by decide), h19⟩
  clear h19
  refine W.eq (g2 := F0 m 165 lsA [.ref (a + 6), .ref a]) rfl ?_
  refine lv_dup c1 c2 (by decide +kernel) rfl ?_
  refine lv_bipush (n := 20) (v := 20) c1 c2 (by decide +kernel) (by decide +kernel) ?_
  refine lv_bipush (n := 114) (v := 114) c1 c2 (by decide +kernel) (by decide +kernel) ?_
  refine cn_bast C p19 hL19 (j := 6) (n := 138) rfl (i := 20) (x := 114) (by unfold vp_in; decide) (by decide +kernel) (fun H20 L20 h20 hL20 => ?_)
  obtain ⟨f20, hf20, p20⟩ : ∃ f' : Nat → Int32, (∀ z, z < 21 → f' z = nth mwords z 0) ∧ cnH (wD w) s.heap a (k10L w a f') H20 := ⟨_, bst_next hf19 (by decide) (by decide), h20⟩
  clear h20
  refine W.eq (g2 := F0 m 171 lsA [.ref (a + 6), .ref a]) rfl ?_
  refine lv_dup c1 c2 (by decide +kernel) rfl ?_
  refine lv_bipush (n := 21) (v := 21) c1 c2 (by decide +kernel) (by decide +kernel) ?_
  refine lv_bipush (n := 32) (v := 32) c1 c2 (by decide +kernel) (by decide +kernel) ?_
  refine cn_bast C p20 hL20 (j := 6) (n := 138) rfl (i := 21) (x := 32) (by unfold vp_in; decide) (by decide +kernel) (fun H21 L21 h21 hL21 => ?_)
  obtain ⟨f21, hf21, p21⟩ : ∃ f' : Nat → Int32, (∀ z, z < 22 → f' z = nth mwords z 0) ∧ cnH (wD w) s.heap a (k10L w a f') H21 := ⟨_, bst_next hf20 (by decide) (by decide), h21⟩
  clear h21
  refine W.eq (g2 := F0 m 177 lsA [.ref (a + 6), .ref a]) rfl ?_
  refine lv_dup c1 c2 (by decide +kernel) rfl ?_
  refine lv_bipush (n := 22) (v := 22) c1 c2 (by decide +kernel) (by decide +kernel) ?_
  refine lv_bipush (n := 97) (v := 97) c1 c2 (by decide +kernel) (by decide +kernel) ?_
  refine cn_bast C p21 hL21 (j := 6) (n := 138) rfl (i := 22) (x := 97) (by unfold vp_in; decide) (by decide +kernel) (fun H22 L22 h22 hL22 => ?_)
  obtain ⟨f22, hf22, p22⟩ : ∃ f' : Nat → Int32, (∀ z, z < 23 → f' z = nth mwords z 0) ∧ cnH (wD w) s.heap a (k10L w a f') H22 := ⟨_, bst_next hf21 (by decide) (by decide), h22⟩
  clear h22
  refine W.eq (g2 := F0 m 183 lsA [.ref (a + 6), .ref a]) rfl ?_
  exact kk _ _ _ hL22 p22 hf22
set_option maxRecDepth 20000 in
theorem k10_w1 {p : Program} {l : Launch} {e : Env} {R : Room} {s : State} {m : MethodId} {args : Array Value} {below : List Frame} {meth : Method} {c : Code} {w : g_W} {H : Heap} {locs : List Loc} {cells slots a : Nat} {lsA : Array Slot} {Q : State → Prop} (C : cn_Ctx Mk_10 p l e R s m args below meth c w) {f : Nat → Int32} (hL : ∀ q ∈ locs, a ≤ q.base) (p0 : cnH (wD w) s.heap a (k10L w a f) H) (hf : ∀ z, z < 23 → f z = nth mwords z 0)
    (kk : ∀ (H : Heap) (locs : List Loc) (f : Nat → Int32), (∀ q ∈ locs, a ≤ q.base) → cnH (wD w) s.heap a (k10L w a f) H → (∀ z, z < 46 → f z = nth mwords z 0) → W p l e R s m args below meth c H locs cells slots Q (F0 m 321 lsA [.ref (a + 6), .ref a])) : W p l e R s m args below meth c H locs cells slots Q (F0 m 183 lsA [.ref (a + 6), .ref a]) := by
  have C0 := C
  obtain ⟨c1, c2, c3, c4, c5, c6, c7, c8, c9, c13, c14⟩ := C0
  refine W.eq (g2 := F0 m 183 lsA [.ref (a + 6), .ref a]) rfl ?_
  refine lv_dup c1 c2 (by decide +kernel) rfl ?_
  refine lv_bipush (n := 23) (v := 23) c1 c2 (by decide +kernel) (by decide +kernel) ?_
  refine lv_bipush (n := 110) (v := 110) c1 c2 (by decide +kernel) (by decide +kernel) ?_
  refine cn_bast C p0 hL (j := 6) (n := 138) rfl (i := 23) (x := 110) (by unfold vp_in; decide) (by decide +kernel) (fun H23 L23 h23 hL23 => ?_)
  obtain ⟨f23, hf23, p23⟩ : ∃ f' : Nat → Int32, (∀ z, z < 24 → f' z = nth mwords z 0) ∧ cnH (wD w) s.heap a (k10L w a f') H23 := ⟨_, bst_next hf (by decide) (by decide), h23⟩
  clear h23
  refine W.eq (g2 := F0 m 189 lsA [.ref (a + 6), .ref a]) rfl ?_
  refine lv_dup c1 c2 (by decide +kernel) rfl ?_
  refine lv_bipush (n := 24) (v := 24) c1 c2 (by decide +kernel) (by decide +kernel) ?_
  refine lv_bipush (n := 100) (v := 100) c1 c2 (by decide +kernel) (by decide +kernel) ?_
  refine cn_bast C p23 hL23 (j := 6) (n := 138) rfl (i := 24) (x := 100) (by unfold vp_in; decide) (by decide +kernel) (fun H24 L24 h24 hL24 => ?_)
  obtain ⟨f24, hf24, p24⟩ : ∃ f' : Nat → Int32, (∀ z, z < 25 → f' z = nth mwords z 0) ∧ cnH (wD w) s.heap a (k10L w a f') H24 := ⟨_, bst_next hf23 (by decide) (by decide), h24⟩
  clear h24
  refine W.eq (g2 := F0 m 195 lsA [.ref (a + 6), .ref a]) rfl ?_
  refine lv_dup c1 c2 (by decide +kernel) rfl ?_
  refine lv_bipush (n := 25) (v := 25) c1 c2 (by decide +kernel) (by decide +kernel) ?_
  refine lv_bipush (n := 32) (v := 32) c1 c2 (by decide +kernel) (by decide +kernel) ?_
  refine cn_bast C p24 hL24 (j := 6) (n := 138) rfl (i := 25) (x := 32) (by unfold vp_in; decide) (by decide +kernel) (fun H25 L25 h25 hL25 => ?_)
  obtain ⟨f25, hf25, p25⟩ : ∃ f' : Nat → Int32, (∀ z, z < 26 → f' z = nth mwords z 0) ∧ cnH (wD w) s.heap a (k10L w a f') H25 := ⟨_, bst_next hf24 (by decide) (by decide), h25⟩
  clear h25
  refine W.eq (g2 := F0 m 201 lsA [.ref (a + 6), .ref a]) rfl ?_
  refine lv_dup c1 c2 (by decide +kernel) rfl ?_
  refine lv_bipush (n := 26) (v := 26) c1 c2 (by decide +kernel) (by decide +kernel) ?_
  refine lv_bipush (n := 110) (v := 110) c1 c2 (by decide +kernel) (by decide +kernel) ?_
  refine cn_bast C p25 hL25 (j := 6) (n := 138) rfl (i := 26) (x := 110) (by unfold vp_in; decide) (by decide +kernel) (fun H26 L26 h26 hL26 => ?_)
  obtain ⟨f26, hf26, p26⟩ : ∃ f' : Nat → Int32, (∀ z, z < 27 → f' z = nth mwords z 0) ∧ cnH (wD w) s.heap a (k10L w a f') H26 := ⟨_, bst_next hf25 (by decide) (by decide), h26⟩
  clear h26
  refine W.eq (g2 := F0 m 207 lsA [.ref (a + 6), .ref a]) rfl ?_
  refine lv_dup c1 c2 (by decide +kernel) rfl ?_
  refine lv_bipush (n := 27) (v := 27) c1 c2 (by decide +kernel) (by decide +kernel) ?_
  refine lv_bipush (n := 111) (v := 111) c1 c2 (by decide +kernel) (by decide +kernel) ?_
  refine cn_bast C p26 hL26 (j := 6) (n := 138) rfl (i := 27) (x := 111) (by unfold vp_in; decide) (by decide +kernel) (fun H27 L27 h27 hL27 => ?_)
  obtain ⟨f27, hf27, p27⟩ : ∃ f' : Nat → Int32, (∀ z, z < 28 → f' z = nth mwords z 0) ∧ cnH (wD w) s.heap a (k10L w a f') H27 := ⟨_, bst_next hf26 (by decide) (by decide), h27⟩
  clear h27
  refine W.eq (g2 := F0 m 213 lsA [.ref (a + 6), .ref a]) rfl ?_
  refine lv_dup c1 c2 (by decide +kernel) rfl ?_
  refine lv_bipush (n := 28) (v := 28) c1 c2 (by decide +kernel) (by decide +kernel) ?_
  refine lv_bipush (n := 116) (v := 116) c1 c2 (by decide +kernel) (by decide +kernel) ?_
  refine cn_bast C p27 hL27 (j := 6) (n := 138) rfl (i := 28) (x := 116) (by unfold vp_in; decide) (by decide +kernel) (fun H28 L28 h28 hL28 => ?_)
  obtain ⟨f28, hf28, p28⟩ : ∃ f' : Nat → Int32, (∀ z, z < 29 → f' z = nth mwords z 0) ∧ cnH (wD w) s.heap a (k10L w a f') H28 := ⟨_, bst_next hf27 (by decide) (by decide), h28⟩
  clear h28
  refine W.eq (g2 := F0 m 219 lsA [.ref (a + 6), .ref a]) rfl ?_
  refine lv_dup c1 c2 (by decide +kernel) rfl ?_
  refine lv_bipush (n := 29) (v := 29) c1 c2 (by decide +kernel) (by decide +kernel) ?_
  refine lv_bipush (n := 32) (v := 32) c1 c2 (by decide +kernel) (by decide +kernel) ?_
  refine cn_bast C p28 hL28 (j := 6) (n := 138) rfl (i := 29) (x := 32) (by unfold vp_in; decide) (by decide +kernel) (fun H29 L29 h29 hL29 => ?_)
  obtain ⟨f29, hf29, p29⟩ : ∃ f' : Nat → Int32, (∀ z, z < 30 → f' z = nth mwords z 0) ∧ cnH (wD w) s.heap a (k10L w a f') H29 := ⟨_, bst_next hf28 (by decide) (by decide), h29⟩
  clear h29
  refine W.eq (g2 := F0 m 225 lsA [.ref (a + 6), .ref a]) rfl ?_
  refine lv_dup c1 c2 (by decide +kernel) rfl ?_
  refine lv_bipush (n := 30) (v := 30) c1 c2 (by decide +kernel) (by decide +kernel) ?_
  refine lv_bipush (n := 108) (v := 108) c1 c2 (by decide +kernel) (by decide +kernel) ?_
  refine cn_bast C p29 hL29 (j := 6) (n := 138) rfl (i := 30) (x := 108) (by unfold vp_in; decide) (by decide +kernel) (fun H30 L30 h30 hL30 => ?_)
  obtain ⟨f30, hf30, p30⟩ : ∃ f' : Nat → Int32, (∀ z, z < 31 → f' z = nth mwords z 0) ∧ cnH (wD w) s.heap a (k10L w a f') H30 := ⟨_, bst_next hf29 (by decide) (by decide), h30⟩
  clear h30
  refine W.eq (g2 := F0 m 231 lsA [.ref (a + 6), .ref a]) rfl ?_
  refine lv_dup c1 c2 (by decide +kernel) rfl ?_
  refine lv_bipush (n := 31) (v := 31) c1 c2 (by decide +kernel) (by decide +kernel) ?_
  refine lv_bipush (n := 105) (v := 105) c1 c2 (by decide +kernel) (by decide +kernel) ?_
  refine cn_bast C p30 hL30 (j := 6) (n := 138) rfl (i := 31) (x := 105) (by unfold vp_in; decide) (by decide +kernel) (fun H31 L31 h31 hL31 => ?_)
  obtain ⟨f31, hf31, p31⟩ : ∃ f' : Nat → Int32, (∀ z, z < 32 → f' z = nth mwords z 0) ∧ cnH (wD w) s.heap a (k10L w a f') H31 := ⟨_, bst_next hf30 (by decide) (by decide), h31⟩
  clear h31
  refine W.eq (g2 := F0 m 237 lsA [.ref (a + 6), .ref a]) rfl ?_
  refine lv_dup c1 c2 (by decide +kernel) rfl ?_
  refine lv_bipush (n := 32) (v := 32) c1 c2 (by decide +kernel) (by decide +kernel) ?_
  refine lv_bipush (n := 110) (v := 110) c1 c2 (by decide +kernel) (by decide +kernel) ?_
  refine cn_bast C p31 hL31 (j := 6) (n := 138) rfl (i := 32) (x := 110) (by unfold vp_in; decide) (by decide +kernel) (fun H32 L32 h32 hL32 => ?_)
  obtain ⟨f32, hf32, p32⟩ : ∃ f' : Nat → Int32, (∀ z, z < 33 → f' z = nth mwords z 0) ∧ cnH (wD w) s.heap a (k10L w a f') H32 := ⟨_, bst_next hf31 (by decide) (by decide), h32⟩
  clear h32
  refine W.eq (g2 := F0 m 243 lsA [.ref (a + 6), .ref a]) rfl ?_
  refine lv_dup c1 c2 (by decide +kernel) rfl ?_
  refine lv_bipush (n := 33) (v := 33) c1 c2 (by decide +kernel) (by decide +kernel) ?_
  refine lv_bipush (n := 101) (v := 101) c1 c2 (by decide +kernel) (by decide +kernel) ?_
  refine cn_bast C p32 hL32 (j := 6) (n := 138) rfl (i := 33) (x := 101) (by unfold vp_in; decide) (by decide +kernel) (fun H33 L33 h33 hL33 => ?_)
  obtain ⟨f33, hf33, p33⟩ : ∃ f' : Nat → Int32, (∀ z, z < 34 → f' z = nth mwords z 0) ∧ cnH (wD w) s.heap a (k10L w a f') H33 := ⟨_, bst_next hf32 (by decide) (by decide), h33⟩
  clear h33
  refine W.eq (g2 := F0 m 249 lsA [.ref (a + 6), .ref a]) rfl ?_
  refine lv_dup c1 c2 (by decide +kernel) rfl ?_
  refine lv_bipush (n := 34) (v := 34) c1 c2 (by decide +kernel) (by decide +kernel) ?_
  refine lv_bipush (n := 32) (v := 32) c1 c2 (by decide +kernel) (by decide +kernel) ?_
  refine cn_bast C p33 hL33 (j := 6) (n := 138) rfl (i := 34) (x := 32) (by unfold vp_in; decide) (by decide +kernel) (fun H34 L34 h34 hL34 => ?_)
  obtain ⟨f34, hf34, p34⟩ : ∃ f' : Nat → Int32, (∀ z, z < 35 → f' z = nth mwords z 0) ∧ cnH (wD w) s.heap a (k10L w a f') H34 := ⟨_, bst_next hf33 (by decide) (by decide), h34⟩
  clear h34
  refine W.eq (g2 := F0 m 255 lsA [.ref (a + 6), .ref a]) rfl ?_
  refine lv_dup c1 c2 (by decide +kernel) rfl ?_
  refine lv_bipush (n := 35) (v := 35) c1 c2 (by decide +kernel) (by decide +kernel) ?_
  refine lv_bipush (n := 112) (v := 112) c1 c2 (by decide +kernel) (by decide +kernel) ?_
  refine cn_bast C p34 hL34 (j := 6) (n := 138) rfl (i := 35) (x := 112) (by unfold vp_in; decide) (by decide +kernel) (fun H35 L35 h35 hL35 => ?_)
  obtain ⟨f35, hf35, p35⟩ : ∃ f' : Nat → Int32, (∀ z, z < 36 → f' z = nth mwords z 0) ∧ cnH (wD w) s.heap a (k10L w a f') H35 := ⟨_, bst_next hf34 (by decide) (by decide), h35⟩
  clear h35
  refine W.eq (g2 := F0 m 261 lsA [.ref (a + 6), .ref a]) rfl ?_
  refine lv_dup c1 c2 (by decide +kernel) rfl ?_
  refine lv_bipush (n := 36) (v := 36) c1 c2 (by decide +kernel) (by decide +kernel) ?_
  refine lv_bipush (n := 105) (v := 105) c1 c2 (by decide +kernel) (by decide +kernel) ?_
  refine cn_bast C p35 hL35 (j := 6) (n := 138) rfl (i := 36) (x := 105) (by unfold vp_in; decide) (by decide +kernel) (fun H36 L36 h36 hL36 => ?_)
  obtain ⟨f36, hf36, p36⟩ : ∃ f' : Nat → Int32, (∀ z, z < 37 → f' z = nth mwords z 0) ∧ cnH (wD w) s.heap a (k10L w a f') H36 := ⟨_, bst_next hf35 (by decide) (by decide), h36⟩
  clear h36
  refine W.eq (g2 := F0 m 267 lsA [.ref (a + 6), .ref a]) rfl ?_
  refine lv_dup c1 c2 (by decide +kernel) rfl ?_
  refine lv_bipush (n := 37) (v := 37) c1 c2 (by decide +kernel) (by decide +kernel) ?_
  refine lv_bipush (n := 101) (v := 101) c1 c2 (by decide +kernel) (by decide +kernel) ?_
  refine cn_bast C p36 hL36 (j := 6) (n := 138) rfl (i := 37) (x := 101) (by unfold vp_in; decide) (by decide +kernel) (fun H37 L37 h37 hL37 => ?_)
  obtain ⟨f37, hf37, p37⟩ : ∃ f' : Nat → Int32, (∀ z, z < 38 → f' z = nth mwords z 0) ∧ cnH (wD w) s.heap a (k10L w a f') H37 := ⟨_, bst_next hf36 (by decide) (by decide), h37⟩
  clear h37
  refine W.eq (g2 := F0 m 273 lsA [.ref (a + 6), .ref a]) rfl ?_
  refine lv_dup c1 c2 (by decide +kernel) rfl ?_
  refine lv_bipush (n := 38) (v := 38) c1 c2 (by decide +kernel) (by decide +kernel) ?_
  refine lv_bipush (n := 99) (v := 99) c1 c2 (by decide +kernel) (by decide +kernel) ?_
  refine cn_bast C p37 hL37 (j := 6) (n := 138) rfl (i := 38) (x := 99) (by unfold vp_in; decide) (by decide +kernel) (fun H38 L38 h38 hL38 => ?_)
  obtain ⟨f38, hf38, p38⟩ : ∃ f' : Nat → Int32, (∀ z, z < 39 → f' z = nth mwords z 0) ∧ cnH (wD w) s.heap a (k10L w a f') H38 := ⟨_, bst_next hf37 (by decide) (by decide), h38⟩
  clear h38
  refine W.eq (g2 := F0 m 279 lsA [.ref (a + 6), .ref a]) rfl ?_
  refine lv_dup c1 c2 (by decide +kernel) rfl ?_
  refine lv_bipush (n := 39) (v := 39) c1 c2 (by decide +kernel) (by decide +kernel) ?_
  refine lv_bipush (n := 101) (v := 101) c1 c2 (by decide +kernel) (by decide +kernel) ?_
  refine cn_bast C p38 hL38 (j := 6) (n := 138) rfl (i := 39) (x := 101) (by unfold vp_in; decide) (by decide +kernel) (fun H39 L39 h39 hL39 => ?_)
  obtain ⟨f39, hf39, p39⟩ : ∃ f' : Nat → Int32, (∀ z, z < 40 → f' z = nth mwords z 0) ∧ cnH (wD w) s.heap a (k10L w a f') H39 := ⟨_, bst_next hf38 (by decide) (by decide), h39⟩
  clear h39
  refine W.eq (g2 := F0 m 285 lsA [.ref (a + 6), .ref a]) rfl ?_
  refine lv_dup c1 c2 (by decide +kernel) rfl ?_
  refine lv_bipush (n := 40) (v := 40) c1 c2 (by decide +kernel) (by decide +kernel) ?_
  refine lv_bipush (n := 115) (v := 115) c1 c2 (by decide +kernel) (by decide +kernel) ?_
  refine cn_bast C p39 hL39 (j := 6) (n := 138) rfl (i := 40) (x := 115) (by unfold vp_in; decide) (by decide +kernel) (fun H40 L40 h40 hL40 => ?_)
  obtain ⟨f40, hf40, p40⟩ : ∃ f' : Nat → Int32, (∀ z, z < 41 → f' z = nth mwords z 0) ∧ cnH (wD w) s.heap a (k10L w a f') H40 := ⟨_, bst_next hf39 (by decide) (by decide), h40⟩
  clear h40
  refine W.eq (g2 := F0 m 291 lsA [.ref (a + 6), .ref a]) rfl ?_
  refine lv_dup c1 c2 (by decide +kernel) rfl ?_
  refine lv_bipush (n := 41) (v := 41) c1 c2 (by decide +kernel) (by decide +kernel) ?_
  refine lv_bipush (n := 32) (v := 32) c1 c2 (by decide +kernel) (by decide +kernel) ?_
  refine cn_bast C p40 hL40 (j := 6) (n := 138) rfl (i := 41) (x := 32) (by unfold vp_in; decide) (by decide +kernel) (fun H41 L41 h41 hL41 => ?_)
  obtain ⟨f41, hf41, p41⟩ : ∃ f' : Nat → Int32, (∀ z, z < 42 → f' z = nth mwords z 0) ∧ cnH (wD w) s.heap a (k10L w a f') H41 := ⟨_, bst_next hf40 (by decide) (by decide), h41⟩
  clear h41
  refine W.eq (g2 := F0 m 297 lsA [.ref (a + 6), .ref a]) rfl ?_
  refine lv_dup c1 c2 (by decide +kernel) rfl ?_
  refine lv_bipush (n := 42) (v := 42) c1 c2 (by decide +kernel) (by decide +kernel) ?_
  refine lv_bipush (n := 115) (v := 115) c1 c2 (by decide +kernel) (by decide +kernel) ?_
  refine cn_bast C p41 hL41 (j := 6) (n := 138) rfl (i := 42) (x := 115) (by unfold vp_in; decide) (by decide +kernel) (fun H42 L42 h42 hL42 => ?_)
  obtain ⟨f42, hf42, p42⟩ : ∃ f' : Nat → Int32, (∀ z, z < 43 → f' z = nth mwords z 0) ∧ cnH (wD w) s.heap a (k10L w a f') H42 := ⟨_, bst_next hf41 (by decide) (by decide), h42⟩
  clear h42
  refine W.eq (g2 := F0 m 303 lsA [.ref (a + 6), .ref a]) rfl ?_
  refine lv_dup c1 c2 (by decide +kernel) rfl ?_
  refine lv_bipush (n := 43) (v := 43) c1 c2 (by decide +kernel) (by decide +kernel) ?_
  refine lv_bipush (n := 104) (v := 104) c1 c2 (by decide +kernel) (by decide +kernel) ?_
  refine cn_bast C p42 hL42 (j := 6) (n := 138) rfl (i := 43) (x := 104) (by unfold vp_in; decide) (by decide +kernel) (fun H43 L43 h43 hL43 => ?_)
  obtain ⟨f43, hf43, p43⟩ : ∃ f' : Nat → Int32, (∀ z, z < 44 → f' z = nth mwords z 0) ∧ cnH (wD w) s.heap a (k10L w a f') H43 := ⟨_, bst_next hf42 (by decide) (by decide), h43⟩
  clear h43
  refine W.eq (g2 := F0 m 309 lsA [.ref (a + 6), .ref a]) rfl ?_
  refine lv_dup c1 c2 (by decide +kernel) rfl ?_
  refine lv_bipush (n := 44) (v := 44) c1 c2 (by decide +kernel) (by decide +kernel) ?_
  refine lv_bipush (n := 111) (v := 111) c1 c2 (by decide +kernel) (by decide +kernel) ?_
  refine cn_bast C p43 hL43 (j := 6) (n := 138) rfl (i := 44) (x := 111) (by unfold vp_in; decide) (by decide +kernel) (fun H44 L44 h44 hL44 => ?_)
  obtain ⟨f44, hf44, p44⟩ : ∃ f' : Nat → Int32, (∀ z, z < 45 → f' z = nth mwords z 0) ∧ cnH (wD w) s.heap a (k10L w a f') H44 := ⟨_, bst_next hf43 (by decide) (by decide), h44⟩
  clear h44
  refine W.eq (g2 := F0 m 315 lsA [.ref (a + 6), .ref a]) rfl ?_
  refine lv_dup c1 c2 (by decide +kernel) rfl ?_
  refine lv_bipush (n := 45) (v := 45) c1 c2 (by decide +kernel) (by decide +kernel) ?_
  refine lv_bipush (n := 114) (v := 114) c1 c2 (by decide +kernel) (by decide +kernel) ?_
  refine cn_bast C p44 hL44 (j := 6) (n := 138) rfl (i := 45) (x := 114) (by unfold vp_in; decide) (by decide +kernel) (fun H45 L45 h45 hL45 => ?_)
  obtain ⟨f45, hf45, p45⟩ : ∃ f' : Nat → Int32, (∀ z, z < 46 → f' z = nth mwords z 0) ∧ cnH (wD w) s.heap a (k10L w a f') H45 := ⟨_, bst_next hf44 (by decide) (by decide), h45⟩
  clear h45
  refine W.eq (g2 := F0 m 321 lsA [.ref (a + 6), .ref a]) rfl ?_
  exact kk _ _ _ hL45 p45 hf45
set_option maxRecDepth 20000 in
theorem k10_w2 {p : Program} {l : Launch} {e : Env} {R : Room} {s : State} {m : MethodId} {args : Array Value} {below : List Frame} {meth : Method} {c : Code} {w : g_W} {H : Heap} {locs : List Loc} {cells slots a : Nat} {lsA : Array Slot} {Q : State → Prop} (C : cn_Ctx Mk_10 p l e R s m args below meth c w) {f : Nat → Int32} (hL : ∀ q ∈ locs, a ≤ q.base) (p0 : cnH (wD w) s.heap a (k10L w a f) H) (hf : ∀ z, z < 46 → f z = nth mwords z 0)
    (kk : ∀ (H : Heap) (locs : List Loc) (f : Nat → Int32), (∀ q ∈ locs, a ≤ q.base) → cnH (wD w) s.heap a (k10L w a f) H → (∀ z, z < 69 → f z = nth mwords z 0) → W p l e R s m args below meth c H locs cells slots Q (F0 m 459 lsA [.ref (a + 6), .ref a])) : W p l e R s m args below meth c H locs cells slots Q (F0 m 321 lsA [.ref (a + 6), .ref a]) := by
  have C0 := C
  obtain ⟨c1, c2, c3, c4, c5, c6, c7, c8, c9, c13, c14⟩ := C0
  refine W.eq (g2 := F0 m 321 lsA [.ref (a + 6), .ref a]) rfl ?_
  refine lv_dup c1 c2 (by decide +kernel) rfl ?_
  refine lv_bipush (n := 46) (v := 46) c1 c2 (by decide +kernel) (by decide +kernel) ?_
  refine lv_bipush (n := 116) (v := 116) c1 c2 (by decide +kernel) (by decide +kernel) ?_
  refine cn_bast C p0 hL (j := 6) (n := 138) rfl (i := 46) (x := 116) (by unfold vp_in; decide) (by decide +kernel) (fun H46 L46 h46 hL46 => ?_)
  obtain ⟨f46, hf46, p46⟩ : ∃ f' : Nat → Int32, (∀ z, z < 47 → f' z = nth mwords z 0) ∧ cnH (wD w) s.heap a (k10L w a f') H46 := ⟨_, bst_next hf (by decide) (by decide), h46⟩
  clear h46
  refine W.eq (g2 := F0 m 327 lsA [.ref (a + 6), .ref a]) rfl ?_
  refine lv_dup c1 c2 (by decide +kernel) rfl ?_
  refine lv_bipush (n := 47) (v := 47) c1 c2 (by decide +kernel) (by decide +kernel) ?_
  refine lv_bipush (n := 32) (v := 32) c1 c2 (by decide +kernel) (by decide +kernel) ?_
  refine cn_bast C p46 hL46 (j := 6) (n := 138) rfl (i := 47) (x := 32) (by unfold vp_in; decide) (by decide +kernel) (fun H47 L47 h47 hL47 => ?_)
  obtain ⟨f47, hf47, p47⟩ : ∃ f' : Nat → Int32, (∀ z, z < 48 → f' z = nth mwords z 0) ∧ cnH (wD w) s.heap a (k10L w a f') H47 := ⟨_, bst_next hf46 (by decide) (by decide), h47⟩
  clear h47
  refine W.eq (g2 := F0 m 333 lsA [.ref (a + 6), .ref a]) rfl ?_
  refine lv_dup c1 c2 (by decide +kernel) rfl ?_
  refine lv_bipush (n := 48) (v := 48) c1 c2 (by decide +kernel) (by decide +kernel) ?_
  refine lv_bipush (n := 104) (v := 104) c1 c2 (by decide +kernel) (by decide +kernel) ?_
  refine cn_bast C p47 hL47 (j := 6) (n := 138) rfl (i := 48) (x := 104) (by unfold vp_in; decide) (by decide +kernel) (fun H48 L48 h48 hL48 => ?_)
  obtain ⟨f48, hf48, p48⟩ : ∃ f' : Nat → Int32, (∀ z, z < 49 → f' z = nth mwords z 0) ∧ cnH (wD w) s.heap a (k10L w a f') H48 := ⟨_, bst_next hf47 (by decide) (by decide), h48⟩
  clear h48
  refine W.eq (g2 := F0 m 339 lsA [.ref (a + 6), .ref a]) rfl ?_
  refine lv_dup c1 c2 (by decide +kernel) rfl ?_
  refine lv_bipush (n := 49) (v := 49) c1 c2 (by decide +kernel) (by decide +kernel) ?_
  refine lv_bipush (n := 121) (v := 121) c1 c2 (by decide +kernel) (by decide +kernel) ?_
  refine cn_bast C p48 hL48 (j := 6) (n := 138) rfl (i := 49) (x := 121) (by unfold vp_in; decide) (by decide +kernel) (fun H49 L49 h49 hL49 => ?_)
  obtain ⟨f49, hf49, p49⟩ : ∃ f' : Nat → Int32, (∀ z, z < 50 → f' z = nth mwords z 0) ∧ cnH (wD w) s.heap a (k10L w a f') H49 := ⟨_, bst_next hf48 (by decide) (by decide), h49⟩
  clear h49
  refine W.eq (g2 := F0 m 345 lsA [.ref (a + 6), .ref a]) rfl ?_
  refine lv_dup c1 c2 (by decide +kernel) rfl ?_
  refine lv_bipush (n := 50) (v := 50) c1 c2 (by decide +kernel) (by decide +kernel) ?_
  refine lv_bipush (n := 112) (v := 112) c1 c2 (by decide +kernel) (by decide +kernel) ?_
  refine cn_bast C p49 hL49 (j := 6) (n := 138) rfl (i := 50) (x := 112) (by unfold vp_in; decide) (by decide +kernel) (fun H50 L50 h50 hL50 => ?_)
  obtain ⟨f50, hf50, p50⟩ : ∃ f' : Nat → Int32, (∀ z, z < 51 → f' z = nth mwords z 0) ∧ cnH (wD w) s.heap a (k10L w a f') H50 := ⟨_, bst_next hf49 (by decide) (by decide), h50⟩
  clear h50
  refine W.eq (g2 := F0 m 351 lsA [.ref (a + 6), .ref a]) rfl ?_
  refine lv_dup c1 c2 (by decide +kernel) rfl ?_
  refine lv_bipush (n := 51) (v := 51) c1 c2 (by decide +kernel) (by decide +kernel) ?_
  refine lv_bipush (n := 104) (v := 104) c1 c2 (by decide +kernel) (by decide +kernel) ?_
  refine cn_bast C p50 hL50 (j := 6) (n := 138) rfl (i := 51) (x := 104) (by unfold vp_in; decide) (by decide +kernel) (fun H51 L51 h51 hL51 => ?_)
  obtain ⟨f51, hf51, p51⟩ : ∃ f' : Nat → Int32, (∀ z, z < 52 → f' z = nth mwords z 0) ∧ cnH (wD w) s.heap a (k10L w a f') H51 := ⟨_, bst_next hf50 (by decide) (by decide), h51⟩
  clear h51
  refine W.eq (g2 := F0 m 357 lsA [.ref (a + 6), .ref a]) rfl ?_
  refine lv_dup c1 c2 (by decide +kernel) rfl ?_
  refine lv_bipush (n := 52) (v := 52) c1 c2 (by decide +kernel) (by decide +kernel) ?_
  refine lv_bipush (n := 101) (v := 101) c1 c2 (by decide +kernel) (by decide +kernel) ?_
  refine cn_bast C p51 hL51 (j := 6) (n := 138) rfl (i := 52) (x := 101) (by unfold vp_in; decide) (by decide +kernel) (fun H52 L52 h52 hL52 => ?_)
  obtain ⟨f52, hf52, p52⟩ : ∃ f' : Nat → Int32, (∀ z, z < 53 → f' z = nth mwords z 0) ∧ cnH (wD w) s.heap a (k10L w a f') H52 := ⟨_, bst_next hf51 (by decide) (by decide), h52⟩
  clear h52
  refine W.eq (g2 := F0 m 363 lsA [.ref (a + 6), .ref a]) rfl ?_
  refine lv_dup c1 c2 (by decide +kernel) rfl ?_
  refine lv_bipush (n := 53) (v := 53) c1 c2 (by decide +kernel) (by decide +kernel) ?_
  refine lv_bipush (n := 110) (v := 110) c1 c2 (by decide +kernel) (by decide +kernel) ?_
  refine cn_bast C p52 hL52 (j := 6) (n := 138) rfl (i := 53) (x := 110) (by unfold vp_in; decide) (by decide +kernel) (fun H53 L53 h53 hL53 => ?_)
  obtain ⟨f53, hf53, p53⟩ : ∃ f' : Nat → Int32, (∀ z, z < 54 → f' z = nth mwords z 0) ∧ cnH (wD w) s.heap a (k10L w a f') H53 := ⟨_, bst_next hf52 (by decide) (by decide), h53⟩
  clear h53
  refine W.eq (g2 := F0 m 369 lsA [.ref (a + 6), .ref a]) rfl ?_
  refine lv_dup c1 c2 (by decide +kernel) rfl ?_
  refine lv_bipush (n := 54) (v := 54) c1 c2 (by decide +kernel) (by decide +kernel) ?_
  refine lv_bipush (n := 32) (v := 32) c1 c2 (by decide +kernel) (by decide +kernel) ?_
  refine cn_bast C p53 hL53 (j := 6) (n := 138) rfl (i := 54) (x := 32) (by unfold vp_in; decide) (by decide +kernel) (fun H54 L54 h54 hL54 => ?_)
  obtain ⟨f54, hf54, p54⟩ : ∃ f' : Nat → Int32, (∀ z, z < 55 → f' z = nth mwords z 0) ∧ cnH (wD w) s.heap a (k10L w a f') H54 := ⟨_, bst_next hf53 (by decide) (by decide), h54⟩
  clear h54
  refine W.eq (g2 := F0 m 375 lsA [.ref (a + 6), .ref a]) rfl ?_
  refine lv_dup c1 c2 (by decide +kernel) rfl ?_
  refine lv_bipush (n := 55) (v := 55) c1 c2 (by decide +kernel) (by decide +kernel) ?_
  refine lv_bipush (n := 108) (v := 108) c1 c2 (by decide +kernel) (by decide +kernel) ?_
  refine cn_bast C p54 hL54 (j := 6) (n := 138) rfl (i := 55) (x := 108) (by unfold vp_in; decide) (by decide +kernel) (fun H55 L55 h55 hL55 => ?_)
  obtain ⟨f55, hf55, p55⟩ : ∃ f' : Nat → Int32, (∀ z, z < 56 → f' z = nth mwords z 0) ∧ cnH (wD w) s.heap a (k10L w a f') H55 := ⟨_, bst_next hf54 (by decide) (by decide), h55⟩
  clear h55
  refine W.eq (g2 := F0 m 381 lsA [.ref (a + 6), .ref a]) rfl ?_
  refine lv_dup c1 c2 (by decide +kernel) rfl ?_
  refine lv_bipush (n := 56) (v := 56) c1 c2 (by decide +kernel) (by decide +kernel) ?_
  refine lv_bipush (n := 97) (v := 97) c1 c2 (by decide +kernel) (by decide +kernel) ?_
  refine cn_bast C p55 hL55 (j := 6) (n := 138) rfl (i := 56) (x := 97) (by unfold vp_in; decide) (by decide +kernel) (fun H56 L56 h56 hL56 => ?_)
  obtain ⟨f56, hf56, p56⟩ : ∃ f' : Nat → Int32, (∀ z, z < 57 → f' z = nth mwords z 0) ∧ cnH (wD w) s.heap a (k10L w a f') H56 := ⟨_, bst_next hf55 (by decide) (by decide), h56⟩
  clear h56
  refine W.eq (g2 := F0 m 387 lsA [.ref (a + 6), .ref a]) rfl ?_
  refine lv_dup c1 c2 (by decide +kernel) rfl ?_
  refine lv_bipush (n := 57) (v := 57) c1 c2 (by decide +kernel) (by decide +kernel) ?_
  refine lv_bipush (n := 115) (v := 115) c1 c2 (by decide +kernel) (by decide +kernel) ?_
  refine cn_bast C p56 hL56 (j := 6) (n := 138) rfl (i := 57) (x := 115) (by unfold vp_in; decide) (by decide +kernel) (fun H57 L57 h57 hL57 => ?_)
  obtain ⟨f57, hf57, p57⟩ : ∃ f' : Nat → Int32, (∀ z, z < 58 → f' z = nth mwords z 0) ∧ cnH (wD w) s.heap a (k10L w a f') H57 := ⟨_, bst_next hf56 (by decide) (by decide), h57⟩
  clear h57
  refine W.eq (g2 := F0 m 393 lsA [.ref (a + 6), .ref a]) rfl ?_
  refine lv_dup c1 c2 (by decide +kernel) rfl ?_
  refine lv_bipush (n := 58) (v := 58) c1 c2 (by decide +kernel) (by decide +kernel) ?_
  refine lv_bipush (n := 116) (v := 116) c1 c2 (by decide +kernel) (by decide +kernel) ?_
  refine cn_bast C p57 hL57 (j := 6) (n := 138) rfl (i := 58) (x := 116) (by unfold vp_in; decide) (by decide +kernel) (fun H58 L58 h58 hL58 => ?_)
  obtain ⟨f58, hf58, p58⟩ : ∃ f' : Nat → Int32, (∀ z, z < 59 → f' z = nth mwords z 0) ∧ cnH (wD w) s.heap a (k10L w a f') H58 := ⟨_, bst_next hf57 (by decide) (by decide), h58⟩
  clear h58
  refine W.eq (g2 := F0 m 399 lsA [.ref (a + 6), .ref a]) rfl ?_
  refine lv_dup c1 c2 (by decide +kernel) rfl ?_
  refine lv_bipush (n := 59) (v := 59) c1 c2 (by decide +kernel) (by decide +kernel) ?_
  refine lv_bipush (n := 32) (v := 32) c1 c2 (by decide +kernel) (by decide +kernel) ?_
  refine cn_bast C p58 hL58 (j := 6) (n := 138) rfl (i := 59) (x := 32) (by unfold vp_in; decide) (by decide +kernel) (fun H59 L59 h59 hL59 => ?_)
  obtain ⟨f59, hf59, p59⟩ : ∃ f' : Nat → Int32, (∀ z, z < 60 → f' z = nth mwords z 0) ∧ cnH (wD w) s.heap a (k10L w a f') H59 := ⟨_, bst_next hf58 (by decide) (by decide), h59⟩
  clear h59
  refine W.eq (g2 := F0 m 405 lsA [.ref (a + 6), .ref a]) rfl ?_
  refine lv_dup c1 c2 (by decide +kernel) rfl ?_
  refine lv_bipush (n := 60) (v := 60) c1 c2 (by decide +kernel) (by decide +kernel) ?_
  refine lv_bipush (n := 107) (v := 107) c1 c2 (by decide +kernel) (by decide +kernel) ?_
  refine cn_bast C p59 hL59 (j := 6) (n := 138) rfl (i := 60) (x := 107) (by unfold vp_in; decide) (by decide +kernel) (fun H60 L60 h60 hL60 => ?_)
  obtain ⟨f60, hf60, p60⟩ : ∃ f' : Nat → Int32, (∀ z, z < 61 → f' z = nth mwords z 0) ∧ cnH (wD w) s.heap a (k10L w a f') H60 := ⟨_, bst_next hf59 (by decide) (by decide), h60⟩
  clear h60
  refine W.eq (g2 := F0 m 411 lsA [.ref (a + 6), .ref a]) rfl ?_
  refine lv_dup c1 c2 (by decide +kernel) rfl ?_
  refine lv_bipush (n := 61) (v := 61) c1 c2 (by decide +kernel) (by decide +kernel) ?_
  refine lv_bipush (n := 105) (v := 105) c1 c2 (by decide +kernel) (by decide +kernel) ?_
  refine cn_bast C p60 hL60 (j := 6) (n := 138) rfl (i := 61) (x := 105) (by unfold vp_in; decide) (by decide +kernel) (fun H61 L61 h61 hL61 => ?_)
  obtain ⟨f61, hf61, p61⟩ : ∃ f' : Nat → Int32, (∀ z, z < 62 → f' z = nth mwords z 0) ∧ cnH (wD w) s.heap a (k10L w a f') H61 := ⟨_, bst_next hf60 (by decide) (by decide), h61⟩
  clear h61
  refine W.eq (g2 := F0 m 417 lsA [.ref (a + 6), .ref a]) rfl ?_
  refine lv_dup c1 c2 (by decide +kernel) rfl ?_
  refine lv_bipush (n := 62) (v := 62) c1 c2 (by decide +kernel) (by decide +kernel) ?_
  refine lv_bipush (n := 110) (v := 110) c1 c2 (by decide +kernel) (by decide +kernel) ?_
  refine cn_bast C p61 hL61 (j := 6) (n := 138) rfl (i := 62) (x := 110) (by unfold vp_in; decide) (by decide +kernel) (fun H62 L62 h62 hL62 => ?_)
  obtain ⟨f62, hf62, p62⟩ : ∃ f' : Nat → Int32, (∀ z, z < 63 → f' z = nth mwords z 0) ∧ cnH (wD w) s.heap a (k10L w a f') H62 := ⟨_, bst_next hf61 (by decide) (by decide), h62⟩
  clear h62
  refine W.eq (g2 := F0 m 423 lsA [.ref (a + 6), .ref a]) rfl ?_
  refine lv_dup c1 c2 (by decide +kernel) rfl ?_
  refine lv_bipush (n := 63) (v := 63) c1 c2 (by decide +kernel) (by decide +kernel) ?_
  refine lv_bipush (n := 100) (v := 100) c1 c2 (by decide +kernel) (by decide +kernel) ?_
  refine cn_bast C p62 hL62 (j := 6) (n := 138) rfl (i := 63) (x := 100) (by unfold vp_in; decide) (by decide +kernel) (fun H63 L63 h63 hL63 => ?_)
  obtain ⟨f63, hf63, p63⟩ : ∃ f' : Nat → Int32, (∀ z, z < 64 → f' z = nth mwords z 0) ∧ cnH (wD w) s.heap a (k10L w a f') H63 := ⟨_, bst_next hf62 (by decide) (by decide), h63⟩
  clear h63
  refine W.eq (g2 := F0 m 429 lsA [.ref (a + 6), .ref a]) rfl ?_
  refine lv_dup c1 c2 (by decide +kernel) rfl ?_
  refine lv_bipush (n := 64) (v := 64) c1 c2 (by decide +kernel) (by decide +kernel) ?_
  refine lv_bipush (n := 32) (v := 32) c1 c2 (by decide +kernel) (by decide +kernel) ?_
  refine cn_bast C p63 hL63 (j := 6) (n := 138) rfl (i := 64) (x := 32) (by unfold vp_in; decide) (by decide +kernel) (fun H64 L64 h64 hL64 => ?_)
  obtain ⟨f64, hf64, p64⟩ : ∃ f' : Nat → Int32, (∀ z, z < 65 → f' z = nth mwords z 0) ∧ cnH (wD w) s.heap a (k10L w a f') H64 := ⟨_, bst_next hf63 (by decide) (by decide), h64⟩
  clear h64
  refine W.eq (g2 := F0 m 435 lsA [.ref (a + 6), .ref a]) rfl ?_
  refine lv_dup c1 c2 (by decide +kernel) rfl ?_
  refine lv_bipush (n := 65) (v := 65) c1 c2 (by decide +kernel) (by decide +kernel) ?_
  refine lv_bipush (n := 109) (v := 109) c1 c2 (by decide +kernel) (by decide +kernel) ?_
  refine cn_bast C p64 hL64 (j := 6) (n := 138) rfl (i := 65) (x := 109) (by unfold vp_in; decide) (by decide +kernel) (fun H65 L65 h65 hL65 => ?_)
  obtain ⟨f65, hf65, p65⟩ : ∃ f' : Nat → Int32, (∀ z, z < 66 → f' z = nth mwords z 0) ∧ cnH (wD w) s.heap a (k10L w a f') H65 := ⟨_, bst_next hf64 (by decide) (by decide), h65⟩
  clear h65
  refine W.eq (g2 := F0 m 441 lsA [.ref (a + 6), .ref a]) rfl ?_
  refine lv_dup c1 c2 (by decide +kernel) rfl ?_
  refine lv_bipush (n := 66) (v := 66) c1 c2 (by decide +kernel) (by decide +kernel) ?_
  refine lv_bipush (n := 111) (v := 111) c1 c2 (by decide +kernel) (by decide +kernel) ?_
  refine cn_bast C p65 hL65 (j := 6) (n := 138) rfl (i := 66) (x := 111) (by unfold vp_in; decide) (by decide +kernel) (fun H66 L66 h66 hL66 => ?_)
  obtain ⟨f66, hf66, p66⟩ : ∃ f' : Nat → Int32, (∀ z, z < 67 → f' z = nth mwords z 0) ∧ cnH (wD w) s.heap a (k10L w a f') H66 := ⟨_, bst_next hf65 (by decide) (by decide), h66⟩
  clear h66
  refine W.eq (g2 := F0 m 447 lsA [.ref (a + 6), .ref a]) rfl ?_
  refine lv_dup c1 c2 (by decide +kernel) rfl ?_
  refine lv_bipush (n := 67) (v := 67) c1 c2 (by decide +kernel) (by decide +kernel) ?_
  refine lv_bipush (n := 111) (v := 111) c1 c2 (by decide +kernel) (by decide +kernel) ?_
  refine cn_bast C p66 hL66 (j := 6) (n := 138) rfl (i := 67) (x := 111) (by unfold vp_in; decide) (by decide +kernel) (fun H67 L67 h67 hL67 => ?_)
  obtain ⟨f67, hf67, p67⟩ : ∃ f' : Nat → Int32, (∀ z, z < 68 → f' z = nth mwords z 0) ∧ cnH (wD w) s.heap a (k10L w a f') H67 := ⟨_, bst_next hf66 (by decide) (by decide), h67⟩
  clear h67
  refine W.eq (g2 := F0 m 453 lsA [.ref (a + 6), .ref a]) rfl ?_
  refine lv_dup c1 c2 (by decide +kernel) rfl ?_
  refine lv_bipush (n := 68) (v := 68) c1 c2 (by decide +kernel) (by decide +kernel) ?_
  refine lv_bipush (n := 100) (v := 100) c1 c2 (by decide +kernel) (by decide +kernel) ?_
  refine cn_bast C p67 hL67 (j := 6) (n := 138) rfl (i := 68) (x := 100) (by unfold vp_in; decide) (by decide +kernel) (fun H68 L68 h68 hL68 => ?_)
  obtain ⟨f68, hf68, p68⟩ : ∃ f' : Nat → Int32, (∀ z, z < 69 → f' z = nth mwords z 0) ∧ cnH (wD w) s.heap a (k10L w a f') H68 := ⟨_, bst_next hf67 (by decide) (by decide), h68⟩
  clear h68
  refine W.eq (g2 := F0 m 459 lsA [.ref (a + 6), .ref a]) rfl ?_
  exact kk _ _ _ hL68 p68 hf68
set_option maxRecDepth 20000 in
theorem k10_w3 {p : Program} {l : Launch} {e : Env} {R : Room} {s : State} {m : MethodId} {args : Array Value} {below : List Frame} {meth : Method} {c : Code} {w : g_W} {H : Heap} {locs : List Loc} {cells slots a : Nat} {lsA : Array Slot} {Q : State → Prop} (C : cn_Ctx Mk_10 p l e R s m args below meth c w) {f : Nat → Int32} (hL : ∀ q ∈ locs, a ≤ q.base) (p0 : cnH (wD w) s.heap a (k10L w a f) H) (hf : ∀ z, z < 69 → f z = nth mwords z 0)
    (kk : ∀ (H : Heap) (locs : List Loc) (f : Nat → Int32), (∀ q ∈ locs, a ≤ q.base) → cnH (wD w) s.heap a (k10L w a f) H → (∀ z, z < 92 → f z = nth mwords z 0) → W p l e R s m args below meth c H locs cells slots Q (F0 m 597 lsA [.ref (a + 6), .ref a])) : W p l e R s m args below meth c H locs cells slots Q (F0 m 459 lsA [.ref (a + 6), .ref a]) := by
  have C0 := C
  obtain ⟨c1, c2, c3, c4, c5, c6, c7, c8, c9, c13, c14⟩ := C0
  refine W.eq (g2 := F0 m 459 lsA [.ref (a + 6), .ref a]) rfl ?_
  refine lv_dup c1 c2 (by decide +kernel) rfl ?_
  refine lv_bipush (n := 69) (v := 69) c1 c2 (by decide +kernel) (by decide +kernel) ?_
  refine lv_bipush (n := 32) (v := 32) c1 c2 (by decide +kernel) (by decide +kernel) ?_
  refine cn_bast C p0 hL (j := 6) (n := 138) rfl (i := 69) (x := 32) (by unfold vp_in; decide) (by decide +kernel) (fun H69 L69 h69 hL69 => ?_)
  obtain ⟨f69, hf69, p69⟩ : ∃ f' : Nat → Int32, (∀ z, z < 70 → f' z = nth mwords z 0) ∧ cnH (wD w) s.heap a (k10L w a f') H69 := ⟨_, bst_next hf (by decide) (by decide), h69⟩
  clear h69
  refine W.eq (g2 := F0 m 465 lsA [.ref (a + 6), .ref a]) rfl ?_
  refine lv_dup c1 c2 (by decide +kernel) rfl ?_
  refine lv_bipush (n := 70) (v := 70) c1 c2 (by decide +kernel) (by decide +kernel) ?_
  refine lv_bipush (n := 112) (v := 112) c1 c2 (by decide +kernel) (by decide +kernel) ?_
  refine cn_bast C p69 hL69 (j := 6) (n := 138) rfl (i := 70) (x := 112) (by unfold vp_in; decide) (by decide +kernel) (fun H70 L70 h70 hL70 => ?_)
  obtain ⟨f70, hf70, p70⟩ : ∃ f' : Nat → Int32, (∀ z, z < 71 → f' z = nth mwords z 0) ∧ cnH (wD w) s.heap a (k10L w a f') H70 := ⟨_, bst_next hf69 (by decide) (by decide), h70⟩
  clear h70
  refine W.eq (g2 := F0 m 471 lsA [.ref (a + 6), .ref a]) rfl ?_
  refine lv_dup c1 c2 (by decide +kernel) rfl ?_
  refine lv_bipush (n := 71) (v := 71) c1 c2 (by decide +kernel) (by decide +kernel) ?_
  refine lv_bipush (n := 114) (v := 114) c1 c2 (by decide +kernel) (by decide +kernel) ?_
  refine cn_bast C p70 hL70 (j := 6) (n := 138) rfl (i := 71) (x := 114) (by unfold vp_in; decide) (by decide +kernel) (fun H71 L71 h71 hL71 => ?_)
  obtain ⟨f71, hf71, p71⟩ : ∃ f' : Nat → Int32, (∀ z, z < 72 → f' z = nth mwords z 0) ∧ cnH (wD w) s.heap a (k10L w a f') H71 := ⟨_, bst_next hf70 (by decide) (by decide), h71⟩
  clear h71
  refine W.eq (g2 := F0 m 477 lsA [.ref (a + 6), .ref a]) rfl ?_
  refine lv_dup c1 c2 (by decide +kernel) rfl ?_
  refine lv_bipush (n := 72) (v := 72) c1 c2 (by decide +kernel) (by decide +kernel) ?_
  refine lv_bipush (n := 111) (v := 111) c1 c2 (by decide +kernel) (by decide +kernel) ?_
  refine cn_bast C p71 hL71 (j := 6) (n := 138) rfl (i := 72) (x := 111) (by unfold vp_in; decide) (by decide +kernel) (fun H72 L72 h72 hL72 => ?_)
  obtain ⟨f72, hf72, p72⟩ : ∃ f' : Nat → Int32, (∀ z, z < 73 → f' z = nth mwords z 0) ∧ cnH (wD w) s.heap a (k10L w a f') H72 := ⟨_, bst_next hf71 (by decide) (by decide), h72⟩
  clear h72
  refine W.eq (g2 := F0 m 483 lsA [.ref (a + 6), .ref a]) rfl ?_
  refine lv_dup c1 c2 (by decide +kernel) rfl ?_
  refine lv_bipush (n := 73) (v := 73) c1 c2 (by decide +kernel) (by decide +kernel) ?_
  refine lv_bipush (n := 111) (v := 111) c1 c2 (by decide +kernel) (by decide +kernel) ?_
  refine cn_bast C p72 hL72 (j := 6) (n := 138) rfl (i := 73) (x := 111) (by unfold vp_in; decide) (by decide +kernel) (fun H73 L73 h73 hL73 => ?_)
  obtain ⟨f73, hf73, p73⟩ : ∃ f' : Nat → Int32, (∀ z, z < 74 → f' z = nth mwords z 0) ∧ cnH (wD w) s.heap a (k10L w a f') H73 := ⟨_, bst_next hf72 (by decide) (by decide), h73⟩
  clear h73
  refine W.eq (g2 := F0 m 489 lsA [.ref (a + 6), .ref a]) rfl ?_
  refine lv_dup c1 c2 (by decide +kernel) rfl ?_
  refine lv_bipush (n := 74) (v := 74) c1 c2 (by decide +kernel) (by decide +kernel) ?_
  refine lv_bipush (n := 102) (v := 102) c1 c2 (by decide +kernel) (by decide +kernel) ?_
  refine cn_bast C p73 hL73 (j := 6) (n := 138) rfl (i := 74) (x := 102) (by unfold vp_in; decide) (by decide +kernel) (fun H74 L74 h74 hL74 => ?_)
  obtain ⟨f74, hf74, p74⟩ : ∃ f' : Nat → Int32, (∀ z, z < 75 → f' z = nth mwords z 0) ∧ cnH (wD w) s.heap a (k10L w a f') H74 := ⟨_, bst_next hf73 (by decide) (by decide), h74⟩
  clear h74
  refine W.eq (g2 := F0 m 495 lsA [.ref (a + 6), .ref a]) rfl ?_
  refine lv_dup c1 c2 (by decide +kernel) rfl ?_
  refine lv_bipush (n := 75) (v := 75) c1 c2 (by decide +kernel) (by decide +kernel) ?_
  refine lv_bipush (n := 32) (v := 32) c1 c2 (by decide +kernel) (by decide +kernel) ?_
  refine cn_bast C p74 hL74 (j := 6) (n := 138) rfl (i := 75) (x := 32) (by unfold vp_in; decide) (by decide +kernel) (fun H75 L75 h75 hL75 => ?_)
  obtain ⟨f75, hf75, p75⟩ : ∃ f' : Nat → Int32, (∀ z, z < 76 → f' z = nth mwords z 0) ∧ cnH (wD w) s.heap a (k10L w a f') H75 := ⟨_, bst_next hf74 (by decide) (by decide), h75⟩
  clear h75
  refine W.eq (g2 := F0 m 501 lsA [.ref (a + 6), .ref a]) rfl ?_
  refine lv_dup c1 c2 (by decide +kernel) rfl ?_
  refine lv_bipush (n := 76) (v := 76) c1 c2 (by decide +kernel) (by decide +kernel) ?_
  refine lv_bipush (n := 100) (v := 100) c1 c2 (by decide +kernel) (by decide +kernel) ?_
  refine cn_bast C p75 hL75 (j := 6) (n := 138) rfl (i := 76) (x := 100) (by unfold vp_in; decide) (by decide +kernel) (fun H76 L76 h76 hL76 => ?_)
  obtain ⟨f76, hf76, p76⟩ : ∃ f' : Nat → Int32, (∀ z, z < 77 → f' z = nth mwords z 0) ∧ cnH (wD w) s.heap a (k10L w a f') H76 := ⟨_, bst_next hf75 (by decide) (by decide), h76⟩
  clear h76
  refine W.eq (g2 := F0 m 507 lsA [.ref (a + 6), .ref a]) rfl ?_
  refine lv_dup c1 c2 (by decide +kernel) rfl ?_
  refine lv_bipush (n := 77) (v := 77) c1 c2 (by decide +kernel) (by decide +kernel) ?_
  refine lv_bipush (n := 111) (v := 111) c1 c2 (by decide +kernel) (by decide +kernel) ?_
  refine cn_bast C p76 hL76 (j := 6) (n := 138) rfl (i := 77) (x := 111) (by unfold vp_in; decide) (by decide +kernel) (fun H77 L77 h77 hL77 => ?_)
  obtain ⟨f77, hf77, p77⟩ : ∃ f' : Nat → Int32, (∀ z, z < 78 → f' z = nth mwords z 0) ∧ cnH (wD w) s.heap a (k10L w a f') H77 := ⟨_, bst_next hf76 (by decide) (by decide), h77⟩
  clear h77
  refine W.eq (g2 := F0 m 513 lsA [.ref (a + 6), .ref a]) rfl ?_
  refine lv_dup c1 c2 (by decide +kernel) rfl ?_
  refine lv_bipush (n := 78) (v := 78) c1 c2 (by decide +kernel) (by decide +kernel) ?_
  refine lv_bipush (n := 110) (v := 110) c1 c2 (by decide +kernel) (by decide +kernel) ?_
  refine cn_bast C p77 hL77 (j := 6) (n := 138) rfl (i := 78) (x := 110) (by unfold vp_in; decide) (by decide +kernel) (fun H78 L78 h78 hL78 => ?_)
  obtain ⟨f78, hf78, p78⟩ : ∃ f' : Nat → Int32, (∀ z, z < 79 → f' z = nth mwords z 0) ∧ cnH (wD w) s.heap a (k10L w a f') H78 := ⟨_, bst_next hf77 (by decide) (by decide), h78⟩
  clear h78
  refine W.eq (g2 := F0 m 519 lsA [.ref (a + 6), .ref a]) rfl ?_
  refine lv_dup c1 c2 (by decide +kernel) rfl ?_
  refine lv_bipush (n := 79) (v := 79) c1 c2 (by decide +kernel) (by decide +kernel) ?_
  refine lv_bipush (n := 101) (v := 101) c1 c2 (by decide +kernel) (by decide +kernel) ?_
  refine cn_bast C p78 hL78 (j := 6) (n := 138) rfl (i := 79) (x := 101) (by unfold vp_in; decide) (by decide +kernel) (fun H79 L79 h79 hL79 => ?_)
  obtain ⟨f79, hf79, p79⟩ : ∃ f' : Nat → Int32, (∀ z, z < 80 → f' z = nth mwords z 0) ∧ cnH (wD w) s.heap a (k10L w a f') H79 := ⟨_, bst_next hf78 (by decide) (by decide), h79⟩
  clear h79
  refine W.eq (g2 := F0 m 525 lsA [.ref (a + 6), .ref a]) rfl ?_
  refine lv_dup c1 c2 (by decide +kernel) rfl ?_
  refine lv_bipush (n := 80) (v := 80) c1 c2 (by decide +kernel) (by decide +kernel) ?_
  refine lv_bipush (n := 32) (v := 32) c1 c2 (by decide +kernel) (by decide +kernel) ?_
  refine cn_bast C p79 hL79 (j := 6) (n := 138) rfl (i := 80) (x := 32) (by unfold vp_in; decide) (by decide +kernel) (fun H80 L80 h80 hL80 => ?_)
  obtain ⟨f80, hf80, p80⟩ : ∃ f' : Nat → Int32, (∀ z, z < 81 → f' z = nth mwords z 0) ∧ cnH (wD w) s.heap a (k10L w a f') H80 := ⟨_, bst_next hf79 (by decide) (by decide), h80⟩
  clear h80
  refine W.eq (g2 := F0 m 531 lsA [.ref (a + 6), .ref a]) rfl ?_
  refine lv_dup c1 c2 (by decide +kernel) rfl ?_
  refine lv_bipush (n := 81) (v := 81) c1 c2 (by decide +kernel) (by decide +kernel) ?_
  refine lv_bipush (n := 108) (v := 108) c1 c2 (by decide +kernel) (by decide +kernel) ?_
  refine cn_bast C p80 hL80 (j := 6) (n := 138) rfl (i := 81) (x := 108) (by unfold vp_in; decide) (by decide +kernel) (fun H81 L81 h81 hL81 => ?_)
  obtain ⟨f81, hf81, p81⟩ : ∃ f' : Nat → Int32, (∀ z, z < 82 → f' z = nth mwords z 0) ∧ cnH (wD w) s.heap a (k10L w a f') H81 := ⟨_, bst_next hf80 (by decide) (by decide), h81⟩
  clear h81
  refine W.eq (g2 := F0 m 537 lsA [.ref (a + 6), .ref a]) rfl ?_
  refine lv_dup c1 c2 (by decide +kernel) rfl ?_
  refine lv_bipush (n := 82) (v := 82) c1 c2 (by decide +kernel) (by decide +kernel) ?_
  refine lv_bipush (n := 97) (v := 97) c1 c2 (by decide +kernel) (by decide +kernel) ?_
  refine cn_bast C p81 hL81 (j := 6) (n := 138) rfl (i := 82) (x := 97) (by unfold vp_in; decide) (by decide +kernel) (fun H82 L82 h82 hL82 => ?_)
  obtain ⟨f82, hf82, p82⟩ : ∃ f' : Nat → Int32, (∀ z, z < 83 → f' z = nth mwords z 0) ∧ cnH (wD w) s.heap a (k10L w a f') H82 := ⟨_, bst_next hf81 (by decide) (by decide), h82⟩
  clear h82
  refine W.eq (g2 := F0 m 543 lsA [.ref (a + 6), .ref a]) rfl ?_
  refine lv_dup c1 c2 (by decide +kernel) rfl ?_
  refine lv_bipush (n := 83) (v := 83) c1 c2 (by decide +kernel) (by decide +kernel) ?_
  refine lv_bipush (n := 116) (v := 116) c1 c2 (by decide +kernel) (by decide +kernel) ?_
  refine cn_bast C p82 hL82 (j := 6) (n := 138) rfl (i := 83) (x := 116) (by unfold vp_in; decide) (by decide +kernel) (fun H83 L83 h83 hL83 => ?_)
  obtain ⟨f83, hf83, p83⟩ : ∃ f' : Nat → Int32, (∀ z, z < 84 → f' z = nth mwords z 0) ∧ cnH (wD w) s.heap a (k10L w a f') H83 := ⟨_, bst_next hf82 (by decide) (by decide), h83⟩
  clear h83
  refine W.eq (g2 := F0 m 549 lsA [.ref (a + 6), .ref a]) rfl ?_
  refine lv_dup c1 c2 (by decide +kernel) rfl ?_
  refine lv_bipush (n := 84) (v := 84) c1 c2 (by decide +kernel) (by decide +kernel) ?_
  refine lv_bipush (n := 101) (v := 101) c1 c2 (by decide +kernel) (by decide +kernel) ?_
  refine cn_bast C p83 hL83 (j := 6) (n := 138) rfl (i := 84) (x := 101) (by unfold vp_in; decide) (by decide +kernel) (fun H84 L84 h84 hL84 => ?_)
  obtain ⟨f84, hf84, p84⟩ : ∃ f' : Nat → Int32, (∀ z, z < 85 → f' z = nth mwords z 0) ∧ cnH (wD w) s.heap a (k10L w a f') H84 := ⟨_, bst_next hf83 (by decide) (by decide), h84⟩
  clear h84
  refine W.eq (g2 := F0 m 555 lsA [.ref (a + 6), .ref a]) rfl ?_
  refine lv_dup c1 c2 (by decide +kernel) rfl ?_
  refine lv_bipush (n := 85) (v := 85) c1 c2 (by decide +kernel) (by decide +kernel) ?_
  refine lv_bipush (n := 115) (v := 115) c1 c2 (by decide +kernel) (by decide +kernel) ?_
  refine cn_bast C p84 hL84 (j := 6) (n := 138) rfl (i := 85) (x := 115) (by unfold vp_in; decide) (by decide +kernel) (fun H85 L85 h85 hL85 => ?_)
  obtain ⟨f85, hf85, p85⟩ : ∃ f' : Nat → Int32, (∀ z, z < 86 → f' z = nth mwords z 0) ∧ cnH (wD w) s.heap a (k10L w a f') H85 := ⟨_, bst_next hf84 (by decide) (by decide), h85⟩
  clear h85
  refine W.eq (g2 := F0 m 561 lsA [.ref (a + 6), .ref a]) rfl ?_
  refine lv_dup c1 c2 (by decide +kernel) rfl ?_
  refine lv_bipush (n := 86) (v := 86) c1 c2 (by decide +kernel) (by decide +kernel) ?_
  refine lv_bipush (n := 116) (v := 116) c1 c2 (by decide +kernel) (by decide +kernel) ?_
  refine cn_bast C p85 hL85 (j := 6) (n := 138) rfl (i := 86) (x := 116) (by unfold vp_in; decide) (by decide +kernel) (fun H86 L86 h86 hL86 => ?_)
  obtain ⟨f86, hf86, p86⟩ : ∃ f' : Nat → Int32, (∀ z, z < 87 → f' z = nth mwords z 0) ∧ cnH (wD w) s.heap a (k10L w a f') H86 := ⟨_, bst_next hf85 (by decide) (by decide), h86⟩
  clear h86
  refine W.eq (g2 := F0 m 567 lsA [.ref (a + 6), .ref a]) rfl ?_
  refine lv_dup c1 c2 (by decide +kernel) rfl ?_
  refine lv_bipush (n := 87) (v := 87) c1 c2 (by decide +kernel) (by decide +kernel) ?_
  refine lv_bipush (n := 32) (v := 32) c1 c2 (by decide +kernel) (by decide +kernel) ?_
  refine cn_bast C p86 hL86 (j := 6) (n := 138) rfl (i := 87) (x := 32) (by unfold vp_in; decide) (by decide +kernel) (fun H87 L87 h87 hL87 => ?_)
  obtain ⟨f87, hf87, p87⟩ : ∃ f' : Nat → Int32, (∀ z, z < 88 → f' z = nth mwords z 0) ∧ cnH (wD w) s.heap a (k10L w a f') H87 := ⟨_, bst_next hf86 (by decide) (by decide), h87⟩
  clear h87
  refine W.eq (g2 := F0 m 573 lsA [.ref (a + 6), .ref a]) rfl ?_
  refine lv_dup c1 c2 (by decide +kernel) rfl ?_
  refine lv_bipush (n := 88) (v := 88) c1 c2 (by decide +kernel) (by decide +kernel) ?_
  refine lv_bipush (n := 108) (v := 108) c1 c2 (by decide +kernel) (by decide +kernel) ?_
  refine cn_bast C p87 hL87 (j := 6) (n := 138) rfl (i := 88) (x := 108) (by unfold vp_in; decide) (by decide +kernel) (fun H88 L88 h88 hL88 => ?_)
  obtain ⟨f88, hf88, p88⟩ : ∃ f' : Nat → Int32, (∀ z, z < 89 → f' z = nth mwords z 0) ∧ cnH (wD w) s.heap a (k10L w a f') H88 := ⟨_, bst_next hf87 (by decide) (by decide), h88⟩
  clear h88
  refine W.eq (g2 := F0 m 579 lsA [.ref (a + 6), .ref a]) rfl ?_
  refine lv_dup c1 c2 (by decide +kernel) rfl ?_
  refine lv_bipush (n := 89) (v := 89) c1 c2 (by decide +kernel) (by decide +kernel) ?_
  refine lv_bipush (n := 105) (v := 105) c1 c2 (by decide +kernel) (by decide +kernel) ?_
  refine cn_bast C p88 hL88 (j := 6) (n := 138) rfl (i := 89) (x := 105) (by unfold vp_in; decide) (by decide +kernel) (fun H89 L89 h89 hL89 => ?_)
  obtain ⟨f89, hf89, p89⟩ : ∃ f' : Nat → Int32, (∀ z, z < 90 → f' z = nth mwords z 0) ∧ cnH (wD w) s.heap a (k10L w a f') H89 := ⟨_, bst_next hf88 (by decide) (by decide), h89⟩
  clear h89
  refine W.eq (g2 := F0 m 585 lsA [.ref (a + 6), .ref a]) rfl ?_
  refine lv_dup c1 c2 (by decide +kernel) rfl ?_
  refine lv_bipush (n := 90) (v := 90) c1 c2 (by decide +kernel) (by decide +kernel) ?_
  refine lv_bipush (n := 110) (v := 110) c1 c2 (by decide +kernel) (by decide +kernel) ?_
  refine cn_bast C p89 hL89 (j := 6) (n := 138) rfl (i := 90) (x := 110) (by unfold vp_in; decide) (by decide +kernel) (fun H90 L90 h90 hL90 => ?_)
  obtain ⟨f90, hf90, p90⟩ : ∃ f' : Nat → Int32, (∀ z, z < 91 → f' z = nth mwords z 0) ∧ cnH (wD w) s.heap a (k10L w a f') H90 := ⟨_, bst_next hf89 (by decide) (by decide), h90⟩
  clear h90
  refine W.eq (g2 := F0 m 591 lsA [.ref (a + 6), .ref a]) rfl ?_
  refine lv_dup c1 c2 (by decide +kernel) rfl ?_
  refine lv_bipush (n := 91) (v := 91) c1 c2 (by decide +kernel) (by decide +kernel) ?_
  refine lv_bipush (n := 101) (v := 101) c1 c2 (by decide +kernel) (by decide +kernel) ?_
  refine cn_bast C p90 hL90 (j := 6) (n := 138) rfl (i := 91) (x := 101) (by unfold vp_in; decide) (by decide +kernel) (fun H91 L91 h91 hL91 => ?_)
  obtain ⟨f91, hf91, p91⟩ : ∃ f' : Nat → Int32, (∀ z, z < 92 → f' z = nth mwords z 0) ∧ cnH (wD w) s.heap a (k10L w a f') H91 := ⟨_, bst_next hf90 (by decide) (by decide), h91⟩
  clear h91
  refine W.eq (g2 := F0 m 597 lsA [.ref (a + 6), .ref a]) rfl ?_
  exact kk _ _ _ hL91 p91 hf91
set_option maxRecDepth 20000 in
theorem k10_w4 {p : Program} {l : Launch} {e : Env} {R : Room} {s : State} {m : MethodId} {args : Array Value} {below : List Frame} {meth : Method} {c : Code} {w : g_W} {H : Heap} {locs : List Loc} {cells slots a : Nat} {lsA : Array Slot} {Q : State → Prop} (C : cn_Ctx Mk_10 p l e R s m args below meth c w) {f : Nat → Int32} (hL : ∀ q ∈ locs, a ≤ q.base) (p0 : cnH (wD w) s.heap a (k10L w a f) H) (hf : ∀ z, z < 92 → f z = nth mwords z 0)
    (kk : ∀ (H : Heap) (locs : List Loc) (f : Nat → Int32), (∀ q ∈ locs, a ≤ q.base) → cnH (wD w) s.heap a (k10L w a f) H → (∀ z, z < 115 → f z = nth mwords z 0) → W p l e R s m args below meth c H locs cells slots Q (F0 m 735 lsA [.ref (a + 6), .ref a])) : W p l e R s m args below meth c H locs cells slots Q (F0 m 597 lsA [.ref (a + 6), .ref a]) := by
  have C0 := C
  obtain ⟨c1, c2, c3, c4, c5, c6, c7, c8, c9, c13, c14⟩ := C0
  refine W.eq (g2 := F0 m 597 lsA [.ref (a + 6), .ref a]) rfl ?_
  refine lv_dup c1 c2 (by decide +kernel) rfl ?_
  refine lv_bipush (n := 92) (v := 92) c1 c2 (by decide +kernel) (by decide +kernel) ?_
  refine lv_bipush (n := 115) (v := 115) c1 c2 (by decide +kernel) (by decide +kernel) ?_
  refine cn_bast C p0 hL (j := 6) (n := 138) rfl (i := 92) (x := 115) (by unfold vp_in; decide) (by decide +kernel) (fun H92 L92 h92 hL92 => ?_)
  obtain ⟨f92, hf92, p92⟩ : ∃ f' : Nat → Int32, (∀ z, z < 93 → f' z = nth mwords z 0) ∧ cnH (wD w) s.heap a (k10L w a f') H92 := ⟨_, bst_next hf (by decide) (by decide), h92⟩
  clear h92
  refine W.eq (g2 := F0 m 603 lsA [.ref (a + 6), .ref a]) rfl ?_
  refine lv_dup c1 c2 (by decide +kernel) rfl ?_
  refine lv_bipush (n := 93) (v := 93) c1 c2 (by decide +kernel) (by decide +kernel) ?_
  refine lv_bipush (n := 32) (v := 32) c1 c2 (by decide +kernel) (by decide +kernel) ?_
  refine cn_bast C p92 hL92 (j := 6) (n := 138) rfl (i := 93) (x := 32) (by unfold vp_in; decide) (by decide +kernel) (fun H93 L93 h93 hL93 => ?_)
  obtain ⟨f93, hf93, p93⟩ : ∃ f' : Nat → Int32, (∀ z, z < 94 → f' z = nth mwords z 0) ∧ cnH (wD w) s.heap a (k10L w a f') H93 := ⟨_, bst_next hf92 (by decide) (by decide), h93⟩
  clear h93
  refine W.eq (g2 := F0 m 609 lsA [.ref (a + 6), .ref a]) rfl ?_
  refine lv_dup c1 c2 (by decide +kernel) rfl ?_
  refine lv_bipush (n := 94) (v := 94) c1 c2 (by decide +kernel) (by decide +kernel) ?_
  refine lv_bipush (n := 102) (v := 102) c1 c2 (by decide +kernel) (by decide +kernel) ?_
  refine cn_bast C p93 hL93 (j := 6) (n := 138) rfl (i := 94) (x := 102) (by unfold vp_in; decide) (by decide +kernel) (fun H94 L94 h94 hL94 => ?_)
  obtain ⟨f94, hf94, p94⟩ : ∃ f' : Nat → Int32, (∀ z, z < 95 → f' z = nth mwords z 0) ∧ cnH (wD w) s.heap a (k10L w a f') H94 := ⟨_, bst_next hf93 (by decide) (by decide), h94⟩
  clear h94
  refine W.eq (g2 := F0 m 615 lsA [.ref (a + 6), .ref a]) rfl ?_
  refine lv_dup c1 c2 (by decide +kernel) rfl ?_
  refine lv_bipush (n := 95) (v := 95) c1 c2 (by decide +kernel) (by decide +kernel) ?_
  refine lv_bipush (n := 105) (v := 105) c1 c2 (by decide +kernel) (by decide +kernel) ?_
  refine cn_bast C p94 hL94 (j := 6) (n := 138) rfl (i := 95) (x := 105) (by unfold vp_in; decide) (by decide +kernel) (fun H95 L95 h95 hL95 => ?_)
  obtain ⟨f95, hf95, p95⟩ : ∃ f' : Nat → Int32, (∀ z, z < 96 → f' z = nth mwords z 0) ∧ cnH (wD w) s.heap a (k10L w a f') H95 := ⟨_, bst_next hf94 (by decide) (by decide), h95⟩
  clear h95
  refine W.eq (g2 := F0 m 621 lsA [.ref (a + 6), .ref a]) rfl ?_
  refine lv_dup c1 c2 (by decide +kernel) rfl ?_
  refine lv_bipush (n := 96) (v := 96) c1 c2 (by decide +kernel) (by decide +kernel) ?_
  refine lv_bipush (n := 116) (v := 116) c1 c2 (by decide +kernel) (by decide +kernel) ?_
  refine cn_bast C p95 hL95 (j := 6) (n := 138) rfl (i := 96) (x := 116) (by unfold vp_in; decide) (by decide +kernel) (fun H96 L96 h96 hL96 => ?_)
  obtain ⟨f96, hf96, p96⟩ : ∃ f' : Nat → Int32, (∀ z, z < 97 → f' z = nth mwords z 0) ∧ cnH (wD w) s.heap a (k10L w a f') H96 := ⟨_, bst_next hf95 (by decide) (by decide), h96⟩
  clear h96
  refine W.eq (g2 := F0 m 627 lsA [.ref (a + 6), .ref a]) rfl ?_
  refine lv_dup c1 c2 (by decide +kernel) rfl ?_
  refine lv_bipush (n := 97) (v := 97) c1 c2 (by decide +kernel) (by decide +kernel) ?_
  refine lv_bipush (n := 32) (v := 32) c1 c2 (by decide +kernel) (by decide +kernel) ?_
  refine cn_bast C p96 hL96 (j := 6) (n := 138) rfl (i := 97) (x := 32) (by unfold vp_in; decide) (by decide +kernel) (fun H97 L97 h97 hL97 => ?_)
  obtain ⟨f97, hf97, p97⟩ : ∃ f' : Nat → Int32, (∀ z, z < 98 → f' z = nth mwords z 0) ∧ cnH (wD w) s.heap a (k10L w a f') H97 := ⟨_, bst_next hf96 (by decide) (by decide), h97⟩
  clear h97
  refine W.eq (g2 := F0 m 633 lsA [.ref (a + 6), .ref a]) rfl ?_
  refine lv_dup c1 c2 (by decide +kernel) rfl ?_
  refine lv_bipush (n := 98) (v := 98) c1 c2 (by decide +kernel) (by decide +kernel) ?_
  refine lv_bipush (n := 119) (v := 119) c1 c2 (by decide +kernel) (by decide +kernel) ?_
  refine cn_bast C p97 hL97 (j := 6) (n := 138) rfl (i := 98) (x := 119) (by unfold vp_in; decide) (by decide +kernel) (fun H98 L98 h98 hL98 => ?_)
  obtain ⟨f98, hf98, p98⟩ : ∃ f' : Nat → Int32, (∀ z, z < 99 → f' z = nth mwords z 0) ∧ cnH (wD w) s.heap a (k10L w a f') H98 := ⟨_, bst_next hf97 (by decide) (by decide), h98⟩
  clear h98
  refine W.eq (g2 := F0 m 639 lsA [.ref (a + 6), .ref a]) rfl ?_
  refine lv_dup c1 c2 (by decide +kernel) rfl ?_
  refine lv_bipush (n := 99) (v := 99) c1 c2 (by decide +kernel) (by decide +kernel) ?_
  refine lv_bipush (n := 105) (v := 105) c1 c2 (by decide +kernel) (by decide +kernel) ?_
  refine cn_bast C p98 hL98 (j := 6) (n := 138) rfl (i := 99) (x := 105) (by unfold vp_in; decide) (by decide +kernel) (fun H99 L99 h99 hL99 => ?_)
  obtain ⟨f99, hf99, p99⟩ : ∃ f' : Nat → Int32, (∀ z, z < 100 → f' z = nth mwords z 0) ∧ cnH (wD w) s.heap a (k10L w a f') H99 := ⟨_, bst_next hf98 (by decide) (by decide), h99⟩
  clear h99
  refine W.eq (g2 := F0 m 645 lsA [.ref (a + 6), .ref a]) rfl ?_
  refine lv_dup c1 c2 (by decide +kernel) rfl ?_
  refine lv_bipush (n := 100) (v := 100) c1 c2 (by decide +kernel) (by decide +kernel) ?_
  refine lv_bipush (n := 100) (v := 100) c1 c2 (by decide +kernel) (by decide +kernel) ?_
  refine cn_bast C p99 hL99 (j := 6) (n := 138) rfl (i := 100) (x := 100) (by unfold vp_in; decide) (by decide +kernel) (fun H100 L100 h100 hL100 => ?_)
  obtain ⟨f100, hf100, p100⟩ : ∃ f' : Nat → Int32, (∀ z, z < 101 → f' z = nth mwords z 0) ∧ cnH (wD w) s.heap a (k10L w a f') H100 := ⟨_, bst_next hf99 (by decide) (by decide), h100⟩
  clear h100
  refine W.eq (g2 := F0 m 651 lsA [.ref (a + 6), .ref a]) rfl ?_
  refine lv_dup c1 c2 (by decide +kernel) rfl ?_
  refine lv_bipush (n := 101) (v := 101) c1 c2 (by decide +kernel) (by decide +kernel) ?_
  refine lv_bipush (n := 101) (v := 101) c1 c2 (by decide +kernel) (by decide +kernel) ?_
  refine cn_bast C p100 hL100 (j := 6) (n := 138) rfl (i := 101) (x := 101) (by unfold vp_in; decide) (by decide +kernel) (fun H101 L101 h101 hL101 => ?_)
  obtain ⟨f101, hf101, p101⟩ : ∃ f' : Nat → Int32, (∀ z, z < 102 → f' z = nth mwords z 0) ∧ cnH (wD w) s.heap a (k10L w a f') H101 := ⟨_, bst_next hf100 (by decide) (by decide), h101⟩
  clear h101
  refine W.eq (g2 := F0 m 657 lsA [.ref (a + 6), .ref a]) rfl ?_
  refine lv_dup c1 c2 (by decide +kernel) rfl ?_
  refine lv_bipush (n := 102) (v := 102) c1 c2 (by decide +kernel) (by decide +kernel) ?_
  refine lv_bipush (n := 32) (v := 32) c1 c2 (by decide +kernel) (by decide +kernel) ?_
  refine cn_bast C p101 hL101 (j := 6) (n := 138) rfl (i := 102) (x := 32) (by unfold vp_in; decide) (by decide +kernel) (fun H102 L102 h102 hL102 => ?_)
  obtain ⟨f102, hf102, p102⟩ : ∃ f' : Nat → Int32, (∀ z, z < 103 → f' z = nth mwords z 0) ∧ cnH (wD w) s.heap a (k10L w a f') H102 := ⟨_, bst_next hf101 (by decide) (by decide), h102⟩
  clear h102
  refine W.eq (g2 := F0 m 663 lsA [.ref (a + 6), .ref a]) rfl ?_
  refine lv_dup c1 c2 (by decide +kernel) rfl ?_
  refine lv_bipush (n := 103) (v := 103) c1 c2 (by decide +kernel) (by decide +kernel) ?_
  refine lv_bipush (n := 101) (v := 101) c1 c2 (by decide +kernel) (by decide +kernel) ?_
  refine cn_bast C p102 hL102 (j := 6) (n := 138) rfl (i := 103) (x := 101) (by unfold vp_in; decide) (by decide +kernel) (fun H103 L103 h103 hL103 => ?_)
  obtain ⟨f103, hf103, p103⟩ : ∃ f' : Nat → Int32, (∀ z, z < 104 → f' z = nth mwords z 0) ∧ cnH (wD w) s.heap a (k10L w a f') H103 := ⟨_, bst_next hf102 (by decide) (by decide), h103⟩
  clear h103
  refine W.eq (g2 := F0 m 669 lsA [.ref (a + 6), .ref a]) rfl ?_
  refine lv_dup c1 c2 (by decide +kernel) rfl ?_
  refine lv_bipush (n := 104) (v := 104) c1 c2 (by decide +kernel) (by decide +kernel) ?_
  refine lv_bipush (n := 110) (v := 110) c1 c2 (by decide +kernel) (by decide +kernel) ?_
  refine cn_bast C p103 hL103 (j := 6) (n := 138) rfl (i := 104) (x := 110) (by unfold vp_in; decide) (by decide +kernel) (fun H104 L104 h104 hL104 => ?_)
  obtain ⟨f104, hf104, p104⟩ : ∃ f' : Nat → Int32, (∀ z, z < 105 → f' z = nth mwords z 0) ∧ cnH (wD w) s.heap a (k10L w a f') H104 := ⟨_, bst_next hf103 (by decide) (by decide), h104⟩
  clear h104
  refine W.eq (g2 := F0 m 675 lsA [.ref (a + 6), .ref a]) rfl ?_
  refine lv_dup c1 c2 (by decide +kernel) rfl ?_
  refine lv_bipush (n := 105) (v := 105) c1 c2 (by decide +kernel) (by decide +kernel) ?_
  refine lv_bipush (n := 100) (v := 100) c1 c2 (by decide +kernel) (by decide +kernel) ?_
  refine cn_bast C p104 hL104 (j := 6) (n := 138) rfl (i := 105) (x := 100) (by unfold vp_in; decide) (by decide +kernel) (fun H105 L105 h105 hL105 => ?_)
  obtain ⟨f105, hf105, p105⟩ : ∃ f' : Nat → Int32, (∀ z, z < 106 → f' z = nth mwords z 0) ∧ cnH (wD w) s.heap a (k10L w a f') H105 := ⟨_, bst_next hf104 (by decide) (by decide), h105⟩
  clear h105
  refine W.eq (g2 := F0 m 681 lsA [.ref (a + 6), .ref a]) rfl ?_
  refine lv_dup c1 c2 (by decide +kernel) rfl ?_
  refine lv_bipush (n := 106) (v := 106) c1 c2 (by decide +kernel) (by decide +kernel) ?_
  refine lv_bipush (n := 115) (v := 115) c1 c2 (by decide +kernel) (by decide +kernel) ?_
  refine cn_bast C p105 hL105 (j := 6) (n := 138) rfl (i := 106) (x := 115) (by unfold vp_in; decide) (by decide +kernel) (fun H106 L106 h106 hL106 => ?_)
  obtain ⟨f106, hf106, p106⟩ : ∃ f' : Nat → Int32, (∀ z, z < 107 → f' z = nth mwords z 0) ∧ cnH (wD w) s.heap a (k10L w a f') H106 := ⟨_, bst_next hf105 (by decide) (by decide), h106⟩
  clear h106
  refine W.eq (g2 := F0 m 687 lsA [.ref (a + 6), .ref a]) rfl ?_
  refine lv_dup c1 c2 (by decide +kernel) rfl ?_
  refine lv_bipush (n := 107) (v := 107) c1 c2 (by decide +kernel) (by decide +kernel) ?_
  refine lv_bipush (n := 32) (v := 32) c1 c2 (by decide +kernel) (by decide +kernel) ?_
  refine cn_bast C p106 hL106 (j := 6) (n := 138) rfl (i := 107) (x := 32) (by unfold vp_in; decide) (by decide +kernel) (fun H107 L107 h107 hL107 => ?_)
  obtain ⟨f107, hf107, p107⟩ : ∃ f' : Nat → Int32, (∀ z, z < 108 → f' z = nth mwords z 0) ∧ cnH (wD w) s.heap a (k10L w a f') H107 := ⟨_, bst_next hf106 (by decide) (by decide), h107⟩
  clear h107
  refine W.eq (g2 := F0 m 693 lsA [.ref (a + 6), .ref a]) rfl ?_
  refine lv_dup c1 c2 (by decide +kernel) rfl ?_
  refine lv_bipush (n := 108) (v := 108) c1 c2 (by decide +kernel) (by decide +kernel) ?_
  refine lv_bipush (n := 101) (v := 101) c1 c2 (by decide +kernel) (by decide +kernel) ?_
  refine cn_bast C p107 hL107 (j := 6) (n := 138) rfl (i := 108) (x := 101) (by unfold vp_in; decide) (by decide +kernel) (fun H108 L108 h108 hL108 => ?_)
  obtain ⟨f108, hf108, p108⟩ : ∃ f' : Nat → Int32, (∀ z, z < 109 → f' z = nth mwords z 0) ∧ cnH (wD w) s.heap a (k10L w a f') H108 := ⟨_, bst_next hf107 (by decide) (by decide), h108⟩
  clear h108
  refine W.eq (g2 := F0 m 699 lsA [.ref (a + 6), .ref a]) rfl ?_
  refine lv_dup c1 c2 (by decide +kernel) rfl ?_
  refine lv_bipush (n := 109) (v := 109) c1 c2 (by decide +kernel) (by decide +kernel) ?_
  refine lv_bipush (n := 110) (v := 110) c1 c2 (by decide +kernel) (by decide +kernel) ?_
  refine cn_bast C p108 hL108 (j := 6) (n := 138) rfl (i := 109) (x := 110) (by unfold vp_in; decide) (by decide +kernel) (fun H109 L109 h109 hL109 => ?_)
  obtain ⟨f109, hf109, p109⟩ : ∃ f' : Nat → Int32, (∀ z, z < 110 → f' z = nth mwords z 0) ∧ cnH (wD w) s.heap a (k10L w a f') H109 := ⟨_, bst_next hf108 (by decide) (by decide), h109⟩
  clear h109
  refine W.eq (g2 := F0 m 705 lsA [.ref (a + 6), .ref a]) rfl ?_
  refine lv_dup c1 c2 (by decide +kernel) rfl ?_
  refine lv_bipush (n := 110) (v := 110) c1 c2 (by decide +kernel) (by decide +kernel) ?_
  refine lv_bipush (n := 100) (v := 100) c1 c2 (by decide +kernel) (by decide +kernel) ?_
  refine cn_bast C p109 hL109 (j := 6) (n := 138) rfl (i := 110) (x := 100) (by unfold vp_in; decide) (by decide +kernel) (fun H110 L110 h110 hL110 => ?_)
  obtain ⟨f110, hf110, p110⟩ : ∃ f' : Nat → Int32, (∀ z, z < 111 → f' z = nth mwords z 0) ∧ cnH (wD w) s.heap a (k10L w a f') H110 := ⟨_, bst_next hf109 (by decide) (by decide), h110⟩
  clear h110
  refine W.eq (g2 := F0 m 711 lsA [.ref (a + 6), .ref a]) rfl ?_
  refine lv_dup c1 c2 (by decide +kernel) rfl ?_
  refine lv_bipush (n := 111) (v := 111) c1 c2 (by decide +kernel) (by decide +kernel) ?_
  refine lv_bipush (n := 32) (v := 32) c1 c2 (by decide +kernel) (by decide +kernel) ?_
  refine cn_bast C p110 hL110 (j := 6) (n := 138) rfl (i := 111) (x := 32) (by unfold vp_in; decide) (by decide +kernel) (fun H111 L111 h111 hL111 => ?_)
  obtain ⟨f111, hf111, p111⟩ : ∃ f' : Nat → Int32, (∀ z, z < 112 → f' z = nth mwords z 0) ∧ cnH (wD w) s.heap a (k10L w a f') H111 := ⟨_, bst_next hf110 (by decide) (by decide), h111⟩
  clear h111
  refine W.eq (g2 := F0 m 717 lsA [.ref (a + 6), .ref a]) rfl ?_
  refine lv_dup c1 c2 (by decide +kernel) rfl ?_
  refine lv_bipush (n := 112) (v := 112) c1 c2 (by decide +kernel) (by decide +kernel) ?_
  refine lv_bipush (n := 115) (v := 115) c1 c2 (by decide +kernel) (by decide +kernel) ?_
  refine cn_bast C p111 hL111 (j := 6) (n := 138) rfl (i := 112) (x := 115) (by unfold vp_in; decide) (by decide +kernel) (fun H112 L112 h112 hL112 => ?_)
  obtain ⟨f112, hf112, p112⟩ : ∃ f' : Nat → Int32, (∀ z, z < 113 → f' z = nth mwords z 0) ∧ cnH (wD w) s.heap a (k10L w a f') H112 := ⟨_, bst_next hf111 (by decide) (by decide), h112⟩
  clear h112
  refine W.eq (g2 := F0 m 723 lsA [.ref (a + 6), .ref a]) rfl ?_
  refine lv_dup c1 c2 (by decide +kernel) rfl ?_
  refine lv_bipush (n := 113) (v := 113) c1 c2 (by decide +kernel) (by decide +kernel) ?_
  refine lv_bipush (n := 112) (v := 112) c1 c2 (by decide +kernel) (by decide +kernel) ?_
  refine cn_bast C p112 hL112 (j := 6) (n := 138) rfl (i := 113) (x := 112) (by unfold vp_in; decide) (by decide +kernel) (fun H113 L113 h113 hL113 => ?_)
  obtain ⟨f113, hf113, p113⟩ : ∃ f' : Nat → Int32, (∀ z, z < 114 → f' z = nth mwords z 0) ∧ cnH (wD w) s.heap a (k10L w a f') H113 := ⟨_, bst_next hf112 (by decide) (by decide), h113⟩
  clear h113
  refine W.eq (g2 := F0 m 729 lsA [.ref (a + 6), .ref a]) rfl ?_
  refine lv_dup c1 c2 (by decide +kernel) rfl ?_
  refine lv_bipush (n := 114) (v := 114) c1 c2 (by decide +kernel) (by decide +kernel) ?_
  refine lv_bipush (n := 108) (v := 108) c1 c2 (by decide +kernel) (by decide +kernel) ?_
  refine cn_bast C p113 hL113 (j := 6) (n := 138) rfl (i := 114) (x := 108) (by unfold vp_in; decide) (by decide +kernel) (fun H114 L114 h114 hL114 => ?_)
  obtain ⟨f114, hf114, p114⟩ : ∃ f' : Nat → Int32, (∀ z, z < 115 → f' z = nth mwords z 0) ∧ cnH (wD w) s.heap a (k10L w a f') H114 := ⟨_, bst_next hf113 (by decide) (by decide), h114⟩
  clear h114
  refine W.eq (g2 := F0 m 735 lsA [.ref (a + 6), .ref a]) rfl ?_
  exact kk _ _ _ hL114 p114 hf114
set_option maxRecDepth 20000 in
theorem k10_w5 {p : Program} {l : Launch} {e : Env} {R : Room} {s : State} {m : MethodId} {args : Array Value} {below : List Frame} {meth : Method} {c : Code} {w : g_W} {H : Heap} {locs : List Loc} {cells slots a : Nat} {lsA : Array Slot} {Q : State → Prop} (C : cn_Ctx Mk_10 p l e R s m args below meth c w) {f : Nat → Int32} (hL : ∀ q ∈ locs, a ≤ q.base) (p0 : cnH (wD w) s.heap a (k10L w a f) H) (hf : ∀ z, z < 115 → f z = nth mwords z 0)
    (kk : ∀ (H : Heap) (locs : List Loc) (f : Nat → Int32), (∀ q ∈ locs, a ≤ q.base) → cnH (wD w) s.heap a (k10L w a f) H → (∀ z, z < 138 → f z = nth mwords z 0) → W p l e R s m args below meth c H locs cells slots Q (F0 m 883 lsA [.ref (a + 6), .ref a])) : W p l e R s m args below meth c H locs cells slots Q (F0 m 735 lsA [.ref (a + 6), .ref a]) := by
  have C0 := C
  obtain ⟨c1, c2, c3, c4, c5, c6, c7, c8, c9, c13, c14⟩ := C0
  refine W.eq (g2 := F0 m 735 lsA [.ref (a + 6), .ref a]) rfl ?_
  refine lv_dup c1 c2 (by decide +kernel) rfl ?_
  refine lv_bipush (n := 115) (v := 115) c1 c2 (by decide +kernel) (by decide +kernel) ?_
  refine lv_bipush (n := 105) (v := 105) c1 c2 (by decide +kernel) (by decide +kernel) ?_
  refine cn_bast C p0 hL (j := 6) (n := 138) rfl (i := 115) (x := 105) (by unfold vp_in; decide) (by decide +kernel) (fun H115 L115 h115 hL115 => ?_)
  obtain ⟨f115, hf115, p115⟩ : ∃ f' : Nat → Int32, (∀ z, z < 116 → f' z = nth mwords z 0) ∧ cnH (wD w) s.heap a (k10L w a f') H115 := ⟨_, bst_next hf (by decide) (by decide), h115⟩
  clear h115
  refine W.eq (g2 := F0 m 741 lsA [.ref (a + 6), .ref a]) rfl ?_
  refine lv_dup c1 c2 (by decide +kernel) rfl ?_
  refine lv_bipush (n := 116) (v := 116) c1 c2 (by decide +kernel) (by decide +kernel) ?_
  refine lv_bipush (n := 116) (v := 116) c1 c2 (by decide +kernel) (by decide +kernel) ?_
  refine cn_bast C p115 hL115 (j := 6) (n := 138) rfl (i := 116) (x := 116) (by unfold vp_in; decide) (by decide +kernel) (fun H116 L116 h116 hL116 => ?_)
  obtain ⟨f116, hf116, p116⟩ : ∃ f' : Nat → Int32, (∀ z, z < 117 → f' z = nth mwords z 0) ∧ cnH (wD w) s.heap a (k10L w a f') H116 := ⟨_, bst_next hf115 (by decide) (by decide), h116⟩
  clear h116
  refine W.eq (g2 := F0 m 747 lsA [.ref (a + 6), .ref a]) rfl ?_
  refine lv_dup c1 c2 (by decide +kernel) rfl ?_
  refine lv_bipush (n := 117) (v := 117) c1 c2 (by decide +kernel) (by decide +kernel) ?_
  refine lv_bipush (n := 32) (v := 32) c1 c2 (by decide +kernel) (by decide +kernel) ?_
  refine cn_bast C p116 hL116 (j := 6) (n := 138) rfl (i := 117) (x := 32) (by unfold vp_in; decide) (by decide +kernel) (fun H117 L117 h117 hL117 => ?_)
  obtain ⟨f117, hf117, p117⟩ : ∃ f' : Nat → Int32, (∀ z, z < 118 → f' z = nth mwords z 0) ∧ cnH (wD w) s.heap a (k10L w a f') H117 := ⟨_, bst_next hf116 (by decide) (by decide), h117⟩
  clear h117
  refine W.eq (g2 := F0 m 753 lsA [.ref (a + 6), .ref a]) rfl ?_
  refine lv_dup c1 c2 (by decide +kernel) rfl ?_
  refine lv_bipush (n := 118) (v := 118) c1 c2 (by decide +kernel) (by decide +kernel) ?_
  refine lv_bipush (n := 115) (v := 115) c1 c2 (by decide +kernel) (by decide +kernel) ?_
  refine cn_bast C p117 hL117 (j := 6) (n := 138) rfl (i := 118) (x := 115) (by unfold vp_in; decide) (by decide +kernel) (fun H118 L118 h118 hL118 => ?_)
  obtain ⟨f118, hf118, p118⟩ : ∃ f' : Nat → Int32, (∀ z, z < 119 → f' z = nth mwords z 0) ∧ cnH (wD w) s.heap a (k10L w a f') H118 := ⟨_, bst_next hf117 (by decide) (by decide), h118⟩
  clear h118
  refine W.eq (g2 := F0 m 759 lsA [.ref (a + 6), .ref a]) rfl ?_
  refine lv_dup c1 c2 (by decide +kernel) rfl ?_
  refine lv_bipush (n := 119) (v := 119) c1 c2 (by decide +kernel) (by decide +kernel) ?_
  refine lv_bipush (n := 119) (v := 119) c1 c2 (by decide +kernel) (by decide +kernel) ?_
  refine cn_bast C p118 hL118 (j := 6) (n := 138) rfl (i := 119) (x := 119) (by unfold vp_in; decide) (by decide +kernel) (fun H119 L119 h119 hL119 => ?_)
  obtain ⟨f119, hf119, p119⟩ : ∃ f' : Nat → Int32, (∀ z, z < 120 → f' z = nth mwords z 0) ∧ cnH (wD w) s.heap a (k10L w a f') H119 := ⟨_, bst_next hf118 (by decide) (by decide), h119⟩
  clear h119
  refine W.eq (g2 := F0 m 765 lsA [.ref (a + 6), .ref a]) rfl ?_
  refine lv_dup c1 c2 (by decide +kernel) rfl ?_
  refine lv_bipush (n := 120) (v := 120) c1 c2 (by decide +kernel) (by decide +kernel) ?_
  refine lv_bipush (n := 101) (v := 101) c1 c2 (by decide +kernel) (by decide +kernel) ?_
  refine cn_bast C p119 hL119 (j := 6) (n := 138) rfl (i := 120) (x := 101) (by unfold vp_in; decide) (by decide +kernel) (fun H120 L120 h120 hL120 => ?_)
  obtain ⟨f120, hf120, p120⟩ : ∃ f' : Nat → Int32, (∀ z, z < 121 → f' z = nth mwords z 0) ∧ cnH (wD w) s.heap a (k10L w a f') H120 := ⟨_, bst_next hf119 (by decide) (by decide), h120⟩
  clear h120
  refine W.eq (g2 := F0 m 771 lsA [.ref (a + 6), .ref a]) rfl ?_
  refine lv_dup c1 c2 (by decide +kernel) rfl ?_
  refine lv_bipush (n := 121) (v := 121) c1 c2 (by decide +kernel) (by decide +kernel) ?_
  refine lv_bipush (n := 108) (v := 108) c1 c2 (by decide +kernel) (by decide +kernel) ?_
  refine cn_bast C p120 hL120 (j := 6) (n := 138) rfl (i := 121) (x := 108) (by unfold vp_in; decide) (by decide +kernel) (fun H121 L121 h121 hL121 => ?_)
  obtain ⟨f121, hf121, p121⟩ : ∃ f' : Nat → Int32, (∀ z, z < 122 → f' z = nth mwords z 0) ∧ cnH (wD w) s.heap a (k10L w a f') H121 := ⟨_, bst_next hf120 (by decide) (by decide), h121⟩
  clear h121
  refine W.eq (g2 := F0 m 777 lsA [.ref (a + 6), .ref a]) rfl ?_
  refine lv_dup c1 c2 (by decide +kernel) rfl ?_
  refine lv_bipush (n := 122) (v := 122) c1 c2 (by decide +kernel) (by decide +kernel) ?_
  refine lv_bipush (n := 108) (v := 108) c1 c2 (by decide +kernel) (by decide +kernel) ?_
  refine cn_bast C p121 hL121 (j := 6) (n := 138) rfl (i := 122) (x := 108) (by unfold vp_in; decide) (by decide +kernel) (fun H122 L122 h122 hL122 => ?_)
  obtain ⟨f122, hf122, p122⟩ : ∃ f' : Nat → Int32, (∀ z, z < 123 → f' z = nth mwords z 0) ∧ cnH (wD w) s.heap a (k10L w a f') H122 := ⟨_, bst_next hf121 (by decide) (by decide), h122⟩
  clear h122
  refine W.eq (g2 := F0 m 783 lsA [.ref (a + 6), .ref a]) rfl ?_
  refine lv_dup c1 c2 (by decide +kernel) rfl ?_
  refine lv_bipush (n := 123) (v := 123) c1 c2 (by decide +kernel) (by decide +kernel) ?_
  refine lv_bipush (n := 32) (v := 32) c1 c2 (by decide +kernel) (by decide +kernel) ?_
  refine cn_bast C p122 hL122 (j := 6) (n := 138) rfl (i := 123) (x := 32) (by unfold vp_in; decide) (by decide +kernel) (fun H123 L123 h123 hL123 => ?_)
  obtain ⟨f123, hf123, p123⟩ : ∃ f' : Nat → Int32, (∀ z, z < 124 → f' z = nth mwords z 0) ∧ cnH (wD w) s.heap a (k10L w a f') H123 := ⟨_, bst_next hf122 (by decide) (by decide), h123⟩
  clear h123
  refine W.eq (g2 := F0 m 789 lsA [.ref (a + 6), .ref a]) rfl ?_
  refine lv_dup c1 c2 (by decide +kernel) rfl ?_
  refine lv_bipush (n := 124) (v := 124) c1 c2 (by decide +kernel) (by decide +kernel) ?_
  refine lv_bipush (n := 116) (v := 116) c1 c2 (by decide +kernel) (by decide +kernel) ?_
  refine cn_bast C p123 hL123 (j := 6) (n := 138) rfl (i := 124) (x := 116) (by unfold vp_in; decide) (by decide +kernel) (fun H124 L124 h124 hL124 => ?_)
  obtain ⟨f124, hf124, p124⟩ : ∃ f' : Nat → Int32, (∀ z, z < 125 → f' z = nth mwords z 0) ∧ cnH (wD w) s.heap a (k10L w a f') H124 := ⟨_, bst_next hf123 (by decide) (by decide), h124⟩
  clear h124
  refine W.eq (g2 := F0 m 795 lsA [.ref (a + 6), .ref a]) rfl ?_
  refine lv_dup c1 c2 (by decide +kernel) rfl ?_
  refine lv_bipush (n := 125) (v := 125) c1 c2 (by decide +kernel) (by decide +kernel) ?_
  refine lv_bipush (n := 111) (v := 111) c1 c2 (by decide +kernel) (by decide +kernel) ?_
  refine cn_bast C p124 hL124 (j := 6) (n := 138) rfl (i := 125) (x := 111) (by unfold vp_in; decide) (by decide +kernel) (fun H125 L125 h125 hL125 => ?_)
  obtain ⟨f125, hf125, p125⟩ : ∃ f' : Nat → Int32, (∀ z, z < 126 → f' z = nth mwords z 0) ∧ cnH (wD w) s.heap a (k10L w a f') H125 := ⟨_, bst_next hf124 (by decide) (by decide), h125⟩
  clear h125
  refine W.eq (g2 := F0 m 801 lsA [.ref (a + 6), .ref a]) rfl ?_
  refine lv_dup c1 c2 (by decide +kernel) rfl ?_
  refine lv_bipush (n := 126) (v := 126) c1 c2 (by decide +kernel) (by decide +kernel) ?_
  refine lv_bipush (n := 32) (v := 32) c1 c2 (by decide +kernel) (by decide +kernel) ?_
  refine cn_bast C p125 hL125 (j := 6) (n := 138) rfl (i := 126) (x := 32) (by unfold vp_in; decide) (by decide +kernel) (fun H126 L126 h126 hL126 => ?_)
  obtain ⟨f126, hf126, p126⟩ : ∃ f' : Nat → Int32, (∀ z, z < 127 → f' z = nth mwords z 0) ∧ cnH (wD w) s.heap a (k10L w a f') H126 := ⟨_, bst_next hf125 (by decide) (by decide), h126⟩
  clear h126
  refine W.eq (g2 := F0 m 807 lsA [.ref (a + 6), .ref a]) rfl ?_
  refine lv_dup c1 c2 (by decide +kernel) rfl ?_
  refine lv_bipush (n := 127) (v := 127) c1 c2 (by decide +kernel) (by decide +kernel) ?_
  refine lv_bipush (n := 112) (v := 112) c1 c2 (by decide +kernel) (by decide +kernel) ?_
  refine cn_bast C p126 hL126 (j := 6) (n := 138) rfl (i := 127) (x := 112) (by unfold vp_in; decide) (by decide +kernel) (fun H127 L127 h127 hL127 => ?_)
  obtain ⟨f127, hf127, p127⟩ : ∃ f' : Nat → Int32, (∀ z, z < 128 → f' z = nth mwords z 0) ∧ cnH (wD w) s.heap a (k10L w a f') H127 := ⟨_, bst_next hf126 (by decide) (by decide), h127⟩
  clear h127
  refine W.eq (g2 := F0 m 813 lsA [.ref (a + 6), .ref a]) rfl ?_
  refine lv_dup c1 c2 (by decide +kernel) rfl ?_
  refine lv_sipush (n := 128) (v := 128) c1 c2 (by decide +kernel) (by decide +kernel) ?_
  refine lv_bipush (n := 97) (v := 97) c1 c2 (by decide +kernel) (by decide +kernel) ?_
  refine cn_bast C p127 hL127 (j := 6) (n := 138) rfl (i := 128) (x := 97) (by unfold vp_in; decide) (by decide +kernel) (fun H128 L128 h128 hL128 => ?_)
  obtain ⟨f128, hf128, p128⟩ : ∃ f' : Nat → Int32, (∀ z, z < 129 → f' z = nth mwords z 0) ∧ cnH (wD w) s.heap a (k10L w a f') H128 := ⟨_, bst_next hf127 (by decide) (by decide), h128⟩
  clear h128
  refine W.eq (g2 := F0 m 820 lsA [.ref (a + 6), .ref a]) rfl ?_
  refine lv_dup c1 c2 (by decide +kernel) rfl ?_
  refine lv_sipush (n := 129) (v := 129) c1 c2 (by decide +kernel) (by decide +kernel) ?_
  refine lv_bipush (n := 115) (v := 115) c1 c2 (by decide +kernel) (by decide +kernel) ?_
  refine cn_bast C p128 hL128 (j := 6) (n := 138) rfl (i := 129) (x := 115) (by unfold vp_in; decide) (by decide +kernel) (fun H129 L129 h129 hL129 => ?_)
  obtain ⟨f129, hf129, p129⟩ : ∃ f' : Nat → Int32, (∀ z, z < 130 → f' z = nth mwords z 0) ∧ cnH (wD w) s.heap a (k10L w a f') H129 := ⟨_, bst_next hf128 (by decide) (by decide), h129⟩
  clear h129
  refine W.eq (g2 := F0 m 827 lsA [.ref (a + 6), .ref a]) rfl ?_
  refine lv_dup c1 c2 (by decide +kernel) rfl ?_
  refine lv_sipush (n := 130) (v := 130) c1 c2 (by decide +kernel) (by decide +kernel) ?_
  refine lv_bipush (n := 115) (v := 115) c1 c2 (by decide +kernel) (by decide +kernel) ?_
  refine cn_bast C p129 hL129 (j := 6) (n := 138) rfl (i := 130) (x := 115) (by unfold vp_in; decide) (by decide +kernel) (fun H130 L130 h130 hL130 => ?_)
  obtain ⟨f130, hf130, p130⟩ : ∃ f' : Nat → Int32, (∀ z, z < 131 → f' z = nth mwords z 0) ∧ cnH (wD w) s.heap a (k10L w a f') H130 := ⟨_, bst_next hf129 (by decide) (by decide), h130⟩
  clear h130
  refine W.eq (g2 := F0 m 834 lsA [.ref (a + 6), .ref a]) rfl ?_
  refine lv_dup c1 c2 (by decide +kernel) rfl ?_
  refine lv_sipush (n := 131) (v := 131) c1 c2 (by decide +kernel) (by decide +kernel) ?_
  refine lv_bipush (n := 32) (v := 32) c1 c2 (by decide +kernel) (by decide +kernel) ?_
  refine cn_bast C p130 hL130 (j := 6) (n := 138) rfl (i := 131) (x := 32) (by unfold vp_in; decide) (by decide +kernel) (fun H131 L131 h131 hL131 => ?_)
  obtain ⟨f131, hf131, p131⟩ : ∃ f' : Nat → Int32, (∀ z, z < 132 → f' z = nth mwords z 0) ∧ cnH (wD w) s.heap a (k10L w a f') H131 := ⟨_, bst_next hf130 (by decide) (by decide), h131⟩
  clear h131
  refine W.eq (g2 := F0 m 841 lsA [.ref (a + 6), .ref a]) rfl ?_
  refine lv_dup c1 c2 (by decide +kernel) rfl ?_
  refine lv_sipush (n := 132) (v := 132) c1 c2 (by decide +kernel) (by decide +kernel) ?_
  refine lv_bipush (n := 116) (v := 116) c1 c2 (by decide +kernel) (by decide +kernel) ?_
  refine cn_bast C p131 hL131 (j := 6) (n := 138) rfl (i := 132) (x := 116) (by unfold vp_in; decide) (by decide +kernel) (fun H132 L132 h132 hL132 => ?_)
  obtain ⟨f132, hf132, p132⟩ : ∃ f' : Nat → Int32, (∀ z, z < 133 → f' z = nth mwords z 0) ∧ cnH (wD w) s.heap a (k10L w a f') H132 := ⟨_, bst_next hf131 (by decide) (by decide), h132⟩
  clear h132
  refine W.eq (g2 := F0 m 848 lsA [.ref (a + 6), .ref a]) rfl ?_
  refine lv_dup c1 c2 (by decide +kernel) rfl ?_
  refine lv_sipush (n := 133) (v := 133) c1 c2 (by decide +kernel) (by decide +kernel) ?_
  refine lv_bipush (n := 105) (v := 105) c1 c2 (by decide +kernel) (by decide +kernel) ?_
  refine cn_bast C p132 hL132 (j := 6) (n := 138) rfl (i := 133) (x := 105) (by unfold vp_in; decide) (by decide +kernel) (fun H133 L133 h133 hL133 => ?_)
  obtain ⟨f133, hf133, p133⟩ : ∃ f' : Nat → Int32, (∀ z, z < 134 → f' z = nth mwords z 0) ∧ cnH (wD w) s.heap a (k10L w a f') H133 := ⟨_, bst_next hf132 (by decide) (by decide), h133⟩
  clear h133
  refine W.eq (g2 := F0 m 855 lsA [.ref (a + 6), .ref a]) rfl ?_
  refine lv_dup c1 c2 (by decide +kernel) rfl ?_
  refine lv_sipush (n := 134) (v := 134) c1 c2 (by decide +kernel) (by decide +kernel) ?_
  refine lv_bipush (n := 109) (v := 109) c1 c2 (by decide +kernel) (by decide +kernel) ?_
  refine cn_bast C p133 hL133 (j := 6) (n := 138) rfl (i := 134) (x := 109) (by unfold vp_in; decide) (by decide +kernel) (fun H134 L134 h134 hL134 => ?_)
  obtain ⟨f134, hf134, p134⟩ : ∃ f' : Nat → Int32, (∀ z, z < 135 → f' z = nth mwords z 0) ∧ cnH (wD w) s.heap a (k10L w a f') H134 := ⟨_, bst_next hf133 (by decide) (by decide), h134⟩
  clear h134
  refine W.eq (g2 := F0 m 862 lsA [.ref (a + 6), .ref a]) rfl ?_
  refine lv_dup c1 c2 (by decide +kernel) rfl ?_
  refine lv_sipush (n := 135) (v := 135) c1 c2 (by decide +kernel) (by decide +kernel) ?_
  refine lv_bipush (n := 101) (v := 101) c1 c2 (by decide +kernel) (by decide +kernel) ?_
  refine cn_bast C p134 hL134 (j := 6) (n := 138) rfl (i := 135) (x := 101) (by unfold vp_in; decide) (by decide +kernel) (fun H135 L135 h135 hL135 => ?_)
  obtain ⟨f135, hf135, p135⟩ : ∃ f' : Nat → Int32, (∀ z, z < 136 → f' z = nth mwords z 0) ∧ cnH (wD w) s.heap a (k10L w a f') H135 := ⟨_, bst_next hf134 (by decide) (by decide), h135⟩
  clear h135
  refine W.eq (g2 := F0 m 869 lsA [.ref (a + 6), .ref a]) rfl ?_
  refine lv_dup c1 c2 (by decide +kernel) rfl ?_
  refine lv_sipush (n := 136) (v := 136) c1 c2 (by decide +kernel) (by decide +kernel) ?_
  refine lv_bipush (n := 115) (v := 115) c1 c2 (by decide +kernel) (by decide +kernel) ?_
  refine cn_bast C p135 hL135 (j := 6) (n := 138) rfl (i := 136) (x := 115) (by unfold vp_in; decide) (by decide +kernel) (fun H136 L136 h136 hL136 => ?_)
  obtain ⟨f136, hf136, p136⟩ : ∃ f' : Nat → Int32, (∀ z, z < 137 → f' z = nth mwords z 0) ∧ cnH (wD w) s.heap a (k10L w a f') H136 := ⟨_, bst_next hf135 (by decide) (by decide), h136⟩
  clear h136
  refine W.eq (g2 := F0 m 876 lsA [.ref (a + 6), .ref a]) rfl ?_
  refine lv_dup c1 c2 (by decide +kernel) rfl ?_
  refine lv_sipush (n := 137) (v := 137) c1 c2 (by decide +kernel) (by decide +kernel) ?_
  refine lv_bipush (n := 32) (v := 32) c1 c2 (by decide +kernel) (by decide +kernel) ?_
  refine cn_bast C p136 hL136 (j := 6) (n := 138) rfl (i := 137) (x := 32) (by unfold vp_in; decide) (by decide +kernel) (fun H137 L137 h137 hL137 => ?_)
  obtain ⟨f137, hf137, p137⟩ : ∃ f' : Nat → Int32, (∀ z, z < 138 → f' z = nth mwords z 0) ∧ cnH (wD w) s.heap a (k10L w a f') H137 := ⟨_, bst_next hf136 (by decide) (by decide), h137⟩
  clear h137
  refine W.eq (g2 := F0 m 883 lsA [.ref (a + 6), .ref a]) rfl ?_
  exact kk _ _ _ hL137 p137 hf137
