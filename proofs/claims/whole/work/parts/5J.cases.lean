/-! THE FORTY CALLS -/
theorem wl2_177 : (Cond.methodLink "GalleyRoomLaw" (13 : Nat) ({ cls := "GalleyRoom", name := "word", desc := "(III)I" } : Jvm.MethodName)) ∈ lwG := lwG_2 (List.mem_of_getElem? (i := 177) rfl) rfl
theorem wl2_180 : (Cond.code ({ cls := "GalleyRoom", name := "word", desc := "(III)I" } : Jvm.MethodName) prog_1_method_2_code (4 : Nat) (Option.some Jvm.ClassFile.FieldType.int)) ∈ lwG := lwG_2 (List.mem_of_getElem? (i := 180) rfl) rfl
theorem wl1_1 : (Cond.initialized "GalleyRoom") ∈ lwG := lwG_1 (List.mem_of_getElem? (i := 1) rfl) rfl
theorem wl6_92 : (Cond.methodLink "GalleyRoomLaw" (17 : Nat) ({ cls := "GalleyRoomModel", name := "word", desc := "(III)I" } : Jvm.MethodName)) ∈ lwG := lwG_6 (List.mem_of_getElem? (i := 92) rfl) rfl
theorem wl6_95 : (Cond.code ({ cls := "GalleyRoomModel", name := "word", desc := "(III)I" } : Jvm.MethodName) prog_12_method_21_code (4 : Nat) (Option.some Jvm.ClassFile.FieldType.int)) ∈ lwG := lwG_6 (List.mem_of_getElem? (i := 95) rfl) rfl
theorem wl1_12 : (Cond.initialized "GalleyRoomModel") ∈ lwG := lwG_1 (List.mem_of_getElem? (i := 12) rfl) rfl
theorem wl2_178 : (Cond.instanceMethod ({ cls := "GalleyRoom", name := "word", desc := "(III)I" } : Jvm.MethodName)) ∈ lwG := lwG_2 (List.mem_of_getElem? (i := 178) rfl) rfl
theorem wl6_93 : (Cond.instanceMethod ({ cls := "GalleyRoomModel", name := "word", desc := "(III)I" } : Jvm.MethodName)) ∈ lwG := lwG_6 (List.mem_of_getElem? (i := 93) rfl) rfl
theorem wl2_179 : (Cond.selects "GalleyRoom" ({ cls := "GalleyRoom", name := "word", desc := "(III)I" } : Jvm.MethodName) ({ cls := "GalleyRoom", name := "word", desc := "(III)I" } : Jvm.MethodName)) ∈ lwG := lwG_2 (List.mem_of_getElem? (i := 179) rfl) rfl
theorem wl6_94 : (Cond.selects "GalleyRoomModel" ({ cls := "GalleyRoomModel", name := "word", desc := "(III)I" } : Jvm.MethodName) ({ cls := "GalleyRoomModel", name := "word", desc := "(III)I" } : Jvm.MethodName)) ∈ lwG := lwG_6 (List.mem_of_getElem? (i := 94) rfl) rfl
theorem wl2_196 : (Cond.methodLink "GalleyRoomLaw" (18 : Nat) ({ cls := "GalleyRoom", name := "of", desc := "(II)I" } : Jvm.MethodName)) ∈ lwG := lwG_2 (List.mem_of_getElem? (i := 196) rfl) rfl
theorem wl2_199 : (Cond.code ({ cls := "GalleyRoom", name := "of", desc := "(II)I" } : Jvm.MethodName) prog_1_method_3_code (3 : Nat) (Option.some Jvm.ClassFile.FieldType.int)) ∈ lwG := lwG_2 (List.mem_of_getElem? (i := 199) rfl) rfl
theorem wl6_103 : (Cond.methodLink "GalleyRoomLaw" (22 : Nat) ({ cls := "GalleyRoomModel", name := "of", desc := "(II)I" } : Jvm.MethodName)) ∈ lwG := lwG_6 (List.mem_of_getElem? (i := 103) rfl) rfl
theorem wl6_106 : (Cond.code ({ cls := "GalleyRoomModel", name := "of", desc := "(II)I" } : Jvm.MethodName) prog_12_method_22_code (3 : Nat) (Option.some Jvm.ClassFile.FieldType.int)) ∈ lwG := lwG_6 (List.mem_of_getElem? (i := 106) rfl) rfl
theorem wl2_197 : (Cond.instanceMethod ({ cls := "GalleyRoom", name := "of", desc := "(II)I" } : Jvm.MethodName)) ∈ lwG := lwG_2 (List.mem_of_getElem? (i := 197) rfl) rfl
theorem wl6_104 : (Cond.instanceMethod ({ cls := "GalleyRoomModel", name := "of", desc := "(II)I" } : Jvm.MethodName)) ∈ lwG := lwG_6 (List.mem_of_getElem? (i := 104) rfl) rfl
theorem wl2_198 : (Cond.selects "GalleyRoom" ({ cls := "GalleyRoom", name := "of", desc := "(II)I" } : Jvm.MethodName) ({ cls := "GalleyRoom", name := "of", desc := "(II)I" } : Jvm.MethodName)) ∈ lwG := lwG_2 (List.mem_of_getElem? (i := 198) rfl) rfl
theorem wl6_105 : (Cond.selects "GalleyRoomModel" ({ cls := "GalleyRoomModel", name := "of", desc := "(II)I" } : Jvm.MethodName) ({ cls := "GalleyRoomModel", name := "of", desc := "(II)I" } : Jvm.MethodName)) ∈ lwG := lwG_6 (List.mem_of_getElem? (i := 105) rfl) rfl
theorem wl2_213 : (Cond.methodLink "GalleyRoomLaw" (23 : Nat) ({ cls := "GalleyRoom", name := "line", desc := "(II)I" } : Jvm.MethodName)) ∈ lwG := lwG_2 (List.mem_of_getElem? (i := 213) rfl) rfl
theorem wl2_216 : (Cond.code ({ cls := "GalleyRoom", name := "line", desc := "(II)I" } : Jvm.MethodName) prog_1_method_4_code (3 : Nat) (Option.some Jvm.ClassFile.FieldType.int)) ∈ lwG := lwG_2 (List.mem_of_getElem? (i := 216) rfl) rfl
theorem wl7_22 : (Cond.methodLink "GalleyRoomLaw" (26 : Nat) ({ cls := "GalleyRoomModel", name := "line", desc := "(II)I" } : Jvm.MethodName)) ∈ lwG := lwG_7 (List.mem_of_getElem? (i := 22) rfl) rfl
theorem wl7_25 : (Cond.code ({ cls := "GalleyRoomModel", name := "line", desc := "(II)I" } : Jvm.MethodName) prog_12_method_88_code (3 : Nat) (Option.some Jvm.ClassFile.FieldType.int)) ∈ lwG := lwG_7 (List.mem_of_getElem? (i := 25) rfl) rfl
theorem wl2_214 : (Cond.instanceMethod ({ cls := "GalleyRoom", name := "line", desc := "(II)I" } : Jvm.MethodName)) ∈ lwG := lwG_2 (List.mem_of_getElem? (i := 214) rfl) rfl
theorem wl7_23 : (Cond.instanceMethod ({ cls := "GalleyRoomModel", name := "line", desc := "(II)I" } : Jvm.MethodName)) ∈ lwG := lwG_7 (List.mem_of_getElem? (i := 23) rfl) rfl
theorem wl2_215 : (Cond.selects "GalleyRoom" ({ cls := "GalleyRoom", name := "line", desc := "(II)I" } : Jvm.MethodName) ({ cls := "GalleyRoom", name := "line", desc := "(II)I" } : Jvm.MethodName)) ∈ lwG := lwG_2 (List.mem_of_getElem? (i := 215) rfl) rfl
theorem wl7_24 : (Cond.selects "GalleyRoomModel" ({ cls := "GalleyRoomModel", name := "line", desc := "(II)I" } : Jvm.MethodName) ({ cls := "GalleyRoomModel", name := "line", desc := "(II)I" } : Jvm.MethodName)) ∈ lwG := lwG_7 (List.mem_of_getElem? (i := 24) rfl) rfl
theorem wl3_43 : (Cond.methodLink "GalleyRoomLaw" (27 : Nat) ({ cls := "GalleyRoom", name := "all", desc := "(I)I" } : Jvm.MethodName)) ∈ lwG := lwG_3 (List.mem_of_getElem? (i := 43) rfl) rfl
theorem wl3_46 : (Cond.code ({ cls := "GalleyRoom", name := "all", desc := "(I)I" } : Jvm.MethodName) prog_1_method_5_code (2 : Nat) (Option.some Jvm.ClassFile.FieldType.int)) ∈ lwG := lwG_3 (List.mem_of_getElem? (i := 46) rfl) rfl
theorem wl7_94 : (Cond.methodLink "GalleyRoomLaw" (31 : Nat) ({ cls := "GalleyRoomModel", name := "all", desc := "(I)I" } : Jvm.MethodName)) ∈ lwG := lwG_7 (List.mem_of_getElem? (i := 94) rfl) rfl
theorem wl7_97 : (Cond.code ({ cls := "GalleyRoomModel", name := "all", desc := "(I)I" } : Jvm.MethodName) prog_12_method_90_code (2 : Nat) (Option.some Jvm.ClassFile.FieldType.int)) ∈ lwG := lwG_7 (List.mem_of_getElem? (i := 97) rfl) rfl
theorem wl3_44 : (Cond.instanceMethod ({ cls := "GalleyRoom", name := "all", desc := "(I)I" } : Jvm.MethodName)) ∈ lwG := lwG_3 (List.mem_of_getElem? (i := 44) rfl) rfl
theorem wl7_95 : (Cond.instanceMethod ({ cls := "GalleyRoomModel", name := "all", desc := "(I)I" } : Jvm.MethodName)) ∈ lwG := lwG_7 (List.mem_of_getElem? (i := 95) rfl) rfl
theorem wl3_45 : (Cond.selects "GalleyRoom" ({ cls := "GalleyRoom", name := "all", desc := "(I)I" } : Jvm.MethodName) ({ cls := "GalleyRoom", name := "all", desc := "(I)I" } : Jvm.MethodName)) ∈ lwG := lwG_3 (List.mem_of_getElem? (i := 45) rfl) rfl
theorem wl7_96 : (Cond.selects "GalleyRoomModel" ({ cls := "GalleyRoomModel", name := "all", desc := "(I)I" } : Jvm.MethodName) ({ cls := "GalleyRoomModel", name := "all", desc := "(I)I" } : Jvm.MethodName)) ∈ lwG := lwG_7 (List.mem_of_getElem? (i := 96) rfl) rfl
theorem wl3_52 : (Cond.methodLink "GalleyRoomLaw" (32 : Nat) ({ cls := "GalleyRoom", name := "terms", desc := "(II)I" } : Jvm.MethodName)) ∈ lwG := lwG_3 (List.mem_of_getElem? (i := 52) rfl) rfl
theorem wl3_55 : (Cond.code ({ cls := "GalleyRoom", name := "terms", desc := "(II)I" } : Jvm.MethodName) prog_1_method_6_code (4 : Nat) (Option.some Jvm.ClassFile.FieldType.int)) ∈ lwG := lwG_3 (List.mem_of_getElem? (i := 55) rfl) rfl
theorem wl6_126 : (Cond.methodLink "GalleyRoomLaw" (35 : Nat) ({ cls := "GalleyRoomModel", name := "terms", desc := "(II)I" } : Jvm.MethodName)) ∈ lwG := lwG_6 (List.mem_of_getElem? (i := 126) rfl) rfl
theorem wl6_129 : (Cond.code ({ cls := "GalleyRoomModel", name := "terms", desc := "(II)I" } : Jvm.MethodName) prog_12_method_25_code (4 : Nat) (Option.some Jvm.ClassFile.FieldType.int)) ∈ lwG := lwG_6 (List.mem_of_getElem? (i := 129) rfl) rfl
theorem wl3_53 : (Cond.instanceMethod ({ cls := "GalleyRoom", name := "terms", desc := "(II)I" } : Jvm.MethodName)) ∈ lwG := lwG_3 (List.mem_of_getElem? (i := 53) rfl) rfl
theorem wl6_127 : (Cond.instanceMethod ({ cls := "GalleyRoomModel", name := "terms", desc := "(II)I" } : Jvm.MethodName)) ∈ lwG := lwG_6 (List.mem_of_getElem? (i := 127) rfl) rfl
theorem wl3_54 : (Cond.selects "GalleyRoom" ({ cls := "GalleyRoom", name := "terms", desc := "(II)I" } : Jvm.MethodName) ({ cls := "GalleyRoom", name := "terms", desc := "(II)I" } : Jvm.MethodName)) ∈ lwG := lwG_3 (List.mem_of_getElem? (i := 54) rfl) rfl
theorem wl6_128 : (Cond.selects "GalleyRoomModel" ({ cls := "GalleyRoomModel", name := "terms", desc := "(II)I" } : Jvm.MethodName) ({ cls := "GalleyRoomModel", name := "terms", desc := "(II)I" } : Jvm.MethodName)) ∈ lwG := lwG_6 (List.mem_of_getElem? (i := 128) rfl) rfl
theorem wl3_60 : (Cond.methodLink "GalleyRoomLaw" (36 : Nat) ({ cls := "GalleyRoom", name := "feed", desc := "(IIIII)I" } : Jvm.MethodName)) ∈ lwG := lwG_3 (List.mem_of_getElem? (i := 60) rfl) rfl
theorem wl3_63 : (Cond.code ({ cls := "GalleyRoom", name := "feed", desc := "(IIIII)I" } : Jvm.MethodName) prog_1_method_7_code (6 : Nat) (Option.some Jvm.ClassFile.FieldType.int)) ∈ lwG := lwG_3 (List.mem_of_getElem? (i := 63) rfl) rfl
theorem wl6_144 : (Cond.methodLink "GalleyRoomLaw" (40 : Nat) ({ cls := "GalleyRoomModel", name := "feed", desc := "(IIIII)I" } : Jvm.MethodName)) ∈ lwG := lwG_6 (List.mem_of_getElem? (i := 144) rfl) rfl
theorem wl6_147 : (Cond.code ({ cls := "GalleyRoomModel", name := "feed", desc := "(IIIII)I" } : Jvm.MethodName) prog_12_method_28_code (7 : Nat) (Option.some Jvm.ClassFile.FieldType.int)) ∈ lwG := lwG_6 (List.mem_of_getElem? (i := 147) rfl) rfl
theorem wl3_61 : (Cond.instanceMethod ({ cls := "GalleyRoom", name := "feed", desc := "(IIIII)I" } : Jvm.MethodName)) ∈ lwG := lwG_3 (List.mem_of_getElem? (i := 61) rfl) rfl
theorem wl6_145 : (Cond.instanceMethod ({ cls := "GalleyRoomModel", name := "feed", desc := "(IIIII)I" } : Jvm.MethodName)) ∈ lwG := lwG_6 (List.mem_of_getElem? (i := 145) rfl) rfl
theorem wl3_62 : (Cond.selects "GalleyRoom" ({ cls := "GalleyRoom", name := "feed", desc := "(IIIII)I" } : Jvm.MethodName) ({ cls := "GalleyRoom", name := "feed", desc := "(IIIII)I" } : Jvm.MethodName)) ∈ lwG := lwG_3 (List.mem_of_getElem? (i := 62) rfl) rfl
theorem wl6_146 : (Cond.selects "GalleyRoomModel" ({ cls := "GalleyRoomModel", name := "feed", desc := "(IIIII)I" } : Jvm.MethodName) ({ cls := "GalleyRoomModel", name := "feed", desc := "(IIIII)I" } : Jvm.MethodName)) ∈ lwG := lwG_6 (List.mem_of_getElem? (i := 146) rfl) rfl
theorem wl3_68 : (Cond.methodLink "GalleyRoomLaw" (41 : Nat) ({ cls := "GalleyRoom", name := "end", desc := "(I)I" } : Jvm.MethodName)) ∈ lwG := lwG_3 (List.mem_of_getElem? (i := 68) rfl) rfl
theorem wl3_71 : (Cond.code ({ cls := "GalleyRoom", name := "end", desc := "(I)I" } : Jvm.MethodName) prog_1_method_8_code (2 : Nat) (Option.some Jvm.ClassFile.FieldType.int)) ∈ lwG := lwG_3 (List.mem_of_getElem? (i := 71) rfl) rfl
theorem wl6_148 : (Cond.methodLink "GalleyRoomLaw" (44 : Nat) ({ cls := "GalleyRoomModel", name := "end", desc := "(I)I" } : Jvm.MethodName)) ∈ lwG := lwG_6 (List.mem_of_getElem? (i := 148) rfl) rfl
theorem wl6_151 : (Cond.code ({ cls := "GalleyRoomModel", name := "end", desc := "(I)I" } : Jvm.MethodName) prog_12_method_29_code (2 : Nat) (Option.some Jvm.ClassFile.FieldType.int)) ∈ lwG := lwG_6 (List.mem_of_getElem? (i := 151) rfl) rfl
theorem wl3_69 : (Cond.instanceMethod ({ cls := "GalleyRoom", name := "end", desc := "(I)I" } : Jvm.MethodName)) ∈ lwG := lwG_3 (List.mem_of_getElem? (i := 69) rfl) rfl
theorem wl6_149 : (Cond.instanceMethod ({ cls := "GalleyRoomModel", name := "end", desc := "(I)I" } : Jvm.MethodName)) ∈ lwG := lwG_6 (List.mem_of_getElem? (i := 149) rfl) rfl
theorem wl3_70 : (Cond.selects "GalleyRoom" ({ cls := "GalleyRoom", name := "end", desc := "(I)I" } : Jvm.MethodName) ({ cls := "GalleyRoom", name := "end", desc := "(I)I" } : Jvm.MethodName)) ∈ lwG := lwG_3 (List.mem_of_getElem? (i := 70) rfl) rfl
theorem wl6_150 : (Cond.selects "GalleyRoomModel" ({ cls := "GalleyRoomModel", name := "end", desc := "(I)I" } : Jvm.MethodName) ({ cls := "GalleyRoomModel", name := "end", desc := "(I)I" } : Jvm.MethodName)) ∈ lwG := lwG_6 (List.mem_of_getElem? (i := 150) rfl) rfl
theorem wl3_72 : (Cond.methodLink "GalleyRoomLaw" (45 : Nat) ({ cls := "GalleyRoom", name := "row", desc := "()I" } : Jvm.MethodName)) ∈ lwG := lwG_3 (List.mem_of_getElem? (i := 72) rfl) rfl
theorem wl3_75 : (Cond.code ({ cls := "GalleyRoom", name := "row", desc := "()I" } : Jvm.MethodName) prog_1_method_9_code (3 : Nat) (Option.some Jvm.ClassFile.FieldType.int)) ∈ lwG := lwG_3 (List.mem_of_getElem? (i := 75) rfl) rfl
theorem wl6_136 : (Cond.methodLink "GalleyRoomLaw" (49 : Nat) ({ cls := "GalleyRoomModel", name := "row", desc := "()I" } : Jvm.MethodName)) ∈ lwG := lwG_6 (List.mem_of_getElem? (i := 136) rfl) rfl
theorem wl6_139 : (Cond.code ({ cls := "GalleyRoomModel", name := "row", desc := "()I" } : Jvm.MethodName) prog_12_method_26_code (5 : Nat) (Option.some Jvm.ClassFile.FieldType.int)) ∈ lwG := lwG_6 (List.mem_of_getElem? (i := 139) rfl) rfl
theorem wl3_73 : (Cond.instanceMethod ({ cls := "GalleyRoom", name := "row", desc := "()I" } : Jvm.MethodName)) ∈ lwG := lwG_3 (List.mem_of_getElem? (i := 73) rfl) rfl
theorem wl6_137 : (Cond.instanceMethod ({ cls := "GalleyRoomModel", name := "row", desc := "()I" } : Jvm.MethodName)) ∈ lwG := lwG_6 (List.mem_of_getElem? (i := 137) rfl) rfl
theorem wl3_74 : (Cond.selects "GalleyRoom" ({ cls := "GalleyRoom", name := "row", desc := "()I" } : Jvm.MethodName) ({ cls := "GalleyRoom", name := "row", desc := "()I" } : Jvm.MethodName)) ∈ lwG := lwG_3 (List.mem_of_getElem? (i := 74) rfl) rfl
theorem wl6_138 : (Cond.selects "GalleyRoomModel" ({ cls := "GalleyRoomModel", name := "row", desc := "()I" } : Jvm.MethodName) ({ cls := "GalleyRoomModel", name := "row", desc := "()I" } : Jvm.MethodName)) ∈ lwG := lwG_6 (List.mem_of_getElem? (i := 138) rfl) rfl
theorem wl3_80 : (Cond.methodLink "GalleyRoomLaw" (50 : Nat) ({ cls := "GalleyRoom", name := "turned", desc := "()I" } : Jvm.MethodName)) ∈ lwG := lwG_3 (List.mem_of_getElem? (i := 80) rfl) rfl
theorem wl3_83 : (Cond.code ({ cls := "GalleyRoom", name := "turned", desc := "()I" } : Jvm.MethodName) prog_1_method_10_code (1 : Nat) (Option.some Jvm.ClassFile.FieldType.int)) ∈ lwG := lwG_3 (List.mem_of_getElem? (i := 83) rfl) rfl
theorem wl6_140 : (Cond.methodLink "GalleyRoomLaw" (53 : Nat) ({ cls := "GalleyRoomModel", name := "turned", desc := "()I" } : Jvm.MethodName)) ∈ lwG := lwG_6 (List.mem_of_getElem? (i := 140) rfl) rfl
theorem wl6_143 : (Cond.code ({ cls := "GalleyRoomModel", name := "turned", desc := "()I" } : Jvm.MethodName) prog_12_method_27_code (1 : Nat) (Option.some Jvm.ClassFile.FieldType.int)) ∈ lwG := lwG_6 (List.mem_of_getElem? (i := 143) rfl) rfl
theorem wl3_81 : (Cond.instanceMethod ({ cls := "GalleyRoom", name := "turned", desc := "()I" } : Jvm.MethodName)) ∈ lwG := lwG_3 (List.mem_of_getElem? (i := 81) rfl) rfl
theorem wl6_141 : (Cond.instanceMethod ({ cls := "GalleyRoomModel", name := "turned", desc := "()I" } : Jvm.MethodName)) ∈ lwG := lwG_6 (List.mem_of_getElem? (i := 141) rfl) rfl
theorem wl3_82 : (Cond.selects "GalleyRoom" ({ cls := "GalleyRoom", name := "turned", desc := "()I" } : Jvm.MethodName) ({ cls := "GalleyRoom", name := "turned", desc := "()I" } : Jvm.MethodName)) ∈ lwG := lwG_3 (List.mem_of_getElem? (i := 82) rfl) rfl
theorem wl6_142 : (Cond.selects "GalleyRoomModel" ({ cls := "GalleyRoomModel", name := "turned", desc := "()I" } : Jvm.MethodName) ({ cls := "GalleyRoomModel", name := "turned", desc := "()I" } : Jvm.MethodName)) ∈ lwG := lwG_6 (List.mem_of_getElem? (i := 142) rfl) rfl
theorem wl3_84 : (Cond.methodLink "GalleyRoomLaw" (54 : Nat) ({ cls := "GalleyRoom", name := "law", desc := "()I" } : Jvm.MethodName)) ∈ lwG := lwG_3 (List.mem_of_getElem? (i := 84) rfl) rfl
theorem wl3_87 : (Cond.code ({ cls := "GalleyRoom", name := "law", desc := "()I" } : Jvm.MethodName) prog_1_method_11_code (1 : Nat) (Option.some Jvm.ClassFile.FieldType.int)) ∈ lwG := lwG_3 (List.mem_of_getElem? (i := 87) rfl) rfl
theorem wl6_152 : (Cond.methodLink "GalleyRoomLaw" (57 : Nat) ({ cls := "GalleyRoomModel", name := "law", desc := "()I" } : Jvm.MethodName)) ∈ lwG := lwG_6 (List.mem_of_getElem? (i := 152) rfl) rfl
theorem wl6_155 : (Cond.code ({ cls := "GalleyRoomModel", name := "law", desc := "()I" } : Jvm.MethodName) prog_12_method_55_code (1 : Nat) (Option.some Jvm.ClassFile.FieldType.int)) ∈ lwG := lwG_6 (List.mem_of_getElem? (i := 155) rfl) rfl
theorem wl3_85 : (Cond.instanceMethod ({ cls := "GalleyRoom", name := "law", desc := "()I" } : Jvm.MethodName)) ∈ lwG := lwG_3 (List.mem_of_getElem? (i := 85) rfl) rfl
theorem wl6_153 : (Cond.instanceMethod ({ cls := "GalleyRoomModel", name := "law", desc := "()I" } : Jvm.MethodName)) ∈ lwG := lwG_6 (List.mem_of_getElem? (i := 153) rfl) rfl
theorem wl3_86 : (Cond.selects "GalleyRoom" ({ cls := "GalleyRoom", name := "law", desc := "()I" } : Jvm.MethodName) ({ cls := "GalleyRoom", name := "law", desc := "()I" } : Jvm.MethodName)) ∈ lwG := lwG_3 (List.mem_of_getElem? (i := 86) rfl) rfl
theorem wl6_154 : (Cond.selects "GalleyRoomModel" ({ cls := "GalleyRoomModel", name := "law", desc := "()I" } : Jvm.MethodName) ({ cls := "GalleyRoomModel", name := "law", desc := "()I" } : Jvm.MethodName)) ∈ lwG := lwG_6 (List.mem_of_getElem? (i := 154) rfl) rfl
theorem wl4_12 : (Cond.methodLink "GalleyRoomLaw" (58 : Nat) ({ cls := "GalleyRoom", name := "orders", desc := "()I" } : Jvm.MethodName)) ∈ lwG := lwG_4 (List.mem_of_getElem? (i := 12) rfl) rfl
theorem wl4_15 : (Cond.code ({ cls := "GalleyRoom", name := "orders", desc := "()I" } : Jvm.MethodName) prog_1_method_12_code (4 : Nat) (Option.some Jvm.ClassFile.FieldType.int)) ∈ lwG := lwG_4 (List.mem_of_getElem? (i := 15) rfl) rfl
theorem wl8_65 : (Cond.methodLink "GalleyRoomLaw" (61 : Nat) ({ cls := "GalleyRoomModel", name := "orders", desc := "()I" } : Jvm.MethodName)) ∈ lwG := lwG_8 (List.mem_of_getElem? (i := 65) rfl) rfl
theorem wl8_68 : (Cond.code ({ cls := "GalleyRoomModel", name := "orders", desc := "()I" } : Jvm.MethodName) prog_12_method_139_code (5 : Nat) (Option.some Jvm.ClassFile.FieldType.int)) ∈ lwG := lwG_8 (List.mem_of_getElem? (i := 68) rfl) rfl
theorem wl4_13 : (Cond.instanceMethod ({ cls := "GalleyRoom", name := "orders", desc := "()I" } : Jvm.MethodName)) ∈ lwG := lwG_4 (List.mem_of_getElem? (i := 13) rfl) rfl
theorem wl8_66 : (Cond.instanceMethod ({ cls := "GalleyRoomModel", name := "orders", desc := "()I" } : Jvm.MethodName)) ∈ lwG := lwG_8 (List.mem_of_getElem? (i := 66) rfl) rfl
theorem wl4_14 : (Cond.selects "GalleyRoom" ({ cls := "GalleyRoom", name := "orders", desc := "()I" } : Jvm.MethodName) ({ cls := "GalleyRoom", name := "orders", desc := "()I" } : Jvm.MethodName)) ∈ lwG := lwG_4 (List.mem_of_getElem? (i := 14) rfl) rfl
theorem wl8_67 : (Cond.selects "GalleyRoomModel" ({ cls := "GalleyRoomModel", name := "orders", desc := "()I" } : Jvm.MethodName) ({ cls := "GalleyRoomModel", name := "orders", desc := "()I" } : Jvm.MethodName)) ∈ lwG := lwG_8 (List.mem_of_getElem? (i := 67) rfl) rfl
theorem wl4_77 : (Cond.methodLink "GalleyRoomLaw" (62 : Nat) ({ cls := "GalleyRoom", name := "fault", desc := "()I" } : Jvm.MethodName)) ∈ lwG := lwG_4 (List.mem_of_getElem? (i := 77) rfl) rfl
theorem wl4_80 : (Cond.code ({ cls := "GalleyRoom", name := "fault", desc := "()I" } : Jvm.MethodName) prog_1_method_13_code (1 : Nat) (Option.some Jvm.ClassFile.FieldType.int)) ∈ lwG := lwG_4 (List.mem_of_getElem? (i := 80) rfl) rfl
theorem wl7_10 : (Cond.methodLink "GalleyRoomLaw" (65 : Nat) ({ cls := "GalleyRoomModel", name := "fault", desc := "()I" } : Jvm.MethodName)) ∈ lwG := lwG_7 (List.mem_of_getElem? (i := 10) rfl) rfl
theorem wl7_13 : (Cond.code ({ cls := "GalleyRoomModel", name := "fault", desc := "()I" } : Jvm.MethodName) prog_12_method_56_code (1 : Nat) (Option.some Jvm.ClassFile.FieldType.int)) ∈ lwG := lwG_7 (List.mem_of_getElem? (i := 13) rfl) rfl
theorem wl4_78 : (Cond.instanceMethod ({ cls := "GalleyRoom", name := "fault", desc := "()I" } : Jvm.MethodName)) ∈ lwG := lwG_4 (List.mem_of_getElem? (i := 78) rfl) rfl
theorem wl7_11 : (Cond.instanceMethod ({ cls := "GalleyRoomModel", name := "fault", desc := "()I" } : Jvm.MethodName)) ∈ lwG := lwG_7 (List.mem_of_getElem? (i := 11) rfl) rfl
theorem wl4_79 : (Cond.selects "GalleyRoom" ({ cls := "GalleyRoom", name := "fault", desc := "()I" } : Jvm.MethodName) ({ cls := "GalleyRoom", name := "fault", desc := "()I" } : Jvm.MethodName)) ∈ lwG := lwG_4 (List.mem_of_getElem? (i := 79) rfl) rfl
theorem wl7_12 : (Cond.selects "GalleyRoomModel" ({ cls := "GalleyRoomModel", name := "fault", desc := "()I" } : Jvm.MethodName) ({ cls := "GalleyRoomModel", name := "fault", desc := "()I" } : Jvm.MethodName)) ∈ lwG := lwG_7 (List.mem_of_getElem? (i := 12) rfl) rfl
theorem wl4_81 : (Cond.methodLink "GalleyRoomLaw" (66 : Nat) ({ cls := "GalleyRoom", name := "stopped", desc := "()I" } : Jvm.MethodName)) ∈ lwG := lwG_4 (List.mem_of_getElem? (i := 81) rfl) rfl
theorem wl4_84 : (Cond.code ({ cls := "GalleyRoom", name := "stopped", desc := "()I" } : Jvm.MethodName) prog_1_method_14_code (1 : Nat) (Option.some Jvm.ClassFile.FieldType.int)) ∈ lwG := lwG_4 (List.mem_of_getElem? (i := 84) rfl) rfl
theorem wl8_61 : (Cond.methodLink "GalleyRoomLaw" (69 : Nat) ({ cls := "GalleyRoomModel", name := "stopped", desc := "()I" } : Jvm.MethodName)) ∈ lwG := lwG_8 (List.mem_of_getElem? (i := 61) rfl) rfl
theorem wl8_64 : (Cond.code ({ cls := "GalleyRoomModel", name := "stopped", desc := "()I" } : Jvm.MethodName) prog_12_method_138_code (1 : Nat) (Option.some Jvm.ClassFile.FieldType.int)) ∈ lwG := lwG_8 (List.mem_of_getElem? (i := 64) rfl) rfl
theorem wl4_82 : (Cond.instanceMethod ({ cls := "GalleyRoom", name := "stopped", desc := "()I" } : Jvm.MethodName)) ∈ lwG := lwG_4 (List.mem_of_getElem? (i := 82) rfl) rfl
theorem wl8_62 : (Cond.instanceMethod ({ cls := "GalleyRoomModel", name := "stopped", desc := "()I" } : Jvm.MethodName)) ∈ lwG := lwG_8 (List.mem_of_getElem? (i := 62) rfl) rfl
theorem wl4_83 : (Cond.selects "GalleyRoom" ({ cls := "GalleyRoom", name := "stopped", desc := "()I" } : Jvm.MethodName) ({ cls := "GalleyRoom", name := "stopped", desc := "()I" } : Jvm.MethodName)) ∈ lwG := lwG_4 (List.mem_of_getElem? (i := 83) rfl) rfl
theorem wl8_63 : (Cond.selects "GalleyRoomModel" ({ cls := "GalleyRoomModel", name := "stopped", desc := "()I" } : Jvm.MethodName) ({ cls := "GalleyRoomModel", name := "stopped", desc := "()I" } : Jvm.MethodName)) ∈ lwG := lwG_8 (List.mem_of_getElem? (i := 63) rfl) rfl
theorem wl4_85 : (Cond.methodLink "GalleyRoomLaw" (70 : Nat) ({ cls := "GalleyRoom", name := "force", desc := "(I)I" } : Jvm.MethodName)) ∈ lwG := lwG_4 (List.mem_of_getElem? (i := 85) rfl) rfl
theorem wl4_88 : (Cond.code ({ cls := "GalleyRoom", name := "force", desc := "(I)I" } : Jvm.MethodName) prog_1_method_15_code (3 : Nat) (Option.some Jvm.ClassFile.FieldType.int)) ∈ lwG := lwG_4 (List.mem_of_getElem? (i := 88) rfl) rfl
theorem wl7_14 : (Cond.methodLink "GalleyRoomLaw" (73 : Nat) ({ cls := "GalleyRoomModel", name := "force", desc := "(I)I" } : Jvm.MethodName)) ∈ lwG := lwG_7 (List.mem_of_getElem? (i := 14) rfl) rfl
theorem wl7_17 : (Cond.code ({ cls := "GalleyRoomModel", name := "force", desc := "(I)I" } : Jvm.MethodName) prog_12_method_58_code (3 : Nat) (Option.some Jvm.ClassFile.FieldType.int)) ∈ lwG := lwG_7 (List.mem_of_getElem? (i := 17) rfl) rfl
theorem wl4_86 : (Cond.instanceMethod ({ cls := "GalleyRoom", name := "force", desc := "(I)I" } : Jvm.MethodName)) ∈ lwG := lwG_4 (List.mem_of_getElem? (i := 86) rfl) rfl
theorem wl7_15 : (Cond.instanceMethod ({ cls := "GalleyRoomModel", name := "force", desc := "(I)I" } : Jvm.MethodName)) ∈ lwG := lwG_7 (List.mem_of_getElem? (i := 15) rfl) rfl
theorem wl4_87 : (Cond.selects "GalleyRoom" ({ cls := "GalleyRoom", name := "force", desc := "(I)I" } : Jvm.MethodName) ({ cls := "GalleyRoom", name := "force", desc := "(I)I" } : Jvm.MethodName)) ∈ lwG := lwG_4 (List.mem_of_getElem? (i := 87) rfl) rfl
theorem wl7_16 : (Cond.selects "GalleyRoomModel" ({ cls := "GalleyRoomModel", name := "force", desc := "(I)I" } : Jvm.MethodName) ({ cls := "GalleyRoomModel", name := "force", desc := "(I)I" } : Jvm.MethodName)) ∈ lwG := lwG_7 (List.mem_of_getElem? (i := 16) rfl) rfl
theorem wl4_93 : (Cond.methodLink "GalleyRoomLaw" (74 : Nat) ({ cls := "GalleyRoom", name := "stop", desc := "(I)I" } : Jvm.MethodName)) ∈ lwG := lwG_4 (List.mem_of_getElem? (i := 93) rfl) rfl
theorem wl4_96 : (Cond.code ({ cls := "GalleyRoom", name := "stop", desc := "(I)I" } : Jvm.MethodName) prog_1_method_16_code (3 : Nat) (Option.some Jvm.ClassFile.FieldType.int)) ∈ lwG := lwG_4 (List.mem_of_getElem? (i := 96) rfl) rfl
theorem wl7_106 : (Cond.methodLink "GalleyRoomLaw" (77 : Nat) ({ cls := "GalleyRoomModel", name := "stop", desc := "(I)I" } : Jvm.MethodName)) ∈ lwG := lwG_7 (List.mem_of_getElem? (i := 106) rfl) rfl
theorem wl7_109 : (Cond.code ({ cls := "GalleyRoomModel", name := "stop", desc := "(I)I" } : Jvm.MethodName) prog_12_method_100_code (2 : Nat) (Option.some Jvm.ClassFile.FieldType.int)) ∈ lwG := lwG_7 (List.mem_of_getElem? (i := 109) rfl) rfl
theorem wl4_94 : (Cond.instanceMethod ({ cls := "GalleyRoom", name := "stop", desc := "(I)I" } : Jvm.MethodName)) ∈ lwG := lwG_4 (List.mem_of_getElem? (i := 94) rfl) rfl
theorem wl7_107 : (Cond.instanceMethod ({ cls := "GalleyRoomModel", name := "stop", desc := "(I)I" } : Jvm.MethodName)) ∈ lwG := lwG_7 (List.mem_of_getElem? (i := 107) rfl) rfl
theorem wl4_95 : (Cond.selects "GalleyRoom" ({ cls := "GalleyRoom", name := "stop", desc := "(I)I" } : Jvm.MethodName) ({ cls := "GalleyRoom", name := "stop", desc := "(I)I" } : Jvm.MethodName)) ∈ lwG := lwG_4 (List.mem_of_getElem? (i := 95) rfl) rfl
theorem wl7_108 : (Cond.selects "GalleyRoomModel" ({ cls := "GalleyRoomModel", name := "stop", desc := "(I)I" } : Jvm.MethodName) ({ cls := "GalleyRoomModel", name := "stop", desc := "(I)I" } : Jvm.MethodName)) ∈ lwG := lwG_7 (List.mem_of_getElem? (i := 108) rfl) rfl
theorem wl4_98 : (Cond.methodLink "GalleyRoomLaw" (78 : Nat) ({ cls := "GalleyRoom", name := "split", desc := "(I)I" } : Jvm.MethodName)) ∈ lwG := lwG_4 (List.mem_of_getElem? (i := 98) rfl) rfl
theorem wl4_101 : (Cond.code ({ cls := "GalleyRoom", name := "split", desc := "(I)I" } : Jvm.MethodName) prog_1_method_17_code (3 : Nat) (Option.some Jvm.ClassFile.FieldType.int)) ∈ lwG := lwG_4 (List.mem_of_getElem? (i := 101) rfl) rfl
theorem wl7_122 : (Cond.methodLink "GalleyRoomLaw" (81 : Nat) ({ cls := "GalleyRoomModel", name := "split", desc := "(I)I" } : Jvm.MethodName)) ∈ lwG := lwG_7 (List.mem_of_getElem? (i := 122) rfl) rfl
theorem wl7_125 : (Cond.code ({ cls := "GalleyRoomModel", name := "split", desc := "(I)I" } : Jvm.MethodName) prog_12_method_101_code (2 : Nat) (Option.some Jvm.ClassFile.FieldType.int)) ∈ lwG := lwG_7 (List.mem_of_getElem? (i := 125) rfl) rfl
theorem wl4_99 : (Cond.instanceMethod ({ cls := "GalleyRoom", name := "split", desc := "(I)I" } : Jvm.MethodName)) ∈ lwG := lwG_4 (List.mem_of_getElem? (i := 99) rfl) rfl
theorem wl7_123 : (Cond.instanceMethod ({ cls := "GalleyRoomModel", name := "split", desc := "(I)I" } : Jvm.MethodName)) ∈ lwG := lwG_7 (List.mem_of_getElem? (i := 123) rfl) rfl
theorem wl4_100 : (Cond.selects "GalleyRoom" ({ cls := "GalleyRoom", name := "split", desc := "(I)I" } : Jvm.MethodName) ({ cls := "GalleyRoom", name := "split", desc := "(I)I" } : Jvm.MethodName)) ∈ lwG := lwG_4 (List.mem_of_getElem? (i := 100) rfl) rfl
theorem wl7_124 : (Cond.selects "GalleyRoomModel" ({ cls := "GalleyRoomModel", name := "split", desc := "(I)I" } : Jvm.MethodName) ({ cls := "GalleyRoomModel", name := "split", desc := "(I)I" } : Jvm.MethodName)) ∈ lwG := lwG_7 (List.mem_of_getElem? (i := 124) rfl) rfl
theorem wl4_102 : (Cond.methodLink "GalleyRoomLaw" (82 : Nat) ({ cls := "GalleyRoom", name := "swell", desc := "(II)I" } : Jvm.MethodName)) ∈ lwG := lwG_4 (List.mem_of_getElem? (i := 102) rfl) rfl
theorem wl4_105 : (Cond.code ({ cls := "GalleyRoom", name := "swell", desc := "(II)I" } : Jvm.MethodName) prog_1_method_18_code (5 : Nat) (Option.some Jvm.ClassFile.FieldType.int)) ∈ lwG := lwG_4 (List.mem_of_getElem? (i := 105) rfl) rfl
theorem wl7_130 : (Cond.methodLink "GalleyRoomLaw" (85 : Nat) ({ cls := "GalleyRoomModel", name := "swell", desc := "(II)I" } : Jvm.MethodName)) ∈ lwG := lwG_7 (List.mem_of_getElem? (i := 130) rfl) rfl
theorem wl7_133 : (Cond.code ({ cls := "GalleyRoomModel", name := "swell", desc := "(II)I" } : Jvm.MethodName) prog_12_method_102_code (3 : Nat) (Option.some Jvm.ClassFile.FieldType.int)) ∈ lwG := lwG_7 (List.mem_of_getElem? (i := 133) rfl) rfl
theorem wl4_103 : (Cond.instanceMethod ({ cls := "GalleyRoom", name := "swell", desc := "(II)I" } : Jvm.MethodName)) ∈ lwG := lwG_4 (List.mem_of_getElem? (i := 103) rfl) rfl
theorem wl7_131 : (Cond.instanceMethod ({ cls := "GalleyRoomModel", name := "swell", desc := "(II)I" } : Jvm.MethodName)) ∈ lwG := lwG_7 (List.mem_of_getElem? (i := 131) rfl) rfl
theorem wl4_104 : (Cond.selects "GalleyRoom" ({ cls := "GalleyRoom", name := "swell", desc := "(II)I" } : Jvm.MethodName) ({ cls := "GalleyRoom", name := "swell", desc := "(II)I" } : Jvm.MethodName)) ∈ lwG := lwG_4 (List.mem_of_getElem? (i := 104) rfl) rfl
theorem wl7_132 : (Cond.selects "GalleyRoomModel" ({ cls := "GalleyRoomModel", name := "swell", desc := "(II)I" } : Jvm.MethodName) ({ cls := "GalleyRoomModel", name := "swell", desc := "(II)I" } : Jvm.MethodName)) ∈ lwG := lwG_7 (List.mem_of_getElem? (i := 132) rfl) rfl
theorem wl4_107 : (Cond.methodLink "GalleyRoomLaw" (86 : Nat) ({ cls := "GalleyRoom", name := "pass", desc := "()I" } : Jvm.MethodName)) ∈ lwG := lwG_4 (List.mem_of_getElem? (i := 107) rfl) rfl
theorem wl4_110 : (Cond.code ({ cls := "GalleyRoom", name := "pass", desc := "()I" } : Jvm.MethodName) prog_1_method_19_code (3 : Nat) (Option.some Jvm.ClassFile.FieldType.int)) ∈ lwG := lwG_4 (List.mem_of_getElem? (i := 110) rfl) rfl
theorem wl7_142 : (Cond.methodLink "GalleyRoomLaw" (89 : Nat) ({ cls := "GalleyRoomModel", name := "pass", desc := "()I" } : Jvm.MethodName)) ∈ lwG := lwG_7 (List.mem_of_getElem? (i := 142) rfl) rfl
theorem wl7_145 : (Cond.code ({ cls := "GalleyRoomModel", name := "pass", desc := "()I" } : Jvm.MethodName) prog_12_method_103_code (1 : Nat) (Option.some Jvm.ClassFile.FieldType.int)) ∈ lwG := lwG_7 (List.mem_of_getElem? (i := 145) rfl) rfl
theorem wl4_108 : (Cond.instanceMethod ({ cls := "GalleyRoom", name := "pass", desc := "()I" } : Jvm.MethodName)) ∈ lwG := lwG_4 (List.mem_of_getElem? (i := 108) rfl) rfl
theorem wl7_143 : (Cond.instanceMethod ({ cls := "GalleyRoomModel", name := "pass", desc := "()I" } : Jvm.MethodName)) ∈ lwG := lwG_7 (List.mem_of_getElem? (i := 143) rfl) rfl
theorem wl4_109 : (Cond.selects "GalleyRoom" ({ cls := "GalleyRoom", name := "pass", desc := "()I" } : Jvm.MethodName) ({ cls := "GalleyRoom", name := "pass", desc := "()I" } : Jvm.MethodName)) ∈ lwG := lwG_4 (List.mem_of_getElem? (i := 109) rfl) rfl
theorem wl7_144 : (Cond.selects "GalleyRoomModel" ({ cls := "GalleyRoomModel", name := "pass", desc := "()I" } : Jvm.MethodName) ({ cls := "GalleyRoomModel", name := "pass", desc := "()I" } : Jvm.MethodName)) ∈ lwG := lwG_7 (List.mem_of_getElem? (i := 144) rfl) rfl
theorem wl4_117 : (Cond.methodLink "GalleyRoomLaw" (90 : Nat) ({ cls := "GalleyRoom", name := "undo", desc := "()I" } : Jvm.MethodName)) ∈ lwG := lwG_4 (List.mem_of_getElem? (i := 117) rfl) rfl
theorem wl4_120 : (Cond.code ({ cls := "GalleyRoom", name := "undo", desc := "()I" } : Jvm.MethodName) prog_1_method_20_code (2 : Nat) (Option.some Jvm.ClassFile.FieldType.int)) ∈ lwG := lwG_4 (List.mem_of_getElem? (i := 120) rfl) rfl
theorem wl7_102 : (Cond.methodLink "GalleyRoomLaw" (93 : Nat) ({ cls := "GalleyRoomModel", name := "undo", desc := "()I" } : Jvm.MethodName)) ∈ lwG := lwG_7 (List.mem_of_getElem? (i := 102) rfl) rfl
theorem wl7_105 : (Cond.code ({ cls := "GalleyRoomModel", name := "undo", desc := "()I" } : Jvm.MethodName) prog_12_method_93_code (3 : Nat) (Option.some Jvm.ClassFile.FieldType.int)) ∈ lwG := lwG_7 (List.mem_of_getElem? (i := 105) rfl) rfl
theorem wl4_118 : (Cond.instanceMethod ({ cls := "GalleyRoom", name := "undo", desc := "()I" } : Jvm.MethodName)) ∈ lwG := lwG_4 (List.mem_of_getElem? (i := 118) rfl) rfl
theorem wl7_103 : (Cond.instanceMethod ({ cls := "GalleyRoomModel", name := "undo", desc := "()I" } : Jvm.MethodName)) ∈ lwG := lwG_7 (List.mem_of_getElem? (i := 103) rfl) rfl
theorem wl4_119 : (Cond.selects "GalleyRoom" ({ cls := "GalleyRoom", name := "undo", desc := "()I" } : Jvm.MethodName) ({ cls := "GalleyRoom", name := "undo", desc := "()I" } : Jvm.MethodName)) ∈ lwG := lwG_4 (List.mem_of_getElem? (i := 119) rfl) rfl
theorem wl7_104 : (Cond.selects "GalleyRoomModel" ({ cls := "GalleyRoomModel", name := "undo", desc := "()I" } : Jvm.MethodName) ({ cls := "GalleyRoomModel", name := "undo", desc := "()I" } : Jvm.MethodName)) ∈ lwG := lwG_7 (List.mem_of_getElem? (i := 104) rfl) rfl
theorem wl4_126 : (Cond.methodLink "GalleyRoomLaw" (94 : Nat) ({ cls := "GalleyRoom", name := "best", desc := "(I)I" } : Jvm.MethodName)) ∈ lwG := lwG_4 (List.mem_of_getElem? (i := 126) rfl) rfl
theorem wl4_129 : (Cond.code ({ cls := "GalleyRoom", name := "best", desc := "(I)I" } : Jvm.MethodName) prog_1_method_21_code (2 : Nat) (Option.some Jvm.ClassFile.FieldType.int)) ∈ lwG := lwG_4 (List.mem_of_getElem? (i := 129) rfl) rfl
theorem wl7_150 : (Cond.methodLink "GalleyRoomLaw" (97 : Nat) ({ cls := "GalleyRoomModel", name := "best", desc := "(I)I" } : Jvm.MethodName)) ∈ lwG := lwG_7 (List.mem_of_getElem? (i := 150) rfl) rfl
theorem wl7_153 : (Cond.code ({ cls := "GalleyRoomModel", name := "best", desc := "(I)I" } : Jvm.MethodName) prog_12_method_112_code (6 : Nat) (Option.some Jvm.ClassFile.FieldType.int)) ∈ lwG := lwG_7 (List.mem_of_getElem? (i := 153) rfl) rfl
theorem wl4_127 : (Cond.instanceMethod ({ cls := "GalleyRoom", name := "best", desc := "(I)I" } : Jvm.MethodName)) ∈ lwG := lwG_4 (List.mem_of_getElem? (i := 127) rfl) rfl
theorem wl7_151 : (Cond.instanceMethod ({ cls := "GalleyRoomModel", name := "best", desc := "(I)I" } : Jvm.MethodName)) ∈ lwG := lwG_7 (List.mem_of_getElem? (i := 151) rfl) rfl
theorem wl4_128 : (Cond.selects "GalleyRoom" ({ cls := "GalleyRoom", name := "best", desc := "(I)I" } : Jvm.MethodName) ({ cls := "GalleyRoom", name := "best", desc := "(I)I" } : Jvm.MethodName)) ∈ lwG := lwG_4 (List.mem_of_getElem? (i := 128) rfl) rfl
theorem wl7_152 : (Cond.selects "GalleyRoomModel" ({ cls := "GalleyRoomModel", name := "best", desc := "(I)I" } : Jvm.MethodName) ({ cls := "GalleyRoomModel", name := "best", desc := "(I)I" } : Jvm.MethodName)) ∈ lwG := lwG_7 (List.mem_of_getElem? (i := 152) rfl) rfl
theorem wl4_180 : (Cond.methodLink "GalleyRoomLaw" (98 : Nat) ({ cls := "GalleyRoom", name := "just", desc := "(I)I" } : Jvm.MethodName)) ∈ lwG := lwG_4 (List.mem_of_getElem? (i := 180) rfl) rfl
theorem wl4_183 : (Cond.code ({ cls := "GalleyRoom", name := "just", desc := "(I)I" } : Jvm.MethodName) prog_1_method_22_code (2 : Nat) (Option.some Jvm.ClassFile.FieldType.int)) ∈ lwG := lwG_4 (List.mem_of_getElem? (i := 183) rfl) rfl
theorem wl7_192 : (Cond.methodLink "GalleyRoomLaw" (101 : Nat) ({ cls := "GalleyRoomModel", name := "just", desc := "(I)I" } : Jvm.MethodName)) ∈ lwG := lwG_7 (List.mem_of_getElem? (i := 192) rfl) rfl
theorem wl7_195 : (Cond.code ({ cls := "GalleyRoomModel", name := "just", desc := "(I)I" } : Jvm.MethodName) prog_12_method_117_code (2 : Nat) (Option.some Jvm.ClassFile.FieldType.int)) ∈ lwG := lwG_7 (List.mem_of_getElem? (i := 195) rfl) rfl
theorem wl4_181 : (Cond.instanceMethod ({ cls := "GalleyRoom", name := "just", desc := "(I)I" } : Jvm.MethodName)) ∈ lwG := lwG_4 (List.mem_of_getElem? (i := 181) rfl) rfl
theorem wl7_193 : (Cond.instanceMethod ({ cls := "GalleyRoomModel", name := "just", desc := "(I)I" } : Jvm.MethodName)) ∈ lwG := lwG_7 (List.mem_of_getElem? (i := 193) rfl) rfl
theorem wl4_182 : (Cond.selects "GalleyRoom" ({ cls := "GalleyRoom", name := "just", desc := "(I)I" } : Jvm.MethodName) ({ cls := "GalleyRoom", name := "just", desc := "(I)I" } : Jvm.MethodName)) ∈ lwG := lwG_4 (List.mem_of_getElem? (i := 182) rfl) rfl
theorem wl7_194 : (Cond.selects "GalleyRoomModel" ({ cls := "GalleyRoomModel", name := "just", desc := "(I)I" } : Jvm.MethodName) ({ cls := "GalleyRoomModel", name := "just", desc := "(I)I" } : Jvm.MethodName)) ∈ lwG := lwG_7 (List.mem_of_getElem? (i := 194) rfl) rfl
theorem wl4_188 : (Cond.methodLink "GalleyRoomLaw" (102 : Nat) ({ cls := "GalleyRoom", name := "fewest", desc := "()I" } : Jvm.MethodName)) ∈ lwG := lwG_4 (List.mem_of_getElem? (i := 188) rfl) rfl
theorem wl4_191 : (Cond.code ({ cls := "GalleyRoom", name := "fewest", desc := "()I" } : Jvm.MethodName) prog_1_method_23_code (2 : Nat) (Option.some Jvm.ClassFile.FieldType.int)) ∈ lwG := lwG_4 (List.mem_of_getElem? (i := 191) rfl) rfl
theorem wl7_213 : (Cond.methodLink "GalleyRoomLaw" (105 : Nat) ({ cls := "GalleyRoomModel", name := "fewest", desc := "()I" } : Jvm.MethodName)) ∈ lwG := lwG_7 (List.mem_of_getElem? (i := 213) rfl) rfl
theorem wl7_216 : (Cond.code ({ cls := "GalleyRoomModel", name := "fewest", desc := "()I" } : Jvm.MethodName) prog_12_method_118_code (2 : Nat) (Option.some Jvm.ClassFile.FieldType.int)) ∈ lwG := lwG_7 (List.mem_of_getElem? (i := 216) rfl) rfl
theorem wl4_189 : (Cond.instanceMethod ({ cls := "GalleyRoom", name := "fewest", desc := "()I" } : Jvm.MethodName)) ∈ lwG := lwG_4 (List.mem_of_getElem? (i := 189) rfl) rfl
theorem wl7_214 : (Cond.instanceMethod ({ cls := "GalleyRoomModel", name := "fewest", desc := "()I" } : Jvm.MethodName)) ∈ lwG := lwG_7 (List.mem_of_getElem? (i := 214) rfl) rfl
theorem wl4_190 : (Cond.selects "GalleyRoom" ({ cls := "GalleyRoom", name := "fewest", desc := "()I" } : Jvm.MethodName) ({ cls := "GalleyRoom", name := "fewest", desc := "()I" } : Jvm.MethodName)) ∈ lwG := lwG_4 (List.mem_of_getElem? (i := 190) rfl) rfl
theorem wl7_215 : (Cond.selects "GalleyRoomModel" ({ cls := "GalleyRoomModel", name := "fewest", desc := "()I" } : Jvm.MethodName) ({ cls := "GalleyRoomModel", name := "fewest", desc := "()I" } : Jvm.MethodName)) ∈ lwG := lwG_7 (List.mem_of_getElem? (i := 215) rfl) rfl
theorem wl4_196 : (Cond.methodLink "GalleyRoomLaw" (106 : Nat) ({ cls := "GalleyRoom", name := "most", desc := "()I" } : Jvm.MethodName)) ∈ lwG := lwG_4 (List.mem_of_getElem? (i := 196) rfl) rfl
theorem wl4_199 : (Cond.code ({ cls := "GalleyRoom", name := "most", desc := "()I" } : Jvm.MethodName) prog_1_method_24_code (2 : Nat) (Option.some Jvm.ClassFile.FieldType.int)) ∈ lwG := lwG_4 (List.mem_of_getElem? (i := 199) rfl) rfl
theorem wl7_217 : (Cond.methodLink "GalleyRoomLaw" (109 : Nat) ({ cls := "GalleyRoomModel", name := "most", desc := "()I" } : Jvm.MethodName)) ∈ lwG := lwG_7 (List.mem_of_getElem? (i := 217) rfl) rfl
theorem wl7_220 : (Cond.code ({ cls := "GalleyRoomModel", name := "most", desc := "()I" } : Jvm.MethodName) prog_12_method_119_code (2 : Nat) (Option.some Jvm.ClassFile.FieldType.int)) ∈ lwG := lwG_7 (List.mem_of_getElem? (i := 220) rfl) rfl
theorem wl4_197 : (Cond.instanceMethod ({ cls := "GalleyRoom", name := "most", desc := "()I" } : Jvm.MethodName)) ∈ lwG := lwG_4 (List.mem_of_getElem? (i := 197) rfl) rfl
theorem wl7_218 : (Cond.instanceMethod ({ cls := "GalleyRoomModel", name := "most", desc := "()I" } : Jvm.MethodName)) ∈ lwG := lwG_7 (List.mem_of_getElem? (i := 218) rfl) rfl
theorem wl4_198 : (Cond.selects "GalleyRoom" ({ cls := "GalleyRoom", name := "most", desc := "()I" } : Jvm.MethodName) ({ cls := "GalleyRoom", name := "most", desc := "()I" } : Jvm.MethodName)) ∈ lwG := lwG_4 (List.mem_of_getElem? (i := 198) rfl) rfl
theorem wl7_219 : (Cond.selects "GalleyRoomModel" ({ cls := "GalleyRoomModel", name := "most", desc := "()I" } : Jvm.MethodName) ({ cls := "GalleyRoomModel", name := "most", desc := "()I" } : Jvm.MethodName)) ∈ lwG := lwG_7 (List.mem_of_getElem? (i := 219) rfl) rfl
theorem wl4_200 : (Cond.methodLink "GalleyRoomLaw" (110 : Nat) ({ cls := "GalleyRoom", name := "ways", desc := "()J" } : Jvm.MethodName)) ∈ lwG := lwG_4 (List.mem_of_getElem? (i := 200) rfl) rfl
theorem wl4_203 : (Cond.code ({ cls := "GalleyRoom", name := "ways", desc := "()J" } : Jvm.MethodName) prog_1_method_25_code (1 : Nat) (Option.some Jvm.ClassFile.FieldType.long)) ∈ lwG := lwG_4 (List.mem_of_getElem? (i := 203) rfl) rfl
theorem wl7_221 : (Cond.methodLink "GalleyRoomLaw" (114 : Nat) ({ cls := "GalleyRoomModel", name := "ways", desc := "()J" } : Jvm.MethodName)) ∈ lwG := lwG_7 (List.mem_of_getElem? (i := 221) rfl) rfl
theorem wl7_224 : (Cond.code ({ cls := "GalleyRoomModel", name := "ways", desc := "()J" } : Jvm.MethodName) prog_12_method_120_code (4 : Nat) (Option.some Jvm.ClassFile.FieldType.long)) ∈ lwG := lwG_7 (List.mem_of_getElem? (i := 224) rfl) rfl
theorem wl4_201 : (Cond.instanceMethod ({ cls := "GalleyRoom", name := "ways", desc := "()J" } : Jvm.MethodName)) ∈ lwG := lwG_4 (List.mem_of_getElem? (i := 201) rfl) rfl
theorem wl7_222 : (Cond.instanceMethod ({ cls := "GalleyRoomModel", name := "ways", desc := "()J" } : Jvm.MethodName)) ∈ lwG := lwG_7 (List.mem_of_getElem? (i := 222) rfl) rfl
theorem wl4_202 : (Cond.selects "GalleyRoom" ({ cls := "GalleyRoom", name := "ways", desc := "()J" } : Jvm.MethodName) ({ cls := "GalleyRoom", name := "ways", desc := "()J" } : Jvm.MethodName)) ∈ lwG := lwG_4 (List.mem_of_getElem? (i := 202) rfl) rfl
theorem wl7_223 : (Cond.selects "GalleyRoomModel" ({ cls := "GalleyRoomModel", name := "ways", desc := "()J" } : Jvm.MethodName) ({ cls := "GalleyRoomModel", name := "ways", desc := "()J" } : Jvm.MethodName)) ∈ lwG := lwG_7 (List.mem_of_getElem? (i := 223) rfl) rfl
theorem wl4_208 : (Cond.methodLink "GalleyRoomLaw" (115 : Nat) ({ cls := "GalleyRoom", name := "richest", desc := "()I" } : Jvm.MethodName)) ∈ lwG := lwG_4 (List.mem_of_getElem? (i := 208) rfl) rfl
theorem wl4_211 : (Cond.code ({ cls := "GalleyRoom", name := "richest", desc := "()I" } : Jvm.MethodName) prog_1_method_26_code (1 : Nat) (Option.some Jvm.ClassFile.FieldType.int)) ∈ lwG := lwG_4 (List.mem_of_getElem? (i := 211) rfl) rfl
theorem wl7_225 : (Cond.methodLink "GalleyRoomLaw" (118 : Nat) ({ cls := "GalleyRoomModel", name := "richest", desc := "()I" } : Jvm.MethodName)) ∈ lwG := lwG_7 (List.mem_of_getElem? (i := 225) rfl) rfl
theorem wl7_228 : (Cond.code ({ cls := "GalleyRoomModel", name := "richest", desc := "()I" } : Jvm.MethodName) prog_12_method_121_code (3 : Nat) (Option.some Jvm.ClassFile.FieldType.int)) ∈ lwG := lwG_7 (List.mem_of_getElem? (i := 228) rfl) rfl
theorem wl4_209 : (Cond.instanceMethod ({ cls := "GalleyRoom", name := "richest", desc := "()I" } : Jvm.MethodName)) ∈ lwG := lwG_4 (List.mem_of_getElem? (i := 209) rfl) rfl
theorem wl7_226 : (Cond.instanceMethod ({ cls := "GalleyRoomModel", name := "richest", desc := "()I" } : Jvm.MethodName)) ∈ lwG := lwG_7 (List.mem_of_getElem? (i := 226) rfl) rfl
theorem wl4_210 : (Cond.selects "GalleyRoom" ({ cls := "GalleyRoom", name := "richest", desc := "()I" } : Jvm.MethodName) ({ cls := "GalleyRoom", name := "richest", desc := "()I" } : Jvm.MethodName)) ∈ lwG := lwG_4 (List.mem_of_getElem? (i := 210) rfl) rfl
theorem wl7_227 : (Cond.selects "GalleyRoomModel" ({ cls := "GalleyRoomModel", name := "richest", desc := "()I" } : Jvm.MethodName) ({ cls := "GalleyRoomModel", name := "richest", desc := "()I" } : Jvm.MethodName)) ∈ lwG := lwG_7 (List.mem_of_getElem? (i := 227) rfl) rfl
theorem wl4_216 : (Cond.methodLink "GalleyRoomLaw" (119 : Nat) ({ cls := "GalleyRoom", name := "narrow", desc := "(I)I" } : Jvm.MethodName)) ∈ lwG := lwG_4 (List.mem_of_getElem? (i := 216) rfl) rfl
theorem wl4_219 : (Cond.code ({ cls := "GalleyRoom", name := "narrow", desc := "(I)I" } : Jvm.MethodName) prog_1_method_27_code (3 : Nat) (Option.some Jvm.ClassFile.FieldType.int)) ∈ lwG := lwG_4 (List.mem_of_getElem? (i := 219) rfl) rfl
theorem wl7_229 : (Cond.methodLink "GalleyRoomLaw" (122 : Nat) ({ cls := "GalleyRoomModel", name := "narrow", desc := "(I)I" } : Jvm.MethodName)) ∈ lwG := lwG_7 (List.mem_of_getElem? (i := 229) rfl) rfl
theorem wl7_232 : (Cond.code ({ cls := "GalleyRoomModel", name := "narrow", desc := "(I)I" } : Jvm.MethodName) prog_12_method_123_code (3 : Nat) (Option.some Jvm.ClassFile.FieldType.int)) ∈ lwG := lwG_7 (List.mem_of_getElem? (i := 232) rfl) rfl
theorem wl4_217 : (Cond.instanceMethod ({ cls := "GalleyRoom", name := "narrow", desc := "(I)I" } : Jvm.MethodName)) ∈ lwG := lwG_4 (List.mem_of_getElem? (i := 217) rfl) rfl
theorem wl7_230 : (Cond.instanceMethod ({ cls := "GalleyRoomModel", name := "narrow", desc := "(I)I" } : Jvm.MethodName)) ∈ lwG := lwG_7 (List.mem_of_getElem? (i := 230) rfl) rfl
theorem wl4_218 : (Cond.selects "GalleyRoom" ({ cls := "GalleyRoom", name := "narrow", desc := "(I)I" } : Jvm.MethodName) ({ cls := "GalleyRoom", name := "narrow", desc := "(I)I" } : Jvm.MethodName)) ∈ lwG := lwG_4 (List.mem_of_getElem? (i := 218) rfl) rfl
theorem wl7_231 : (Cond.selects "GalleyRoomModel" ({ cls := "GalleyRoomModel", name := "narrow", desc := "(I)I" } : Jvm.MethodName) ({ cls := "GalleyRoomModel", name := "narrow", desc := "(I)I" } : Jvm.MethodName)) ∈ lwG := lwG_7 (List.mem_of_getElem? (i := 231) rfl) rfl
theorem wl4_225 : (Cond.methodLink "GalleyRoomLaw" (123 : Nat) ({ cls := "GalleyRoom", name := "leaveOut", desc := "(I)I" } : Jvm.MethodName)) ∈ lwG := lwG_4 (List.mem_of_getElem? (i := 225) rfl) rfl
theorem wl4_228 : (Cond.code ({ cls := "GalleyRoom", name := "leaveOut", desc := "(I)I" } : Jvm.MethodName) prog_1_method_28_code (6 : Nat) (Option.some Jvm.ClassFile.FieldType.int)) ∈ lwG := lwG_4 (List.mem_of_getElem? (i := 228) rfl) rfl
theorem wl7_237 : (Cond.methodLink "GalleyRoomLaw" (126 : Nat) ({ cls := "GalleyRoomModel", name := "leaveOut", desc := "(I)I" } : Jvm.MethodName)) ∈ lwG := lwG_7 (List.mem_of_getElem? (i := 237) rfl) rfl
theorem wl8_0 : (Cond.code ({ cls := "GalleyRoomModel", name := "leaveOut", desc := "(I)I" } : Jvm.MethodName) prog_12_method_124_code (6 : Nat) (Option.some Jvm.ClassFile.FieldType.int)) ∈ lwG := lwG_8 (List.mem_of_getElem? (i := 0) rfl) rfl
theorem wl4_226 : (Cond.instanceMethod ({ cls := "GalleyRoom", name := "leaveOut", desc := "(I)I" } : Jvm.MethodName)) ∈ lwG := lwG_4 (List.mem_of_getElem? (i := 226) rfl) rfl
theorem wl7_238 : (Cond.instanceMethod ({ cls := "GalleyRoomModel", name := "leaveOut", desc := "(I)I" } : Jvm.MethodName)) ∈ lwG := lwG_7 (List.mem_of_getElem? (i := 238) rfl) rfl
theorem wl4_227 : (Cond.selects "GalleyRoom" ({ cls := "GalleyRoom", name := "leaveOut", desc := "(I)I" } : Jvm.MethodName) ({ cls := "GalleyRoom", name := "leaveOut", desc := "(I)I" } : Jvm.MethodName)) ∈ lwG := lwG_4 (List.mem_of_getElem? (i := 227) rfl) rfl
theorem wl7_239 : (Cond.selects "GalleyRoomModel" ({ cls := "GalleyRoomModel", name := "leaveOut", desc := "(I)I" } : Jvm.MethodName) ({ cls := "GalleyRoomModel", name := "leaveOut", desc := "(I)I" } : Jvm.MethodName)) ∈ lwG := lwG_7 (List.mem_of_getElem? (i := 239) rfl) rfl
theorem wl4_234 : (Cond.methodLink "GalleyRoomLaw" (127 : Nat) ({ cls := "GalleyRoom", name := "river", desc := "()I" } : Jvm.MethodName)) ∈ lwG := lwG_4 (List.mem_of_getElem? (i := 234) rfl) rfl
theorem wl4_237 : (Cond.code ({ cls := "GalleyRoom", name := "river", desc := "()I" } : Jvm.MethodName) prog_1_method_29_code (1 : Nat) (Option.some Jvm.ClassFile.FieldType.int)) ∈ lwG := lwG_4 (List.mem_of_getElem? (i := 237) rfl) rfl
theorem wl8_9 : (Cond.methodLink "GalleyRoomLaw" (130 : Nat) ({ cls := "GalleyRoomModel", name := "river", desc := "()I" } : Jvm.MethodName)) ∈ lwG := lwG_8 (List.mem_of_getElem? (i := 9) rfl) rfl
theorem wl8_12 : (Cond.code ({ cls := "GalleyRoomModel", name := "river", desc := "()I" } : Jvm.MethodName) prog_12_method_129_code (5 : Nat) (Option.some Jvm.ClassFile.FieldType.int)) ∈ lwG := lwG_8 (List.mem_of_getElem? (i := 12) rfl) rfl
theorem wl4_235 : (Cond.instanceMethod ({ cls := "GalleyRoom", name := "river", desc := "()I" } : Jvm.MethodName)) ∈ lwG := lwG_4 (List.mem_of_getElem? (i := 235) rfl) rfl
theorem wl8_10 : (Cond.instanceMethod ({ cls := "GalleyRoomModel", name := "river", desc := "()I" } : Jvm.MethodName)) ∈ lwG := lwG_8 (List.mem_of_getElem? (i := 10) rfl) rfl
theorem wl4_236 : (Cond.selects "GalleyRoom" ({ cls := "GalleyRoom", name := "river", desc := "()I" } : Jvm.MethodName) ({ cls := "GalleyRoom", name := "river", desc := "()I" } : Jvm.MethodName)) ∈ lwG := lwG_4 (List.mem_of_getElem? (i := 236) rfl) rfl
theorem wl8_11 : (Cond.selects "GalleyRoomModel" ({ cls := "GalleyRoomModel", name := "river", desc := "()I" } : Jvm.MethodName) ({ cls := "GalleyRoomModel", name := "river", desc := "()I" } : Jvm.MethodName)) ∈ lwG := lwG_8 (List.mem_of_getElem? (i := 11) rfl) rfl
theorem wl5_11 : (Cond.methodLink "GalleyRoomLaw" (131 : Nat) ({ cls := "GalleyRoom", name := "seen", desc := "(II)I" } : Jvm.MethodName)) ∈ lwG := lwG_5 (List.mem_of_getElem? (i := 11) rfl) rfl
theorem wl5_14 : (Cond.code ({ cls := "GalleyRoom", name := "seen", desc := "(II)I" } : Jvm.MethodName) prog_1_method_30_code (3 : Nat) (Option.some Jvm.ClassFile.FieldType.int)) ∈ lwG := lwG_5 (List.mem_of_getElem? (i := 14) rfl) rfl
theorem wl8_25 : (Cond.methodLink "GalleyRoomLaw" (134 : Nat) ({ cls := "GalleyRoomModel", name := "seen", desc := "(II)I" } : Jvm.MethodName)) ∈ lwG := lwG_8 (List.mem_of_getElem? (i := 25) rfl) rfl
theorem wl8_28 : (Cond.code ({ cls := "GalleyRoomModel", name := "seen", desc := "(II)I" } : Jvm.MethodName) prog_12_method_130_code (4 : Nat) (Option.some Jvm.ClassFile.FieldType.int)) ∈ lwG := lwG_8 (List.mem_of_getElem? (i := 28) rfl) rfl
theorem wl5_12 : (Cond.instanceMethod ({ cls := "GalleyRoom", name := "seen", desc := "(II)I" } : Jvm.MethodName)) ∈ lwG := lwG_5 (List.mem_of_getElem? (i := 12) rfl) rfl
theorem wl8_26 : (Cond.instanceMethod ({ cls := "GalleyRoomModel", name := "seen", desc := "(II)I" } : Jvm.MethodName)) ∈ lwG := lwG_8 (List.mem_of_getElem? (i := 26) rfl) rfl
theorem wl5_13 : (Cond.selects "GalleyRoom" ({ cls := "GalleyRoom", name := "seen", desc := "(II)I" } : Jvm.MethodName) ({ cls := "GalleyRoom", name := "seen", desc := "(II)I" } : Jvm.MethodName)) ∈ lwG := lwG_5 (List.mem_of_getElem? (i := 13) rfl) rfl
theorem wl8_27 : (Cond.selects "GalleyRoomModel" ({ cls := "GalleyRoomModel", name := "seen", desc := "(II)I" } : Jvm.MethodName) ({ cls := "GalleyRoomModel", name := "seen", desc := "(II)I" } : Jvm.MethodName)) ∈ lwG := lwG_8 (List.mem_of_getElem? (i := 27) rfl) rfl
theorem wl5_17 : (Cond.methodLink "GalleyRoomLaw" (135 : Nat) ({ cls := "GalleyRoom", name := "forget", desc := "()I" } : Jvm.MethodName)) ∈ lwG := lwG_5 (List.mem_of_getElem? (i := 17) rfl) rfl
theorem wl5_20 : (Cond.code ({ cls := "GalleyRoom", name := "forget", desc := "()I" } : Jvm.MethodName) prog_1_method_31_code (2 : Nat) (Option.some Jvm.ClassFile.FieldType.int)) ∈ lwG := lwG_5 (List.mem_of_getElem? (i := 20) rfl) rfl
theorem wl8_29 : (Cond.methodLink "GalleyRoomLaw" (138 : Nat) ({ cls := "GalleyRoomModel", name := "forget", desc := "()I" } : Jvm.MethodName)) ∈ lwG := lwG_8 (List.mem_of_getElem? (i := 29) rfl) rfl
theorem wl8_32 : (Cond.code ({ cls := "GalleyRoomModel", name := "forget", desc := "()I" } : Jvm.MethodName) prog_12_method_131_code (2 : Nat) (Option.some Jvm.ClassFile.FieldType.int)) ∈ lwG := lwG_8 (List.mem_of_getElem? (i := 32) rfl) rfl
theorem wl5_18 : (Cond.instanceMethod ({ cls := "GalleyRoom", name := "forget", desc := "()I" } : Jvm.MethodName)) ∈ lwG := lwG_5 (List.mem_of_getElem? (i := 18) rfl) rfl
theorem wl8_30 : (Cond.instanceMethod ({ cls := "GalleyRoomModel", name := "forget", desc := "()I" } : Jvm.MethodName)) ∈ lwG := lwG_8 (List.mem_of_getElem? (i := 30) rfl) rfl
theorem wl5_19 : (Cond.selects "GalleyRoom" ({ cls := "GalleyRoom", name := "forget", desc := "()I" } : Jvm.MethodName) ({ cls := "GalleyRoom", name := "forget", desc := "()I" } : Jvm.MethodName)) ∈ lwG := lwG_5 (List.mem_of_getElem? (i := 19) rfl) rfl
theorem wl8_31 : (Cond.selects "GalleyRoomModel" ({ cls := "GalleyRoomModel", name := "forget", desc := "()I" } : Jvm.MethodName) ({ cls := "GalleyRoomModel", name := "forget", desc := "()I" } : Jvm.MethodName)) ∈ lwG := lwG_8 (List.mem_of_getElem? (i := 31) rfl) rfl
theorem wl5_21 : (Cond.methodLink "GalleyRoomLaw" (139 : Nat) ({ cls := "GalleyRoom", name := "canBe", desc := "()I" } : Jvm.MethodName)) ∈ lwG := lwG_5 (List.mem_of_getElem? (i := 21) rfl) rfl
theorem wl5_24 : (Cond.code ({ cls := "GalleyRoom", name := "canBe", desc := "()I" } : Jvm.MethodName) prog_1_method_32_code (1 : Nat) (Option.some Jvm.ClassFile.FieldType.int)) ∈ lwG := lwG_5 (List.mem_of_getElem? (i := 24) rfl) rfl
theorem wl8_33 : (Cond.methodLink "GalleyRoomLaw" (142 : Nat) ({ cls := "GalleyRoomModel", name := "canBe", desc := "()I" } : Jvm.MethodName)) ∈ lwG := lwG_8 (List.mem_of_getElem? (i := 33) rfl) rfl
theorem wl8_36 : (Cond.code ({ cls := "GalleyRoomModel", name := "canBe", desc := "()I" } : Jvm.MethodName) prog_12_method_134_code (3 : Nat) (Option.some Jvm.ClassFile.FieldType.int)) ∈ lwG := lwG_8 (List.mem_of_getElem? (i := 36) rfl) rfl
theorem wl5_22 : (Cond.instanceMethod ({ cls := "GalleyRoom", name := "canBe", desc := "()I" } : Jvm.MethodName)) ∈ lwG := lwG_5 (List.mem_of_getElem? (i := 22) rfl) rfl
theorem wl8_34 : (Cond.instanceMethod ({ cls := "GalleyRoomModel", name := "canBe", desc := "()I" } : Jvm.MethodName)) ∈ lwG := lwG_8 (List.mem_of_getElem? (i := 34) rfl) rfl
theorem wl5_23 : (Cond.selects "GalleyRoom" ({ cls := "GalleyRoom", name := "canBe", desc := "()I" } : Jvm.MethodName) ({ cls := "GalleyRoom", name := "canBe", desc := "()I" } : Jvm.MethodName)) ∈ lwG := lwG_5 (List.mem_of_getElem? (i := 23) rfl) rfl
theorem wl8_35 : (Cond.selects "GalleyRoomModel" ({ cls := "GalleyRoomModel", name := "canBe", desc := "()I" } : Jvm.MethodName) ({ cls := "GalleyRoomModel", name := "canBe", desc := "()I" } : Jvm.MethodName)) ∈ lwG := lwG_8 (List.mem_of_getElem? (i := 35) rfl) rfl
theorem wl5_38 : (Cond.methodLink "GalleyRoomLaw" (143 : Nat) ({ cls := "GalleyRoom", name := "look", desc := "(I)I" } : Jvm.MethodName)) ∈ lwG := lwG_5 (List.mem_of_getElem? (i := 38) rfl) rfl
theorem wl5_41 : (Cond.code ({ cls := "GalleyRoom", name := "look", desc := "(I)I" } : Jvm.MethodName) prog_1_method_33_code (7 : Nat) (Option.some Jvm.ClassFile.FieldType.int)) ∈ lwG := lwG_5 (List.mem_of_getElem? (i := 41) rfl) rfl
theorem wl8_45 : (Cond.methodLink "GalleyRoomLaw" (146 : Nat) ({ cls := "GalleyRoomModel", name := "look", desc := "(I)I" } : Jvm.MethodName)) ∈ lwG := lwG_8 (List.mem_of_getElem? (i := 45) rfl) rfl
theorem wl8_48 : (Cond.code ({ cls := "GalleyRoomModel", name := "look", desc := "(I)I" } : Jvm.MethodName) prog_12_method_136_code (7 : Nat) (Option.some Jvm.ClassFile.FieldType.int)) ∈ lwG := lwG_8 (List.mem_of_getElem? (i := 48) rfl) rfl
theorem wl5_39 : (Cond.instanceMethod ({ cls := "GalleyRoom", name := "look", desc := "(I)I" } : Jvm.MethodName)) ∈ lwG := lwG_5 (List.mem_of_getElem? (i := 39) rfl) rfl
theorem wl8_46 : (Cond.instanceMethod ({ cls := "GalleyRoomModel", name := "look", desc := "(I)I" } : Jvm.MethodName)) ∈ lwG := lwG_8 (List.mem_of_getElem? (i := 46) rfl) rfl
theorem wl5_40 : (Cond.selects "GalleyRoom" ({ cls := "GalleyRoom", name := "look", desc := "(I)I" } : Jvm.MethodName) ({ cls := "GalleyRoom", name := "look", desc := "(I)I" } : Jvm.MethodName)) ∈ lwG := lwG_5 (List.mem_of_getElem? (i := 40) rfl) rfl
theorem wl8_47 : (Cond.selects "GalleyRoomModel" ({ cls := "GalleyRoomModel", name := "look", desc := "(I)I" } : Jvm.MethodName) ({ cls := "GalleyRoomModel", name := "look", desc := "(I)I" } : Jvm.MethodName)) ∈ lwG := lwG_8 (List.mem_of_getElem? (i := 47) rfl) rfl
theorem wl5_46 : (Cond.methodLink "GalleyRoomLaw" (147 : Nat) ({ cls := "GalleyRoom", name := "few", desc := "(II)J" } : Jvm.MethodName)) ∈ lwG := lwG_5 (List.mem_of_getElem? (i := 46) rfl) rfl
theorem wl5_49 : (Cond.code ({ cls := "GalleyRoom", name := "few", desc := "(II)J" } : Jvm.MethodName) prog_1_method_34_code (8 : Nat) (Option.some Jvm.ClassFile.FieldType.long)) ∈ lwG := lwG_5 (List.mem_of_getElem? (i := 49) rfl) rfl
theorem wl8_54 : (Cond.methodLink "GalleyRoomLaw" (151 : Nat) ({ cls := "GalleyRoomModel", name := "few", desc := "(II)J" } : Jvm.MethodName)) ∈ lwG := lwG_8 (List.mem_of_getElem? (i := 54) rfl) rfl
theorem wl8_57 : (Cond.code ({ cls := "GalleyRoomModel", name := "few", desc := "(II)J" } : Jvm.MethodName) prog_12_method_137_code (6 : Nat) (Option.some Jvm.ClassFile.FieldType.long)) ∈ lwG := lwG_8 (List.mem_of_getElem? (i := 57) rfl) rfl
theorem wl5_47 : (Cond.instanceMethod ({ cls := "GalleyRoom", name := "few", desc := "(II)J" } : Jvm.MethodName)) ∈ lwG := lwG_5 (List.mem_of_getElem? (i := 47) rfl) rfl
theorem wl8_55 : (Cond.instanceMethod ({ cls := "GalleyRoomModel", name := "few", desc := "(II)J" } : Jvm.MethodName)) ∈ lwG := lwG_8 (List.mem_of_getElem? (i := 55) rfl) rfl
theorem wl5_48 : (Cond.selects "GalleyRoom" ({ cls := "GalleyRoom", name := "few", desc := "(II)J" } : Jvm.MethodName) ({ cls := "GalleyRoom", name := "few", desc := "(II)J" } : Jvm.MethodName)) ∈ lwG := lwG_5 (List.mem_of_getElem? (i := 48) rfl) rfl
theorem wl8_56 : (Cond.selects "GalleyRoomModel" ({ cls := "GalleyRoomModel", name := "few", desc := "(II)J" } : Jvm.MethodName) ({ cls := "GalleyRoomModel", name := "few", desc := "(II)J" } : Jvm.MethodName)) ∈ lwG := lwG_8 (List.mem_of_getElem? (i := 56) rfl) rfl
theorem wl5_54 : (Cond.methodLink "GalleyRoomLaw" (152 : Nat) ({ cls := "GalleyRoom", name := "compare", desc := "(I)I" } : Jvm.MethodName)) ∈ lwG := lwG_5 (List.mem_of_getElem? (i := 54) rfl) rfl
theorem wl5_57 : (Cond.code ({ cls := "GalleyRoom", name := "compare", desc := "(I)I" } : Jvm.MethodName) prog_1_method_35_code (2 : Nat) (Option.some Jvm.ClassFile.FieldType.int)) ∈ lwG := lwG_5 (List.mem_of_getElem? (i := 57) rfl) rfl
theorem wl8_5 : (Cond.methodLink "GalleyRoomLaw" (155 : Nat) ({ cls := "GalleyRoomModel", name := "compare", desc := "(I)I" } : Jvm.MethodName)) ∈ lwG := lwG_8 (List.mem_of_getElem? (i := 5) rfl) rfl
theorem wl8_8 : (Cond.code ({ cls := "GalleyRoomModel", name := "compare", desc := "(I)I" } : Jvm.MethodName) prog_12_method_125_code (4 : Nat) (Option.some Jvm.ClassFile.FieldType.int)) ∈ lwG := lwG_8 (List.mem_of_getElem? (i := 8) rfl) rfl
theorem wl5_55 : (Cond.instanceMethod ({ cls := "GalleyRoom", name := "compare", desc := "(I)I" } : Jvm.MethodName)) ∈ lwG := lwG_5 (List.mem_of_getElem? (i := 55) rfl) rfl
theorem wl8_6 : (Cond.instanceMethod ({ cls := "GalleyRoomModel", name := "compare", desc := "(I)I" } : Jvm.MethodName)) ∈ lwG := lwG_8 (List.mem_of_getElem? (i := 6) rfl) rfl
theorem wl5_56 : (Cond.selects "GalleyRoom" ({ cls := "GalleyRoom", name := "compare", desc := "(I)I" } : Jvm.MethodName) ({ cls := "GalleyRoom", name := "compare", desc := "(I)I" } : Jvm.MethodName)) ∈ lwG := lwG_5 (List.mem_of_getElem? (i := 56) rfl) rfl
theorem wl8_7 : (Cond.selects "GalleyRoomModel" ({ cls := "GalleyRoomModel", name := "compare", desc := "(I)I" } : Jvm.MethodName) ({ cls := "GalleyRoomModel", name := "compare", desc := "(I)I" } : Jvm.MethodName)) ∈ lwG := lwG_8 (List.mem_of_getElem? (i := 7) rfl) rfl
theorem wl5_59 : (Cond.methodLink "GalleyRoomLaw" (156 : Nat) ({ cls := "GalleyRoom", name := "weeks", desc := "(II)I" } : Jvm.MethodName)) ∈ lwG := lwG_5 (List.mem_of_getElem? (i := 59) rfl) rfl
theorem wl5_62 : (Cond.code ({ cls := "GalleyRoom", name := "weeks", desc := "(II)I" } : Jvm.MethodName) prog_1_method_36_code (8 : Nat) (Option.some Jvm.ClassFile.FieldType.int)) ∈ lwG := lwG_5 (List.mem_of_getElem? (i := 62) rfl) rfl
theorem wl8_141 : (Cond.methodLink "GalleyRoomLaw" (159 : Nat) ({ cls := "GalleyRoomModel", name := "weeks", desc := "(II)I" } : Jvm.MethodName)) ∈ lwG := lwG_8 (List.mem_of_getElem? (i := 141) rfl) rfl
theorem wl8_144 : (Cond.code ({ cls := "GalleyRoomModel", name := "weeks", desc := "(II)I" } : Jvm.MethodName) prog_12_method_146_code (5 : Nat) (Option.some Jvm.ClassFile.FieldType.int)) ∈ lwG := lwG_8 (List.mem_of_getElem? (i := 144) rfl) rfl
theorem wl5_60 : (Cond.instanceMethod ({ cls := "GalleyRoom", name := "weeks", desc := "(II)I" } : Jvm.MethodName)) ∈ lwG := lwG_5 (List.mem_of_getElem? (i := 60) rfl) rfl
theorem wl8_142 : (Cond.instanceMethod ({ cls := "GalleyRoomModel", name := "weeks", desc := "(II)I" } : Jvm.MethodName)) ∈ lwG := lwG_8 (List.mem_of_getElem? (i := 142) rfl) rfl
theorem wl5_61 : (Cond.selects "GalleyRoom" ({ cls := "GalleyRoom", name := "weeks", desc := "(II)I" } : Jvm.MethodName) ({ cls := "GalleyRoom", name := "weeks", desc := "(II)I" } : Jvm.MethodName)) ∈ lwG := lwG_5 (List.mem_of_getElem? (i := 61) rfl) rfl
theorem wl8_143 : (Cond.selects "GalleyRoomModel" ({ cls := "GalleyRoomModel", name := "weeks", desc := "(II)I" } : Jvm.MethodName) ({ cls := "GalleyRoomModel", name := "weeks", desc := "(II)I" } : Jvm.MethodName)) ∈ lwG := lwG_8 (List.mem_of_getElem? (i := 143) rfl) rfl
theorem wl5_70 : (Cond.methodLink "GalleyRoomLaw" (160 : Nat) ({ cls := "GalleyRoom", name := "drawn", desc := "(II)I" } : Jvm.MethodName)) ∈ lwG := lwG_5 (List.mem_of_getElem? (i := 70) rfl) rfl
theorem wl5_73 : (Cond.code ({ cls := "GalleyRoom", name := "drawn", desc := "(II)I" } : Jvm.MethodName) prog_1_method_37_code (3 : Nat) (Option.some Jvm.ClassFile.FieldType.int)) ∈ lwG := lwG_5 (List.mem_of_getElem? (i := 73) rfl) rfl
theorem wl8_156 : (Cond.methodLink "GalleyRoomLaw" (163 : Nat) ({ cls := "GalleyRoomModel", name := "drawn", desc := "(II)I" } : Jvm.MethodName)) ∈ lwG := lwG_8 (List.mem_of_getElem? (i := 156) rfl) rfl
theorem wl8_159 : (Cond.code ({ cls := "GalleyRoomModel", name := "drawn", desc := "(II)I" } : Jvm.MethodName) prog_12_method_147_code (3 : Nat) (Option.some Jvm.ClassFile.FieldType.int)) ∈ lwG := lwG_8 (List.mem_of_getElem? (i := 159) rfl) rfl
theorem wl5_71 : (Cond.instanceMethod ({ cls := "GalleyRoom", name := "drawn", desc := "(II)I" } : Jvm.MethodName)) ∈ lwG := lwG_5 (List.mem_of_getElem? (i := 71) rfl) rfl
theorem wl8_157 : (Cond.instanceMethod ({ cls := "GalleyRoomModel", name := "drawn", desc := "(II)I" } : Jvm.MethodName)) ∈ lwG := lwG_8 (List.mem_of_getElem? (i := 157) rfl) rfl
theorem wl5_72 : (Cond.selects "GalleyRoom" ({ cls := "GalleyRoom", name := "drawn", desc := "(II)I" } : Jvm.MethodName) ({ cls := "GalleyRoom", name := "drawn", desc := "(II)I" } : Jvm.MethodName)) ∈ lwG := lwG_5 (List.mem_of_getElem? (i := 72) rfl) rfl
theorem wl8_158 : (Cond.selects "GalleyRoomModel" ({ cls := "GalleyRoomModel", name := "drawn", desc := "(II)I" } : Jvm.MethodName) ({ cls := "GalleyRoomModel", name := "drawn", desc := "(II)I" } : Jvm.MethodName)) ∈ lwG := lwG_8 (List.mem_of_getElem? (i := 158) rfl) rfl
theorem wl5_74 : (Cond.methodLink "GalleyRoomLaw" (164 : Nat) ({ cls := "GalleyRoom", name := "image", desc := "(I)I" } : Jvm.MethodName)) ∈ lwG := lwG_5 (List.mem_of_getElem? (i := 74) rfl) rfl
theorem wl5_77 : (Cond.code ({ cls := "GalleyRoom", name := "image", desc := "(I)I" } : Jvm.MethodName) prog_1_method_38_code (2 : Nat) (Option.some Jvm.ClassFile.FieldType.int)) ∈ lwG := lwG_5 (List.mem_of_getElem? (i := 77) rfl) rfl
theorem wl6_69 : (Cond.methodLink "GalleyRoomLaw" (167 : Nat) ({ cls := "GalleyRoomModel", name := "image", desc := "(I)I" } : Jvm.MethodName)) ∈ lwG := lwG_6 (List.mem_of_getElem? (i := 69) rfl) rfl
theorem wl6_72 : (Cond.code ({ cls := "GalleyRoomModel", name := "image", desc := "(I)I" } : Jvm.MethodName) prog_12_method_12_code (3 : Nat) (Option.some Jvm.ClassFile.FieldType.int)) ∈ lwG := lwG_6 (List.mem_of_getElem? (i := 72) rfl) rfl
theorem wl5_75 : (Cond.instanceMethod ({ cls := "GalleyRoom", name := "image", desc := "(I)I" } : Jvm.MethodName)) ∈ lwG := lwG_5 (List.mem_of_getElem? (i := 75) rfl) rfl
theorem wl6_70 : (Cond.instanceMethod ({ cls := "GalleyRoomModel", name := "image", desc := "(I)I" } : Jvm.MethodName)) ∈ lwG := lwG_6 (List.mem_of_getElem? (i := 70) rfl) rfl
theorem wl5_76 : (Cond.selects "GalleyRoom" ({ cls := "GalleyRoom", name := "image", desc := "(I)I" } : Jvm.MethodName) ({ cls := "GalleyRoom", name := "image", desc := "(I)I" } : Jvm.MethodName)) ∈ lwG := lwG_5 (List.mem_of_getElem? (i := 76) rfl) rfl
theorem wl6_71 : (Cond.selects "GalleyRoomModel" ({ cls := "GalleyRoomModel", name := "image", desc := "(I)I" } : Jvm.MethodName) ({ cls := "GalleyRoomModel", name := "image", desc := "(I)I" } : Jvm.MethodName)) ∈ lwG := lwG_6 (List.mem_of_getElem? (i := 71) rfl) rfl
theorem wl5_78 : (Cond.methodLink "GalleyRoomLaw" (168 : Nat) ({ cls := "GalleyRoom", name := "back", desc := "(I)I" } : Jvm.MethodName)) ∈ lwG := lwG_5 (List.mem_of_getElem? (i := 78) rfl) rfl
theorem wl5_81 : (Cond.code ({ cls := "GalleyRoom", name := "back", desc := "(I)I" } : Jvm.MethodName) prog_1_method_39_code (2 : Nat) (Option.some Jvm.ClassFile.FieldType.int)) ∈ lwG := lwG_5 (List.mem_of_getElem? (i := 81) rfl) rfl
theorem wl6_84 : (Cond.methodLink "GalleyRoomLaw" (171 : Nat) ({ cls := "GalleyRoomModel", name := "back", desc := "(I)I" } : Jvm.MethodName)) ∈ lwG := lwG_6 (List.mem_of_getElem? (i := 84) rfl) rfl
theorem wl6_87 : (Cond.code ({ cls := "GalleyRoomModel", name := "back", desc := "(I)I" } : Jvm.MethodName) prog_12_method_13_code (3 : Nat) (Option.some Jvm.ClassFile.FieldType.int)) ∈ lwG := lwG_6 (List.mem_of_getElem? (i := 87) rfl) rfl
theorem wl5_79 : (Cond.instanceMethod ({ cls := "GalleyRoom", name := "back", desc := "(I)I" } : Jvm.MethodName)) ∈ lwG := lwG_5 (List.mem_of_getElem? (i := 79) rfl) rfl
theorem wl6_85 : (Cond.instanceMethod ({ cls := "GalleyRoomModel", name := "back", desc := "(I)I" } : Jvm.MethodName)) ∈ lwG := lwG_6 (List.mem_of_getElem? (i := 85) rfl) rfl
theorem wl5_80 : (Cond.selects "GalleyRoom" ({ cls := "GalleyRoom", name := "back", desc := "(I)I" } : Jvm.MethodName) ({ cls := "GalleyRoom", name := "back", desc := "(I)I" } : Jvm.MethodName)) ∈ lwG := lwG_5 (List.mem_of_getElem? (i := 80) rfl) rfl
theorem wl6_86 : (Cond.selects "GalleyRoomModel" ({ cls := "GalleyRoomModel", name := "back", desc := "(I)I" } : Jvm.MethodName) ({ cls := "GalleyRoomModel", name := "back", desc := "(I)I" } : Jvm.MethodName)) ∈ lwG := lwG_6 (List.mem_of_getElem? (i := 86) rfl) rfl
theorem wl5_82 : (Cond.methodLink "GalleyRoomLaw" (172 : Nat) ({ cls := "GalleyRoom", name := "count", desc := "(I)I" } : Jvm.MethodName)) ∈ lwG := lwG_5 (List.mem_of_getElem? (i := 82) rfl) rfl
theorem wl5_85 : (Cond.code ({ cls := "GalleyRoom", name := "count", desc := "(I)I" } : Jvm.MethodName) prog_1_method_40_code (2 : Nat) (Option.some Jvm.ClassFile.FieldType.int)) ∈ lwG := lwG_5 (List.mem_of_getElem? (i := 85) rfl) rfl
theorem wl8_160 : (Cond.methodLink "GalleyRoomLaw" (175 : Nat) ({ cls := "GalleyRoomModel", name := "count", desc := "(I)I" } : Jvm.MethodName)) ∈ lwG := lwG_8 (List.mem_of_getElem? (i := 160) rfl) rfl
theorem wl8_163 : (Cond.code ({ cls := "GalleyRoomModel", name := "count", desc := "(I)I" } : Jvm.MethodName) prog_12_method_148_code (2 : Nat) (Option.some Jvm.ClassFile.FieldType.int)) ∈ lwG := lwG_8 (List.mem_of_getElem? (i := 163) rfl) rfl
theorem wl5_83 : (Cond.instanceMethod ({ cls := "GalleyRoom", name := "count", desc := "(I)I" } : Jvm.MethodName)) ∈ lwG := lwG_5 (List.mem_of_getElem? (i := 83) rfl) rfl
theorem wl8_161 : (Cond.instanceMethod ({ cls := "GalleyRoomModel", name := "count", desc := "(I)I" } : Jvm.MethodName)) ∈ lwG := lwG_8 (List.mem_of_getElem? (i := 161) rfl) rfl
theorem wl5_84 : (Cond.selects "GalleyRoom" ({ cls := "GalleyRoom", name := "count", desc := "(I)I" } : Jvm.MethodName) ({ cls := "GalleyRoom", name := "count", desc := "(I)I" } : Jvm.MethodName)) ∈ lwG := lwG_5 (List.mem_of_getElem? (i := 84) rfl) rfl
theorem wl8_162 : (Cond.selects "GalleyRoomModel" ({ cls := "GalleyRoomModel", name := "count", desc := "(I)I" } : Jvm.MethodName) ({ cls := "GalleyRoomModel", name := "count", desc := "(I)I" } : Jvm.MethodName)) ∈ lwG := lwG_8 (List.mem_of_getElem? (i := 162) rfl) rfl
theorem wl5_86 : (Cond.methodLink "GalleyRoomLaw" (176 : Nat) ({ cls := "GalleyRoom", name := "status", desc := "()I" } : Jvm.MethodName)) ∈ lwG := lwG_5 (List.mem_of_getElem? (i := 86) rfl) rfl
theorem wl5_89 : (Cond.code ({ cls := "GalleyRoom", name := "status", desc := "()I" } : Jvm.MethodName) prog_1_method_41_code (1 : Nat) (Option.some Jvm.ClassFile.FieldType.int)) ∈ lwG := lwG_5 (List.mem_of_getElem? (i := 89) rfl) rfl
theorem wl8_164 : (Cond.methodLink "GalleyRoomLaw" (179 : Nat) ({ cls := "GalleyRoomModel", name := "status", desc := "()I" } : Jvm.MethodName)) ∈ lwG := lwG_8 (List.mem_of_getElem? (i := 164) rfl) rfl
theorem wl8_167 : (Cond.code ({ cls := "GalleyRoomModel", name := "status", desc := "()I" } : Jvm.MethodName) prog_12_method_149_code (1 : Nat) (Option.some Jvm.ClassFile.FieldType.int)) ∈ lwG := lwG_8 (List.mem_of_getElem? (i := 167) rfl) rfl
theorem wl5_87 : (Cond.instanceMethod ({ cls := "GalleyRoom", name := "status", desc := "()I" } : Jvm.MethodName)) ∈ lwG := lwG_5 (List.mem_of_getElem? (i := 87) rfl) rfl
theorem wl8_165 : (Cond.instanceMethod ({ cls := "GalleyRoomModel", name := "status", desc := "()I" } : Jvm.MethodName)) ∈ lwG := lwG_8 (List.mem_of_getElem? (i := 165) rfl) rfl
theorem wl5_88 : (Cond.selects "GalleyRoom" ({ cls := "GalleyRoom", name := "status", desc := "()I" } : Jvm.MethodName) ({ cls := "GalleyRoom", name := "status", desc := "()I" } : Jvm.MethodName)) ∈ lwG := lwG_5 (List.mem_of_getElem? (i := 88) rfl) rfl
theorem wl8_166 : (Cond.selects "GalleyRoomModel" ({ cls := "GalleyRoomModel", name := "status", desc := "()I" } : Jvm.MethodName) ({ cls := "GalleyRoomModel", name := "status", desc := "()I" } : Jvm.MethodName)) ∈ lwG := lwG_8 (List.mem_of_getElem? (i := 166) rfl) rfl
theorem cwl_13 : g_Cw R_law 13 M_x9_word yX9_word 3 := ⟨wl2_177, wl2_180, wl1_1, ⟨by decide, by decide⟩, by decide +kernel⟩
theorem cwl_17 : g_Cw R_law 17 M_m_word yX10_word 3 := ⟨wl6_92, wl6_95, wl1_12, ⟨by decide, by decide⟩, by decide +kernel⟩
theorem cwl_18 : g_Cw R_law 18 M_x9_of yX9_of 2 := ⟨wl2_196, wl2_199, wl1_1, ⟨by decide, by decide⟩, by decide +kernel⟩
theorem cwl_22 : g_Cw R_law 22 M_m_of yX10_of 2 := ⟨wl6_103, wl6_106, wl1_12, ⟨by decide, by decide⟩, by decide +kernel⟩
theorem cwl_23 : g_Cw R_law 23 M_x9_line yX9_line 2 := ⟨wl2_213, wl2_216, wl1_1, ⟨by decide, by decide⟩, by decide +kernel⟩
theorem cwl_26 : g_Cw R_law 26 M_m_line yX10_line 2 := ⟨wl7_22, wl7_25, wl1_12, ⟨by decide, by decide⟩, by decide +kernel⟩
theorem cwl_27 : g_Cw R_law 27 M_x9_all yX9_all 1 := ⟨wl3_43, wl3_46, wl1_1, ⟨by decide, by decide⟩, by decide +kernel⟩
theorem cwl_31 : g_Cw R_law 31 M_m_all yX10_all 1 := ⟨wl7_94, wl7_97, wl1_12, ⟨by decide, by decide⟩, by decide +kernel⟩
theorem cwl_32 : g_Cw R_law 32 M_x9_terms yX9_terms 2 := ⟨wl3_52, wl3_55, wl1_1, ⟨by decide, by decide⟩, by decide +kernel⟩
theorem cwl_35 : g_Cw R_law 35 M_m_terms yX10_terms 2 := ⟨wl6_126, wl6_129, wl1_12, ⟨by decide, by decide⟩, by decide +kernel⟩
theorem cwl_36 : g_Cw R_law 36 M_x9_feed yX9_feed 5 := ⟨wl3_60, wl3_63, wl1_1, ⟨by decide, by decide⟩, by decide +kernel⟩
theorem cwl_40 : g_Cw R_law 40 M_m_feed yX10_feed 5 := ⟨wl6_144, wl6_147, wl1_12, ⟨by decide, by decide⟩, by decide +kernel⟩
theorem cwl_41 : g_Cw R_law 41 M_x9_end yX9_end 1 := ⟨wl3_68, wl3_71, wl1_1, ⟨by decide, by decide⟩, by decide +kernel⟩
theorem cwl_44 : g_Cw R_law 44 M_m_end yX10_end 1 := ⟨wl6_148, wl6_151, wl1_12, ⟨by decide, by decide⟩, by decide +kernel⟩
theorem cwl_45 : g_Cw R_law 45 M_x9_row yX9_row 0 := ⟨wl3_72, wl3_75, wl1_1, ⟨by decide, by decide⟩, by decide +kernel⟩
theorem cwl_49 : g_Cw R_law 49 M_m_row yX10_row 0 := ⟨wl6_136, wl6_139, wl1_12, ⟨by decide, by decide⟩, by decide +kernel⟩
theorem cwl_50 : g_Cw R_law 50 M_x9_turned yX9_turned 0 := ⟨wl3_80, wl3_83, wl1_1, ⟨by decide, by decide⟩, by decide +kernel⟩
theorem cwl_53 : g_Cw R_law 53 M_m_turned yX10_turned 0 := ⟨wl6_140, wl6_143, wl1_12, ⟨by decide, by decide⟩, by decide +kernel⟩
theorem cwl_54 : g_Cw R_law 54 M_x9_law yX9_law 0 := ⟨wl3_84, wl3_87, wl1_1, ⟨by decide, by decide⟩, by decide +kernel⟩
theorem cwl_57 : g_Cw R_law 57 M_m_law yX10_law 0 := ⟨wl6_152, wl6_155, wl1_12, ⟨by decide, by decide⟩, by decide +kernel⟩
theorem cwl_58 : g_Cw R_law 58 M_x9_orders yX9_orders 0 := ⟨wl4_12, wl4_15, wl1_1, ⟨by decide, by decide⟩, by decide +kernel⟩
theorem cwl_61 : g_Cw R_law 61 M_m_orders yX10_orders 0 := ⟨wl8_65, wl8_68, wl1_12, ⟨by decide, by decide⟩, by decide +kernel⟩
theorem cwl_62 : g_Cw R_law 62 M_x9_fault yX9_fault 0 := ⟨wl4_77, wl4_80, wl1_1, ⟨by decide, by decide⟩, by decide +kernel⟩
theorem cwl_65 : g_Cw R_law 65 M_m_fault yX10_fault 0 := ⟨wl7_10, wl7_13, wl1_12, ⟨by decide, by decide⟩, by decide +kernel⟩
theorem cwl_66 : g_Cw R_law 66 M_x9_stopped yX9_stopped 0 := ⟨wl4_81, wl4_84, wl1_1, ⟨by decide, by decide⟩, by decide +kernel⟩
theorem cwl_69 : g_Cw R_law 69 M_m_stopped yX10_stopped 0 := ⟨wl8_61, wl8_64, wl1_12, ⟨by decide, by decide⟩, by decide +kernel⟩
theorem cwl_70 : g_Cw R_law 70 M_x9_force yX9_force 1 := ⟨wl4_85, wl4_88, wl1_1, ⟨by decide, by decide⟩, by decide +kernel⟩
theorem cwl_73 : g_Cw R_law 73 M_m_force yX10_force 1 := ⟨wl7_14, wl7_17, wl1_12, ⟨by decide, by decide⟩, by decide +kernel⟩
theorem cwl_74 : g_Cw R_law 74 M_x9_stop yX9_stop 1 := ⟨wl4_93, wl4_96, wl1_1, ⟨by decide, by decide⟩, by decide +kernel⟩
theorem cwl_77 : g_Cw R_law 77 M_m_stop yX10_stop 1 := ⟨wl7_106, wl7_109, wl1_12, ⟨by decide, by decide⟩, by decide +kernel⟩
theorem cwl_78 : g_Cw R_law 78 M_x9_split yX9_split 1 := ⟨wl4_98, wl4_101, wl1_1, ⟨by decide, by decide⟩, by decide +kernel⟩
theorem cwl_81 : g_Cw R_law 81 M_m_split yX10_split 1 := ⟨wl7_122, wl7_125, wl1_12, ⟨by decide, by decide⟩, by decide +kernel⟩
theorem cwl_82 : g_Cw R_law 82 M_x9_swell yX9_swell 2 := ⟨wl4_102, wl4_105, wl1_1, ⟨by decide, by decide⟩, by decide +kernel⟩
theorem cwl_85 : g_Cw R_law 85 M_m_swell yX10_swell 2 := ⟨wl7_130, wl7_133, wl1_12, ⟨by decide, by decide⟩, by decide +kernel⟩
theorem cwl_86 : g_Cw R_law 86 M_x9_pass yX9_pass 0 := ⟨wl4_107, wl4_110, wl1_1, ⟨by decide, by decide⟩, by decide +kernel⟩
theorem cwl_89 : g_Cw R_law 89 M_m_pass yX10_pass 0 := ⟨wl7_142, wl7_145, wl1_12, ⟨by decide, by decide⟩, by decide +kernel⟩
theorem cwl_90 : g_Cw R_law 90 M_x9_undo yX9_undo 0 := ⟨wl4_117, wl4_120, wl1_1, ⟨by decide, by decide⟩, by decide +kernel⟩
theorem cwl_93 : g_Cw R_law 93 M_m_undo yX10_undo 0 := ⟨wl7_102, wl7_105, wl1_12, ⟨by decide, by decide⟩, by decide +kernel⟩
theorem cwl_94 : g_Cw R_law 94 M_x9_best yX9_best 1 := ⟨wl4_126, wl4_129, wl1_1, ⟨by decide, by decide⟩, by decide +kernel⟩
theorem cwl_97 : g_Cw R_law 97 M_m_best yX10_best 1 := ⟨wl7_150, wl7_153, wl1_12, ⟨by decide, by decide⟩, by decide +kernel⟩
theorem cwl_98 : g_Cw R_law 98 M_x9_just yX9_just 1 := ⟨wl4_180, wl4_183, wl1_1, ⟨by decide, by decide⟩, by decide +kernel⟩
theorem cwl_101 : g_Cw R_law 101 M_m_just yX10_just 1 := ⟨wl7_192, wl7_195, wl1_12, ⟨by decide, by decide⟩, by decide +kernel⟩
theorem cwl_102 : g_Cw R_law 102 M_x9_fewest yX9_fewest 0 := ⟨wl4_188, wl4_191, wl1_1, ⟨by decide, by decide⟩, by decide +kernel⟩
theorem cwl_105 : g_Cw R_law 105 M_m_fewest yX10_fewest 0 := ⟨wl7_213, wl7_216, wl1_12, ⟨by decide, by decide⟩, by decide +kernel⟩
theorem cwl_106 : g_Cw R_law 106 M_x9_most yX9_most 0 := ⟨wl4_196, wl4_199, wl1_1, ⟨by decide, by decide⟩, by decide +kernel⟩
theorem cwl_109 : g_Cw R_law 109 M_m_most yX10_most 0 := ⟨wl7_217, wl7_220, wl1_12, ⟨by decide, by decide⟩, by decide +kernel⟩
theorem cwl_110 : g_Cw R_law 110 M_x9_ways yX9_ways 0 := ⟨wl4_200, wl4_203, wl1_1, ⟨by decide, by decide⟩, by decide +kernel⟩
theorem cwl_114 : g_Cw R_law 114 M_m_ways yX10_ways 0 := ⟨wl7_221, wl7_224, wl1_12, ⟨by decide, by decide⟩, by decide +kernel⟩
theorem cwl_115 : g_Cw R_law 115 M_x9_richest yX9_richest 0 := ⟨wl4_208, wl4_211, wl1_1, ⟨by decide, by decide⟩, by decide +kernel⟩
theorem cwl_118 : g_Cw R_law 118 M_m_richest yX10_richest 0 := ⟨wl7_225, wl7_228, wl1_12, ⟨by decide, by decide⟩, by decide +kernel⟩
theorem cwl_119 : g_Cw R_law 119 M_x9_narrow yX9_narrow 1 := ⟨wl4_216, wl4_219, wl1_1, ⟨by decide, by decide⟩, by decide +kernel⟩
theorem cwl_122 : g_Cw R_law 122 M_m_narrow yX10_narrow 1 := ⟨wl7_229, wl7_232, wl1_12, ⟨by decide, by decide⟩, by decide +kernel⟩
theorem cwl_123 : g_Cw R_law 123 M_x9_leaveOut yX9_leaveOut 1 := ⟨wl4_225, wl4_228, wl1_1, ⟨by decide, by decide⟩, by decide +kernel⟩
theorem cwl_126 : g_Cw R_law 126 M_m_leaveOut yX10_leaveOut 1 := ⟨wl7_237, wl8_0, wl1_12, ⟨by decide, by decide⟩, by decide +kernel⟩
theorem cwl_127 : g_Cw R_law 127 M_x9_river yX9_river 0 := ⟨wl4_234, wl4_237, wl1_1, ⟨by decide, by decide⟩, by decide +kernel⟩
theorem cwl_130 : g_Cw R_law 130 M_m_river yX10_river 0 := ⟨wl8_9, wl8_12, wl1_12, ⟨by decide, by decide⟩, by decide +kernel⟩
theorem cwl_131 : g_Cw R_law 131 M_x9_seen yX9_seen 2 := ⟨wl5_11, wl5_14, wl1_1, ⟨by decide, by decide⟩, by decide +kernel⟩
theorem cwl_134 : g_Cw R_law 134 M_m_seen yX10_seen 2 := ⟨wl8_25, wl8_28, wl1_12, ⟨by decide, by decide⟩, by decide +kernel⟩
theorem cwl_135 : g_Cw R_law 135 M_x9_forget yX9_forget 0 := ⟨wl5_17, wl5_20, wl1_1, ⟨by decide, by decide⟩, by decide +kernel⟩
theorem cwl_138 : g_Cw R_law 138 M_m_forget yX10_forget 0 := ⟨wl8_29, wl8_32, wl1_12, ⟨by decide, by decide⟩, by decide +kernel⟩
theorem cwl_139 : g_Cw R_law 139 M_x9_canBe yX9_canBe 0 := ⟨wl5_21, wl5_24, wl1_1, ⟨by decide, by decide⟩, by decide +kernel⟩
theorem cwl_142 : g_Cw R_law 142 M_m_canBe yX10_canBe 0 := ⟨wl8_33, wl8_36, wl1_12, ⟨by decide, by decide⟩, by decide +kernel⟩
theorem cwl_143 : g_Cw R_law 143 M_x9_look yX9_look 1 := ⟨wl5_38, wl5_41, wl1_1, ⟨by decide, by decide⟩, by decide +kernel⟩
theorem cwl_146 : g_Cw R_law 146 M_m_look yX10_look 1 := ⟨wl8_45, wl8_48, wl1_12, ⟨by decide, by decide⟩, by decide +kernel⟩
theorem cwl_147 : g_Cw R_law 147 M_x9_few yX9_few 2 := ⟨wl5_46, wl5_49, wl1_1, ⟨by decide, by decide⟩, by decide +kernel⟩
theorem cwl_151 : g_Cw R_law 151 M_m_few yX10_few 2 := ⟨wl8_54, wl8_57, wl1_12, ⟨by decide, by decide⟩, by decide +kernel⟩
theorem cwl_152 : g_Cw R_law 152 M_x9_compare yX9_compare 1 := ⟨wl5_54, wl5_57, wl1_1, ⟨by decide, by decide⟩, by decide +kernel⟩
theorem cwl_155 : g_Cw R_law 155 M_m_compare yX10_compare 1 := ⟨wl8_5, wl8_8, wl1_12, ⟨by decide, by decide⟩, by decide +kernel⟩
theorem cwl_156 : g_Cw R_law 156 M_x9_weeks yX9_weeks 2 := ⟨wl5_59, wl5_62, wl1_1, ⟨by decide, by decide⟩, by decide +kernel⟩
theorem cwl_159 : g_Cw R_law 159 M_m_weeks yX10_weeks 2 := ⟨wl8_141, wl8_144, wl1_12, ⟨by decide, by decide⟩, by decide +kernel⟩
theorem cwl_160 : g_Cw R_law 160 M_x9_drawn yX9_drawn 2 := ⟨wl5_70, wl5_73, wl1_1, ⟨by decide, by decide⟩, by decide +kernel⟩
theorem cwl_163 : g_Cw R_law 163 M_m_drawn yX10_drawn 2 := ⟨wl8_156, wl8_159, wl1_12, ⟨by decide, by decide⟩, by decide +kernel⟩
theorem cwl_164 : g_Cw R_law 164 M_x9_image yX9_image 1 := ⟨wl5_74, wl5_77, wl1_1, ⟨by decide, by decide⟩, by decide +kernel⟩
theorem cwl_167 : g_Cw R_law 167 M_m_image yX10_image 1 := ⟨wl6_69, wl6_72, wl1_12, ⟨by decide, by decide⟩, by decide +kernel⟩
theorem cwl_168 : g_Cw R_law 168 M_x9_back yX9_back 1 := ⟨wl5_78, wl5_81, wl1_1, ⟨by decide, by decide⟩, by decide +kernel⟩
theorem cwl_171 : g_Cw R_law 171 M_m_back yX10_back 1 := ⟨wl6_84, wl6_87, wl1_12, ⟨by decide, by decide⟩, by decide +kernel⟩
theorem cwl_172 : g_Cw R_law 172 M_x9_count yX9_count 1 := ⟨wl5_82, wl5_85, wl1_1, ⟨by decide, by decide⟩, by decide +kernel⟩
theorem cwl_175 : g_Cw R_law 175 M_m_count yX10_count 1 := ⟨wl8_160, wl8_163, wl1_12, ⟨by decide, by decide⟩, by decide +kernel⟩
theorem cwl_176 : g_Cw R_law 176 M_x9_status yX9_status 0 := ⟨wl5_86, wl5_89, wl1_1, ⟨by decide, by decide⟩, by decide +kernel⟩
theorem cwl_179 : g_Cw R_law 179 M_m_status yX10_status 0 := ⟨wl8_164, wl8_167, wl1_12, ⟨by decide, by decide⟩, by decide +kernel⟩
set_option maxRecDepth 20000 in
theorem lc_0 {p : Program} {l : Launch} {e : Env} {s : State} {m : MethodId} {below : List Frame} {meth : Method} {c : Code} {b L : Nat} {xs : Nat → Int32} {w : g_W} {H : Heap} {locs : List Loc} {cells slots : Nat} {lsA : Array Slot} {Q : State → Prop} {σ : Sg} {x3 : Int32} (C : lw_C p s m c b L xs w) (hI : Inv σ σ) (hR : g_Rep w σ H) (hS : va_S (wA w) s.heap H locs) (hwf : g_wf w σ) (hlv : lv_has lsA 4 [(3, .int x3), (2, .ref (wr w 10 0)), (1, .ref (wr w 9 0)), (0, .ref b)]) (hx : lw_ix x3 L) (hc : cells + 7 ≤ 600000) (hs : slots + 600 ≤ 7302250)
    (kk : ∀ (σ2 : Sg) (H1 : Heap) (locs1 : List Loc), Inv σ2 σ2 → g_Rep w σ2 H1 → va_S (wA w) s.heap H1 locs1 → g_wf w σ2 → W p l e room_1 s m #[Value.ref b] below meth c H1 locs1 (cells + 7) (slots + 600) Q (F0 m 1110 lsA [])) :
    W p l e room_1 s m #[Value.ref b] below meth c H locs cells slots Q (F0 m 208 lsA []) := by
  have C0 := C
  obtain ⟨c1, c2, c3, c6, c7, c8, c9, ck, c14, cX, cb, cA⟩ := C0
  obtain ⟨x1, x2, x3', x4, x5⟩ := hx
  obtain ⟨s1, s2, r, ex, em, I2⟩ := lw_join (Lx := (FP_x9_word)) (Lm := FP_m_word) (m := fun t => m_word t (xs (x3 + 1).toNatClampNeg) (xs (x3 + 2).toNatClampNeg) (xs (x3 + 3).toNatClampNeg)) hI (fun sm I => c_word I (xs (x3 + 1).toNatClampNeg) (xs (x3 + 2).toNatClampNeg) (xs (x3 + 3).toNatClampNeg)) rfl (fr_x9_word _ _ _ _) rfl (fun t => fr_m_word t _ _ _)
  have hM0 : g_Mt l yX9_word M_x9_word w σ [.inr (.inr (some (9, 0))), .inl (xs (x3 + 1).toNatClampNeg), .inl (xs (x3 + 2).toNatClampNeg), .inl (xs (x3 + 3).toNatClampNeg)] s1 (some (.inl r)) := by
    obtain ⟨σ', v, k1, k2⟩ := h_x9_word l w c9 σ [.inr (.inr (some (9, 0))), .inl (xs (x3 + 1).toNatClampNeg), .inl (xs (x3 + 2).toNatClampNeg), .inl (xs (x3 + 3).toNatClampNeg)] rfl hwf (lw_ok (t := [(xs (x3 + 1).toNatClampNeg), (xs (x3 + 2).toNatClampNeg), (xs (x3 + 3).toNatClampNeg)]) (lw_v9 ck)) (Sg × Int32) retI (s1, r) (by
      show (x9_word σ (xs (x3 + 1).toNatClampNeg) (xs (x3 + 2).toNatClampNeg) (xs (x3 + 3).toNatClampNeg)).bind (fun q => retI q.1 (some (.inl q.2))) = some (s1, r)
      have e9 : x9_word σ (xs (x3 + 1).toNatClampNeg) (xs (x3 + 2).toNatClampNeg) (xs (x3 + 3).toNatClampNeg) = some (s1, r) := ex
      rw [e9]
      rfl)
    obtain ⟨rfl, rfl⟩ := retI_inv k1
    exact k2
  refine lv_aload_n (k := 1) c1 c2 (by decide +kernel) rfl (lv_at hlv 2 rfl) ?_
  refine lv_aload_n (k := 0) c1 c2 (by decide +kernel) rfl (lv_at hlv 3 rfl) ?_
  refine lv_iload_n (k := 3) c1 c2 (by decide +kernel) rfl (lv_at hlv 0 rfl) ?_
  refine lv_iconst (n := 1) (v := 1) c1 c2 (by decide +kernel) (by decide +kernel) ?_
  refine lv_iadd c1 c2 (by decide +kernel) ?_
  refine va_sld c1 c2 cX cb cA hS x1 (by decide +kernel) ?_
  refine lv_aload_n (k := 0) c1 c2 (by decide +kernel) rfl (lv_at hlv 3 rfl) ?_
  refine lv_iload_n (k := 3) c1 c2 (by decide +kernel) rfl (lv_at hlv 0 rfl) ?_
  refine lv_iconst (n := 2) (v := 2) c1 c2 (by decide +kernel) (by decide +kernel) ?_
  refine lv_iadd c1 c2 (by decide +kernel) ?_
  refine va_sld c1 c2 cX cb cA hS x2 (by decide +kernel) ?_
  refine lv_aload_n (k := 0) c1 c2 (by decide +kernel) rfl (lv_at hlv 3 rfl) ?_
  refine lv_iload_n (k := 3) c1 c2 (by decide +kernel) rfl (lv_at hlv 0 rfl) ?_
  refine lv_iconst (n := 3) (v := 3) c1 c2 (by decide +kernel) (by decide +kernel) ?_
  refine lv_iadd c1 c2 (by decide +kernel) ?_
  refine va_sld c1 c2 cX cb cA hS x3' (by decide +kernel) ?_
  refine lw_call (ci := 9) (T := TX9) (as := [.inl (xs (x3 + 1).toNatClampNeg), .inl (xs (x3 + 2).toNatClampNeg), .inl (xs (x3 + 3).toNatClampNeg)]) (rest := []) C hM0 cwl_13 ⟨wl2_178, wl2_179⟩ ⟨rfl, rfl⟩ ⟨by decide, by decide⟩ hR hS (lw_v9 ck) rfl hlv.1 (Nat.le_of_ble_eq_true rfl) (by decide +kernel) ⟨by show cells + 7 * 0 ≤ _; omega, by show slots + 600 * 0 ≤ _; omega⟩ (fun H1 locs1 hR1 hS1 hwf1 => ?_)
  have hM1 : g_Mt l yX10_word M_m_word w s1 [.inr (.inr (some (10, 0))), .inl (xs (x3 + 1).toNatClampNeg), .inl (xs (x3 + 2).toNatClampNeg), .inl (xs (x3 + 3).toNatClampNeg)] s2 (some (.inl r)) := by
    obtain ⟨σ', v, k1, k2⟩ := h_m_word l w c9 s1 [.inr (.inr (some (10, 0))), .inl (xs (x3 + 1).toNatClampNeg), .inl (xs (x3 + 2).toNatClampNeg), .inl (xs (x3 + 3).toNatClampNeg)] rfl hwf1 (lw_ok (t := [(xs (x3 + 1).toNatClampNeg), (xs (x3 + 2).toNatClampNeg), (xs (x3 + 3).toNatClampNeg)]) (lw_v10 ck)) (Sg × Int32) retI (s2, r) (by
      show (m_word s1 (xs (x3 + 1).toNatClampNeg) (xs (x3 + 2).toNatClampNeg) (xs (x3 + 3).toNatClampNeg)).bind (fun q => retI q.1 (some (.inl q.2))) = some (s2, r)
      have e9 : m_word s1 (xs (x3 + 1).toNatClampNeg) (xs (x3 + 2).toNatClampNeg) (xs (x3 + 3).toNatClampNeg) = some (s2, r) := em
      rw [e9]
      rfl)
    obtain ⟨rfl, rfl⟩ := retI_inv k1
    exact k2
  refine W.eq (g2 := F0 m 227 lsA [.int r]) rfl ?_
  refine lv_aload_n (k := 2) c1 c2 (by decide +kernel) rfl (lv_at hlv 1 rfl) ?_
  refine lv_aload_n (k := 0) c1 c2 (by decide +kernel) rfl (lv_at hlv 3 rfl) ?_
  refine lv_iload_n (k := 3) c1 c2 (by decide +kernel) rfl (lv_at hlv 0 rfl) ?_
  refine lv_iconst (n := 1) (v := 1) c1 c2 (by decide +kernel) (by decide +kernel) ?_
  refine lv_iadd c1 c2 (by decide +kernel) ?_
  refine va_sld c1 c2 cX cb cA hS1 x1 (by decide +kernel) ?_
  refine lv_aload_n (k := 0) c1 c2 (by decide +kernel) rfl (lv_at hlv 3 rfl) ?_
  refine lv_iload_n (k := 3) c1 c2 (by decide +kernel) rfl (lv_at hlv 0 rfl) ?_
  refine lv_iconst (n := 2) (v := 2) c1 c2 (by decide +kernel) (by decide +kernel) ?_
  refine lv_iadd c1 c2 (by decide +kernel) ?_
  refine va_sld c1 c2 cX cb cA hS1 x2 (by decide +kernel) ?_
  refine lv_aload_n (k := 0) c1 c2 (by decide +kernel) rfl (lv_at hlv 3 rfl) ?_
  refine lv_iload_n (k := 3) c1 c2 (by decide +kernel) rfl (lv_at hlv 0 rfl) ?_
  refine lv_iconst (n := 3) (v := 3) c1 c2 (by decide +kernel) (by decide +kernel) ?_
  refine lv_iadd c1 c2 (by decide +kernel) ?_
  refine va_sld c1 c2 cX cb cA hS1 x3' (by decide +kernel) ?_
  refine lw_call (ci := 10) (T := TX10) (as := [.inl (xs (x3 + 1).toNatClampNeg), .inl (xs (x3 + 2).toNatClampNeg), .inl (xs (x3 + 3).toNatClampNeg)]) (rest := [.int r]) C hM1 cwl_17 ⟨wl6_93, wl6_94⟩ ⟨rfl, rfl⟩ ⟨by decide, by decide⟩ hR1 hS1 (lw_v10 ck) rfl hlv.1 (Nat.le_of_ble_eq_true rfl) (by decide +kernel) ⟨by show cells + 7 * 0 + 7 * 0 ≤ _; omega, by show slots + 600 * 0 + 600 * 0 ≤ _; omega⟩ (fun H2 locs2 hR2 hS2 hwf2 => ?_)
  refine W.eq (g2 := F0 m 246 lsA [.int r, .int r]) rfl ?_
  refine lv_icmp_eq (off := 864) (tgt := 1110) c1 c2 (by decide +kernel) (by decide) (fun _ => ?_) (fun q => absurd rfl q)
  refine W.widen (k := cells + 7) (n := slots + 600) (by show cells + 7 * 0 + 7 * 0 ≤ _; omega) (by show slots + 600 * 0 + 600 * 0 ≤ _; omega) ?_
  exact kk s2 _ _ I2 hR2 hS2 hwf2
set_option maxRecDepth 20000 in
theorem lc_1 {p : Program} {l : Launch} {e : Env} {s : State} {m : MethodId} {below : List Frame} {meth : Method} {c : Code} {b L : Nat} {xs : Nat → Int32} {w : g_W} {H : Heap} {locs : List Loc} {cells slots : Nat} {lsA : Array Slot} {Q : State → Prop} {σ : Sg} {x3 : Int32} (C : lw_C p s m c b L xs w) (hI : Inv σ σ) (hR : g_Rep w σ H) (hS : va_S (wA w) s.heap H locs) (hwf : g_wf w σ) (hlv : lv_has lsA 4 [(3, .int x3), (2, .ref (wr w 10 0)), (1, .ref (wr w 9 0)), (0, .ref b)]) (hx : lw_ix x3 L) (hc : cells + 7 ≤ 600000) (hs : slots + 600 ≤ 7302250)
    (kk : ∀ (σ2 : Sg) (H1 : Heap) (locs1 : List Loc), Inv σ2 σ2 → g_Rep w σ2 H1 → va_S (wA w) s.heap H1 locs1 → g_wf w σ2 → W p l e room_1 s m #[Value.ref b] below meth c H1 locs1 (cells + 7) (slots + 600) Q (F0 m 1110 lsA [])) :
    W p l e room_1 s m #[Value.ref b] below meth c H locs cells slots Q (F0 m 251 lsA []) := by
  have C0 := C
  obtain ⟨c1, c2, c3, c6, c7, c8, c9, ck, c14, cX, cb, cA⟩ := C0
  obtain ⟨x1, x2, x3', x4, x5⟩ := hx
  obtain ⟨s1, s2, r, ex, em, I2⟩ := lw_join (Lx := (FP_x9_of)) (Lm := FP_m_of) (m := fun t => m_of t (xs (x3 + 1).toNatClampNeg) (xs (x3 + 2).toNatClampNeg)) hI (fun sm I => c_of I (xs (x3 + 1).toNatClampNeg) (xs (x3 + 2).toNatClampNeg)) rfl (fr_x9_of _ _ _) rfl (fun t => fr_m_of t _ _)
  have hM0 : g_Mt l yX9_of M_x9_of w σ [.inr (.inr (some (9, 0))), .inl (xs (x3 + 1).toNatClampNeg), .inl (xs (x3 + 2).toNatClampNeg)] s1 (some (.inl r)) := by
    obtain ⟨σ', v, k1, k2⟩ := h_x9_of l w c9 σ [.inr (.inr (some (9, 0))), .inl (xs (x3 + 1).toNatClampNeg), .inl (xs (x3 + 2).toNatClampNeg)] rfl hwf (lw_ok (t := [(xs (x3 + 1).toNatClampNeg), (xs (x3 + 2).toNatClampNeg)]) (lw_v9 ck)) (Sg × Int32) retI (s1, r) (by
      show (x9_of σ (xs (x3 + 1).toNatClampNeg) (xs (x3 + 2).toNatClampNeg)).bind (fun q => retI q.1 (some (.inl q.2))) = some (s1, r)
      have e9 : x9_of σ (xs (x3 + 1).toNatClampNeg) (xs (x3 + 2).toNatClampNeg) = some (s1, r) := ex
      rw [e9]
      rfl)
    obtain ⟨rfl, rfl⟩ := retI_inv k1
    exact k2
  refine lv_aload_n (k := 1) c1 c2 (by decide +kernel) rfl (lv_at hlv 2 rfl) ?_
  refine lv_aload_n (k := 0) c1 c2 (by decide +kernel) rfl (lv_at hlv 3 rfl) ?_
  refine lv_iload_n (k := 3) c1 c2 (by decide +kernel) rfl (lv_at hlv 0 rfl) ?_
  refine lv_iconst (n := 1) (v := 1) c1 c2 (by decide +kernel) (by decide +kernel) ?_
  refine lv_iadd c1 c2 (by decide +kernel) ?_
  refine va_sld c1 c2 cX cb cA hS x1 (by decide +kernel) ?_
  refine lv_aload_n (k := 0) c1 c2 (by decide +kernel) rfl (lv_at hlv 3 rfl) ?_
  refine lv_iload_n (k := 3) c1 c2 (by decide +kernel) rfl (lv_at hlv 0 rfl) ?_
  refine lv_iconst (n := 2) (v := 2) c1 c2 (by decide +kernel) (by decide +kernel) ?_
  refine lv_iadd c1 c2 (by decide +kernel) ?_
  refine va_sld c1 c2 cX cb cA hS x2 (by decide +kernel) ?_
  refine lw_call (ci := 9) (T := TX9) (as := [.inl (xs (x3 + 1).toNatClampNeg), .inl (xs (x3 + 2).toNatClampNeg)]) (rest := []) C hM0 cwl_18 ⟨wl2_197, wl2_198⟩ ⟨rfl, rfl⟩ ⟨by decide, by decide⟩ hR hS (lw_v9 ck) rfl hlv.1 (Nat.le_of_ble_eq_true rfl) (by decide +kernel) ⟨by show cells + 7 * 0 ≤ _; omega, by show slots + 600 * 0 ≤ _; omega⟩ (fun H1 locs1 hR1 hS1 hwf1 => ?_)
  have hM1 : g_Mt l yX10_of M_m_of w s1 [.inr (.inr (some (10, 0))), .inl (xs (x3 + 1).toNatClampNeg), .inl (xs (x3 + 2).toNatClampNeg)] s2 (some (.inl r)) := by
    obtain ⟨σ', v, k1, k2⟩ := h_m_of l w c9 s1 [.inr (.inr (some (10, 0))), .inl (xs (x3 + 1).toNatClampNeg), .inl (xs (x3 + 2).toNatClampNeg)] rfl hwf1 (lw_ok (t := [(xs (x3 + 1).toNatClampNeg), (xs (x3 + 2).toNatClampNeg)]) (lw_v10 ck)) (Sg × Int32) retI (s2, r) (by
      show (m_of s1 (xs (x3 + 1).toNatClampNeg) (xs (x3 + 2).toNatClampNeg)).bind (fun q => retI q.1 (some (.inl q.2))) = some (s2, r)
      have e9 : m_of s1 (xs (x3 + 1).toNatClampNeg) (xs (x3 + 2).toNatClampNeg) = some (s2, r) := em
      rw [e9]
      rfl)
    obtain ⟨rfl, rfl⟩ := retI_inv k1
    exact k2
  refine W.eq (g2 := F0 m 265 lsA [.int r]) rfl ?_
  refine lv_aload_n (k := 2) c1 c2 (by decide +kernel) rfl (lv_at hlv 1 rfl) ?_
  refine lv_aload_n (k := 0) c1 c2 (by decide +kernel) rfl (lv_at hlv 3 rfl) ?_
  refine lv_iload_n (k := 3) c1 c2 (by decide +kernel) rfl (lv_at hlv 0 rfl) ?_
  refine lv_iconst (n := 1) (v := 1) c1 c2 (by decide +kernel) (by decide +kernel) ?_
  refine lv_iadd c1 c2 (by decide +kernel) ?_
  refine va_sld c1 c2 cX cb cA hS1 x1 (by decide +kernel) ?_
  refine lv_aload_n (k := 0) c1 c2 (by decide +kernel) rfl (lv_at hlv 3 rfl) ?_
  refine lv_iload_n (k := 3) c1 c2 (by decide +kernel) rfl (lv_at hlv 0 rfl) ?_
  refine lv_iconst (n := 2) (v := 2) c1 c2 (by decide +kernel) (by decide +kernel) ?_
  refine lv_iadd c1 c2 (by decide +kernel) ?_
  refine va_sld c1 c2 cX cb cA hS1 x2 (by decide +kernel) ?_
  refine lw_call (ci := 10) (T := TX10) (as := [.inl (xs (x3 + 1).toNatClampNeg), .inl (xs (x3 + 2).toNatClampNeg)]) (rest := [.int r]) C hM1 cwl_22 ⟨wl6_104, wl6_105⟩ ⟨rfl, rfl⟩ ⟨by decide, by decide⟩ hR1 hS1 (lw_v10 ck) rfl hlv.1 (Nat.le_of_ble_eq_true rfl) (by decide +kernel) ⟨by show cells + 7 * 0 + 7 * 0 ≤ _; omega, by show slots + 600 * 0 + 600 * 0 ≤ _; omega⟩ (fun H2 locs2 hR2 hS2 hwf2 => ?_)
  refine W.eq (g2 := F0 m 279 lsA [.int r, .int r]) rfl ?_
  refine lv_icmp_eq (off := 831) (tgt := 1110) c1 c2 (by decide +kernel) (by decide) (fun _ => ?_) (fun q => absurd rfl q)
  refine W.widen (k := cells + 7) (n := slots + 600) (by show cells + 7 * 0 + 7 * 0 ≤ _; omega) (by show slots + 600 * 0 + 600 * 0 ≤ _; omega) ?_
  exact kk s2 _ _ I2 hR2 hS2 hwf2
set_option maxRecDepth 20000 in
theorem lc_2 {p : Program} {l : Launch} {e : Env} {s : State} {m : MethodId} {below : List Frame} {meth : Method} {c : Code} {b L : Nat} {xs : Nat → Int32} {w : g_W} {H : Heap} {locs : List Loc} {cells slots : Nat} {lsA : Array Slot} {Q : State → Prop} {σ : Sg} {x3 : Int32} (C : lw_C p s m c b L xs w) (hI : Inv σ σ) (hR : g_Rep w σ H) (hS : va_S (wA w) s.heap H locs) (hwf : g_wf w σ) (hlv : lv_has lsA 4 [(3, .int x3), (2, .ref (wr w 10 0)), (1, .ref (wr w 9 0)), (0, .ref b)]) (hx : lw_ix x3 L) (hc : cells + 7 ≤ 600000) (hs : slots + 600 ≤ 7302250)
    (kk : ∀ (σ2 : Sg) (H1 : Heap) (locs1 : List Loc), Inv σ2 σ2 → g_Rep w σ2 H1 → va_S (wA w) s.heap H1 locs1 → g_wf w σ2 → W p l e room_1 s m #[Value.ref b] below meth c H1 locs1 (cells + 7) (slots + 600) Q (F0 m 1110 lsA [])) :
    W p l e room_1 s m #[Value.ref b] below meth c H locs cells slots Q (F0 m 284 lsA []) := by
  have C0 := C
  obtain ⟨c1, c2, c3, c6, c7, c8, c9, ck, c14, cX, cb, cA⟩ := C0
  obtain ⟨x1, x2, x3', x4, x5⟩ := hx
  obtain ⟨s1, s2, r, ex, em, I2⟩ := lw_join (Lx := (FP_x9_line)) (Lm := FP_m_line) (m := fun t => m_line t (xs (x3 + 1).toNatClampNeg) (xs (x3 + 2).toNatClampNeg)) hI (fun sm I => c_line I (xs (x3 + 1).toNatClampNeg) (xs (x3 + 2).toNatClampNeg)) rfl (fr_x9_line _ _ _) rfl (fun t => fr_m_line t _ _)
  have hM0 : g_Mt l yX9_line M_x9_line w σ [.inr (.inr (some (9, 0))), .inl (xs (x3 + 1).toNatClampNeg), .inl (xs (x3 + 2).toNatClampNeg)] s1 (some (.inl r)) := by
    obtain ⟨σ', v, k1, k2⟩ := h_x9_line l w c9 σ [.inr (.inr (some (9, 0))), .inl (xs (x3 + 1).toNatClampNeg), .inl (xs (x3 + 2).toNatClampNeg)] rfl hwf (lw_ok (t := [(xs (x3 + 1).toNatClampNeg), (xs (x3 + 2).toNatClampNeg)]) (lw_v9 ck)) (Sg × Int32) retI (s1, r) (by
      show (x9_line σ (xs (x3 + 1).toNatClampNeg) (xs (x3 + 2).toNatClampNeg)).bind (fun q => retI q.1 (some (.inl q.2))) = some (s1, r)
      have e9 : x9_line σ (xs (x3 + 1).toNatClampNeg) (xs (x3 + 2).toNatClampNeg) = some (s1, r) := ex
      rw [e9]
      rfl)
    obtain ⟨rfl, rfl⟩ := retI_inv k1
    exact k2
  refine lv_aload_n (k := 1) c1 c2 (by decide +kernel) rfl (lv_at hlv 2 rfl) ?_
  refine lv_aload_n (k := 0) c1 c2 (by decide +kernel) rfl (lv_at hlv 3 rfl) ?_
  refine lv_iload_n (k := 3) c1 c2 (by decide +kernel) rfl (lv_at hlv 0 rfl) ?_
  refine lv_iconst (n := 1) (v := 1) c1 c2 (by decide +kernel) (by decide +kernel) ?_
  refine lv_iadd c1 c2 (by decide +kernel) ?_
  refine va_sld c1 c2 cX cb cA hS x1 (by decide +kernel) ?_
  refine lv_aload_n (k := 0) c1 c2 (by decide +kernel) rfl (lv_at hlv 3 rfl) ?_
  refine lv_iload_n (k := 3) c1 c2 (by decide +kernel) rfl (lv_at hlv 0 rfl) ?_
  refine lv_iconst (n := 2) (v := 2) c1 c2 (by decide +kernel) (by decide +kernel) ?_
  refine lv_iadd c1 c2 (by decide +kernel) ?_
  refine va_sld c1 c2 cX cb cA hS x2 (by decide +kernel) ?_
  refine lw_call (ci := 9) (T := TX9) (as := [.inl (xs (x3 + 1).toNatClampNeg), .inl (xs (x3 + 2).toNatClampNeg)]) (rest := []) C hM0 cwl_23 ⟨wl2_214, wl2_215⟩ ⟨rfl, rfl⟩ ⟨by decide, by decide⟩ hR hS (lw_v9 ck) rfl hlv.1 (Nat.le_of_ble_eq_true rfl) (by decide +kernel) ⟨by show cells + 7 * 0 ≤ _; omega, by show slots + 600 * 0 ≤ _; omega⟩ (fun H1 locs1 hR1 hS1 hwf1 => ?_)
  have hM1 : g_Mt l yX10_line M_m_line w s1 [.inr (.inr (some (10, 0))), .inl (xs (x3 + 1).toNatClampNeg), .inl (xs (x3 + 2).toNatClampNeg)] s2 (some (.inl r)) := by
    obtain ⟨σ', v, k1, k2⟩ := h_m_line l w c9 s1 [.inr (.inr (some (10, 0))), .inl (xs (x3 + 1).toNatClampNeg), .inl (xs (x3 + 2).toNatClampNeg)] rfl hwf1 (lw_ok (t := [(xs (x3 + 1).toNatClampNeg), (xs (x3 + 2).toNatClampNeg)]) (lw_v10 ck)) (Sg × Int32) retI (s2, r) (by
      show (m_line s1 (xs (x3 + 1).toNatClampNeg) (xs (x3 + 2).toNatClampNeg)).bind (fun q => retI q.1 (some (.inl q.2))) = some (s2, r)
      have e9 : m_line s1 (xs (x3 + 1).toNatClampNeg) (xs (x3 + 2).toNatClampNeg) = some (s2, r) := em
      rw [e9]
      rfl)
    obtain ⟨rfl, rfl⟩ := retI_inv k1
    exact k2
  refine W.eq (g2 := F0 m 298 lsA [.int r]) rfl ?_
  refine lv_aload_n (k := 2) c1 c2 (by decide +kernel) rfl (lv_at hlv 1 rfl) ?_
  refine lv_aload_n (k := 0) c1 c2 (by decide +kernel) rfl (lv_at hlv 3 rfl) ?_
  refine lv_iload_n (k := 3) c1 c2 (by decide +kernel) rfl (lv_at hlv 0 rfl) ?_
  refine lv_iconst (n := 1) (v := 1) c1 c2 (by decide +kernel) (by decide +kernel) ?_
  refine lv_iadd c1 c2 (by decide +kernel) ?_
  refine va_sld c1 c2 cX cb cA hS1 x1 (by decide +kernel) ?_
  refine lv_aload_n (k := 0) c1 c2 (by decide +kernel) rfl (lv_at hlv 3 rfl) ?_
  refine lv_iload_n (k := 3) c1 c2 (by decide +kernel) rfl (lv_at hlv 0 rfl) ?_
  refine lv_iconst (n := 2) (v := 2) c1 c2 (by decide +kernel) (by decide +kernel) ?_
  refine lv_iadd c1 c2 (by decide +kernel) ?_
  refine va_sld c1 c2 cX cb cA hS1 x2 (by decide +kernel) ?_
  refine lw_call (ci := 10) (T := TX10) (as := [.inl (xs (x3 + 1).toNatClampNeg), .inl (xs (x3 + 2).toNatClampNeg)]) (rest := [.int r]) C hM1 cwl_26 ⟨wl7_23, wl7_24⟩ ⟨rfl, rfl⟩ ⟨by decide, by decide⟩ hR1 hS1 (lw_v10 ck) rfl hlv.1 (Nat.le_of_ble_eq_true rfl) (by decide +kernel) ⟨by show cells + 7 * 0 + 7 * 0 ≤ _; omega, by show slots + 600 * 0 + 600 * 0 ≤ _; omega⟩ (fun H2 locs2 hR2 hS2 hwf2 => ?_)
  refine W.eq (g2 := F0 m 312 lsA [.int r, .int r]) rfl ?_
  refine lv_icmp_eq (off := 798) (tgt := 1110) c1 c2 (by decide +kernel) (by decide) (fun _ => ?_) (fun q => absurd rfl q)
  refine W.widen (k := cells + 7) (n := slots + 600) (by show cells + 7 * 0 + 7 * 0 ≤ _; omega) (by show slots + 600 * 0 + 600 * 0 ≤ _; omega) ?_
  exact kk s2 _ _ I2 hR2 hS2 hwf2
set_option maxRecDepth 20000 in
theorem lc_3 {p : Program} {l : Launch} {e : Env} {s : State} {m : MethodId} {below : List Frame} {meth : Method} {c : Code} {b L : Nat} {xs : Nat → Int32} {w : g_W} {H : Heap} {locs : List Loc} {cells slots : Nat} {lsA : Array Slot} {Q : State → Prop} {σ : Sg} {x3 : Int32} (C : lw_C p s m c b L xs w) (hI : Inv σ σ) (hR : g_Rep w σ H) (hS : va_S (wA w) s.heap H locs) (hwf : g_wf w σ) (hlv : lv_has lsA 4 [(3, .int x3), (2, .ref (wr w 10 0)), (1, .ref (wr w 9 0)), (0, .ref b)]) (hx : lw_ix x3 L) (hc : cells + 7 ≤ 600000) (hs : slots + 600 ≤ 7302250)
    (kk : ∀ (σ2 : Sg) (H1 : Heap) (locs1 : List Loc), Inv σ2 σ2 → g_Rep w σ2 H1 → va_S (wA w) s.heap H1 locs1 → g_wf w σ2 → W p l e room_1 s m #[Value.ref b] below meth c H1 locs1 (cells + 7) (slots + 600) Q (F0 m 1110 lsA [])) :
    W p l e room_1 s m #[Value.ref b] below meth c H locs cells slots Q (F0 m 317 lsA []) := by
  have C0 := C
  obtain ⟨c1, c2, c3, c6, c7, c8, c9, ck, c14, cX, cb, cA⟩ := C0
  obtain ⟨x1, x2, x3', x4, x5⟩ := hx
  obtain ⟨s1, s2, r, ex, em, I2⟩ := lw_join (Lx := (FP_x9_all)) (Lm := FP_m_all) (m := fun t => m_all t (xs (x3 + 1).toNatClampNeg)) hI (fun sm I => c_all I (xs (x3 + 1).toNatClampNeg)) rfl (fr_x9_all _ _) rfl (fun t => fr_m_all t _)
  have hM0 : g_Mt l yX9_all M_x9_all w σ [.inr (.inr (some (9, 0))), .inl (xs (x3 + 1).toNatClampNeg)] s1 (some (.inl r)) := by
    obtain ⟨σ', v, k1, k2⟩ := h_x9_all l w c9 σ [.inr (.inr (some (9, 0))), .inl (xs (x3 + 1).toNatClampNeg)] rfl hwf (lw_ok (t := [(xs (x3 + 1).toNatClampNeg)]) (lw_v9 ck)) (Sg × Int32) retI (s1, r) (by
      show (x9_all σ (xs (x3 + 1).toNatClampNeg)).bind (fun q => retI q.1 (some (.inl q.2))) = some (s1, r)
      have e9 : x9_all σ (xs (x3 + 1).toNatClampNeg) = some (s1, r) := ex
      rw [e9]
      rfl)
    obtain ⟨rfl, rfl⟩ := retI_inv k1
    exact k2
  refine lv_aload_n (k := 1) c1 c2 (by decide +kernel) rfl (lv_at hlv 2 rfl) ?_
  refine lv_aload_n (k := 0) c1 c2 (by decide +kernel) rfl (lv_at hlv 3 rfl) ?_
  refine lv_iload_n (k := 3) c1 c2 (by decide +kernel) rfl (lv_at hlv 0 rfl) ?_
  refine lv_iconst (n := 1) (v := 1) c1 c2 (by decide +kernel) (by decide +kernel) ?_
  refine lv_iadd c1 c2 (by decide +kernel) ?_
  refine va_sld c1 c2 cX cb cA hS x1 (by decide +kernel) ?_
  refine lw_call (ci := 9) (T := TX9) (as := [.inl (xs (x3 + 1).toNatClampNeg)]) (rest := []) C hM0 cwl_27 ⟨wl3_44, wl3_45⟩ ⟨rfl, rfl⟩ ⟨by decide, by decide⟩ hR hS (lw_v9 ck) rfl hlv.1 (Nat.le_of_ble_eq_true rfl) (by decide +kernel) ⟨by show cells + 7 * 0 ≤ _; omega, by show slots + 600 * 0 ≤ _; omega⟩ (fun H1 locs1 hR1 hS1 hwf1 => ?_)
  have hM1 : g_Mt l yX10_all M_m_all w s1 [.inr (.inr (some (10, 0))), .inl (xs (x3 + 1).toNatClampNeg)] s2 (some (.inl r)) := by
    obtain ⟨σ', v, k1, k2⟩ := h_m_all l w c9 s1 [.inr (.inr (some (10, 0))), .inl (xs (x3 + 1).toNatClampNeg)] rfl hwf1 (lw_ok (t := [(xs (x3 + 1).toNatClampNeg)]) (lw_v10 ck)) (Sg × Int32) retI (s2, r) (by
      show (m_all s1 (xs (x3 + 1).toNatClampNeg)).bind (fun q => retI q.1 (some (.inl q.2))) = some (s2, r)
      have e9 : m_all s1 (xs (x3 + 1).toNatClampNeg) = some (s2, r) := em
      rw [e9]
      rfl)
    obtain ⟨rfl, rfl⟩ := retI_inv k1
    exact k2
  refine W.eq (g2 := F0 m 326 lsA [.int r]) rfl ?_
  refine lv_aload_n (k := 2) c1 c2 (by decide +kernel) rfl (lv_at hlv 1 rfl) ?_
  refine lv_aload_n (k := 0) c1 c2 (by decide +kernel) rfl (lv_at hlv 3 rfl) ?_
  refine lv_iload_n (k := 3) c1 c2 (by decide +kernel) rfl (lv_at hlv 0 rfl) ?_
  refine lv_iconst (n := 1) (v := 1) c1 c2 (by decide +kernel) (by decide +kernel) ?_
  refine lv_iadd c1 c2 (by decide +kernel) ?_
  refine va_sld c1 c2 cX cb cA hS1 x1 (by decide +kernel) ?_
  refine lw_call (ci := 10) (T := TX10) (as := [.inl (xs (x3 + 1).toNatClampNeg)]) (rest := [.int r]) C hM1 cwl_31 ⟨wl7_95, wl7_96⟩ ⟨rfl, rfl⟩ ⟨by decide, by decide⟩ hR1 hS1 (lw_v10 ck) rfl hlv.1 (Nat.le_of_ble_eq_true rfl) (by decide +kernel) ⟨by show cells + 7 * 0 + 7 * 0 ≤ _; omega, by show slots + 600 * 0 + 600 * 0 ≤ _; omega⟩ (fun H2 locs2 hR2 hS2 hwf2 => ?_)
  refine W.eq (g2 := F0 m 335 lsA [.int r, .int r]) rfl ?_
  refine lv_icmp_eq (off := 775) (tgt := 1110) c1 c2 (by decide +kernel) (by decide) (fun _ => ?_) (fun q => absurd rfl q)
  refine W.widen (k := cells + 7) (n := slots + 600) (by show cells + 7 * 0 + 7 * 0 ≤ _; omega) (by show slots + 600 * 0 + 600 * 0 ≤ _; omega) ?_
  exact kk s2 _ _ I2 hR2 hS2 hwf2
set_option maxRecDepth 20000 in
theorem lc_4 {p : Program} {l : Launch} {e : Env} {s : State} {m : MethodId} {below : List Frame} {meth : Method} {c : Code} {b L : Nat} {xs : Nat → Int32} {w : g_W} {H : Heap} {locs : List Loc} {cells slots : Nat} {lsA : Array Slot} {Q : State → Prop} {σ : Sg} {x3 : Int32} (C : lw_C p s m c b L xs w) (hI : Inv σ σ) (hR : g_Rep w σ H) (hS : va_S (wA w) s.heap H locs) (hwf : g_wf w σ) (hlv : lv_has lsA 4 [(3, .int x3), (2, .ref (wr w 10 0)), (1, .ref (wr w 9 0)), (0, .ref b)]) (hx : lw_ix x3 L) (hc : cells + 7 ≤ 600000) (hs : slots + 600 ≤ 7302250)
    (kk : ∀ (σ2 : Sg) (H1 : Heap) (locs1 : List Loc), Inv σ2 σ2 → g_Rep w σ2 H1 → va_S (wA w) s.heap H1 locs1 → g_wf w σ2 → W p l e room_1 s m #[Value.ref b] below meth c H1 locs1 (cells + 7) (slots + 600) Q (F0 m 1110 lsA [])) :
    W p l e room_1 s m #[Value.ref b] below meth c H locs cells slots Q (F0 m 340 lsA []) := by
  have C0 := C
  obtain ⟨c1, c2, c3, c6, c7, c8, c9, ck, c14, cX, cb, cA⟩ := C0
  obtain ⟨x1, x2, x3', x4, x5⟩ := hx
  obtain ⟨s1, s2, r, ex, em, I2⟩ := lw_join (Lx := (FP_x9_terms)) (Lm := FP_m_terms) (m := fun t => m_terms t (xs (x3 + 1).toNatClampNeg) (xs (x3 + 2).toNatClampNeg)) hI (fun sm I => c_terms I (xs (x3 + 1).toNatClampNeg) (xs (x3 + 2).toNatClampNeg)) rfl (fr_x9_terms _ _ _) rfl (fun t => fr_m_terms t _ _)
  have hM0 : g_Mt l yX9_terms M_x9_terms w σ [.inr (.inr (some (9, 0))), .inl (xs (x3 + 1).toNatClampNeg), .inl (xs (x3 + 2).toNatClampNeg)] s1 (some (.inl r)) := by
    obtain ⟨σ', v, k1, k2⟩ := h_x9_terms l w c9 σ [.inr (.inr (some (9, 0))), .inl (xs (x3 + 1).toNatClampNeg), .inl (xs (x3 + 2).toNatClampNeg)] rfl hwf (lw_ok (t := [(xs (x3 + 1).toNatClampNeg), (xs (x3 + 2).toNatClampNeg)]) (lw_v9 ck)) (Sg × Int32) retI (s1, r) (by
      show (x9_terms σ (xs (x3 + 1).toNatClampNeg) (xs (x3 + 2).toNatClampNeg)).bind (fun q => retI q.1 (some (.inl q.2))) = some (s1, r)
      have e9 : x9_terms σ (xs (x3 + 1).toNatClampNeg) (xs (x3 + 2).toNatClampNeg) = some (s1, r) := ex
      rw [e9]
      rfl)
    obtain ⟨rfl, rfl⟩ := retI_inv k1
    exact k2
  refine lv_aload_n (k := 1) c1 c2 (by decide +kernel) rfl (lv_at hlv 2 rfl) ?_
  refine lv_aload_n (k := 0) c1 c2 (by decide +kernel) rfl (lv_at hlv 3 rfl) ?_
  refine lv_iload_n (k := 3) c1 c2 (by decide +kernel) rfl (lv_at hlv 0 rfl) ?_
  refine lv_iconst (n := 1) (v := 1) c1 c2 (by decide +kernel) (by decide +kernel) ?_
  refine lv_iadd c1 c2 (by decide +kernel) ?_
  refine va_sld c1 c2 cX cb cA hS x1 (by decide +kernel) ?_
  refine lv_aload_n (k := 0) c1 c2 (by decide +kernel) rfl (lv_at hlv 3 rfl) ?_
  refine lv_iload_n (k := 3) c1 c2 (by decide +kernel) rfl (lv_at hlv 0 rfl) ?_
  refine lv_iconst (n := 2) (v := 2) c1 c2 (by decide +kernel) (by decide +kernel) ?_
  refine lv_iadd c1 c2 (by decide +kernel) ?_
  refine va_sld c1 c2 cX cb cA hS x2 (by decide +kernel) ?_
  refine lw_call (ci := 9) (T := TX9) (as := [.inl (xs (x3 + 1).toNatClampNeg), .inl (xs (x3 + 2).toNatClampNeg)]) (rest := []) C hM0 cwl_32 ⟨wl3_53, wl3_54⟩ ⟨rfl, rfl⟩ ⟨by decide, by decide⟩ hR hS (lw_v9 ck) rfl hlv.1 (Nat.le_of_ble_eq_true rfl) (by decide +kernel) ⟨by show cells + 7 * 0 ≤ _; omega, by show slots + 600 * 0 ≤ _; omega⟩ (fun H1 locs1 hR1 hS1 hwf1 => ?_)
  have hM1 : g_Mt l yX10_terms M_m_terms w s1 [.inr (.inr (some (10, 0))), .inl (xs (x3 + 1).toNatClampNeg), .inl (xs (x3 + 2).toNatClampNeg)] s2 (some (.inl r)) := by
    obtain ⟨σ', v, k1, k2⟩ := h_m_terms l w c9 s1 [.inr (.inr (some (10, 0))), .inl (xs (x3 + 1).toNatClampNeg), .inl (xs (x3 + 2).toNatClampNeg)] rfl hwf1 (lw_ok (t := [(xs (x3 + 1).toNatClampNeg), (xs (x3 + 2).toNatClampNeg)]) (lw_v10 ck)) (Sg × Int32) retI (s2, r) (by
      show (m_terms s1 (xs (x3 + 1).toNatClampNeg) (xs (x3 + 2).toNatClampNeg)).bind (fun q => retI q.1 (some (.inl q.2))) = some (s2, r)
      have e9 : m_terms s1 (xs (x3 + 1).toNatClampNeg) (xs (x3 + 2).toNatClampNeg) = some (s2, r) := em
      rw [e9]
      rfl)
    obtain ⟨rfl, rfl⟩ := retI_inv k1
    exact k2
  refine W.eq (g2 := F0 m 354 lsA [.int r]) rfl ?_
  refine lv_aload_n (k := 2) c1 c2 (by decide +kernel) rfl (lv_at hlv 1 rfl) ?_
  refine lv_aload_n (k := 0) c1 c2 (by decide +kernel) rfl (lv_at hlv 3 rfl) ?_
  refine lv_iload_n (k := 3) c1 c2 (by decide +kernel) rfl (lv_at hlv 0 rfl) ?_
  refine lv_iconst (n := 1) (v := 1) c1 c2 (by decide +kernel) (by decide +kernel) ?_
  refine lv_iadd c1 c2 (by decide +kernel) ?_
  refine va_sld c1 c2 cX cb cA hS1 x1 (by decide +kernel) ?_
  refine lv_aload_n (k := 0) c1 c2 (by decide +kernel) rfl (lv_at hlv 3 rfl) ?_
  refine lv_iload_n (k := 3) c1 c2 (by decide +kernel) rfl (lv_at hlv 0 rfl) ?_
  refine lv_iconst (n := 2) (v := 2) c1 c2 (by decide +kernel) (by decide +kernel) ?_
  refine lv_iadd c1 c2 (by decide +kernel) ?_
  refine va_sld c1 c2 cX cb cA hS1 x2 (by decide +kernel) ?_
  refine lw_call (ci := 10) (T := TX10) (as := [.inl (xs (x3 + 1).toNatClampNeg), .inl (xs (x3 + 2).toNatClampNeg)]) (rest := [.int r]) C hM1 cwl_35 ⟨wl6_127, wl6_128⟩ ⟨rfl, rfl⟩ ⟨by decide, by decide⟩ hR1 hS1 (lw_v10 ck) rfl hlv.1 (Nat.le_of_ble_eq_true rfl) (by decide +kernel) ⟨by show cells + 7 * 0 + 7 * 0 ≤ _; omega, by show slots + 600 * 0 + 600 * 0 ≤ _; omega⟩ (fun H2 locs2 hR2 hS2 hwf2 => ?_)
  refine W.eq (g2 := F0 m 368 lsA [.int r, .int r]) rfl ?_
  refine lv_icmp_eq (off := 742) (tgt := 1110) c1 c2 (by decide +kernel) (by decide) (fun _ => ?_) (fun q => absurd rfl q)
  refine W.widen (k := cells + 7) (n := slots + 600) (by show cells + 7 * 0 + 7 * 0 ≤ _; omega) (by show slots + 600 * 0 + 600 * 0 ≤ _; omega) ?_
  exact kk s2 _ _ I2 hR2 hS2 hwf2
set_option maxRecDepth 20000 in
theorem lc_5 {p : Program} {l : Launch} {e : Env} {s : State} {m : MethodId} {below : List Frame} {meth : Method} {c : Code} {b L : Nat} {xs : Nat → Int32} {w : g_W} {H : Heap} {locs : List Loc} {cells slots : Nat} {lsA : Array Slot} {Q : State → Prop} {σ : Sg} {x3 : Int32} (C : lw_C p s m c b L xs w) (hI : Inv σ σ) (hR : g_Rep w σ H) (hS : va_S (wA w) s.heap H locs) (hwf : g_wf w σ) (hlv : lv_has lsA 4 [(3, .int x3), (2, .ref (wr w 10 0)), (1, .ref (wr w 9 0)), (0, .ref b)]) (hx : lw_ix x3 L) (hc : cells + 7 ≤ 600000) (hs : slots + 600 ≤ 7302250)
    (kk : ∀ (σ2 : Sg) (H1 : Heap) (locs1 : List Loc), Inv σ2 σ2 → g_Rep w σ2 H1 → va_S (wA w) s.heap H1 locs1 → g_wf w σ2 → W p l e room_1 s m #[Value.ref b] below meth c H1 locs1 (cells + 7) (slots + 600) Q (F0 m 1110 lsA [])) :
    W p l e room_1 s m #[Value.ref b] below meth c H locs cells slots Q (F0 m 373 lsA []) := by
  have C0 := C
  obtain ⟨c1, c2, c3, c6, c7, c8, c9, ck, c14, cX, cb, cA⟩ := C0
  obtain ⟨x1, x2, x3', x4, x5⟩ := hx
  obtain ⟨s1, s2, r, ex, em, I2⟩ := lw_join (Lx := (FP_x9_feed)) (Lm := FP_m_feed) (m := fun t => m_feed t (xs (x3 + 1).toNatClampNeg) (xs (x3 + 2).toNatClampNeg) (xs (x3 + 3).toNatClampNeg) (xs (x3 + 4).toNatClampNeg) (xs (x3 + 5).toNatClampNeg)) hI (fun sm I => c_feed I (xs (x3 + 1).toNatClampNeg) (xs (x3 + 2).toNatClampNeg) (xs (x3 + 3).toNatClampNeg) (xs (x3 + 4).toNatClampNeg) (xs (x3 + 5).toNatClampNeg)) rfl (fr_x9_feed _ _ _ _ _ _) rfl (fun t => fr_m_feed t _ _ _ _ _)
  have hM0 : g_Mt l yX9_feed M_x9_feed w σ [.inr (.inr (some (9, 0))), .inl (xs (x3 + 1).toNatClampNeg), .inl (xs (x3 + 2).toNatClampNeg), .inl (xs (x3 + 3).toNatClampNeg), .inl (xs (x3 + 4).toNatClampNeg), .inl (xs (x3 + 5).toNatClampNeg)] s1 (some (.inl r)) := by
    obtain ⟨σ', v, k1, k2⟩ := h_x9_feed l w c9 σ [.inr (.inr (some (9, 0))), .inl (xs (x3 + 1).toNatClampNeg), .inl (xs (x3 + 2).toNatClampNeg), .inl (xs (x3 + 3).toNatClampNeg), .inl (xs (x3 + 4).toNatClampNeg), .inl (xs (x3 + 5).toNatClampNeg)] rfl hwf (lw_ok (t := [(xs (x3 + 1).toNatClampNeg), (xs (x3 + 2).toNatClampNeg), (xs (x3 + 3).toNatClampNeg), (xs (x3 + 4).toNatClampNeg), (xs (x3 + 5).toNatClampNeg)]) (lw_v9 ck)) (Sg × Int32) retI (s1, r) (by
      show (x9_feed σ (xs (x3 + 1).toNatClampNeg) (xs (x3 + 2).toNatClampNeg) (xs (x3 + 3).toNatClampNeg) (xs (x3 + 4).toNatClampNeg) (xs (x3 + 5).toNatClampNeg)).bind (fun q => retI q.1 (some (.inl q.2))) = some (s1, r)
      have e9 : x9_feed σ (xs (x3 + 1).toNatClampNeg) (xs (x3 + 2).toNatClampNeg) (xs (x3 + 3).toNatClampNeg) (xs (x3 + 4).toNatClampNeg) (xs (x3 + 5).toNatClampNeg) = some (s1, r) := ex
      rw [e9]
      rfl)
    obtain ⟨rfl, rfl⟩ := retI_inv k1
    exact k2
  refine lv_aload_n (k := 1) c1 c2 (by decide +kernel) rfl (lv_at hlv 2 rfl) ?_
  refine lv_aload_n (k := 0) c1 c2 (by decide +kernel) rfl (lv_at hlv 3 rfl) ?_
  refine lv_iload_n (k := 3) c1 c2 (by decide +kernel) rfl (lv_at hlv 0 rfl) ?_
  refine lv_iconst (n := 1) (v := 1) c1 c2 (by decide +kernel) (by decide +kernel) ?_
  refine lv_iadd c1 c2 (by decide +kernel) ?_
  refine va_sld c1 c2 cX cb cA hS x1 (by decide +kernel) ?_
  refine lv_aload_n (k := 0) c1 c2 (by decide +kernel) rfl (lv_at hlv 3 rfl) ?_
  refine lv_iload_n (k := 3) c1 c2 (by decide +kernel) rfl (lv_at hlv 0 rfl) ?_
  refine lv_iconst (n := 2) (v := 2) c1 c2 (by decide +kernel) (by decide +kernel) ?_
  refine lv_iadd c1 c2 (by decide +kernel) ?_
  refine va_sld c1 c2 cX cb cA hS x2 (by decide +kernel) ?_
  refine lv_aload_n (k := 0) c1 c2 (by decide +kernel) rfl (lv_at hlv 3 rfl) ?_
  refine lv_iload_n (k := 3) c1 c2 (by decide +kernel) rfl (lv_at hlv 0 rfl) ?_
  refine lv_iconst (n := 3) (v := 3) c1 c2 (by decide +kernel) (by decide +kernel) ?_
  refine lv_iadd c1 c2 (by decide +kernel) ?_
  refine va_sld c1 c2 cX cb cA hS x3' (by decide +kernel) ?_
  refine lv_aload_n (k := 0) c1 c2 (by decide +kernel) rfl (lv_at hlv 3 rfl) ?_
  refine lv_iload_n (k := 3) c1 c2 (by decide +kernel) rfl (lv_at hlv 0 rfl) ?_
  refine lv_iconst (n := 4) (v := 4) c1 c2 (by decide +kernel) (by decide +kernel) ?_
  refine lv_iadd c1 c2 (by decide +kernel) ?_
  refine va_sld c1 c2 cX cb cA hS x4 (by decide +kernel) ?_
  refine lv_aload_n (k := 0) c1 c2 (by decide +kernel) rfl (lv_at hlv 3 rfl) ?_
  refine lv_iload_n (k := 3) c1 c2 (by decide +kernel) rfl (lv_at hlv 0 rfl) ?_
  refine lv_iconst (n := 5) (v := 5) c1 c2 (by decide +kernel) (by decide +kernel) ?_
  refine lv_iadd c1 c2 (by decide +kernel) ?_
  refine va_sld c1 c2 cX cb cA hS x5 (by decide +kernel) ?_
  refine lw_call (ci := 9) (T := TX9) (as := [.inl (xs (x3 + 1).toNatClampNeg), .inl (xs (x3 + 2).toNatClampNeg), .inl (xs (x3 + 3).toNatClampNeg), .inl (xs (x3 + 4).toNatClampNeg), .inl (xs (x3 + 5).toNatClampNeg)]) (rest := []) C hM0 cwl_36 ⟨wl3_61, wl3_62⟩ ⟨rfl, rfl⟩ ⟨by decide, by decide⟩ hR hS (lw_v9 ck) rfl hlv.1 (Nat.le_of_ble_eq_true rfl) (by decide +kernel) ⟨by show cells + 7 * 0 ≤ _; omega, by show slots + 600 * 0 ≤ _; omega⟩ (fun H1 locs1 hR1 hS1 hwf1 => ?_)
  have hM1 : g_Mt l yX10_feed M_m_feed w s1 [.inr (.inr (some (10, 0))), .inl (xs (x3 + 1).toNatClampNeg), .inl (xs (x3 + 2).toNatClampNeg), .inl (xs (x3 + 3).toNatClampNeg), .inl (xs (x3 + 4).toNatClampNeg), .inl (xs (x3 + 5).toNatClampNeg)] s2 (some (.inl r)) := by
    obtain ⟨σ', v, k1, k2⟩ := h_m_feed l w c9 s1 [.inr (.inr (some (10, 0))), .inl (xs (x3 + 1).toNatClampNeg), .inl (xs (x3 + 2).toNatClampNeg), .inl (xs (x3 + 3).toNatClampNeg), .inl (xs (x3 + 4).toNatClampNeg), .inl (xs (x3 + 5).toNatClampNeg)] rfl hwf1 (lw_ok (t := [(xs (x3 + 1).toNatClampNeg), (xs (x3 + 2).toNatClampNeg), (xs (x3 + 3).toNatClampNeg), (xs (x3 + 4).toNatClampNeg), (xs (x3 + 5).toNatClampNeg)]) (lw_v10 ck)) (Sg × Int32) retI (s2, r) (by
      show (m_feed s1 (xs (x3 + 1).toNatClampNeg) (xs (x3 + 2).toNatClampNeg) (xs (x3 + 3).toNatClampNeg) (xs (x3 + 4).toNatClampNeg) (xs (x3 + 5).toNatClampNeg)).bind (fun q => retI q.1 (some (.inl q.2))) = some (s2, r)
      have e9 : m_feed s1 (xs (x3 + 1).toNatClampNeg) (xs (x3 + 2).toNatClampNeg) (xs (x3 + 3).toNatClampNeg) (xs (x3 + 4).toNatClampNeg) (xs (x3 + 5).toNatClampNeg) = some (s2, r) := em
      rw [e9]
      rfl)
    obtain ⟨rfl, rfl⟩ := retI_inv k1
    exact k2
  refine W.eq (g2 := F0 m 402 lsA [.int r]) rfl ?_
  refine lv_aload_n (k := 2) c1 c2 (by decide +kernel) rfl (lv_at hlv 1 rfl) ?_
  refine lv_aload_n (k := 0) c1 c2 (by decide +kernel) rfl (lv_at hlv 3 rfl) ?_
  refine lv_iload_n (k := 3) c1 c2 (by decide +kernel) rfl (lv_at hlv 0 rfl) ?_
  refine lv_iconst (n := 1) (v := 1) c1 c2 (by decide +kernel) (by decide +kernel) ?_
  refine lv_iadd c1 c2 (by decide +kernel) ?_
  refine va_sld c1 c2 cX cb cA hS1 x1 (by decide +kernel) ?_
  refine lv_aload_n (k := 0) c1 c2 (by decide +kernel) rfl (lv_at hlv 3 rfl) ?_
  refine lv_iload_n (k := 3) c1 c2 (by decide +kernel) rfl (lv_at hlv 0 rfl) ?_
  refine lv_iconst (n := 2) (v := 2) c1 c2 (by decide +kernel) (by decide +kernel) ?_
  refine lv_iadd c1 c2 (by decide +kernel) ?_
  refine va_sld c1 c2 cX cb cA hS1 x2 (by decide +kernel) ?_
  refine lv_aload_n (k := 0) c1 c2 (by decide +kernel) rfl (lv_at hlv 3 rfl) ?_
  refine lv_iload_n (k := 3) c1 c2 (by decide +kernel) rfl (lv_at hlv 0 rfl) ?_
  refine lv_iconst (n := 3) (v := 3) c1 c2 (by decide +kernel) (by decide +kernel) ?_
  refine lv_iadd c1 c2 (by decide +kernel) ?_
  refine va_sld c1 c2 cX cb cA hS1 x3' (by decide +kernel) ?_
  refine lv_aload_n (k := 0) c1 c2 (by decide +kernel) rfl (lv_at hlv 3 rfl) ?_
  refine lv_iload_n (k := 3) c1 c2 (by decide +kernel) rfl (lv_at hlv 0 rfl) ?_
  refine lv_iconst (n := 4) (v := 4) c1 c2 (by decide +kernel) (by decide +kernel) ?_
  refine lv_iadd c1 c2 (by decide +kernel) ?_
  refine va_sld c1 c2 cX cb cA hS1 x4 (by decide +kernel) ?_
  refine lv_aload_n (k := 0) c1 c2 (by decide +kernel) rfl (lv_at hlv 3 rfl) ?_
  refine lv_iload_n (k := 3) c1 c2 (by decide +kernel) rfl (lv_at hlv 0 rfl) ?_
  refine lv_iconst (n := 5) (v := 5) c1 c2 (by decide +kernel) (by decide +kernel) ?_
  refine lv_iadd c1 c2 (by decide +kernel) ?_
  refine va_sld c1 c2 cX cb cA hS1 x5 (by decide +kernel) ?_
  refine lw_call (ci := 10) (T := TX10) (as := [.inl (xs (x3 + 1).toNatClampNeg), .inl (xs (x3 + 2).toNatClampNeg), .inl (xs (x3 + 3).toNatClampNeg), .inl (xs (x3 + 4).toNatClampNeg), .inl (xs (x3 + 5).toNatClampNeg)]) (rest := [.int r]) C hM1 cwl_40 ⟨wl6_145, wl6_146⟩ ⟨rfl, rfl⟩ ⟨by decide, by decide⟩ hR1 hS1 (lw_v10 ck) rfl hlv.1 (Nat.le_of_ble_eq_true rfl) (by decide +kernel) ⟨by show cells + 7 * 0 + 7 * 0 ≤ _; omega, by show slots + 600 * 0 + 600 * 0 ≤ _; omega⟩ (fun H2 locs2 hR2 hS2 hwf2 => ?_)
  refine W.eq (g2 := F0 m 431 lsA [.int r, .int r]) rfl ?_
  refine lv_icmp_eq (off := 679) (tgt := 1110) c1 c2 (by decide +kernel) (by decide) (fun _ => ?_) (fun q => absurd rfl q)
  refine W.widen (k := cells + 7) (n := slots + 600) (by show cells + 7 * 0 + 7 * 0 ≤ _; omega) (by show slots + 600 * 0 + 600 * 0 ≤ _; omega) ?_
  exact kk s2 _ _ I2 hR2 hS2 hwf2
set_option maxRecDepth 20000 in
theorem lc_6 {p : Program} {l : Launch} {e : Env} {s : State} {m : MethodId} {below : List Frame} {meth : Method} {c : Code} {b L : Nat} {xs : Nat → Int32} {w : g_W} {H : Heap} {locs : List Loc} {cells slots : Nat} {lsA : Array Slot} {Q : State → Prop} {σ : Sg} {x3 : Int32} (C : lw_C p s m c b L xs w) (hI : Inv σ σ) (hR : g_Rep w σ H) (hS : va_S (wA w) s.heap H locs) (hwf : g_wf w σ) (hlv : lv_has lsA 4 [(3, .int x3), (2, .ref (wr w 10 0)), (1, .ref (wr w 9 0)), (0, .ref b)]) (hx : lw_ix x3 L) (hc : cells + 7 ≤ 600000) (hs : slots + 600 ≤ 7302250)
    (kk : ∀ (σ2 : Sg) (H1 : Heap) (locs1 : List Loc), Inv σ2 σ2 → g_Rep w σ2 H1 → va_S (wA w) s.heap H1 locs1 → g_wf w σ2 → W p l e room_1 s m #[Value.ref b] below meth c H1 locs1 (cells + 7) (slots + 600) Q (F0 m 1110 lsA [])) :
    W p l e room_1 s m #[Value.ref b] below meth c H locs cells slots Q (F0 m 436 lsA []) := by
  have C0 := C
  obtain ⟨c1, c2, c3, c6, c7, c8, c9, ck, c14, cX, cb, cA⟩ := C0
  obtain ⟨x1, x2, x3', x4, x5⟩ := hx
  obtain ⟨s1, s2, r, ex, em, I2⟩ := lw_join (Lx := (FP_x9_end)) (Lm := FP_m_end) (m := fun t => m_end t (xs (x3 + 1).toNatClampNeg)) hI (fun sm I => c_end I (xs (x3 + 1).toNatClampNeg)) rfl (fr_x9_end _ _) rfl (fun t => fr_m_end t _)
  have hM0 : g_Mt l yX9_end M_x9_end w σ [.inr (.inr (some (9, 0))), .inl (xs (x3 + 1).toNatClampNeg)] s1 (some (.inl r)) := by
    obtain ⟨σ', v, k1, k2⟩ := h_x9_end l w c9 σ [.inr (.inr (some (9, 0))), .inl (xs (x3 + 1).toNatClampNeg)] rfl hwf (lw_ok (t := [(xs (x3 + 1).toNatClampNeg)]) (lw_v9 ck)) (Sg × Int32) retI (s1, r) (by
      show (x9_end σ (xs (x3 + 1).toNatClampNeg)).bind (fun q => retI q.1 (some (.inl q.2))) = some (s1, r)
      have e9 : x9_end σ (xs (x3 + 1).toNatClampNeg) = some (s1, r) := ex
      rw [e9]
      rfl)
    obtain ⟨rfl, rfl⟩ := retI_inv k1
    exact k2
  refine lv_aload_n (k := 1) c1 c2 (by decide +kernel) rfl (lv_at hlv 2 rfl) ?_
  refine lv_aload_n (k := 0) c1 c2 (by decide +kernel) rfl (lv_at hlv 3 rfl) ?_
  refine lv_iload_n (k := 3) c1 c2 (by decide +kernel) rfl (lv_at hlv 0 rfl) ?_
  refine lv_iconst (n := 1) (v := 1) c1 c2 (by decide +kernel) (by decide +kernel) ?_
  refine lv_iadd c1 c2 (by decide +kernel) ?_
  refine va_sld c1 c2 cX cb cA hS x1 (by decide +kernel) ?_
  refine lw_call (ci := 9) (T := TX9) (as := [.inl (xs (x3 + 1).toNatClampNeg)]) (rest := []) C hM0 cwl_41 ⟨wl3_69, wl3_70⟩ ⟨rfl, rfl⟩ ⟨by decide, by decide⟩ hR hS (lw_v9 ck) rfl hlv.1 (Nat.le_of_ble_eq_true rfl) (by decide +kernel) ⟨by show cells + 7 * 0 ≤ _; omega, by show slots + 600 * 0 ≤ _; omega⟩ (fun H1 locs1 hR1 hS1 hwf1 => ?_)
  have hM1 : g_Mt l yX10_end M_m_end w s1 [.inr (.inr (some (10, 0))), .inl (xs (x3 + 1).toNatClampNeg)] s2 (some (.inl r)) := by
    obtain ⟨σ', v, k1, k2⟩ := h_m_end l w c9 s1 [.inr (.inr (some (10, 0))), .inl (xs (x3 + 1).toNatClampNeg)] rfl hwf1 (lw_ok (t := [(xs (x3 + 1).toNatClampNeg)]) (lw_v10 ck)) (Sg × Int32) retI (s2, r) (by
      show (m_end s1 (xs (x3 + 1).toNatClampNeg)).bind (fun q => retI q.1 (some (.inl q.2))) = some (s2, r)
      have e9 : m_end s1 (xs (x3 + 1).toNatClampNeg) = some (s2, r) := em
      rw [e9]
      rfl)
    obtain ⟨rfl, rfl⟩ := retI_inv k1
    exact k2
  refine W.eq (g2 := F0 m 445 lsA [.int r]) rfl ?_
  refine lv_aload_n (k := 2) c1 c2 (by decide +kernel) rfl (lv_at hlv 1 rfl) ?_
  refine lv_aload_n (k := 0) c1 c2 (by decide +kernel) rfl (lv_at hlv 3 rfl) ?_
  refine lv_iload_n (k := 3) c1 c2 (by decide +kernel) rfl (lv_at hlv 0 rfl) ?_
  refine lv_iconst (n := 1) (v := 1) c1 c2 (by decide +kernel) (by decide +kernel) ?_
  refine lv_iadd c1 c2 (by decide +kernel) ?_
  refine va_sld c1 c2 cX cb cA hS1 x1 (by decide +kernel) ?_
  refine lw_call (ci := 10) (T := TX10) (as := [.inl (xs (x3 + 1).toNatClampNeg)]) (rest := [.int r]) C hM1 cwl_44 ⟨wl6_149, wl6_150⟩ ⟨rfl, rfl⟩ ⟨by decide, by decide⟩ hR1 hS1 (lw_v10 ck) rfl hlv.1 (Nat.le_of_ble_eq_true rfl) (by decide +kernel) ⟨by show cells + 7 * 0 + 7 * 0 ≤ _; omega, by show slots + 600 * 0 + 600 * 0 ≤ _; omega⟩ (fun H2 locs2 hR2 hS2 hwf2 => ?_)
  refine W.eq (g2 := F0 m 454 lsA [.int r, .int r]) rfl ?_
  refine lv_icmp_eq (off := 656) (tgt := 1110) c1 c2 (by decide +kernel) (by decide) (fun _ => ?_) (fun q => absurd rfl q)
  refine W.widen (k := cells + 7) (n := slots + 600) (by show cells + 7 * 0 + 7 * 0 ≤ _; omega) (by show slots + 600 * 0 + 600 * 0 ≤ _; omega) ?_
  exact kk s2 _ _ I2 hR2 hS2 hwf2
set_option maxRecDepth 20000 in
theorem lc_7 {p : Program} {l : Launch} {e : Env} {s : State} {m : MethodId} {below : List Frame} {meth : Method} {c : Code} {b L : Nat} {xs : Nat → Int32} {w : g_W} {H : Heap} {locs : List Loc} {cells slots : Nat} {lsA : Array Slot} {Q : State → Prop} {σ : Sg} {x3 : Int32} (C : lw_C p s m c b L xs w) (hI : Inv σ σ) (hR : g_Rep w σ H) (hS : va_S (wA w) s.heap H locs) (hwf : g_wf w σ) (hlv : lv_has lsA 4 [(3, .int x3), (2, .ref (wr w 10 0)), (1, .ref (wr w 9 0)), (0, .ref b)]) (hx : lw_ix x3 L) (hc : cells + 7 ≤ 600000) (hs : slots + 600 ≤ 7302250)
    (kk : ∀ (σ2 : Sg) (H1 : Heap) (locs1 : List Loc), Inv σ2 σ2 → g_Rep w σ2 H1 → va_S (wA w) s.heap H1 locs1 → g_wf w σ2 → W p l e room_1 s m #[Value.ref b] below meth c H1 locs1 (cells + 7) (slots + 600) Q (F0 m 1110 lsA [])) :
    W p l e room_1 s m #[Value.ref b] below meth c H locs cells slots Q (F0 m 459 lsA []) := by
  have C0 := C
  obtain ⟨c1, c2, c3, c6, c7, c8, c9, ck, c14, cX, cb, cA⟩ := C0
  obtain ⟨x1, x2, x3', x4, x5⟩ := hx
  obtain ⟨s1, s2, r, ex, em, I2⟩ := lw_join (Lx := (FP_x9_row)) (Lm := FP_m_row) (m := fun t => m_row t ) hI (fun sm I => c_row I) rfl (fr_x9_row _ ) rfl (fun t => fr_m_row t )
  have hM0 : g_Mt l yX9_row M_x9_row w σ [.inr (.inr (some (9, 0)))] s1 (some (.inl r)) := by
    obtain ⟨σ', v, k1, k2⟩ := h_x9_row l w c9 σ [.inr (.inr (some (9, 0)))] rfl hwf (lw_ok (t := []) (lw_v9 ck)) (Sg × Int32) retI (s1, r) (by
      show (x9_row σ ).bind (fun q => retI q.1 (some (.inl q.2))) = some (s1, r)
      have e9 : x9_row σ  = some (s1, r) := ex
      rw [e9]
      rfl)
    obtain ⟨rfl, rfl⟩ := retI_inv k1
    exact k2
  refine lv_aload_n (k := 1) c1 c2 (by decide +kernel) rfl (lv_at hlv 2 rfl) ?_
  refine lw_call (ci := 9) (T := TX9) (as := []) (rest := []) C hM0 cwl_45 ⟨wl3_73, wl3_74⟩ ⟨rfl, rfl⟩ ⟨by decide, by decide⟩ hR hS (lw_v9 ck) rfl hlv.1 (Nat.le_of_ble_eq_true rfl) (by decide +kernel) ⟨by show cells + 7 * 0 ≤ _; omega, by show slots + 600 * 0 ≤ _; omega⟩ (fun H1 locs1 hR1 hS1 hwf1 => ?_)
  have hM1 : g_Mt l yX10_row M_m_row w s1 [.inr (.inr (some (10, 0)))] s2 (some (.inl r)) := by
    obtain ⟨σ', v, k1, k2⟩ := h_m_row l w c9 s1 [.inr (.inr (some (10, 0)))] rfl hwf1 (lw_ok (t := []) (lw_v10 ck)) (Sg × Int32) retI (s2, r) (by
      show (m_row s1 ).bind (fun q => retI q.1 (some (.inl q.2))) = some (s2, r)
      have e9 : m_row s1  = some (s2, r) := em
      rw [e9]
      rfl)
    obtain ⟨rfl, rfl⟩ := retI_inv k1
    exact k2
  refine W.eq (g2 := F0 m 463 lsA [.int r]) rfl ?_
  refine lv_aload_n (k := 2) c1 c2 (by decide +kernel) rfl (lv_at hlv 1 rfl) ?_
  refine lw_call (ci := 10) (T := TX10) (as := []) (rest := [.int r]) C hM1 cwl_49 ⟨wl6_137, wl6_138⟩ ⟨rfl, rfl⟩ ⟨by decide, by decide⟩ hR1 hS1 (lw_v10 ck) rfl hlv.1 (Nat.le_of_ble_eq_true rfl) (by decide +kernel) ⟨by show cells + 7 * 0 + 7 * 0 ≤ _; omega, by show slots + 600 * 0 + 600 * 0 ≤ _; omega⟩ (fun H2 locs2 hR2 hS2 hwf2 => ?_)
  refine W.eq (g2 := F0 m 467 lsA [.int r, .int r]) rfl ?_
  refine lv_icmp_eq (off := 643) (tgt := 1110) c1 c2 (by decide +kernel) (by decide) (fun _ => ?_) (fun q => absurd rfl q)
  refine W.widen (k := cells + 7) (n := slots + 600) (by show cells + 7 * 0 + 7 * 0 ≤ _; omega) (by show slots + 600 * 0 + 600 * 0 ≤ _; omega) ?_
  exact kk s2 _ _ I2 hR2 hS2 hwf2
set_option maxRecDepth 20000 in
theorem lc_8 {p : Program} {l : Launch} {e : Env} {s : State} {m : MethodId} {below : List Frame} {meth : Method} {c : Code} {b L : Nat} {xs : Nat → Int32} {w : g_W} {H : Heap} {locs : List Loc} {cells slots : Nat} {lsA : Array Slot} {Q : State → Prop} {σ : Sg} {x3 : Int32} (C : lw_C p s m c b L xs w) (hI : Inv σ σ) (hR : g_Rep w σ H) (hS : va_S (wA w) s.heap H locs) (hwf : g_wf w σ) (hlv : lv_has lsA 4 [(3, .int x3), (2, .ref (wr w 10 0)), (1, .ref (wr w 9 0)), (0, .ref b)]) (hx : lw_ix x3 L) (hc : cells + 7 ≤ 600000) (hs : slots + 600 ≤ 7302250)
    (kk : ∀ (σ2 : Sg) (H1 : Heap) (locs1 : List Loc), Inv σ2 σ2 → g_Rep w σ2 H1 → va_S (wA w) s.heap H1 locs1 → g_wf w σ2 → W p l e room_1 s m #[Value.ref b] below meth c H1 locs1 (cells + 7) (slots + 600) Q (F0 m 1110 lsA [])) :
    W p l e room_1 s m #[Value.ref b] below meth c H locs cells slots Q (F0 m 472 lsA []) := by
  have C0 := C
  obtain ⟨c1, c2, c3, c6, c7, c8, c9, ck, c14, cX, cb, cA⟩ := C0
  obtain ⟨x1, x2, x3', x4, x5⟩ := hx
  obtain ⟨s1, s2, r, ex, em, I2⟩ := lw_join (Lx := (FP_x9_turned)) (Lm := FP_m_turned) (m := fun t => m_turned t ) hI (fun sm I => c_turned I) rfl (fr_x9_turned _ ) rfl (fun t => fr_m_turned t )
  have hM0 : g_Mt l yX9_turned M_x9_turned w σ [.inr (.inr (some (9, 0)))] s1 (some (.inl r)) := by
    obtain ⟨σ', v, k1, k2⟩ := h_x9_turned l w c9 σ [.inr (.inr (some (9, 0)))] rfl hwf (lw_ok (t := []) (lw_v9 ck)) (Sg × Int32) retI (s1, r) (by
      show (x9_turned σ ).bind (fun q => retI q.1 (some (.inl q.2))) = some (s1, r)
      have e9 : x9_turned σ  = some (s1, r) := ex
      rw [e9]
      rfl)
    obtain ⟨rfl, rfl⟩ := retI_inv k1
    exact k2
  refine lv_aload_n (k := 1) c1 c2 (by decide +kernel) rfl (lv_at hlv 2 rfl) ?_
  refine lw_call (ci := 9) (T := TX9) (as := []) (rest := []) C hM0 cwl_50 ⟨wl3_81, wl3_82⟩ ⟨rfl, rfl⟩ ⟨by decide, by decide⟩ hR hS (lw_v9 ck) rfl hlv.1 (Nat.le_of_ble_eq_true rfl) (by decide +kernel) ⟨by show cells + 7 * 0 ≤ _; omega, by show slots + 600 * 0 ≤ _; omega⟩ (fun H1 locs1 hR1 hS1 hwf1 => ?_)
  have hM1 : g_Mt l yX10_turned M_m_turned w s1 [.inr (.inr (some (10, 0)))] s2 (some (.inl r)) := by
    obtain ⟨σ', v, k1, k2⟩ := h_m_turned l w c9 s1 [.inr (.inr (some (10, 0)))] rfl hwf1 (lw_ok (t := []) (lw_v10 ck)) (Sg × Int32) retI (s2, r) (by
      show (m_turned s1 ).bind (fun q => retI q.1 (some (.inl q.2))) = some (s2, r)
      have e9 : m_turned s1  = some (s2, r) := em
      rw [e9]
      rfl)
    obtain ⟨rfl, rfl⟩ := retI_inv k1
    exact k2
  refine W.eq (g2 := F0 m 476 lsA [.int r]) rfl ?_
  refine lv_aload_n (k := 2) c1 c2 (by decide +kernel) rfl (lv_at hlv 1 rfl) ?_
  refine lw_call (ci := 10) (T := TX10) (as := []) (rest := [.int r]) C hM1 cwl_53 ⟨wl6_141, wl6_142⟩ ⟨rfl, rfl⟩ ⟨by decide, by decide⟩ hR1 hS1 (lw_v10 ck) rfl hlv.1 (Nat.le_of_ble_eq_true rfl) (by decide +kernel) ⟨by show cells + 7 * 0 + 7 * 0 ≤ _; omega, by show slots + 600 * 0 + 600 * 0 ≤ _; omega⟩ (fun H2 locs2 hR2 hS2 hwf2 => ?_)
  refine W.eq (g2 := F0 m 480 lsA [.int r, .int r]) rfl ?_
  refine lv_icmp_eq (off := 630) (tgt := 1110) c1 c2 (by decide +kernel) (by decide) (fun _ => ?_) (fun q => absurd rfl q)
  refine W.widen (k := cells + 7) (n := slots + 600) (by show cells + 7 * 0 + 7 * 0 ≤ _; omega) (by show slots + 600 * 0 + 600 * 0 ≤ _; omega) ?_
  exact kk s2 _ _ I2 hR2 hS2 hwf2
set_option maxRecDepth 20000 in
theorem lc_9 {p : Program} {l : Launch} {e : Env} {s : State} {m : MethodId} {below : List Frame} {meth : Method} {c : Code} {b L : Nat} {xs : Nat → Int32} {w : g_W} {H : Heap} {locs : List Loc} {cells slots : Nat} {lsA : Array Slot} {Q : State → Prop} {σ : Sg} {x3 : Int32} (C : lw_C p s m c b L xs w) (hI : Inv σ σ) (hR : g_Rep w σ H) (hS : va_S (wA w) s.heap H locs) (hwf : g_wf w σ) (hlv : lv_has lsA 4 [(3, .int x3), (2, .ref (wr w 10 0)), (1, .ref (wr w 9 0)), (0, .ref b)]) (hx : lw_ix x3 L) (hc : cells + 7 ≤ 600000) (hs : slots + 600 ≤ 7302250)
    (kk : ∀ (σ2 : Sg) (H1 : Heap) (locs1 : List Loc), Inv σ2 σ2 → g_Rep w σ2 H1 → va_S (wA w) s.heap H1 locs1 → g_wf w σ2 → W p l e room_1 s m #[Value.ref b] below meth c H1 locs1 (cells + 7) (slots + 600) Q (F0 m 1110 lsA [])) :
    W p l e room_1 s m #[Value.ref b] below meth c H locs cells slots Q (F0 m 485 lsA []) := by
  have C0 := C
  obtain ⟨c1, c2, c3, c6, c7, c8, c9, ck, c14, cX, cb, cA⟩ := C0
  obtain ⟨x1, x2, x3', x4, x5⟩ := hx
  obtain ⟨s1, s2, r, ex, em, I2⟩ := lw_join (Lx := (FP_x9_law)) (Lm := FP_m_law) (m := fun t => m_law t ) hI (fun sm I => c_law I) rfl (fr_x9_law _ ) rfl (fun t => fr_m_law t )
  have hM0 : g_Mt l yX9_law M_x9_law w σ [.inr (.inr (some (9, 0)))] s1 (some (.inl r)) := by
    obtain ⟨σ', v, k1, k2⟩ := h_x9_law l w c9 σ [.inr (.inr (some (9, 0)))] rfl hwf (lw_ok (t := []) (lw_v9 ck)) (Sg × Int32) retI (s1, r) (by
      show (x9_law σ ).bind (fun q => retI q.1 (some (.inl q.2))) = some (s1, r)
      have e9 : x9_law σ  = some (s1, r) := ex
      rw [e9]
      rfl)
    obtain ⟨rfl, rfl⟩ := retI_inv k1
    exact k2
  refine lv_aload_n (k := 1) c1 c2 (by decide +kernel) rfl (lv_at hlv 2 rfl) ?_
  refine lw_call (ci := 9) (T := TX9) (as := []) (rest := []) C hM0 cwl_54 ⟨wl3_85, wl3_86⟩ ⟨rfl, rfl⟩ ⟨by decide, by decide⟩ hR hS (lw_v9 ck) rfl hlv.1 (Nat.le_of_ble_eq_true rfl) (by decide +kernel) ⟨by show cells + 7 * 1 ≤ _; omega, by show slots + 600 * 1 ≤ _; omega⟩ (fun H1 locs1 hR1 hS1 hwf1 => ?_)
  have hM1 : g_Mt l yX10_law M_m_law w s1 [.inr (.inr (some (10, 0)))] s2 (some (.inl r)) := by
    obtain ⟨σ', v, k1, k2⟩ := h_m_law l w c9 s1 [.inr (.inr (some (10, 0)))] rfl hwf1 (lw_ok (t := []) (lw_v10 ck)) (Sg × Int32) retI (s2, r) (by
      show (m_law s1 ).bind (fun q => retI q.1 (some (.inl q.2))) = some (s2, r)
      have e9 : m_law s1  = some (s2, r) := em
      rw [e9]
      rfl)
    obtain ⟨rfl, rfl⟩ := retI_inv k1
    exact k2
  refine W.eq (g2 := F0 m 489 lsA [.int r]) rfl ?_
  refine lv_aload_n (k := 2) c1 c2 (by decide +kernel) rfl (lv_at hlv 1 rfl) ?_
  refine lw_call (ci := 10) (T := TX10) (as := []) (rest := [.int r]) C hM1 cwl_57 ⟨wl6_153, wl6_154⟩ ⟨rfl, rfl⟩ ⟨by decide, by decide⟩ hR1 hS1 (lw_v10 ck) rfl hlv.1 (Nat.le_of_ble_eq_true rfl) (by decide +kernel) ⟨by show cells + 7 * 1 + 7 * 0 ≤ _; omega, by show slots + 600 * 1 + 600 * 0 ≤ _; omega⟩ (fun H2 locs2 hR2 hS2 hwf2 => ?_)
  refine W.eq (g2 := F0 m 493 lsA [.int r, .int r]) rfl ?_
  refine lv_icmp_eq (off := 617) (tgt := 1110) c1 c2 (by decide +kernel) (by decide) (fun _ => ?_) (fun q => absurd rfl q)
  refine W.widen (k := cells + 7) (n := slots + 600) (by show cells + 7 * 1 + 7 * 0 ≤ _; omega) (by show slots + 600 * 1 + 600 * 0 ≤ _; omega) ?_
  exact kk s2 _ _ I2 hR2 hS2 hwf2
set_option maxRecDepth 20000 in
theorem lc_10 {p : Program} {l : Launch} {e : Env} {s : State} {m : MethodId} {below : List Frame} {meth : Method} {c : Code} {b L : Nat} {xs : Nat → Int32} {w : g_W} {H : Heap} {locs : List Loc} {cells slots : Nat} {lsA : Array Slot} {Q : State → Prop} {σ : Sg} {x3 : Int32} (C : lw_C p s m c b L xs w) (hI : Inv σ σ) (hR : g_Rep w σ H) (hS : va_S (wA w) s.heap H locs) (hwf : g_wf w σ) (hlv : lv_has lsA 4 [(3, .int x3), (2, .ref (wr w 10 0)), (1, .ref (wr w 9 0)), (0, .ref b)]) (hx : lw_ix x3 L) (hc : cells + 7 ≤ 600000) (hs : slots + 600 ≤ 7302250)
    (kk : ∀ (σ2 : Sg) (H1 : Heap) (locs1 : List Loc), Inv σ2 σ2 → g_Rep w σ2 H1 → va_S (wA w) s.heap H1 locs1 → g_wf w σ2 → W p l e room_1 s m #[Value.ref b] below meth c H1 locs1 (cells + 7) (slots + 600) Q (F0 m 1110 lsA [])) :
    W p l e room_1 s m #[Value.ref b] below meth c H locs cells slots Q (F0 m 498 lsA []) := by
  have C0 := C
  obtain ⟨c1, c2, c3, c6, c7, c8, c9, ck, c14, cX, cb, cA⟩ := C0
  obtain ⟨x1, x2, x3', x4, x5⟩ := hx
  obtain ⟨s1, s2, r, ex, em, I2⟩ := lw_join (Lx := (FP_x9_orders)) (Lm := FP_m_orders) (m := fun t => m_orders t ) hI (fun sm I => c_orders I) rfl (fr_x9_orders _ ) rfl (fun t => fr_m_orders t )
  have hM0 : g_Mt l yX9_orders M_x9_orders w σ [.inr (.inr (some (9, 0)))] s1 (some (.inl r)) := by
    obtain ⟨σ', v, k1, k2⟩ := h_x9_orders l w c9 σ [.inr (.inr (some (9, 0)))] rfl hwf (lw_ok (t := []) (lw_v9 ck)) (Sg × Int32) retI (s1, r) (by
      show (x9_orders σ ).bind (fun q => retI q.1 (some (.inl q.2))) = some (s1, r)
      have e9 : x9_orders σ  = some (s1, r) := ex
      rw [e9]
      rfl)
    obtain ⟨rfl, rfl⟩ := retI_inv k1
    exact k2
  refine lv_aload_n (k := 1) c1 c2 (by decide +kernel) rfl (lv_at hlv 2 rfl) ?_
  refine lw_call (ci := 9) (T := TX9) (as := []) (rest := []) C hM0 cwl_58 ⟨wl4_13, wl4_14⟩ ⟨rfl, rfl⟩ ⟨by decide, by decide⟩ hR hS (lw_v9 ck) rfl hlv.1 (Nat.le_of_ble_eq_true rfl) (by decide +kernel) ⟨by show cells + 7 * 0 ≤ _; omega, by show slots + 600 * 0 ≤ _; omega⟩ (fun H1 locs1 hR1 hS1 hwf1 => ?_)
  have hM1 : g_Mt l yX10_orders M_m_orders w s1 [.inr (.inr (some (10, 0)))] s2 (some (.inl r)) := by
    obtain ⟨σ', v, k1, k2⟩ := h_m_orders l w c9 s1 [.inr (.inr (some (10, 0)))] rfl hwf1 (lw_ok (t := []) (lw_v10 ck)) (Sg × Int32) retI (s2, r) (by
      show (m_orders s1 ).bind (fun q => retI q.1 (some (.inl q.2))) = some (s2, r)
      have e9 : m_orders s1  = some (s2, r) := em
      rw [e9]
      rfl)
    obtain ⟨rfl, rfl⟩ := retI_inv k1
    exact k2
  refine W.eq (g2 := F0 m 502 lsA [.int r]) rfl ?_
  refine lv_aload_n (k := 2) c1 c2 (by decide +kernel) rfl (lv_at hlv 1 rfl) ?_
  refine lw_call (ci := 10) (T := TX10) (as := []) (rest := [.int r]) C hM1 cwl_61 ⟨wl8_66, wl8_67⟩ ⟨rfl, rfl⟩ ⟨by decide, by decide⟩ hR1 hS1 (lw_v10 ck) rfl hlv.1 (Nat.le_of_ble_eq_true rfl) (by decide +kernel) ⟨by show cells + 7 * 0 + 7 * 0 ≤ _; omega, by show slots + 600 * 0 + 600 * 0 ≤ _; omega⟩ (fun H2 locs2 hR2 hS2 hwf2 => ?_)
  refine W.eq (g2 := F0 m 506 lsA [.int r, .int r]) rfl ?_
  refine lv_icmp_eq (off := 604) (tgt := 1110) c1 c2 (by decide +kernel) (by decide) (fun _ => ?_) (fun q => absurd rfl q)
  refine W.widen (k := cells + 7) (n := slots + 600) (by show cells + 7 * 0 + 7 * 0 ≤ _; omega) (by show slots + 600 * 0 + 600 * 0 ≤ _; omega) ?_
  exact kk s2 _ _ I2 hR2 hS2 hwf2
set_option maxRecDepth 20000 in
theorem lc_11 {p : Program} {l : Launch} {e : Env} {s : State} {m : MethodId} {below : List Frame} {meth : Method} {c : Code} {b L : Nat} {xs : Nat → Int32} {w : g_W} {H : Heap} {locs : List Loc} {cells slots : Nat} {lsA : Array Slot} {Q : State → Prop} {σ : Sg} {x3 : Int32} (C : lw_C p s m c b L xs w) (hI : Inv σ σ) (hR : g_Rep w σ H) (hS : va_S (wA w) s.heap H locs) (hwf : g_wf w σ) (hlv : lv_has lsA 4 [(3, .int x3), (2, .ref (wr w 10 0)), (1, .ref (wr w 9 0)), (0, .ref b)]) (hx : lw_ix x3 L) (hc : cells + 7 ≤ 600000) (hs : slots + 600 ≤ 7302250)
    (kk : ∀ (σ2 : Sg) (H1 : Heap) (locs1 : List Loc), Inv σ2 σ2 → g_Rep w σ2 H1 → va_S (wA w) s.heap H1 locs1 → g_wf w σ2 → W p l e room_1 s m #[Value.ref b] below meth c H1 locs1 (cells + 7) (slots + 600) Q (F0 m 1110 lsA [])) :
    W p l e room_1 s m #[Value.ref b] below meth c H locs cells slots Q (F0 m 511 lsA []) := by
  have C0 := C
  obtain ⟨c1, c2, c3, c6, c7, c8, c9, ck, c14, cX, cb, cA⟩ := C0
  obtain ⟨x1, x2, x3', x4, x5⟩ := hx
  obtain ⟨s1, s2, r, ex, em, I2⟩ := lw_join (Lx := (FP_x9_fault)) (Lm := FP_m_fault) (m := fun t => m_fault t ) hI (fun sm I => c_fault I) rfl (fr_x9_fault _ ) rfl (fun t => fr_m_fault t )
  have hM0 : g_Mt l yX9_fault M_x9_fault w σ [.inr (.inr (some (9, 0)))] s1 (some (.inl r)) := by
    obtain ⟨σ', v, k1, k2⟩ := h_x9_fault l w c9 σ [.inr (.inr (some (9, 0)))] rfl hwf (lw_ok (t := []) (lw_v9 ck)) (Sg × Int32) retI (s1, r) (by
      show (x9_fault σ ).bind (fun q => retI q.1 (some (.inl q.2))) = some (s1, r)
      have e9 : x9_fault σ  = some (s1, r) := ex
      rw [e9]
      rfl)
    obtain ⟨rfl, rfl⟩ := retI_inv k1
    exact k2
  refine lv_aload_n (k := 1) c1 c2 (by decide +kernel) rfl (lv_at hlv 2 rfl) ?_
  refine lw_call (ci := 9) (T := TX9) (as := []) (rest := []) C hM0 cwl_62 ⟨wl4_78, wl4_79⟩ ⟨rfl, rfl⟩ ⟨by decide, by decide⟩ hR hS (lw_v9 ck) rfl hlv.1 (Nat.le_of_ble_eq_true rfl) (by decide +kernel) ⟨by show cells + 7 * 0 ≤ _; omega, by show slots + 600 * 0 ≤ _; omega⟩ (fun H1 locs1 hR1 hS1 hwf1 => ?_)
  have hM1 : g_Mt l yX10_fault M_m_fault w s1 [.inr (.inr (some (10, 0)))] s2 (some (.inl r)) := by
    obtain ⟨σ', v, k1, k2⟩ := h_m_fault l w c9 s1 [.inr (.inr (some (10, 0)))] rfl hwf1 (lw_ok (t := []) (lw_v10 ck)) (Sg × Int32) retI (s2, r) (by
      show (m_fault s1 ).bind (fun q => retI q.1 (some (.inl q.2))) = some (s2, r)
      have e9 : m_fault s1  = some (s2, r) := em
      rw [e9]
      rfl)
    obtain ⟨rfl, rfl⟩ := retI_inv k1
    exact k2
  refine W.eq (g2 := F0 m 515 lsA [.int r]) rfl ?_
  refine lv_aload_n (k := 2) c1 c2 (by decide +kernel) rfl (lv_at hlv 1 rfl) ?_
  refine lw_call (ci := 10) (T := TX10) (as := []) (rest := [.int r]) C hM1 cwl_65 ⟨wl7_11, wl7_12⟩ ⟨rfl, rfl⟩ ⟨by decide, by decide⟩ hR1 hS1 (lw_v10 ck) rfl hlv.1 (Nat.le_of_ble_eq_true rfl) (by decide +kernel) ⟨by show cells + 7 * 0 + 7 * 0 ≤ _; omega, by show slots + 600 * 0 + 600 * 0 ≤ _; omega⟩ (fun H2 locs2 hR2 hS2 hwf2 => ?_)
  refine W.eq (g2 := F0 m 519 lsA [.int r, .int r]) rfl ?_
  refine lv_icmp_eq (off := 591) (tgt := 1110) c1 c2 (by decide +kernel) (by decide) (fun _ => ?_) (fun q => absurd rfl q)
  refine W.widen (k := cells + 7) (n := slots + 600) (by show cells + 7 * 0 + 7 * 0 ≤ _; omega) (by show slots + 600 * 0 + 600 * 0 ≤ _; omega) ?_
  exact kk s2 _ _ I2 hR2 hS2 hwf2
set_option maxRecDepth 20000 in
theorem lc_12 {p : Program} {l : Launch} {e : Env} {s : State} {m : MethodId} {below : List Frame} {meth : Method} {c : Code} {b L : Nat} {xs : Nat → Int32} {w : g_W} {H : Heap} {locs : List Loc} {cells slots : Nat} {lsA : Array Slot} {Q : State → Prop} {σ : Sg} {x3 : Int32} (C : lw_C p s m c b L xs w) (hI : Inv σ σ) (hR : g_Rep w σ H) (hS : va_S (wA w) s.heap H locs) (hwf : g_wf w σ) (hlv : lv_has lsA 4 [(3, .int x3), (2, .ref (wr w 10 0)), (1, .ref (wr w 9 0)), (0, .ref b)]) (hx : lw_ix x3 L) (hc : cells + 7 ≤ 600000) (hs : slots + 600 ≤ 7302250)
    (kk : ∀ (σ2 : Sg) (H1 : Heap) (locs1 : List Loc), Inv σ2 σ2 → g_Rep w σ2 H1 → va_S (wA w) s.heap H1 locs1 → g_wf w σ2 → W p l e room_1 s m #[Value.ref b] below meth c H1 locs1 (cells + 7) (slots + 600) Q (F0 m 1110 lsA [])) :
    W p l e room_1 s m #[Value.ref b] below meth c H locs cells slots Q (F0 m 524 lsA []) := by
  have C0 := C
  obtain ⟨c1, c2, c3, c6, c7, c8, c9, ck, c14, cX, cb, cA⟩ := C0
  obtain ⟨x1, x2, x3', x4, x5⟩ := hx
  obtain ⟨s1, s2, r, ex, em, I2⟩ := lw_join (Lx := (FP_x9_stopped)) (Lm := FP_m_stopped) (m := fun t => m_stopped t ) hI (fun sm I => c_stopped I) rfl (fr_x9_stopped _ ) rfl (fun t => fr_m_stopped t )
  have hM0 : g_Mt l yX9_stopped M_x9_stopped w σ [.inr (.inr (some (9, 0)))] s1 (some (.inl r)) := by
    obtain ⟨σ', v, k1, k2⟩ := h_x9_stopped l w c9 σ [.inr (.inr (some (9, 0)))] rfl hwf (lw_ok (t := []) (lw_v9 ck)) (Sg × Int32) retI (s1, r) (by
      show (x9_stopped σ ).bind (fun q => retI q.1 (some (.inl q.2))) = some (s1, r)
      have e9 : x9_stopped σ  = some (s1, r) := ex
      rw [e9]
      rfl)
    obtain ⟨rfl, rfl⟩ := retI_inv k1
    exact k2
  refine lv_aload_n (k := 1) c1 c2 (by decide +kernel) rfl (lv_at hlv 2 rfl) ?_
  refine lw_call (ci := 9) (T := TX9) (as := []) (rest := []) C hM0 cwl_66 ⟨wl4_82, wl4_83⟩ ⟨rfl, rfl⟩ ⟨by decide, by decide⟩ hR hS (lw_v9 ck) rfl hlv.1 (Nat.le_of_ble_eq_true rfl) (by decide +kernel) ⟨by show cells + 7 * 0 ≤ _; omega, by show slots + 600 * 0 ≤ _; omega⟩ (fun H1 locs1 hR1 hS1 hwf1 => ?_)
  have hM1 : g_Mt l yX10_stopped M_m_stopped w s1 [.inr (.inr (some (10, 0)))] s2 (some (.inl r)) := by
    obtain ⟨σ', v, k1, k2⟩ := h_m_stopped l w c9 s1 [.inr (.inr (some (10, 0)))] rfl hwf1 (lw_ok (t := []) (lw_v10 ck)) (Sg × Int32) retI (s2, r) (by
      show (m_stopped s1 ).bind (fun q => retI q.1 (some (.inl q.2))) = some (s2, r)
      have e9 : m_stopped s1  = some (s2, r) := em
      rw [e9]
      rfl)
    obtain ⟨rfl, rfl⟩ := retI_inv k1
    exact k2
  refine W.eq (g2 := F0 m 528 lsA [.int r]) rfl ?_
  refine lv_aload_n (k := 2) c1 c2 (by decide +kernel) rfl (lv_at hlv 1 rfl) ?_
  refine lw_call (ci := 10) (T := TX10) (as := []) (rest := [.int r]) C hM1 cwl_69 ⟨wl8_62, wl8_63⟩ ⟨rfl, rfl⟩ ⟨by decide, by decide⟩ hR1 hS1 (lw_v10 ck) rfl hlv.1 (Nat.le_of_ble_eq_true rfl) (by decide +kernel) ⟨by show cells + 7 * 0 + 7 * 0 ≤ _; omega, by show slots + 600 * 0 + 600 * 0 ≤ _; omega⟩ (fun H2 locs2 hR2 hS2 hwf2 => ?_)
  refine W.eq (g2 := F0 m 532 lsA [.int r, .int r]) rfl ?_
  refine lv_icmp_eq (off := 578) (tgt := 1110) c1 c2 (by decide +kernel) (by decide) (fun _ => ?_) (fun q => absurd rfl q)
  refine W.widen (k := cells + 7) (n := slots + 600) (by show cells + 7 * 0 + 7 * 0 ≤ _; omega) (by show slots + 600 * 0 + 600 * 0 ≤ _; omega) ?_
  exact kk s2 _ _ I2 hR2 hS2 hwf2
set_option maxRecDepth 20000 in
theorem lc_13 {p : Program} {l : Launch} {e : Env} {s : State} {m : MethodId} {below : List Frame} {meth : Method} {c : Code} {b L : Nat} {xs : Nat → Int32} {w : g_W} {H : Heap} {locs : List Loc} {cells slots : Nat} {lsA : Array Slot} {Q : State → Prop} {σ : Sg} {x3 : Int32} (C : lw_C p s m c b L xs w) (hI : Inv σ σ) (hR : g_Rep w σ H) (hS : va_S (wA w) s.heap H locs) (hwf : g_wf w σ) (hlv : lv_has lsA 4 [(3, .int x3), (2, .ref (wr w 10 0)), (1, .ref (wr w 9 0)), (0, .ref b)]) (hx : lw_ix x3 L) (hc : cells + 7 ≤ 600000) (hs : slots + 600 ≤ 7302250)
    (kk : ∀ (σ2 : Sg) (H1 : Heap) (locs1 : List Loc), Inv σ2 σ2 → g_Rep w σ2 H1 → va_S (wA w) s.heap H1 locs1 → g_wf w σ2 → W p l e room_1 s m #[Value.ref b] below meth c H1 locs1 (cells + 7) (slots + 600) Q (F0 m 1110 lsA [])) :
    W p l e room_1 s m #[Value.ref b] below meth c H locs cells slots Q (F0 m 537 lsA []) := by
  have C0 := C
  obtain ⟨c1, c2, c3, c6, c7, c8, c9, ck, c14, cX, cb, cA⟩ := C0
  obtain ⟨x1, x2, x3', x4, x5⟩ := hx
  obtain ⟨s1, s2, r, ex, em, I2⟩ := lw_join (Lx := (FP_x9_force)) (Lm := FP_m_force) (m := fun t => m_force t (xs (x3 + 1).toNatClampNeg)) hI (fun sm I => c_force I (xs (x3 + 1).toNatClampNeg)) rfl (fr_x9_force _ _) rfl (fun t => fr_m_force t _)
  have hM0 : g_Mt l yX9_force M_x9_force w σ [.inr (.inr (some (9, 0))), .inl (xs (x3 + 1).toNatClampNeg)] s1 (some (.inl r)) := by
    obtain ⟨σ', v, k1, k2⟩ := h_x9_force l w c9 σ [.inr (.inr (some (9, 0))), .inl (xs (x3 + 1).toNatClampNeg)] rfl hwf (lw_ok (t := [(xs (x3 + 1).toNatClampNeg)]) (lw_v9 ck)) (Sg × Int32) retI (s1, r) (by
      show (x9_force σ (xs (x3 + 1).toNatClampNeg)).bind (fun q => retI q.1 (some (.inl q.2))) = some (s1, r)
      have e9 : x9_force σ (xs (x3 + 1).toNatClampNeg) = some (s1, r) := ex
      rw [e9]
      rfl)
    obtain ⟨rfl, rfl⟩ := retI_inv k1
    exact k2
  refine lv_aload_n (k := 1) c1 c2 (by decide +kernel) rfl (lv_at hlv 2 rfl) ?_
  refine lv_aload_n (k := 0) c1 c2 (by decide +kernel) rfl (lv_at hlv 3 rfl) ?_
  refine lv_iload_n (k := 3) c1 c2 (by decide +kernel) rfl (lv_at hlv 0 rfl) ?_
  refine lv_iconst (n := 1) (v := 1) c1 c2 (by decide +kernel) (by decide +kernel) ?_
  refine lv_iadd c1 c2 (by decide +kernel) ?_
  refine va_sld c1 c2 cX cb cA hS x1 (by decide +kernel) ?_
  refine lw_call (ci := 9) (T := TX9) (as := [.inl (xs (x3 + 1).toNatClampNeg)]) (rest := []) C hM0 cwl_70 ⟨wl4_86, wl4_87⟩ ⟨rfl, rfl⟩ ⟨by decide, by decide⟩ hR hS (lw_v9 ck) rfl hlv.1 (Nat.le_of_ble_eq_true rfl) (by decide +kernel) ⟨by show cells + 7 * 0 ≤ _; omega, by show slots + 600 * 0 ≤ _; omega⟩ (fun H1 locs1 hR1 hS1 hwf1 => ?_)
  have hM1 : g_Mt l yX10_force M_m_force w s1 [.inr (.inr (some (10, 0))), .inl (xs (x3 + 1).toNatClampNeg)] s2 (some (.inl r)) := by
    obtain ⟨σ', v, k1, k2⟩ := h_m_force l w c9 s1 [.inr (.inr (some (10, 0))), .inl (xs (x3 + 1).toNatClampNeg)] rfl hwf1 (lw_ok (t := [(xs (x3 + 1).toNatClampNeg)]) (lw_v10 ck)) (Sg × Int32) retI (s2, r) (by
      show (m_force s1 (xs (x3 + 1).toNatClampNeg)).bind (fun q => retI q.1 (some (.inl q.2))) = some (s2, r)
      have e9 : m_force s1 (xs (x3 + 1).toNatClampNeg) = some (s2, r) := em
      rw [e9]
      rfl)
    obtain ⟨rfl, rfl⟩ := retI_inv k1
    exact k2
  refine W.eq (g2 := F0 m 546 lsA [.int r]) rfl ?_
  refine lv_aload_n (k := 2) c1 c2 (by decide +kernel) rfl (lv_at hlv 1 rfl) ?_
  refine lv_aload_n (k := 0) c1 c2 (by decide +kernel) rfl (lv_at hlv 3 rfl) ?_
  refine lv_iload_n (k := 3) c1 c2 (by decide +kernel) rfl (lv_at hlv 0 rfl) ?_
  refine lv_iconst (n := 1) (v := 1) c1 c2 (by decide +kernel) (by decide +kernel) ?_
  refine lv_iadd c1 c2 (by decide +kernel) ?_
  refine va_sld c1 c2 cX cb cA hS1 x1 (by decide +kernel) ?_
  refine lw_call (ci := 10) (T := TX10) (as := [.inl (xs (x3 + 1).toNatClampNeg)]) (rest := [.int r]) C hM1 cwl_73 ⟨wl7_15, wl7_16⟩ ⟨rfl, rfl⟩ ⟨by decide, by decide⟩ hR1 hS1 (lw_v10 ck) rfl hlv.1 (Nat.le_of_ble_eq_true rfl) (by decide +kernel) ⟨by show cells + 7 * 0 + 7 * 0 ≤ _; omega, by show slots + 600 * 0 + 600 * 0 ≤ _; omega⟩ (fun H2 locs2 hR2 hS2 hwf2 => ?_)
  refine W.eq (g2 := F0 m 555 lsA [.int r, .int r]) rfl ?_
  refine lv_icmp_eq (off := 555) (tgt := 1110) c1 c2 (by decide +kernel) (by decide) (fun _ => ?_) (fun q => absurd rfl q)
  refine W.widen (k := cells + 7) (n := slots + 600) (by show cells + 7 * 0 + 7 * 0 ≤ _; omega) (by show slots + 600 * 0 + 600 * 0 ≤ _; omega) ?_
  exact kk s2 _ _ I2 hR2 hS2 hwf2
set_option maxRecDepth 20000 in
theorem lc_14 {p : Program} {l : Launch} {e : Env} {s : State} {m : MethodId} {below : List Frame} {meth : Method} {c : Code} {b L : Nat} {xs : Nat → Int32} {w : g_W} {H : Heap} {locs : List Loc} {cells slots : Nat} {lsA : Array Slot} {Q : State → Prop} {σ : Sg} {x3 : Int32} (C : lw_C p s m c b L xs w) (hI : Inv σ σ) (hR : g_Rep w σ H) (hS : va_S (wA w) s.heap H locs) (hwf : g_wf w σ) (hlv : lv_has lsA 4 [(3, .int x3), (2, .ref (wr w 10 0)), (1, .ref (wr w 9 0)), (0, .ref b)]) (hx : lw_ix x3 L) (hc : cells + 7 ≤ 600000) (hs : slots + 600 ≤ 7302250)
    (kk : ∀ (σ2 : Sg) (H1 : Heap) (locs1 : List Loc), Inv σ2 σ2 → g_Rep w σ2 H1 → va_S (wA w) s.heap H1 locs1 → g_wf w σ2 → W p l e room_1 s m #[Value.ref b] below meth c H1 locs1 (cells + 7) (slots + 600) Q (F0 m 1110 lsA [])) :
    W p l e room_1 s m #[Value.ref b] below meth c H locs cells slots Q (F0 m 560 lsA []) := by
  have C0 := C
  obtain ⟨c1, c2, c3, c6, c7, c8, c9, ck, c14, cX, cb, cA⟩ := C0
  obtain ⟨x1, x2, x3', x4, x5⟩ := hx
  obtain ⟨s1, s2, r, ex, em, I2⟩ := lw_join (Lx := (FP_x9_stop)) (Lm := FP_m_stop) (m := fun t => m_stop t (xs (x3 + 1).toNatClampNeg)) hI (fun sm I => c_stop I (xs (x3 + 1).toNatClampNeg)) rfl (fr_x9_stop _ _) rfl (fun t => fr_m_stop t _)
  have hM0 : g_Mt l yX9_stop M_x9_stop w σ [.inr (.inr (some (9, 0))), .inl (xs (x3 + 1).toNatClampNeg)] s1 (some (.inl r)) := by
    obtain ⟨σ', v, k1, k2⟩ := h_x9_stop l w c9 σ [.inr (.inr (some (9, 0))), .inl (xs (x3 + 1).toNatClampNeg)] rfl hwf (lw_ok (t := [(xs (x3 + 1).toNatClampNeg)]) (lw_v9 ck)) (Sg × Int32) retI (s1, r) (by
      show (x9_stop σ (xs (x3 + 1).toNatClampNeg)).bind (fun q => retI q.1 (some (.inl q.2))) = some (s1, r)
      have e9 : x9_stop σ (xs (x3 + 1).toNatClampNeg) = some (s1, r) := ex
      rw [e9]
      rfl)
    obtain ⟨rfl, rfl⟩ := retI_inv k1
    exact k2
  refine lv_aload_n (k := 1) c1 c2 (by decide +kernel) rfl (lv_at hlv 2 rfl) ?_
  refine lv_aload_n (k := 0) c1 c2 (by decide +kernel) rfl (lv_at hlv 3 rfl) ?_
  refine lv_iload_n (k := 3) c1 c2 (by decide +kernel) rfl (lv_at hlv 0 rfl) ?_
  refine lv_iconst (n := 1) (v := 1) c1 c2 (by decide +kernel) (by decide +kernel) ?_
  refine lv_iadd c1 c2 (by decide +kernel) ?_
  refine va_sld c1 c2 cX cb cA hS x1 (by decide +kernel) ?_
  refine lw_call (ci := 9) (T := TX9) (as := [.inl (xs (x3 + 1).toNatClampNeg)]) (rest := []) C hM0 cwl_74 ⟨wl4_94, wl4_95⟩ ⟨rfl, rfl⟩ ⟨by decide, by decide⟩ hR hS (lw_v9 ck) rfl hlv.1 (Nat.le_of_ble_eq_true rfl) (by decide +kernel) ⟨by show cells + 7 * 0 ≤ _; omega, by show slots + 600 * 0 ≤ _; omega⟩ (fun H1 locs1 hR1 hS1 hwf1 => ?_)
  have hM1 : g_Mt l yX10_stop M_m_stop w s1 [.inr (.inr (some (10, 0))), .inl (xs (x3 + 1).toNatClampNeg)] s2 (some (.inl r)) := by
    obtain ⟨σ', v, k1, k2⟩ := h_m_stop l w c9 s1 [.inr (.inr (some (10, 0))), .inl (xs (x3 + 1).toNatClampNeg)] rfl hwf1 (lw_ok (t := [(xs (x3 + 1).toNatClampNeg)]) (lw_v10 ck)) (Sg × Int32) retI (s2, r) (by
      show (m_stop s1 (xs (x3 + 1).toNatClampNeg)).bind (fun q => retI q.1 (some (.inl q.2))) = some (s2, r)
      have e9 : m_stop s1 (xs (x3 + 1).toNatClampNeg) = some (s2, r) := em
      rw [e9]
      rfl)
    obtain ⟨rfl, rfl⟩ := retI_inv k1
    exact k2
  refine W.eq (g2 := F0 m 569 lsA [.int r]) rfl ?_
  refine lv_aload_n (k := 2) c1 c2 (by decide +kernel) rfl (lv_at hlv 1 rfl) ?_
  refine lv_aload_n (k := 0) c1 c2 (by decide +kernel) rfl (lv_at hlv 3 rfl) ?_
  refine lv_iload_n (k := 3) c1 c2 (by decide +kernel) rfl (lv_at hlv 0 rfl) ?_
  refine lv_iconst (n := 1) (v := 1) c1 c2 (by decide +kernel) (by decide +kernel) ?_
  refine lv_iadd c1 c2 (by decide +kernel) ?_
  refine va_sld c1 c2 cX cb cA hS1 x1 (by decide +kernel) ?_
  refine lw_call (ci := 10) (T := TX10) (as := [.inl (xs (x3 + 1).toNatClampNeg)]) (rest := [.int r]) C hM1 cwl_77 ⟨wl7_107, wl7_108⟩ ⟨rfl, rfl⟩ ⟨by decide, by decide⟩ hR1 hS1 (lw_v10 ck) rfl hlv.1 (Nat.le_of_ble_eq_true rfl) (by decide +kernel) ⟨by show cells + 7 * 0 + 7 * 0 ≤ _; omega, by show slots + 600 * 0 + 600 * 0 ≤ _; omega⟩ (fun H2 locs2 hR2 hS2 hwf2 => ?_)
  refine W.eq (g2 := F0 m 578 lsA [.int r, .int r]) rfl ?_
  refine lv_icmp_eq (off := 532) (tgt := 1110) c1 c2 (by decide +kernel) (by decide) (fun _ => ?_) (fun q => absurd rfl q)
  refine W.widen (k := cells + 7) (n := slots + 600) (by show cells + 7 * 0 + 7 * 0 ≤ _; omega) (by show slots + 600 * 0 + 600 * 0 ≤ _; omega) ?_
  exact kk s2 _ _ I2 hR2 hS2 hwf2
set_option maxRecDepth 20000 in
theorem lc_15 {p : Program} {l : Launch} {e : Env} {s : State} {m : MethodId} {below : List Frame} {meth : Method} {c : Code} {b L : Nat} {xs : Nat → Int32} {w : g_W} {H : Heap} {locs : List Loc} {cells slots : Nat} {lsA : Array Slot} {Q : State → Prop} {σ : Sg} {x3 : Int32} (C : lw_C p s m c b L xs w) (hI : Inv σ σ) (hR : g_Rep w σ H) (hS : va_S (wA w) s.heap H locs) (hwf : g_wf w σ) (hlv : lv_has lsA 4 [(3, .int x3), (2, .ref (wr w 10 0)), (1, .ref (wr w 9 0)), (0, .ref b)]) (hx : lw_ix x3 L) (hc : cells + 7 ≤ 600000) (hs : slots + 600 ≤ 7302250)
    (kk : ∀ (σ2 : Sg) (H1 : Heap) (locs1 : List Loc), Inv σ2 σ2 → g_Rep w σ2 H1 → va_S (wA w) s.heap H1 locs1 → g_wf w σ2 → W p l e room_1 s m #[Value.ref b] below meth c H1 locs1 (cells + 7) (slots + 600) Q (F0 m 1110 lsA [])) :
    W p l e room_1 s m #[Value.ref b] below meth c H locs cells slots Q (F0 m 583 lsA []) := by
  have C0 := C
  obtain ⟨c1, c2, c3, c6, c7, c8, c9, ck, c14, cX, cb, cA⟩ := C0
  obtain ⟨x1, x2, x3', x4, x5⟩ := hx
  obtain ⟨s1, s2, r, ex, em, I2⟩ := lw_join (Lx := (FP_x9_split)) (Lm := FP_m_split) (m := fun t => m_split t (xs (x3 + 1).toNatClampNeg)) hI (fun sm I => c_split I (xs (x3 + 1).toNatClampNeg)) rfl (fr_x9_split _ _) rfl (fun t => fr_m_split t _)
  have hM0 : g_Mt l yX9_split M_x9_split w σ [.inr (.inr (some (9, 0))), .inl (xs (x3 + 1).toNatClampNeg)] s1 (some (.inl r)) := by
    obtain ⟨σ', v, k1, k2⟩ := h_x9_split l w c9 σ [.inr (.inr (some (9, 0))), .inl (xs (x3 + 1).toNatClampNeg)] rfl hwf (lw_ok (t := [(xs (x3 + 1).toNatClampNeg)]) (lw_v9 ck)) (Sg × Int32) retI (s1, r) (by
      show (x9_split σ (xs (x3 + 1).toNatClampNeg)).bind (fun q => retI q.1 (some (.inl q.2))) = some (s1, r)
      have e9 : x9_split σ (xs (x3 + 1).toNatClampNeg) = some (s1, r) := ex
      rw [e9]
      rfl)
    obtain ⟨rfl, rfl⟩ := retI_inv k1
    exact k2
  refine lv_aload_n (k := 1) c1 c2 (by decide +kernel) rfl (lv_at hlv 2 rfl) ?_
  refine lv_aload_n (k := 0) c1 c2 (by decide +kernel) rfl (lv_at hlv 3 rfl) ?_
  refine lv_iload_n (k := 3) c1 c2 (by decide +kernel) rfl (lv_at hlv 0 rfl) ?_
  refine lv_iconst (n := 1) (v := 1) c1 c2 (by decide +kernel) (by decide +kernel) ?_
  refine lv_iadd c1 c2 (by decide +kernel) ?_
  refine va_sld c1 c2 cX cb cA hS x1 (by decide +kernel) ?_
  refine lw_call (ci := 9) (T := TX9) (as := [.inl (xs (x3 + 1).toNatClampNeg)]) (rest := []) C hM0 cwl_78 ⟨wl4_99, wl4_100⟩ ⟨rfl, rfl⟩ ⟨by decide, by decide⟩ hR hS (lw_v9 ck) rfl hlv.1 (Nat.le_of_ble_eq_true rfl) (by decide +kernel) ⟨by show cells + 7 * 0 ≤ _; omega, by show slots + 600 * 0 ≤ _; omega⟩ (fun H1 locs1 hR1 hS1 hwf1 => ?_)
  have hM1 : g_Mt l yX10_split M_m_split w s1 [.inr (.inr (some (10, 0))), .inl (xs (x3 + 1).toNatClampNeg)] s2 (some (.inl r)) := by
    obtain ⟨σ', v, k1, k2⟩ := h_m_split l w c9 s1 [.inr (.inr (some (10, 0))), .inl (xs (x3 + 1).toNatClampNeg)] rfl hwf1 (lw_ok (t := [(xs (x3 + 1).toNatClampNeg)]) (lw_v10 ck)) (Sg × Int32) retI (s2, r) (by
      show (m_split s1 (xs (x3 + 1).toNatClampNeg)).bind (fun q => retI q.1 (some (.inl q.2))) = some (s2, r)
      have e9 : m_split s1 (xs (x3 + 1).toNatClampNeg) = some (s2, r) := em
      rw [e9]
      rfl)
    obtain ⟨rfl, rfl⟩ := retI_inv k1
    exact k2
  refine W.eq (g2 := F0 m 592 lsA [.int r]) rfl ?_
  refine lv_aload_n (k := 2) c1 c2 (by decide +kernel) rfl (lv_at hlv 1 rfl) ?_
  refine lv_aload_n (k := 0) c1 c2 (by decide +kernel) rfl (lv_at hlv 3 rfl) ?_
  refine lv_iload_n (k := 3) c1 c2 (by decide +kernel) rfl (lv_at hlv 0 rfl) ?_
  refine lv_iconst (n := 1) (v := 1) c1 c2 (by decide +kernel) (by decide +kernel) ?_
  refine lv_iadd c1 c2 (by decide +kernel) ?_
  refine va_sld c1 c2 cX cb cA hS1 x1 (by decide +kernel) ?_
  refine lw_call (ci := 10) (T := TX10) (as := [.inl (xs (x3 + 1).toNatClampNeg)]) (rest := [.int r]) C hM1 cwl_81 ⟨wl7_123, wl7_124⟩ ⟨rfl, rfl⟩ ⟨by decide, by decide⟩ hR1 hS1 (lw_v10 ck) rfl hlv.1 (Nat.le_of_ble_eq_true rfl) (by decide +kernel) ⟨by show cells + 7 * 0 + 7 * 0 ≤ _; omega, by show slots + 600 * 0 + 600 * 0 ≤ _; omega⟩ (fun H2 locs2 hR2 hS2 hwf2 => ?_)
  refine W.eq (g2 := F0 m 601 lsA [.int r, .int r]) rfl ?_
  refine lv_icmp_eq (off := 509) (tgt := 1110) c1 c2 (by decide +kernel) (by decide) (fun _ => ?_) (fun q => absurd rfl q)
  refine W.widen (k := cells + 7) (n := slots + 600) (by show cells + 7 * 0 + 7 * 0 ≤ _; omega) (by show slots + 600 * 0 + 600 * 0 ≤ _; omega) ?_
  exact kk s2 _ _ I2 hR2 hS2 hwf2
set_option maxRecDepth 20000 in
theorem lc_16 {p : Program} {l : Launch} {e : Env} {s : State} {m : MethodId} {below : List Frame} {meth : Method} {c : Code} {b L : Nat} {xs : Nat → Int32} {w : g_W} {H : Heap} {locs : List Loc} {cells slots : Nat} {lsA : Array Slot} {Q : State → Prop} {σ : Sg} {x3 : Int32} (C : lw_C p s m c b L xs w) (hI : Inv σ σ) (hR : g_Rep w σ H) (hS : va_S (wA w) s.heap H locs) (hwf : g_wf w σ) (hlv : lv_has lsA 4 [(3, .int x3), (2, .ref (wr w 10 0)), (1, .ref (wr w 9 0)), (0, .ref b)]) (hx : lw_ix x3 L) (hc : cells + 7 ≤ 600000) (hs : slots + 600 ≤ 7302250)
    (kk : ∀ (σ2 : Sg) (H1 : Heap) (locs1 : List Loc), Inv σ2 σ2 → g_Rep w σ2 H1 → va_S (wA w) s.heap H1 locs1 → g_wf w σ2 → W p l e room_1 s m #[Value.ref b] below meth c H1 locs1 (cells + 7) (slots + 600) Q (F0 m 1110 lsA [])) :
    W p l e room_1 s m #[Value.ref b] below meth c H locs cells slots Q (F0 m 606 lsA []) := by
  have C0 := C
  obtain ⟨c1, c2, c3, c6, c7, c8, c9, ck, c14, cX, cb, cA⟩ := C0
  obtain ⟨x1, x2, x3', x4, x5⟩ := hx
  obtain ⟨s1, s2, r, ex, em, I2⟩ := lw_join (Lx := (FP_x9_swell)) (Lm := FP_m_swell) (m := fun t => m_swell t (xs (x3 + 1).toNatClampNeg) (xs (x3 + 2).toNatClampNeg)) hI (fun sm I => c_swell I (xs (x3 + 1).toNatClampNeg) (xs (x3 + 2).toNatClampNeg)) rfl (fr_x9_swell _ _ _) rfl (fun t => fr_m_swell t _ _)
  have hM0 : g_Mt l yX9_swell M_x9_swell w σ [.inr (.inr (some (9, 0))), .inl (xs (x3 + 1).toNatClampNeg), .inl (xs (x3 + 2).toNatClampNeg)] s1 (some (.inl r)) := by
    obtain ⟨σ', v, k1, k2⟩ := h_x9_swell l w c9 σ [.inr (.inr (some (9, 0))), .inl (xs (x3 + 1).toNatClampNeg), .inl (xs (x3 + 2).toNatClampNeg)] rfl hwf (lw_ok (t := [(xs (x3 + 1).toNatClampNeg), (xs (x3 + 2).toNatClampNeg)]) (lw_v9 ck)) (Sg × Int32) retI (s1, r) (by
      show (x9_swell σ (xs (x3 + 1).toNatClampNeg) (xs (x3 + 2).toNatClampNeg)).bind (fun q => retI q.1 (some (.inl q.2))) = some (s1, r)
      have e9 : x9_swell σ (xs (x3 + 1).toNatClampNeg) (xs (x3 + 2).toNatClampNeg) = some (s1, r) := ex
      rw [e9]
      rfl)
    obtain ⟨rfl, rfl⟩ := retI_inv k1
    exact k2
  refine lv_aload_n (k := 1) c1 c2 (by decide +kernel) rfl (lv_at hlv 2 rfl) ?_
  refine lv_aload_n (k := 0) c1 c2 (by decide +kernel) rfl (lv_at hlv 3 rfl) ?_
  refine lv_iload_n (k := 3) c1 c2 (by decide +kernel) rfl (lv_at hlv 0 rfl) ?_
  refine lv_iconst (n := 1) (v := 1) c1 c2 (by decide +kernel) (by decide +kernel) ?_
  refine lv_iadd c1 c2 (by decide +kernel) ?_
  refine va_sld c1 c2 cX cb cA hS x1 (by decide +kernel) ?_
  refine lv_aload_n (k := 0) c1 c2 (by decide +kernel) rfl (lv_at hlv 3 rfl) ?_
  refine lv_iload_n (k := 3) c1 c2 (by decide +kernel) rfl (lv_at hlv 0 rfl) ?_
  refine lv_iconst (n := 2) (v := 2) c1 c2 (by decide +kernel) (by decide +kernel) ?_
  refine lv_iadd c1 c2 (by decide +kernel) ?_
  refine va_sld c1 c2 cX cb cA hS x2 (by decide +kernel) ?_
  refine lw_call (ci := 9) (T := TX9) (as := [.inl (xs (x3 + 1).toNatClampNeg), .inl (xs (x3 + 2).toNatClampNeg)]) (rest := []) C hM0 cwl_82 ⟨wl4_103, wl4_104⟩ ⟨rfl, rfl⟩ ⟨by decide, by decide⟩ hR hS (lw_v9 ck) rfl hlv.1 (Nat.le_of_ble_eq_true rfl) (by decide +kernel) ⟨by show cells + 7 * 0 ≤ _; omega, by show slots + 600 * 0 ≤ _; omega⟩ (fun H1 locs1 hR1 hS1 hwf1 => ?_)
  have hM1 : g_Mt l yX10_swell M_m_swell w s1 [.inr (.inr (some (10, 0))), .inl (xs (x3 + 1).toNatClampNeg), .inl (xs (x3 + 2).toNatClampNeg)] s2 (some (.inl r)) := by
    obtain ⟨σ', v, k1, k2⟩ := h_m_swell l w c9 s1 [.inr (.inr (some (10, 0))), .inl (xs (x3 + 1).toNatClampNeg), .inl (xs (x3 + 2).toNatClampNeg)] rfl hwf1 (lw_ok (t := [(xs (x3 + 1).toNatClampNeg), (xs (x3 + 2).toNatClampNeg)]) (lw_v10 ck)) (Sg × Int32) retI (s2, r) (by
      show (m_swell s1 (xs (x3 + 1).toNatClampNeg) (xs (x3 + 2).toNatClampNeg)).bind (fun q => retI q.1 (some (.inl q.2))) = some (s2, r)
      have e9 : m_swell s1 (xs (x3 + 1).toNatClampNeg) (xs (x3 + 2).toNatClampNeg) = some (s2, r) := em
      rw [e9]
      rfl)
    obtain ⟨rfl, rfl⟩ := retI_inv k1
    exact k2
  refine W.eq (g2 := F0 m 620 lsA [.int r]) rfl ?_
  refine lv_aload_n (k := 2) c1 c2 (by decide +kernel) rfl (lv_at hlv 1 rfl) ?_
  refine lv_aload_n (k := 0) c1 c2 (by decide +kernel) rfl (lv_at hlv 3 rfl) ?_
  refine lv_iload_n (k := 3) c1 c2 (by decide +kernel) rfl (lv_at hlv 0 rfl) ?_
  refine lv_iconst (n := 1) (v := 1) c1 c2 (by decide +kernel) (by decide +kernel) ?_
  refine lv_iadd c1 c2 (by decide +kernel) ?_
  refine va_sld c1 c2 cX cb cA hS1 x1 (by decide +kernel) ?_
  refine lv_aload_n (k := 0) c1 c2 (by decide +kernel) rfl (lv_at hlv 3 rfl) ?_
  refine lv_iload_n (k := 3) c1 c2 (by decide +kernel) rfl (lv_at hlv 0 rfl) ?_
  refine lv_iconst (n := 2) (v := 2) c1 c2 (by decide +kernel) (by decide +kernel) ?_
  refine lv_iadd c1 c2 (by decide +kernel) ?_
  refine va_sld c1 c2 cX cb cA hS1 x2 (by decide +kernel) ?_
  refine lw_call (ci := 10) (T := TX10) (as := [.inl (xs (x3 + 1).toNatClampNeg), .inl (xs (x3 + 2).toNatClampNeg)]) (rest := [.int r]) C hM1 cwl_85 ⟨wl7_131, wl7_132⟩ ⟨rfl, rfl⟩ ⟨by decide, by decide⟩ hR1 hS1 (lw_v10 ck) rfl hlv.1 (Nat.le_of_ble_eq_true rfl) (by decide +kernel) ⟨by show cells + 7 * 0 + 7 * 0 ≤ _; omega, by show slots + 600 * 0 + 600 * 0 ≤ _; omega⟩ (fun H2 locs2 hR2 hS2 hwf2 => ?_)
  refine W.eq (g2 := F0 m 634 lsA [.int r, .int r]) rfl ?_
  refine lv_icmp_eq (off := 476) (tgt := 1110) c1 c2 (by decide +kernel) (by decide) (fun _ => ?_) (fun q => absurd rfl q)
  refine W.widen (k := cells + 7) (n := slots + 600) (by show cells + 7 * 0 + 7 * 0 ≤ _; omega) (by show slots + 600 * 0 + 600 * 0 ≤ _; omega) ?_
  exact kk s2 _ _ I2 hR2 hS2 hwf2
set_option maxRecDepth 20000 in
theorem lc_17 {p : Program} {l : Launch} {e : Env} {s : State} {m : MethodId} {below : List Frame} {meth : Method} {c : Code} {b L : Nat} {xs : Nat → Int32} {w : g_W} {H : Heap} {locs : List Loc} {cells slots : Nat} {lsA : Array Slot} {Q : State → Prop} {σ : Sg} {x3 : Int32} (C : lw_C p s m c b L xs w) (hI : Inv σ σ) (hR : g_Rep w σ H) (hS : va_S (wA w) s.heap H locs) (hwf : g_wf w σ) (hlv : lv_has lsA 4 [(3, .int x3), (2, .ref (wr w 10 0)), (1, .ref (wr w 9 0)), (0, .ref b)]) (hx : lw_ix x3 L) (hc : cells + 7 ≤ 600000) (hs : slots + 600 ≤ 7302250)
    (kk : ∀ (σ2 : Sg) (H1 : Heap) (locs1 : List Loc), Inv σ2 σ2 → g_Rep w σ2 H1 → va_S (wA w) s.heap H1 locs1 → g_wf w σ2 → W p l e room_1 s m #[Value.ref b] below meth c H1 locs1 (cells + 7) (slots + 600) Q (F0 m 1110 lsA [])) :
    W p l e room_1 s m #[Value.ref b] below meth c H locs cells slots Q (F0 m 639 lsA []) := by
  have C0 := C
  obtain ⟨c1, c2, c3, c6, c7, c8, c9, ck, c14, cX, cb, cA⟩ := C0
  obtain ⟨x1, x2, x3', x4, x5⟩ := hx
  obtain ⟨s1, s2, r, ex, em, I2⟩ := lw_join (Lx := (FP_x9_pass)) (Lm := FP_m_pass) (m := fun t => m_pass t ) hI (fun sm I => c_pass I) rfl (fr_x9_pass _ ) rfl (fun t => fr_m_pass t )
  have hM0 : g_Mt l yX9_pass M_x9_pass w σ [.inr (.inr (some (9, 0)))] s1 (some (.inl r)) := by
    obtain ⟨σ', v, k1, k2⟩ := h_x9_pass l w c9 σ [.inr (.inr (some (9, 0)))] rfl hwf (lw_ok (t := []) (lw_v9 ck)) (Sg × Int32) retI (s1, r) (by
      show (x9_pass σ ).bind (fun q => retI q.1 (some (.inl q.2))) = some (s1, r)
      have e9 : x9_pass σ  = some (s1, r) := ex
      rw [e9]
      rfl)
    obtain ⟨rfl, rfl⟩ := retI_inv k1
    exact k2
  refine lv_aload_n (k := 1) c1 c2 (by decide +kernel) rfl (lv_at hlv 2 rfl) ?_
  refine lw_call (ci := 9) (T := TX9) (as := []) (rest := []) C hM0 cwl_86 ⟨wl4_108, wl4_109⟩ ⟨rfl, rfl⟩ ⟨by decide, by decide⟩ hR hS (lw_v9 ck) rfl hlv.1 (Nat.le_of_ble_eq_true rfl) (by decide +kernel) ⟨by show cells + 7 * 0 ≤ _; omega, by show slots + 600 * 0 ≤ _; omega⟩ (fun H1 locs1 hR1 hS1 hwf1 => ?_)
  have hM1 : g_Mt l yX10_pass M_m_pass w s1 [.inr (.inr (some (10, 0)))] s2 (some (.inl r)) := by
    obtain ⟨σ', v, k1, k2⟩ := h_m_pass l w c9 s1 [.inr (.inr (some (10, 0)))] rfl hwf1 (lw_ok (t := []) (lw_v10 ck)) (Sg × Int32) retI (s2, r) (by
      show (m_pass s1 ).bind (fun q => retI q.1 (some (.inl q.2))) = some (s2, r)
      have e9 : m_pass s1  = some (s2, r) := em
      rw [e9]
      rfl)
    obtain ⟨rfl, rfl⟩ := retI_inv k1
    exact k2
  refine W.eq (g2 := F0 m 643 lsA [.int r]) rfl ?_
  refine lv_aload_n (k := 2) c1 c2 (by decide +kernel) rfl (lv_at hlv 1 rfl) ?_
  refine lw_call (ci := 10) (T := TX10) (as := []) (rest := [.int r]) C hM1 cwl_89 ⟨wl7_143, wl7_144⟩ ⟨rfl, rfl⟩ ⟨by decide, by decide⟩ hR1 hS1 (lw_v10 ck) rfl hlv.1 (Nat.le_of_ble_eq_true rfl) (by decide +kernel) ⟨by show cells + 7 * 0 + 7 * 0 ≤ _; omega, by show slots + 600 * 0 + 600 * 0 ≤ _; omega⟩ (fun H2 locs2 hR2 hS2 hwf2 => ?_)
  refine W.eq (g2 := F0 m 647 lsA [.int r, .int r]) rfl ?_
  refine lv_icmp_eq (off := 463) (tgt := 1110) c1 c2 (by decide +kernel) (by decide) (fun _ => ?_) (fun q => absurd rfl q)
  refine W.widen (k := cells + 7) (n := slots + 600) (by show cells + 7 * 0 + 7 * 0 ≤ _; omega) (by show slots + 600 * 0 + 600 * 0 ≤ _; omega) ?_
  exact kk s2 _ _ I2 hR2 hS2 hwf2
set_option maxRecDepth 20000 in
theorem lc_18 {p : Program} {l : Launch} {e : Env} {s : State} {m : MethodId} {below : List Frame} {meth : Method} {c : Code} {b L : Nat} {xs : Nat → Int32} {w : g_W} {H : Heap} {locs : List Loc} {cells slots : Nat} {lsA : Array Slot} {Q : State → Prop} {σ : Sg} {x3 : Int32} (C : lw_C p s m c b L xs w) (hI : Inv σ σ) (hR : g_Rep w σ H) (hS : va_S (wA w) s.heap H locs) (hwf : g_wf w σ) (hlv : lv_has lsA 4 [(3, .int x3), (2, .ref (wr w 10 0)), (1, .ref (wr w 9 0)), (0, .ref b)]) (hx : lw_ix x3 L) (hc : cells + 7 ≤ 600000) (hs : slots + 600 ≤ 7302250)
    (kk : ∀ (σ2 : Sg) (H1 : Heap) (locs1 : List Loc), Inv σ2 σ2 → g_Rep w σ2 H1 → va_S (wA w) s.heap H1 locs1 → g_wf w σ2 → W p l e room_1 s m #[Value.ref b] below meth c H1 locs1 (cells + 7) (slots + 600) Q (F0 m 1110 lsA [])) :
    W p l e room_1 s m #[Value.ref b] below meth c H locs cells slots Q (F0 m 652 lsA []) := by
  have C0 := C
  obtain ⟨c1, c2, c3, c6, c7, c8, c9, ck, c14, cX, cb, cA⟩ := C0
  obtain ⟨x1, x2, x3', x4, x5⟩ := hx
  obtain ⟨s1, s2, r, ex, em, I2⟩ := lw_join (Lx := (FP_x9_undo)) (Lm := FP_m_undo) (m := fun t => m_undo t ) hI (fun sm I => c_undo I) rfl (fr_x9_undo _ ) rfl (fun t => fr_m_undo t )
  have hM0 : g_Mt l yX9_undo M_x9_undo w σ [.inr (.inr (some (9, 0)))] s1 (some (.inl r)) := by
    obtain ⟨σ', v, k1, k2⟩ := h_x9_undo l w c9 σ [.inr (.inr (some (9, 0)))] rfl hwf (lw_ok (t := []) (lw_v9 ck)) (Sg × Int32) retI (s1, r) (by
      show (x9_undo σ ).bind (fun q => retI q.1 (some (.inl q.2))) = some (s1, r)
      have e9 : x9_undo σ  = some (s1, r) := ex
      rw [e9]
      rfl)
    obtain ⟨rfl, rfl⟩ := retI_inv k1
    exact k2
  refine lv_aload_n (k := 1) c1 c2 (by decide +kernel) rfl (lv_at hlv 2 rfl) ?_
  refine lw_call (ci := 9) (T := TX9) (as := []) (rest := []) C hM0 cwl_90 ⟨wl4_118, wl4_119⟩ ⟨rfl, rfl⟩ ⟨by decide, by decide⟩ hR hS (lw_v9 ck) rfl hlv.1 (Nat.le_of_ble_eq_true rfl) (by decide +kernel) ⟨by show cells + 7 * 0 ≤ _; omega, by show slots + 600 * 0 ≤ _; omega⟩ (fun H1 locs1 hR1 hS1 hwf1 => ?_)
  have hM1 : g_Mt l yX10_undo M_m_undo w s1 [.inr (.inr (some (10, 0)))] s2 (some (.inl r)) := by
    obtain ⟨σ', v, k1, k2⟩ := h_m_undo l w c9 s1 [.inr (.inr (some (10, 0)))] rfl hwf1 (lw_ok (t := []) (lw_v10 ck)) (Sg × Int32) retI (s2, r) (by
      show (m_undo s1 ).bind (fun q => retI q.1 (some (.inl q.2))) = some (s2, r)
      have e9 : m_undo s1  = some (s2, r) := em
      rw [e9]
      rfl)
    obtain ⟨rfl, rfl⟩ := retI_inv k1
    exact k2
  refine W.eq (g2 := F0 m 656 lsA [.int r]) rfl ?_
  refine lv_aload_n (k := 2) c1 c2 (by decide +kernel) rfl (lv_at hlv 1 rfl) ?_
  refine lw_call (ci := 10) (T := TX10) (as := []) (rest := [.int r]) C hM1 cwl_93 ⟨wl7_103, wl7_104⟩ ⟨rfl, rfl⟩ ⟨by decide, by decide⟩ hR1 hS1 (lw_v10 ck) rfl hlv.1 (Nat.le_of_ble_eq_true rfl) (by decide +kernel) ⟨by show cells + 7 * 0 + 7 * 0 ≤ _; omega, by show slots + 600 * 0 + 600 * 0 ≤ _; omega⟩ (fun H2 locs2 hR2 hS2 hwf2 => ?_)
  refine W.eq (g2 := F0 m 660 lsA [.int r, .int r]) rfl ?_
  refine lv_icmp_eq (off := 450) (tgt := 1110) c1 c2 (by decide +kernel) (by decide) (fun _ => ?_) (fun q => absurd rfl q)
  refine W.widen (k := cells + 7) (n := slots + 600) (by show cells + 7 * 0 + 7 * 0 ≤ _; omega) (by show slots + 600 * 0 + 600 * 0 ≤ _; omega) ?_
  exact kk s2 _ _ I2 hR2 hS2 hwf2
set_option maxRecDepth 20000 in
theorem lc_19 {p : Program} {l : Launch} {e : Env} {s : State} {m : MethodId} {below : List Frame} {meth : Method} {c : Code} {b L : Nat} {xs : Nat → Int32} {w : g_W} {H : Heap} {locs : List Loc} {cells slots : Nat} {lsA : Array Slot} {Q : State → Prop} {σ : Sg} {x3 : Int32} (C : lw_C p s m c b L xs w) (hI : Inv σ σ) (hR : g_Rep w σ H) (hS : va_S (wA w) s.heap H locs) (hwf : g_wf w σ) (hlv : lv_has lsA 4 [(3, .int x3), (2, .ref (wr w 10 0)), (1, .ref (wr w 9 0)), (0, .ref b)]) (hx : lw_ix x3 L) (hc : cells + 7 ≤ 600000) (hs : slots + 600 ≤ 7302250)
    (kk : ∀ (σ2 : Sg) (H1 : Heap) (locs1 : List Loc), Inv σ2 σ2 → g_Rep w σ2 H1 → va_S (wA w) s.heap H1 locs1 → g_wf w σ2 → W p l e room_1 s m #[Value.ref b] below meth c H1 locs1 (cells + 7) (slots + 600) Q (F0 m 1110 lsA [])) :
    W p l e room_1 s m #[Value.ref b] below meth c H locs cells slots Q (F0 m 665 lsA []) := by
  have C0 := C
  obtain ⟨c1, c2, c3, c6, c7, c8, c9, ck, c14, cX, cb, cA⟩ := C0
  obtain ⟨x1, x2, x3', x4, x5⟩ := hx
  obtain ⟨s1, s2, r, ex, em, I2⟩ := lw_join (Lx := (FP_x9_best)) (Lm := FP_m_best) (m := fun t => m_best t (xs (x3 + 1).toNatClampNeg)) hI (fun sm I => c_best I (xs (x3 + 1).toNatClampNeg)) rfl (fr_x9_best _ _) rfl (fun t => fr_m_best t _)
  have hM0 : g_Mt l yX9_best M_x9_best w σ [.inr (.inr (some (9, 0))), .inl (xs (x3 + 1).toNatClampNeg)] s1 (some (.inl r)) := by
    obtain ⟨σ', v, k1, k2⟩ := h_x9_best l w c9 σ [.inr (.inr (some (9, 0))), .inl (xs (x3 + 1).toNatClampNeg)] rfl hwf (lw_ok (t := [(xs (x3 + 1).toNatClampNeg)]) (lw_v9 ck)) (Sg × Int32) retI (s1, r) (by
      show (x9_best σ (xs (x3 + 1).toNatClampNeg)).bind (fun q => retI q.1 (some (.inl q.2))) = some (s1, r)
      have e9 : x9_best σ (xs (x3 + 1).toNatClampNeg) = some (s1, r) := ex
      rw [e9]
      rfl)
    obtain ⟨rfl, rfl⟩ := retI_inv k1
    exact k2
  refine lv_aload_n (k := 1) c1 c2 (by decide +kernel) rfl (lv_at hlv 2 rfl) ?_
  refine lv_aload_n (k := 0) c1 c2 (by decide +kernel) rfl (lv_at hlv 3 rfl) ?_
  refine lv_iload_n (k := 3) c1 c2 (by decide +kernel) rfl (lv_at hlv 0 rfl) ?_
  refine lv_iconst (n := 1) (v := 1) c1 c2 (by decide +kernel) (by decide +kernel) ?_
  refine lv_iadd c1 c2 (by decide +kernel) ?_
  refine va_sld c1 c2 cX cb cA hS x1 (by decide +kernel) ?_
  refine lw_call (ci := 9) (T := TX9) (as := [.inl (xs (x3 + 1).toNatClampNeg)]) (rest := []) C hM0 cwl_94 ⟨wl4_127, wl4_128⟩ ⟨rfl, rfl⟩ ⟨by decide, by decide⟩ hR hS (lw_v9 ck) rfl hlv.1 (Nat.le_of_ble_eq_true rfl) (by decide +kernel) ⟨by show cells + 7 * 0 ≤ _; omega, by show slots + 600 * 0 ≤ _; omega⟩ (fun H1 locs1 hR1 hS1 hwf1 => ?_)
  have hM1 : g_Mt l yX10_best M_m_best w s1 [.inr (.inr (some (10, 0))), .inl (xs (x3 + 1).toNatClampNeg)] s2 (some (.inl r)) := by
    obtain ⟨σ', v, k1, k2⟩ := h_m_best l w c9 s1 [.inr (.inr (some (10, 0))), .inl (xs (x3 + 1).toNatClampNeg)] rfl hwf1 (lw_ok (t := [(xs (x3 + 1).toNatClampNeg)]) (lw_v10 ck)) (Sg × Int32) retI (s2, r) (by
      show (m_best s1 (xs (x3 + 1).toNatClampNeg)).bind (fun q => retI q.1 (some (.inl q.2))) = some (s2, r)
      have e9 : m_best s1 (xs (x3 + 1).toNatClampNeg) = some (s2, r) := em
      rw [e9]
      rfl)
    obtain ⟨rfl, rfl⟩ := retI_inv k1
    exact k2
  refine W.eq (g2 := F0 m 674 lsA [.int r]) rfl ?_
  refine lv_aload_n (k := 2) c1 c2 (by decide +kernel) rfl (lv_at hlv 1 rfl) ?_
  refine lv_aload_n (k := 0) c1 c2 (by decide +kernel) rfl (lv_at hlv 3 rfl) ?_
  refine lv_iload_n (k := 3) c1 c2 (by decide +kernel) rfl (lv_at hlv 0 rfl) ?_
  refine lv_iconst (n := 1) (v := 1) c1 c2 (by decide +kernel) (by decide +kernel) ?_
  refine lv_iadd c1 c2 (by decide +kernel) ?_
  refine va_sld c1 c2 cX cb cA hS1 x1 (by decide +kernel) ?_
  refine lw_call (ci := 10) (T := TX10) (as := [.inl (xs (x3 + 1).toNatClampNeg)]) (rest := [.int r]) C hM1 cwl_97 ⟨wl7_151, wl7_152⟩ ⟨rfl, rfl⟩ ⟨by decide, by decide⟩ hR1 hS1 (lw_v10 ck) rfl hlv.1 (Nat.le_of_ble_eq_true rfl) (by decide +kernel) ⟨by show cells + 7 * 0 + 7 * 0 ≤ _; omega, by show slots + 600 * 0 + 600 * 0 ≤ _; omega⟩ (fun H2 locs2 hR2 hS2 hwf2 => ?_)
  refine W.eq (g2 := F0 m 683 lsA [.int r, .int r]) rfl ?_
  refine lv_icmp_eq (off := 427) (tgt := 1110) c1 c2 (by decide +kernel) (by decide) (fun _ => ?_) (fun q => absurd rfl q)
  refine W.widen (k := cells + 7) (n := slots + 600) (by show cells + 7 * 0 + 7 * 0 ≤ _; omega) (by show slots + 600 * 0 + 600 * 0 ≤ _; omega) ?_
  exact kk s2 _ _ I2 hR2 hS2 hwf2
set_option maxRecDepth 20000 in
theorem lc_20 {p : Program} {l : Launch} {e : Env} {s : State} {m : MethodId} {below : List Frame} {meth : Method} {c : Code} {b L : Nat} {xs : Nat → Int32} {w : g_W} {H : Heap} {locs : List Loc} {cells slots : Nat} {lsA : Array Slot} {Q : State → Prop} {σ : Sg} {x3 : Int32} (C : lw_C p s m c b L xs w) (hI : Inv σ σ) (hR : g_Rep w σ H) (hS : va_S (wA w) s.heap H locs) (hwf : g_wf w σ) (hlv : lv_has lsA 4 [(3, .int x3), (2, .ref (wr w 10 0)), (1, .ref (wr w 9 0)), (0, .ref b)]) (hx : lw_ix x3 L) (hc : cells + 7 ≤ 600000) (hs : slots + 600 ≤ 7302250)
    (kk : ∀ (σ2 : Sg) (H1 : Heap) (locs1 : List Loc), Inv σ2 σ2 → g_Rep w σ2 H1 → va_S (wA w) s.heap H1 locs1 → g_wf w σ2 → W p l e room_1 s m #[Value.ref b] below meth c H1 locs1 (cells + 7) (slots + 600) Q (F0 m 1110 lsA [])) :
    W p l e room_1 s m #[Value.ref b] below meth c H locs cells slots Q (F0 m 688 lsA []) := by
  have C0 := C
  obtain ⟨c1, c2, c3, c6, c7, c8, c9, ck, c14, cX, cb, cA⟩ := C0
  obtain ⟨x1, x2, x3', x4, x5⟩ := hx
  obtain ⟨s1, s2, r, ex, em, I2⟩ := lw_join (Lx := (FP_x9_just)) (Lm := FP_m_just) (m := fun t => m_just t (xs (x3 + 1).toNatClampNeg)) hI (fun sm I => c_just I (xs (x3 + 1).toNatClampNeg)) rfl (fr_x9_just _ _) rfl (fun t => fr_m_just t _)
  have hM0 : g_Mt l yX9_just M_x9_just w σ [.inr (.inr (some (9, 0))), .inl (xs (x3 + 1).toNatClampNeg)] s1 (some (.inl r)) := by
    obtain ⟨σ', v, k1, k2⟩ := h_x9_just l w c9 σ [.inr (.inr (some (9, 0))), .inl (xs (x3 + 1).toNatClampNeg)] rfl hwf (lw_ok (t := [(xs (x3 + 1).toNatClampNeg)]) (lw_v9 ck)) (Sg × Int32) retI (s1, r) (by
      show (x9_just σ (xs (x3 + 1).toNatClampNeg)).bind (fun q => retI q.1 (some (.inl q.2))) = some (s1, r)
      have e9 : x9_just σ (xs (x3 + 1).toNatClampNeg) = some (s1, r) := ex
      rw [e9]
      rfl)
    obtain ⟨rfl, rfl⟩ := retI_inv k1
    exact k2
  refine lv_aload_n (k := 1) c1 c2 (by decide +kernel) rfl (lv_at hlv 2 rfl) ?_
  refine lv_aload_n (k := 0) c1 c2 (by decide +kernel) rfl (lv_at hlv 3 rfl) ?_
  refine lv_iload_n (k := 3) c1 c2 (by decide +kernel) rfl (lv_at hlv 0 rfl) ?_
  refine lv_iconst (n := 1) (v := 1) c1 c2 (by decide +kernel) (by decide +kernel) ?_
  refine lv_iadd c1 c2 (by decide +kernel) ?_
  refine va_sld c1 c2 cX cb cA hS x1 (by decide +kernel) ?_
  refine lw_call (ci := 9) (T := TX9) (as := [.inl (xs (x3 + 1).toNatClampNeg)]) (rest := []) C hM0 cwl_98 ⟨wl4_181, wl4_182⟩ ⟨rfl, rfl⟩ ⟨by decide, by decide⟩ hR hS (lw_v9 ck) rfl hlv.1 (Nat.le_of_ble_eq_true rfl) (by decide +kernel) ⟨by show cells + 7 * 0 ≤ _; omega, by show slots + 600 * 0 ≤ _; omega⟩ (fun H1 locs1 hR1 hS1 hwf1 => ?_)
  have hM1 : g_Mt l yX10_just M_m_just w s1 [.inr (.inr (some (10, 0))), .inl (xs (x3 + 1).toNatClampNeg)] s2 (some (.inl r)) := by
    obtain ⟨σ', v, k1, k2⟩ := h_m_just l w c9 s1 [.inr (.inr (some (10, 0))), .inl (xs (x3 + 1).toNatClampNeg)] rfl hwf1 (lw_ok (t := [(xs (x3 + 1).toNatClampNeg)]) (lw_v10 ck)) (Sg × Int32) retI (s2, r) (by
      show (m_just s1 (xs (x3 + 1).toNatClampNeg)).bind (fun q => retI q.1 (some (.inl q.2))) = some (s2, r)
      have e9 : m_just s1 (xs (x3 + 1).toNatClampNeg) = some (s2, r) := em
      rw [e9]
      rfl)
    obtain ⟨rfl, rfl⟩ := retI_inv k1
    exact k2
  refine W.eq (g2 := F0 m 697 lsA [.int r]) rfl ?_
  refine lv_aload_n (k := 2) c1 c2 (by decide +kernel) rfl (lv_at hlv 1 rfl) ?_
  refine lv_aload_n (k := 0) c1 c2 (by decide +kernel) rfl (lv_at hlv 3 rfl) ?_
  refine lv_iload_n (k := 3) c1 c2 (by decide +kernel) rfl (lv_at hlv 0 rfl) ?_
  refine lv_iconst (n := 1) (v := 1) c1 c2 (by decide +kernel) (by decide +kernel) ?_
  refine lv_iadd c1 c2 (by decide +kernel) ?_
  refine va_sld c1 c2 cX cb cA hS1 x1 (by decide +kernel) ?_
  refine lw_call (ci := 10) (T := TX10) (as := [.inl (xs (x3 + 1).toNatClampNeg)]) (rest := [.int r]) C hM1 cwl_101 ⟨wl7_193, wl7_194⟩ ⟨rfl, rfl⟩ ⟨by decide, by decide⟩ hR1 hS1 (lw_v10 ck) rfl hlv.1 (Nat.le_of_ble_eq_true rfl) (by decide +kernel) ⟨by show cells + 7 * 0 + 7 * 0 ≤ _; omega, by show slots + 600 * 0 + 600 * 0 ≤ _; omega⟩ (fun H2 locs2 hR2 hS2 hwf2 => ?_)
  refine W.eq (g2 := F0 m 706 lsA [.int r, .int r]) rfl ?_
  refine lv_icmp_eq (off := 404) (tgt := 1110) c1 c2 (by decide +kernel) (by decide) (fun _ => ?_) (fun q => absurd rfl q)
  refine W.widen (k := cells + 7) (n := slots + 600) (by show cells + 7 * 0 + 7 * 0 ≤ _; omega) (by show slots + 600 * 0 + 600 * 0 ≤ _; omega) ?_
  exact kk s2 _ _ I2 hR2 hS2 hwf2
set_option maxRecDepth 20000 in
theorem lc_21 {p : Program} {l : Launch} {e : Env} {s : State} {m : MethodId} {below : List Frame} {meth : Method} {c : Code} {b L : Nat} {xs : Nat → Int32} {w : g_W} {H : Heap} {locs : List Loc} {cells slots : Nat} {lsA : Array Slot} {Q : State → Prop} {σ : Sg} {x3 : Int32} (C : lw_C p s m c b L xs w) (hI : Inv σ σ) (hR : g_Rep w σ H) (hS : va_S (wA w) s.heap H locs) (hwf : g_wf w σ) (hlv : lv_has lsA 4 [(3, .int x3), (2, .ref (wr w 10 0)), (1, .ref (wr w 9 0)), (0, .ref b)]) (hx : lw_ix x3 L) (hc : cells + 7 ≤ 600000) (hs : slots + 600 ≤ 7302250)
    (kk : ∀ (σ2 : Sg) (H1 : Heap) (locs1 : List Loc), Inv σ2 σ2 → g_Rep w σ2 H1 → va_S (wA w) s.heap H1 locs1 → g_wf w σ2 → W p l e room_1 s m #[Value.ref b] below meth c H1 locs1 (cells + 7) (slots + 600) Q (F0 m 1110 lsA [])) :
    W p l e room_1 s m #[Value.ref b] below meth c H locs cells slots Q (F0 m 711 lsA []) := by
  have C0 := C
  obtain ⟨c1, c2, c3, c6, c7, c8, c9, ck, c14, cX, cb, cA⟩ := C0
  obtain ⟨x1, x2, x3', x4, x5⟩ := hx
  obtain ⟨s1, s2, r, ex, em, I2⟩ := lw_join (Lx := (FP_x9_fewest)) (Lm := FP_m_fewest) (m := fun t => m_fewest t ) hI (fun sm I => c_fewest I) rfl (fr_x9_fewest _ ) rfl (fun t => fr_m_fewest t )
  have hM0 : g_Mt l yX9_fewest M_x9_fewest w σ [.inr (.inr (some (9, 0)))] s1 (some (.inl r)) := by
    obtain ⟨σ', v, k1, k2⟩ := h_x9_fewest l w c9 σ [.inr (.inr (some (9, 0)))] rfl hwf (lw_ok (t := []) (lw_v9 ck)) (Sg × Int32) retI (s1, r) (by
      show (x9_fewest σ ).bind (fun q => retI q.1 (some (.inl q.2))) = some (s1, r)
      have e9 : x9_fewest σ  = some (s1, r) := ex
      rw [e9]
      rfl)
    obtain ⟨rfl, rfl⟩ := retI_inv k1
    exact k2
  refine lv_aload_n (k := 1) c1 c2 (by decide +kernel) rfl (lv_at hlv 2 rfl) ?_
  refine lw_call (ci := 9) (T := TX9) (as := []) (rest := []) C hM0 cwl_102 ⟨wl4_189, wl4_190⟩ ⟨rfl, rfl⟩ ⟨by decide, by decide⟩ hR hS (lw_v9 ck) rfl hlv.1 (Nat.le_of_ble_eq_true rfl) (by decide +kernel) ⟨by show cells + 7 * 0 ≤ _; omega, by show slots + 600 * 0 ≤ _; omega⟩ (fun H1 locs1 hR1 hS1 hwf1 => ?_)
  have hM1 : g_Mt l yX10_fewest M_m_fewest w s1 [.inr (.inr (some (10, 0)))] s2 (some (.inl r)) := by
    obtain ⟨σ', v, k1, k2⟩ := h_m_fewest l w c9 s1 [.inr (.inr (some (10, 0)))] rfl hwf1 (lw_ok (t := []) (lw_v10 ck)) (Sg × Int32) retI (s2, r) (by
      show (m_fewest s1 ).bind (fun q => retI q.1 (some (.inl q.2))) = some (s2, r)
      have e9 : m_fewest s1  = some (s2, r) := em
      rw [e9]
      rfl)
    obtain ⟨rfl, rfl⟩ := retI_inv k1
    exact k2
  refine W.eq (g2 := F0 m 715 lsA [.int r]) rfl ?_
  refine lv_aload_n (k := 2) c1 c2 (by decide +kernel) rfl (lv_at hlv 1 rfl) ?_
  refine lw_call (ci := 10) (T := TX10) (as := []) (rest := [.int r]) C hM1 cwl_105 ⟨wl7_214, wl7_215⟩ ⟨rfl, rfl⟩ ⟨by decide, by decide⟩ hR1 hS1 (lw_v10 ck) rfl hlv.1 (Nat.le_of_ble_eq_true rfl) (by decide +kernel) ⟨by show cells + 7 * 0 + 7 * 0 ≤ _; omega, by show slots + 600 * 0 + 600 * 0 ≤ _; omega⟩ (fun H2 locs2 hR2 hS2 hwf2 => ?_)
  refine W.eq (g2 := F0 m 719 lsA [.int r, .int r]) rfl ?_
  refine lv_icmp_eq (off := 391) (tgt := 1110) c1 c2 (by decide +kernel) (by decide) (fun _ => ?_) (fun q => absurd rfl q)
  refine W.widen (k := cells + 7) (n := slots + 600) (by show cells + 7 * 0 + 7 * 0 ≤ _; omega) (by show slots + 600 * 0 + 600 * 0 ≤ _; omega) ?_
  exact kk s2 _ _ I2 hR2 hS2 hwf2
set_option maxRecDepth 20000 in
theorem lc_22 {p : Program} {l : Launch} {e : Env} {s : State} {m : MethodId} {below : List Frame} {meth : Method} {c : Code} {b L : Nat} {xs : Nat → Int32} {w : g_W} {H : Heap} {locs : List Loc} {cells slots : Nat} {lsA : Array Slot} {Q : State → Prop} {σ : Sg} {x3 : Int32} (C : lw_C p s m c b L xs w) (hI : Inv σ σ) (hR : g_Rep w σ H) (hS : va_S (wA w) s.heap H locs) (hwf : g_wf w σ) (hlv : lv_has lsA 4 [(3, .int x3), (2, .ref (wr w 10 0)), (1, .ref (wr w 9 0)), (0, .ref b)]) (hx : lw_ix x3 L) (hc : cells + 7 ≤ 600000) (hs : slots + 600 ≤ 7302250)
    (kk : ∀ (σ2 : Sg) (H1 : Heap) (locs1 : List Loc), Inv σ2 σ2 → g_Rep w σ2 H1 → va_S (wA w) s.heap H1 locs1 → g_wf w σ2 → W p l e room_1 s m #[Value.ref b] below meth c H1 locs1 (cells + 7) (slots + 600) Q (F0 m 1110 lsA [])) :
    W p l e room_1 s m #[Value.ref b] below meth c H locs cells slots Q (F0 m 724 lsA []) := by
  have C0 := C
  obtain ⟨c1, c2, c3, c6, c7, c8, c9, ck, c14, cX, cb, cA⟩ := C0
  obtain ⟨x1, x2, x3', x4, x5⟩ := hx
  obtain ⟨s1, s2, r, ex, em, I2⟩ := lw_join (Lx := (FP_x9_most)) (Lm := FP_m_most) (m := fun t => m_most t ) hI (fun sm I => c_most I) rfl (fr_x9_most _ ) rfl (fun t => fr_m_most t )
  have hM0 : g_Mt l yX9_most M_x9_most w σ [.inr (.inr (some (9, 0)))] s1 (some (.inl r)) := by
    obtain ⟨σ', v, k1, k2⟩ := h_x9_most l w c9 σ [.inr (.inr (some (9, 0)))] rfl hwf (lw_ok (t := []) (lw_v9 ck)) (Sg × Int32) retI (s1, r) (by
      show (x9_most σ ).bind (fun q => retI q.1 (some (.inl q.2))) = some (s1, r)
      have e9 : x9_most σ  = some (s1, r) := ex
      rw [e9]
      rfl)
    obtain ⟨rfl, rfl⟩ := retI_inv k1
    exact k2
  refine lv_aload_n (k := 1) c1 c2 (by decide +kernel) rfl (lv_at hlv 2 rfl) ?_
  refine lw_call (ci := 9) (T := TX9) (as := []) (rest := []) C hM0 cwl_106 ⟨wl4_197, wl4_198⟩ ⟨rfl, rfl⟩ ⟨by decide, by decide⟩ hR hS (lw_v9 ck) rfl hlv.1 (Nat.le_of_ble_eq_true rfl) (by decide +kernel) ⟨by show cells + 7 * 0 ≤ _; omega, by show slots + 600 * 0 ≤ _; omega⟩ (fun H1 locs1 hR1 hS1 hwf1 => ?_)
  have hM1 : g_Mt l yX10_most M_m_most w s1 [.inr (.inr (some (10, 0)))] s2 (some (.inl r)) := by
    obtain ⟨σ', v, k1, k2⟩ := h_m_most l w c9 s1 [.inr (.inr (some (10, 0)))] rfl hwf1 (lw_ok (t := []) (lw_v10 ck)) (Sg × Int32) retI (s2, r) (by
      show (m_most s1 ).bind (fun q => retI q.1 (some (.inl q.2))) = some (s2, r)
      have e9 : m_most s1  = some (s2, r) := em
      rw [e9]
      rfl)
    obtain ⟨rfl, rfl⟩ := retI_inv k1
    exact k2
  refine W.eq (g2 := F0 m 728 lsA [.int r]) rfl ?_
  refine lv_aload_n (k := 2) c1 c2 (by decide +kernel) rfl (lv_at hlv 1 rfl) ?_
  refine lw_call (ci := 10) (T := TX10) (as := []) (rest := [.int r]) C hM1 cwl_109 ⟨wl7_218, wl7_219⟩ ⟨rfl, rfl⟩ ⟨by decide, by decide⟩ hR1 hS1 (lw_v10 ck) rfl hlv.1 (Nat.le_of_ble_eq_true rfl) (by decide +kernel) ⟨by show cells + 7 * 0 + 7 * 0 ≤ _; omega, by show slots + 600 * 0 + 600 * 0 ≤ _; omega⟩ (fun H2 locs2 hR2 hS2 hwf2 => ?_)
  refine W.eq (g2 := F0 m 732 lsA [.int r, .int r]) rfl ?_
  refine lv_icmp_eq (off := 378) (tgt := 1110) c1 c2 (by decide +kernel) (by decide) (fun _ => ?_) (fun q => absurd rfl q)
  refine W.widen (k := cells + 7) (n := slots + 600) (by show cells + 7 * 0 + 7 * 0 ≤ _; omega) (by show slots + 600 * 0 + 600 * 0 ≤ _; omega) ?_
  exact kk s2 _ _ I2 hR2 hS2 hwf2
set_option maxRecDepth 20000 in
theorem lc_23 {p : Program} {l : Launch} {e : Env} {s : State} {m : MethodId} {below : List Frame} {meth : Method} {c : Code} {b L : Nat} {xs : Nat → Int32} {w : g_W} {H : Heap} {locs : List Loc} {cells slots : Nat} {lsA : Array Slot} {Q : State → Prop} {σ : Sg} {x3 : Int32} (C : lw_C p s m c b L xs w) (hI : Inv σ σ) (hR : g_Rep w σ H) (hS : va_S (wA w) s.heap H locs) (hwf : g_wf w σ) (hlv : lv_has lsA 4 [(3, .int x3), (2, .ref (wr w 10 0)), (1, .ref (wr w 9 0)), (0, .ref b)]) (hx : lw_ix x3 L) (hc : cells + 7 ≤ 600000) (hs : slots + 600 ≤ 7302250)
    (kk : ∀ (σ2 : Sg) (H1 : Heap) (locs1 : List Loc), Inv σ2 σ2 → g_Rep w σ2 H1 → va_S (wA w) s.heap H1 locs1 → g_wf w σ2 → W p l e room_1 s m #[Value.ref b] below meth c H1 locs1 (cells + 7) (slots + 600) Q (F0 m 1110 lsA [])) :
    W p l e room_1 s m #[Value.ref b] below meth c H locs cells slots Q (F0 m 737 lsA []) := by
  have C0 := C
  obtain ⟨c1, c2, c3, c6, c7, c8, c9, ck, c14, cX, cb, cA⟩ := C0
  obtain ⟨x1, x2, x3', x4, x5⟩ := hx
  obtain ⟨s1, s2, r, ex, em, I2⟩ := lw_join (Lx := (FP_x9_ways)) (Lm := FP_m_ways) (m := fun t => m_ways t ) hI (fun sm I => c_ways I) rfl (fr_x9_ways _ ) rfl (fun t => fr_m_ways t )
  have hM0 : g_Mt l yX9_ways M_x9_ways w σ [.inr (.inr (some (9, 0)))] s1 (some (.inr (.inl r))) := by
    obtain ⟨σ', v, k1, k2⟩ := h_x9_ways l w c9 σ [.inr (.inr (some (9, 0)))] rfl hwf (lw_ok (t := []) (lw_v9 ck)) (Sg × Int64) retL (s1, r) (by
      show (x9_ways σ ).bind (fun q => retL q.1 (some (.inr (.inl q.2)))) = some (s1, r)
      have e9 : x9_ways σ  = some (s1, r) := ex
      rw [e9]
      rfl)
    obtain ⟨rfl, rfl⟩ := retL_inv k1
    exact k2
  refine lv_aload_n (k := 1) c1 c2 (by decide +kernel) rfl (lv_at hlv 2 rfl) ?_
  refine lw_call (ci := 9) (T := TX9) (as := []) (rest := []) C hM0 cwl_110 ⟨wl4_201, wl4_202⟩ ⟨rfl, rfl⟩ ⟨by decide, by decide⟩ hR hS (lw_v9 ck) rfl hlv.1 (Nat.le_of_ble_eq_true rfl) (by decide +kernel) ⟨by show cells + 7 * 0 ≤ _; omega, by show slots + 600 * 0 ≤ _; omega⟩ (fun H1 locs1 hR1 hS1 hwf1 => ?_)
  have hM1 : g_Mt l yX10_ways M_m_ways w s1 [.inr (.inr (some (10, 0)))] s2 (some (.inr (.inl r))) := by
    obtain ⟨σ', v, k1, k2⟩ := h_m_ways l w c9 s1 [.inr (.inr (some (10, 0)))] rfl hwf1 (lw_ok (t := []) (lw_v10 ck)) (Sg × Int64) retL (s2, r) (by
      show (m_ways s1 ).bind (fun q => retL q.1 (some (.inr (.inl q.2)))) = some (s2, r)
      have e9 : m_ways s1  = some (s2, r) := em
      rw [e9]
      rfl)
    obtain ⟨rfl, rfl⟩ := retL_inv k1
    exact k2
  refine W.eq (g2 := F0 m 741 lsA [.long r]) rfl ?_
  refine lv_aload_n (k := 2) c1 c2 (by decide +kernel) rfl (lv_at hlv 1 rfl) ?_
  refine lw_call (ci := 10) (T := TX10) (as := []) (rest := [.long r]) C hM1 cwl_114 ⟨wl7_222, wl7_223⟩ ⟨rfl, rfl⟩ ⟨by decide, by decide⟩ hR1 hS1 (lw_v10 ck) rfl hlv.1 (Nat.le_of_ble_eq_true rfl) (by decide +kernel) ⟨by show cells + 7 * 0 + 7 * 0 ≤ _; omega, by show slots + 600 * 0 + 600 * 0 ≤ _; omega⟩ (fun H2 locs2 hR2 hS2 hwf2 => ?_)
  refine W.eq (g2 := F0 m 745 lsA [.long r, .long r]) rfl ?_
  refine W.lcmp c1 c2 (by decide +kernel) ?_
  refine lv_if_eq (off := 364) (tgt := 1110) c1 c2 (by decide +kernel) (by decide) (fun _ => ?_) (fun q => absurd (lw_cmp r) q)
  refine W.widen (k := cells + 7) (n := slots + 600) (by show cells + 7 * 0 + 7 * 0 ≤ _; omega) (by show slots + 600 * 0 + 600 * 0 ≤ _; omega) ?_
  exact kk s2 _ _ I2 hR2 hS2 hwf2
set_option maxRecDepth 20000 in
theorem lc_24 {p : Program} {l : Launch} {e : Env} {s : State} {m : MethodId} {below : List Frame} {meth : Method} {c : Code} {b L : Nat} {xs : Nat → Int32} {w : g_W} {H : Heap} {locs : List Loc} {cells slots : Nat} {lsA : Array Slot} {Q : State → Prop} {σ : Sg} {x3 : Int32} (C : lw_C p s m c b L xs w) (hI : Inv σ σ) (hR : g_Rep w σ H) (hS : va_S (wA w) s.heap H locs) (hwf : g_wf w σ) (hlv : lv_has lsA 4 [(3, .int x3), (2, .ref (wr w 10 0)), (1, .ref (wr w 9 0)), (0, .ref b)]) (hx : lw_ix x3 L) (hc : cells + 7 ≤ 600000) (hs : slots + 600 ≤ 7302250)
    (kk : ∀ (σ2 : Sg) (H1 : Heap) (locs1 : List Loc), Inv σ2 σ2 → g_Rep w σ2 H1 → va_S (wA w) s.heap H1 locs1 → g_wf w σ2 → W p l e room_1 s m #[Value.ref b] below meth c H1 locs1 (cells + 7) (slots + 600) Q (F0 m 1110 lsA [])) :
    W p l e room_1 s m #[Value.ref b] below meth c H locs cells slots Q (F0 m 751 lsA []) := by
  have C0 := C
  obtain ⟨c1, c2, c3, c6, c7, c8, c9, ck, c14, cX, cb, cA⟩ := C0
  obtain ⟨x1, x2, x3', x4, x5⟩ := hx
  obtain ⟨s1, s2, r, ex, em, I2⟩ := lw_join (Lx := (FP_x9_richest)) (Lm := FP_m_richest) (m := fun t => m_richest t ) hI (fun sm I => c_richest I) rfl (fr_x9_richest _ ) rfl (fun t => fr_m_richest t )
  have hM0 : g_Mt l yX9_richest M_x9_richest w σ [.inr (.inr (some (9, 0)))] s1 (some (.inl r)) := by
    obtain ⟨σ', v, k1, k2⟩ := h_x9_richest l w c9 σ [.inr (.inr (some (9, 0)))] rfl hwf (lw_ok (t := []) (lw_v9 ck)) (Sg × Int32) retI (s1, r) (by
      show (x9_richest σ ).bind (fun q => retI q.1 (some (.inl q.2))) = some (s1, r)
      have e9 : x9_richest σ  = some (s1, r) := ex
      rw [e9]
      rfl)
    obtain ⟨rfl, rfl⟩ := retI_inv k1
    exact k2
  refine lv_aload_n (k := 1) c1 c2 (by decide +kernel) rfl (lv_at hlv 2 rfl) ?_
  refine lw_call (ci := 9) (T := TX9) (as := []) (rest := []) C hM0 cwl_115 ⟨wl4_209, wl4_210⟩ ⟨rfl, rfl⟩ ⟨by decide, by decide⟩ hR hS (lw_v9 ck) rfl hlv.1 (Nat.le_of_ble_eq_true rfl) (by decide +kernel) ⟨by show cells + 7 * 0 ≤ _; omega, by show slots + 600 * 0 ≤ _; omega⟩ (fun H1 locs1 hR1 hS1 hwf1 => ?_)
  have hM1 : g_Mt l yX10_richest M_m_richest w s1 [.inr (.inr (some (10, 0)))] s2 (some (.inl r)) := by
    obtain ⟨σ', v, k1, k2⟩ := h_m_richest l w c9 s1 [.inr (.inr (some (10, 0)))] rfl hwf1 (lw_ok (t := []) (lw_v10 ck)) (Sg × Int32) retI (s2, r) (by
      show (m_richest s1 ).bind (fun q => retI q.1 (some (.inl q.2))) = some (s2, r)
      have e9 : m_richest s1  = some (s2, r) := em
      rw [e9]
      rfl)
    obtain ⟨rfl, rfl⟩ := retI_inv k1
    exact k2
  refine W.eq (g2 := F0 m 755 lsA [.int r]) rfl ?_
  refine lv_aload_n (k := 2) c1 c2 (by decide +kernel) rfl (lv_at hlv 1 rfl) ?_
  refine lw_call (ci := 10) (T := TX10) (as := []) (rest := [.int r]) C hM1 cwl_118 ⟨wl7_226, wl7_227⟩ ⟨rfl, rfl⟩ ⟨by decide, by decide⟩ hR1 hS1 (lw_v10 ck) rfl hlv.1 (Nat.le_of_ble_eq_true rfl) (by decide +kernel) ⟨by show cells + 7 * 0 + 7 * 0 ≤ _; omega, by show slots + 600 * 0 + 600 * 0 ≤ _; omega⟩ (fun H2 locs2 hR2 hS2 hwf2 => ?_)
  refine W.eq (g2 := F0 m 759 lsA [.int r, .int r]) rfl ?_
  refine lv_icmp_eq (off := 351) (tgt := 1110) c1 c2 (by decide +kernel) (by decide) (fun _ => ?_) (fun q => absurd rfl q)
  refine W.widen (k := cells + 7) (n := slots + 600) (by show cells + 7 * 0 + 7 * 0 ≤ _; omega) (by show slots + 600 * 0 + 600 * 0 ≤ _; omega) ?_
  exact kk s2 _ _ I2 hR2 hS2 hwf2
set_option maxRecDepth 20000 in
theorem lc_25 {p : Program} {l : Launch} {e : Env} {s : State} {m : MethodId} {below : List Frame} {meth : Method} {c : Code} {b L : Nat} {xs : Nat → Int32} {w : g_W} {H : Heap} {locs : List Loc} {cells slots : Nat} {lsA : Array Slot} {Q : State → Prop} {σ : Sg} {x3 : Int32} (C : lw_C p s m c b L xs w) (hI : Inv σ σ) (hR : g_Rep w σ H) (hS : va_S (wA w) s.heap H locs) (hwf : g_wf w σ) (hlv : lv_has lsA 4 [(3, .int x3), (2, .ref (wr w 10 0)), (1, .ref (wr w 9 0)), (0, .ref b)]) (hx : lw_ix x3 L) (hc : cells + 7 ≤ 600000) (hs : slots + 600 ≤ 7302250)
    (kk : ∀ (σ2 : Sg) (H1 : Heap) (locs1 : List Loc), Inv σ2 σ2 → g_Rep w σ2 H1 → va_S (wA w) s.heap H1 locs1 → g_wf w σ2 → W p l e room_1 s m #[Value.ref b] below meth c H1 locs1 (cells + 7) (slots + 600) Q (F0 m 1110 lsA [])) :
    W p l e room_1 s m #[Value.ref b] below meth c H locs cells slots Q (F0 m 764 lsA []) := by
  have C0 := C
  obtain ⟨c1, c2, c3, c6, c7, c8, c9, ck, c14, cX, cb, cA⟩ := C0
  obtain ⟨x1, x2, x3', x4, x5⟩ := hx
  obtain ⟨s1, s2, r, ex, em, I2⟩ := lw_join (Lx := (FP_x9_narrow)) (Lm := FP_m_narrow) (m := fun t => m_narrow t (xs (x3 + 1).toNatClampNeg)) hI (fun sm I => c_narrow I (xs (x3 + 1).toNatClampNeg)) rfl (fr_x9_narrow _ _) rfl (fun t => fr_m_narrow t _)
  have hM0 : g_Mt l yX9_narrow M_x9_narrow w σ [.inr (.inr (some (9, 0))), .inl (xs (x3 + 1).toNatClampNeg)] s1 (some (.inl r)) := by
    obtain ⟨σ', v, k1, k2⟩ := h_x9_narrow l w c9 σ [.inr (.inr (some (9, 0))), .inl (xs (x3 + 1).toNatClampNeg)] rfl hwf (lw_ok (t := [(xs (x3 + 1).toNatClampNeg)]) (lw_v9 ck)) (Sg × Int32) retI (s1, r) (by
      show (x9_narrow σ (xs (x3 + 1).toNatClampNeg)).bind (fun q => retI q.1 (some (.inl q.2))) = some (s1, r)
      have e9 : x9_narrow σ (xs (x3 + 1).toNatClampNeg) = some (s1, r) := ex
      rw [e9]
      rfl)
    obtain ⟨rfl, rfl⟩ := retI_inv k1
    exact k2
  refine lv_aload_n (k := 1) c1 c2 (by decide +kernel) rfl (lv_at hlv 2 rfl) ?_
  refine lv_aload_n (k := 0) c1 c2 (by decide +kernel) rfl (lv_at hlv 3 rfl) ?_
  refine lv_iload_n (k := 3) c1 c2 (by decide +kernel) rfl (lv_at hlv 0 rfl) ?_
  refine lv_iconst (n := 1) (v := 1) c1 c2 (by decide +kernel) (by decide +kernel) ?_
  refine lv_iadd c1 c2 (by decide +kernel) ?_
  refine va_sld c1 c2 cX cb cA hS x1 (by decide +kernel) ?_
  refine lw_call (ci := 9) (T := TX9) (as := [.inl (xs (x3 + 1).toNatClampNeg)]) (rest := []) C hM0 cwl_119 ⟨wl4_217, wl4_218⟩ ⟨rfl, rfl⟩ ⟨by decide, by decide⟩ hR hS (lw_v9 ck) rfl hlv.1 (Nat.le_of_ble_eq_true rfl) (by decide +kernel) ⟨by show cells + 7 * 0 ≤ _; omega, by show slots + 600 * 0 ≤ _; omega⟩ (fun H1 locs1 hR1 hS1 hwf1 => ?_)
  have hM1 : g_Mt l yX10_narrow M_m_narrow w s1 [.inr (.inr (some (10, 0))), .inl (xs (x3 + 1).toNatClampNeg)] s2 (some (.inl r)) := by
    obtain ⟨σ', v, k1, k2⟩ := h_m_narrow l w c9 s1 [.inr (.inr (some (10, 0))), .inl (xs (x3 + 1).toNatClampNeg)] rfl hwf1 (lw_ok (t := [(xs (x3 + 1).toNatClampNeg)]) (lw_v10 ck)) (Sg × Int32) retI (s2, r) (by
      show (m_narrow s1 (xs (x3 + 1).toNatClampNeg)).bind (fun q => retI q.1 (some (.inl q.2))) = some (s2, r)
      have e9 : m_narrow s1 (xs (x3 + 1).toNatClampNeg) = some (s2, r) := em
      rw [e9]
      rfl)
    obtain ⟨rfl, rfl⟩ := retI_inv k1
    exact k2
  refine W.eq (g2 := F0 m 773 lsA [.int r]) rfl ?_
  refine lv_aload_n (k := 2) c1 c2 (by decide +kernel) rfl (lv_at hlv 1 rfl) ?_
  refine lv_aload_n (k := 0) c1 c2 (by decide +kernel) rfl (lv_at hlv 3 rfl) ?_
  refine lv_iload_n (k := 3) c1 c2 (by decide +kernel) rfl (lv_at hlv 0 rfl) ?_
  refine lv_iconst (n := 1) (v := 1) c1 c2 (by decide +kernel) (by decide +kernel) ?_
  refine lv_iadd c1 c2 (by decide +kernel) ?_
  refine va_sld c1 c2 cX cb cA hS1 x1 (by decide +kernel) ?_
  refine lw_call (ci := 10) (T := TX10) (as := [.inl (xs (x3 + 1).toNatClampNeg)]) (rest := [.int r]) C hM1 cwl_122 ⟨wl7_230, wl7_231⟩ ⟨rfl, rfl⟩ ⟨by decide, by decide⟩ hR1 hS1 (lw_v10 ck) rfl hlv.1 (Nat.le_of_ble_eq_true rfl) (by decide +kernel) ⟨by show cells + 7 * 0 + 7 * 0 ≤ _; omega, by show slots + 600 * 0 + 600 * 0 ≤ _; omega⟩ (fun H2 locs2 hR2 hS2 hwf2 => ?_)
  refine W.eq (g2 := F0 m 782 lsA [.int r, .int r]) rfl ?_
  refine lv_icmp_eq (off := 328) (tgt := 1110) c1 c2 (by decide +kernel) (by decide) (fun _ => ?_) (fun q => absurd rfl q)
  refine W.widen (k := cells + 7) (n := slots + 600) (by show cells + 7 * 0 + 7 * 0 ≤ _; omega) (by show slots + 600 * 0 + 600 * 0 ≤ _; omega) ?_
  exact kk s2 _ _ I2 hR2 hS2 hwf2
set_option maxRecDepth 20000 in
theorem lc_26 {p : Program} {l : Launch} {e : Env} {s : State} {m : MethodId} {below : List Frame} {meth : Method} {c : Code} {b L : Nat} {xs : Nat → Int32} {w : g_W} {H : Heap} {locs : List Loc} {cells slots : Nat} {lsA : Array Slot} {Q : State → Prop} {σ : Sg} {x3 : Int32} (C : lw_C p s m c b L xs w) (hI : Inv σ σ) (hR : g_Rep w σ H) (hS : va_S (wA w) s.heap H locs) (hwf : g_wf w σ) (hlv : lv_has lsA 4 [(3, .int x3), (2, .ref (wr w 10 0)), (1, .ref (wr w 9 0)), (0, .ref b)]) (hx : lw_ix x3 L) (hc : cells + 7 ≤ 600000) (hs : slots + 600 ≤ 7302250)
    (kk : ∀ (σ2 : Sg) (H1 : Heap) (locs1 : List Loc), Inv σ2 σ2 → g_Rep w σ2 H1 → va_S (wA w) s.heap H1 locs1 → g_wf w σ2 → W p l e room_1 s m #[Value.ref b] below meth c H1 locs1 (cells + 7) (slots + 600) Q (F0 m 1110 lsA [])) :
    W p l e room_1 s m #[Value.ref b] below meth c H locs cells slots Q (F0 m 787 lsA []) := by
  have C0 := C
  obtain ⟨c1, c2, c3, c6, c7, c8, c9, ck, c14, cX, cb, cA⟩ := C0
  obtain ⟨x1, x2, x3', x4, x5⟩ := hx
  obtain ⟨s1, s2, r, ex, em, I2⟩ := lw_join (Lx := (FP_x9_leaveOut)) (Lm := FP_m_leaveOut) (m := fun t => m_leaveOut t (xs (x3 + 1).toNatClampNeg)) hI (fun sm I => c_leaveOut I (xs (x3 + 1).toNatClampNeg)) rfl (fr_x9_leaveOut _ _) rfl (fun t => fr_m_leaveOut t _)
  have hM0 : g_Mt l yX9_leaveOut M_x9_leaveOut w σ [.inr (.inr (some (9, 0))), .inl (xs (x3 + 1).toNatClampNeg)] s1 (some (.inl r)) := by
    obtain ⟨σ', v, k1, k2⟩ := h_x9_leaveOut l w c9 σ [.inr (.inr (some (9, 0))), .inl (xs (x3 + 1).toNatClampNeg)] rfl hwf (lw_ok (t := [(xs (x3 + 1).toNatClampNeg)]) (lw_v9 ck)) (Sg × Int32) retI (s1, r) (by
      show (x9_leaveOut σ (xs (x3 + 1).toNatClampNeg)).bind (fun q => retI q.1 (some (.inl q.2))) = some (s1, r)
      have e9 : x9_leaveOut σ (xs (x3 + 1).toNatClampNeg) = some (s1, r) := ex
      rw [e9]
      rfl)
    obtain ⟨rfl, rfl⟩ := retI_inv k1
    exact k2
  refine lv_aload_n (k := 1) c1 c2 (by decide +kernel) rfl (lv_at hlv 2 rfl) ?_
  refine lv_aload_n (k := 0) c1 c2 (by decide +kernel) rfl (lv_at hlv 3 rfl) ?_
  refine lv_iload_n (k := 3) c1 c2 (by decide +kernel) rfl (lv_at hlv 0 rfl) ?_
  refine lv_iconst (n := 1) (v := 1) c1 c2 (by decide +kernel) (by decide +kernel) ?_
  refine lv_iadd c1 c2 (by decide +kernel) ?_
  refine va_sld c1 c2 cX cb cA hS x1 (by decide +kernel) ?_
  refine lw_call (ci := 9) (T := TX9) (as := [.inl (xs (x3 + 1).toNatClampNeg)]) (rest := []) C hM0 cwl_123 ⟨wl4_226, wl4_227⟩ ⟨rfl, rfl⟩ ⟨by decide, by decide⟩ hR hS (lw_v9 ck) rfl hlv.1 (Nat.le_of_ble_eq_true rfl) (by decide +kernel) ⟨by show cells + 7 * 0 ≤ _; omega, by show slots + 600 * 0 ≤ _; omega⟩ (fun H1 locs1 hR1 hS1 hwf1 => ?_)
  have hM1 : g_Mt l yX10_leaveOut M_m_leaveOut w s1 [.inr (.inr (some (10, 0))), .inl (xs (x3 + 1).toNatClampNeg)] s2 (some (.inl r)) := by
    obtain ⟨σ', v, k1, k2⟩ := h_m_leaveOut l w c9 s1 [.inr (.inr (some (10, 0))), .inl (xs (x3 + 1).toNatClampNeg)] rfl hwf1 (lw_ok (t := [(xs (x3 + 1).toNatClampNeg)]) (lw_v10 ck)) (Sg × Int32) retI (s2, r) (by
      show (m_leaveOut s1 (xs (x3 + 1).toNatClampNeg)).bind (fun q => retI q.1 (some (.inl q.2))) = some (s2, r)
      have e9 : m_leaveOut s1 (xs (x3 + 1).toNatClampNeg) = some (s2, r) := em
      rw [e9]
      rfl)
    obtain ⟨rfl, rfl⟩ := retI_inv k1
    exact k2
  refine W.eq (g2 := F0 m 796 lsA [.int r]) rfl ?_
  refine lv_aload_n (k := 2) c1 c2 (by decide +kernel) rfl (lv_at hlv 1 rfl) ?_
  refine lv_aload_n (k := 0) c1 c2 (by decide +kernel) rfl (lv_at hlv 3 rfl) ?_
  refine lv_iload_n (k := 3) c1 c2 (by decide +kernel) rfl (lv_at hlv 0 rfl) ?_
  refine lv_iconst (n := 1) (v := 1) c1 c2 (by decide +kernel) (by decide +kernel) ?_
  refine lv_iadd c1 c2 (by decide +kernel) ?_
  refine va_sld c1 c2 cX cb cA hS1 x1 (by decide +kernel) ?_
  refine lw_call (ci := 10) (T := TX10) (as := [.inl (xs (x3 + 1).toNatClampNeg)]) (rest := [.int r]) C hM1 cwl_126 ⟨wl7_238, wl7_239⟩ ⟨rfl, rfl⟩ ⟨by decide, by decide⟩ hR1 hS1 (lw_v10 ck) rfl hlv.1 (Nat.le_of_ble_eq_true rfl) (by decide +kernel) ⟨by show cells + 7 * 0 + 7 * 0 ≤ _; omega, by show slots + 600 * 0 + 600 * 0 ≤ _; omega⟩ (fun H2 locs2 hR2 hS2 hwf2 => ?_)
  refine W.eq (g2 := F0 m 805 lsA [.int r, .int r]) rfl ?_
  refine lv_icmp_eq (off := 305) (tgt := 1110) c1 c2 (by decide +kernel) (by decide) (fun _ => ?_) (fun q => absurd rfl q)
  refine W.widen (k := cells + 7) (n := slots + 600) (by show cells + 7 * 0 + 7 * 0 ≤ _; omega) (by show slots + 600 * 0 + 600 * 0 ≤ _; omega) ?_
  exact kk s2 _ _ I2 hR2 hS2 hwf2
set_option maxRecDepth 20000 in
theorem lc_27 {p : Program} {l : Launch} {e : Env} {s : State} {m : MethodId} {below : List Frame} {meth : Method} {c : Code} {b L : Nat} {xs : Nat → Int32} {w : g_W} {H : Heap} {locs : List Loc} {cells slots : Nat} {lsA : Array Slot} {Q : State → Prop} {σ : Sg} {x3 : Int32} (C : lw_C p s m c b L xs w) (hI : Inv σ σ) (hR : g_Rep w σ H) (hS : va_S (wA w) s.heap H locs) (hwf : g_wf w σ) (hlv : lv_has lsA 4 [(3, .int x3), (2, .ref (wr w 10 0)), (1, .ref (wr w 9 0)), (0, .ref b)]) (hx : lw_ix x3 L) (hc : cells + 7 ≤ 600000) (hs : slots + 600 ≤ 7302250)
    (kk : ∀ (σ2 : Sg) (H1 : Heap) (locs1 : List Loc), Inv σ2 σ2 → g_Rep w σ2 H1 → va_S (wA w) s.heap H1 locs1 → g_wf w σ2 → W p l e room_1 s m #[Value.ref b] below meth c H1 locs1 (cells + 7) (slots + 600) Q (F0 m 1110 lsA [])) :
    W p l e room_1 s m #[Value.ref b] below meth c H locs cells slots Q (F0 m 810 lsA []) := by
  have C0 := C
  obtain ⟨c1, c2, c3, c6, c7, c8, c9, ck, c14, cX, cb, cA⟩ := C0
  obtain ⟨x1, x2, x3', x4, x5⟩ := hx
  obtain ⟨s1, s2, r, ex, em, I2⟩ := lw_join (Lx := (FP_x9_river)) (Lm := FP_m_river) (m := fun t => m_river t ) hI (fun sm I => c_river I) rfl (fr_x9_river _ ) rfl (fun t => fr_m_river t )
  have hM0 : g_Mt l yX9_river M_x9_river w σ [.inr (.inr (some (9, 0)))] s1 (some (.inl r)) := by
    obtain ⟨σ', v, k1, k2⟩ := h_x9_river l w c9 σ [.inr (.inr (some (9, 0)))] rfl hwf (lw_ok (t := []) (lw_v9 ck)) (Sg × Int32) retI (s1, r) (by
      show (x9_river σ ).bind (fun q => retI q.1 (some (.inl q.2))) = some (s1, r)
      have e9 : x9_river σ  = some (s1, r) := ex
      rw [e9]
      rfl)
    obtain ⟨rfl, rfl⟩ := retI_inv k1
    exact k2
  refine lv_aload_n (k := 1) c1 c2 (by decide +kernel) rfl (lv_at hlv 2 rfl) ?_
  refine lw_call (ci := 9) (T := TX9) (as := []) (rest := []) C hM0 cwl_127 ⟨wl4_235, wl4_236⟩ ⟨rfl, rfl⟩ ⟨by decide, by decide⟩ hR hS (lw_v9 ck) rfl hlv.1 (Nat.le_of_ble_eq_true rfl) (by decide +kernel) ⟨by show cells + 7 * 0 ≤ _; omega, by show slots + 600 * 0 ≤ _; omega⟩ (fun H1 locs1 hR1 hS1 hwf1 => ?_)
  have hM1 : g_Mt l yX10_river M_m_river w s1 [.inr (.inr (some (10, 0)))] s2 (some (.inl r)) := by
    obtain ⟨σ', v, k1, k2⟩ := h_m_river l w c9 s1 [.inr (.inr (some (10, 0)))] rfl hwf1 (lw_ok (t := []) (lw_v10 ck)) (Sg × Int32) retI (s2, r) (by
      show (m_river s1 ).bind (fun q => retI q.1 (some (.inl q.2))) = some (s2, r)
      have e9 : m_river s1  = some (s2, r) := em
      rw [e9]
      rfl)
    obtain ⟨rfl, rfl⟩ := retI_inv k1
    exact k2
  refine W.eq (g2 := F0 m 814 lsA [.int r]) rfl ?_
  refine lv_aload_n (k := 2) c1 c2 (by decide +kernel) rfl (lv_at hlv 1 rfl) ?_
  refine lw_call (ci := 10) (T := TX10) (as := []) (rest := [.int r]) C hM1 cwl_130 ⟨wl8_10, wl8_11⟩ ⟨rfl, rfl⟩ ⟨by decide, by decide⟩ hR1 hS1 (lw_v10 ck) rfl hlv.1 (Nat.le_of_ble_eq_true rfl) (by decide +kernel) ⟨by show cells + 7 * 0 + 7 * 0 ≤ _; omega, by show slots + 600 * 0 + 600 * 0 ≤ _; omega⟩ (fun H2 locs2 hR2 hS2 hwf2 => ?_)
  refine W.eq (g2 := F0 m 818 lsA [.int r, .int r]) rfl ?_
  refine lv_icmp_eq (off := 292) (tgt := 1110) c1 c2 (by decide +kernel) (by decide) (fun _ => ?_) (fun q => absurd rfl q)
  refine W.widen (k := cells + 7) (n := slots + 600) (by show cells + 7 * 0 + 7 * 0 ≤ _; omega) (by show slots + 600 * 0 + 600 * 0 ≤ _; omega) ?_
  exact kk s2 _ _ I2 hR2 hS2 hwf2
set_option maxRecDepth 20000 in
theorem lc_28 {p : Program} {l : Launch} {e : Env} {s : State} {m : MethodId} {below : List Frame} {meth : Method} {c : Code} {b L : Nat} {xs : Nat → Int32} {w : g_W} {H : Heap} {locs : List Loc} {cells slots : Nat} {lsA : Array Slot} {Q : State → Prop} {σ : Sg} {x3 : Int32} (C : lw_C p s m c b L xs w) (hI : Inv σ σ) (hR : g_Rep w σ H) (hS : va_S (wA w) s.heap H locs) (hwf : g_wf w σ) (hlv : lv_has lsA 4 [(3, .int x3), (2, .ref (wr w 10 0)), (1, .ref (wr w 9 0)), (0, .ref b)]) (hx : lw_ix x3 L) (hc : cells + 7 ≤ 600000) (hs : slots + 600 ≤ 7302250)
    (kk : ∀ (σ2 : Sg) (H1 : Heap) (locs1 : List Loc), Inv σ2 σ2 → g_Rep w σ2 H1 → va_S (wA w) s.heap H1 locs1 → g_wf w σ2 → W p l e room_1 s m #[Value.ref b] below meth c H1 locs1 (cells + 7) (slots + 600) Q (F0 m 1110 lsA [])) :
    W p l e room_1 s m #[Value.ref b] below meth c H locs cells slots Q (F0 m 823 lsA []) := by
  have C0 := C
  obtain ⟨c1, c2, c3, c6, c7, c8, c9, ck, c14, cX, cb, cA⟩ := C0
  obtain ⟨x1, x2, x3', x4, x5⟩ := hx
  obtain ⟨s1, s2, r, ex, em, I2⟩ := lw_join (Lx := (FP_x9_seen)) (Lm := FP_m_seen) (m := fun t => m_seen t (xs (x3 + 1).toNatClampNeg) (xs (x3 + 2).toNatClampNeg)) hI (fun sm I => c_seen I (xs (x3 + 1).toNatClampNeg) (xs (x3 + 2).toNatClampNeg)) rfl (fr_x9_seen _ _ _) rfl (fun t => fr_m_seen t _ _)
  have hM0 : g_Mt l yX9_seen M_x9_seen w σ [.inr (.inr (some (9, 0))), .inl (xs (x3 + 1).toNatClampNeg), .inl (xs (x3 + 2).toNatClampNeg)] s1 (some (.inl r)) := by
    obtain ⟨σ', v, k1, k2⟩ := h_x9_seen l w c9 σ [.inr (.inr (some (9, 0))), .inl (xs (x3 + 1).toNatClampNeg), .inl (xs (x3 + 2).toNatClampNeg)] rfl hwf (lw_ok (t := [(xs (x3 + 1).toNatClampNeg), (xs (x3 + 2).toNatClampNeg)]) (lw_v9 ck)) (Sg × Int32) retI (s1, r) (by
      show (x9_seen σ (xs (x3 + 1).toNatClampNeg) (xs (x3 + 2).toNatClampNeg)).bind (fun q => retI q.1 (some (.inl q.2))) = some (s1, r)
      have e9 : x9_seen σ (xs (x3 + 1).toNatClampNeg) (xs (x3 + 2).toNatClampNeg) = some (s1, r) := ex
      rw [e9]
      rfl)
    obtain ⟨rfl, rfl⟩ := retI_inv k1
    exact k2
  refine lv_aload_n (k := 1) c1 c2 (by decide +kernel) rfl (lv_at hlv 2 rfl) ?_
  refine lv_aload_n (k := 0) c1 c2 (by decide +kernel) rfl (lv_at hlv 3 rfl) ?_
  refine lv_iload_n (k := 3) c1 c2 (by decide +kernel) rfl (lv_at hlv 0 rfl) ?_
  refine lv_iconst (n := 1) (v := 1) c1 c2 (by decide +kernel) (by decide +kernel) ?_
  refine lv_iadd c1 c2 (by decide +kernel) ?_
  refine va_sld c1 c2 cX cb cA hS x1 (by decide +kernel) ?_
  refine lv_aload_n (k := 0) c1 c2 (by decide +kernel) rfl (lv_at hlv 3 rfl) ?_
  refine lv_iload_n (k := 3) c1 c2 (by decide +kernel) rfl (lv_at hlv 0 rfl) ?_
  refine lv_iconst (n := 2) (v := 2) c1 c2 (by decide +kernel) (by decide +kernel) ?_
  refine lv_iadd c1 c2 (by decide +kernel) ?_
  refine va_sld c1 c2 cX cb cA hS x2 (by decide +kernel) ?_
  refine lw_call (ci := 9) (T := TX9) (as := [.inl (xs (x3 + 1).toNatClampNeg), .inl (xs (x3 + 2).toNatClampNeg)]) (rest := []) C hM0 cwl_131 ⟨wl5_12, wl5_13⟩ ⟨rfl, rfl⟩ ⟨by decide, by decide⟩ hR hS (lw_v9 ck) rfl hlv.1 (Nat.le_of_ble_eq_true rfl) (by decide +kernel) ⟨by show cells + 7 * 0 ≤ _; omega, by show slots + 600 * 0 ≤ _; omega⟩ (fun H1 locs1 hR1 hS1 hwf1 => ?_)
  have hM1 : g_Mt l yX10_seen M_m_seen w s1 [.inr (.inr (some (10, 0))), .inl (xs (x3 + 1).toNatClampNeg), .inl (xs (x3 + 2).toNatClampNeg)] s2 (some (.inl r)) := by
    obtain ⟨σ', v, k1, k2⟩ := h_m_seen l w c9 s1 [.inr (.inr (some (10, 0))), .inl (xs (x3 + 1).toNatClampNeg), .inl (xs (x3 + 2).toNatClampNeg)] rfl hwf1 (lw_ok (t := [(xs (x3 + 1).toNatClampNeg), (xs (x3 + 2).toNatClampNeg)]) (lw_v10 ck)) (Sg × Int32) retI (s2, r) (by
      show (m_seen s1 (xs (x3 + 1).toNatClampNeg) (xs (x3 + 2).toNatClampNeg)).bind (fun q => retI q.1 (some (.inl q.2))) = some (s2, r)
      have e9 : m_seen s1 (xs (x3 + 1).toNatClampNeg) (xs (x3 + 2).toNatClampNeg) = some (s2, r) := em
      rw [e9]
      rfl)
    obtain ⟨rfl, rfl⟩ := retI_inv k1
    exact k2
  refine W.eq (g2 := F0 m 837 lsA [.int r]) rfl ?_
  refine lv_aload_n (k := 2) c1 c2 (by decide +kernel) rfl (lv_at hlv 1 rfl) ?_
  refine lv_aload_n (k := 0) c1 c2 (by decide +kernel) rfl (lv_at hlv 3 rfl) ?_
  refine lv_iload_n (k := 3) c1 c2 (by decide +kernel) rfl (lv_at hlv 0 rfl) ?_
  refine lv_iconst (n := 1) (v := 1) c1 c2 (by decide +kernel) (by decide +kernel) ?_
  refine lv_iadd c1 c2 (by decide +kernel) ?_
  refine va_sld c1 c2 cX cb cA hS1 x1 (by decide +kernel) ?_
  refine lv_aload_n (k := 0) c1 c2 (by decide +kernel) rfl (lv_at hlv 3 rfl) ?_
  refine lv_iload_n (k := 3) c1 c2 (by decide +kernel) rfl (lv_at hlv 0 rfl) ?_
  refine lv_iconst (n := 2) (v := 2) c1 c2 (by decide +kernel) (by decide +kernel) ?_
  refine lv_iadd c1 c2 (by decide +kernel) ?_
  refine va_sld c1 c2 cX cb cA hS1 x2 (by decide +kernel) ?_
  refine lw_call (ci := 10) (T := TX10) (as := [.inl (xs (x3 + 1).toNatClampNeg), .inl (xs (x3 + 2).toNatClampNeg)]) (rest := [.int r]) C hM1 cwl_134 ⟨wl8_26, wl8_27⟩ ⟨rfl, rfl⟩ ⟨by decide, by decide⟩ hR1 hS1 (lw_v10 ck) rfl hlv.1 (Nat.le_of_ble_eq_true rfl) (by decide +kernel) ⟨by show cells + 7 * 0 + 7 * 0 ≤ _; omega, by show slots + 600 * 0 + 600 * 0 ≤ _; omega⟩ (fun H2 locs2 hR2 hS2 hwf2 => ?_)
  refine W.eq (g2 := F0 m 851 lsA [.int r, .int r]) rfl ?_
  refine lv_icmp_eq (off := 259) (tgt := 1110) c1 c2 (by decide +kernel) (by decide) (fun _ => ?_) (fun q => absurd rfl q)
  refine W.widen (k := cells + 7) (n := slots + 600) (by show cells + 7 * 0 + 7 * 0 ≤ _; omega) (by show slots + 600 * 0 + 600 * 0 ≤ _; omega) ?_
  exact kk s2 _ _ I2 hR2 hS2 hwf2
set_option maxRecDepth 20000 in
theorem lc_29 {p : Program} {l : Launch} {e : Env} {s : State} {m : MethodId} {below : List Frame} {meth : Method} {c : Code} {b L : Nat} {xs : Nat → Int32} {w : g_W} {H : Heap} {locs : List Loc} {cells slots : Nat} {lsA : Array Slot} {Q : State → Prop} {σ : Sg} {x3 : Int32} (C : lw_C p s m c b L xs w) (hI : Inv σ σ) (hR : g_Rep w σ H) (hS : va_S (wA w) s.heap H locs) (hwf : g_wf w σ) (hlv : lv_has lsA 4 [(3, .int x3), (2, .ref (wr w 10 0)), (1, .ref (wr w 9 0)), (0, .ref b)]) (hx : lw_ix x3 L) (hc : cells + 7 ≤ 600000) (hs : slots + 600 ≤ 7302250)
    (kk : ∀ (σ2 : Sg) (H1 : Heap) (locs1 : List Loc), Inv σ2 σ2 → g_Rep w σ2 H1 → va_S (wA w) s.heap H1 locs1 → g_wf w σ2 → W p l e room_1 s m #[Value.ref b] below meth c H1 locs1 (cells + 7) (slots + 600) Q (F0 m 1110 lsA [])) :
    W p l e room_1 s m #[Value.ref b] below meth c H locs cells slots Q (F0 m 856 lsA []) := by
  have C0 := C
  obtain ⟨c1, c2, c3, c6, c7, c8, c9, ck, c14, cX, cb, cA⟩ := C0
  obtain ⟨x1, x2, x3', x4, x5⟩ := hx
  obtain ⟨s1, s2, r, ex, em, I2⟩ := lw_join (Lx := (FP_x9_forget)) (Lm := FP_m_forget) (m := fun t => m_forget t ) hI (fun sm I => c_forget I) rfl (fr_x9_forget _ ) rfl (fun t => fr_m_forget t )
  have hM0 : g_Mt l yX9_forget M_x9_forget w σ [.inr (.inr (some (9, 0)))] s1 (some (.inl r)) := by
    obtain ⟨σ', v, k1, k2⟩ := h_x9_forget l w c9 σ [.inr (.inr (some (9, 0)))] rfl hwf (lw_ok (t := []) (lw_v9 ck)) (Sg × Int32) retI (s1, r) (by
      show (x9_forget σ ).bind (fun q => retI q.1 (some (.inl q.2))) = some (s1, r)
      have e9 : x9_forget σ  = some (s1, r) := ex
      rw [e9]
      rfl)
    obtain ⟨rfl, rfl⟩ := retI_inv k1
    exact k2
  refine lv_aload_n (k := 1) c1 c2 (by decide +kernel) rfl (lv_at hlv 2 rfl) ?_
  refine lw_call (ci := 9) (T := TX9) (as := []) (rest := []) C hM0 cwl_135 ⟨wl5_18, wl5_19⟩ ⟨rfl, rfl⟩ ⟨by decide, by decide⟩ hR hS (lw_v9 ck) rfl hlv.1 (Nat.le_of_ble_eq_true rfl) (by decide +kernel) ⟨by show cells + 7 * 0 ≤ _; omega, by show slots + 600 * 0 ≤ _; omega⟩ (fun H1 locs1 hR1 hS1 hwf1 => ?_)
  have hM1 : g_Mt l yX10_forget M_m_forget w s1 [.inr (.inr (some (10, 0)))] s2 (some (.inl r)) := by
    obtain ⟨σ', v, k1, k2⟩ := h_m_forget l w c9 s1 [.inr (.inr (some (10, 0)))] rfl hwf1 (lw_ok (t := []) (lw_v10 ck)) (Sg × Int32) retI (s2, r) (by
      show (m_forget s1 ).bind (fun q => retI q.1 (some (.inl q.2))) = some (s2, r)
      have e9 : m_forget s1  = some (s2, r) := em
      rw [e9]
      rfl)
    obtain ⟨rfl, rfl⟩ := retI_inv k1
    exact k2
  refine W.eq (g2 := F0 m 860 lsA [.int r]) rfl ?_
  refine lv_aload_n (k := 2) c1 c2 (by decide +kernel) rfl (lv_at hlv 1 rfl) ?_
  refine lw_call (ci := 10) (T := TX10) (as := []) (rest := [.int r]) C hM1 cwl_138 ⟨wl8_30, wl8_31⟩ ⟨rfl, rfl⟩ ⟨by decide, by decide⟩ hR1 hS1 (lw_v10 ck) rfl hlv.1 (Nat.le_of_ble_eq_true rfl) (by decide +kernel) ⟨by show cells + 7 * 0 + 7 * 0 ≤ _; omega, by show slots + 600 * 0 + 600 * 0 ≤ _; omega⟩ (fun H2 locs2 hR2 hS2 hwf2 => ?_)
  refine W.eq (g2 := F0 m 864 lsA [.int r, .int r]) rfl ?_
  refine lv_icmp_eq (off := 246) (tgt := 1110) c1 c2 (by decide +kernel) (by decide) (fun _ => ?_) (fun q => absurd rfl q)
  refine W.widen (k := cells + 7) (n := slots + 600) (by show cells + 7 * 0 + 7 * 0 ≤ _; omega) (by show slots + 600 * 0 + 600 * 0 ≤ _; omega) ?_
  exact kk s2 _ _ I2 hR2 hS2 hwf2
set_option maxRecDepth 20000 in
theorem lc_30 {p : Program} {l : Launch} {e : Env} {s : State} {m : MethodId} {below : List Frame} {meth : Method} {c : Code} {b L : Nat} {xs : Nat → Int32} {w : g_W} {H : Heap} {locs : List Loc} {cells slots : Nat} {lsA : Array Slot} {Q : State → Prop} {σ : Sg} {x3 : Int32} (C : lw_C p s m c b L xs w) (hI : Inv σ σ) (hR : g_Rep w σ H) (hS : va_S (wA w) s.heap H locs) (hwf : g_wf w σ) (hlv : lv_has lsA 4 [(3, .int x3), (2, .ref (wr w 10 0)), (1, .ref (wr w 9 0)), (0, .ref b)]) (hx : lw_ix x3 L) (hc : cells + 7 ≤ 600000) (hs : slots + 600 ≤ 7302250)
    (kk : ∀ (σ2 : Sg) (H1 : Heap) (locs1 : List Loc), Inv σ2 σ2 → g_Rep w σ2 H1 → va_S (wA w) s.heap H1 locs1 → g_wf w σ2 → W p l e room_1 s m #[Value.ref b] below meth c H1 locs1 (cells + 7) (slots + 600) Q (F0 m 1110 lsA [])) :
    W p l e room_1 s m #[Value.ref b] below meth c H locs cells slots Q (F0 m 869 lsA []) := by
  have C0 := C
  obtain ⟨c1, c2, c3, c6, c7, c8, c9, ck, c14, cX, cb, cA⟩ := C0
  obtain ⟨x1, x2, x3', x4, x5⟩ := hx
  obtain ⟨s1, s2, r, ex, em, I2⟩ := lw_join (Lx := (FP_x9_canBe)) (Lm := FP_m_canBe) (m := fun t => m_canBe t ) hI (fun sm I => c_canBe I) rfl (fr_x9_canBe _ ) rfl (fun t => fr_m_canBe t )
  have hM0 : g_Mt l yX9_canBe M_x9_canBe w σ [.inr (.inr (some (9, 0)))] s1 (some (.inl r)) := by
    obtain ⟨σ', v, k1, k2⟩ := h_x9_canBe l w c9 σ [.inr (.inr (some (9, 0)))] rfl hwf (lw_ok (t := []) (lw_v9 ck)) (Sg × Int32) retI (s1, r) (by
      show (x9_canBe σ ).bind (fun q => retI q.1 (some (.inl q.2))) = some (s1, r)
      have e9 : x9_canBe σ  = some (s1, r) := ex
      rw [e9]
      rfl)
    obtain ⟨rfl, rfl⟩ := retI_inv k1
    exact k2
  refine lv_aload_n (k := 1) c1 c2 (by decide +kernel) rfl (lv_at hlv 2 rfl) ?_
  refine lw_call (ci := 9) (T := TX9) (as := []) (rest := []) C hM0 cwl_139 ⟨wl5_22, wl5_23⟩ ⟨rfl, rfl⟩ ⟨by decide, by decide⟩ hR hS (lw_v9 ck) rfl hlv.1 (Nat.le_of_ble_eq_true rfl) (by decide +kernel) ⟨by show cells + 7 * 0 ≤ _; omega, by show slots + 600 * 0 ≤ _; omega⟩ (fun H1 locs1 hR1 hS1 hwf1 => ?_)
  have hM1 : g_Mt l yX10_canBe M_m_canBe w s1 [.inr (.inr (some (10, 0)))] s2 (some (.inl r)) := by
    obtain ⟨σ', v, k1, k2⟩ := h_m_canBe l w c9 s1 [.inr (.inr (some (10, 0)))] rfl hwf1 (lw_ok (t := []) (lw_v10 ck)) (Sg × Int32) retI (s2, r) (by
      show (m_canBe s1 ).bind (fun q => retI q.1 (some (.inl q.2))) = some (s2, r)
      have e9 : m_canBe s1  = some (s2, r) := em
      rw [e9]
      rfl)
    obtain ⟨rfl, rfl⟩ := retI_inv k1
    exact k2
  refine W.eq (g2 := F0 m 873 lsA [.int r]) rfl ?_
  refine lv_aload_n (k := 2) c1 c2 (by decide +kernel) rfl (lv_at hlv 1 rfl) ?_
  refine lw_call (ci := 10) (T := TX10) (as := []) (rest := [.int r]) C hM1 cwl_142 ⟨wl8_34, wl8_35⟩ ⟨rfl, rfl⟩ ⟨by decide, by decide⟩ hR1 hS1 (lw_v10 ck) rfl hlv.1 (Nat.le_of_ble_eq_true rfl) (by decide +kernel) ⟨by show cells + 7 * 0 + 7 * 0 ≤ _; omega, by show slots + 600 * 0 + 600 * 0 ≤ _; omega⟩ (fun H2 locs2 hR2 hS2 hwf2 => ?_)
  refine W.eq (g2 := F0 m 877 lsA [.int r, .int r]) rfl ?_
  refine lv_icmp_eq (off := 233) (tgt := 1110) c1 c2 (by decide +kernel) (by decide) (fun _ => ?_) (fun q => absurd rfl q)
  refine W.widen (k := cells + 7) (n := slots + 600) (by show cells + 7 * 0 + 7 * 0 ≤ _; omega) (by show slots + 600 * 0 + 600 * 0 ≤ _; omega) ?_
  exact kk s2 _ _ I2 hR2 hS2 hwf2
set_option maxRecDepth 20000 in
theorem lc_31 {p : Program} {l : Launch} {e : Env} {s : State} {m : MethodId} {below : List Frame} {meth : Method} {c : Code} {b L : Nat} {xs : Nat → Int32} {w : g_W} {H : Heap} {locs : List Loc} {cells slots : Nat} {lsA : Array Slot} {Q : State → Prop} {σ : Sg} {x3 : Int32} (C : lw_C p s m c b L xs w) (hI : Inv σ σ) (hR : g_Rep w σ H) (hS : va_S (wA w) s.heap H locs) (hwf : g_wf w σ) (hlv : lv_has lsA 4 [(3, .int x3), (2, .ref (wr w 10 0)), (1, .ref (wr w 9 0)), (0, .ref b)]) (hx : lw_ix x3 L) (hc : cells + 7 ≤ 600000) (hs : slots + 600 ≤ 7302250)
    (kk : ∀ (σ2 : Sg) (H1 : Heap) (locs1 : List Loc), Inv σ2 σ2 → g_Rep w σ2 H1 → va_S (wA w) s.heap H1 locs1 → g_wf w σ2 → W p l e room_1 s m #[Value.ref b] below meth c H1 locs1 (cells + 7) (slots + 600) Q (F0 m 1110 lsA [])) :
    W p l e room_1 s m #[Value.ref b] below meth c H locs cells slots Q (F0 m 882 lsA []) := by
  have C0 := C
  obtain ⟨c1, c2, c3, c6, c7, c8, c9, ck, c14, cX, cb, cA⟩ := C0
  obtain ⟨x1, x2, x3', x4, x5⟩ := hx
  obtain ⟨s1, s2, r, ex, em, I2⟩ := lw_join (Lx := (FP_x9_look)) (Lm := FP_m_look) (m := fun t => m_look t (xs (x3 + 1).toNatClampNeg)) hI (fun sm I => c_look I (xs (x3 + 1).toNatClampNeg)) rfl (fr_x9_look _ _) rfl (fun t => fr_m_look t _)
  have hM0 : g_Mt l yX9_look M_x9_look w σ [.inr (.inr (some (9, 0))), .inl (xs (x3 + 1).toNatClampNeg)] s1 (some (.inl r)) := by
    obtain ⟨σ', v, k1, k2⟩ := h_x9_look l w c9 σ [.inr (.inr (some (9, 0))), .inl (xs (x3 + 1).toNatClampNeg)] rfl hwf (lw_ok (t := [(xs (x3 + 1).toNatClampNeg)]) (lw_v9 ck)) (Sg × Int32) retI (s1, r) (by
      show (x9_look σ (xs (x3 + 1).toNatClampNeg)).bind (fun q => retI q.1 (some (.inl q.2))) = some (s1, r)
      have e9 : x9_look σ (xs (x3 + 1).toNatClampNeg) = some (s1, r) := ex
      rw [e9]
      rfl)
    obtain ⟨rfl, rfl⟩ := retI_inv k1
    exact k2
  refine lv_aload_n (k := 1) c1 c2 (by decide +kernel) rfl (lv_at hlv 2 rfl) ?_
  refine lv_aload_n (k := 0) c1 c2 (by decide +kernel) rfl (lv_at hlv 3 rfl) ?_
  refine lv_iload_n (k := 3) c1 c2 (by decide +kernel) rfl (lv_at hlv 0 rfl) ?_
  refine lv_iconst (n := 1) (v := 1) c1 c2 (by decide +kernel) (by decide +kernel) ?_
  refine lv_iadd c1 c2 (by decide +kernel) ?_
  refine va_sld c1 c2 cX cb cA hS x1 (by decide +kernel) ?_
  refine lw_call (ci := 9) (T := TX9) (as := [.inl (xs (x3 + 1).toNatClampNeg)]) (rest := []) C hM0 cwl_143 ⟨wl5_39, wl5_40⟩ ⟨rfl, rfl⟩ ⟨by decide, by decide⟩ hR hS (lw_v9 ck) rfl hlv.1 (Nat.le_of_ble_eq_true rfl) (by decide +kernel) ⟨by show cells + 7 * 0 ≤ _; omega, by show slots + 600 * 0 ≤ _; omega⟩ (fun H1 locs1 hR1 hS1 hwf1 => ?_)
  have hM1 : g_Mt l yX10_look M_m_look w s1 [.inr (.inr (some (10, 0))), .inl (xs (x3 + 1).toNatClampNeg)] s2 (some (.inl r)) := by
    obtain ⟨σ', v, k1, k2⟩ := h_m_look l w c9 s1 [.inr (.inr (some (10, 0))), .inl (xs (x3 + 1).toNatClampNeg)] rfl hwf1 (lw_ok (t := [(xs (x3 + 1).toNatClampNeg)]) (lw_v10 ck)) (Sg × Int32) retI (s2, r) (by
      show (m_look s1 (xs (x3 + 1).toNatClampNeg)).bind (fun q => retI q.1 (some (.inl q.2))) = some (s2, r)
      have e9 : m_look s1 (xs (x3 + 1).toNatClampNeg) = some (s2, r) := em
      rw [e9]
      rfl)
    obtain ⟨rfl, rfl⟩ := retI_inv k1
    exact k2
  refine W.eq (g2 := F0 m 891 lsA [.int r]) rfl ?_
  refine lv_aload_n (k := 2) c1 c2 (by decide +kernel) rfl (lv_at hlv 1 rfl) ?_
  refine lv_aload_n (k := 0) c1 c2 (by decide +kernel) rfl (lv_at hlv 3 rfl) ?_
  refine lv_iload_n (k := 3) c1 c2 (by decide +kernel) rfl (lv_at hlv 0 rfl) ?_
  refine lv_iconst (n := 1) (v := 1) c1 c2 (by decide +kernel) (by decide +kernel) ?_
  refine lv_iadd c1 c2 (by decide +kernel) ?_
  refine va_sld c1 c2 cX cb cA hS1 x1 (by decide +kernel) ?_
  refine lw_call (ci := 10) (T := TX10) (as := [.inl (xs (x3 + 1).toNatClampNeg)]) (rest := [.int r]) C hM1 cwl_146 ⟨wl8_46, wl8_47⟩ ⟨rfl, rfl⟩ ⟨by decide, by decide⟩ hR1 hS1 (lw_v10 ck) rfl hlv.1 (Nat.le_of_ble_eq_true rfl) (by decide +kernel) ⟨by show cells + 7 * 0 + 7 * 0 ≤ _; omega, by show slots + 600 * 0 + 600 * 0 ≤ _; omega⟩ (fun H2 locs2 hR2 hS2 hwf2 => ?_)
  refine W.eq (g2 := F0 m 900 lsA [.int r, .int r]) rfl ?_
  refine lv_icmp_eq (off := 210) (tgt := 1110) c1 c2 (by decide +kernel) (by decide) (fun _ => ?_) (fun q => absurd rfl q)
  refine W.widen (k := cells + 7) (n := slots + 600) (by show cells + 7 * 0 + 7 * 0 ≤ _; omega) (by show slots + 600 * 0 + 600 * 0 ≤ _; omega) ?_
  exact kk s2 _ _ I2 hR2 hS2 hwf2
set_option maxRecDepth 20000 in
theorem lc_32 {p : Program} {l : Launch} {e : Env} {s : State} {m : MethodId} {below : List Frame} {meth : Method} {c : Code} {b L : Nat} {xs : Nat → Int32} {w : g_W} {H : Heap} {locs : List Loc} {cells slots : Nat} {lsA : Array Slot} {Q : State → Prop} {σ : Sg} {x3 : Int32} (C : lw_C p s m c b L xs w) (hI : Inv σ σ) (hR : g_Rep w σ H) (hS : va_S (wA w) s.heap H locs) (hwf : g_wf w σ) (hlv : lv_has lsA 4 [(3, .int x3), (2, .ref (wr w 10 0)), (1, .ref (wr w 9 0)), (0, .ref b)]) (hx : lw_ix x3 L) (hc : cells + 7 ≤ 600000) (hs : slots + 600 ≤ 7302250)
    (kk : ∀ (σ2 : Sg) (H1 : Heap) (locs1 : List Loc), Inv σ2 σ2 → g_Rep w σ2 H1 → va_S (wA w) s.heap H1 locs1 → g_wf w σ2 → W p l e room_1 s m #[Value.ref b] below meth c H1 locs1 (cells + 7) (slots + 600) Q (F0 m 1110 lsA [])) :
    W p l e room_1 s m #[Value.ref b] below meth c H locs cells slots Q (F0 m 905 lsA []) := by
  have C0 := C
  obtain ⟨c1, c2, c3, c6, c7, c8, c9, ck, c14, cX, cb, cA⟩ := C0
  obtain ⟨x1, x2, x3', x4, x5⟩ := hx
  obtain ⟨s1, s2, r, ex, em, I2⟩ := lw_join (Lx := (FP_x9_few)) (Lm := FP_m_few) (m := fun t => m_few t (xs (x3 + 1).toNatClampNeg) (xs (x3 + 2).toNatClampNeg)) hI (fun sm I => c_few I (xs (x3 + 1).toNatClampNeg) (xs (x3 + 2).toNatClampNeg)) rfl (fr_x9_few _ _ _) rfl (fun t => fr_m_few t _ _)
  have hM0 : g_Mt l yX9_few M_x9_few w σ [.inr (.inr (some (9, 0))), .inl (xs (x3 + 1).toNatClampNeg), .inl (xs (x3 + 2).toNatClampNeg)] s1 (some (.inr (.inl r))) := by
    obtain ⟨σ', v, k1, k2⟩ := h_x9_few l w c9 σ [.inr (.inr (some (9, 0))), .inl (xs (x3 + 1).toNatClampNeg), .inl (xs (x3 + 2).toNatClampNeg)] rfl hwf (lw_ok (t := [(xs (x3 + 1).toNatClampNeg), (xs (x3 + 2).toNatClampNeg)]) (lw_v9 ck)) (Sg × Int64) retL (s1, r) (by
      show (x9_few σ (xs (x3 + 1).toNatClampNeg) (xs (x3 + 2).toNatClampNeg)).bind (fun q => retL q.1 (some (.inr (.inl q.2)))) = some (s1, r)
      have e9 : x9_few σ (xs (x3 + 1).toNatClampNeg) (xs (x3 + 2).toNatClampNeg) = some (s1, r) := ex
      rw [e9]
      rfl)
    obtain ⟨rfl, rfl⟩ := retL_inv k1
    exact k2
  refine lv_aload_n (k := 1) c1 c2 (by decide +kernel) rfl (lv_at hlv 2 rfl) ?_
  refine lv_aload_n (k := 0) c1 c2 (by decide +kernel) rfl (lv_at hlv 3 rfl) ?_
  refine lv_iload_n (k := 3) c1 c2 (by decide +kernel) rfl (lv_at hlv 0 rfl) ?_
  refine lv_iconst (n := 1) (v := 1) c1 c2 (by decide +kernel) (by decide +kernel) ?_
  refine lv_iadd c1 c2 (by decide +kernel) ?_
  refine va_sld c1 c2 cX cb cA hS x1 (by decide +kernel) ?_
  refine lv_aload_n (k := 0) c1 c2 (by decide +kernel) rfl (lv_at hlv 3 rfl) ?_
  refine lv_iload_n (k := 3) c1 c2 (by decide +kernel) rfl (lv_at hlv 0 rfl) ?_
  refine lv_iconst (n := 2) (v := 2) c1 c2 (by decide +kernel) (by decide +kernel) ?_
  refine lv_iadd c1 c2 (by decide +kernel) ?_
  refine va_sld c1 c2 cX cb cA hS x2 (by decide +kernel) ?_
  refine lw_call (ci := 9) (T := TX9) (as := [.inl (xs (x3 + 1).toNatClampNeg), .inl (xs (x3 + 2).toNatClampNeg)]) (rest := []) C hM0 cwl_147 ⟨wl5_47, wl5_48⟩ ⟨rfl, rfl⟩ ⟨by decide, by decide⟩ hR hS (lw_v9 ck) rfl hlv.1 (Nat.le_of_ble_eq_true rfl) (by decide +kernel) ⟨by show cells + 7 * 0 ≤ _; omega, by show slots + 600 * 0 ≤ _; omega⟩ (fun H1 locs1 hR1 hS1 hwf1 => ?_)
  have hM1 : g_Mt l yX10_few M_m_few w s1 [.inr (.inr (some (10, 0))), .inl (xs (x3 + 1).toNatClampNeg), .inl (xs (x3 + 2).toNatClampNeg)] s2 (some (.inr (.inl r))) := by
    obtain ⟨σ', v, k1, k2⟩ := h_m_few l w c9 s1 [.inr (.inr (some (10, 0))), .inl (xs (x3 + 1).toNatClampNeg), .inl (xs (x3 + 2).toNatClampNeg)] rfl hwf1 (lw_ok (t := [(xs (x3 + 1).toNatClampNeg), (xs (x3 + 2).toNatClampNeg)]) (lw_v10 ck)) (Sg × Int64) retL (s2, r) (by
      show (m_few s1 (xs (x3 + 1).toNatClampNeg) (xs (x3 + 2).toNatClampNeg)).bind (fun q => retL q.1 (some (.inr (.inl q.2)))) = some (s2, r)
      have e9 : m_few s1 (xs (x3 + 1).toNatClampNeg) (xs (x3 + 2).toNatClampNeg) = some (s2, r) := em
      rw [e9]
      rfl)
    obtain ⟨rfl, rfl⟩ := retL_inv k1
    exact k2
  refine W.eq (g2 := F0 m 919 lsA [.long r]) rfl ?_
  refine lv_aload_n (k := 2) c1 c2 (by decide +kernel) rfl (lv_at hlv 1 rfl) ?_
  refine lv_aload_n (k := 0) c1 c2 (by decide +kernel) rfl (lv_at hlv 3 rfl) ?_
  refine lv_iload_n (k := 3) c1 c2 (by decide +kernel) rfl (lv_at hlv 0 rfl) ?_
  refine lv_iconst (n := 1) (v := 1) c1 c2 (by decide +kernel) (by decide +kernel) ?_
  refine lv_iadd c1 c2 (by decide +kernel) ?_
  refine va_sld c1 c2 cX cb cA hS1 x1 (by decide +kernel) ?_
  refine lv_aload_n (k := 0) c1 c2 (by decide +kernel) rfl (lv_at hlv 3 rfl) ?_
  refine lv_iload_n (k := 3) c1 c2 (by decide +kernel) rfl (lv_at hlv 0 rfl) ?_
  refine lv_iconst (n := 2) (v := 2) c1 c2 (by decide +kernel) (by decide +kernel) ?_
  refine lv_iadd c1 c2 (by decide +kernel) ?_
  refine va_sld c1 c2 cX cb cA hS1 x2 (by decide +kernel) ?_
  refine lw_call (ci := 10) (T := TX10) (as := [.inl (xs (x3 + 1).toNatClampNeg), .inl (xs (x3 + 2).toNatClampNeg)]) (rest := [.long r]) C hM1 cwl_151 ⟨wl8_55, wl8_56⟩ ⟨rfl, rfl⟩ ⟨by decide, by decide⟩ hR1 hS1 (lw_v10 ck) rfl hlv.1 (Nat.le_of_ble_eq_true rfl) (by decide +kernel) ⟨by show cells + 7 * 0 + 7 * 0 ≤ _; omega, by show slots + 600 * 0 + 600 * 0 ≤ _; omega⟩ (fun H2 locs2 hR2 hS2 hwf2 => ?_)
  refine W.eq (g2 := F0 m 933 lsA [.long r, .long r]) rfl ?_
  refine W.lcmp c1 c2 (by decide +kernel) ?_
  refine lv_if_eq (off := 176) (tgt := 1110) c1 c2 (by decide +kernel) (by decide) (fun _ => ?_) (fun q => absurd (lw_cmp r) q)
  refine W.widen (k := cells + 7) (n := slots + 600) (by show cells + 7 * 0 + 7 * 0 ≤ _; omega) (by show slots + 600 * 0 + 600 * 0 ≤ _; omega) ?_
  exact kk s2 _ _ I2 hR2 hS2 hwf2
set_option maxRecDepth 20000 in
theorem lc_33 {p : Program} {l : Launch} {e : Env} {s : State} {m : MethodId} {below : List Frame} {meth : Method} {c : Code} {b L : Nat} {xs : Nat → Int32} {w : g_W} {H : Heap} {locs : List Loc} {cells slots : Nat} {lsA : Array Slot} {Q : State → Prop} {σ : Sg} {x3 : Int32} (C : lw_C p s m c b L xs w) (hI : Inv σ σ) (hR : g_Rep w σ H) (hS : va_S (wA w) s.heap H locs) (hwf : g_wf w σ) (hlv : lv_has lsA 4 [(3, .int x3), (2, .ref (wr w 10 0)), (1, .ref (wr w 9 0)), (0, .ref b)]) (hx : lw_ix x3 L) (hc : cells + 7 ≤ 600000) (hs : slots + 600 ≤ 7302250)
    (kk : ∀ (σ2 : Sg) (H1 : Heap) (locs1 : List Loc), Inv σ2 σ2 → g_Rep w σ2 H1 → va_S (wA w) s.heap H1 locs1 → g_wf w σ2 → W p l e room_1 s m #[Value.ref b] below meth c H1 locs1 (cells + 7) (slots + 600) Q (F0 m 1110 lsA [])) :
    W p l e room_1 s m #[Value.ref b] below meth c H locs cells slots Q (F0 m 939 lsA []) := by
  have C0 := C
  obtain ⟨c1, c2, c3, c6, c7, c8, c9, ck, c14, cX, cb, cA⟩ := C0
  obtain ⟨x1, x2, x3', x4, x5⟩ := hx
  obtain ⟨s1, s2, r, ex, em, I2⟩ := lw_join (Lx := (FP_x9_compare)) (Lm := FP_m_compare) (m := fun t => m_compare t (xs (x3 + 1).toNatClampNeg)) hI (fun sm I => c_compare I (xs (x3 + 1).toNatClampNeg)) rfl (fr_x9_compare _ _) rfl (fun t => fr_m_compare t _)
  have hM0 : g_Mt l yX9_compare M_x9_compare w σ [.inr (.inr (some (9, 0))), .inl (xs (x3 + 1).toNatClampNeg)] s1 (some (.inl r)) := by
    obtain ⟨σ', v, k1, k2⟩ := h_x9_compare l w c9 σ [.inr (.inr (some (9, 0))), .inl (xs (x3 + 1).toNatClampNeg)] rfl hwf (lw_ok (t := [(xs (x3 + 1).toNatClampNeg)]) (lw_v9 ck)) (Sg × Int32) retI (s1, r) (by
      show (x9_compare σ (xs (x3 + 1).toNatClampNeg)).bind (fun q => retI q.1 (some (.inl q.2))) = some (s1, r)
      have e9 : x9_compare σ (xs (x3 + 1).toNatClampNeg) = some (s1, r) := ex
      rw [e9]
      rfl)
    obtain ⟨rfl, rfl⟩ := retI_inv k1
    exact k2
  refine lv_aload_n (k := 1) c1 c2 (by decide +kernel) rfl (lv_at hlv 2 rfl) ?_
  refine lv_aload_n (k := 0) c1 c2 (by decide +kernel) rfl (lv_at hlv 3 rfl) ?_
  refine lv_iload_n (k := 3) c1 c2 (by decide +kernel) rfl (lv_at hlv 0 rfl) ?_
  refine lv_iconst (n := 1) (v := 1) c1 c2 (by decide +kernel) (by decide +kernel) ?_
  refine lv_iadd c1 c2 (by decide +kernel) ?_
  refine va_sld c1 c2 cX cb cA hS x1 (by decide +kernel) ?_
  refine lw_call (ci := 9) (T := TX9) (as := [.inl (xs (x3 + 1).toNatClampNeg)]) (rest := []) C hM0 cwl_152 ⟨wl5_55, wl5_56⟩ ⟨rfl, rfl⟩ ⟨by decide, by decide⟩ hR hS (lw_v9 ck) rfl hlv.1 (Nat.le_of_ble_eq_true rfl) (by decide +kernel) ⟨by show cells + 7 * 0 ≤ _; omega, by show slots + 600 * 0 ≤ _; omega⟩ (fun H1 locs1 hR1 hS1 hwf1 => ?_)
  have hM1 : g_Mt l yX10_compare M_m_compare w s1 [.inr (.inr (some (10, 0))), .inl (xs (x3 + 1).toNatClampNeg)] s2 (some (.inl r)) := by
    obtain ⟨σ', v, k1, k2⟩ := h_m_compare l w c9 s1 [.inr (.inr (some (10, 0))), .inl (xs (x3 + 1).toNatClampNeg)] rfl hwf1 (lw_ok (t := [(xs (x3 + 1).toNatClampNeg)]) (lw_v10 ck)) (Sg × Int32) retI (s2, r) (by
      show (m_compare s1 (xs (x3 + 1).toNatClampNeg)).bind (fun q => retI q.1 (some (.inl q.2))) = some (s2, r)
      have e9 : m_compare s1 (xs (x3 + 1).toNatClampNeg) = some (s2, r) := em
      rw [e9]
      rfl)
    obtain ⟨rfl, rfl⟩ := retI_inv k1
    exact k2
  refine W.eq (g2 := F0 m 948 lsA [.int r]) rfl ?_
  refine lv_aload_n (k := 2) c1 c2 (by decide +kernel) rfl (lv_at hlv 1 rfl) ?_
  refine lv_aload_n (k := 0) c1 c2 (by decide +kernel) rfl (lv_at hlv 3 rfl) ?_
  refine lv_iload_n (k := 3) c1 c2 (by decide +kernel) rfl (lv_at hlv 0 rfl) ?_
  refine lv_iconst (n := 1) (v := 1) c1 c2 (by decide +kernel) (by decide +kernel) ?_
  refine lv_iadd c1 c2 (by decide +kernel) ?_
  refine va_sld c1 c2 cX cb cA hS1 x1 (by decide +kernel) ?_
  refine lw_call (ci := 10) (T := TX10) (as := [.inl (xs (x3 + 1).toNatClampNeg)]) (rest := [.int r]) C hM1 cwl_155 ⟨wl8_6, wl8_7⟩ ⟨rfl, rfl⟩ ⟨by decide, by decide⟩ hR1 hS1 (lw_v10 ck) rfl hlv.1 (Nat.le_of_ble_eq_true rfl) (by decide +kernel) ⟨by show cells + 7 * 0 + 7 * 0 ≤ _; omega, by show slots + 600 * 0 + 600 * 0 ≤ _; omega⟩ (fun H2 locs2 hR2 hS2 hwf2 => ?_)
  refine W.eq (g2 := F0 m 957 lsA [.int r, .int r]) rfl ?_
  refine lv_icmp_eq (off := 153) (tgt := 1110) c1 c2 (by decide +kernel) (by decide) (fun _ => ?_) (fun q => absurd rfl q)
  refine W.widen (k := cells + 7) (n := slots + 600) (by show cells + 7 * 0 + 7 * 0 ≤ _; omega) (by show slots + 600 * 0 + 600 * 0 ≤ _; omega) ?_
  exact kk s2 _ _ I2 hR2 hS2 hwf2
set_option maxRecDepth 20000 in
theorem lc_34 {p : Program} {l : Launch} {e : Env} {s : State} {m : MethodId} {below : List Frame} {meth : Method} {c : Code} {b L : Nat} {xs : Nat → Int32} {w : g_W} {H : Heap} {locs : List Loc} {cells slots : Nat} {lsA : Array Slot} {Q : State → Prop} {σ : Sg} {x3 : Int32} (C : lw_C p s m c b L xs w) (hI : Inv σ σ) (hR : g_Rep w σ H) (hS : va_S (wA w) s.heap H locs) (hwf : g_wf w σ) (hlv : lv_has lsA 4 [(3, .int x3), (2, .ref (wr w 10 0)), (1, .ref (wr w 9 0)), (0, .ref b)]) (hx : lw_ix x3 L) (hc : cells + 7 ≤ 600000) (hs : slots + 600 ≤ 7302250)
    (kk : ∀ (σ2 : Sg) (H1 : Heap) (locs1 : List Loc), Inv σ2 σ2 → g_Rep w σ2 H1 → va_S (wA w) s.heap H1 locs1 → g_wf w σ2 → W p l e room_1 s m #[Value.ref b] below meth c H1 locs1 (cells + 7) (slots + 600) Q (F0 m 1110 lsA [])) :
    W p l e room_1 s m #[Value.ref b] below meth c H locs cells slots Q (F0 m 962 lsA []) := by
  have C0 := C
  obtain ⟨c1, c2, c3, c6, c7, c8, c9, ck, c14, cX, cb, cA⟩ := C0
  obtain ⟨x1, x2, x3', x4, x5⟩ := hx
  obtain ⟨s1, s2, r, ex, em, I2⟩ := lw_join (Lx := (FP_x9_weeks)) (Lm := FP_m_weeks) (m := fun t => m_weeks t (xs (x3 + 1).toNatClampNeg) (xs (x3 + 2).toNatClampNeg)) hI (fun sm I => c_weeks I (xs (x3 + 1).toNatClampNeg) (xs (x3 + 2).toNatClampNeg)) rfl (fr_x9_weeks _ _ _) rfl (fun t => fr_m_weeks t _ _)
  have hM0 : g_Mt l yX9_weeks M_x9_weeks w σ [.inr (.inr (some (9, 0))), .inl (xs (x3 + 1).toNatClampNeg), .inl (xs (x3 + 2).toNatClampNeg)] s1 (some (.inl r)) := by
    obtain ⟨σ', v, k1, k2⟩ := h_x9_weeks l w c9 σ [.inr (.inr (some (9, 0))), .inl (xs (x3 + 1).toNatClampNeg), .inl (xs (x3 + 2).toNatClampNeg)] rfl hwf (lw_ok (t := [(xs (x3 + 1).toNatClampNeg), (xs (x3 + 2).toNatClampNeg)]) (lw_v9 ck)) (Sg × Int32) retI (s1, r) (by
      show (x9_weeks σ (xs (x3 + 1).toNatClampNeg) (xs (x3 + 2).toNatClampNeg)).bind (fun q => retI q.1 (some (.inl q.2))) = some (s1, r)
      have e9 : x9_weeks σ (xs (x3 + 1).toNatClampNeg) (xs (x3 + 2).toNatClampNeg) = some (s1, r) := ex
      rw [e9]
      rfl)
    obtain ⟨rfl, rfl⟩ := retI_inv k1
    exact k2
  refine lv_aload_n (k := 1) c1 c2 (by decide +kernel) rfl (lv_at hlv 2 rfl) ?_
  refine lv_aload_n (k := 0) c1 c2 (by decide +kernel) rfl (lv_at hlv 3 rfl) ?_
  refine lv_iload_n (k := 3) c1 c2 (by decide +kernel) rfl (lv_at hlv 0 rfl) ?_
  refine lv_iconst (n := 1) (v := 1) c1 c2 (by decide +kernel) (by decide +kernel) ?_
  refine lv_iadd c1 c2 (by decide +kernel) ?_
  refine va_sld c1 c2 cX cb cA hS x1 (by decide +kernel) ?_
  refine lv_aload_n (k := 0) c1 c2 (by decide +kernel) rfl (lv_at hlv 3 rfl) ?_
  refine lv_iload_n (k := 3) c1 c2 (by decide +kernel) rfl (lv_at hlv 0 rfl) ?_
  refine lv_iconst (n := 2) (v := 2) c1 c2 (by decide +kernel) (by decide +kernel) ?_
  refine lv_iadd c1 c2 (by decide +kernel) ?_
  refine va_sld c1 c2 cX cb cA hS x2 (by decide +kernel) ?_
  refine lw_call (ci := 9) (T := TX9) (as := [.inl (xs (x3 + 1).toNatClampNeg), .inl (xs (x3 + 2).toNatClampNeg)]) (rest := []) C hM0 cwl_156 ⟨wl5_60, wl5_61⟩ ⟨rfl, rfl⟩ ⟨by decide, by decide⟩ hR hS (lw_v9 ck) rfl hlv.1 (Nat.le_of_ble_eq_true rfl) (by decide +kernel) ⟨by show cells + 7 * 0 ≤ _; omega, by show slots + 600 * 0 ≤ _; omega⟩ (fun H1 locs1 hR1 hS1 hwf1 => ?_)
  have hM1 : g_Mt l yX10_weeks M_m_weeks w s1 [.inr (.inr (some (10, 0))), .inl (xs (x3 + 1).toNatClampNeg), .inl (xs (x3 + 2).toNatClampNeg)] s2 (some (.inl r)) := by
    obtain ⟨σ', v, k1, k2⟩ := h_m_weeks l w c9 s1 [.inr (.inr (some (10, 0))), .inl (xs (x3 + 1).toNatClampNeg), .inl (xs (x3 + 2).toNatClampNeg)] rfl hwf1 (lw_ok (t := [(xs (x3 + 1).toNatClampNeg), (xs (x3 + 2).toNatClampNeg)]) (lw_v10 ck)) (Sg × Int32) retI (s2, r) (by
      show (m_weeks s1 (xs (x3 + 1).toNatClampNeg) (xs (x3 + 2).toNatClampNeg)).bind (fun q => retI q.1 (some (.inl q.2))) = some (s2, r)
      have e9 : m_weeks s1 (xs (x3 + 1).toNatClampNeg) (xs (x3 + 2).toNatClampNeg) = some (s2, r) := em
      rw [e9]
      rfl)
    obtain ⟨rfl, rfl⟩ := retI_inv k1
    exact k2
  refine W.eq (g2 := F0 m 976 lsA [.int r]) rfl ?_
  refine lv_aload_n (k := 2) c1 c2 (by decide +kernel) rfl (lv_at hlv 1 rfl) ?_
  refine lv_aload_n (k := 0) c1 c2 (by decide +kernel) rfl (lv_at hlv 3 rfl) ?_
  refine lv_iload_n (k := 3) c1 c2 (by decide +kernel) rfl (lv_at hlv 0 rfl) ?_
  refine lv_iconst (n := 1) (v := 1) c1 c2 (by decide +kernel) (by decide +kernel) ?_
  refine lv_iadd c1 c2 (by decide +kernel) ?_
  refine va_sld c1 c2 cX cb cA hS1 x1 (by decide +kernel) ?_
  refine lv_aload_n (k := 0) c1 c2 (by decide +kernel) rfl (lv_at hlv 3 rfl) ?_
  refine lv_iload_n (k := 3) c1 c2 (by decide +kernel) rfl (lv_at hlv 0 rfl) ?_
  refine lv_iconst (n := 2) (v := 2) c1 c2 (by decide +kernel) (by decide +kernel) ?_
  refine lv_iadd c1 c2 (by decide +kernel) ?_
  refine va_sld c1 c2 cX cb cA hS1 x2 (by decide +kernel) ?_
  refine lw_call (ci := 10) (T := TX10) (as := [.inl (xs (x3 + 1).toNatClampNeg), .inl (xs (x3 + 2).toNatClampNeg)]) (rest := [.int r]) C hM1 cwl_159 ⟨wl8_142, wl8_143⟩ ⟨rfl, rfl⟩ ⟨by decide, by decide⟩ hR1 hS1 (lw_v10 ck) rfl hlv.1 (Nat.le_of_ble_eq_true rfl) (by decide +kernel) ⟨by show cells + 7 * 0 + 7 * 0 ≤ _; omega, by show slots + 600 * 0 + 600 * 0 ≤ _; omega⟩ (fun H2 locs2 hR2 hS2 hwf2 => ?_)
  refine W.eq (g2 := F0 m 990 lsA [.int r, .int r]) rfl ?_
  refine lv_icmp_eq (off := 120) (tgt := 1110) c1 c2 (by decide +kernel) (by decide) (fun _ => ?_) (fun q => absurd rfl q)
  refine W.widen (k := cells + 7) (n := slots + 600) (by show cells + 7 * 0 + 7 * 0 ≤ _; omega) (by show slots + 600 * 0 + 600 * 0 ≤ _; omega) ?_
  exact kk s2 _ _ I2 hR2 hS2 hwf2
set_option maxRecDepth 20000 in
theorem lc_35 {p : Program} {l : Launch} {e : Env} {s : State} {m : MethodId} {below : List Frame} {meth : Method} {c : Code} {b L : Nat} {xs : Nat → Int32} {w : g_W} {H : Heap} {locs : List Loc} {cells slots : Nat} {lsA : Array Slot} {Q : State → Prop} {σ : Sg} {x3 : Int32} (C : lw_C p s m c b L xs w) (hI : Inv σ σ) (hR : g_Rep w σ H) (hS : va_S (wA w) s.heap H locs) (hwf : g_wf w σ) (hlv : lv_has lsA 4 [(3, .int x3), (2, .ref (wr w 10 0)), (1, .ref (wr w 9 0)), (0, .ref b)]) (hx : lw_ix x3 L) (hc : cells + 7 ≤ 600000) (hs : slots + 600 ≤ 7302250)
    (kk : ∀ (σ2 : Sg) (H1 : Heap) (locs1 : List Loc), Inv σ2 σ2 → g_Rep w σ2 H1 → va_S (wA w) s.heap H1 locs1 → g_wf w σ2 → W p l e room_1 s m #[Value.ref b] below meth c H1 locs1 (cells + 7) (slots + 600) Q (F0 m 1110 lsA [])) :
    W p l e room_1 s m #[Value.ref b] below meth c H locs cells slots Q (F0 m 995 lsA []) := by
  have C0 := C
  obtain ⟨c1, c2, c3, c6, c7, c8, c9, ck, c14, cX, cb, cA⟩ := C0
  obtain ⟨x1, x2, x3', x4, x5⟩ := hx
  obtain ⟨s1, s2, r, ex, em, I2⟩ := lw_join (Lx := (FP_x9_drawn)) (Lm := FP_m_drawn) (m := fun t => m_drawn t (xs (x3 + 1).toNatClampNeg) (xs (x3 + 2).toNatClampNeg)) hI (fun sm I => c_drawn I (xs (x3 + 1).toNatClampNeg) (xs (x3 + 2).toNatClampNeg)) rfl (fr_x9_drawn _ _ _) rfl (fun t => fr_m_drawn t _ _)
  have hM0 : g_Mt l yX9_drawn M_x9_drawn w σ [.inr (.inr (some (9, 0))), .inl (xs (x3 + 1).toNatClampNeg), .inl (xs (x3 + 2).toNatClampNeg)] s1 (some (.inl r)) := by
    obtain ⟨σ', v, k1, k2⟩ := h_x9_drawn l w c9 σ [.inr (.inr (some (9, 0))), .inl (xs (x3 + 1).toNatClampNeg), .inl (xs (x3 + 2).toNatClampNeg)] rfl hwf (lw_ok (t := [(xs (x3 + 1).toNatClampNeg), (xs (x3 + 2).toNatClampNeg)]) (lw_v9 ck)) (Sg × Int32) retI (s1, r) (by
      show (x9_drawn σ (xs (x3 + 1).toNatClampNeg) (xs (x3 + 2).toNatClampNeg)).bind (fun q => retI q.1 (some (.inl q.2))) = some (s1, r)
      have e9 : x9_drawn σ (xs (x3 + 1).toNatClampNeg) (xs (x3 + 2).toNatClampNeg) = some (s1, r) := ex
      rw [e9]
      rfl)
    obtain ⟨rfl, rfl⟩ := retI_inv k1
    exact k2
  refine lv_aload_n (k := 1) c1 c2 (by decide +kernel) rfl (lv_at hlv 2 rfl) ?_
  refine lv_aload_n (k := 0) c1 c2 (by decide +kernel) rfl (lv_at hlv 3 rfl) ?_
  refine lv_iload_n (k := 3) c1 c2 (by decide +kernel) rfl (lv_at hlv 0 rfl) ?_
  refine lv_iconst (n := 1) (v := 1) c1 c2 (by decide +kernel) (by decide +kernel) ?_
  refine lv_iadd c1 c2 (by decide +kernel) ?_
  refine va_sld c1 c2 cX cb cA hS x1 (by decide +kernel) ?_
  refine lv_aload_n (k := 0) c1 c2 (by decide +kernel) rfl (lv_at hlv 3 rfl) ?_
  refine lv_iload_n (k := 3) c1 c2 (by decide +kernel) rfl (lv_at hlv 0 rfl) ?_
  refine lv_iconst (n := 2) (v := 2) c1 c2 (by decide +kernel) (by decide +kernel) ?_
  refine lv_iadd c1 c2 (by decide +kernel) ?_
  refine va_sld c1 c2 cX cb cA hS x2 (by decide +kernel) ?_
  refine lw_call (ci := 9) (T := TX9) (as := [.inl (xs (x3 + 1).toNatClampNeg), .inl (xs (x3 + 2).toNatClampNeg)]) (rest := []) C hM0 cwl_160 ⟨wl5_71, wl5_72⟩ ⟨rfl, rfl⟩ ⟨by decide, by decide⟩ hR hS (lw_v9 ck) rfl hlv.1 (Nat.le_of_ble_eq_true rfl) (by decide +kernel) ⟨by show cells + 7 * 0 ≤ _; omega, by show slots + 600 * 0 ≤ _; omega⟩ (fun H1 locs1 hR1 hS1 hwf1 => ?_)
  have hM1 : g_Mt l yX10_drawn M_m_drawn w s1 [.inr (.inr (some (10, 0))), .inl (xs (x3 + 1).toNatClampNeg), .inl (xs (x3 + 2).toNatClampNeg)] s2 (some (.inl r)) := by
    obtain ⟨σ', v, k1, k2⟩ := h_m_drawn l w c9 s1 [.inr (.inr (some (10, 0))), .inl (xs (x3 + 1).toNatClampNeg), .inl (xs (x3 + 2).toNatClampNeg)] rfl hwf1 (lw_ok (t := [(xs (x3 + 1).toNatClampNeg), (xs (x3 + 2).toNatClampNeg)]) (lw_v10 ck)) (Sg × Int32) retI (s2, r) (by
      show (m_drawn s1 (xs (x3 + 1).toNatClampNeg) (xs (x3 + 2).toNatClampNeg)).bind (fun q => retI q.1 (some (.inl q.2))) = some (s2, r)
      have e9 : m_drawn s1 (xs (x3 + 1).toNatClampNeg) (xs (x3 + 2).toNatClampNeg) = some (s2, r) := em
      rw [e9]
      rfl)
    obtain ⟨rfl, rfl⟩ := retI_inv k1
    exact k2
  refine W.eq (g2 := F0 m 1009 lsA [.int r]) rfl ?_
  refine lv_aload_n (k := 2) c1 c2 (by decide +kernel) rfl (lv_at hlv 1 rfl) ?_
  refine lv_aload_n (k := 0) c1 c2 (by decide +kernel) rfl (lv_at hlv 3 rfl) ?_
  refine lv_iload_n (k := 3) c1 c2 (by decide +kernel) rfl (lv_at hlv 0 rfl) ?_
  refine lv_iconst (n := 1) (v := 1) c1 c2 (by decide +kernel) (by decide +kernel) ?_
  refine lv_iadd c1 c2 (by decide +kernel) ?_
  refine va_sld c1 c2 cX cb cA hS1 x1 (by decide +kernel) ?_
  refine lv_aload_n (k := 0) c1 c2 (by decide +kernel) rfl (lv_at hlv 3 rfl) ?_
  refine lv_iload_n (k := 3) c1 c2 (by decide +kernel) rfl (lv_at hlv 0 rfl) ?_
  refine lv_iconst (n := 2) (v := 2) c1 c2 (by decide +kernel) (by decide +kernel) ?_
  refine lv_iadd c1 c2 (by decide +kernel) ?_
  refine va_sld c1 c2 cX cb cA hS1 x2 (by decide +kernel) ?_
  refine lw_call (ci := 10) (T := TX10) (as := [.inl (xs (x3 + 1).toNatClampNeg), .inl (xs (x3 + 2).toNatClampNeg)]) (rest := [.int r]) C hM1 cwl_163 ⟨wl8_157, wl8_158⟩ ⟨rfl, rfl⟩ ⟨by decide, by decide⟩ hR1 hS1 (lw_v10 ck) rfl hlv.1 (Nat.le_of_ble_eq_true rfl) (by decide +kernel) ⟨by show cells + 7 * 0 + 7 * 0 ≤ _; omega, by show slots + 600 * 0 + 600 * 0 ≤ _; omega⟩ (fun H2 locs2 hR2 hS2 hwf2 => ?_)
  refine W.eq (g2 := F0 m 1023 lsA [.int r, .int r]) rfl ?_
  refine lv_icmp_eq (off := 87) (tgt := 1110) c1 c2 (by decide +kernel) (by decide) (fun _ => ?_) (fun q => absurd rfl q)
  refine W.widen (k := cells + 7) (n := slots + 600) (by show cells + 7 * 0 + 7 * 0 ≤ _; omega) (by show slots + 600 * 0 + 600 * 0 ≤ _; omega) ?_
  exact kk s2 _ _ I2 hR2 hS2 hwf2
set_option maxRecDepth 20000 in
theorem lc_36 {p : Program} {l : Launch} {e : Env} {s : State} {m : MethodId} {below : List Frame} {meth : Method} {c : Code} {b L : Nat} {xs : Nat → Int32} {w : g_W} {H : Heap} {locs : List Loc} {cells slots : Nat} {lsA : Array Slot} {Q : State → Prop} {σ : Sg} {x3 : Int32} (C : lw_C p s m c b L xs w) (hI : Inv σ σ) (hR : g_Rep w σ H) (hS : va_S (wA w) s.heap H locs) (hwf : g_wf w σ) (hlv : lv_has lsA 4 [(3, .int x3), (2, .ref (wr w 10 0)), (1, .ref (wr w 9 0)), (0, .ref b)]) (hx : lw_ix x3 L) (hc : cells + 7 ≤ 600000) (hs : slots + 600 ≤ 7302250)
    (kk : ∀ (σ2 : Sg) (H1 : Heap) (locs1 : List Loc), Inv σ2 σ2 → g_Rep w σ2 H1 → va_S (wA w) s.heap H1 locs1 → g_wf w σ2 → W p l e room_1 s m #[Value.ref b] below meth c H1 locs1 (cells + 7) (slots + 600) Q (F0 m 1110 lsA [])) :
    W p l e room_1 s m #[Value.ref b] below meth c H locs cells slots Q (F0 m 1028 lsA []) := by
  have C0 := C
  obtain ⟨c1, c2, c3, c6, c7, c8, c9, ck, c14, cX, cb, cA⟩ := C0
  obtain ⟨x1, x2, x3', x4, x5⟩ := hx
  obtain ⟨s1, s2, r, ex, em, I2⟩ := lw_join (Lx := (FP_x9_image (xs (x3 + 1).toNatClampNeg))) (Lm := FP_m_image) (m := fun t => m_image t (xs (x3 + 1).toNatClampNeg)) hI (fun sm I => c_image I (xs (x3 + 1).toNatClampNeg)) rfl (fr_x9_image _ _) rfl (fun t => fr_m_image t _)
  have hM0 : g_Mt l yX9_image M_x9_image w σ [.inr (.inr (some (9, 0))), .inl (xs (x3 + 1).toNatClampNeg)] s1 (some (.inl r)) := by
    obtain ⟨σ', v, k1, k2⟩ := h_x9_image l w c9 σ [.inr (.inr (some (9, 0))), .inl (xs (x3 + 1).toNatClampNeg)] rfl hwf (lw_ok (t := [(xs (x3 + 1).toNatClampNeg)]) (lw_v9 ck)) (Sg × Int32) retI (s1, r) (by
      show (x9_image σ (xs (x3 + 1).toNatClampNeg)).bind (fun q => retI q.1 (some (.inl q.2))) = some (s1, r)
      have e9 : x9_image σ (xs (x3 + 1).toNatClampNeg) = some (s1, r) := ex
      rw [e9]
      rfl)
    obtain ⟨rfl, rfl⟩ := retI_inv k1
    exact k2
  refine lv_aload_n (k := 1) c1 c2 (by decide +kernel) rfl (lv_at hlv 2 rfl) ?_
  refine lv_aload_n (k := 0) c1 c2 (by decide +kernel) rfl (lv_at hlv 3 rfl) ?_
  refine lv_iload_n (k := 3) c1 c2 (by decide +kernel) rfl (lv_at hlv 0 rfl) ?_
  refine lv_iconst (n := 1) (v := 1) c1 c2 (by decide +kernel) (by decide +kernel) ?_
  refine lv_iadd c1 c2 (by decide +kernel) ?_
  refine va_sld c1 c2 cX cb cA hS x1 (by decide +kernel) ?_
  refine lw_call (ci := 9) (T := TX9) (as := [.inl (xs (x3 + 1).toNatClampNeg)]) (rest := []) C hM0 cwl_164 ⟨wl5_75, wl5_76⟩ ⟨rfl, rfl⟩ ⟨by decide, by decide⟩ hR hS (lw_v9 ck) rfl hlv.1 (Nat.le_of_ble_eq_true rfl) (by decide +kernel) ⟨by show cells + 7 * 0 ≤ _; omega, by show slots + 600 * 0 ≤ _; omega⟩ (fun H1 locs1 hR1 hS1 hwf1 => ?_)
  have hM1 : g_Mt l yX10_image M_m_image w s1 [.inr (.inr (some (10, 0))), .inl (xs (x3 + 1).toNatClampNeg)] s2 (some (.inl r)) := by
    obtain ⟨σ', v, k1, k2⟩ := h_m_image l w c9 s1 [.inr (.inr (some (10, 0))), .inl (xs (x3 + 1).toNatClampNeg)] rfl hwf1 (lw_ok (t := [(xs (x3 + 1).toNatClampNeg)]) (lw_v10 ck)) (Sg × Int32) retI (s2, r) (by
      show (m_image s1 (xs (x3 + 1).toNatClampNeg)).bind (fun q => retI q.1 (some (.inl q.2))) = some (s2, r)
      have e9 : m_image s1 (xs (x3 + 1).toNatClampNeg) = some (s2, r) := em
      rw [e9]
      rfl)
    obtain ⟨rfl, rfl⟩ := retI_inv k1
    exact k2
  refine W.eq (g2 := F0 m 1037 lsA [.int r]) rfl ?_
  refine lv_aload_n (k := 2) c1 c2 (by decide +kernel) rfl (lv_at hlv 1 rfl) ?_
  refine lv_aload_n (k := 0) c1 c2 (by decide +kernel) rfl (lv_at hlv 3 rfl) ?_
  refine lv_iload_n (k := 3) c1 c2 (by decide +kernel) rfl (lv_at hlv 0 rfl) ?_
  refine lv_iconst (n := 1) (v := 1) c1 c2 (by decide +kernel) (by decide +kernel) ?_
  refine lv_iadd c1 c2 (by decide +kernel) ?_
  refine va_sld c1 c2 cX cb cA hS1 x1 (by decide +kernel) ?_
  refine lw_call (ci := 10) (T := TX10) (as := [.inl (xs (x3 + 1).toNatClampNeg)]) (rest := [.int r]) C hM1 cwl_167 ⟨wl6_70, wl6_71⟩ ⟨rfl, rfl⟩ ⟨by decide, by decide⟩ hR1 hS1 (lw_v10 ck) rfl hlv.1 (Nat.le_of_ble_eq_true rfl) (by decide +kernel) ⟨by show cells + 7 * 0 + 7 * 0 ≤ _; omega, by show slots + 600 * 0 + 600 * 0 ≤ _; omega⟩ (fun H2 locs2 hR2 hS2 hwf2 => ?_)
  refine W.eq (g2 := F0 m 1046 lsA [.int r, .int r]) rfl ?_
  refine lv_icmp_eq (off := 64) (tgt := 1110) c1 c2 (by decide +kernel) (by decide) (fun _ => ?_) (fun q => absurd rfl q)
  refine W.widen (k := cells + 7) (n := slots + 600) (by show cells + 7 * 0 + 7 * 0 ≤ _; omega) (by show slots + 600 * 0 + 600 * 0 ≤ _; omega) ?_
  exact kk s2 _ _ I2 hR2 hS2 hwf2
set_option maxRecDepth 20000 in
theorem lc_37 {p : Program} {l : Launch} {e : Env} {s : State} {m : MethodId} {below : List Frame} {meth : Method} {c : Code} {b L : Nat} {xs : Nat → Int32} {w : g_W} {H : Heap} {locs : List Loc} {cells slots : Nat} {lsA : Array Slot} {Q : State → Prop} {σ : Sg} {x3 : Int32} (C : lw_C p s m c b L xs w) (hI : Inv σ σ) (hR : g_Rep w σ H) (hS : va_S (wA w) s.heap H locs) (hwf : g_wf w σ) (hlv : lv_has lsA 4 [(3, .int x3), (2, .ref (wr w 10 0)), (1, .ref (wr w 9 0)), (0, .ref b)]) (hx : lw_ix x3 L) (hc : cells + 7 ≤ 600000) (hs : slots + 600 ≤ 7302250)
    (kk : ∀ (σ2 : Sg) (H1 : Heap) (locs1 : List Loc), Inv σ2 σ2 → g_Rep w σ2 H1 → va_S (wA w) s.heap H1 locs1 → g_wf w σ2 → W p l e room_1 s m #[Value.ref b] below meth c H1 locs1 (cells + 7) (slots + 600) Q (F0 m 1110 lsA [])) :
    W p l e room_1 s m #[Value.ref b] below meth c H locs cells slots Q (F0 m 1051 lsA []) := by
  have C0 := C
  obtain ⟨c1, c2, c3, c6, c7, c8, c9, ck, c14, cX, cb, cA⟩ := C0
  obtain ⟨x1, x2, x3', x4, x5⟩ := hx
  obtain ⟨s1, s2, r, ex, em, I2⟩ := lw_join (Lx := (FP_x9_back)) (Lm := FP_m_back) (m := fun t => m_back t (xs (x3 + 1).toNatClampNeg)) hI (fun sm I => c_back I (xs (x3 + 1).toNatClampNeg)) rfl (fr_x9_back _ _) rfl (fun t => fr_m_back t _)
  have hM0 : g_Mt l yX9_back M_x9_back w σ [.inr (.inr (some (9, 0))), .inl (xs (x3 + 1).toNatClampNeg)] s1 (some (.inl r)) := by
    obtain ⟨σ', v, k1, k2⟩ := h_x9_back l w c9 σ [.inr (.inr (some (9, 0))), .inl (xs (x3 + 1).toNatClampNeg)] rfl hwf (lw_ok (t := [(xs (x3 + 1).toNatClampNeg)]) (lw_v9 ck)) (Sg × Int32) retI (s1, r) (by
      show (x9_back σ (xs (x3 + 1).toNatClampNeg)).bind (fun q => retI q.1 (some (.inl q.2))) = some (s1, r)
      have e9 : x9_back σ (xs (x3 + 1).toNatClampNeg) = some (s1, r) := ex
      rw [e9]
      rfl)
    obtain ⟨rfl, rfl⟩ := retI_inv k1
    exact k2
  refine lv_aload_n (k := 1) c1 c2 (by decide +kernel) rfl (lv_at hlv 2 rfl) ?_
  refine lv_aload_n (k := 0) c1 c2 (by decide +kernel) rfl (lv_at hlv 3 rfl) ?_
  refine lv_iload_n (k := 3) c1 c2 (by decide +kernel) rfl (lv_at hlv 0 rfl) ?_
  refine lv_iconst (n := 1) (v := 1) c1 c2 (by decide +kernel) (by decide +kernel) ?_
  refine lv_iadd c1 c2 (by decide +kernel) ?_
  refine va_sld c1 c2 cX cb cA hS x1 (by decide +kernel) ?_
  refine lw_call (ci := 9) (T := TX9) (as := [.inl (xs (x3 + 1).toNatClampNeg)]) (rest := []) C hM0 cwl_168 ⟨wl5_79, wl5_80⟩ ⟨rfl, rfl⟩ ⟨by decide, by decide⟩ hR hS (lw_v9 ck) rfl hlv.1 (Nat.le_of_ble_eq_true rfl) (by decide +kernel) ⟨by show cells + 7 * 0 ≤ _; omega, by show slots + 600 * 0 ≤ _; omega⟩ (fun H1 locs1 hR1 hS1 hwf1 => ?_)
  have hM1 : g_Mt l yX10_back M_m_back w s1 [.inr (.inr (some (10, 0))), .inl (xs (x3 + 1).toNatClampNeg)] s2 (some (.inl r)) := by
    obtain ⟨σ', v, k1, k2⟩ := h_m_back l w c9 s1 [.inr (.inr (some (10, 0))), .inl (xs (x3 + 1).toNatClampNeg)] rfl hwf1 (lw_ok (t := [(xs (x3 + 1).toNatClampNeg)]) (lw_v10 ck)) (Sg × Int32) retI (s2, r) (by
      show (m_back s1 (xs (x3 + 1).toNatClampNeg)).bind (fun q => retI q.1 (some (.inl q.2))) = some (s2, r)
      have e9 : m_back s1 (xs (x3 + 1).toNatClampNeg) = some (s2, r) := em
      rw [e9]
      rfl)
    obtain ⟨rfl, rfl⟩ := retI_inv k1
    exact k2
  refine W.eq (g2 := F0 m 1060 lsA [.int r]) rfl ?_
  refine lv_aload_n (k := 2) c1 c2 (by decide +kernel) rfl (lv_at hlv 1 rfl) ?_
  refine lv_aload_n (k := 0) c1 c2 (by decide +kernel) rfl (lv_at hlv 3 rfl) ?_
  refine lv_iload_n (k := 3) c1 c2 (by decide +kernel) rfl (lv_at hlv 0 rfl) ?_
  refine lv_iconst (n := 1) (v := 1) c1 c2 (by decide +kernel) (by decide +kernel) ?_
  refine lv_iadd c1 c2 (by decide +kernel) ?_
  refine va_sld c1 c2 cX cb cA hS1 x1 (by decide +kernel) ?_
  refine lw_call (ci := 10) (T := TX10) (as := [.inl (xs (x3 + 1).toNatClampNeg)]) (rest := [.int r]) C hM1 cwl_171 ⟨wl6_85, wl6_86⟩ ⟨rfl, rfl⟩ ⟨by decide, by decide⟩ hR1 hS1 (lw_v10 ck) rfl hlv.1 (Nat.le_of_ble_eq_true rfl) (by decide +kernel) ⟨by show cells + 7 * 0 + 7 * 0 ≤ _; omega, by show slots + 600 * 0 + 600 * 0 ≤ _; omega⟩ (fun H2 locs2 hR2 hS2 hwf2 => ?_)
  refine W.eq (g2 := F0 m 1069 lsA [.int r, .int r]) rfl ?_
  refine lv_icmp_eq (off := 41) (tgt := 1110) c1 c2 (by decide +kernel) (by decide) (fun _ => ?_) (fun q => absurd rfl q)
  refine W.widen (k := cells + 7) (n := slots + 600) (by show cells + 7 * 0 + 7 * 0 ≤ _; omega) (by show slots + 600 * 0 + 600 * 0 ≤ _; omega) ?_
  exact kk s2 _ _ I2 hR2 hS2 hwf2
set_option maxRecDepth 20000 in
theorem lc_38 {p : Program} {l : Launch} {e : Env} {s : State} {m : MethodId} {below : List Frame} {meth : Method} {c : Code} {b L : Nat} {xs : Nat → Int32} {w : g_W} {H : Heap} {locs : List Loc} {cells slots : Nat} {lsA : Array Slot} {Q : State → Prop} {σ : Sg} {x3 : Int32} (C : lw_C p s m c b L xs w) (hI : Inv σ σ) (hR : g_Rep w σ H) (hS : va_S (wA w) s.heap H locs) (hwf : g_wf w σ) (hlv : lv_has lsA 4 [(3, .int x3), (2, .ref (wr w 10 0)), (1, .ref (wr w 9 0)), (0, .ref b)]) (hx : lw_ix x3 L) (hc : cells + 7 ≤ 600000) (hs : slots + 600 ≤ 7302250)
    (kk : ∀ (σ2 : Sg) (H1 : Heap) (locs1 : List Loc), Inv σ2 σ2 → g_Rep w σ2 H1 → va_S (wA w) s.heap H1 locs1 → g_wf w σ2 → W p l e room_1 s m #[Value.ref b] below meth c H1 locs1 (cells + 7) (slots + 600) Q (F0 m 1110 lsA [])) :
    W p l e room_1 s m #[Value.ref b] below meth c H locs cells slots Q (F0 m 1074 lsA []) := by
  have C0 := C
  obtain ⟨c1, c2, c3, c6, c7, c8, c9, ck, c14, cX, cb, cA⟩ := C0
  obtain ⟨x1, x2, x3', x4, x5⟩ := hx
  obtain ⟨s1, s2, r, ex, em, I2⟩ := lw_join (Lx := (FP_x9_count)) (Lm := FP_m_count) (m := fun t => m_count t (xs (x3 + 1).toNatClampNeg)) hI (fun sm I => c_count I (xs (x3 + 1).toNatClampNeg)) rfl (fr_x9_count _ _) rfl (fun t => fr_m_count t _)
  have hM0 : g_Mt l yX9_count M_x9_count w σ [.inr (.inr (some (9, 0))), .inl (xs (x3 + 1).toNatClampNeg)] s1 (some (.inl r)) := by
    obtain ⟨σ', v, k1, k2⟩ := h_x9_count l w c9 σ [.inr (.inr (some (9, 0))), .inl (xs (x3 + 1).toNatClampNeg)] rfl hwf (lw_ok (t := [(xs (x3 + 1).toNatClampNeg)]) (lw_v9 ck)) (Sg × Int32) retI (s1, r) (by
      show (x9_count σ (xs (x3 + 1).toNatClampNeg)).bind (fun q => retI q.1 (some (.inl q.2))) = some (s1, r)
      have e9 : x9_count σ (xs (x3 + 1).toNatClampNeg) = some (s1, r) := ex
      rw [e9]
      rfl)
    obtain ⟨rfl, rfl⟩ := retI_inv k1
    exact k2
  refine lv_aload_n (k := 1) c1 c2 (by decide +kernel) rfl (lv_at hlv 2 rfl) ?_
  refine lv_aload_n (k := 0) c1 c2 (by decide +kernel) rfl (lv_at hlv 3 rfl) ?_
  refine lv_iload_n (k := 3) c1 c2 (by decide +kernel) rfl (lv_at hlv 0 rfl) ?_
  refine lv_iconst (n := 1) (v := 1) c1 c2 (by decide +kernel) (by decide +kernel) ?_
  refine lv_iadd c1 c2 (by decide +kernel) ?_
  refine va_sld c1 c2 cX cb cA hS x1 (by decide +kernel) ?_
  refine lw_call (ci := 9) (T := TX9) (as := [.inl (xs (x3 + 1).toNatClampNeg)]) (rest := []) C hM0 cwl_172 ⟨wl5_83, wl5_84⟩ ⟨rfl, rfl⟩ ⟨by decide, by decide⟩ hR hS (lw_v9 ck) rfl hlv.1 (Nat.le_of_ble_eq_true rfl) (by decide +kernel) ⟨by show cells + 7 * 0 ≤ _; omega, by show slots + 600 * 0 ≤ _; omega⟩ (fun H1 locs1 hR1 hS1 hwf1 => ?_)
  have hM1 : g_Mt l yX10_count M_m_count w s1 [.inr (.inr (some (10, 0))), .inl (xs (x3 + 1).toNatClampNeg)] s2 (some (.inl r)) := by
    obtain ⟨σ', v, k1, k2⟩ := h_m_count l w c9 s1 [.inr (.inr (some (10, 0))), .inl (xs (x3 + 1).toNatClampNeg)] rfl hwf1 (lw_ok (t := [(xs (x3 + 1).toNatClampNeg)]) (lw_v10 ck)) (Sg × Int32) retI (s2, r) (by
      show (m_count s1 (xs (x3 + 1).toNatClampNeg)).bind (fun q => retI q.1 (some (.inl q.2))) = some (s2, r)
      have e9 : m_count s1 (xs (x3 + 1).toNatClampNeg) = some (s2, r) := em
      rw [e9]
      rfl)
    obtain ⟨rfl, rfl⟩ := retI_inv k1
    exact k2
  refine W.eq (g2 := F0 m 1083 lsA [.int r]) rfl ?_
  refine lv_aload_n (k := 2) c1 c2 (by decide +kernel) rfl (lv_at hlv 1 rfl) ?_
  refine lv_aload_n (k := 0) c1 c2 (by decide +kernel) rfl (lv_at hlv 3 rfl) ?_
  refine lv_iload_n (k := 3) c1 c2 (by decide +kernel) rfl (lv_at hlv 0 rfl) ?_
  refine lv_iconst (n := 1) (v := 1) c1 c2 (by decide +kernel) (by decide +kernel) ?_
  refine lv_iadd c1 c2 (by decide +kernel) ?_
  refine va_sld c1 c2 cX cb cA hS1 x1 (by decide +kernel) ?_
  refine lw_call (ci := 10) (T := TX10) (as := [.inl (xs (x3 + 1).toNatClampNeg)]) (rest := [.int r]) C hM1 cwl_175 ⟨wl8_161, wl8_162⟩ ⟨rfl, rfl⟩ ⟨by decide, by decide⟩ hR1 hS1 (lw_v10 ck) rfl hlv.1 (Nat.le_of_ble_eq_true rfl) (by decide +kernel) ⟨by show cells + 7 * 0 + 7 * 0 ≤ _; omega, by show slots + 600 * 0 + 600 * 0 ≤ _; omega⟩ (fun H2 locs2 hR2 hS2 hwf2 => ?_)
  refine W.eq (g2 := F0 m 1092 lsA [.int r, .int r]) rfl ?_
  refine lv_icmp_eq (off := 18) (tgt := 1110) c1 c2 (by decide +kernel) (by decide) (fun _ => ?_) (fun q => absurd rfl q)
  refine W.widen (k := cells + 7) (n := slots + 600) (by show cells + 7 * 0 + 7 * 0 ≤ _; omega) (by show slots + 600 * 0 + 600 * 0 ≤ _; omega) ?_
  exact kk s2 _ _ I2 hR2 hS2 hwf2
set_option maxRecDepth 20000 in
theorem lc_39 {p : Program} {l : Launch} {e : Env} {s : State} {m : MethodId} {below : List Frame} {meth : Method} {c : Code} {b L : Nat} {xs : Nat → Int32} {w : g_W} {H : Heap} {locs : List Loc} {cells slots : Nat} {lsA : Array Slot} {Q : State → Prop} {σ : Sg} {x3 : Int32} (C : lw_C p s m c b L xs w) (hI : Inv σ σ) (hR : g_Rep w σ H) (hS : va_S (wA w) s.heap H locs) (hwf : g_wf w σ) (hlv : lv_has lsA 4 [(3, .int x3), (2, .ref (wr w 10 0)), (1, .ref (wr w 9 0)), (0, .ref b)]) (hx : lw_ix x3 L) (hc : cells + 7 ≤ 600000) (hs : slots + 600 ≤ 7302250)
    (kk : ∀ (σ2 : Sg) (H1 : Heap) (locs1 : List Loc), Inv σ2 σ2 → g_Rep w σ2 H1 → va_S (wA w) s.heap H1 locs1 → g_wf w σ2 → W p l e room_1 s m #[Value.ref b] below meth c H1 locs1 (cells + 7) (slots + 600) Q (F0 m 1110 lsA [])) :
    W p l e room_1 s m #[Value.ref b] below meth c H locs cells slots Q (F0 m 1097 lsA []) := by
  have C0 := C
  obtain ⟨c1, c2, c3, c6, c7, c8, c9, ck, c14, cX, cb, cA⟩ := C0
  obtain ⟨x1, x2, x3', x4, x5⟩ := hx
  obtain ⟨s1, s2, r, ex, em, I2⟩ := lw_join (Lx := (FP_x9_status)) (Lm := FP_m_status) (m := fun t => m_status t ) hI (fun sm I => c_status I) rfl (fr_x9_status _ ) rfl (fun t => fr_m_status t )
  have hM0 : g_Mt l yX9_status M_x9_status w σ [.inr (.inr (some (9, 0)))] s1 (some (.inl r)) := by
    obtain ⟨σ', v, k1, k2⟩ := h_x9_status l w c9 σ [.inr (.inr (some (9, 0)))] rfl hwf (lw_ok (t := []) (lw_v9 ck)) (Sg × Int32) retI (s1, r) (by
      show (x9_status σ ).bind (fun q => retI q.1 (some (.inl q.2))) = some (s1, r)
      have e9 : x9_status σ  = some (s1, r) := ex
      rw [e9]
      rfl)
    obtain ⟨rfl, rfl⟩ := retI_inv k1
    exact k2
  refine lv_aload_n (k := 1) c1 c2 (by decide +kernel) rfl (lv_at hlv 2 rfl) ?_
  refine lw_call (ci := 9) (T := TX9) (as := []) (rest := []) C hM0 cwl_176 ⟨wl5_87, wl5_88⟩ ⟨rfl, rfl⟩ ⟨by decide, by decide⟩ hR hS (lw_v9 ck) rfl hlv.1 (Nat.le_of_ble_eq_true rfl) (by decide +kernel) ⟨by show cells + 7 * 0 ≤ _; omega, by show slots + 600 * 0 ≤ _; omega⟩ (fun H1 locs1 hR1 hS1 hwf1 => ?_)
  have hM1 : g_Mt l yX10_status M_m_status w s1 [.inr (.inr (some (10, 0)))] s2 (some (.inl r)) := by
    obtain ⟨σ', v, k1, k2⟩ := h_m_status l w c9 s1 [.inr (.inr (some (10, 0)))] rfl hwf1 (lw_ok (t := []) (lw_v10 ck)) (Sg × Int32) retI (s2, r) (by
      show (m_status s1 ).bind (fun q => retI q.1 (some (.inl q.2))) = some (s2, r)
      have e9 : m_status s1  = some (s2, r) := em
      rw [e9]
      rfl)
    obtain ⟨rfl, rfl⟩ := retI_inv k1
    exact k2
  refine W.eq (g2 := F0 m 1101 lsA [.int r]) rfl ?_
  refine lv_aload_n (k := 2) c1 c2 (by decide +kernel) rfl (lv_at hlv 1 rfl) ?_
  refine lw_call (ci := 10) (T := TX10) (as := []) (rest := [.int r]) C hM1 cwl_179 ⟨wl8_165, wl8_166⟩ ⟨rfl, rfl⟩ ⟨by decide, by decide⟩ hR1 hS1 (lw_v10 ck) rfl hlv.1 (Nat.le_of_ble_eq_true rfl) (by decide +kernel) ⟨by show cells + 7 * 0 + 7 * 0 ≤ _; omega, by show slots + 600 * 0 + 600 * 0 ≤ _; omega⟩ (fun H2 locs2 hR2 hS2 hwf2 => ?_)
  refine W.eq (g2 := F0 m 1105 lsA [.int r, .int r]) rfl ?_
  refine lv_icmp_eq (off := 5) (tgt := 1110) c1 c2 (by decide +kernel) (by decide) (fun _ => ?_) (fun q => absurd rfl q)
  refine W.widen (k := cells + 7) (n := slots + 600) (by show cells + 7 * 0 + 7 * 0 ≤ _; omega) (by show slots + 600 * 0 + 600 * 0 ≤ _; omega) ?_
  exact kk s2 _ _ I2 hR2 hS2 hwf2
