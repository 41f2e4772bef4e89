theorem gif_eq {ρ : Type} {p : Prop} {x y z : Option ρ} (h : p → x = z) (g : ¬ p → y = z) : gif p x y = z := by
  by_cases c : p
  · rw [gif_t c]; exact h c
  · rw [gif_f c]; exact g c
theorem lf1 {s : Sg} {p : Prop} (h : p) : some (s, (1 : Int32)) = some (s, bI p) := by rw [bI_t h]
theorem lf0 {s : Sg} {p : Prop} (h : ¬ p) : some (s, (0 : Int32)) = some (s, bI p) := by rw [bI_f h]
theorem pr {s : Sg} {a b : Int32} (h : a = b) : some (s, a) = some (s, b) := by rw [h]
theorem b0 : inb 0 5665 := by rw [inb_iff]; decide
theorem b1 : inb 1 5665 := by rw [inb_iff]; decide
theorem b54 : inb 54 5665 := by rw [inb_iff]; decide
theorem i54 : ix 54 = 54 := rfl
theorem i0 : ix 0 = 0 := rfl
theorem i1 : ix 1 = 1 := rfl
theorem q_m_lies (s : Sg) (a b c : Int32) : m_lies s a b c = some (s, bI (b.toInt ≤ a.toInt ∧ a.toInt ≤ c.toInt)) := by
  unfold m_lies m_lies_G
  simp (disch := omega) only [Option.bind_some, gdB0, gdB1, gdbI, gifbI, Int32.toInt_add, Int32.toInt_sub, Int32.toInt_mul, Int32.toInt_neg, bm32, li_0, li_1, li_2, li_3, li_4, li_5, li_6, li_7, li_8, li_9, li_10, li_11, li_12, li_13, li_14, li_15, li_16, li_17, li_18, li_19, li_20, li_21, li_22, li_23, li_24, li_25, li_26, li_27, li_28, li_29, li_30, li_31, li_32, li_33, li_34, li_35, li_36, li_37, li_38, li_39, li_40, li_41, li_42, li_43, li_44, li_45, li_46, li_47, li_48, li_49, li_50, li_51, li_52, li_53, li_54, li_55, li_56, li_57, li_58, li_59, li_60, li_61, li_62, li_63, li_64, li_65, li_66, li_67, li_68, li_69, li_70, li_71, li_72, li_73, li_74, li_75, li_76, li_77, li_78, li_91, li_93, li_96, li_97, li_99, li_100, li_122, li_138, li_255, li_256, li_400, li_401, li_625, li_800, li_999, li_1000, li_1001, li_1103, li_2000, li_2037, li_2038, li_2039, li_2040, li_2041, li_2042, li_2043, li_2044, li_2045, li_2046, li_2047, li_2048, li_2049, li_2050, li_2051, li_2052, li_2053, li_2054, li_2055, li_2056, li_2057, li_2058, li_2059, li_2060, li_2061, li_2062, li_2091, li_2093, li_2400, li_2865, li_3000, li_3002, li_3003, li_3005, li_3006, li_3007, li_3008, li_3009, li_3010, li_3011, li_3012, li_3013, li_3020, li_3024, li_3025, li_3026, li_3999, li_4000, li_4095, li_4096, li_5665, li_11330, li_12345, li_15625, li_1000000, li_1000003, li_100000000, li_1000000000, ti_lt, ti_eq, inb_iff, ix_eq]; (repeat' (refine gif_eq (fun h => ?_) (fun h => ?_))); all_goals (first | exact lf1 (by omega) | exact lf0 (by omega))
theorem q_m_wordMany (s : Sg) : m_wordMany s = some (s, rI s 43 0 54) := by
  unfold m_wordMany m_wordMany_G; rw [gd_t b54, i54]
theorem q_m_isWord {s : Sg} (h : 0 ≤ (rI s 43 0 54).toInt) (a : Int32) : m_isWord s a = some (s, bI (0 ≤ a.toInt ∧ a.toInt < (rI s 43 0 54).toInt)) := by
  unfold m_isWord m_isWord_G
  simp only [q_m_wordMany, q_m_lies, Option.bind_some, gdbI]
  refine pr (bI_congr ?_)
  have := ti_hi (rI s 43 0 54)
  simp (disch := omega) only [Int32.toInt_add, Int32.toInt_sub, Int32.toInt_mul, Int32.toInt_neg, bm32, li_0, li_1, li_2, li_3, li_4, li_5, li_6, li_7, li_8, li_9, li_10, li_11, li_12, li_13, li_14, li_15, li_16, li_17, li_18, li_19, li_20, li_21, li_22, li_23, li_24, li_25, li_26, li_27, li_28, li_29, li_30, li_31, li_32, li_33, li_34, li_35, li_36, li_37, li_38, li_39, li_40, li_41, li_42, li_43, li_44, li_45, li_46, li_47, li_48, li_49, li_50, li_51, li_52, li_53, li_54, li_55, li_56, li_57, li_58, li_59, li_60, li_61, li_62, li_63, li_64, li_65, li_66, li_67, li_68, li_69, li_70, li_71, li_72, li_73, li_74, li_75, li_76, li_77, li_78, li_91, li_93, li_96, li_97, li_99, li_100, li_122, li_138, li_255, li_256, li_400, li_401, li_625, li_800, li_999, li_1000, li_1001, li_1103, li_2000, li_2037, li_2038, li_2039, li_2040, li_2041, li_2042, li_2043, li_2044, li_2045, li_2046, li_2047, li_2048, li_2049, li_2050, li_2051, li_2052, li_2053, li_2054, li_2055, li_2056, li_2057, li_2058, li_2059, li_2060, li_2061, li_2062, li_2091, li_2093, li_2400, li_2865, li_3000, li_3002, li_3003, li_3005, li_3006, li_3007, li_3008, li_3009, li_3010, li_3011, li_3012, li_3013, li_3020, li_3024, li_3025, li_3026, li_3999, li_4000, li_4095, li_4096, li_5665, li_11330, li_12345, li_15625, li_1000000, li_1000003, li_100000000, li_1000000000, ti_lt, ti_eq, inb_iff, ix_eq]
  omega
theorem q_m_isLast {s : Sg} (h : 0 ≤ (rI s 43 0 54).toInt) (a : Int32) : m_isLast s a = some (s, bI (a.toInt = (rI s 43 0 54).toInt - 1)) := by
  unfold m_isLast m_isLast_G
  have := ti_hi (rI s 43 0 54)
  simp only [q_m_wordMany]
  simp (disch := omega) only [Option.bind_some, gdB0, gdB1, gdbI, gifbI, Int32.toInt_add, Int32.toInt_sub, Int32.toInt_mul, Int32.toInt_neg, bm32, li_0, li_1, li_2, li_3, li_4, li_5, li_6, li_7, li_8, li_9, li_10, li_11, li_12, li_13, li_14, li_15, li_16, li_17, li_18, li_19, li_20, li_21, li_22, li_23, li_24, li_25, li_26, li_27, li_28, li_29, li_30, li_31, li_32, li_33, li_34, li_35, li_36, li_37, li_38, li_39, li_40, li_41, li_42, li_43, li_44, li_45, li_46, li_47, li_48, li_49, li_50, li_51, li_52, li_53, li_54, li_55, li_56, li_57, li_58, li_59, li_60, li_61, li_62, li_63, li_64, li_65, li_66, li_67, li_68, li_69, li_70, li_71, li_72, li_73, li_74, li_75, li_76, li_77, li_78, li_91, li_93, li_96, li_97, li_99, li_100, li_122, li_138, li_255, li_256, li_400, li_401, li_625, li_800, li_999, li_1000, li_1001, li_1103, li_2000, li_2037, li_2038, li_2039, li_2040, li_2041, li_2042, li_2043, li_2044, li_2045, li_2046, li_2047, li_2048, li_2049, li_2050, li_2051, li_2052, li_2053, li_2054, li_2055, li_2056, li_2057, li_2058, li_2059, li_2060, li_2061, li_2062, li_2091, li_2093, li_2400, li_2865, li_3000, li_3002, li_3003, li_3005, li_3006, li_3007, li_3008, li_3009, li_3010, li_3011, li_3012, li_3013, li_3020, li_3024, li_3025, li_3026, li_3999, li_4000, li_4095, li_4096, li_5665, li_11330, li_12345, li_15625, li_1000000, li_1000003, li_100000000, li_1000000000, ti_lt, ti_eq, inb_iff, ix_eq]; (repeat' (refine gif_eq (fun h => ?_) (fun h => ?_))); all_goals (first | exact lf1 (by omega) | exact lf0 (by omega))
theorem q_m_isIn {s : Sg} {x a : Int32} (h : 0 ≤ a.toInt) (g : a.toInt < 32) : m_isIn s x a = some (s, bI (bt x a.toInt.toNat = true)) := by
  unfold m_isIn m_isIn_G
  simp only [gdB0, gdB1, gif_bI, bit_iff h g]
theorem q_m_endsAfter {s : Sg} (h : 0 ≤ (rI s 43 0 54).toInt) {a : Int32} (h1 : 0 ≤ a.toInt) (h2 : a.toInt < 32) : m_endsAfter s a = some (s, bI (a.toInt = (rI s 43 0 54).toInt - 1 ∨ bt (rI s 43 0 0) a.toInt.toNat = true)) := by
  unfold m_endsAfter m_endsAfter_G
  simp only [q_m_isLast h, q_m_isIn h1 h2, Option.bind_some, gdB0, gdB1, gdbI, gifbI, gd_t b0, i0]
  refine gif_eq (fun c => lf1 (.inl c)) (fun c => ?_)
  refine gif_eq (fun d => lf1 (.inr d)) (fun d => lf0 ?_)
  rintro (e | e)
  · exact c e
  · exact d e
theorem q_m_isSplit {s : Sg} {a : Int32} (h1 : 0 ≤ a.toInt) (h2 : a.toInt < 32) : m_isSplit s a = some (s, bI (bt (rI s 43 0 1) a.toInt.toNat = true)) := by
  unfold m_isSplit m_isSplit_G
  simp only [q_m_isIn h1 h2, Option.bind_some, gdB0, gdB1, gdbI, gifbI, gd_t b1, i1]
/-- a word as it can be -/
def isWd (a b c : Int32) : Prop := (1 ≤ a.toInt ∧ a.toInt ≤ 20) ∧ (0 ≤ b.toInt ∧ b.toInt < a.toInt) ∧ 0 ≤ c.toInt ∧ c.toInt ≤ 3
theorem q_m_canWord (s : Sg) (a b c : Int32) : m_canWord s a b c = some (s, bI (isWd a b c)) := by
  unfold m_canWord m_canWord_G isWd
  simp only [q_m_lies, Option.bind_some, gdB0, gdB1, gdbI, gifbI]
  refine gif_eq (fun h => ?_) (fun h => lf0 ?_)
  · have h1 : 1 ≤ a.toInt := h.1
    have h2 : a.toInt ≤ 20 := h.2
    simp (disch := omega) only [Int32.toInt_add, Int32.toInt_sub, Int32.toInt_mul, Int32.toInt_neg, bm32, li_0, li_1, li_2, li_3, li_4, li_5, li_6, li_7, li_8, li_9, li_10, li_11, li_12, li_13, li_14, li_15, li_16, li_17, li_18, li_19, li_20, li_21, li_22, li_23, li_24, li_25, li_26, li_27, li_28, li_29, li_30, li_31, li_32, li_33, li_34, li_35, li_36, li_37, li_38, li_39, li_40, li_41, li_42, li_43, li_44, li_45, li_46, li_47, li_48, li_49, li_50, li_51, li_52, li_53, li_54, li_55, li_56, li_57, li_58, li_59, li_60, li_61, li_62, li_63, li_64, li_65, li_66, li_67, li_68, li_69, li_70, li_71, li_72, li_73, li_74, li_75, li_76, li_77, li_78, li_91, li_93, li_96, li_97, li_99, li_100, li_122, li_138, li_255, li_256, li_400, li_401, li_625, li_800, li_999, li_1000, li_1001, li_1103, li_2000, li_2037, li_2038, li_2039, li_2040, li_2041, li_2042, li_2043, li_2044, li_2045, li_2046, li_2047, li_2048, li_2049, li_2050, li_2051, li_2052, li_2053, li_2054, li_2055, li_2056, li_2057, li_2058, li_2059, li_2060, li_2061, li_2062, li_2091, li_2093, li_2400, li_2865, li_3000, li_3002, li_3003, li_3005, li_3006, li_3007, li_3008, li_3009, li_3010, li_3011, li_3012, li_3013, li_3020, li_3024, li_3025, li_3026, li_3999, li_4000, li_4095, li_4096, li_5665, li_11330, li_12345, li_15625, li_1000000, li_1000003, li_100000000, li_1000000000, ti_lt, ti_eq, inb_iff, ix_eq]
    (repeat' (refine gif_eq (fun h => ?_) (fun h => ?_))); all_goals (first | exact lf1 (by omega) | exact lf0 (by omega))
  · intro g; exact h g.1
theorem q_x9_canBeWord (s : Sg) (a b c : Int32) : x9_canBeWord s a b c = some (s, bI (isWd a b c)) := by
  unfold x9_canBeWord x9_canBeWord_G isWd
  simp (disch := omega) only [Option.bind_some, gdB0, gdB1, gdbI, gifbI, Int32.toInt_add, Int32.toInt_sub, Int32.toInt_mul, Int32.toInt_neg, bm32, li_0, li_1, li_2, li_3, li_4, li_5, li_6, li_7, li_8, li_9, li_10, li_11, li_12, li_13, li_14, li_15, li_16, li_17, li_18, li_19, li_20, li_21, li_22, li_23, li_24, li_25, li_26, li_27, li_28, li_29, li_30, li_31, li_32, li_33, li_34, li_35, li_36, li_37, li_38, li_39, li_40, li_41, li_42, li_43, li_44, li_45, li_46, li_47, li_48, li_49, li_50, li_51, li_52, li_53, li_54, li_55, li_56, li_57, li_58, li_59, li_60, li_61, li_62, li_63, li_64, li_65, li_66, li_67, li_68, li_69, li_70, li_71, li_72, li_73, li_74, li_75, li_76, li_77, li_78, li_91, li_93, li_96, li_97, li_99, li_100, li_122, li_138, li_255, li_256, li_400, li_401, li_625, li_800, li_999, li_1000, li_1001, li_1103, li_2000, li_2037, li_2038, li_2039, li_2040, li_2041, li_2042, li_2043, li_2044, li_2045, li_2046, li_2047, li_2048, li_2049, li_2050, li_2051, li_2052, li_2053, li_2054, li_2055, li_2056, li_2057, li_2058, li_2059, li_2060, li_2061, li_2062, li_2091, li_2093, li_2400, li_2865, li_3000, li_3002, li_3003, li_3005, li_3006, li_3007, li_3008, li_3009, li_3010, li_3011, li_3012, li_3013, li_3020, li_3024, li_3025, li_3026, li_3999, li_4000, li_4095, li_4096, li_5665, li_11330, li_12345, li_15625, li_1000000, li_1000003, li_100000000, li_1000000000, ti_lt, ti_eq, inb_iff, ix_eq]; (repeat' (refine gif_eq (fun h => ?_) (fun h => ?_))); all_goals (first | exact lf1 (by omega) | exact lf0 (by omega))
theorem q_x1_has {s : Sg} {g : Nat} (h : (rI s 1 g 7).toInt ≤ 12) (a : Int32) : x1_has s g a = some (s, bI (0 ≤ a.toInt ∧ a.toInt < (rI s 1 g 7).toInt)) := by
  unfold x1_has x1_has_G
  simp (disch := omega) only [Option.bind_some, gdB0, gdB1, gdbI, gifbI, Int32.toInt_add, Int32.toInt_sub, Int32.toInt_mul, Int32.toInt_neg, bm32, li_0, li_1, li_2, li_3, li_4, li_5, li_6, li_7, li_8, li_9, li_10, li_11, li_12, li_13, li_14, li_15, li_16, li_17, li_18, li_19, li_20, li_21, li_22, li_23, li_24, li_25, li_26, li_27, li_28, li_29, li_30, li_31, li_32, li_33, li_34, li_35, li_36, li_37, li_38, li_39, li_40, li_41, li_42, li_43, li_44, li_45, li_46, li_47, li_48, li_49, li_50, li_51, li_52, li_53, li_54, li_55, li_56, li_57, li_58, li_59, li_60, li_61, li_62, li_63, li_64, li_65, li_66, li_67, li_68, li_69, li_70, li_71, li_72, li_73, li_74, li_75, li_76, li_77, li_78, li_91, li_93, li_96, li_97, li_99, li_100, li_122, li_138, li_255, li_256, li_400, li_401, li_625, li_800, li_999, li_1000, li_1001, li_1103, li_2000, li_2037, li_2038, li_2039, li_2040, li_2041, li_2042, li_2043, li_2044, li_2045, li_2046, li_2047, li_2048, li_2049, li_2050, li_2051, li_2052, li_2053, li_2054, li_2055, li_2056, li_2057, li_2058, li_2059, li_2060, li_2061, li_2062, li_2091, li_2093, li_2400, li_2865, li_3000, li_3002, li_3003, li_3005, li_3006, li_3007, li_3008, li_3009, li_3010, li_3011, li_3012, li_3013, li_3020, li_3024, li_3025, li_3026, li_3999, li_4000, li_4095, li_4096, li_5665, li_11330, li_12345, li_15625, li_1000000, li_1000003, li_100000000, li_1000000000, ti_lt, ti_eq, inb_iff, ix_eq]; (repeat' (refine gif_eq (fun h => ?_) (fun h => ?_))); all_goals (first | exact lf1 (by omega) | exact lf0 (by omega))
theorem q_x1_wideOf {s : Sg} {g : Nat} (h : (rI s 1 g 7).toInt ≤ 12) (a : Int32) : x1_wideOf s g a = gif (0 ≤ a.toInt ∧ a.toInt < (rI s 1 g 7).toInt) (some (s, rI s 12 g a.toInt.toNat)) (some (s, -1)) := by
  unfold x1_wideOf x1_wideOf_G
  simp only [q_x1_has h, Option.bind_some, gdB0, gdB1, gdbI, gifbI]
  refine gif_eq (fun c => ?_) (fun c => ?_)
  · rw [gif_t c, gd_t (inb_iff.mpr (by omega))]; rfl
  · rw [gif_f c]
theorem q_x1_isSplit {s : Sg} {g : Nat} (h : (rI s 1 g 7).toInt ≤ 12) (a : Int32) : x1_isSplit s g a = some (s, bI ((0 ≤ a.toInt ∧ a.toInt < (rI s 1 g 7).toInt) ∧ bt (rI s 1 g 9) a.toInt.toNat = true)) := by
  unfold x1_isSplit x1_isSplit_G
  simp only [q_x1_has h, Option.bind_some, gdB0, gdB1, gdbI, gifbI]
  refine gif_eq (fun c => ?_) (fun c => lf0 (fun e => c e.1))
  rw [bit_iff (by omega) (by omega)]
  exact gif_eq (fun d => lf1 ⟨c, d⟩) (fun d => lf0 (fun e => d e.2))
theorem q_x1_endsAfter {s : Sg} {g : Nat} (h0 : 0 ≤ (rI s 1 g 7).toInt) (h : (rI s 1 g 7).toInt ≤ 12) (a : Int32) : x1_endsAfter s g a = some (s, bI ((0 ≤ a.toInt ∧ a.toInt < (rI s 1 g 7).toInt) ∧ (a.toInt = (rI s 1 g 7).toInt - 1 ∨ bt (rI s 1 g 8) a.toInt.toNat = true))) := by
  unfold x1_endsAfter x1_endsAfter_G
  simp only [q_x1_has h, Option.bind_some, gdB0, gdB1, gdbI, gifbI]
  refine gif_eq (fun c => ?_) (fun c => lf0 (fun e => c e.1))
  rw [bit_iff (by omega) (by omega)]
  simp (disch := omega) only [Int32.toInt_add, Int32.toInt_sub, Int32.toInt_mul, Int32.toInt_neg, bm32, li_0, li_1, li_2, li_3, li_4, li_5, li_6, li_7, li_8, li_9, li_10, li_11, li_12, li_13, li_14, li_15, li_16, li_17, li_18, li_19, li_20, li_21, li_22, li_23, li_24, li_25, li_26, li_27, li_28, li_29, li_30, li_31, li_32, li_33, li_34, li_35, li_36, li_37, li_38, li_39, li_40, li_41, li_42, li_43, li_44, li_45, li_46, li_47, li_48, li_49, li_50, li_51, li_52, li_53, li_54, li_55, li_56, li_57, li_58, li_59, li_60, li_61, li_62, li_63, li_64, li_65, li_66, li_67, li_68, li_69, li_70, li_71, li_72, li_73, li_74, li_75, li_76, li_77, li_78, li_91, li_93, li_96, li_97, li_99, li_100, li_122, li_138, li_255, li_256, li_400, li_401, li_625, li_800, li_999, li_1000, li_1001, li_1103, li_2000, li_2037, li_2038, li_2039, li_2040, li_2041, li_2042, li_2043, li_2044, li_2045, li_2046, li_2047, li_2048, li_2049, li_2050, li_2051, li_2052, li_2053, li_2054, li_2055, li_2056, li_2057, li_2058, li_2059, li_2060, li_2061, li_2062, li_2091, li_2093, li_2400, li_2865, li_3000, li_3002, li_3003, li_3005, li_3006, li_3007, li_3008, li_3009, li_3010, li_3011, li_3012, li_3013, li_3020, li_3024, li_3025, li_3026, li_3999, li_4000, li_4095, li_4096, li_5665, li_11330, li_12345, li_15625, li_1000000, li_1000003, li_100000000, li_1000000000, ti_lt, ti_eq, inb_iff, ix_eq]
  refine gif_eq (fun d => lf1 ⟨c, .inl d⟩) (fun d => ?_)
  exact gif_eq (fun e => lf1 ⟨c, .inr e⟩) (fun e => lf0 (fun x => x.2.elim d e))
theorem q_x1_canBeSplit {s : Sg} {g : Nat} (h : (rI s 1 g 7).toInt ≤ 12) (a : Int32) : x1_canBeSplit s g a = some (s, bI ((0 ≤ a.toInt ∧ a.toInt < (rI s 1 g 7).toInt) ∧ 0 < (rI s 13 g a.toInt.toNat).toInt)) := by
  unfold x1_canBeSplit x1_canBeSplit_G
  simp only [q_x1_has h, Option.bind_some, gdB0, gdB1, gdbI, gifbI]
  refine gif_eq (fun c => ?_) (fun c => lf0 (fun e => c e.1))
  rw [gd_t (inb_iff.mpr (by omega))]
  simp (disch := omega) only [ti_lt, ix_eq]
  exact gif_eq (fun e => lf1 ⟨c, e⟩) (fun e => lf0 (fun x => e x.2))
theorem q_x1_canForce (s : Sg) (g : Nat) (a : Int32) : x1_canForce s g a = some (s, bI (-1 ≤ a.toInt ∧ a.toInt < (rI s 1 g 11).toInt)) := by
  unfold x1_canForce x1_canForce_G
  simp (disch := omega) only [Option.bind_some, gdB0, gdB1, gdbI, gifbI, Int32.toInt_add, Int32.toInt_sub, Int32.toInt_mul, Int32.toInt_neg, bm32, li_0, li_1, li_2, li_3, li_4, li_5, li_6, li_7, li_8, li_9, li_10, li_11, li_12, li_13, li_14, li_15, li_16, li_17, li_18, li_19, li_20, li_21, li_22, li_23, li_24, li_25, li_26, li_27, li_28, li_29, li_30, li_31, li_32, li_33, li_34, li_35, li_36, li_37, li_38, li_39, li_40, li_41, li_42, li_43, li_44, li_45, li_46, li_47, li_48, li_49, li_50, li_51, li_52, li_53, li_54, li_55, li_56, li_57, li_58, li_59, li_60, li_61, li_62, li_63, li_64, li_65, li_66, li_67, li_68, li_69, li_70, li_71, li_72, li_73, li_74, li_75, li_76, li_77, li_78, li_91, li_93, li_96, li_97, li_99, li_100, li_122, li_138, li_255, li_256, li_400, li_401, li_625, li_800, li_999, li_1000, li_1001, li_1103, li_2000, li_2037, li_2038, li_2039, li_2040, li_2041, li_2042, li_2043, li_2044, li_2045, li_2046, li_2047, li_2048, li_2049, li_2050, li_2051, li_2052, li_2053, li_2054, li_2055, li_2056, li_2057, li_2058, li_2059, li_2060, li_2061, li_2062, li_2091, li_2093, li_2400, li_2865, li_3000, li_3002, li_3003, li_3005, li_3006, li_3007, li_3008, li_3009, li_3010, li_3011, li_3012, li_3013, li_3020, li_3024, li_3025, li_3026, li_3999, li_4000, li_4095, li_4096, li_5665, li_11330, li_12345, li_15625, li_1000000, li_1000003, li_100000000, li_1000000000, ti_lt, ti_eq, inb_iff, ix_eq]; (repeat' (refine gif_eq (fun h => ?_) (fun h => ?_))); all_goals (first | exact lf1 (by omega) | exact lf0 (by omega))
theorem q_m_isLaw {s : Sg} (h : 0 ≤ (rI s 43 0 56).toInt) (a : Int32) : m_isLaw s a = some (s, bI (-1 ≤ a.toInt ∧ a.toInt < (rI s 43 0 56).toInt)) := by
  unfold m_isLaw m_isLaw_G
  have e1 : inb 56 5665 := by rw [inb_iff]; decide
  have e2 : ix 56 = 56 := rfl
  have := ti_hi (rI s 43 0 56)
  simp only [q_m_lies, Option.bind_some, gdbI, gd_t e1, e2]
  refine pr (bI_congr ?_)
  simp (disch := omega) only [Int32.toInt_add, Int32.toInt_sub, Int32.toInt_mul, Int32.toInt_neg, bm32, li_0, li_1, li_2, li_3, li_4, li_5, li_6, li_7, li_8, li_9, li_10, li_11, li_12, li_13, li_14, li_15, li_16, li_17, li_18, li_19, li_20, li_21, li_22, li_23, li_24, li_25, li_26, li_27, li_28, li_29, li_30, li_31, li_32, li_33, li_34, li_35, li_36, li_37, li_38, li_39, li_40, li_41, li_42, li_43, li_44, li_45, li_46, li_47, li_48, li_49, li_50, li_51, li_52, li_53, li_54, li_55, li_56, li_57, li_58, li_59, li_60, li_61, li_62, li_63, li_64, li_65, li_66, li_67, li_68, li_69, li_70, li_71, li_72, li_73, li_74, li_75, li_76, li_77, li_78, li_91, li_93, li_96, li_97, li_99, li_100, li_122, li_138, li_255, li_256, li_400, li_401, li_625, li_800, li_999, li_1000, li_1001, li_1103, li_2000, li_2037, li_2038, li_2039, li_2040, li_2041, li_2042, li_2043, li_2044, li_2045, li_2046, li_2047, li_2048, li_2049, li_2050, li_2051, li_2052, li_2053, li_2054, li_2055, li_2056, li_2057, li_2058, li_2059, li_2060, li_2061, li_2062, li_2091, li_2093, li_2400, li_2865, li_3000, li_3002, li_3003, li_3005, li_3006, li_3007, li_3008, li_3009, li_3010, li_3011, li_3012, li_3013, li_3020, li_3024, li_3025, li_3026, li_3999, li_4000, li_4095, li_4096, li_5665, li_11330, li_12345, li_15625, li_1000000, li_1000003, li_100000000, li_1000000000, ti_lt, ti_eq, inb_iff, ix_eq]
  omega
/-! answers and refusals -/
theorem q_x9_answer (s : Sg) (v : Int32) : x9_answer s v = some (wI s 9 0 16 0, v) := rfl
theorem q_m_good (s : Sg) (v : Int32) : m_good s v = some (wI s 10 0 0 0, v) := rfl
theorem q_m_settled (s : Sg) (v : Int32) : m_settled s v = some (wI (wI s 10 0 46 0) 10 0 0 0, v) := rfl
/-- where a refusal is counted -/
def rfx (k : Int32) : Nat := if k = -1 then 0 else if k = -2 then 1 else if k = -3 then 2 else if k = -5 then 3 else 4
def isRf (k : Int32) : Prop := k = -1 ∨ k = -2 ∨ k = -3 ∨ k = -5 ∨ k = -6
theorem q_m_refuses {s : Sg} {k : Int32} (h : isRf k) : m_refuses s k = some (wI (wI s 10 0 0 k) 42 0 (-k).toInt.toNat (rI s 42 0 (-k).toInt.toNat + 1), k) := by
  have e : inb (-k) 7 := by rw [inb_iff]; rcases h with rfl | rfl | rfl | rfl | rfl <;> decide
  unfold m_refuses m_refuses_G
  rw [gd_t e, gd_t e]; rfl
theorem q_x9_refuse {s : Sg} {k : Int32} (h : isRf k) : x9_refuse s k = some (wI (wI s 9 0 16 k) 41 0 (rfx k) (rI s 41 0 (rfx k) + 1), k) := by
  unfold x9_refuse x9_refuse_G x9_refuse_b22 x9_refuse_b22_G
  rcases h with rfl | rfl | rfl | rfl | rfl
  · rw [gif_t (by decide), gif_f (by decide), gif_t (by decide), gd_t (by rw [inb_iff]; decide), gd_t (by rw [inb_iff]; decide)]; rfl
  · rw [gif_t (by decide), gif_f (by decide), gif_t (by decide), gd_t (by rw [inb_iff]; decide), gd_t (by rw [inb_iff]; decide)]; rfl
  · rw [gif_t (by decide), gif_f (by decide), gif_t (by decide), gd_t (by rw [inb_iff]; decide), gd_t (by rw [inb_iff]; decide)]; rfl
  · rw [gif_f (by decide), gif_f (by decide), gif_t (by decide), gd_t (by rw [inb_iff]; decide), gd_t (by rw [inb_iff]; decide)]; rfl
  · rw [gif_f (by decide), gif_f (by decide), gif_t (by decide), gd_t (by rw [inb_iff]; decide), gd_t (by rw [inb_iff]; decide)]; rfl
theorem InvB.n12 {sx sm : Sg} (h : InvB sx sm) : 0 ≤ (rI sm 43 0 54).toInt ∧ (rI sm 43 0 54).toInt ≤ 12 := h.1.1.1
theorem Inv.log12 {sx sm : Sg} (h : Inv sx sm) : (rI sm 43 0 54).toInt ≤ 12 := h.2.1.1.1.1.2
/-- both refuse -/
theorem refuse_both {sx sm : Sg} (h : Inv sx sm) {k : Int32} (hk : isRf k) : Call sx sm (x9_refuse sx k) (m_refuses sm k) := by
  have F := fr_x9_refuse sx k _ (q_x9_refuse hk)
  have G := fr_m_refuses sm k _ (q_m_refuses hk)
  refine ⟨_, _, k, q_x9_refuse hk, q_m_refuses hk, ⟨?_, InvB_fr F G rfl rfl rfl rfl rfl h.2.1, ?_, InvC_fr F G rfl rfl rfl rfl rfl rfl h.2.2.2.1, InvE_fr F G rfl rfl rfl h.2.2.2.2.1, InvF_fr F G rfl (.inl rfl) (.inl ⟨rfl, rfl⟩) (.inl rfl) rfl h.2.2.2.2.2⟩, by rw [rN_wI, rN_wI]; omega⟩
  · obtain ⟨a1, a2, a3, a4, a5, a6, a7, a8⟩ := h.1
    rcases hk with rfl | rfl | rfl | rfl | rfl <;> (simp [InvA, rI_wI, rI_wL, rI_wN, rL_wL, rL_wI, rL_wN, rN_wN, rN_wI, rN_wL, rfx]; exact ⟨a1, a2, ⟨a3.1, a3.2.1, a3.2.2.2⟩, by simp only [a4, a5, a6, a7, a8]; simp⟩)
  · exact LogR_fr F G h.log12 rfl rfl rfl rfl h.2.2.1
/-- both answer -/
theorem answer_both {sx sm : Sg} (h : Inv sx sm) (v : Int32) : Call sx sm (x9_answer sx v) (m_good sm v) := by
  have F := fr_x9_answer sx v _ (q_x9_answer sx v)
  have G := fr_m_good sm v _ (q_m_good sm v)
  refine ⟨_, _, v, q_x9_answer sx v, q_m_good sm v, ⟨?_, InvB_fr F G rfl rfl rfl rfl rfl h.2.1, ?_, InvC_fr F G rfl rfl rfl rfl rfl rfl h.2.2.2.1, InvE_fr F G rfl rfl rfl h.2.2.2.2.1, InvF_fr F G rfl (.inl rfl) (.inl ⟨rfl, rfl⟩) (.inl rfl) rfl h.2.2.2.2.2⟩, by rw [rN_wI]; omega⟩
  · obtain ⟨a1, a2, a3, a4⟩ := h.1
    simp [InvA, rI_wI, rI_wL, rI_wN, rL_wL, rL_wI, rL_wN, rN_wN, rN_wI, rN_wL]; exact ⟨a1, a2, ⟨a3.1, a3.2.1, a3.2.2.2⟩, a4⟩
  · exact LogR_fr F G h.log12 rfl rfl rfl rfl h.2.2.1
