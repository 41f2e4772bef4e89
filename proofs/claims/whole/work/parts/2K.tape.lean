/-! row -/
theorem and255 {x : Int32} (h : -128 ≤ x.toInt) (g : x.toInt ≤ 127) : (x &&& 255).toInt = if 0 ≤ x.toInt then x.toInt else x.toInt + 256 := by
  have key : ∀ n : Nat, n < 256 → ((Int32.ofInt ((n : Int) - 128)) &&& 255).toInt = if 0 ≤ ((n : Int) - 128) then ((n : Int) - 128) else ((n : Int) - 128) + 256 := by decide +kernel
  have e : x = Int32.ofInt (((x.toInt + 128).toNat : Int) - 128) := by
    rw [Int.toNat_of_nonneg (by omega), show x.toInt + 128 - 128 = x.toInt by omega, Int32.ofInt_toInt]
  have := key (x.toInt + 128).toNat (by omega)
  rw [← e] at this
  rw [this, Int.toNat_of_nonneg (by omega), show x.toInt + 128 - 128 = x.toInt by omega]
theorem isWd_255 {a b c : Int32} (ha : -128 ≤ a.toInt ∧ a.toInt ≤ 127) (hb : -128 ≤ b.toInt ∧ b.toInt ≤ 127) (hc : -128 ≤ c.toInt ∧ c.toInt ≤ 127) : isWd (a &&& 255) (b &&& 255) (c &&& 255) ↔ isWd a b c := by
  unfold isWd
  rw [and255 ha.1 ha.2, and255 hb.1 hb.2, and255 hc.1 hc.2]
  split <;> split <;> split <;> omega
theorem wd_255 {a b c : Int32} (ha : -128 ≤ a.toInt ∧ a.toInt ≤ 127) (hb : -128 ≤ b.toInt ∧ b.toInt ≤ 127) (hc : -128 ≤ c.toInt ∧ c.toInt ≤ 127) (h : isWd a b c) : a &&& 255 = a ∧ b &&& 255 = b ∧ c &&& 255 = c := by
  unfold isWd at h
  refine ⟨ti_eq.mpr ?_, ti_eq.mpr ?_, ti_eq.mpr ?_⟩
  · rw [and255 ha.1 ha.2, if_pos (by omega)]
  · rw [and255 hb.1 hb.2, if_pos (by omega)]
  · rw [and255 hc.1 hc.2, if_pos (by omega)]
/-- in the midst of a row: so many bytes on the tape, the odd one told ahead (d) by the model -/
def RowI (sx sm : Sg) (z : Nat) (d : Int32) : Prop :=
  ((rI sx 9 0 13).toInt = z ∧ z ≤ 400 ∧ rI sm 10 0 13 = 0) ∧
  (∀ i : Nat, i < z → rI sx 39 0 i = rI sm 48 0 i ∧ -128 ≤ (rI sm 48 0 i).toInt ∧ (rI sm 48 0 i).toInt ≤ 127) ∧
  (rI sm 10 0 6 = rI sx 9 0 14 + d ∧ rI sx 9 0 15 = rI sm 10 0 58 ∧ rI sx 6 0 6 = rI sm 10 0 14) ∧
  (rI sx 41 0 0 = rI sm 42 0 1 ∧ rI sx 41 0 1 = rI sm 42 0 2 ∧ rI sx 41 0 2 = rI sm 42 0 3 ∧ rI sx 41 0 3 = rI sm 42 0 5 ∧ rI sx 41 0 4 = rI sm 42 0 6) ∧
  InvB sx sm ∧ InvC sx sm ∧ InvE sx sm ∧ InvF sx sm
theorem row_end {sx sm : Sg} {z : Nat} (h : RowI sx sm z 0) (v : Int32) : Call sx sm (x9_answer (wI (wI sx 9 0 13 0) 3 0 3 0) v) (m_settled sm v) := by
  obtain ⟨h1, h2, h3, h4, hB, hC, hE, hF⟩ := h
  have F : Fr [(9, 1, 14), (3, 1, 4)] sx (wI (wI sx 9 0 13 0) 3 0 3 0) := fr_wI (fr_wI fr_rfl (hit_is (by simp))) (hit_is (by simp))
  have G : Fr [(10, 1, 47), (10, 1, 1)] sm (wI (wI sm 10 0 46 0) 10 0 0 0) := fr_wI (fr_wI fr_rfl (hit_is (by simp))) (hit_is (by simp))
  have F1 : Fr [(9, 1, 17), (9, 1, 14), (3, 1, 4)] sx (wI (wI (wI sx 9 0 13 0) 3 0 3 0) 9 0 16 0) := fr_wI (fr_wI (fr_wI fr_rfl (hit_is (by simp))) (hit_is (by simp))) (hit_is (by simp))
  refine ⟨_, _, v, q_x9_answer _ v, q_m_settled _ v, ⟨?_, InvB_fr F1 G rfl rfl rfl rfl rfl hB, LogR_0 ?_ ?_, InvC_fr F1 G rfl rfl rfl rfl rfl rfl hC, InvE_fr F1 G rfl rfl rfl hE, InvF_fr F1 G rfl (.inl rfl) (.inl ⟨rfl, rfl⟩) (.inl rfl) rfl hF⟩, by rw [rN_wI, rN_wI, rN_wI]; omega⟩
  · unfold InvA
    simp (disch := omega) only [rI_ne, rI_eq]
    rw [h1.2.2]
    refine ⟨⟨rfl, by simp only [li_0]; omega, by simp only [li_0]; omega⟩, fun i hi => by simp only [li_0] at hi; omega, ⟨?_, h3.2.1, trivial, h3.2.2⟩, h4⟩
    rw [h3.1, Int32.add_zero]
  · simp (disch := omega) only [rI_ne, rI_eq]
  · simp (disch := omega) only [rI_ne, rI_eq]
theorem x_take_no {s : Sg} {a : Int32} {z : Nat} (hz : (rI s 9 0 13).toInt = z) (z4 : z ≤ 400) (ha : 0 ≤ a.toInt) (hb : (z : Int) < a.toInt + 3) (hc : a.toInt ≤ 400) : x9_takeWordAt s a = some (s, 0) := by
  unfold x9_takeWordAt x9_takeWordAt_G
  rw [gif_f (by rw [ti_lt, li_0]; omega), gif_t (by rw [ti_lt]; simp (disch := omega) only [Int32.toInt_add, Int32.toInt_sub, Int32.toInt_mul, Int32.toInt_neg, bm32, li_0, li_1, li_2, li_3, li_4, li_5, li_6, li_7, li_8, li_9, li_10, li_11, li_12, li_13, li_14, li_15, li_16, li_17, li_18, li_19, li_20, li_21, li_22, li_23, li_24, li_25, li_26, li_27, li_28, li_29, li_30, li_31, li_32, li_33, li_34, li_35, li_36, li_37, li_38, li_39, li_40, li_41, li_42, li_43, li_44, li_45, li_46, li_47, li_48, li_49, li_50, li_51, li_52, li_53, li_54, li_55, li_56, li_57, li_58, li_59, li_60, li_61, li_62, li_63, li_64, li_65, li_66, li_67, li_68, li_69, li_70, li_71, li_72, li_73, li_74, li_75, li_76, li_77, li_78, li_91, li_93, li_96, li_97, li_99, li_100, li_122, li_138, li_255, li_256, li_400, li_401, li_625, li_800, li_999, li_1000, li_1001, li_1103, li_2000, li_2037, li_2038, li_2039, li_2040, li_2041, li_2042, li_2043, li_2044, li_2045, li_2046, li_2047, li_2048, li_2049, li_2050, li_2051, li_2052, li_2053, li_2054, li_2055, li_2056, li_2057, li_2058, li_2059, li_2060, li_2061, li_2062, li_2091, li_2093, li_2400, li_2865, li_3000, li_3002, li_3003, li_3005, li_3006, li_3007, li_3008, li_3009, li_3010, li_3011, li_3012, li_3013, li_3020, li_3024, li_3025, li_3026, li_3999, li_4000, li_4095, li_4096, li_5665, li_11330, li_12345, li_15625, li_1000000, li_1000003, li_100000000, li_1000000000, ti_lt, ti_eq, inb_iff, ix_eq]; omega), gdB0]
/-- a step of a row -/
theorem row_step {sx sm : Sg} {z : Nat} {d : Int32} (h : RowI sx sm z d) (at0 : Nat) (ha : at0 + 3 ≤ z) {a : Int32} (hA : a.toInt = at0) :
    (∃ sx' sm', x9_takeWordAt sx a = some (sx', 1) ∧ (rI sm 43 0 54 < 12 ∧ isWd (rI sm 48 0 at0) (rI sm 48 0 (at0 + 1)) (rI sm 48 0 (at0 + 2))) ∧ m_adds sm (rI sm 48 0 at0) (rI sm 48 0 (at0 + 1)) (rI sm 48 0 (at0 + 2)) = some sm' ∧ RowI sx' sm' z d ∧ rN sx' 79 0 0 = rN sx 79 0 0) ∨
    (x9_takeWordAt sx a = some (sx, 0) ∧ ¬ (rI sm 43 0 54 < 12 ∧ isWd (rI sm 48 0 at0) (rI sm 48 0 (at0 + 1)) (rI sm 48 0 (at0 + 2)))) := by
  obtain ⟨h1, h2, h3, h4, hB, hC, hE, hF⟩ := id h
  have e7 : rI sx 1 0 7 = rI sm 43 0 54 := hB.1.2.1.1.1
  obtain ⟨n, hn⟩ : ∃ n : Nat, (rI sm 43 0 54).toInt = n := ⟨_, (Int.toNat_of_nonneg hB.n12.1).symm⟩
  have t0 := h2 at0 (by omega)
  have t1 := h2 (at0 + 1) (by omega)
  have t2 := h2 (at0 + 2) (by omega)
  have a1 : (a + 1).toInt = at0 + 1 := by simp (disch := omega) only [Int32.toInt_add, Int32.toInt_sub, Int32.toInt_mul, Int32.toInt_neg, bm32, li_0, li_1, li_2, li_3, li_4, li_5, li_6, li_7, li_8, li_9, li_10, li_11, li_12, li_13, li_14, li_15, li_16, li_17, li_18, li_19, li_20, li_21, li_22, li_23, li_24, li_25, li_26, li_27, li_28, li_29, li_30, li_31, li_32, li_33, li_34, li_35, li_36, li_37, li_38, li_39, li_40, li_41, li_42, li_43, li_44, li_45, li_46, li_47, li_48, li_49, li_50, li_51, li_52, li_53, li_54, li_55, li_56, li_57, li_58, li_59, li_60, li_61, li_62, li_63, li_64, li_65, li_66, li_67, li_68, li_69, li_70, li_71, li_72, li_73, li_74, li_75, li_76, li_77, li_78, li_91, li_93, li_96, li_97, li_99, li_100, li_122, li_138, li_255, li_256, li_400, li_401, li_625, li_800, li_999, li_1000, li_1001, li_1103, li_2000, li_2037, li_2038, li_2039, li_2040, li_2041, li_2042, li_2043, li_2044, li_2045, li_2046, li_2047, li_2048, li_2049, li_2050, li_2051, li_2052, li_2053, li_2054, li_2055, li_2056, li_2057, li_2058, li_2059, li_2060, li_2061, li_2062, li_2091, li_2093, li_2400, li_2865, li_3000, li_3002, li_3003, li_3005, li_3006, li_3007, li_3008, li_3009, li_3010, li_3011, li_3012, li_3013, li_3020, li_3024, li_3025, li_3026, li_3999, li_4000, li_4095, li_4096, li_5665, li_11330, li_12345, li_15625, li_1000000, li_1000003, li_100000000, li_1000000000, ti_lt, ti_eq, inb_iff, ix_eq]; omega
  have a2 : (a + 2).toInt = at0 + 2 := by simp (disch := omega) only [Int32.toInt_add, Int32.toInt_sub, Int32.toInt_mul, Int32.toInt_neg, bm32, li_0, li_1, li_2, li_3, li_4, li_5, li_6, li_7, li_8, li_9, li_10, li_11, li_12, li_13, li_14, li_15, li_16, li_17, li_18, li_19, li_20, li_21, li_22, li_23, li_24, li_25, li_26, li_27, li_28, li_29, li_30, li_31, li_32, li_33, li_34, li_35, li_36, li_37, li_38, li_39, li_40, li_41, li_42, li_43, li_44, li_45, li_46, li_47, li_48, li_49, li_50, li_51, li_52, li_53, li_54, li_55, li_56, li_57, li_58, li_59, li_60, li_61, li_62, li_63, li_64, li_65, li_66, li_67, li_68, li_69, li_70, li_71, li_72, li_73, li_74, li_75, li_76, li_77, li_78, li_91, li_93, li_96, li_97, li_99, li_100, li_122, li_138, li_255, li_256, li_400, li_401, li_625, li_800, li_999, li_1000, li_1001, li_1103, li_2000, li_2037, li_2038, li_2039, li_2040, li_2041, li_2042, li_2043, li_2044, li_2045, li_2046, li_2047, li_2048, li_2049, li_2050, li_2051, li_2052, li_2053, li_2054, li_2055, li_2056, li_2057, li_2058, li_2059, li_2060, li_2061, li_2062, li_2091, li_2093, li_2400, li_2865, li_3000, li_3002, li_3003, li_3005, li_3006, li_3007, li_3008, li_3009, li_3010, li_3011, li_3012, li_3013, li_3020, li_3024, li_3025, li_3026, li_3999, li_4000, li_4095, li_4096, li_5665, li_11330, li_12345, li_15625, li_1000000, li_1000003, li_100000000, li_1000000000, ti_lt, ti_eq, inb_iff, ix_eq]; omega
  have a3 : (a + 3).toInt = at0 + 3 := by simp (disch := omega) only [Int32.toInt_add, Int32.toInt_sub, Int32.toInt_mul, Int32.toInt_neg, bm32, li_0, li_1, li_2, li_3, li_4, li_5, li_6, li_7, li_8, li_9, li_10, li_11, li_12, li_13, li_14, li_15, li_16, li_17, li_18, li_19, li_20, li_21, li_22, li_23, li_24, li_25, li_26, li_27, li_28, li_29, li_30, li_31, li_32, li_33, li_34, li_35, li_36, li_37, li_38, li_39, li_40, li_41, li_42, li_43, li_44, li_45, li_46, li_47, li_48, li_49, li_50, li_51, li_52, li_53, li_54, li_55, li_56, li_57, li_58, li_59, li_60, li_61, li_62, li_63, li_64, li_65, li_66, li_67, li_68, li_69, li_70, li_71, li_72, li_73, li_74, li_75, li_76, li_77, li_78, li_91, li_93, li_96, li_97, li_99, li_100, li_122, li_138, li_255, li_256, li_400, li_401, li_625, li_800, li_999, li_1000, li_1001, li_1103, li_2000, li_2037, li_2038, li_2039, li_2040, li_2041, li_2042, li_2043, li_2044, li_2045, li_2046, li_2047, li_2048, li_2049, li_2050, li_2051, li_2052, li_2053, li_2054, li_2055, li_2056, li_2057, li_2058, li_2059, li_2060, li_2061, li_2062, li_2091, li_2093, li_2400, li_2865, li_3000, li_3002, li_3003, li_3005, li_3006, li_3007, li_3008, li_3009, li_3010, li_3011, li_3012, li_3013, li_3020, li_3024, li_3025, li_3026, li_3999, li_4000, li_4095, li_4096, li_5665, li_11330, li_12345, li_15625, li_1000000, li_1000003, li_100000000, li_1000000000, ti_lt, ti_eq, inb_iff, ix_eq]; omega
  have j0 : ix a = at0 := by rw [ix_eq, hA]; omega
  have j1 : ix (a + 1) = at0 + 1 := by rw [ix_eq, a1]; omega
  have j2 : ix (a + 2) = at0 + 2 := by rw [ix_eq, a2]; omega
  have ex : x9_takeWordAt sx a = gif (rI sm 43 0 54 < 12 ∧ isWd (rI sm 48 0 at0) (rI sm 48 0 (at0 + 1)) (rI sm 48 0 (at0 + 2))) ((x1_addWord sx 0 (rI sm 48 0 at0) (rI sm 48 0 (at0 + 1)) (rI sm 48 0 (at0 + 2))).bind fun s2 => some (s2, 1)) (some (sx, 0)) := by
    unfold x9_takeWordAt x9_takeWordAt_G
    rw [gif_f (by rw [ti_lt, li_0]; omega), gif_f (by rw [ti_lt, a3]; omega), gif_f (by rw [ti_lt, a3, li_400]; omega)]
    simp only [q_x9_canBeWord, Option.bind_some, gdB0, gdB1, gdbI, gifbI, j0, j1, j2, t0.1, t1.1, t2.1, e7]
    rw [isWd_255 t0.2 t1.2 t2.2]
    by_cases c : rI sm 43 0 54 < 12
    · rw [gif_t c, gd_t (inb_iff.mpr (by omega)), gd_t (inb_iff.mpr (by omega)), gd_t (inb_iff.mpr (by omega))]
      by_cases w : isWd (rI sm 48 0 at0) (rI sm 48 0 (at0 + 1)) (rI sm 48 0 (at0 + 2))
      · obtain ⟨w1, w2, w3⟩ := wd_255 t0.2 t1.2 t2.2 w
        rw [gif_t w, gif_t ⟨c, w⟩, w1, w2, w3]
      · rw [gif_f w, gif_f (fun x => w x.2)]
    · rw [gif_f c, gif_f (fun x => c x.1)]
  by_cases c : rI sm 43 0 54 < 12 ∧ isWd (rI sm 48 0 at0) (rI sm 48 0 (at0 + 1)) (rI sm 48 0 (at0 + 2))
  · left
    have n12 : n < 12 := by have := c.1; rw [ti_lt, hn, li_12] at this; omega
    obtain ⟨sx', sm', hx, hm, hB', -⟩ := add_both hB hn n12 c.2
    have F := fr_x1_addWord _ _ _ _ _ _ hx
    have G := fr_m_adds _ _ _ _ _ hm
    refine ⟨sx', sm', by rw [ex, gif_t c, hx]; rfl, c, hm, ⟨?_, fun i hi => ?_, ?_, ?_, hB', InvC_fr F G rfl rfl rfl rfl rfl rfl hC, InvE_fr F G rfl rfl rfl hE, InvF_fr F G rfl (.inl rfl) (.inl ⟨rfl, rfl⟩) (.inl rfl) rfl hF⟩, F.n _ _ _ (nh rfl)⟩
    · rw [F.i 9 0 13 (nh rfl), G.i 10 0 13 (nh rfl)]; exact h1
    · rw [F.i 39 0 i (nh rfl), G.i 48 0 i (nh rfl)]; exact h2 i hi
    · rw [F.i 9 0 14 (nh rfl), F.i 9 0 15 (nh rfl), F.i 6 0 6 (nh rfl), G.i 10 0 6 (nh rfl), G.i 10 0 58 (nh rfl), G.i 10 0 14 (nh rfl)]; exact h3
    · rw [F.i 41 0 0 (nh rfl), F.i 41 0 1 (nh rfl), F.i 41 0 2 (nh rfl), F.i 41 0 3 (nh rfl), F.i 41 0 4 (nh rfl), G.i 42 0 1 (nh rfl), G.i 42 0 2 (nh rfl), G.i 42 0 3 (nh rfl), G.i 42 0 5 (nh rfl), G.i 42 0 6 (nh rfl)]; exact h4
  · right
    exact ⟨by rw [ex, gif_f c], c⟩
theorem RowI_turn {sx sm : Sg} {z : Nat} {d : Int32} (h : RowI sx sm z d) : RowI (wI sx 9 0 14 (rI sx 9 0 14 + 1)) (wI sm 10 0 6 (rI sm 10 0 6 + 1)) z d := by
  obtain ⟨h1, h2, h3, h4, hB, hC, hE, hF⟩ := h
  have F : Fr [(9, 1, 15)] sx (wI sx 9 0 14 (rI sx 9 0 14 + 1)) := fr_wI fr_rfl (hit_is (by simp))
  have G : Fr [(10, 1, 7)] sm (wI sm 10 0 6 (rI sm 10 0 6 + 1)) := fr_wI fr_rfl (hit_is (by simp))
  refine ⟨?_, fun i hi => ?_, ?_, ?_, InvB_fr F G rfl rfl rfl rfl rfl hB, InvC_fr F G rfl rfl rfl rfl rfl rfl hC, InvE_fr F G rfl rfl rfl hE, InvF_fr F G rfl (.inl rfl) (.inl ⟨rfl, rfl⟩) (.inl rfl) rfl hF⟩
  · simp (disch := omega) only [rI_ne]; exact h1
  · simp (disch := omega) only [rI_ne]; exact h2 i hi
  · simp (disch := omega) only [rI_ne, rI_eq]; refine ⟨?_, h3.2⟩
    rw [h3.1, Int32.add_assoc, Int32.add_assoc, Int32.add_comm d 1]
  · simp (disch := omega) only [rI_ne]; exact h4
theorem row_loop : ∀ (m : Nat) {sx sm : Sg} {z : Nat} {d : Int32} (r : Nat) (at0 : Nat) (a v Z : Int32) (k k' : Nat), RowI sx sm z d → r < 3 → at0 + 3 * m + r = z → a.toInt = at0 → Z.toInt = z → (d = if r = 0 then 0 else 1) → m + 2 ≤ k → m + 1 ≤ k' →
    Call sx sm (x9_row_b23 k sx v a) (m_row_b40 k' sm Z v a) := by
  intro m
  induction m with
  | zero =>
    intro sx sm z d r at0 a v Z k k' h hr hz hA hZ hd hk hk'
    obtain ⟨k, rfl⟩ : ∃ j, k = j + 2 := ⟨k - 2, by omega⟩
    obtain ⟨k', rfl⟩ : ∃ j, k' = j + 1 := ⟨k' - 1, by omega⟩
    have z4 : z ≤ 400 := h.1.2.1
    have a3 : (a + 3).toInt = at0 + 3 := by simp (disch := omega) only [Int32.toInt_add, Int32.toInt_sub, Int32.toInt_mul, Int32.toInt_neg, bm32, li_0, li_1, li_2, li_3, li_4, li_5, li_6, li_7, li_8, li_9, li_10, li_11, li_12, li_13, li_14, li_15, li_16, li_17, li_18, li_19, li_20, li_21, li_22, li_23, li_24, li_25, li_26, li_27, li_28, li_29, li_30, li_31, li_32, li_33, li_34, li_35, li_36, li_37, li_38, li_39, li_40, li_41, li_42, li_43, li_44, li_45, li_46, li_47, li_48, li_49, li_50, li_51, li_52, li_53, li_54, li_55, li_56, li_57, li_58, li_59, li_60, li_61, li_62, li_63, li_64, li_65, li_66, li_67, li_68, li_69, li_70, li_71, li_72, li_73, li_74, li_75, li_76, li_77, li_78, li_91, li_93, li_96, li_97, li_99, li_100, li_122, li_138, li_255, li_256, li_400, li_401, li_625, li_800, li_999, li_1000, li_1001, li_1103, li_2000, li_2037, li_2038, li_2039, li_2040, li_2041, li_2042, li_2043, li_2044, li_2045, li_2046, li_2047, li_2048, li_2049, li_2050, li_2051, li_2052, li_2053, li_2054, li_2055, li_2056, li_2057, li_2058, li_2059, li_2060, li_2061, li_2062, li_2091, li_2093, li_2400, li_2865, li_3000, li_3002, li_3003, li_3005, li_3006, li_3007, li_3008, li_3009, li_3010, li_3011, li_3012, li_3013, li_3020, li_3024, li_3025, li_3026, li_3999, li_4000, li_4095, li_4096, li_5665, li_11330, li_12345, li_15625, li_1000000, li_1000003, li_100000000, li_1000000000, ti_lt, ti_eq, inb_iff, ix_eq]; omega
    have em : m_row_b40 (k' + 1) sm Z v a = m_settled sm v := by
      show m_row_b40_G _ _ _ _ sm Z v a = _
      unfold m_row_b40_G
      rw [gif_t (by rw [ti_lt, hZ, a3]; omega), bindp]
    rw [em]
    have z1 := h.1.1
    by_cases r0 : r = 0
    · rw [if_pos r0] at hd; subst hd
      have ex : x9_row_b23 (k + 2) sx v a = x9_answer (wI (wI sx 9 0 13 0) 3 0 3 0) v := by
        show x9_row_b23_G _ _ _ sx v a = _
        unfold x9_row_b23_G
        rw [gif_f (by rw [ti_lt, z1]; omega), bindp]
      rw [ex]; exact row_end h v
    · rw [if_neg r0] at hd; subst hd
      have ex : x9_row_b23 (k + 2) sx v a = x9_answer (wI (wI (wI sx 9 0 14 (rI sx 9 0 14 + 1)) 9 0 13 0) 3 0 3 0) v := by
        show x9_row_b23_G _ _ _ sx v a = _
        unfold x9_row_b23_G
        rw [gif_t (by rw [ti_lt, z1]; omega), x_take_no z1 z4 (by omega) (by omega) (by omega)]
        simp only [Option.bind_some]
        rw [gif_t trivial]
        show x9_row_b23_G _ _ _ _ v (a + 3) = _
        unfold x9_row_b23_G
        rw [gif_f (by rw [rI_ne (by omega), ti_lt, z1, a3]; omega), bindp]
      rw [ex]
      have h' : RowI (wI sx 9 0 14 (rI sx 9 0 14 + 1)) sm z 0 := by
        obtain ⟨h1, h2, h3, h4, hB, hC, hE, hF⟩ := h
        have F : Fr [(9, 1, 15)] sx (wI sx 9 0 14 (rI sx 9 0 14 + 1)) := fr_wI fr_rfl (hit_is (by simp))
        have G : Fr [] sm sm := fr_rfl
        refine ⟨?_, fun i hi => ?_, ?_, ?_, InvB_fr F G rfl rfl rfl rfl rfl hB, InvC_fr F G rfl rfl rfl rfl rfl rfl hC, InvE_fr F G rfl rfl rfl hE, InvF_fr F G rfl (.inl rfl) (.inl ⟨rfl, rfl⟩) (.inl rfl) rfl hF⟩
        · simp (disch := omega) only [rI_ne]; exact h1
        · simp (disch := omega) only [rI_ne]; exact h2 i hi
        · simp (disch := omega) only [rI_ne, rI_eq]; refine ⟨?_, h3.2⟩
          rw [h3.1, Int32.add_zero]
        · simp (disch := omega) only [rI_ne]; exact h4
      exact (row_end h' v).re (by rw [rN_wI])
  | succ m ih =>
    intro sx sm z d r at0 a v Z k k' h hr hz hA hZ hd hk hk'
    obtain ⟨k, rfl⟩ : ∃ j, k = j + 1 := ⟨k - 1, by omega⟩
    obtain ⟨k', rfl⟩ : ∃ j, k' = j + 1 := ⟨k' - 1, by omega⟩
    have z4 : z ≤ 400 := h.1.2.1
    have z1 := h.1.1
    have a1 : (a + 1).toInt = at0 + 1 := by simp (disch := omega) only [Int32.toInt_add, Int32.toInt_sub, Int32.toInt_mul, Int32.toInt_neg, bm32, li_0, li_1, li_2, li_3, li_4, li_5, li_6, li_7, li_8, li_9, li_10, li_11, li_12, li_13, li_14, li_15, li_16, li_17, li_18, li_19, li_20, li_21, li_22, li_23, li_24, li_25, li_26, li_27, li_28, li_29, li_30, li_31, li_32, li_33, li_34, li_35, li_36, li_37, li_38, li_39, li_40, li_41, li_42, li_43, li_44, li_45, li_46, li_47, li_48, li_49, li_50, li_51, li_52, li_53, li_54, li_55, li_56, li_57, li_58, li_59, li_60, li_61, li_62, li_63, li_64, li_65, li_66, li_67, li_68, li_69, li_70, li_71, li_72, li_73, li_74, li_75, li_76, li_77, li_78, li_91, li_93, li_96, li_97, li_99, li_100, li_122, li_138, li_255, li_256, li_400, li_401, li_625, li_800, li_999, li_1000, li_1001, li_1103, li_2000, li_2037, li_2038, li_2039, li_2040, li_2041, li_2042, li_2043, li_2044, li_2045, li_2046, li_2047, li_2048, li_2049, li_2050, li_2051, li_2052, li_2053, li_2054, li_2055, li_2056, li_2057, li_2058, li_2059, li_2060, li_2061, li_2062, li_2091, li_2093, li_2400, li_2865, li_3000, li_3002, li_3003, li_3005, li_3006, li_3007, li_3008, li_3009, li_3010, li_3011, li_3012, li_3013, li_3020, li_3024, li_3025, li_3026, li_3999, li_4000, li_4095, li_4096, li_5665, li_11330, li_12345, li_15625, li_1000000, li_1000003, li_100000000, li_1000000000, ti_lt, ti_eq, inb_iff, ix_eq]; omega
    have a2 : (a + 2).toInt = at0 + 2 := by simp (disch := omega) only [Int32.toInt_add, Int32.toInt_sub, Int32.toInt_mul, Int32.toInt_neg, bm32, li_0, li_1, li_2, li_3, li_4, li_5, li_6, li_7, li_8, li_9, li_10, li_11, li_12, li_13, li_14, li_15, li_16, li_17, li_18, li_19, li_20, li_21, li_22, li_23, li_24, li_25, li_26, li_27, li_28, li_29, li_30, li_31, li_32, li_33, li_34, li_35, li_36, li_37, li_38, li_39, li_40, li_41, li_42, li_43, li_44, li_45, li_46, li_47, li_48, li_49, li_50, li_51, li_52, li_53, li_54, li_55, li_56, li_57, li_58, li_59, li_60, li_61, li_62, li_63, li_64, li_65, li_66, li_67, li_68, li_69, li_70, li_71, li_72, li_73, li_74, li_75, li_76, li_77, li_78, li_91, li_93, li_96, li_97, li_99, li_100, li_122, li_138, li_255, li_256, li_400, li_401, li_625, li_800, li_999, li_1000, li_1001, li_1103, li_2000, li_2037, li_2038, li_2039, li_2040, li_2041, li_2042, li_2043, li_2044, li_2045, li_2046, li_2047, li_2048, li_2049, li_2050, li_2051, li_2052, li_2053, li_2054, li_2055, li_2056, li_2057, li_2058, li_2059, li_2060, li_2061, li_2062, li_2091, li_2093, li_2400, li_2865, li_3000, li_3002, li_3003, li_3005, li_3006, li_3007, li_3008, li_3009, li_3010, li_3011, li_3012, li_3013, li_3020, li_3024, li_3025, li_3026, li_3999, li_4000, li_4095, li_4096, li_5665, li_11330, li_12345, li_15625, li_1000000, li_1000003, li_100000000, li_1000000000, ti_lt, ti_eq, inb_iff, ix_eq]; omega
    have a3 : (a + 3).toInt = at0 + 3 := by simp (disch := omega) only [Int32.toInt_add, Int32.toInt_sub, Int32.toInt_mul, Int32.toInt_neg, bm32, li_0, li_1, li_2, li_3, li_4, li_5, li_6, li_7, li_8, li_9, li_10, li_11, li_12, li_13, li_14, li_15, li_16, li_17, li_18, li_19, li_20, li_21, li_22, li_23, li_24, li_25, li_26, li_27, li_28, li_29, li_30, li_31, li_32, li_33, li_34, li_35, li_36, li_37, li_38, li_39, li_40, li_41, li_42, li_43, li_44, li_45, li_46, li_47, li_48, li_49, li_50, li_51, li_52, li_53, li_54, li_55, li_56, li_57, li_58, li_59, li_60, li_61, li_62, li_63, li_64, li_65, li_66, li_67, li_68, li_69, li_70, li_71, li_72, li_73, li_74, li_75, li_76, li_77, li_78, li_91, li_93, li_96, li_97, li_99, li_100, li_122, li_138, li_255, li_256, li_400, li_401, li_625, li_800, li_999, li_1000, li_1001, li_1103, li_2000, li_2037, li_2038, li_2039, li_2040, li_2041, li_2042, li_2043, li_2044, li_2045, li_2046, li_2047, li_2048, li_2049, li_2050, li_2051, li_2052, li_2053, li_2054, li_2055, li_2056, li_2057, li_2058, li_2059, li_2060, li_2061, li_2062, li_2091, li_2093, li_2400, li_2865, li_3000, li_3002, li_3003, li_3005, li_3006, li_3007, li_3008, li_3009, li_3010, li_3011, li_3012, li_3013, li_3020, li_3024, li_3025, li_3026, li_3999, li_4000, li_4095, li_4096, li_5665, li_11330, li_12345, li_15625, li_1000000, li_1000003, li_100000000, li_1000000000, ti_lt, ti_eq, inb_iff, ix_eq]; omega
    have j0 : ix a = at0 := by rw [ix_eq, hA]; omega
    have j1 : ix (a + 1) = at0 + 1 := by rw [ix_eq, a1]; omega
    have j2 : ix (a + 2) = at0 + 2 := by rw [ix_eq, a2]; omega
    have ex : x9_row_b23 (k + 1) sx v a = (x9_takeWordAt sx a).bind fun q1 => gif (q1.2 = 0) (x9_row_b23 k (wI q1.1 9 0 14 (rI q1.1 9 0 14 + 1)) v (a + 3)) (x9_row_b23 k q1.1 (v + 1) (a + 3)) := by
      show x9_row_b23_G _ _ _ sx v a = _
      unfold x9_row_b23_G
      rw [gif_t (by rw [ti_lt, z1]; omega)]
    have em : m_row_b40 (k' + 1) sm Z v a = gif (rI sm 43 0 54 < 12 ∧ isWd (rI sm 48 0 at0) (rI sm 48 0 (at0 + 1)) (rI sm 48 0 (at0 + 2))) (m_row_b89 (m_row_b40 k') sm Z v a 1) (m_row_b89 (m_row_b40 k') sm Z v a 0) := by
      show m_row_b40_G _ _ _ _ sm Z v a = _
      unfold m_row_b40_G
      rw [gif_f (by rw [ti_lt, hZ, a3]; omega)]
      simp only [q_m_wordMany, q_m_canWord, Option.bind_some, gdB0, gdB1, gdbI, gifbI, j0, j1, j2]
      rw [gd_t (inb_iff.mpr (by omega)), gd_t (inb_iff.mpr (by omega)), gd_t (inb_iff.mpr (by omega))]
      by_cases c : rI sm 43 0 54 < 12
      · rw [gif_t c]
        by_cases w : isWd (rI sm 48 0 at0) (rI sm 48 0 (at0 + 1)) (rI sm 48 0 (at0 + 2))
        · rw [gif_t w, gif_t ⟨c, w⟩]
        · rw [gif_f w, gif_f (fun x => w x.2)]
      · rw [gif_f c, gif_f (fun x => c x.1)]
    rcases row_step h at0 (by omega) hA with ⟨sx', sm', hx, c, hm, h', eN⟩ | ⟨hx, c⟩
    · rw [ex, em, hx, gif_t c]
      simp only [Option.bind_some]
      rw [gif_f (by decide)]
      have e2 : m_row_b89 (m_row_b40 k') sm Z v a 1 = m_row_b40 k' (wI sm' 10 0 6 (rI sm' 10 0 6 + 0)) Z (v + 1) (a + 3) := by
        show m_row_b89_G _ _ sm Z v a 1 = _
        unfold m_row_b89_G
        rw [gif_f (by decide), gd_t (inb_iff.mpr (by omega)), gd_t (inb_iff.mpr (by omega)), gd_t (inb_iff.mpr (by omega)), j0, j1, j2, hm]
        simp only [Option.bind_some]
        rw [gif_f (by decide)]
        show m_row_b133_G _ sm' Z a 1 v 1 = _
        unfold m_row_b133_G
        rw [gif_f (by decide)]
      have e3 : wI sm' 10 0 6 (rI sm' 10 0 6 + 0) = sm' := by
        rw [Int32.add_zero]; unfold wI u3 rI
        refine Prod.ext ?_ rfl
        funext x y w
        simp only []
        split
        · next g => rw [g.1, g.2.1, g.2.2]
        · rfl
      rw [e2, e3]
      exact (ih r (at0 + 3) (a + 3) (v + 1) Z k k' h' hr (by omega) a3 hZ hd (by omega) (by omega)).re eN
    · rw [ex, em, hx, gif_f c]
      simp only [Option.bind_some]
      rw [gif_t trivial]
      have e2 : m_row_b89 (m_row_b40 k') sm Z v a 0 = m_row_b40 k' (wI sm 10 0 6 (rI sm 10 0 6 + 1)) Z (v + 0) (a + 3) := by
        show m_row_b89_G _ _ sm Z v a 0 = _
        unfold m_row_b89_G
        rw [gif_t rfl, gif_t rfl]
        show m_row_b133_G _ sm Z a 0 v 0 = _
        unfold m_row_b133_G
        rw [gif_t rfl]
      rw [e2, Int32.add_zero]
      exact (ih r (at0 + 3) (a + 3) v Z k k' (RowI_turn h) hr (by omega) a3 hZ hd (by omega) (by omega)).re (by rw [rN_wI])
theorem c_row {sx sm : Sg} (h : Inv sx sm) : Call sx sm (x9_row sx) (m_row sm) := by
  have e13 : rI sx 9 0 13 = rI sm 10 0 13 := h.1.1.1
  obtain ⟨z, hz⟩ : ∃ n : Nat, (rI sm 10 0 13).toInt = n := ⟨_, (Int.toNat_of_nonneg h.1.1.2.1).symm⟩
  have z4 : z ≤ 400 := by have := h.1.1.2.2; omega
  unfold x9_row x9_row_G m_row m_row_G
  simp only [bindp, e13]
  by_cases c : rI sm 10 0 13 = 0
  · rw [gif_t c, gif_t c]
    have z0 : z = 0 := by rw [c] at hz; simp only [li_0] at hz; omega
    have : wI sm 10 0 13 0 = sm := by
      unfold wI u3
      refine Prod.ext ?_ rfl
      funext x y w
      simp only []
      split
      · next g => rw [g.1, g.2.1, g.2.2]; exact c.symm
      · rfl
    rw [this]; exact refuse_both h (.inr (.inr (.inr (.inr rfl))))
  · rw [gif_f c, gif_f c, gd_t (by decide)]
    have key : ∀ (d : Int32), RowI (wI sx 9 0 14 0) (wI (wI sm 10 0 13 0) 10 0 6 d) z d := by
      intro d
      obtain ⟨h1, h2, h3, h4⟩ := h.1
      have F : Fr [(9, 1, 15)] sx (wI sx 9 0 14 0) := fr_wI fr_rfl (hit_is (by simp))
      have G : Fr [(10, 1, 7), (10, 1, 14)] sm (wI (wI sm 10 0 13 0) 10 0 6 d) := fr_wI (fr_wI fr_rfl (hit_is (by simp))) (hit_is (by simp))
      refine ⟨?_, fun i hi => ?_, ?_, ?_, InvB_fr F G rfl rfl rfl rfl rfl h.2.1, InvC_fr F G rfl rfl rfl rfl rfl rfl h.2.2.2.1, InvE_fr F G rfl rfl rfl h.2.2.2.2.1, InvF_fr F G rfl (.inl rfl) (.inl ⟨rfl, rfl⟩) (.inl rfl) rfl h.2.2.2.2.2⟩
      · simp (disch := omega) only [rI_ne, rI_eq]; rw [e13]; exact ⟨hz, z4, trivial⟩
      · simp (disch := omega) only [rI_ne]; exact h2 i (by omega)
      · simp (disch := omega) only [rI_ne, rI_eq]; exact ⟨by rw [Int32.zero_add], h3.2.1, h3.2.2.2⟩
      · simp (disch := omega) only [rI_ne]; exact h4
    have er : (g_rem (rI sm 10 0 13) 3).toInt = z % 3 := by rw [ti_rem (by omega) (by decide), hz]; rfl
    by_cases r0 : z % 3 = 0
    · rw [gif_t (by rw [ti_eq, er, li_0]; omega)]
      exact (row_loop (z / 3) 0 0 0 0 _ FU FU (key 0) (by omega) (by omega) rfl hz rfl (by show _ ≤ 20000; omega) (by show _ ≤ 20000; omega)).re (by rw [rN_wI])
    · rw [gif_f (p := _ = 0) (by rw [ti_eq, er, li_0]; omega)]
      exact (row_loop (z / 3) (z % 3) 0 0 0 _ FU FU (key 1) (by omega) (by omega) rfl hz (by rw [if_neg r0]) (by show _ ≤ 20000; omega) (by show _ ≤ 20000; omega)).re (by rw [rN_wI])
/-! feed -/
def bv (f : Nat → Int32) (k : Nat) : Int32 := vp_nar .byte (Int8.toInt32 (Int32.toInt8 (f (k / 4) >>> (nI (24 - 8 * (k % 4)) &&& 31))))
theorem nar_b (x : Int32) : vp_nar .byte (Int8.toInt32 (Int32.toInt8 x)) = Int8.toInt32 (Int32.toInt8 (Int8.toInt32 (Int32.toInt8 x))) := rfl
theorem bv_r (f : Nat → Int32) (k : Nat) : -128 ≤ (bv f k).toInt ∧ (bv f k).toInt ≤ 127 := by
  unfold bv; rw [nar_b, Int8.toInt_toInt32]
  have h1 := Int8.le_toInt (Int32.toInt8 (Int8.toInt32 (Int32.toInt8 (f (k / 4) >>> (nI (24 - 8 * (k % 4)) &&& 31)))))
  have h2 := Int8.toInt_lt (Int32.toInt8 (Int8.toInt32 (Int32.toInt8 (f (k / 4) >>> (nI (24 - 8 * (k % 4)) &&& 31)))))
  omega
theorem ok_putFour {s : Sg} {T : Nat} (hT : (rI s 9 0 13).toInt = T) (h4 : T + 4 ≤ 400) (f : Nat → Int32) (j : Nat) : ok (x9_putFour s (f j)) (fun s' => (rI s' 9 0 13).toInt = T + 4 ∧ (∀ i, i < 4 → rI s' 39 0 (T + i) = bv f (4 * j + i)) ∧ (∀ i, i < T → rI s' 39 0 i = rI s 39 0 i) ∧
    (∀ c, c ≠ 13 → rI s' 9 0 c = rI s 9 0 c)) := by
  have st : ∀ (s : Sg) (T i : Nat) (k : Nat) (sh : Int32), (rI s 9 0 13).toInt = T → T < 400 → i < 4 → sh.toInt = 24 - 8 * i →
      x9_putFour_b3 (k + 1) s (f j) sh = x9_putFour_b3 k (wI (wI s 39 0 T (bv f (4 * j + i))) 9 0 13 (rI s 9 0 13 + 1)) (f j) (sh + (-8)) := by
    intro s T i k sh hT h4 hi hs
    show x9_putFour_b3_G _ s (f j) sh = _
    unfold x9_putFour_b3_G
    rw [gif_f (by rw [ti_lt, li_0]; omega), gif_t (by rw [ti_lt, li_400]; omega), gd_t (inb_iff.mpr (by omega))]
    have e1 : ix (rI s 9 0 13) = T := by rw [ix_eq, hT]; omega
    have e2 : sh = nI (24 - 8 * ((4 * j + i) % 4)) := by
      rw [ti_eq, nI_ti (by omega)]; omega
    simp (disch := omega) only [rI_ne, e1]
    unfold bv
    rw [← e2, show (4 * j + i) / 4 = j by omega]
  have s1 : ∀ (a : Int32) (T : Nat), a.toInt = T → T < 400 → (a + 1).toInt = T + 1 := by
    intro a T h1 h2; simp (disch := omega) only [Int32.toInt_add, Int32.toInt_sub, Int32.toInt_mul, Int32.toInt_neg, bm32, li_0, li_1, li_2, li_3, li_4, li_5, li_6, li_7, li_8, li_9, li_10, li_11, li_12, li_13, li_14, li_15, li_16, li_17, li_18, li_19, li_20, li_21, li_22, li_23, li_24, li_25, li_26, li_27, li_28, li_29, li_30, li_31, li_32, li_33, li_34, li_35, li_36, li_37, li_38, li_39, li_40, li_41, li_42, li_43, li_44, li_45, li_46, li_47, li_48, li_49, li_50, li_51, li_52, li_53, li_54, li_55, li_56, li_57, li_58, li_59, li_60, li_61, li_62, li_63, li_64, li_65, li_66, li_67, li_68, li_69, li_70, li_71, li_72, li_73, li_74, li_75, li_76, li_77, li_78, li_91, li_93, li_96, li_97, li_99, li_100, li_122, li_138, li_255, li_256, li_400, li_401, li_625, li_800, li_999, li_1000, li_1001, li_1103, li_2000, li_2037, li_2038, li_2039, li_2040, li_2041, li_2042, li_2043, li_2044, li_2045, li_2046, li_2047, li_2048, li_2049, li_2050, li_2051, li_2052, li_2053, li_2054, li_2055, li_2056, li_2057, li_2058, li_2059, li_2060, li_2061, li_2062, li_2091, li_2093, li_2400, li_2865, li_3000, li_3002, li_3003, li_3005, li_3006, li_3007, li_3008, li_3009, li_3010, li_3011, li_3012, li_3013, li_3020, li_3024, li_3025, li_3026, li_3999, li_4000, li_4095, li_4096, li_5665, li_11330, li_12345, li_15625, li_1000000, li_1000003, li_100000000, li_1000000000, ti_lt, ti_eq, inb_iff, ix_eq]; omega
  show ok (x9_putFour_b3 (19995 + 1 + 1 + 1 + 1 + 1) s (f j) 24) _
  rw [st s T 0 _ 24 hT (by omega) (by omega) rfl, st _ (T + 1) 1 _ _ (by rw [rI_eq rfl, s1 _ T hT (by omega)]; omega) (by omega) (by omega) rfl,
    st _ (T + 2) 2 _ _ (by rw [rI_eq rfl, rI_eq rfl, s1 _ (T + 1) (by rw [s1 _ T hT (by omega)]; omega) (by omega)]; omega) (by omega) (by omega) rfl,
    st _ (T + 3) 3 _ _ (by rw [rI_eq rfl, rI_eq rfl, rI_eq rfl, s1 _ (T + 2) (by rw [s1 _ (T + 1) (by rw [s1 _ T hT (by omega)]; omega) (by omega)]; omega) (by omega)]; omega) (by omega) (by omega) rfl]
  show ok (x9_putFour_b3_G _ _ _ _) _
  unfold x9_putFour_b3_G
  rw [gif_t (by decide)]
  refine ok_some ⟨?_, ?_, ?_, ?_⟩
  · simp (disch := omega) only [rI_ne, rI_eq]
    have h1 := s1 _ T hT (by omega)
    have h2 := s1 (rI s 9 0 13 + 1) (T + 1) (by omega) (by omega)
    have h3 := s1 (rI s 9 0 13 + 1 + 1) (T + 2) (by omega) (by omega)
    have h4 := s1 (rI s 9 0 13 + 1 + 1 + 1) (T + 3) (by omega) (by omega)
    omega
  · intro i hi
    rcases (by omega : i = 0 ∨ i = 1 ∨ i = 2 ∨ i = 3) with rfl | rfl | rfl | rfl <;> simp (disch := omega) only [rI_ne, rI_eq]
  · intro i hi; simp (disch := omega) only [rI_ne]
  · intro c hc; simp (disch := omega) only [rI_ne]
theorem c_feed {sx sm : Sg} (h : Inv sx sm) (a b c d e : Int32) : Call sx sm (x9_feed sx a b c d e) (m_feed sm a b c d e) := by
  have e13 : rI sx 9 0 13 = rI sm 10 0 13 := h.1.1.1
  obtain ⟨T, hT⟩ : ∃ n : Nat, (rI sm 10 0 13).toInt = n := ⟨_, (Int.toNat_of_nonneg h.1.1.2.1).symm⟩
  have z4 : T ≤ 400 := by have := h.1.1.2.2; omega
  have t20 : (rI sm 10 0 13 + 20).toInt = T + 20 := by simp (disch := omega) only [Int32.toInt_add, Int32.toInt_sub, Int32.toInt_mul, Int32.toInt_neg, bm32, li_0, li_1, li_2, li_3, li_4, li_5, li_6, li_7, li_8, li_9, li_10, li_11, li_12, li_13, li_14, li_15, li_16, li_17, li_18, li_19, li_20, li_21, li_22, li_23, li_24, li_25, li_26, li_27, li_28, li_29, li_30, li_31, li_32, li_33, li_34, li_35, li_36, li_37, li_38, li_39, li_40, li_41, li_42, li_43, li_44, li_45, li_46, li_47, li_48, li_49, li_50, li_51, li_52, li_53, li_54, li_55, li_56, li_57, li_58, li_59, li_60, li_61, li_62, li_63, li_64, li_65, li_66, li_67, li_68, li_69, li_70, li_71, li_72, li_73, li_74, li_75, li_76, li_77, li_78, li_91, li_93, li_96, li_97, li_99, li_100, li_122, li_138, li_255, li_256, li_400, li_401, li_625, li_800, li_999, li_1000, li_1001, li_1103, li_2000, li_2037, li_2038, li_2039, li_2040, li_2041, li_2042, li_2043, li_2044, li_2045, li_2046, li_2047, li_2048, li_2049, li_2050, li_2051, li_2052, li_2053, li_2054, li_2055, li_2056, li_2057, li_2058, li_2059, li_2060, li_2061, li_2062, li_2091, li_2093, li_2400, li_2865, li_3000, li_3002, li_3003, li_3005, li_3006, li_3007, li_3008, li_3009, li_3010, li_3011, li_3012, li_3013, li_3020, li_3024, li_3025, li_3026, li_3999, li_4000, li_4095, li_4096, li_5665, li_11330, li_12345, li_15625, li_1000000, li_1000003, li_100000000, li_1000000000, ti_lt, ti_eq, inb_iff, ix_eq, hT]
  let f : Nat → Int32 := fun j => if j = 0 then a else if j = 1 then b else if j = 2 then c else if j = 3 then d else e
  unfold x9_feed x9_feed_G m_feed m_feed_G
  rw [e13]
  by_cases g : T + 20 ≤ 400
  · rw [gif_f (by rw [ti_lt, li_400, t20]; omega), gif_f (by rw [ti_lt, li_400, t20]; omega)]
    have x1 := ok_putFour (s := sx) (by rw [e13, hT]) (by omega) f 0
    obtain ⟨s1, hx1, p1, p2, p3, p4⟩ := x1
    obtain ⟨s2, hx2, q1, q2, q3, q4⟩ := ok_putFour (s := s1) (T := T + 4) (by rw [p1]; omega) (by omega) f 1
    obtain ⟨s3, hx3, r1, r2, r3, r4⟩ := ok_putFour (s := s2) (T := T + 8) (by rw [q1]; omega) (by omega) f 2
    obtain ⟨s4, hx4, u1, u2, u3, u4⟩ := ok_putFour (s := s3) (T := T + 12) (by rw [r1]; omega) (by omega) f 3
    obtain ⟨s5, hx5, w1, w2, w3, w4⟩ := ok_putFour (s := s4) (T := T + 16) (by rw [u1]; omega) (by omega) f 4
    have hX : ((x9_putFour sx a).bind fun s1 => (x9_putFour s1 b).bind fun s2 => (x9_putFour s2 c).bind fun s3 => (x9_putFour s3 d).bind fun s4 => (x9_putFour s4 e).bind fun s5 => some (s5, rI s5 9 0 13)) = some (s5, rI s5 9 0 13) := by
      rw [show x9_putFour sx a = some s1 from hx1]; simp only [Option.bind_some]
      rw [show x9_putFour s1 b = some s2 from hx2]; simp only [Option.bind_some]
      rw [show x9_putFour s2 c = some s3 from hx3]; simp only [Option.bind_some]
      rw [show x9_putFour s3 d = some s4 from hx4]; simp only [Option.bind_some]
      rw [show x9_putFour s4 e = some s5 from hx5]; simp only [Option.bind_some]
    rw [hX]
    have F : Fr FP_x9_putFour sx s5 := ((((fr_x9_putFour _ _ _ hx1).trans (fr_x9_putFour _ _ _ hx2)).trans (fr_x9_putFour _ _ _ hx3)).trans (fr_x9_putFour _ _ _ hx4)).trans (fr_x9_putFour _ _ _ hx5)
    simp only [gd_t (show inb 0 5 by rw [inb_iff]; decide), gd_t (show inb 1 5 by rw [inb_iff]; decide), gd_t (show inb 2 5 by rw [inb_iff]; decide), gd_t (show inb 3 5 by rw [inb_iff]; decide), gd_t (show inb 4 5 by rw [inb_iff]; decide), show ix 0 = 0 from rfl, show ix 1 = 1 from rfl, show ix 2 = 2 from rfl, show ix 3 = 3 from rfl, show ix 4 = 4 from rfl]
    have L : ok (m_feed_b55 FU (wI (wI (wI (wI (wI sm 49 0 0 a) 49 0 1 b) 49 0 2 c) 49 0 3 d) 49 0 4 e) 0) (fun q => q.2 = rI q.1 10 0 13 ∧ rI q.1 10 0 13 = rI sm 10 0 13 + 20 ∧ (∀ k : Nat, k < 20 → rI q.1 48 0 (T + k) = bv f k) ∧ (∀ i, i < T → rI q.1 48 0 i = rI sm 48 0 i) ∧ ∀ c, c ≠ 13 → rI q.1 10 0 c = rI sm 10 0 c) := by
      refine ok_loop (K := fun k (p : Sg × Int32) => m_feed_b55 k p.1 p.2) (I := fun p => rI p.1 10 0 13 = rI sm 10 0 13 ∧ 0 ≤ p.2.toInt ∧ p.2.toInt ≤ 20 ∧ (∀ j, j < 5 → rI p.1 49 0 j = f j) ∧ (∀ k : Nat, (k : Int) < p.2.toInt → rI p.1 48 0 (T + k) = bv f k) ∧ (∀ i, i < T → rI p.1 48 0 i = rI sm 48 0 i) ∧ ∀ c, c ≠ 13 → rI p.1 10 0 c = rI sm 10 0 c)
        (μ := fun p => 20 - p.2.toInt.toNat) ?_ FU (wI (wI (wI (wI (wI sm 49 0 0 a) 49 0 1 b) 49 0 2 c) 49 0 3 d) 49 0 4 e, 0) ⟨by simp (disch := omega) only [rI_ne], by simp only [li_0]; omega, by simp only [li_0]; omega, ?_, fun k hk => by simp only [li_0] at hk; omega, fun i hi => by simp (disch := omega) only [rI_ne], fun c hc => by simp (disch := omega) only [rI_ne]⟩ (by show _ < 20000; omega)
      · rintro k ⟨s', i⟩ ⟨h1, h2, h3, h4, h5, h6, h7⟩ ih
        simp only at h1 h2 h3 h4 h5 h6 h7 ih
        show ok (m_feed_b55_G _ s' i) _
        unfold m_feed_b55_G
        refine ok_gif (fun c0 => ?_) (fun c0 => ?_)
        · rw [ti_lt, li_20] at c0
          have d4 : (i / 4).toInt = i.toInt / 4 := ti_div h2 (by decide)
          have m4 : (g_rem i 4).toInt = i.toInt % 4 := ti_rem h2 (by decide)
          have ii : ix (rI s' 10 0 13 + i) = T + i.toInt.toNat := by rw [h1, ix_k (m := T) hT h2 (by omega)]
          have sh : (24 - 8 * g_rem i 4) = nI (24 - 8 * (i.toInt.toNat % 4)) := by
            rw [ti_eq, nI_ti (by omega)]
            have : (8 * g_rem i 4).toInt = 8 * (i.toInt % 4) := by rw [ti_mul (by rw [m4, li_8]; omega) (by rw [m4, li_8]; omega), m4, li_8]
            rw [ti_sub (by rw [this, li_24]; omega) (by rw [this, li_24]; omega), this, li_24]; omega
          have e1 : (i + 1).toInt = i.toInt + 1 := by simp (disch := omega) only [Int32.toInt_add, Int32.toInt_sub, Int32.toInt_mul, Int32.toInt_neg, bm32, li_0, li_1, li_2, li_3, li_4, li_5, li_6, li_7, li_8, li_9, li_10, li_11, li_12, li_13, li_14, li_15, li_16, li_17, li_18, li_19, li_20, li_21, li_22, li_23, li_24, li_25, li_26, li_27, li_28, li_29, li_30, li_31, li_32, li_33, li_34, li_35, li_36, li_37, li_38, li_39, li_40, li_41, li_42, li_43, li_44, li_45, li_46, li_47, li_48, li_49, li_50, li_51, li_52, li_53, li_54, li_55, li_56, li_57, li_58, li_59, li_60, li_61, li_62, li_63, li_64, li_65, li_66, li_67, li_68, li_69, li_70, li_71, li_72, li_73, li_74, li_75, li_76, li_77, li_78, li_91, li_93, li_96, li_97, li_99, li_100, li_122, li_138, li_255, li_256, li_400, li_401, li_625, li_800, li_999, li_1000, li_1001, li_1103, li_2000, li_2037, li_2038, li_2039, li_2040, li_2041, li_2042, li_2043, li_2044, li_2045, li_2046, li_2047, li_2048, li_2049, li_2050, li_2051, li_2052, li_2053, li_2054, li_2055, li_2056, li_2057, li_2058, li_2059, li_2060, li_2061, li_2062, li_2091, li_2093, li_2400, li_2865, li_3000, li_3002, li_3003, li_3005, li_3006, li_3007, li_3008, li_3009, li_3010, li_3011, li_3012, li_3013, li_3020, li_3024, li_3025, li_3026, li_3999, li_4000, li_4095, li_4096, li_5665, li_11330, li_12345, li_15625, li_1000000, li_1000003, li_100000000, li_1000000000, ti_lt, ti_eq, inb_iff, ix_eq]
          rw [gd_t (by decide), gd_t (inb_iff.mpr (by rw [d4]; omega)), gd_t (by decide), gd_t (by rw [h1]; exact inb_k (m := T) hT h2 (by omega) (by omega)), ii, sh, h4 (ix (i / 4)) (by rw [ix_eq, d4]; omega)]
          refine ih (wI s' 48 0 (T + i.toInt.toNat) (vp_nar .byte (Int8.toInt32 (Int32.toInt8 (f (ix (i / 4)) >>> (nI (24 - 8 * (i.toInt.toNat % 4)) &&& 31))))), i + 1) ⟨?_, by simp only [e1]; omega, by simp only [e1]; omega, fun j hj => ?_, fun k hk => ?_, fun j hj => ?_, fun c hc => ?_⟩ (by simp only [e1]; omega)
          · simp (disch := omega) only [rI_ne]; exact h1
          · simp (disch := omega) only [rI_ne]; exact h4 j hj
          · simp only [e1] at hk
            by_cases g' : k = i.toInt.toNat
            · subst g'
              rw [rI_eq rfl]; unfold bv
              rw [show ix (i / 4) = i.toInt.toNat / 4 by rw [ix_eq, d4]; omega]
            · rw [rI_ne (by omega)]; exact h5 k (by omega)
          · rw [rI_ne (by omega)]; exact h6 j hj
          · rw [rI_ne (by omega)]; exact h7 c hc
        · rw [ti_lt, li_20] at c0
          refine ok_some ⟨rfl, by simp only []; rw [rI_eq rfl, h1], fun k hk => ?_, fun i hi => ?_, fun c hc => ?_⟩
          · simp (disch := omega) only [rI_ne]; exact h5 k (by omega)
          · simp (disch := omega) only [rI_ne]; exact h6 i hi
          · simp (disch := omega) only [rI_ne]; exact h7 c hc
      · intro j hj
        rcases (by omega : j = 0 ∨ j = 1 ∨ j = 2 ∨ j = 3 ∨ j = 4) with rfl | rfl | rfl | rfl | rfl <;> simp (disch := omega) only [rI_ne, rI_eq] <;> rfl
    obtain ⟨⟨sm', v⟩, hm, y1, y2, y3, y4, y5⟩ := L
    simp only at y1 y2 y3 y4 y5
    have G0 := fr_m_feed_b55 _ _ _ _ hm
    have G : Fr ((49, 1, 0) :: FP_m_feed_b55) sm sm' := (fr_wI (fr_wI (fr_wI (fr_wI (fr_wI fr_rfl (hit_ie (.head _))) (hit_ie (.head _))) (hit_ie (.head _))) (hit_ie (.head _))) (hit_ie (.head _))).trans (G0.mono (fun k i c h => .inr h))
    have ev : rI s5 9 0 13 = v := by rw [y1, y2, ti_eq, w1, t20]; omega
    refine ⟨s5, sm', v, by rw [ev], hm, ⟨?_, InvB_fr F G rfl rfl rfl rfl rfl h.2.1, LogR_fr F G h.log12 rfl rfl rfl rfl h.2.2.1, InvC_fr F G rfl rfl rfl rfl rfl rfl h.2.2.2.1, InvE_fr F G rfl rfl rfl h.2.2.2.2.1, InvF_fr F G rfl (.inl rfl) (.inl ⟨rfl, rfl⟩) (.inl rfl) rfl h.2.2.2.2.2⟩, by rw [F.n _ _ _ (nh rfl)]; omega⟩
    obtain ⟨a1, a2, a3, a4⟩ := h.1
    have t13 : (rI sm' 10 0 13).toInt = T + 20 := by rw [y2, t20]
    refine ⟨⟨by rw [ev, y1], by omega, by omega⟩, fun i hi => ?_, ?_, ?_⟩
    · by_cases g0 : i < T
      · rw [w3 i (by omega), u3 i (by omega), r3 i (by omega), q3 i (by omega), p3 i (by omega), y4 i g0]; exact a2 i (by omega)
      · obtain ⟨k, rfl⟩ : ∃ k, i = T + k := ⟨i - T, by omega⟩
        have hk : k < 20 := by omega
        rw [y3 k hk]
        refine ⟨?_, bv_r f k⟩
        rcases (by omega : k < 4 ∨ (4 ≤ k ∧ k < 8) ∨ (8 ≤ k ∧ k < 12) ∨ (12 ≤ k ∧ k < 16) ∨ 16 ≤ k) with c1 | c1 | c1 | c1 | c1
        · rw [w3 _ (by omega), u3 _ (by omega), r3 _ (by omega), q3 _ (by omega), p2 k c1, show 4 * 0 + k = k by omega]
        · rw [w3 _ (by omega), u3 _ (by omega), r3 _ (by omega), show T + k = T + 4 + (k - 4) by omega, q2 (k - 4) (by omega), show 4 * 1 + (k - 4) = k by omega]
        · rw [w3 _ (by omega), u3 _ (by omega), show T + k = T + 8 + (k - 8) by omega, r2 (k - 8) (by omega), show 4 * 2 + (k - 8) = k by omega]
        · rw [w3 _ (by omega), show T + k = T + 12 + (k - 12) by omega, u2 (k - 12) (by omega), show 4 * 3 + (k - 12) = k by omega]
        · rw [show T + k = T + 16 + (k - 16) by omega, w2 (k - 16) (by omega), show 4 * 4 + (k - 16) = k by omega]
    · rw [w4 14 (by omega), u4 14 (by omega), r4 14 (by omega), q4 14 (by omega), p4 14 (by omega), w4 15 (by omega), u4 15 (by omega), r4 15 (by omega), q4 15 (by omega), p4 15 (by omega), w4 16 (by omega), u4 16 (by omega), r4 16 (by omega), q4 16 (by omega), p4 16 (by omega),
        y5 6 (by omega), y5 58 (by omega), y5 0 (by omega), y5 14 (by omega), F.i 6 0 6 (nh rfl)]
      exact a3
    · rw [F.i 41 0 0 (nh rfl), F.i 41 0 1 (nh rfl), F.i 41 0 2 (nh rfl), F.i 41 0 3 (nh rfl), F.i 41 0 4 (nh rfl), G.i 42 0 1 (nh rfl), G.i 42 0 2 (nh rfl), G.i 42 0 3 (nh rfl), G.i 42 0 5 (nh rfl), G.i 42 0 6 (nh rfl)]; exact a4
  · rw [gif_t (by rw [ti_lt, li_400, t20]; omega), gif_t (by rw [ti_lt, li_400, t20]; omega)]; exact call_id h rfl rfl
