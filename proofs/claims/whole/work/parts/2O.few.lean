/-! image, back -/
theorem nb1 : vp_nar .boolean 1 = 1 := by decide
theorem GA_f {s : Sg} {g : Nat} {f f' : Nat → Int32} (hf : ∀ i, i < 5665 → f' i = f i) (h : GA s g f) : GA s g f' := GA_fr (L := []) fr_rfl rfl rfl rfl (fun i hi => hf i (by omega)) h
theorem ok_m_image {sm : Sg} {a : Int32} {k : Nat} (ha : a.toInt = k) (hk : k < 2) : ok (m_image sm a) (fun q => q.2 = 0 ∧ (∀ i, i < 5665 → rI q.1 44 0 (5665 * k + i) = rI sm 43 0 i) ∧ (∀ i, i < 5665 * k ∨ 5665 * k + 5665 ≤ i → rI q.1 44 0 i = rI sm 44 0 i) ∧ rI q.1 45 0 k = 1 ∧ (∀ i, i ≠ k → rI q.1 45 0 i = rI sm 45 0 i) ∧ (∀ i, rI q.1 43 0 i = rI sm 43 0 i) ∧ (∀ i, rI q.1 42 0 i = rI sm 42 0 i) ∧ rI q.1 10 0 0 = 0 ∧ ∀ c, c ≠ 0 → rI q.1 10 0 c = rI sm 10 0 c) := by
  unfold m_image m_image_G
  simp only [q_m_lies, Option.bind_some, gdB0, gdB1, gdbI, gifbI, li_0, li_1]
  rw [gif_t (by omega)]
  have t1 : (5665 * a).toInt = 5665 * k := by simp (disch := omega) only [Int32.toInt_add, Int32.toInt_sub, Int32.toInt_mul, Int32.toInt_neg, bm32, li_0, li_1, li_2, li_3, li_4, li_5, li_6, li_7, li_8, li_9, li_10, li_11, li_12, li_13, li_14, li_15, li_16, li_17, li_18, li_19, li_20, li_21, li_22, li_23, li_24, li_25, li_26, li_27, li_28, li_29, li_30, li_31, li_32, li_33, li_34, li_35, li_36, li_37, li_38, li_39, li_40, li_41, li_42, li_43, li_44, li_45, li_46, li_47, li_48, li_49, li_50, li_51, li_52, li_53, li_54, li_55, li_56, li_57, li_58, li_59, li_60, li_61, li_62, li_63, li_64, li_65, li_66, li_67, li_68, li_69, li_70, li_71, li_72, li_73, li_74, li_75, li_76, li_77, li_78, li_91, li_93, li_96, li_97, li_99, li_100, li_122, li_138, li_255, li_256, li_400, li_401, li_625, li_800, li_999, li_1000, li_1001, li_1103, li_2000, li_2037, li_2038, li_2039, li_2040, li_2041, li_2042, li_2043, li_2044, li_2045, li_2046, li_2047, li_2048, li_2049, li_2050, li_2051, li_2052, li_2053, li_2054, li_2055, li_2056, li_2057, li_2058, li_2059, li_2060, li_2061, li_2062, li_2091, li_2093, li_2400, li_2865, li_3000, li_3002, li_3003, li_3005, li_3006, li_3007, li_3008, li_3009, li_3010, li_3011, li_3012, li_3013, li_3020, li_3024, li_3025, li_3026, li_3999, li_4000, li_4095, li_4096, li_5665, li_11330, li_12345, li_15625, li_1000000, li_1000003, li_100000000, li_1000000000, ti_lt, ti_eq, inb_iff, ix_eq, ha]
  refine ok_loop (K := fun n (p : Sg × Int32) => m_image_b17 n p.1 a p.2) (I := fun p => 0 ≤ p.2.toInt ∧ p.2.toInt ≤ 5665 ∧ (∀ i : Nat, (i : Int) < p.2.toInt → rI p.1 44 0 (5665 * k + i) = rI sm 43 0 i) ∧ (∀ i, i < 5665 * k ∨ 5665 * k + 5665 ≤ i → rI p.1 44 0 i = rI sm 44 0 i) ∧ (∀ i, rI p.1 45 0 i = rI sm 45 0 i) ∧ (∀ i, rI p.1 43 0 i = rI sm 43 0 i) ∧ (∀ i, rI p.1 42 0 i = rI sm 42 0 i) ∧ ∀ c, rI p.1 10 0 c = rI sm 10 0 c)
    (μ := fun p => 5665 - p.2.toInt.toNat) ?_ FU (sm, 0) ⟨by simp only [li_0]; omega, by simp only [li_0]; omega, fun i hi => by simp only [li_0] at hi; omega, fun i hi => rfl, fun i => rfl, fun i => rfl, fun i => rfl, fun i => rfl⟩ (by show _ < 20000; omega)
  rintro n ⟨s2, j⟩ ⟨g2, g3, g4, g5, g6, g7, g8, g9⟩ ih
  simp only at g2 g3 g4 g5 g6 g7 g8 g9 ih
  show ok (m_image_b17_G _ _ s2 a j) _
  unfold m_image_b17_G
  refine ok_gif (fun c => ?_) (fun c => ?_)
  · rw [ti_lt, li_5665] at c
    have e1 : (j + 1).toInt = j.toInt + 1 := by simp (disch := omega) only [Int32.toInt_add, Int32.toInt_sub, Int32.toInt_mul, Int32.toInt_neg, bm32, li_0, li_1, li_2, li_3, li_4, li_5, li_6, li_7, li_8, li_9, li_10, li_11, li_12, li_13, li_14, li_15, li_16, li_17, li_18, li_19, li_20, li_21, li_22, li_23, li_24, li_25, li_26, li_27, li_28, li_29, li_30, li_31, li_32, li_33, li_34, li_35, li_36, li_37, li_38, li_39, li_40, li_41, li_42, li_43, li_44, li_45, li_46, li_47, li_48, li_49, li_50, li_51, li_52, li_53, li_54, li_55, li_56, li_57, li_58, li_59, li_60, li_61, li_62, li_63, li_64, li_65, li_66, li_67, li_68, li_69, li_70, li_71, li_72, li_73, li_74, li_75, li_76, li_77, li_78, li_91, li_93, li_96, li_97, li_99, li_100, li_122, li_138, li_255, li_256, li_400, li_401, li_625, li_800, li_999, li_1000, li_1001, li_1103, li_2000, li_2037, li_2038, li_2039, li_2040, li_2041, li_2042, li_2043, li_2044, li_2045, li_2046, li_2047, li_2048, li_2049, li_2050, li_2051, li_2052, li_2053, li_2054, li_2055, li_2056, li_2057, li_2058, li_2059, li_2060, li_2061, li_2062, li_2091, li_2093, li_2400, li_2865, li_3000, li_3002, li_3003, li_3005, li_3006, li_3007, li_3008, li_3009, li_3010, li_3011, li_3012, li_3013, li_3020, li_3024, li_3025, li_3026, li_3999, li_4000, li_4095, li_4096, li_5665, li_11330, li_12345, li_15625, li_1000000, li_1000003, li_100000000, li_1000000000, ti_lt, ti_eq, inb_iff, ix_eq]
    refine ok_gd (inb_iff.mpr (by omega)) (ok_gd (inb_k (m := 5665 * k) (by rw [t1]; omega) g2 (by omega) (by omega)) ?_)
    rw [ix_k (m := 5665 * k) (by rw [t1]; omega) g2 (by omega), g7]
    refine ih (wI s2 44 0 (5665 * k + j.toInt.toNat) (rI sm 43 0 (ix j)), j + 1) ⟨by simp only [e1]; omega, by simp only [e1]; omega, fun i hi => ?_, fun i hi => ?_, fun i => ?_, fun i => ?_, fun i => ?_, fun i => ?_⟩ (by simp only [e1]; omega)
    · simp only [e1] at hi
      by_cases q : i = j.toInt.toNat
      · subst q; rw [rI_eq rfl]; rfl
      · rw [rI_ne (by omega)]; exact g4 i (by omega)
    · rw [rI_ne (by omega)]; exact g5 i hi
    · rw [rI_ne (by omega)]; exact g6 i
    · rw [rI_ne (by omega)]; exact g7 i
    · rw [rI_ne (by omega)]; exact g8 i
    · rw [rI_ne (by omega)]; exact g9 i
  · rw [ti_lt, li_5665] at c
    have hi : ix a = k := by rw [ix_eq, ha]; omega
    refine ok_gd (inb_iff.mpr (by omega)) ?_
    rw [hi, bindp, nb1, q_m_good]
    refine ok_some ?_
    simp (disch := omega) only [rI_ne, rI_eq]
    refine ⟨trivial, fun i hi => g4 i (by omega), g5, trivial, fun i h1 => ?_, g7, g8, trivial, fun c hc => ?_⟩
    · rw [rI_ne (by omega)]; exact g6 i
    · rw [rI_ne (by omega)]; exact g9 c
theorem ok_m_back {sm : Sg} {a : Int32} {k : Nat} (ha : a.toInt = k) (hk : k < 2) (M : MW (imf sm k)) (h1 : ¬ rI sm 45 0 k = 0) : ok (m_back sm a) (fun q => q.2 = 0 ∧ (∀ i, i < 5665 → rI q.1 43 0 i = imf sm k i) ∧ rI q.1 10 0 36 = rI q.1 43 0 54 ∧ (∀ w : Nat, (w : Int) < (rI q.1 43 0 54).toInt → (rI q.1 57 0 w).toInt = w) ∧ (∀ i, rI q.1 42 0 i = rI sm 42 0 i) ∧ rI q.1 10 0 46 = 0 ∧ rI q.1 10 0 0 = 0 ∧ ∀ c, c ≠ 0 → c ≠ 46 → c ≠ 36 → rI q.1 10 0 c = rI sm 10 0 c) := by
  have hi : ix a = k := by rw [ix_eq, ha]; omega
  unfold m_back m_back_G
  simp only [q_m_lies, Option.bind_some, gdB0, gdB1, gdbI, gifbI, li_0, li_1]
  rw [gif_t (by omega), gd_t (inb_iff.mpr (by omega)), hi, gif_f h1]
  have t1 : (5665 * a).toInt = 5665 * k := by simp (disch := omega) only [Int32.toInt_add, Int32.toInt_sub, Int32.toInt_mul, Int32.toInt_neg, bm32, li_0, li_1, li_2, li_3, li_4, li_5, li_6, li_7, li_8, li_9, li_10, li_11, li_12, li_13, li_14, li_15, li_16, li_17, li_18, li_19, li_20, li_21, li_22, li_23, li_24, li_25, li_26, li_27, li_28, li_29, li_30, li_31, li_32, li_33, li_34, li_35, li_36, li_37, li_38, li_39, li_40, li_41, li_42, li_43, li_44, li_45, li_46, li_47, li_48, li_49, li_50, li_51, li_52, li_53, li_54, li_55, li_56, li_57, li_58, li_59, li_60, li_61, li_62, li_63, li_64, li_65, li_66, li_67, li_68, li_69, li_70, li_71, li_72, li_73, li_74, li_75, li_76, li_77, li_78, li_91, li_93, li_96, li_97, li_99, li_100, li_122, li_138, li_255, li_256, li_400, li_401, li_625, li_800, li_999, li_1000, li_1001, li_1103, li_2000, li_2037, li_2038, li_2039, li_2040, li_2041, li_2042, li_2043, li_2044, li_2045, li_2046, li_2047, li_2048, li_2049, li_2050, li_2051, li_2052, li_2053, li_2054, li_2055, li_2056, li_2057, li_2058, li_2059, li_2060, li_2061, li_2062, li_2091, li_2093, li_2400, li_2865, li_3000, li_3002, li_3003, li_3005, li_3006, li_3007, li_3008, li_3009, li_3010, li_3011, li_3012, li_3013, li_3020, li_3024, li_3025, li_3026, li_3999, li_4000, li_4095, li_4096, li_5665, li_11330, li_12345, li_15625, li_1000000, li_1000003, li_100000000, li_1000000000, ti_lt, ti_eq, inb_iff, ix_eq, ha]
  refine ok_loop (K := fun n (p : Sg × Int32) => m_back_b33 n p.1 a p.2) (I := fun p => 0 ≤ p.2.toInt ∧ p.2.toInt ≤ 5665 ∧ (∀ i : Nat, (i : Int) < p.2.toInt → rI p.1 43 0 i = imf sm k i) ∧ (∀ i, rI p.1 44 0 i = rI sm 44 0 i) ∧ (∀ i, rI p.1 42 0 i = rI sm 42 0 i) ∧ ∀ c, rI p.1 10 0 c = rI sm 10 0 c)
    (μ := fun p => 5665 - p.2.toInt.toNat) ?_ FU (sm, 0) ⟨by simp only [li_0]; omega, by simp only [li_0]; omega, fun i hi => by simp only [li_0] at hi; omega, fun i => rfl, fun i => rfl, fun i => rfl⟩ (by show _ < 20000; omega)
  rintro n ⟨s2, j⟩ ⟨g2, g3, g4, g5, g6, g7⟩ ih
  simp only at g2 g3 g4 g5 g6 g7 ih
  show ok (m_back_b33_G _ _ _ s2 a j) _
  unfold m_back_b33_G
  refine ok_gif (fun c => ?_) (fun c => ?_)
  · rw [ti_lt, li_5665] at c
    have e1 : (j + 1).toInt = j.toInt + 1 := by simp (disch := omega) only [Int32.toInt_add, Int32.toInt_sub, Int32.toInt_mul, Int32.toInt_neg, bm32, li_0, li_1, li_2, li_3, li_4, li_5, li_6, li_7, li_8, li_9, li_10, li_11, li_12, li_13, li_14, li_15, li_16, li_17, li_18, li_19, li_20, li_21, li_22, li_23, li_24, li_25, li_26, li_27, li_28, li_29, li_30, li_31, li_32, li_33, li_34, li_35, li_36, li_37, li_38, li_39, li_40, li_41, li_42, li_43, li_44, li_45, li_46, li_47, li_48, li_49, li_50, li_51, li_52, li_53, li_54, li_55, li_56, li_57, li_58, li_59, li_60, li_61, li_62, li_63, li_64, li_65, li_66, li_67, li_68, li_69, li_70, li_71, li_72, li_73, li_74, li_75, li_76, li_77, li_78, li_91, li_93, li_96, li_97, li_99, li_100, li_122, li_138, li_255, li_256, li_400, li_401, li_625, li_800, li_999, li_1000, li_1001, li_1103, li_2000, li_2037, li_2038, li_2039, li_2040, li_2041, li_2042, li_2043, li_2044, li_2045, li_2046, li_2047, li_2048, li_2049, li_2050, li_2051, li_2052, li_2053, li_2054, li_2055, li_2056, li_2057, li_2058, li_2059, li_2060, li_2061, li_2062, li_2091, li_2093, li_2400, li_2865, li_3000, li_3002, li_3003, li_3005, li_3006, li_3007, li_3008, li_3009, li_3010, li_3011, li_3012, li_3013, li_3020, li_3024, li_3025, li_3026, li_3999, li_4000, li_4095, li_4096, li_5665, li_11330, li_12345, li_15625, li_1000000, li_1000003, li_100000000, li_1000000000, ti_lt, ti_eq, inb_iff, ix_eq]
    refine ok_gd (inb_k (m := 5665 * k) (by rw [t1]; omega) g2 (by omega) (by omega)) (ok_gd (inb_iff.mpr (by omega)) ?_)
    rw [ix_k (m := 5665 * k) (by rw [t1]; omega) g2 (by omega), g5]
    refine ih (wI s2 43 0 (ix j) (rI sm 44 0 (5665 * k + j.toInt.toNat)), j + 1) ⟨by simp only [e1]; omega, by simp only [e1]; omega, fun i hi => ?_, fun i => ?_, fun i => ?_, fun i => ?_⟩ (by simp only [e1]; omega)
    · simp only [e1] at hi
      by_cases q : i = j.toInt.toNat
      · subst q; rw [rI_eq (show j.toInt.toNat = ix j from rfl)]; rfl
      · rw [rI_ne (by rw [ix_eq]; omega)]; exact g4 i (by omega)
    · rw [rI_ne (by omega)]; exact g5 i
    · rw [rI_ne (by omega)]; exact g6 i
    · rw [rI_ne (by omega)]; exact g7 i
  · rw [ti_lt, li_5665] at c
    have e54 : rI s2 43 0 54 = imf sm k 54 := g4 54 (by omega)
    obtain ⟨m, hm⟩ : ∃ m : Nat, (rI s2 43 0 54).toInt = m := ⟨_, (Int.toNat_of_nonneg (by rw [e54]; exact M.1.1)).symm⟩
    refine ok_bind (ok_fr (ok_laysAllWords hm (by have := M.1.2; rw [← e54] at this; omega)) (fr_m_laysAllWords _) (fun s3 p F => ?_))
    rw [bindp, q_m_settled]
    refine ok_some ?_
    have f43 : ∀ i, rI s3 43 0 i = rI s2 43 0 i := fun i => F.i _ _ _ (nh rfl)
    have f42 : ∀ i, rI s3 42 0 i = rI s2 42 0 i := fun i => F.i _ _ _ (nh rfl)
    simp (disch := omega) only [rI_ne, rI_eq, f43, f42]
    refine ⟨trivial, fun i hi => g4 i (by omega), p.1, fun w hw => p.2 w (by omega), g6, trivial, trivial, fun c h1 h2 h3 => ?_⟩
    rw [rI_ne (by omega), rI_ne (by omega), F.i 10 0 c (by
      intro x; simp [hit] at x; omega)]
    exact g7 c
theorem image_0 {sx sm : Sg} (h : Inv sx sm) : Call sx sm (x9_image sx 0) (m_image sm 0) := by
  obtain ⟨⟨sm', r⟩, hm, p0, p1, p2, p3, p4, p5, p42, p6, p7⟩ := ok_m_image (sm := sm) (a := 0) (k := 0) rfl (by omega)
  simp only at p0 p1 p2 p3 p4 p5 p42 p6 p7
  have G := fr_m_image _ _ _ hm
  obtain ⟨s2, hx, q⟩ := ok_copyFrom (s := sx) (g0 := 3) (g1 := 0) (by omega)
  have F0 := fr_x1_copyFrom _ _ _ _ hx
  have ex : x9_image sx 0 = some (wI (wI s2 38 0 0 1) 9 0 16 0, 0) := by
    unfold x9_image x9_image_G
    rw [gif_f (by decide), gif_t (by decide), gd_t (by rw [inb_iff]; decide), show 3 + ix 0 = 3 from rfl, hx]
    simp only [Option.bind_some]
    rw [gd_t (by rw [inb_iff]; decide), bindp, nb1]; rfl
  have F : Fr ((9, 1, 17) :: (38, 1, 0) :: FP_x1_copyFrom 3) sx (wI (wI s2 38 0 0 1) 9 0 16 0) := fr_wI (fr_wI (F0.mono (fun k i c h => .inr (.inr h))) (hit_ie (.tail _ (.head _)))) (.inl ⟨rfl, .inr rfl, .inr rfl⟩)
  have F1 : Fr [(9, 1, 17), (38, 1, 0)] s2 (wI (wI s2 38 0 0 1) 9 0 16 0) := fr_wI (fr_wI fr_rfl (hit_ie (.tail _ (.head _)))) (.inl ⟨rfl, .inr rfl, .inr rfl⟩)
  refine ⟨_, sm', 0, ex, by rw [hm, p0], ⟨?_, ⟨?_, ?_, ?_⟩, ?_, ?_, InvE_fr F G rfl rfl rfl h.2.2.2.2.1, InvF_fr F G rfl (.inl rfl) (.inl ⟨rfl, rfl⟩) (.inl rfl) rfl h.2.2.2.2.2⟩, by rw [F.n _ _ _ (nh rfl)]; omega⟩
  · obtain ⟨a1, a2, a3, a4⟩ := h.1
    have b9 : ∀ c, c ≠ 16 → rI (wI (wI s2 38 0 0 1) 9 0 16 0) 9 0 c = rI sx 9 0 c := fun c hc => by rw [rI_ne (by omega), rI_ne (by omega), F0.i 9 0 c (nh rfl)]
    have b39 : ∀ c, rI (wI (wI s2 38 0 0 1) 9 0 16 0) 39 0 c = rI sx 39 0 c := fun c => F.i 39 0 c (nh rfl)
    have b41 : ∀ c, rI (wI (wI s2 38 0 0 1) 9 0 16 0) 41 0 c = rI sx 41 0 c := fun c => F.i 41 0 c (nh rfl)
    have b6 : rI (wI (wI s2 38 0 0 1) 9 0 16 0) 6 0 6 = rI sx 6 0 6 := F.i 6 0 6 (nh rfl)
    have c48 : ∀ c, rI sm' 48 0 c = rI sm 48 0 c := fun c => G.i 48 0 c (nh rfl)
    unfold InvA
    simp only [b39, b41, b6, c48, p42, p6, rI_eq]
    rw [b9 13 (by omega), b9 14 (by omega), b9 15 (by omega), p7 13 (by omega), p7 6 (by omega), p7 58 (by omega), p7 14 (by omega)]
    exact ⟨a1, a2, ⟨a3.1, a3.2.1, trivial, a3.2.2.2⟩, a4⟩
  · exact GA_fr F rfl rfl rfl (fun i _ => p5 i) h.2.1.1
  · rw [p5, p7 36 (by omega)]; exact h.2.1.2.1
  · intro w hw; rw [p5] at hw; rw [G.i 57 0 w (nh rfl)]; exact h.2.1.2.2 w hw
  · exact LogR_c h.log12 (F.i _ _ _ (nh rfl)) (fun c => F.i _ _ _ (nh rfl)) (fun c => F.i _ _ _ (nh rfl)) (fun c => F.i _ _ _ (nh rfl)) (p7 46 (by omega)) (fun c => G.i _ _ _ (nh rfl)) (fun c _ => p5 c) h.2.2.1
  · intro k hk
    rcases (by omega : k = 0 ∨ k = 1) with rfl | rfl
    · rw [p3]
      refine ⟨by simp (disch := omega) only [rI_ne, rI_eq], isB1, fun _ => ?_⟩
      have A : GA s2 3 (sm.1 43 0) := GA_copy h.2.1.1 q (F0.n _ _ _ (nh rfl)) (fun t k c ht hk => F0.i _ _ _ (clrT_no rfl hk ht)) (fun t ht => F0.n _ _ _ (clrT_no rfl rfl ht))
      exact GA_fr F1 rfl rfl rfl (fun i hi => p1 i (by omega)) A
    · have e1 : rI (wI (wI s2 38 0 0 1) 9 0 16 0) 38 0 1 = rI sx 38 0 1 := by rw [rI_ne (by omega), rI_ne (by omega), F0.i 38 0 1 (nh rfl)]
      rw [e1, p4 1 (by omega)]
      obtain ⟨h1, h2, h3⟩ := h.2.2.2.1 1 (by omega)
      exact ⟨h1, h2, fun g => GA_f (fun i hi => p2 _ (by omega)) (GA_fr F rfl rfl rfl (fun i _ => rfl) (h3 g))⟩
theorem back_0 {sx sm : Sg} (h : Inv sx sm) : Call sx sm (x9_back sx 0) (m_back sm 0) := by
  obtain ⟨h1, h2, h3⟩ := h.2.2.2.1 0 (by omega)
  by_cases c : rI sm 45 0 0 = 0
  · have ex : x9_back sx 0 = x9_refuse sx (-2) := by
      unfold x9_back x9_back_G
      rw [gif_f (by decide), gif_t (by decide), gd_t (by rw [inb_iff]; decide), show ix 0 = 0 from rfl, h1, gif_t c, bindp]
    have em : m_back sm 0 = m_refuses sm (-2) := by
      unfold m_back m_back_G
      simp only [q_m_lies, Option.bind_some, gdB0, gdB1, gdbI, gifbI, li_0, li_1]
      rw [gif_t (by omega), gd_t (by rw [inb_iff]; decide), show ix 0 = 0 from rfl, gif_t c, bindp]
    rw [ex, em]; exact refuse_both h (.inr (.inl rfl))
  · have A := h3 c
    obtain ⟨⟨sm', r⟩, hm, p0, p1, p2, p3, p42, p46, p6, p7⟩ := ok_m_back (sm := sm) (a := 0) (k := 0) rfl (by omega) A.1 c
    simp only at p0 p1 p2 p3 p42 p46 p6 p7
    have G := fr_m_back _ _ _ hm
    obtain ⟨s2, hx, q⟩ := ok_copyFrom (s := sx) (g0 := 0) (g1 := 3) (by omega)
    have F0 := fr_x1_copyFrom _ _ _ _ hx
    have ex : x9_back sx 0 = some (wI (wI s2 3 0 3 0) 9 0 16 0, 0) := by
      unfold x9_back x9_back_G
      rw [gif_f (by decide), gif_t (by decide), gd_t (by rw [inb_iff]; decide), show ix 0 = 0 from rfl, h1, gif_f c, gd_t (by rw [inb_iff]; decide), show 3 + 0 = 3 from rfl, hx]
      simp only [Option.bind_some]
      rw [bindp]; rfl
    have F : Fr ((9, 1, 17) :: (3, 1, 4) :: FP_x1_copyFrom 0) sx (wI (wI s2 3 0 3 0) 9 0 16 0) := fr_wI (fr_wI (F0.mono (fun k i c h => .inr (.inr h))) (hit_is (.tail _ (.head _)))) (.inl ⟨rfl, .inr rfl, .inr rfl⟩)
    have F1 : Fr [(9, 1, 17), (3, 1, 4)] s2 (wI (wI s2 3 0 3 0) 9 0 16 0) := fr_wI (fr_wI fr_rfl (hit_is (.tail _ (.head _)))) (.inl ⟨rfl, .inr rfl, .inr rfl⟩)
    refine ⟨_, sm', 0, ex, by rw [hm, p0], ⟨?_, ⟨?_, p2, p3⟩, LogR_0 (by rw [rI_ne (by omega), rI_eq rfl]) p46, InvC_fr F G rfl rfl rfl rfl rfl rfl h.2.2.2.1, InvE_fr F G rfl rfl rfl h.2.2.2.2.1, InvF_fr F G rfl (.inl rfl) (.inl ⟨rfl, rfl⟩) (.inl rfl) rfl h.2.2.2.2.2⟩, by rw [F.n _ _ _ (nh rfl)]; omega⟩
    · obtain ⟨a1, a2, a3, a4⟩ := h.1
      have b9 : ∀ c, c ≠ 16 → rI (wI (wI s2 3 0 3 0) 9 0 16 0) 9 0 c = rI sx 9 0 c := fun c hc => by rw [rI_ne (by omega), rI_ne (by omega), F0.i 9 0 c (nh rfl)]
      have b39 : ∀ c, rI (wI (wI s2 3 0 3 0) 9 0 16 0) 39 0 c = rI sx 39 0 c := fun c => F.i 39 0 c (nh rfl)
      have b41 : ∀ c, rI (wI (wI s2 3 0 3 0) 9 0 16 0) 41 0 c = rI sx 41 0 c := fun c => F.i 41 0 c (nh rfl)
      have b6 : rI (wI (wI s2 3 0 3 0) 9 0 16 0) 6 0 6 = rI sx 6 0 6 := F.i 6 0 6 (nh rfl)
      have c48 : ∀ c, rI sm' 48 0 c = rI sm 48 0 c := fun c => G.i 48 0 c (nh rfl)
      unfold InvA
      simp only [b39, b41, b6, c48, p42, p6, rI_eq]
      rw [b9 13 (by omega), b9 14 (by omega), b9 15 (by omega), p7 13 (by omega) (by omega) (by omega), p7 6 (by omega) (by omega) (by omega), p7 58 (by omega) (by omega) (by omega), p7 14 (by omega) (by omega) (by omega)]
      exact ⟨a1, a2, ⟨a3.1, a3.2.1, trivial, a3.2.2.2⟩, a4⟩
    · have B : GA s2 0 (imf sm 0) := GA_copy A q (F0.n _ _ _ (nh rfl)) (fun t k c ht hk => F0.i _ _ _ (clrT_no rfl hk ht)) (fun t ht => F0.n _ _ _ (clrT_no rfl rfl ht))
      exact GA_fr F1 rfl rfl rfl (fun i hi => p1 i (by omega)) B
theorem image_1 {sx sm : Sg} (h : Inv sx sm) : Call sx sm (x9_image sx 1) (m_image sm 1) := by
  obtain ⟨⟨sm', r⟩, hm, p0, p1, p2, p3, p4, p5, p42, p6, p7⟩ := ok_m_image (sm := sm) (a := 1) (k := 1) rfl (by omega)
  simp only at p0 p1 p2 p3 p4 p5 p42 p6 p7
  have G := fr_m_image _ _ _ hm
  obtain ⟨s2, hx, q⟩ := ok_copyFrom (s := sx) (g0 := 4) (g1 := 0) (by omega)
  have F0 := fr_x1_copyFrom _ _ _ _ hx
  have ex : x9_image sx 1 = some (wI (wI s2 38 0 1 1) 9 0 16 0, 0) := by
    unfold x9_image x9_image_G
    rw [gif_f (by decide), gif_t (by decide), gd_t (by rw [inb_iff]; decide), show 3 + ix 1 = 4 from rfl, hx]
    simp only [Option.bind_some]
    rw [gd_t (by rw [inb_iff]; decide), bindp, nb1]; rfl
  have F : Fr ((9, 1, 17) :: (38, 1, 0) :: FP_x1_copyFrom 4) sx (wI (wI s2 38 0 1 1) 9 0 16 0) := fr_wI (fr_wI (F0.mono (fun k i c h => .inr (.inr h))) (hit_ie (.tail _ (.head _)))) (.inl ⟨rfl, .inr rfl, .inr rfl⟩)
  have F1 : Fr [(9, 1, 17), (38, 1, 0)] s2 (wI (wI s2 38 0 1 1) 9 0 16 0) := fr_wI (fr_wI fr_rfl (hit_ie (.tail _ (.head _)))) (.inl ⟨rfl, .inr rfl, .inr rfl⟩)
  refine ⟨_, sm', 0, ex, by rw [hm, p0], ⟨?_, ⟨?_, ?_, ?_⟩, ?_, ?_, InvE_fr F G rfl rfl rfl h.2.2.2.2.1, InvF_fr F G rfl (.inl rfl) (.inl ⟨rfl, rfl⟩) (.inl rfl) rfl h.2.2.2.2.2⟩, by rw [F.n _ _ _ (nh rfl)]; omega⟩
  · obtain ⟨a1, a2, a3, a4⟩ := h.1
    have b9 : ∀ c, c ≠ 16 → rI (wI (wI s2 38 0 1 1) 9 0 16 0) 9 0 c = rI sx 9 0 c := fun c hc => by rw [rI_ne (by omega), rI_ne (by omega), F0.i 9 0 c (nh rfl)]
    have b39 : ∀ c, rI (wI (wI s2 38 0 1 1) 9 0 16 0) 39 0 c = rI sx 39 0 c := fun c => F.i 39 0 c (nh rfl)
    have b41 : ∀ c, rI (wI (wI s2 38 0 1 1) 9 0 16 0) 41 0 c = rI sx 41 0 c := fun c => F.i 41 0 c (nh rfl)
    have b6 : rI (wI (wI s2 38 0 1 1) 9 0 16 0) 6 0 6 = rI sx 6 0 6 := F.i 6 0 6 (nh rfl)
    have c48 : ∀ c, rI sm' 48 0 c = rI sm 48 0 c := fun c => G.i 48 0 c (nh rfl)
    unfold InvA
    simp only [b39, b41, b6, c48, p42, p6, rI_eq]
    rw [b9 13 (by omega), b9 14 (by omega), b9 15 (by omega), p7 13 (by omega), p7 6 (by omega), p7 58 (by omega), p7 14 (by omega)]
    exact ⟨a1, a2, ⟨a3.1, a3.2.1, trivial, a3.2.2.2⟩, a4⟩
  · exact GA_fr F rfl rfl rfl (fun i _ => p5 i) h.2.1.1
  · rw [p5, p7 36 (by omega)]; exact h.2.1.2.1
  · intro w hw; rw [p5] at hw; rw [G.i 57 0 w (nh rfl)]; exact h.2.1.2.2 w hw
  · exact LogR_c h.log12 (F.i _ _ _ (nh rfl)) (fun c => F.i _ _ _ (nh rfl)) (fun c => F.i _ _ _ (nh rfl)) (fun c => F.i _ _ _ (nh rfl)) (p7 46 (by omega)) (fun c => G.i _ _ _ (nh rfl)) (fun c _ => p5 c) h.2.2.1
  · intro k hk
    rcases (by omega : k = 1 ∨ k = 0) with rfl | rfl
    · rw [p3]
      refine ⟨by simp (disch := omega) only [rI_ne, rI_eq], isB1, fun _ => ?_⟩
      have A : GA s2 4 (sm.1 43 0) := GA_copy h.2.1.1 q (F0.n _ _ _ (nh rfl)) (fun t k c ht hk => F0.i _ _ _ (clrT_no rfl hk ht)) (fun t ht => F0.n _ _ _ (clrT_no rfl rfl ht))
      exact GA_fr F1 rfl rfl rfl (fun i hi => p1 i (by omega)) A
    · have e1 : rI (wI (wI s2 38 0 1 1) 9 0 16 0) 38 0 0 = rI sx 38 0 0 := by rw [rI_ne (by omega), rI_ne (by omega), F0.i 38 0 0 (nh rfl)]
      rw [e1, p4 0 (by omega)]
      obtain ⟨h1, h2, h3⟩ := h.2.2.2.1 0 (by omega)
      exact ⟨h1, h2, fun g => GA_f (fun i hi => p2 _ (by omega)) (GA_fr F rfl rfl rfl (fun i _ => rfl) (h3 g))⟩
theorem back_1 {sx sm : Sg} (h : Inv sx sm) : Call sx sm (x9_back sx 1) (m_back sm 1) := by
  obtain ⟨h1, h2, h3⟩ := h.2.2.2.1 1 (by omega)
  by_cases c : rI sm 45 0 1 = 0
  · have ex : x9_back sx 1 = x9_refuse sx (-2) := by
      unfold x9_back x9_back_G
      rw [gif_f (by decide), gif_t (by decide), gd_t (by rw [inb_iff]; decide), show ix 1 = 1 from rfl, h1, gif_t c, bindp]
    have em : m_back sm 1 = m_refuses sm (-2) := by
      unfold m_back m_back_G
      simp only [q_m_lies, Option.bind_some, gdB0, gdB1, gdbI, gifbI, li_0, li_1]
      rw [gif_t (by omega), gd_t (by rw [inb_iff]; decide), show ix 1 = 1 from rfl, gif_t c, bindp]
    rw [ex, em]; exact refuse_both h (.inr (.inl rfl))
  · have A := h3 c
    obtain ⟨⟨sm', r⟩, hm, p0, p1, p2, p3, p42, p46, p6, p7⟩ := ok_m_back (sm := sm) (a := 1) (k := 1) rfl (by omega) A.1 c
    simp only at p0 p1 p2 p3 p42 p46 p6 p7
    have G := fr_m_back _ _ _ hm
    obtain ⟨s2, hx, q⟩ := ok_copyFrom (s := sx) (g0 := 0) (g1 := 4) (by omega)
    have F0 := fr_x1_copyFrom _ _ _ _ hx
    have ex : x9_back sx 1 = some (wI (wI s2 3 0 3 0) 9 0 16 0, 0) := by
      unfold x9_back x9_back_G
      rw [gif_f (by decide), gif_t (by decide), gd_t (by rw [inb_iff]; decide), show ix 1 = 1 from rfl, h1, gif_f c, gd_t (by rw [inb_iff]; decide), show 3 + 1 = 4 from rfl, hx]
      simp only [Option.bind_some]
      rw [bindp]; rfl
    have F : Fr ((9, 1, 17) :: (3, 1, 4) :: FP_x1_copyFrom 0) sx (wI (wI s2 3 0 3 0) 9 0 16 0) := fr_wI (fr_wI (F0.mono (fun k i c h => .inr (.inr h))) (hit_is (.tail _ (.head _)))) (.inl ⟨rfl, .inr rfl, .inr rfl⟩)
    have F1 : Fr [(9, 1, 17), (3, 1, 4)] s2 (wI (wI s2 3 0 3 0) 9 0 16 0) := fr_wI (fr_wI fr_rfl (hit_is (.tail _ (.head _)))) (.inl ⟨rfl, .inr rfl, .inr rfl⟩)
    refine ⟨_, sm', 0, ex, by rw [hm, p0], ⟨?_, ⟨?_, p2, p3⟩, LogR_0 (by rw [rI_ne (by omega), rI_eq rfl]) p46, InvC_fr F G rfl rfl rfl rfl rfl rfl h.2.2.2.1, InvE_fr F G rfl rfl rfl h.2.2.2.2.1, InvF_fr F G rfl (.inl rfl) (.inl ⟨rfl, rfl⟩) (.inl rfl) rfl h.2.2.2.2.2⟩, by rw [F.n _ _ _ (nh rfl)]; omega⟩
    · obtain ⟨a1, a2, a3, a4⟩ := h.1
      have b9 : ∀ c, c ≠ 16 → rI (wI (wI s2 3 0 3 0) 9 0 16 0) 9 0 c = rI sx 9 0 c := fun c hc => by rw [rI_ne (by omega), rI_ne (by omega), F0.i 9 0 c (nh rfl)]
      have b39 : ∀ c, rI (wI (wI s2 3 0 3 0) 9 0 16 0) 39 0 c = rI sx 39 0 c := fun c => F.i 39 0 c (nh rfl)
      have b41 : ∀ c, rI (wI (wI s2 3 0 3 0) 9 0 16 0) 41 0 c = rI sx 41 0 c := fun c => F.i 41 0 c (nh rfl)
      have b6 : rI (wI (wI s2 3 0 3 0) 9 0 16 0) 6 0 6 = rI sx 6 0 6 := F.i 6 0 6 (nh rfl)
      have c48 : ∀ c, rI sm' 48 0 c = rI sm 48 0 c := fun c => G.i 48 0 c (nh rfl)
      unfold InvA
      simp only [b39, b41, b6, c48, p42, p6, rI_eq]
      rw [b9 13 (by omega), b9 14 (by omega), b9 15 (by omega), p7 13 (by omega) (by omega) (by omega), p7 6 (by omega) (by omega) (by omega), p7 58 (by omega) (by omega) (by omega), p7 14 (by omega) (by omega) (by omega)]
      exact ⟨a1, a2, ⟨a3.1, a3.2.1, trivial, a3.2.2.2⟩, a4⟩
    · have B : GA s2 0 (imf sm 1) := GA_copy A q (F0.n _ _ _ (nh rfl)) (fun t k c ht hk => F0.i _ _ _ (clrT_no rfl hk ht)) (fun t ht => F0.n _ _ _ (clrT_no rfl rfl ht))
      exact GA_fr F1 rfl rfl rfl (fun i hi => p1 i (by omega)) B
theorem c_image {sx sm : Sg} (h : Inv sx sm) (a : Int32) : Call sx sm (x9_image sx a) (m_image sm a) := by
  by_cases c : 0 ≤ a.toInt ∧ a.toInt ≤ 1
  · rcases (by simp only [ti_eq, li_0, li_1]; omega : a = 0 ∨ a = 1) with rfl | rfl
    · exact image_0 h
    · exact image_1 h
  · have em : m_image sm a = m_refuses sm (-1) := by
      unfold m_image m_image_G
      simp only [q_m_lies, Option.bind_some, gdB0, gdB1, gdbI, gifbI, li_0, li_1]
      rw [gif_f c, bindp]
    have ex : x9_image sx a = x9_refuse sx (-1) := by
      unfold x9_image x9_image_G
      rw [bindp, ti_lt, ti_lt, li_0, li_2]
      refine gif_eq (fun _ => rfl) (fun d => gif_eq (fun e => absurd ⟨by omega, by omega⟩ c) (fun _ => rfl))
    rw [ex, em]; exact refuse_both h (.inl rfl)
theorem c_back {sx sm : Sg} (h : Inv sx sm) (a : Int32) : Call sx sm (x9_back sx a) (m_back sm a) := by
  by_cases c : 0 ≤ a.toInt ∧ a.toInt ≤ 1
  · rcases (by simp only [ti_eq, li_0, li_1]; omega : a = 0 ∨ a = 1) with rfl | rfl
    · exact back_0 h
    · exact back_1 h
  · have em : m_back sm a = m_refuses sm (-1) := by
      unfold m_back m_back_G
      simp only [q_m_lies, Option.bind_some, gdB0, gdB1, gdbI, gifbI, li_0, li_1]
      rw [gif_f c, bindp]
    have ex : x9_back sx a = x9_refuse sx (-1) := by
      unfold x9_back x9_back_G
      rw [bindp, ti_lt, ti_lt, li_0, li_2]
      refine gif_eq (fun _ => rfl) (fun d => gif_eq (fun e => absurd ⟨by omega, by omega⟩ c) (fun _ => rfl))
    rw [ex, em]; exact refuse_both h (.inl rfl)
/-! drawn -/
theorem c_drawn {sx sm : Sg} (h : Inv sx sm) (a b : Int32) : Call sx sm (x9_drawn sx a b) (m_drawn sm a b) := by
  have key : ∀ n : Int, (rI sx 1 2 7).toInt ≤ 12 → 0 ≤ (rI sx 1 2 7).toInt → (0 ≤ a.toInt ∧ a.toInt ≤ (rI sm 10 0 66 - 1).toInt ↔ 0 ≤ a.toInt ∧ a.toInt < (rI sx 1 2 7).toInt) → ((0 ≤ a.toInt ∧ a.toInt < (rI sx 1 2 7).toInt) → rI sx 1 2 7 = rI sm 10 0 66 ∧ rI sx 1 2 8 = rI sm 73 0 0 ∧ rI sx 1 2 9 = rI sm 73 0 1 ∧ rI sx 12 2 a.toInt.toNat = rI sm 73 0 (2 + a.toInt.toNat)) → Call sx sm (x9_drawn sx a b) (m_drawn sm a b) := by
    intro _ n12 n0 e0 e1
    unfold x9_drawn x9_drawn_G m_drawn m_drawn_G
    simp only [q_x1_has n12, q_m_lies, Option.bind_some, gdB0, gdB1, gdbI, gifbI, li_0, e0]
    refine Call.gif (fun c => ?_) (fun c => call_id h rfl rfl)
    obtain ⟨e7, e8, e9, e12⟩ := e1 c
    refine Call.gif (fun _ => ?_) (fun _ => Call.gif (fun _ => ?_) (fun _ => Call.gif (fun _ => ?_) (fun _ => call_id h rfl rfl)))
    · rw [gd_t (inb_iff.mpr (by omega)), gd_t (inb_k (m := 2) rfl c.1 (by omega) (by omega)), ix_k (m := 2) rfl c.1 (by omega)]
      exact call_id h rfl (by rw [show rI sx 12 2 (ix a) = rI sm 73 0 (2 + a.toInt.toNat) from e12])
    · rw [q_x1_endsAfter n0 n12, e7, e8]
      rw [e7] at c n12 n0
      simp only [Option.bind_some, gdB0, gdB1, gdbI, gifbI, gd_t (show inb 0 15 by rw [inb_iff]; decide), show ix 0 = 0 from rfl, q_m_isIn c.1 (show a.toInt < 32 by omega)]
      have e : (a = rI sm 10 0 66 - 1) = (a.toInt = (rI sm 10 0 66).toInt - 1) := propext (by simp (disch := omega) only [Int32.toInt_add, Int32.toInt_sub, Int32.toInt_mul, Int32.toInt_neg, bm32, li_0, li_1, li_2, li_3, li_4, li_5, li_6, li_7, li_8, li_9, li_10, li_11, li_12, li_13, li_14, li_15, li_16, li_17, li_18, li_19, li_20, li_21, li_22, li_23, li_24, li_25, li_26, li_27, li_28, li_29, li_30, li_31, li_32, li_33, li_34, li_35, li_36, li_37, li_38, li_39, li_40, li_41, li_42, li_43, li_44, li_45, li_46, li_47, li_48, li_49, li_50, li_51, li_52, li_53, li_54, li_55, li_56, li_57, li_58, li_59, li_60, li_61, li_62, li_63, li_64, li_65, li_66, li_67, li_68, li_69, li_70, li_71, li_72, li_73, li_74, li_75, li_76, li_77, li_78, li_91, li_93, li_96, li_97, li_99, li_100, li_122, li_138, li_255, li_256, li_400, li_401, li_625, li_800, li_999, li_1000, li_1001, li_1103, li_2000, li_2037, li_2038, li_2039, li_2040, li_2041, li_2042, li_2043, li_2044, li_2045, li_2046, li_2047, li_2048, li_2049, li_2050, li_2051, li_2052, li_2053, li_2054, li_2055, li_2056, li_2057, li_2058, li_2059, li_2060, li_2061, li_2062, li_2091, li_2093, li_2400, li_2865, li_3000, li_3002, li_3003, li_3005, li_3006, li_3007, li_3008, li_3009, li_3010, li_3011, li_3012, li_3013, li_3020, li_3024, li_3025, li_3026, li_3999, li_4000, li_4095, li_4096, li_5665, li_11330, li_12345, li_15625, li_1000000, li_1000003, li_100000000, li_1000000000, ti_lt, ti_eq, inb_iff, ix_eq])
      rw [e]
      by_cases d : a.toInt = (rI sm 10 0 66).toInt - 1
      · rw [gif_t ⟨c, .inl d⟩, gif_t d]; exact call_id h rfl rfl
      · rw [gif_f d]
        by_cases d2 : bt (rI sm 73 0 0) a.toInt.toNat = true
        · rw [gif_t ⟨c, .inr d2⟩, gif_t d2]; exact call_id h rfl rfl
        · rw [gif_f (fun x => x.2.elim d d2), gif_f d2]; exact call_id h rfl rfl
    · rw [q_x1_isSplit n12, e7, e9]
      rw [e7] at c n12 n0
      simp only [Option.bind_some, gdB0, gdB1, gdbI, gifbI, gd_t (show inb 1 15 by rw [inb_iff]; decide), show ix 1 = 1 from rfl, q_m_isIn c.1 (show a.toInt < 32 by omega)]
      by_cases d2 : bt (rI sm 73 0 1) a.toInt.toNat = true
      · rw [gif_t ⟨c, d2⟩, gif_t d2]; exact call_id h rfl rfl
      · rw [gif_f (fun x => d2 x.2), gif_f d2]; exact call_id h rfl rfl
  rcases h.2.2.2.2.1 with ⟨h1, h2⟩ | ⟨h1, h2, h3, h4, h5, h6⟩
  · have t : (rI sm 10 0 66 - 1).toInt = -2 := by rw [ti_sub (by rw [h1, li_1]; omega) (by rw [h1, li_1]; omega), h1, li_1]; rfl
    exact key 0 (by omega) (by omega) (by rw [t, h2]; omega) (fun c => by omega)
  · have t : (rI sm 10 0 66 - 1).toInt = (rI sm 10 0 66).toInt - 1 := by simp (disch := omega) only [Int32.toInt_add, Int32.toInt_sub, Int32.toInt_mul, Int32.toInt_neg, bm32, li_0, li_1, li_2, li_3, li_4, li_5, li_6, li_7, li_8, li_9, li_10, li_11, li_12, li_13, li_14, li_15, li_16, li_17, li_18, li_19, li_20, li_21, li_22, li_23, li_24, li_25, li_26, li_27, li_28, li_29, li_30, li_31, li_32, li_33, li_34, li_35, li_36, li_37, li_38, li_39, li_40, li_41, li_42, li_43, li_44, li_45, li_46, li_47, li_48, li_49, li_50, li_51, li_52, li_53, li_54, li_55, li_56, li_57, li_58, li_59, li_60, li_61, li_62, li_63, li_64, li_65, li_66, li_67, li_68, li_69, li_70, li_71, li_72, li_73, li_74, li_75, li_76, li_77, li_78, li_91, li_93, li_96, li_97, li_99, li_100, li_122, li_138, li_255, li_256, li_400, li_401, li_625, li_800, li_999, li_1000, li_1001, li_1103, li_2000, li_2037, li_2038, li_2039, li_2040, li_2041, li_2042, li_2043, li_2044, li_2045, li_2046, li_2047, li_2048, li_2049, li_2050, li_2051, li_2052, li_2053, li_2054, li_2055, li_2056, li_2057, li_2058, li_2059, li_2060, li_2061, li_2062, li_2091, li_2093, li_2400, li_2865, li_3000, li_3002, li_3003, li_3005, li_3006, li_3007, li_3008, li_3009, li_3010, li_3011, li_3012, li_3013, li_3020, li_3024, li_3025, li_3026, li_3999, li_4000, li_4095, li_4096, li_5665, li_11330, li_12345, li_15625, li_1000000, li_1000003, li_100000000, li_1000000000, ti_lt, ti_eq, inb_iff, ix_eq]
    exact key 0 (by rw [h1]; omega) (by rw [h1]; omega) (by rw [t, h1]; omega) (fun c => ⟨h1, h4, h5, h6 _ (by rw [h1] at c; omega)⟩)
/-! few -/
def EqR {α : Type} (x m : Option (Sg × α)) : Prop := ∃ sx' sm' r, x = some (sx', r) ∧ m = some (sm', r)
def FewR (sx sm : Sg) (k : Nat) (sl : Int32) (j : Nat) : Prop :=
  rI sm 43 0 51 = sl ∧ (∀ i, i < j → rL sx 40 0 i = rL sm 71 0 i) ∧ (1 ≤ j → j < k → rL sx 40 0 j = rL sm 71 0 j + rL sm 71 0 (j - 1) * Int32.toInt64 sl / 10) ∧ (j = 0 → 1 ≤ k → rL sx 40 0 0 = rL sm 71 0 0) ∧ ∀ i, j < i → i < k → rL sx 40 0 i = rL sm 71 0 i
theorem few_in {Kx : Sg → Int32 → Int32 → Int32 → Int32 → Option (Sg × Int64)} {Km : Sg → Int32 → Int32 → Int32 → Option (Sg × Int64)} {k : Nat} (k20 : k ≤ 20) {kk n sl i i' : Int32}
    (H : ∀ sx sm, FewR sx sm k sl 0 → EqR (Kx sx kk n sl (i + 1)) (Km sm kk n (i' + 1))) : ∀ (j : Nat) (sx sm : Sg) (l : Int32) (a b : Nat), j ≤ k → l.toInt = (j : Int) - 1 → j < a → j < b → FewR sx sm k sl j →
      EqR (x9_few_b66 Kx a sx kk n sl i l) (m_few_b67 Km b sm kk n i' l) := by
  intro j
  induction j with
  | zero =>
    intro sx sm l a b _ hl ha hb R
    obtain ⟨a, rfl⟩ : ∃ x, a = x + 1 := ⟨a - 1, by omega⟩
    obtain ⟨b, rfl⟩ : ∃ x, b = x + 1 := ⟨b - 1, by omega⟩
    have e1 : x9_few_b66 Kx (a + 1) sx kk n sl i l = Kx sx kk n sl (i + 1) := by
      show x9_few_b66_G _ _ sx kk n sl i l = _
      unfold x9_few_b66_G
      rw [gif_t (by rw [ti_lt, hl, li_0]; omega)]
    have e2 : m_few_b67 Km (b + 1) sm kk n i' l = Km sm kk n (i' + 1) := by
      show m_few_b67_G _ _ sm kk n i' l = _
      unfold m_few_b67_G
      rw [gif_t (by rw [ti_lt, hl, li_0]; omega)]
    rw [e1, e2]; exact H sx sm R
  | succ j ih =>
    intro sx sm l a b hj hl ha hb R
    obtain ⟨a, rfl⟩ : ∃ x, a = x + 1 := ⟨a - 1, by omega⟩
    obtain ⟨b, rfl⟩ : ∃ x, b = x + 1 := ⟨b - 1, by omega⟩
    have hl' : l.toInt = j := by omega
    have il : ix l = j := by rw [ix_eq, hl']; omega
    have tm : (l + (-1)).toInt = (j : Int) - 1 := by rw [ti_add (by rw [hl']; show _ ≤ (j : Int) + (-1 : Int32).toInt; rw [show (-1 : Int32).toInt = -1 from rfl]; omega) (by rw [hl', show (-1 : Int32).toInt = -1 from rfl]; omega), hl', show (-1 : Int32).toInt = -1 from rfl]; omega
    have tp : (l + 1).toInt = j + 1 := by simp (disch := omega) only [Int32.toInt_add, Int32.toInt_sub, Int32.toInt_mul, Int32.toInt_neg, bm32, li_0, li_1, li_2, li_3, li_4, li_5, li_6, li_7, li_8, li_9, li_10, li_11, li_12, li_13, li_14, li_15, li_16, li_17, li_18, li_19, li_20, li_21, li_22, li_23, li_24, li_25, li_26, li_27, li_28, li_29, li_30, li_31, li_32, li_33, li_34, li_35, li_36, li_37, li_38, li_39, li_40, li_41, li_42, li_43, li_44, li_45, li_46, li_47, li_48, li_49, li_50, li_51, li_52, li_53, li_54, li_55, li_56, li_57, li_58, li_59, li_60, li_61, li_62, li_63, li_64, li_65, li_66, li_67, li_68, li_69, li_70, li_71, li_72, li_73, li_74, li_75, li_76, li_77, li_78, li_91, li_93, li_96, li_97, li_99, li_100, li_122, li_138, li_255, li_256, li_400, li_401, li_625, li_800, li_999, li_1000, li_1001, li_1103, li_2000, li_2037, li_2038, li_2039, li_2040, li_2041, li_2042, li_2043, li_2044, li_2045, li_2046, li_2047, li_2048, li_2049, li_2050, li_2051, li_2052, li_2053, li_2054, li_2055, li_2056, li_2057, li_2058, li_2059, li_2060, li_2061, li_2062, li_2091, li_2093, li_2400, li_2865, li_3000, li_3002, li_3003, li_3005, li_3006, li_3007, li_3008, li_3009, li_3010, li_3011, li_3012, li_3013, li_3020, li_3024, li_3025, li_3026, li_3999, li_4000, li_4095, li_4096, li_5665, li_11330, li_12345, li_15625, li_1000000, li_1000003, li_100000000, li_1000000000, ti_lt, ti_eq, inb_iff, ix_eq]; omega
    have ts : (l - 1).toInt = (j : Int) - 1 := by simp (disch := omega) only [Int32.toInt_add, Int32.toInt_sub, Int32.toInt_mul, Int32.toInt_neg, bm32, li_0, li_1, li_2, li_3, li_4, li_5, li_6, li_7, li_8, li_9, li_10, li_11, li_12, li_13, li_14, li_15, li_16, li_17, li_18, li_19, li_20, li_21, li_22, li_23, li_24, li_25, li_26, li_27, li_28, li_29, li_30, li_31, li_32, li_33, li_34, li_35, li_36, li_37, li_38, li_39, li_40, li_41, li_42, li_43, li_44, li_45, li_46, li_47, li_48, li_49, li_50, li_51, li_52, li_53, li_54, li_55, li_56, li_57, li_58, li_59, li_60, li_61, li_62, li_63, li_64, li_65, li_66, li_67, li_68, li_69, li_70, li_71, li_72, li_73, li_74, li_75, li_76, li_77, li_78, li_91, li_93, li_96, li_97, li_99, li_100, li_122, li_138, li_255, li_256, li_400, li_401, li_625, li_800, li_999, li_1000, li_1001, li_1103, li_2000, li_2037, li_2038, li_2039, li_2040, li_2041, li_2042, li_2043, li_2044, li_2045, li_2046, li_2047, li_2048, li_2049, li_2050, li_2051, li_2052, li_2053, li_2054, li_2055, li_2056, li_2057, li_2058, li_2059, li_2060, li_2061, li_2062, li_2091, li_2093, li_2400, li_2865, li_3000, li_3002, li_3003, li_3005, li_3006, li_3007, li_3008, li_3009, li_3010, li_3011, li_3012, li_3013, li_3020, li_3024, li_3025, li_3026, li_3999, li_4000, li_4095, li_4096, li_5665, li_11330, li_12345, li_15625, li_1000000, li_1000003, li_100000000, li_1000000000, ti_lt, ti_eq, inb_iff, ix_eq]; omega
    have ip : ix (l + 1) = j + 1 := by rw [ix_eq, tp]; omega
    obtain ⟨r1, r2, r3, r4, r5⟩ := R
    have e2 : m_few_b67 Km (b + 1) sm kk n i' l = m_few_b67 Km b (wL (wL sm 71 0 (j + 1) (rL sm 71 0 (j + 1) + rL sm 71 0 j * Int32.toInt64 sl / 10)) 71 0 j (rL sm 71 0 j * Int32.toInt64 (10 - sl) / 10)) kk n i' (l + (-1)) := by
      show m_few_b67_G _ _ sm kk n i' l = _
      unfold m_few_b67_G
      rw [gif_f (by rw [ti_lt, hl', li_0]; omega)]
      have g1 : inb (l + 1) 21 := inb_iff.mpr (by rw [tp]; omega)
      have g2 : inb l 21 := inb_iff.mpr (by rw [hl']; omega)
      simp (disch := omega) only [gd_t g1, gd_t g2, gd_t k51.1, k51.2, ip, il, rI_wL, rL_ne, r1]
      rw [gd_t (by decide), gd_t (by decide)]
    have ex : ∀ y : Int64, x9_few_b96 Kx (x9_few_b66 Kx a) sx kk n sl i l y = x9_few_b66 Kx a (wL sx 40 0 j (rL sx 40 0 j * Int32.toInt64 (10 - sl) / 10 + y)) kk n sl i (l + (-1)) := by
      intro y
      show x9_few_b96_G _ sx kk n sl i l y = _
      unfold x9_few_b96_G
      have g2 : inb l 20 := inb_iff.mpr (by rw [hl']; omega)
      rw [gd_t g2, gd_t (by decide), gd_t g2, il]
    have e1 : x9_few_b66 Kx (a + 1) sx kk n sl i l = x9_few_b66 Kx a (wL sx 40 0 j (rL sx 40 0 j * Int32.toInt64 (10 - sl) / 10 + (if j = 0 then 0 else rL sx 40 0 (j - 1) * Int32.toInt64 sl / 10))) kk n sl i (l + (-1)) := by
      show x9_few_b66_G _ _ sx kk n sl i l = _
      unfold x9_few_b66_G
      rw [gif_f (by rw [ti_lt, hl', li_0]; omega)]
      by_cases j0 : j = 0
      · rw [gif_f (by rw [ti_lt, hl', li_0]; omega), ex, if_pos j0]
      · rw [gif_t (by rw [ti_lt, hl', li_0]; omega), gd_t (inb_iff.mpr (by rw [ts]; omega)), gd_t (by decide), ex, if_neg j0, show ix (l - 1) = j - 1 by rw [ix_eq, ts]; omega]
    rw [e1, e2]
    refine ih _ _ _ a b (by omega) tm (by omega) (by omega) ⟨by rw [rI_wL, rI_wL]; exact r1, fun i hi => ?_, fun j1 jk => ?_, fun j0 _ => ?_, fun i h1 h2 => ?_⟩
    · rw [rL_ne (by omega), rL_ne (by omega), rL_ne (by omega)]; exact r2 i (by omega)
    · rw [rL_eq rfl, rL_eq rfl, rL_ne (by omega), rL_ne (by omega), if_neg (by omega), r2 j (by omega), r2 (j - 1) (by omega)]
    · subst j0
      rw [rL_eq rfl, rL_eq rfl, if_pos rfl, r2 0 (by omega), Int64.add_zero]
    · by_cases q : i = j + 1
      · subst q
        rw [rL_ne (by omega), rL_ne (by omega), rL_eq rfl]
        have := r3 (by omega) h2
        rw [this]; rfl
      · rw [rL_ne (by omega), rL_ne (by omega), rL_ne (by omega)]; exact r5 i (by omega) h2
theorem few_sum {k : Nat} (k20 : k ≤ 20) {kk : Int32} (hk : kk.toInt = k) {sx sm : Sg} (R : ∀ i, i < k → rL sx 40 0 i = rL sm 71 0 i) : ∀ (d : Nat) (l : Int32) (v : Int64) (a b : Nat), l.toInt + d = k → 0 ≤ l.toInt → d < a → d < b → EqR (x9_few_b143 a sx kk v l) (m_few_b151 b sm kk v l) := by
  intro d
  induction d with
  | zero =>
    intro l v a b h0 h1 ha hb
    obtain ⟨a, rfl⟩ : ∃ x, a = x + 1 := ⟨a - 1, by omega⟩
    obtain ⟨b, rfl⟩ : ∃ x, b = x + 1 := ⟨b - 1, by omega⟩
    refine ⟨sx, sm, v, ?_, ?_⟩
    · show x9_few_b143_G _ sx kk v l = _
      unfold x9_few_b143_G; rw [gif_f (by rw [ti_lt, hk]; omega)]
    · show m_few_b151_G _ sm kk v l = _
      unfold m_few_b151_G; rw [gif_f (by rw [ti_lt, hk]; omega)]
  | succ d ih =>
    intro l v a b h0 h1 ha hb
    obtain ⟨a, rfl⟩ : ∃ x, a = x + 1 := ⟨a - 1, by omega⟩
    obtain ⟨b, rfl⟩ : ∃ x, b = x + 1 := ⟨b - 1, by omega⟩
    have tp : (l + 1).toInt = l.toInt + 1 := by simp (disch := omega) only [Int32.toInt_add, Int32.toInt_sub, Int32.toInt_mul, Int32.toInt_neg, bm32, li_0, li_1, li_2, li_3, li_4, li_5, li_6, li_7, li_8, li_9, li_10, li_11, li_12, li_13, li_14, li_15, li_16, li_17, li_18, li_19, li_20, li_21, li_22, li_23, li_24, li_25, li_26, li_27, li_28, li_29, li_30, li_31, li_32, li_33, li_34, li_35, li_36, li_37, li_38, li_39, li_40, li_41, li_42, li_43, li_44, li_45, li_46, li_47, li_48, li_49, li_50, li_51, li_52, li_53, li_54, li_55, li_56, li_57, li_58, li_59, li_60, li_61, li_62, li_63, li_64, li_65, li_66, li_67, li_68, li_69, li_70, li_71, li_72, li_73, li_74, li_75, li_76, li_77, li_78, li_91, li_93, li_96, li_97, li_99, li_100, li_122, li_138, li_255, li_256, li_400, li_401, li_625, li_800, li_999, li_1000, li_1001, li_1103, li_2000, li_2037, li_2038, li_2039, li_2040, li_2041, li_2042, li_2043, li_2044, li_2045, li_2046, li_2047, li_2048, li_2049, li_2050, li_2051, li_2052, li_2053, li_2054, li_2055, li_2056, li_2057, li_2058, li_2059, li_2060, li_2061, li_2062, li_2091, li_2093, li_2400, li_2865, li_3000, li_3002, li_3003, li_3005, li_3006, li_3007, li_3008, li_3009, li_3010, li_3011, li_3012, li_3013, li_3020, li_3024, li_3025, li_3026, li_3999, li_4000, li_4095, li_4096, li_5665, li_11330, li_12345, li_15625, li_1000000, li_1000003, li_100000000, li_1000000000, ti_lt, ti_eq, inb_iff, ix_eq]
    have e1 : x9_few_b143 (a + 1) sx kk v l = x9_few_b143 a sx kk (v + rL sx 40 0 (ix l)) (l + 1) := by
      show x9_few_b143_G _ sx kk v l = _
      unfold x9_few_b143_G; rw [gif_t (by rw [ti_lt, hk]; omega), gd_t (inb_iff.mpr (by omega))]
    have e2 : m_few_b151 (b + 1) sm kk v l = m_few_b151 b sm kk (v + rL sm 71 0 (ix l)) (l + 1) := by
      show m_few_b151_G _ sm kk v l = _
      unfold m_few_b151_G; rw [gif_t (by rw [ti_lt, hk]; omega), gd_t (inb_iff.mpr (by omega))]
    rw [e1, e2, R (ix l) (by rw [ix_eq]; omega)]
    exact ih _ _ a b (by rw [tp]; omega) (by rw [tp]; omega) (by omega) (by omega)
theorem few_out {k n : Nat} (k20 : 1 ≤ k ∧ k ≤ 20) (n99 : n ≤ 99) {kk nn sl : Int32} (hk : kk.toInt = k) (hn : nn.toInt = n) : ∀ (d : Nat) (sx sm : Sg) (i : Int32) (a b : Nat), i.toInt + d = n → 0 ≤ i.toInt → d < a → d < b → FewR sx sm k sl 0 →
    EqR (x9_few_b55 a sx kk nn sl i) (m_few_b57 b sm kk nn i) := by
  intro d
  induction d with
  | zero =>
    intro sx sm i a b h0 h1 ha hb R
    obtain ⟨a, rfl⟩ : ∃ x, a = x + 1 := ⟨a - 1, by omega⟩
    obtain ⟨b, rfl⟩ : ∃ x, b = x + 1 := ⟨b - 1, by omega⟩
    have e1 : x9_few_b55 (a + 1) sx kk nn sl i = x9_few_b143 FU sx kk 0 0 := by
      show x9_few_b55_G _ _ sx kk nn sl i = _
      unfold x9_few_b55_G; rw [gif_f (by rw [ti_lt, hn]; omega)]
    have e2 : m_few_b57 (b + 1) sm kk nn i = m_few_b151 FU sm kk 0 0 := by
      show m_few_b57_G _ _ sm kk nn i = _
      unfold m_few_b57_G; rw [gif_f (by rw [ti_lt, hn]; omega)]
    rw [e1, e2]
    refine few_sum k20.2 hk (fun j hj => ?_) k 0 0 FU FU (by rw [li_0]; omega) (by decide) (by show _ < 20000; omega) (by show _ < 20000; omega)
    by_cases j0 : j = 0
    · subst j0; exact R.2.2.2.1 rfl k20.1
    · exact R.2.2.2.2 j (by omega) hj
  | succ d ih =>
    intro sx sm i a b h0 h1 ha hb R
    obtain ⟨a, rfl⟩ : ∃ x, a = x + 1 := ⟨a - 1, by omega⟩
    obtain ⟨b, rfl⟩ : ∃ x, b = x + 1 := ⟨b - 1, by omega⟩
    have tp : (i + 1).toInt = i.toInt + 1 := by simp (disch := omega) only [Int32.toInt_add, Int32.toInt_sub, Int32.toInt_mul, Int32.toInt_neg, bm32, li_0, li_1, li_2, li_3, li_4, li_5, li_6, li_7, li_8, li_9, li_10, li_11, li_12, li_13, li_14, li_15, li_16, li_17, li_18, li_19, li_20, li_21, li_22, li_23, li_24, li_25, li_26, li_27, li_28, li_29, li_30, li_31, li_32, li_33, li_34, li_35, li_36, li_37, li_38, li_39, li_40, li_41, li_42, li_43, li_44, li_45, li_46, li_47, li_48, li_49, li_50, li_51, li_52, li_53, li_54, li_55, li_56, li_57, li_58, li_59, li_60, li_61, li_62, li_63, li_64, li_65, li_66, li_67, li_68, li_69, li_70, li_71, li_72, li_73, li_74, li_75, li_76, li_77, li_78, li_91, li_93, li_96, li_97, li_99, li_100, li_122, li_138, li_255, li_256, li_400, li_401, li_625, li_800, li_999, li_1000, li_1001, li_1103, li_2000, li_2037, li_2038, li_2039, li_2040, li_2041, li_2042, li_2043, li_2044, li_2045, li_2046, li_2047, li_2048, li_2049, li_2050, li_2051, li_2052, li_2053, li_2054, li_2055, li_2056, li_2057, li_2058, li_2059, li_2060, li_2061, li_2062, li_2091, li_2093, li_2400, li_2865, li_3000, li_3002, li_3003, li_3005, li_3006, li_3007, li_3008, li_3009, li_3010, li_3011, li_3012, li_3013, li_3020, li_3024, li_3025, li_3026, li_3999, li_4000, li_4095, li_4096, li_5665, li_11330, li_12345, li_15625, li_1000000, li_1000003, li_100000000, li_1000000000, ti_lt, ti_eq, inb_iff, ix_eq]
    have ts : (kk - 1).toInt = (k : Int) - 1 := by rw [ti_sub (by rw [hk, li_1]; omega) (by rw [hk, li_1]; omega), hk, li_1]
    have e1 : x9_few_b55 (a + 1) sx kk nn sl i = x9_few_b66 (x9_few_b55 a) FU sx kk nn sl i (kk - 1) := by
      show x9_few_b55_G _ _ sx kk nn sl i = _
      unfold x9_few_b55_G; rw [gif_t (by rw [ti_lt, hn]; omega)]
    have e2 : m_few_b57 (b + 1) sm kk nn i = m_few_b67 (m_few_b57 b) FU sm kk nn i (kk - 1) := by
      show m_few_b57_G _ _ sm kk nn i = _
      unfold m_few_b57_G; rw [gif_t (by rw [ti_lt, hn]; omega)]
    rw [e1, e2]
    refine few_in k20.2 (fun sx sm R => ih sx sm (i + 1) a b (by rw [tp]; omega) (by rw [tp]; omega) (by omega) (by omega) R) k sx sm (kk - 1) FU FU (Nat.le_refl _) ts (by show _ < 20000; omega) (by show _ < 20000; omega) ?_
    refine ⟨R.1, fun j hj => ?_, fun _ h => absurd h (by omega), fun h => absurd h (by omega), fun i h1 h2 => absurd h2 (by omega)⟩
    by_cases j0 : j = 0
    · subst j0; exact R.2.2.2.1 rfl k20.1
    · exact R.2.2.2.2 j (by omega) hj
theorem c_few {sx sm : Sg} (h : Inv sx sm) (a b : Int32) : Call sx sm (x9_few sx a b) (m_few sm a b) := by
  by_cases c : (1 ≤ a.toInt ∧ a.toInt ≤ 20) ∧ 0 ≤ b.toInt ∧ b.toInt ≤ 99
  · obtain ⟨k, hk⟩ : ∃ n : Nat, a.toInt = n := ⟨_, (Int.toNat_of_nonneg (by omega)).symm⟩
    obtain ⟨n, hn⟩ : ∃ n : Nat, b.toInt = n := ⟨_, (Int.toNat_of_nonneg (by omega)).symm⟩
    have X := h.2.1.1.2.1
    have ml : ∀ (d : Nat) (s : Sg) (l : Int32) (f : Nat), l.toInt + d = 21 → 0 ≤ l.toInt → d < f → (∀ i : Nat, (i : Int) < l.toInt → rL s 71 0 i = if i = 0 then 1000000000000 else 0) → (rI s 43 0 51 = rI sm 43 0 51) →
        ∃ s', m_few_b26 f s a b l = m_few_b57 FU s' a b 0 ∧ (∀ i : Nat, i < 21 → rL s' 71 0 i = if i = 0 then 1000000000000 else 0) ∧ rI s' 43 0 51 = rI sm 43 0 51 := by
      intro d
      induction d with
      | zero =>
        intro s l f h0 h1 hf R e
        obtain ⟨f, rfl⟩ : ∃ x, f = x + 1 := ⟨f - 1, by omega⟩
        refine ⟨s, ?_, fun i hi => R i (by omega), e⟩
        show m_few_b26_G _ _ s a b l = _
        unfold m_few_b26_G; rw [gif_t (by rw [ti_lt, li_20]; omega)]
      | succ d ih =>
        intro s l f h0 h1 hf R e
        obtain ⟨f, rfl⟩ : ∃ x, f = x + 1 := ⟨f - 1, by omega⟩
        have tp : (l + 1).toInt = l.toInt + 1 := by simp (disch := omega) only [Int32.toInt_add, Int32.toInt_sub, Int32.toInt_mul, Int32.toInt_neg, bm32, li_0, li_1, li_2, li_3, li_4, li_5, li_6, li_7, li_8, li_9, li_10, li_11, li_12, li_13, li_14, li_15, li_16, li_17, li_18, li_19, li_20, li_21, li_22, li_23, li_24, li_25, li_26, li_27, li_28, li_29, li_30, li_31, li_32, li_33, li_34, li_35, li_36, li_37, li_38, li_39, li_40, li_41, li_42, li_43, li_44, li_45, li_46, li_47, li_48, li_49, li_50, li_51, li_52, li_53, li_54, li_55, li_56, li_57, li_58, li_59, li_60, li_61, li_62, li_63, li_64, li_65, li_66, li_67, li_68, li_69, li_70, li_71, li_72, li_73, li_74, li_75, li_76, li_77, li_78, li_91, li_93, li_96, li_97, li_99, li_100, li_122, li_138, li_255, li_256, li_400, li_401, li_625, li_800, li_999, li_1000, li_1001, li_1103, li_2000, li_2037, li_2038, li_2039, li_2040, li_2041, li_2042, li_2043, li_2044, li_2045, li_2046, li_2047, li_2048, li_2049, li_2050, li_2051, li_2052, li_2053, li_2054, li_2055, li_2056, li_2057, li_2058, li_2059, li_2060, li_2061, li_2062, li_2091, li_2093, li_2400, li_2865, li_3000, li_3002, li_3003, li_3005, li_3006, li_3007, li_3008, li_3009, li_3010, li_3011, li_3012, li_3013, li_3020, li_3024, li_3025, li_3026, li_3999, li_4000, li_4095, li_4096, li_5665, li_11330, li_12345, li_15625, li_1000000, li_1000003, li_100000000, li_1000000000, ti_lt, ti_eq, inb_iff, ix_eq]
        have e1 : m_few_b26 (f + 1) s a b l = m_few_b26 f (wL s 71 0 (ix l) (if ix l = 0 then 1000000000000 else 0)) a b (l + 1) := by
          show m_few_b26_G _ _ s a b l = _
          unfold m_few_b26_G
          rw [gif_f (by rw [ti_lt, li_20]; omega), gd_t (inb_iff.mpr (by omega)), gd_t (inb_iff.mpr (by omega))]
          by_cases l0 : l = 0
          · rw [gif_t l0, if_pos (by rw [l0]; rfl)]
          · rw [gif_f l0, if_neg (by rw [ti_eq, li_0] at l0; rw [ix_eq]; omega)]
        obtain ⟨s', p1, p2, p3⟩ := ih (wL s 71 0 (ix l) (if ix l = 0 then 1000000000000 else 0)) (l + 1) f (by rw [tp]; omega) (by rw [tp]; omega) (by omega) (fun i hi => by
          rw [tp] at hi
          by_cases q : i = ix l
          · subst q; rw [rL_eq rfl]
          · rw [rL_ne (by omega)]; exact R i (by rw [ix_eq] at q; omega)) (by rw [rI_wL]; exact e)
        exact ⟨s', by rw [e1, p1], p2, p3⟩
    obtain ⟨s', p1, p2, p3⟩ := ml 21 sm 0 FU (by decide) (by decide) (by show _ < 20000; omega) (fun i hi => by rw [li_0] at hi; omega) rfl
    have em : m_few sm a b = m_few_b57 FU s' a b 0 := by
      unfold m_few m_few_G
      simp only [q_m_lies, Option.bind_some, gdB0, gdB1, gdbI, gifbI, li_0, li_1, li_20, li_99]
      rw [gif_t c.1, gif_t c.2, p1]
    have ex : x9_few sx a b = x9_few_b55 FU (wL (g_fillL sx 40 0 0) 40 0 0 1000000000000) a b (rI sm 43 0 51) 0 := by
      unfold x9_few x9_few_G
      rw [gif_f (by rw [ti_lt, li_1]; omega), gif_f (by rw [ti_lt, li_20]; omega), gif_f (by rw [ti_lt, li_0]; omega), gif_f (by rw [ti_lt, li_99]; omega), gd_t (by rw [inb_iff]; decide), gd_t (by rw [inb_iff]; decide), show ix 0 = 0 from rfl, show ix 1 = 1 from rfl, rI_wL]
      rw [show rI (g_fillL sx 40 0 0) 15 0 1 = rI sm 43 0 51 from X.2.2.1.2.1]
    have fl : ∀ i, rL (wL (g_fillL sx 40 0 0) 40 0 0 1000000000000) 40 0 i = if i = 0 then 1000000000000 else 0 := by
      intro i
      by_cases q : i = 0
      · subst q; rw [rL_eq rfl]; rfl
      · rw [rL_ne (by omega), if_neg q]; rfl
    obtain ⟨sx', sm', r, q1, q2⟩ := few_out (k := k) (n := n) (sl := rI sm 43 0 51) ⟨by omega, by omega⟩ (by omega) hk hn n (wL (g_fillL sx 40 0 0) 40 0 0 1000000000000) s' 0 FU FU (by rw [li_0]; omega) (by decide) (by show _ < 20000; omega) (by show _ < 20000; omega)
      ⟨p3, fun i hi => absurd hi (by omega), fun h => absurd h (by omega), fun _ _ => by rw [fl, p2 0 (by omega)], fun i h1 h2 => by rw [fl, p2 i (by omega)]⟩
    have F := fr_x9_few _ _ _ _ (ex.trans q1)
    have G := fr_m_few _ _ _ _ (em.trans q2)
    exact ⟨sx', sm', r, ex.trans q1, em.trans q2, ⟨InvA_fr F G rfl rfl rfl rfl rfl rfl rfl rfl h.1, InvB_fr F G rfl rfl rfl rfl rfl h.2.1, LogR_fr F G h.log12 rfl rfl rfl rfl h.2.2.1, InvC_fr F G rfl rfl rfl rfl rfl rfl h.2.2.2.1, InvE_fr F G rfl rfl rfl h.2.2.2.2.1, InvF_fr F G rfl (.inl rfl) (.inl ⟨rfl, rfl⟩) (.inl rfl) rfl h.2.2.2.2.2⟩, by rw [F.n _ _ _ (nh rfl)]; omega⟩
  · have ex : x9_few sx a b = some (sx, -1) := by
      unfold x9_few x9_few_G
      rw [ti_lt, ti_lt, ti_lt, ti_lt, li_1, li_20, li_0, li_99]
      refine gif_eq (fun _ => rfl) (fun d1 => gif_eq (fun _ => rfl) (fun d2 => gif_eq (fun _ => rfl) (fun d3 => gif_eq (fun _ => rfl) (fun d4 => absurd ⟨⟨by omega, by omega⟩, by omega, by omega⟩ c))))
    have em : m_few sm a b = some (sm, -1) := by
      unfold m_few m_few_G
      simp only [q_m_lies, Option.bind_some, gdB0, gdB1, gdbI, gifbI, li_0, li_1, li_20, li_99]
      refine gif_eq (fun d1 => gif_eq (fun d2 => absurd ⟨d1, d2⟩ c) (fun _ => rfl)) (fun _ => rfl)
    exact call_id h ex em
