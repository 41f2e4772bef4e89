/-! seen, forget -/
theorem MW_s {f f' : Nat → Int32} (h : MW f) (hf : ∀ i, i < 58 → i ≠ 55 → ¬ (39 ≤ i ∧ i < 51) → f' i = f i)
    (h5 : (0 ≤ (f' 55).toInt ∧ (f' 55).toInt ≤ 6) ∧ ∀ k : Nat, (k : Int) < (f' 55).toInt → (0 ≤ (f' (39 + 2 * k)).toInt ∧ (f' (39 + 2 * k)).toInt ≤ 3) ∧ 0 ≤ (f' (40 + 2 * k)).toInt ∧ (f' (40 + 2 * k)).toInt ≤ 999) : MW f' := by
  obtain ⟨a1, a2, a3, a4, a5, a6⟩ := h
  unfold MW
  rw [hf 54 (by omega) (by omega) (by omega), hf 0 (by omega) (by omega) (by omega), hf 1 (by omega) (by omega) (by omega), hf 14 (by omega) (by omega) (by omega), hf 51 (by omega) (by omega) (by omega), hf 52 (by omega) (by omega) (by omega), hf 53 (by omega) (by omega) (by omega), hf 56 (by omega) (by omega) (by omega), hf 57 (by omega) (by omega) (by omega)]
  refine ⟨a1, fun w hw => ?_, a3, a4, h5, a6⟩
  rw [hf (2 + w) (by omega) (by omega) (by omega), hf (15 + w) (by omega) (by omega) (by omega), hf (27 + w) (by omega) (by omega) (by omega)]; exact a2 w hw
theorem GX_s {sx sx' : Sg} {g : Nat} {f f' : Nat → Int32} (hm : MW f) (h1 : ∀ c, 7 ≤ c → c ≠ 10 → rI sx' 1 g c = rI sx 1 g c) (h2 : ∀ c, rI sx' 12 g c = rI sx 12 g c) (h3 : ∀ c, rI sx' 13 g c = rI sx 13 g c)
    (h4 : ∀ c, rI sx' 14 g c = rI sx 14 g c) (h5 : ∀ c, rI sx' 15 g c = rI sx 15 g c)
    (hf : ∀ i, i < 58 → i ≠ 55 → ¬ (39 ≤ i ∧ i < 51) → f' i = f i)
    (e : rI sx' 1 g 10 = f' 55 ∧ ∀ k : Nat, (k : Int) < (f' 55).toInt → rI sx' 16 g k = f' (39 + 2 * k) ∧ rI sx' 17 g k = f' (40 + 2 * k)) (h : GX sx g f) : GX sx' g f' := by
  have hn := hm.1
  unfold GX at h ⊢
  rw [hf 54 (by omega) (by omega) (by omega), hf 0 (by omega) (by omega) (by omega), hf 1 (by omega) (by omega) (by omega), hf 14 (by omega) (by omega) (by omega), hf 51 (by omega) (by omega) (by omega), hf 52 (by omega) (by omega) (by omega), hf 53 (by omega) (by omega) (by omega), hf 56 (by omega) (by omega) (by omega), hf 57 (by omega) (by omega) (by omega),
    h1 7 (by omega) (by omega), h1 8 (by omega) (by omega), h1 9 (by omega) (by omega), h1 11 (by omega) (by omega), h1 12 (by omega) (by omega), h5, h5, h5, h5]
  refine ⟨h.1, fun w hw => ?_, h.2.2.1, e, h.2.2.2.2⟩
  rw [h2, h3, h4, hf (2 + w) (by omega) (by omega) (by omega), hf (15 + w) (by omega) (by omega) (by omega), hf (27 + w) (by omega) (by omega) (by omega)]; exact h.2.1 w hw
theorem c_forget {sx sm : Sg} (h : Inv sx sm) : Call sx sm (x9_forget sx) (m_forget sm) := by
  have X := h.2.1.1.2.1
  have M := h.2.1.1.1
  unfold x9_forget x9_forget_G m_forget m_forget_G
  simp only [gd_t k55.1, k55.2]
  have e10 : rI sx 1 0 10 = rI sm 43 0 55 := X.2.2.2.1.1
  rw [e10]
  have F : Fr [(1, 1, 11)] sx (wI sx 1 0 10 0) := fr_wI fr_rfl (hit_is (by simp))
  have G : Fr [(43, 1, 0)] sm (wI sm 43 0 55 0) := fr_wI fr_rfl (hit_ie (by simp))
  refine ⟨_, _, _, rfl, rfl, ⟨InvA_fr F G rfl rfl rfl rfl rfl rfl rfl rfl h.1, ⟨⟨?_, ?_, ?_⟩, ?_, ?_⟩, ?_, InvC_fr F G rfl rfl rfl rfl rfl rfl h.2.2.2.1, InvE_fr F G rfl rfl rfl h.2.2.2.2.1, InvF_fr F G rfl (.inl rfl) (.inl ⟨rfl, rfl⟩) (.inl rfl) rfl h.2.2.2.2.2⟩, by rw [rN_wI]; omega⟩
  · rw [wI_upd]
    refine MW_s M (fun i _ h _ => ud_ne h) ?_
    rw [ud_eq rfl]; simp only [li_0]; exact ⟨by omega, fun k hk => by omega⟩
  · rw [wI_upd]
    refine GX_s M (fun c _ h => rI_ne (by omega)) (fun c => rI_ne (by omega)) (fun c => rI_ne (by omega)) (fun c => rI_ne (by omega)) (fun c => rI_ne (by omega)) (fun i _ h _ => ud_ne h) ?_ X
    rw [ud_eq rfl, rI_eq rfl]; simp only [li_0]; exact ⟨trivial, fun k hk => by omega⟩
  · rw [wI_upd]
    exact LX_c (sx := sx) M.2.2.2.2.2.1.2 (fun c => rfl) (by rw [rN_wI]; omega) (fun t k c _ _ hk => rI_ne (.inl (by rintro rfl; cases hk))) (fun t _ _ => rfl) (fun i hi => ud_ne (by omega)) h.2.1.1.2.2
  · rw [rI_ne (by omega), rI_ne (by omega)]; exact h.2.1.2.1
  · intro w; rw [rI_ne (by omega), rI_ne (by omega)]; exact h.2.1.2.2 w
  · exact LogR_c h.log12 (rI_ne (by omega)) (fun c => rI_ne (by omega)) (fun c => rI_ne (by omega)) (fun c => rI_ne (by omega)) (rI_ne (by omega)) (fun c => rI_ne (by omega)) (fun c hc => rI_ne (by omega)) h.2.2.1
theorem seen_both {sx sm : Sg} (h : Inv sx sm) (a b : Int32) {n : Nat} (hn : (rI sm 43 0 55).toInt = n) (n6 : n < 6) (ha : 0 ≤ a.toInt ∧ a.toInt ≤ 3) (hb : 0 ≤ b.toInt ∧ b.toInt ≤ 999) :
    Call sx sm (x9_answer (wI (wI (wI sx 16 0 n a) 17 0 n b) 1 0 10 (rI sm 43 0 55 + 1)) (rI sm 43 0 55 + 1))
      (m_good (wI (wI (wI sm 43 0 (39 + 2 * n) a) 43 0 (40 + 2 * n) b) 43 0 55 (rI sm 43 0 55 + 1)) (rI sm 43 0 55 + 1)) := by
  have X := h.2.1.1.2.1
  have M := h.2.1.1.1
  have F : Fr [(16, 1, 0), (17, 1, 0), (1, 1, 11)] sx (wI (wI (wI sx 16 0 n a) 17 0 n b) 1 0 10 (rI sm 43 0 55 + 1)) := fr_wI (fr_wI (fr_wI fr_rfl (hit_ie (by simp))) (hit_ie (by simp))) (hit_is (by simp))
  have G : Fr [(43, 1, 0)] sm (wI (wI (wI sm 43 0 (39 + 2 * n) a) 43 0 (40 + 2 * n) b) 43 0 55 (rI sm 43 0 55 + 1)) := fr_wI (fr_wI (fr_wI fr_rfl (hit_ie (by simp))) (hit_ie (by simp))) (hit_ie (by simp))
  have eK : (wI (wI (wI sm 43 0 (39 + 2 * n) a) 43 0 (40 + 2 * n) b) 43 0 55 (rI sm 43 0 55 + 1)).1 43 0 = ud (ud (ud (sm.1 43 0) (39 + 2 * n) a) (40 + 2 * n) b) 55 (rI sm 43 0 55 + 1) := by rw [wI_upd, wI_upd, wI_upd]
  have e1 : (rI sm 43 0 55 + 1).toInt = n + 1 := by rw [ti_add (by rw [hn]; simp only [li_1]; omega) (by rw [hn]; simp only [li_1]; omega), hn]; rfl
  refine (answer_both ⟨InvA_fr F G rfl rfl rfl rfl rfl rfl rfl rfl h.1, ⟨⟨?_, ?_, ?_⟩, ?_, ?_⟩, ?_, InvC_fr F G rfl rfl rfl rfl rfl rfl h.2.2.2.1, InvE_fr F G rfl rfl rfl h.2.2.2.2.1, InvF_fr F G rfl (.inl rfl) (.inl ⟨rfl, rfl⟩) (.inl rfl) rfl h.2.2.2.2.2⟩ _).re (by rw [rN_wI, rN_wI, rN_wI])
  · rw [eK]
    refine MW_s M (fun i _ h1 h2 => by rw [ud_ne h1, ud_ne (by omega), ud_ne (by omega)]) ?_
    rw [ud_eq rfl, e1]
    refine ⟨by omega, fun k hk => ?_⟩
    by_cases hkn : k = n
    · subst hkn
      rw [ud_ne (by omega), ud_ne (by omega), ud_eq rfl, ud_ne (by omega), ud_eq rfl]; exact ⟨ha, hb⟩
    · rw [ud_ne (by omega), ud_ne (by omega), ud_ne (by omega), ud_ne (by omega), ud_ne (by omega), ud_ne (by omega)]
      exact M.2.2.2.2.1.2 k (show _ < (rI sm 43 0 55).toInt by omega)
  · rw [eK]
    refine GX_s M (fun c _ h => ?_) (fun c => ?_) (fun c => ?_) (fun c => ?_) (fun c => ?_) (fun i _ h1 h2 => by rw [ud_ne h1, ud_ne (by omega), ud_ne (by omega)]) ?_ X
    · rw [rI_ne (by omega), rI_ne (by omega), rI_ne (by omega)]
    · rw [rI_ne (by omega), rI_ne (by omega), rI_ne (by omega)]
    · rw [rI_ne (by omega), rI_ne (by omega), rI_ne (by omega)]
    · rw [rI_ne (by omega), rI_ne (by omega), rI_ne (by omega)]
    · rw [rI_ne (by omega), rI_ne (by omega), rI_ne (by omega)]
    · rw [ud_eq rfl, rI_eq rfl, e1]
      refine ⟨rfl, fun k hk => ?_⟩
      by_cases hkn : k = n
      · subst hkn
        rw [ud_ne (by omega), ud_ne (by omega), ud_eq rfl, ud_ne (by omega), ud_eq rfl, rI_ne (by omega), rI_ne (by omega), rI_eq rfl, rI_ne (by omega), rI_eq rfl]; exact ⟨rfl, rfl⟩
      · rw [ud_ne (by omega), ud_ne (by omega), ud_ne (by omega), ud_ne (by omega), ud_ne (by omega), ud_ne (by omega), rI_ne (by omega), rI_ne (by omega), rI_ne (by omega), rI_ne (by omega), rI_ne (by omega), rI_ne (by omega)]
        exact X.2.2.2.1.2 k (show _ < (rI sm 43 0 55).toInt by omega)
  · rw [eK]
    exact LX_c (sx := sx) M.2.2.2.2.2.1.2 (fun c => rfl) (by rw [rN_wI, rN_wI, rN_wI]; omega) (fun t k c _ _ hk => by rw [rI_ne (.inl (by rintro rfl; cases hk)), rI_ne (.inl (by rintro rfl; cases hk)), rI_ne (.inl (by rintro rfl; cases hk))]) (fun t _ _ => rfl) (fun i hi => by rw [ud_ne (by omega), ud_ne (by omega), ud_ne (by omega)]) h.2.1.1.2.2
  · rw [rI_ne (by omega), rI_ne (by omega), rI_ne (by omega), rI_ne (by omega), rI_ne (by omega), rI_ne (by omega)]; exact h.2.1.2.1
  · intro w; rw [rI_ne (by omega), rI_ne (by omega), rI_ne (by omega), rI_ne (by omega), rI_ne (by omega), rI_ne (by omega)]; exact h.2.1.2.2 w
  · refine LogR_c h.log12 ?_ (fun c => ?_) (fun c => ?_) (fun c => ?_) ?_ (fun c => ?_) (fun c hc => ?_) h.2.2.1 <;> rw [rI_ne (by omega), rI_ne (by omega), rI_ne (by omega)]
theorem c_seen {sx sm : Sg} (h : Inv sx sm) (a b : Int32) : Call sx sm (x9_seen sx a b) (m_seen sm a b) := by
  have X := h.2.1.1.2.1
  have M := h.2.1.1.1
  have e10 : rI sx 1 0 10 = rI sm 43 0 55 := X.2.2.2.1.1
  obtain ⟨n, hn⟩ : ∃ n : Nat, (rI sm 43 0 55).toInt = n := ⟨_, (Int.toNat_of_nonneg M.2.2.2.2.1.1.1).symm⟩
  have n6 : n ≤ 6 := by have : (rI sm 43 0 55).toInt ≤ 6 := M.2.2.2.2.1.1.2; omega
  unfold m_seen m_seen_G x9_seen x9_seen_G
  simp only [q_m_lies, Option.bind_some, gdB0, gdB1, gdbI, gifbI, bindp, gd_t k55.1, k55.2, li_0, li_3, li_999, e10]
  by_cases ha : 0 ≤ a.toInt ∧ a.toInt ≤ 3
  · rw [gif_t ha, gif_f (by rw [ti_lt]; simp only [li_0]; omega), gif_t (p := a < _) (by rw [ti_lt, ti_ofNat (by omega)]; omega)]
    by_cases hb : 0 ≤ b.toInt ∧ b.toInt ≤ 999
    · rw [gif_t hb, gif_f (by rw [ti_lt]; simp only [li_0]; omega), gif_f (p := 999 < b) (by rw [ti_lt]; simp only [li_999]; omega)]
      by_cases c : n = 6
      · rw [gif_t (p := _ = 6) (by rw [ti_eq, hn, li_6]; omega), gif_f (p := _ < 6) (by rw [ti_lt, hn, li_6]; omega)]
        exact refuse_both h (.inr (.inr (.inr (.inl rfl))))
      · rw [gif_f (p := _ = 6) (by rw [ti_eq, hn, li_6]; omega), gif_t (p := _ < 6) (by rw [ti_lt, hn, li_6]; omega)]
        have i1 : ix (rI sm 43 0 55) = n := by rw [ix_eq, hn]; omega
        have t1 : (39 + 2 * rI sm 43 0 55).toInt = 39 + 2 * n := by simp (disch := omega) only [Int32.toInt_add, Int32.toInt_sub, Int32.toInt_mul, Int32.toInt_neg, bm32, li_0, li_1, li_2, li_3, li_4, li_5, li_6, li_7, li_8, li_9, li_10, li_11, li_12, li_13, li_14, li_15, li_16, li_17, li_18, li_19, li_20, li_21, li_22, li_23, li_24, li_25, li_26, li_27, li_28, li_29, li_30, li_31, li_32, li_33, li_34, li_35, li_36, li_37, li_38, li_39, li_40, li_41, li_42, li_43, li_44, li_45, li_46, li_47, li_48, li_49, li_50, li_51, li_52, li_53, li_54, li_55, li_56, li_57, li_58, li_59, li_60, li_61, li_62, li_63, li_64, li_65, li_66, li_67, li_68, li_69, li_70, li_71, li_72, li_73, li_74, li_75, li_76, li_77, li_78, li_91, li_93, li_96, li_97, li_99, li_100, li_122, li_138, li_255, li_256, li_400, li_401, li_625, li_800, li_999, li_1000, li_1001, li_1103, li_2000, li_2037, li_2038, li_2039, li_2040, li_2041, li_2042, li_2043, li_2044, li_2045, li_2046, li_2047, li_2048, li_2049, li_2050, li_2051, li_2052, li_2053, li_2054, li_2055, li_2056, li_2057, li_2058, li_2059, li_2060, li_2061, li_2062, li_2091, li_2093, li_2400, li_2865, li_3000, li_3002, li_3003, li_3005, li_3006, li_3007, li_3008, li_3009, li_3010, li_3011, li_3012, li_3013, li_3020, li_3024, li_3025, li_3026, li_3999, li_4000, li_4095, li_4096, li_5665, li_11330, li_12345, li_15625, li_1000000, li_1000003, li_100000000, li_1000000000, ti_lt, ti_eq, inb_iff, ix_eq, hn]
        have t2 : (39 + 2 * rI sm 43 0 55 + 1).toInt = 40 + 2 * n := by rw [ti_add (by rw [t1]; simp only [li_1]; omega) (by rw [t1]; simp only [li_1]; omega), t1]; simp only [li_1]; omega
        have i2 : ix (39 + 2 * rI sm 43 0 55) = 39 + 2 * n := by rw [ix_eq, t1]; omega
        have i3 : ix (39 + 2 * rI sm 43 0 55 + 1) = 40 + 2 * n := by rw [ix_eq, t2]; omega
        simp only [i1, i2, i3]
        rw [gd_t (inb_iff.mpr (by rw [hn]; omega)), gd_t (inb_iff.mpr (by rw [rI_ne (by omega), e10, hn]; omega)), gd_t (p := inb (39 + 2 * rI sm 43 0 55) 5665) (inb_iff.mpr (by rw [t1]; omega)), gd_t (p := inb (39 + 2 * rI sm 43 0 55 + 1) 5665) (inb_iff.mpr (by rw [t2]; omega))]
        have := seen_both h a b hn (by omega) ha hb
        simp (disch := omega) only [rI_ne, rI_eq, e10, i1]
        exact this
    · rw [gif_f hb]
      by_cases d : b < 0
      · rw [gif_t d]; exact refuse_both h (.inl rfl)
      · rw [gif_f d, gif_t (p := 999 < b) (by rw [ti_lt] at d ⊢; simp only [li_0, li_999] at d ⊢; omega)]; exact refuse_both h (.inl rfl)
  · rw [gif_f ha]
    by_cases d : a < 0
    · rw [gif_t d]; exact refuse_both h (.inl rfl)
    · rw [gif_f d, gif_f (p := a < _) (by rw [ti_lt] at d ⊢; rw [ti_ofNat (by omega)]; simp only [li_0] at d; omega)]; exact refuse_both h (.inl rfl)
/-! word -/
theorem ok_laysAllWords {s : Sg} {n : Nat} (hn : (rI s 43 0 54).toInt = n) (n12 : n ≤ 12) : ok (m_laysAllWords s) (fun s' => rI s' 10 0 36 = rI s 43 0 54 ∧ ∀ w : Nat, w < n → (rI s' 57 0 w).toInt = w) := by
  unfold m_laysAllWords m_laysAllWords_G
  simp only [q_m_wordMany, Option.bind_some]
  refine ok_loop (K := fun k (p : Sg × Int32) => m_laysAllWords_b10 k p.1 p.2) (I := fun p => rI p.1 10 0 36 = rI s 43 0 54 ∧ 0 ≤ p.2.toInt ∧ p.2.toInt ≤ n ∧ ∀ w : Nat, (w : Int) < p.2.toInt → (rI p.1 57 0 w).toInt = w)
    (μ := fun p => n - p.2.toInt.toNat) ?_ FU (wI s 10 0 36 (rI s 43 0 54), 0) ⟨rI_eq rfl, by simp only [li_0]; omega, by simp only [li_0]; omega, fun w hw => by simp only [li_0] at hw; omega⟩ (by show _ < 20000; omega)
  rintro k ⟨s1, i⟩ ⟨h1, h2, h3, h4⟩ ih
  simp only at h1 h2 h3 h4 ih
  show ok (m_laysAllWords_b10_G (m_laysAllWords_b10 k) s1 i) _
  unfold m_laysAllWords_b10_G
  refine ok_gif (fun c => ?_) (fun c => ok_some ?_)
  · rw [ti_lt, h1, hn] at c
    refine ok_gd (inb_iff.mpr (by omega)) ?_
    have e : (i + 1).toInt = i.toInt + 1 := by simp (disch := omega) only [Int32.toInt_add, Int32.toInt_sub, Int32.toInt_mul, Int32.toInt_neg, bm32, li_0, li_1, li_2, li_3, li_4, li_5, li_6, li_7, li_8, li_9, li_10, li_11, li_12, li_13, li_14, li_15, li_16, li_17, li_18, li_19, li_20, li_21, li_22, li_23, li_24, li_25, li_26, li_27, li_28, li_29, li_30, li_31, li_32, li_33, li_34, li_35, li_36, li_37, li_38, li_39, li_40, li_41, li_42, li_43, li_44, li_45, li_46, li_47, li_48, li_49, li_50, li_51, li_52, li_53, li_54, li_55, li_56, li_57, li_58, li_59, li_60, li_61, li_62, li_63, li_64, li_65, li_66, li_67, li_68, li_69, li_70, li_71, li_72, li_73, li_74, li_75, li_76, li_77, li_78, li_91, li_93, li_96, li_97, li_99, li_100, li_122, li_138, li_255, li_256, li_400, li_401, li_625, li_800, li_999, li_1000, li_1001, li_1103, li_2000, li_2037, li_2038, li_2039, li_2040, li_2041, li_2042, li_2043, li_2044, li_2045, li_2046, li_2047, li_2048, li_2049, li_2050, li_2051, li_2052, li_2053, li_2054, li_2055, li_2056, li_2057, li_2058, li_2059, li_2060, li_2061, li_2062, li_2091, li_2093, li_2400, li_2865, li_3000, li_3002, li_3003, li_3005, li_3006, li_3007, li_3008, li_3009, li_3010, li_3011, li_3012, li_3013, li_3020, li_3024, li_3025, li_3026, li_3999, li_4000, li_4095, li_4096, li_5665, li_11330, li_12345, li_15625, li_1000000, li_1000003, li_100000000, li_1000000000, ti_lt, ti_eq, inb_iff, ix_eq]
    refine ih (wI s1 57 0 (ix i) i, i + 1) ⟨by rw [rI_ne (by omega)]; exact h1, by simp only [e]; omega, by simp only [e]; omega, fun w hw => ?_⟩ (by simp only [e]; omega)
    simp only [e] at hw
    by_cases g : (w : Int) = i.toInt
    · rw [rI_eq (by rw [ix_eq]; omega)]; omega
    · rw [rI_ne (by rw [ix_eq]; omega)]; exact h4 w (by omega)
  · rw [ti_lt, h1, hn] at c
    exact ⟨h1, fun w hw => h4 w (by omega)⟩
theorem ok_m_adds {s : Sg} (M : MW (s.1 43 0)) {n : Nat} (hn : (rI s 43 0 54).toInt = n) (n12 : n < 12) (a b c : Int32) :
    ok (m_adds s a b c) (fun s' => rI s' 10 0 36 = rI s' 43 0 54 ∧ (∀ w : Nat, w < n + 1 → (rI s' 57 0 w).toInt = w) ∧ (rI s' 43 0 (2 + n) = a ∧ rI s' 43 0 (15 + n) = b ∧ rI s' 43 0 (27 + n) = c ∧ rI s' 43 0 54 = rI s 43 0 54 + 1) ∧
      ∀ i, i ≠ 2 + n → i ≠ 15 + n → i ≠ 27 + n → i ≠ 54 → rI s' 43 0 i = rI s 43 0 i) := by
  have i2 : ix (2 + rI s 43 0 54) = 2 + n := by rw [ix_k (m := 2) rfl (by omega) (by omega), hn]; omega
  have i15 : ix (15 + rI s 43 0 54) = 15 + n := by rw [ix_k (m := 15) rfl (by omega) (by omega), hn]; omega
  have i27 : ix (27 + rI s 43 0 54) = 27 + n := by rw [ix_k (m := 27) rfl (by omega) (by omega), hn]; omega
  have z0 : rI s 43 0 0 &&& ((1 <<< (rI s 43 0 54 &&& 31)) ^^^ (-1)) = rI s 43 0 0 := b_clr (by omega) (by omega) (M.2.2.1.1 _ (by show (rI s 43 0 54).toInt ≤ _; omega))
  have z1 : rI s 43 0 1 &&& ((1 <<< (rI s 43 0 54 &&& 31)) ^^^ (-1)) = rI s 43 0 1 := b_clr (by omega) (by omega) (M.2.2.1.2 _ (by show (rI s 43 0 54).toInt ≤ _; omega))
  have e1 : (rI s 43 0 54 + 1).toInt = n + 1 := by rw [ti_add (by rw [hn]; simp only [li_1]; omega) (by rw [hn]; simp only [li_1]; omega), hn]; rfl
  unfold m_adds m_adds_G
  simp only [q_m_wordMany, Option.bind_some, bindv, gd_t b0, gd_t b1, gd_t b54, i0, i1, i54, i2, i15, i27]
  rw [gd_t (inb_k (m := 2) rfl (by omega) (by omega) (by omega)), gd_t (inb_k (m := 15) rfl (by omega) (by omega) (by omega)), gd_t (inb_k (m := 27) rfl (by omega) (by omega) (by omega))]
  simp (disch := omega) only [rI_ne, rI_eq, z0, z1]
  have L := ok_laysAllWords (s := wI (wI (wI (wI (wI (wI s 43 0 (2 + n) a) 43 0 (15 + n) b) 43 0 (27 + n) c) 43 0 0 (rI s 43 0 0)) 43 0 1 (rI s 43 0 1)) 43 0 54 (rI s 43 0 54 + 1)) (n := n + 1) (by rw [rI_eq rfl, e1]; omega) (by omega)
  refine ok_fr L (fr_m_laysAllWords _) (fun s' h F => ?_)
  have e : ∀ i, rI s' 43 0 i = _ := fun i => F.i 43 0 i (nh rfl)
  rw [rI_eq rfl] at h
  refine ⟨by rw [e, rI_eq rfl]; exact h.1, h.2, ?_, ?_⟩
  · rw [e, e, e, e]
    simp (disch := omega) only [rI_ne, rI_eq]
    exact ⟨trivial, trivial, trivial, trivial⟩
  · intro i g1 g2 g3 g4
    rw [e, rI_ne (by omega)]
    by_cases j1 : i = 1
    · subst j1; rw [rI_eq rfl]
    · rw [rI_ne (by omega)]
      by_cases j0 : i = 0
      · subst j0; rw [rI_eq rfl]
      · rw [rI_ne (by omega), rI_ne (by omega), rI_ne (by omega), rI_ne (by omega)]
theorem q_x1_addWord {s : Sg} {g n : Nat} (hn : (rI s 1 g 7).toInt = n) (n12 : n < 12) (a b c : Int32) :
    x1_addWord s g a b c = some (wI (wI (wI (wI s 12 g n a) 13 g n b) 14 g n c) 1 g 7 (rI s 1 g 7 + 1)) := by
  have hi : ix (rI s 1 g 7) = n := by rw [ix_eq, hn]; omega
  have hb : inb (rI s 1 g 7) 12 := inb_iff.mpr (by omega)
  unfold x1_addWord x1_addWord_G
  rw [gif_f (by rw [ti_lt, hn]; simp only [li_0]; omega), gif_t (by rw [ti_lt, hn]; simp only [li_12]; omega)]
  simp (disch := omega) only [rI_ne, gd_t hb, hi]
theorem MW_w {f f' : Nat → Int32} (h : MW f) {n : Nat} (hn : (f 54).toInt = n) (n12 : n < 12) (hf : ∀ i, i ≠ 2 + n → i ≠ 15 + n → i ≠ 27 + n → i ≠ 54 → f' i = f i) (h54 : (f' 54).toInt = n + 1)
    (hw : isWd (f' (2 + n)) (f' (15 + n)) (f' (27 + n))) : MW f' := by
  obtain ⟨a1, a2, a3, a4, a5, a6⟩ := h
  unfold MW
  rw [h54, hf 0 (by omega) (by omega) (by omega) (by omega), hf 1 (by omega) (by omega) (by omega) (by omega), hf 14 (by omega) (by omega) (by omega) (by omega), hf 51 (by omega) (by omega) (by omega) (by omega), hf 52 (by omega) (by omega) (by omega) (by omega), hf 53 (by omega) (by omega) (by omega) (by omega), hf 55 (by omega) (by omega) (by omega) (by omega), hf 56 (by omega) (by omega) (by omega) (by omega), hf 57 (by omega) (by omega) (by omega) (by omega)]
  refine ⟨by omega, fun w hw' => ?_, ⟨fun w hw' => a3.1 w (by omega), fun w hw' => a3.2 w (by omega)⟩, a4, ⟨a5.1, fun k hk => ?_⟩, a6⟩
  · by_cases g : w = n
    · subst g; exact hw
    · rw [hf (2 + w) (by omega) (by omega) (by omega) (by omega), hf (15 + w) (by omega) (by omega) (by omega) (by omega), hf (27 + w) (by omega) (by omega) (by omega) (by omega)]; exact a2 w (by omega)
  · rw [hf (39 + 2 * k) (by omega) (by omega) (by omega) (by omega), hf (40 + 2 * k) (by omega) (by omega) (by omega) (by omega)]; exact a5.2 k hk
theorem GX_w {sx : Sg} {f f' : Nat → Int32} (M : MW f) (h : GX sx 0 f) {n : Nat} (hn : (f 54).toInt = n) (n12 : n < 12) (hf : ∀ i, i ≠ 2 + n → i ≠ 15 + n → i ≠ 27 + n → i ≠ 54 → f' i = f i) (h54 : f' 54 = f 54 + 1) {a b c : Int32}
    (hw : f' (2 + n) = a ∧ f' (15 + n) = b ∧ f' (27 + n) = c) : GX (wI (wI (wI (wI sx 12 0 n a) 13 0 n b) 14 0 n c) 1 0 7 (f 54 + 1)) 0 f' := by
  have e1 : (f 54 + 1).toInt = n + 1 := by rw [ti_add (by rw [hn]; simp only [li_1]; omega) (by rw [hn]; simp only [li_1]; omega), hn]; rfl
  have s6 := M.2.2.2.2.1.1
  unfold GX at h ⊢
  rw [h54, hf 0 (by omega) (by omega) (by omega) (by omega), hf 1 (by omega) (by omega) (by omega) (by omega), hf 14 (by omega) (by omega) (by omega) (by omega), hf 51 (by omega) (by omega) (by omega) (by omega), hf 52 (by omega) (by omega) (by omega) (by omega), hf 53 (by omega) (by omega) (by omega) (by omega), hf 55 (by omega) (by omega) (by omega) (by omega), hf 56 (by omega) (by omega) (by omega) (by omega), hf 57 (by omega) (by omega) (by omega) (by omega)]
  simp (disch := omega) only [rI_ne, rI_eq]
  refine ⟨⟨trivial, h.1.2⟩, fun w hw' => ?_, h.2.2.1, ⟨h.2.2.2.1.1, fun k hk => ?_⟩, h.2.2.2.2⟩
  · rw [e1] at hw'
    by_cases g : w = n
    · subst g
      simp (disch := omega) only [rI_ne, rI_eq]
      exact ⟨hw.1.symm, hw.2.1.symm, hw.2.2.symm⟩
    · simp (disch := omega) only [rI_ne]
      rw [hf (2 + w) (by omega) (by omega) (by omega) (by omega), hf (15 + w) (by omega) (by omega) (by omega) (by omega), hf (27 + w) (by omega) (by omega) (by omega) (by omega)]; exact h.2.1 w (by omega)
  · rw [hf (39 + 2 * k) (by omega) (by omega) (by omega) (by omega), hf (40 + 2 * k) (by omega) (by omega) (by omega) (by omega)]; exact h.2.2.2.1.2 k hk
/-- one word more, on both sides -/
theorem add_both {sx sm : Sg} (h : InvB sx sm) {n : Nat} (hn : (rI sm 43 0 54).toInt = n) (n12 : n < 12) {a b c : Int32} (hw : isWd a b c) :
    ∃ sx' sm', x1_addWord sx 0 a b c = some sx' ∧ m_adds sm a b c = some sm' ∧ InvB sx' sm' ∧ (rI sm' 43 0 54).toInt = n + 1 := by
  have M := h.1.1
  have X := h.1.2.1
  have e7 : rI sx 1 0 7 = rI sm 43 0 54 := X.1.1
  obtain ⟨sm', hm, p1, p2, p3, p4⟩ := ok_m_adds M hn n12 a b c
  have e1 : (rI sm 43 0 54 + 1).toInt = n + 1 := by rw [ti_add (by rw [hn]; simp only [li_1]; omega) (by rw [hn]; simp only [li_1]; omega), hn]; rfl
  have h54 : (rI sm' 43 0 54).toInt = n + 1 := by rw [p3.2.2.2, e1]
  have G := fr_m_adds _ _ _ _ _ hm
  refine ⟨_, sm', q_x1_addWord (by rw [e7, hn]) n12 a b c, hm, ⟨⟨?_, ?_, ?_⟩, p1, fun w hw' => p2 w (by omega)⟩, h54⟩
  · refine MW_w M hn n12 p4 h54 ?_
    show isWd (rI sm' 43 0 _) (rI sm' 43 0 _) (rI sm' 43 0 _)
    rw [p3.1, p3.2.1, p3.2.2.1]; exact hw
  · have := GX_w M X hn n12 p4 p3.2.2.2 (a := a) (b := b) (c := c) ⟨p3.1, p3.2.1, p3.2.2.1⟩
    rw [e7]; exact this
  · exact LX_c (sx := sx) M.2.2.2.2.2.1.2 (fun c => rfl) (by rw [rN_wI, rN_wI, rN_wI, rN_wI]; omega) (fun t k c _ _ hk => by rw [rI_ne (.inl (by rintro rfl; cases hk)), rI_ne (.inl (by rintro rfl; cases hk)), rI_ne (.inl (by rintro rfl; cases hk)), rI_ne (.inl (by rintro rfl; cases hk))]) (fun t _ _ => rfl) (fun i hi => p4 i (by omega) (by omega) (by omega) (by omega)) h.1.2.2
theorem c_word {sx sm : Sg} (h : Inv sx sm) (a b c : Int32) : Call sx sm (x9_word sx a b c) (m_word sm a b c) := by
  have X := h.2.1.1.2.1
  have e7 : rI sx 1 0 7 = rI sm 43 0 54 := X.1.1
  obtain ⟨n, hn⟩ : ∃ n : Nat, (rI sm 43 0 54).toInt = n := ⟨_, (Int.toNat_of_nonneg h.2.1.n12.1).symm⟩
  have n12 : n ≤ 12 := by have := h.2.1.n12.2; omega
  unfold x9_word x9_word_G m_word m_word_G
  simp only [q_x9_canBeWord, q_m_canWord, q_m_wordMany, Option.bind_some, gdB0, gdB1, gdbI, gifbI, bindp]
  refine Call.gif (fun d => ?_) (fun d => refuse_both h (.inl rfl))
  by_cases g : n = 12
  · rw [gif_f (by rw [e7, ti_lt, hn, li_12]; omega), gif_t (by rw [ti_eq, hn, li_12]; omega)]; exact refuse_both h (.inr (.inr (.inr (.inl rfl))))
  · rw [gif_t (p := _ < _) (by rw [e7, ti_lt, hn, li_12]; omega), gif_f (p := _ = _) (by rw [ti_eq, hn, li_12]; omega)]
    obtain ⟨sx', sm', hx, hm, hB, h54⟩ := add_both h.2.1 hn (by omega) d
    simp only [hx, hm, Option.bind_some]
    have e7' : rI sx' 1 0 7 = rI sm' 43 0 54 := hB.1.2.1.1.1
    have F : Fr ((3, 1, 4) :: FP_x1_addWord 0) sx (wI sx' 3 0 3 0) := fr_wI ((fr_x1_addWord _ _ _ _ _ _ hx).mono (fun k i c h => .inr h)) (.inl ⟨rfl, .inr rfl, .inr rfl⟩)
    have G : Fr ((10, 1, 47) :: FP_m_adds) sm (wI sm' 10 0 46 0) := fr_wI ((fr_m_adds _ _ _ _ _ hm).mono (fun k i c h => .inr h)) (.inl ⟨rfl, .inr rfl, .inr rfl⟩)
    rw [rI_ne (by omega), e7']
    have F1 : Fr [(3, 1, 4)] sx' (wI sx' 3 0 3 0) := fr_wI fr_rfl (hit_is (by simp))
    have G1 : Fr [(10, 1, 47)] sm' (wI sm' 10 0 46 0) := fr_wI fr_rfl (hit_is (by simp))
    exact (answer_both (sx := wI sx' 3 0 3 0) (sm := wI sm' 10 0 46 0) ⟨InvA_fr F G rfl rfl rfl rfl rfl rfl rfl rfl h.1, InvB_fr F1 G1 rfl rfl rfl rfl rfl hB, LogR_0 (rI_eq rfl) (rI_eq rfl), InvC_fr F G rfl rfl rfl rfl rfl rfl h.2.2.2.1, InvE_fr F G rfl rfl rfl h.2.2.2.2.1, InvF_fr F G rfl (.inl rfl) (.inl ⟨rfl, rfl⟩) (.inl rfl) rfl h.2.2.2.2.2⟩ _).re (F.n _ _ _ (nh rfl))
