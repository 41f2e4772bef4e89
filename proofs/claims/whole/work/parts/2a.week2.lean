theorem ok_b114 {s : Sg} {v : Int32} : ok (m_weeks_b114 FU s v 0) (fun q => q.2 = v ∧ (∀ i, i < 15 → rI q.1 73 0 i = rI s 43 0 i) ∧ (∀ i, i < 15 → rI q.1 43 0 i = rI s 46 0 i) ∧ (∀ i, 15 ≤ i → rI q.1 43 0 i = rI s 43 0 i) ∧ rI q.1 10 0 0 = 0 ∧ ∀ c, c ≠ 0 → rI q.1 10 0 c = rI s 10 0 c) := by
  refine ok_loop (K := fun n (p : Sg × Int32) => m_weeks_b114 n p.1 v p.2) (I := fun p => 0 ≤ p.2.toInt ∧ p.2.toInt ≤ 15 ∧ (∀ i : Nat, (i : Int) < p.2.toInt → rI p.1 73 0 i = rI s 43 0 i) ∧ (∀ i, rI p.1 43 0 i = rI s 43 0 i) ∧ (∀ i, rI p.1 46 0 i = rI s 46 0 i) ∧ ∀ i, rI p.1 10 0 i = rI s 10 0 i)
    (μ := fun p => 15 - p.2.toInt.toNat) ?_ FU (s, 0) ⟨by simp only [li_0]; omega, by simp only [li_0]; omega, fun i hi => by simp only [li_0] at hi; omega, fun i => rfl, fun i => rfl, fun i => rfl⟩ (by show _ < 20000; omega)
  rintro n ⟨s2, j⟩ ⟨g2, g3, g4, g5, g6, g7⟩ ih
  simp only at g2 g3 g4 g5 g6 g7 ih
  show ok (m_weeks_b114_G _ _ _ s2 v j) _
  unfold m_weeks_b114_G
  refine ok_gif (fun c => ?_) (fun c => ?_)
  · rw [ti_lt, li_15] at c
    have e1 : (j + 1).toInt = j.toInt + 1 := by simp (disch := omega) only [Int32.toInt_add, Int32.toInt_sub, Int32.toInt_mul, Int32.toInt_neg, bm32, li_0, li_1, li_2, li_3, li_4, li_5, li_6, li_7, li_8, li_9, li_10, li_11, li_12, li_13, li_14, li_15, li_16, li_17, li_18, li_19, li_20, li_21, li_22, li_23, li_24, li_25, li_26, li_27, li_28, li_29, li_30, li_31, li_32, li_33, li_34, li_35, li_36, li_37, li_38, li_39, li_40, li_41, li_42, li_43, li_44, li_45, li_46, li_47, li_48, li_49, li_50, li_51, li_52, li_53, li_54, li_55, li_56, li_57, li_58, li_59, li_60, li_61, li_62, li_63, li_64, li_65, li_66, li_67, li_68, li_69, li_70, li_71, li_72, li_73, li_74, li_75, li_76, li_77, li_78, li_91, li_93, li_96, li_97, li_99, li_100, li_122, li_138, li_255, li_256, li_400, li_401, li_625, li_800, li_999, li_1000, li_1001, li_1103, li_2000, li_2037, li_2038, li_2039, li_2040, li_2041, li_2042, li_2043, li_2044, li_2045, li_2046, li_2047, li_2048, li_2049, li_2050, li_2051, li_2052, li_2053, li_2054, li_2055, li_2056, li_2057, li_2058, li_2059, li_2060, li_2061, li_2062, li_2091, li_2093, li_2400, li_2865, li_3000, li_3002, li_3003, li_3005, li_3006, li_3007, li_3008, li_3009, li_3010, li_3011, li_3012, li_3013, li_3020, li_3024, li_3025, li_3026, li_3999, li_4000, li_4095, li_4096, li_5665, li_11330, li_12345, li_15625, li_1000000, li_1000003, li_100000000, li_1000000000, ti_lt, ti_eq, inb_iff, ix_eq]
    refine ok_gd (inb_iff.mpr (by omega)) (ok_gd (inb_iff.mpr (by omega)) ?_)
    rw [g5]
    refine ih (wI s2 73 0 (ix j) (rI s 43 0 (ix j)), j + 1) ⟨by simp only [e1]; omega, by simp only [e1]; omega, fun i hi => ?_, fun i => ?_, fun i => ?_, fun i => ?_⟩ (by simp only [e1]; omega)
    · simp only [e1] at hi
      by_cases q : i = j.toInt.toNat
      · subst q; rw [rI_eq (show j.toInt.toNat = ix j from rfl)]; rfl
      · rw [rI_ne (by rw [ix_eq]; omega)]; exact g4 i (by omega)
    · rw [rI_ne (by omega)]; exact g5 i
    · rw [rI_ne (by omega)]; exact g6 i
    · rw [rI_ne (by omega)]; exact g7 i
  · rw [ti_lt, li_15] at c
    refine ok_bind (ok_fr (ok_takesBack (k := 0) rfl (by omega)) (fr_m_takesBack _ _) (fun s3 ⟨p1, p2⟩ F => ?_))
    rw [bindp, q_m_good]
    refine ok_some ⟨rfl, fun i hi => ?_, fun i hi => ?_, fun i hi => ?_, rI_eq rfl, fun c hc => ?_⟩
    · simp only []; rw [rI_ne (by omega), F.i 73 0 i (nh rfl)]; exact g4 i (by omega)
    · simp only []; rw [rI_ne (by omega), p1 i hi, g6]; congr 1; omega
    · simp only []; rw [rI_ne (by omega), p2 i hi]; exact g5 i
    · simp only []; rw [rI_ne (by omega), F.i 10 0 c (nh rfl)]; exact g7 c
theorem c_weeks {sx sm : Sg} (h : Inv sx sm) (a b : Int32) : Call sx sm (x9_weeks sx a b) (m_weeks sm a b) := by
  have X := h.2.1.1.2.1
  have n12 := h.2.1.n12
  have e7 : rI sx 1 0 7 = rI sm 43 0 54 := X.1.1
  by_cases c : (0 ≤ a.toInt ∧ a.toInt ≤ 1000000) ∧ 1 ≤ b.toInt ∧ b.toInt ≤ 60
  · by_cases c0 : rI sm 43 0 54 = 0
    · have ex : x9_weeks sx a b = x9_refuse sx (-3) := by
        unfold x9_weeks x9_weeks_G
        rw [gif_f (by rw [ti_lt, li_0]; omega), gif_f (by rw [ti_lt]; show ¬ (1000000 : Int) < a.toInt; omega), gif_f (by rw [ti_lt, li_1]; omega), gif_f (by rw [ti_lt, li_60]; omega), gif_t (by rw [e7]; exact c0), bindp]
      have em : m_weeks sm a b = m_refuses sm (-3) := by
        unfold m_weeks m_weeks_G
        simp only [q_m_lies, q_m_wordMany, Option.bind_some, gdB0, gdB1, gdbI, gifbI, li_0, li_1, li_60, bindp]
        rw [gif_t (show 0 ≤ a.toInt ∧ a.toInt ≤ Int32.toInt 1000000 from c.1), gif_t c.2, gif_t c0]
      rw [ex, em]; exact refuse_both h (.inr (.inr (.inl rfl)))
    · have n1 : 1 ≤ (rI sm 43 0 54).toInt := by rw [ti_eq, li_0] at c0; omega
      obtain ⟨s6, hs6, q6⟩ := ok_copyFrom (s := sx) (g0 := 2) (g1 := 0) (by omega)
      have F6 := fr_x1_copyFrom _ _ _ _ hs6
      have A6 : GA s6 2 (sm.1 43 0) := GA_copy h.2.1.1 q6 (F6.n _ _ _ (nh rfl)) (fun t k c ht hk => F6.i _ _ _ (clrT_no rfl hk ht)) (fun t ht => F6.n _ _ _ (clrT_no rfl rfl ht))
      have ex : x9_weeks sx a b = x9_weeks_b64 FU s6 b a 0 0 := by
        unfold x9_weeks x9_weeks_G
        rw [gif_f (by rw [ti_lt, li_0]; omega), gif_f (by rw [ti_lt]; show ¬ (1000000 : Int) < a.toInt; omega), gif_f (by rw [ti_lt, li_1]; omega), gif_f (by rw [ti_lt, li_60]; omega), gif_f (by rw [e7]; exact c0), hs6]; rfl
      obtain ⟨s10, hs10, p1, p2⟩ := ok_laysAside (s := wI (wI sm 10 0 67 a) 10 0 66 (rI sm 43 0 54)) (a := 0) (k := 0) rfl (by omega)
      have G10 := fr_m_laysAside _ _ _ hs10
      have em : m_weeks sm a b = m_weeks_b63 FU s10 b 0 0 := by
        unfold m_weeks m_weeks_G
        simp only [q_m_lies, q_m_wordMany, Option.bind_some, gdB0, gdB1, gdbI, gifbI, li_0, li_1, li_60, bindp]
        rw [gif_t (show 0 ≤ a.toInt ∧ a.toInt ≤ Int32.toInt 1000000 from c.1), gif_t c.2, gif_f c0]
        rw [show rI (wI sm 10 0 67 a) 43 0 54 = rI sm 43 0 54 from rI_ne (by omega), hs10]; rfl
      have k43 : ∀ i, rI s10 43 0 i = rI sm 43 0 i := fun i => by rw [G10.i 43 0 i (nh rfl), rI_ne (by omega), rI_ne (by omega)]
      have k10 : ∀ i, i ≠ 66 → i ≠ 67 → rI s10 10 0 i = rI sm 10 0 i := fun i h1 h2 => by rw [G10.i 10 0 i (nh rfl), rI_ne (by omega), rI_ne (by omega)]
      have k66 : rI s10 10 0 66 = rI sm 43 0 54 := by rw [G10.i 10 0 66 (nh rfl), rI_eq rfl]
      have k67 : rI s10 10 0 67 = a := by rw [G10.i 10 0 67 (nh rfl), rI_ne (by omega), rI_eq rfl]
      have k57 : ∀ i, rI s10 57 0 i = rI sm 57 0 i := fun i => by rw [G10.i 57 0 i (nh rfl), rI_ne (by omega), rI_ne (by omega)]
      obtain ⟨N, hN⟩ : ∃ n : Nat, b.toInt = n := ⟨_, (Int.toNat_of_nonneg (by omega)).symm⟩
      obtain ⟨sx1, sm1, r, u1, u2, u3, u4, u5, u6, u7, u8⟩ := weeks_loop hN (by omega) N s6 s10 a 0 0 FU FU (by rw [li_0]; omega) (by decide) (by show _ < 20000; omega) (by show _ < 20000; omega) (GA_f (fun i _ => k43 i) A6) (by rw [k10 36 (by omega) (by omega), k43]; exact h.2.1.2.1) (fun w hw => by rw [k43] at hw; rw [k57]; exact h.2.1.2.2 w hw) (by rw [k43]; exact n1) (by omega) k67
      obtain ⟨⟨sm2, v⟩, hm2, w1, w2, w3, w4, w5, w6⟩ := ok_b114 (s := sm1) (v := r)
      simp only at w1 w2 w3 w4 w5 w6
      subst w1
      have exx : x9_weeks_b64 FU s6 b a 0 0 = some (wI sx1 9 0 16 0, v) := by rw [u1, q_x9_answer]
      have emm : m_weeks_b63 FU s10 b 0 0 = some (sm2, v) := by rw [u2, hm2]
      have F7 := fr_x9_weeks_b64 _ _ _ _ _ _ _ exx
      have G7 := fr_m_weeks_b63 _ _ _ _ _ _ emm
      have F : Fr (FP_x1_copyFrom 2 ++ FP_x9_weeks_b64) sx (wI sx1 9 0 16 0) := by
        have ap : ∀ (L M : FPt) k i c, hit (L ++ M) k i c ↔ hit L k i c ∨ hit M k i c := by
          intro L
          induction L with
          | nil => intro M k i c; exact ⟨.inr, fun x => x.elim False.elim id⟩
          | cons e t ih =>
            intro M k i c
            show ((_ ∨ hit (t ++ M) k i c) ↔ _)
            rw [ih]
            exact ⟨fun x => x.elim (fun y => .inl (.inl y)) (fun y => y.elim (fun z => .inl (.inr z)) .inr), fun x => x.elim (fun y => y.elim .inl (fun z => .inr (.inl z))) (fun y => .inr (.inr y))⟩
        exact (F6.mono (fun k i c x => (ap _ _ k i c).mpr (.inl x))).trans (F7.mono (fun k i c x => (ap _ _ k i c).mpr (.inr x)))
      have gm : ∀ (k c : Nat), (k = 42 ∨ k = 48 ∨ k = 57 ∨ k = 59 ∨ k = 44 ∨ k = 45 ∨ k = 47) → rI sm2 k 0 c = rI sm k 0 c := by
        intro k c hk
        have e1 : rI sm2 k 0 c = rI s10 k 0 c := by rcases hk with rfl | rfl | rfl | rfl | rfl | rfl | rfl <;> exact G7.i _ _ _ (nh rfl)
        have e2 : rI s10 k 0 c = rI (wI (wI sm 10 0 67 a) 10 0 66 (rI sm 43 0 54)) k 0 c := by rcases hk with rfl | rfl | rfl | rfl | rfl | rfl | rfl <;> exact G10.i _ _ _ (nh rfl)
        rw [e1, e2, rI_ne (by omega), rI_ne (by omega)]
      have gk : ∀ i, rI sm2 43 0 i = rI sm 43 0 i := by
        intro i
        by_cases hi : i < 15
        · rw [w3 i hi, u5]
          have := p1 i hi
          rw [show 15 * 0 + i = i by omega, rI_ne (by omega), rI_ne (by omega)] at this; exact this
        · rw [w4 i (by omega), u4 i (by omega), k43]
      have g10 : ∀ c, (c = 13 ∨ c = 6 ∨ c = 58 ∨ c = 14 ∨ c = 36 ∨ c = 46) → rI sm2 10 0 c = rI sm 10 0 c := by
        intro c hc
        have e1 : rI sm2 10 0 c = rI s10 10 0 c := by rcases hc with rfl | rfl | rfl | rfl | rfl | rfl <;> exact G7.i _ _ _ (nh rfl)
        rw [e1, k10 c (by omega) (by omega)]
      refine ⟨wI sx1 9 0 16 0, sm2, v, by rw [ex, exx], by rw [em, emm], ⟨?_, ⟨?_, ?_, ?_⟩, ?_, ?_, ?_, ?_⟩, by rw [F.n _ _ _ (nh rfl)]; omega⟩
      · obtain ⟨a1, a2, a3, a4⟩ := h.1
        have F1 : ∀ c, c ≠ 16 → rI (wI sx1 9 0 16 0) 9 0 c = rI sx 9 0 c := by
          intro c hc
          rw [F7.i 9 0 c (by intro x; simp [hit] at x; omega), F6.i 9 0 c (nh rfl)]
        have F39 : ∀ c, rI (wI sx1 9 0 16 0) 39 0 c = rI sx 39 0 c := fun c => F.i _ _ _ (nh rfl)
        have F41 : ∀ c, rI (wI sx1 9 0 16 0) 41 0 c = rI sx 41 0 c := fun c => F.i _ _ _ (nh rfl)
        have F66 : rI (wI sx1 9 0 16 0) 6 0 6 = rI sx 6 0 6 := F.i _ _ _ (nh rfl)
        unfold InvA
        rw [F1 13 (by omega), F1 14 (by omega), F1 15 (by omega), rI_eq rfl, F66, g10 13 (by omega), g10 6 (by omega), g10 58 (by omega), w5, g10 14 (by omega), F41, F41, F41, F41, F41, gm 42 _ (by omega), gm 42 _ (by omega), gm 42 _ (by omega), gm 42 _ (by omega), gm 42 _ (by omega)]
        refine ⟨a1, fun i hi => ?_, ⟨a3.1, a3.2.1, rfl, a3.2.2.2⟩, a4⟩
        rw [F39, gm 48 _ (by omega)]; exact a2 i hi
      · exact GA_fr F rfl rfl rfl (fun i _ => gk i) h.2.1.1
      · rw [gk, g10 36 (by omega)]; exact h.2.1.2.1
      · intro w hw; rw [gk] at hw; rw [gm 57 _ (by omega)]; exact h.2.1.2.2 w hw
      · exact LogR_c h.log12 (F.i _ _ _ (nh rfl)) (fun c => F.i _ _ _ (nh rfl)) (fun c => F.i _ _ _ (nh rfl)) (fun c => F.i _ _ _ (nh rfl)) (g10 46 (by omega)) (fun c => gm 59 c (by omega)) (fun c _ => gk c) h.2.2.1
      · intro k hk
        have e1 : rI (wI sx1 9 0 16 0) 38 0 k = rI sx 38 0 k := F.i _ _ _ (nh rfl)
        have hC := h.2.2.2.1 k hk
        rw [e1, gm 45 k (by omega)]
        refine ⟨hC.1, hC.2.1, fun g => ?_⟩
        have hf : ∀ i, imf sm2 k i = imf sm k i := fun i => gm 44 _ (by omega)
        rcases (by omega : k = 0 ∨ k = 1) with rfl | rfl
        · exact GA_fr F rfl rfl rfl (fun i _ => hf i) (hC.2.2 g)
        · exact GA_fr F rfl rfl rfl (fun i _ => hf i) (hC.2.2 g)
      · right
        have X1 := u3.2.1
        have M1 := u3.1
        have e66 : rI sm2 10 0 66 = rI sm 43 0 54 := by rw [w6 66 (by omega), u7, k66]
        have e54 : rI sm1 43 0 54 = rI sm 43 0 54 := by rw [u4 54 (by omega), k43]
        rw [e66, rI_ne (by omega), rI_ne (by omega), rI_ne (by omega)]
        refine ⟨by rw [show rI sx1 1 2 7 = rI sm1 43 0 54 from X1.1.1, e54], n12.1, n12.2, ?_, ?_, fun w hw => ?_⟩
        · rw [w2 0 (by omega)]; exact X1.1.2.1
        · rw [w2 1 (by omega)]; exact X1.1.2.2
        · rw [rI_ne (by omega), w2 (2 + w) (by omega)]; exact (X1.2.1 w (show _ < (rI sm1 43 0 54).toInt by rw [e54]; exact hw)).1
      · have hF := h.2.2.2.2.2
        unfold InvF at hF ⊢
        rw [F.i 76 0 0 (nh rfl), F.i 76 0 1 (nh rfl), F.i 76 0 2 (nh rfl), F.i 76 0 3 (nh rfl), F.i 77 0 0 (nh rfl), F.i 77 0 1 (nh rfl), F.i 77 0 2 (nh rfl), F.i 77 0 3 (nh rfl), F.i 78 0 0 (nh rfl), F.i 78 0 1 (nh rfl), F.i 78 0 2 (nh rfl), F.i 78 0 3 (nh rfl), F.n 36 0 0 (nh rfl), F.n 7 0 1 (nh rfl), F.n 7 0 2 (nh rfl), F.n 79 0 0 (nh rfl)]
        exact ⟨hF.1, hF.2.1, hF.2.2.1, hF.2.2.2.1, fun i hi => by rw [gm 47 i (by omega)]; exact hF.2.2.2.2 i hi⟩
  · have ex : x9_weeks sx a b = x9_refuse sx (-1) := by
      unfold x9_weeks x9_weeks_G
      simp only [bindp]
      rw [ti_lt, ti_lt, ti_lt, ti_lt, li_0, li_1, li_60]
      refine gif_eq (fun _ => rfl) (fun d1 => gif_eq (fun _ => rfl) (fun d2 => gif_eq (fun _ => rfl) (fun d3 => gif_eq (fun _ => rfl) (fun d4 => absurd ⟨⟨by omega, ?_⟩, by omega, by omega⟩ c))))
      have : ¬ (1000000 : Int) < a.toInt := d2
      omega
    have em : m_weeks sm a b = m_refuses sm (-1) := by
      unfold m_weeks m_weeks_G
      simp only [q_m_lies, Option.bind_some, gdB0, gdB1, gdbI, gifbI, li_0, li_1, li_60, bindp]
      refine gif_eq (fun d1 => gif_eq (fun d2 => absurd ⟨d1, d2⟩ c) (fun _ => rfl)) (fun _ => rfl)
    rw [ex, em]; exact refuse_both h (.inl rfl)
