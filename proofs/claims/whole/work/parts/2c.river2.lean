/-! RIVERS, the model -/
def SP (s : Sg) (hh : Nat) (p : Nat → Int) (w0 j : Nat) : Prop := (rI s 69 0 hh).toInt = (j - 1 : Nat) ∧ ∀ k : Nat, k + 1 < j → (rI s 67 0 (13 * hh + k)).toInt = sumW p w0 (k + 1)
def KS (s s' : Sg) (hh : Nat) : Prop := ∀ k i c, ¬ (k = 69 ∧ i = 0 ∧ c = hh) → ¬ (k = 67 ∧ i = 0 ∧ 13 * hh ≤ c ∧ c < 13 * hh + 13) → rI s' k i c = rI s k i c
theorem KS.trans {a b c : Sg} {hh : Nat} (h : KS a b hh) (g : KS b c hh) : KS a c hh := fun k i c h1 h2 => by rw [g k i c h1 h2, h k i c h1 h2]
theorem ok_addsSpaced {s : Sg} {H l5 l6 v : Int32} {hh j w0 : Nat} {p : Nat → Int} (hH : H.toInt = hh) (h2 : hh < 2) (jj : j ≤ 12) (e6 : l6 = if j = 0 then 1 else 0) (e5 : l5.toInt = sumW p w0 j) (hs : 0 ≤ sumW p w0 j ∧ sumW p w0 j ≤ 1000) (hv : v.toInt = p (w0 + j)) (rv : 0 ≤ p (w0 + j) ∧ p (w0 + j) ≤ 20) (S : SP s hh p w0 j) :
    ok (m_addsSpaced s H l5 l6 v) (fun q => q.2.toInt = sumW p w0 (j + 1) ∧ SP q.1 hh p w0 (j + 1) ∧ KS s q.1 hh) := by
  unfold m_addsSpaced m_addsSpaced_G
  have iH : ix H = hh := by rw [ix_eq, hH]; omega
  have bH : inb H 2 := inb_iff.mpr (by omega)
  by_cases c : j = 0
  · subst c
    rw [e6, if_pos rfl, gif_f (by decide)]
    refine ok_some ⟨?_, ⟨S.1, fun k hk => by omega⟩, fun k i c _ _ => rfl⟩
    simp only []
    rw [sumW_s, if_pos rfl, hv]; simp only [sumW]; omega
  · rw [e6, if_neg c, gif_t rfl, gd_t bH, iH]
    have t1 : (13 * H).toInt = 13 * hh := by simp (disch := omega) only [Int32.toInt_add, Int32.toInt_sub, Int32.toInt_mul, Int32.toInt_neg, bm32, li_0, li_1, li_2, li_3, li_4, li_5, li_6, li_7, li_8, li_9, li_10, li_11, li_12, li_13, li_14, li_15, li_16, li_17, li_18, li_19, li_20, li_21, li_22, li_23, li_24, li_25, li_26, li_27, li_28, li_29, li_30, li_31, li_32, li_33, li_34, li_35, li_36, li_37, li_38, li_39, li_40, li_41, li_42, li_43, li_44, li_45, li_46, li_47, li_48, li_49, li_50, li_51, li_52, li_53, li_54, li_55, li_56, li_57, li_58, li_59, li_60, li_61, li_62, li_63, li_64, li_65, li_66, li_67, li_68, li_69, li_70, li_71, li_72, li_73, li_74, li_75, li_76, li_77, li_78, li_91, li_93, li_96, li_97, li_99, li_100, li_122, li_138, li_255, li_256, li_400, li_401, li_625, li_800, li_999, li_1000, li_1001, li_1103, li_2000, li_2037, li_2038, li_2039, li_2040, li_2041, li_2042, li_2043, li_2044, li_2045, li_2046, li_2047, li_2048, li_2049, li_2050, li_2051, li_2052, li_2053, li_2054, li_2055, li_2056, li_2057, li_2058, li_2059, li_2060, li_2061, li_2062, li_2091, li_2093, li_2400, li_2865, li_3000, li_3002, li_3003, li_3005, li_3006, li_3007, li_3008, li_3009, li_3010, li_3011, li_3012, li_3013, li_3020, li_3024, li_3025, li_3026, li_3999, li_4000, li_4095, li_4096, li_5665, li_11330, li_12345, li_15625, li_1000000, li_1000003, li_100000000, li_1000000000, ti_lt, ti_eq, inb_iff, ix_eq, hH]
    have t2 : (13 * H + rI s 69 0 hh).toInt = 13 * hh + (j - 1) := by rw [ti_add (by rw [t1, S.1]; omega) (by rw [t1, S.1]; omega), t1, S.1]; omega
    rw [gd_t (inb_iff.mpr (by omega)), gd_t bH, gd_t bH, show ix (13 * H + rI s 69 0 hh) = 13 * hh + (j - 1) by rw [ix_eq, t2]; omega]
    have t3 : (rI s 69 0 hh + 1).toInt = j := by rw [ti_add (by rw [S.1, li_1]; omega) (by rw [S.1, li_1]; omega), S.1, li_1]; omega
    refine ok_some ⟨?_, ⟨?_, fun k hk => ?_⟩, fun k i c h1 h2 => ?_⟩
    · simp only []
      have t4 : (l5 + 1).toInt = sumW p w0 j + 1 := by rw [ti_add (by rw [e5, li_1]; omega) (by rw [e5, li_1]; omega), e5, li_1]
      rw [ti_add (by rw [t4, hv]; omega) (by rw [t4, hv]; omega), t4, hv, sumW_s, if_neg c]; omega
    · simp only []
      rw [rI_eq rfl, rI_ne (by omega), t3]; omega
    · simp only []
      rw [rI_ne (by omega)]
      by_cases e : k = j - 1
      · subst e; rw [rI_eq rfl, e5, show j - 1 + 1 = j by omega]
      · rw [rI_ne (by omega)]; exact S.2 k (by omega)
    · simp only []
      rw [rI_ne (by omega), rI_ne (by omega)]
theorem ok_spaces {s : Sg} {f : Nat → Int32} {n : Nat} (e43 : ∀ c, rI s 43 0 c = f c) (n12 : n ≤ 12) (R : RD n (wdF f) (ftF f)) {fr to j : Nat} (h1 : fr ≤ to) (h2 : to < 2 * n) {H J Y : Int32} {hh : Nat} (hH : H.toInt = hh) (hh2 : hh < 2) (hJ : J.toInt = j) (hj : j < 24) (hY : Y.toInt = (fr : Int) - 1) (hT : (rI s 58 0 j).toInt = to) :
    ok (m_laysSpaces_b16 s H J Y) (fun s' => SP s' hh (pc (wdF f) (ftF f) fr to) (fr / 2) (to / 2 + 1 - fr / 2) ∧ KS s s' hh) := by
  have iJ : ix J = j := by rw [ix_eq, hJ]; omega
  have iH : ix H = hh := by rw [ix_eq, hH]; omega
  have tt : ((rI s 58 0 j + 1) / 2).toInt = (to + 1) / 2 := by
    have : (rI s 58 0 j + 1).toInt = to + 1 := by simp (disch := omega) only [Int32.toInt_add, Int32.toInt_sub, Int32.toInt_mul, Int32.toInt_neg, bm32, li_0, li_1, li_2, li_3, li_4, li_5, li_6, li_7, li_8, li_9, li_10, li_11, li_12, li_13, li_14, li_15, li_16, li_17, li_18, li_19, li_20, li_21, li_22, li_23, li_24, li_25, li_26, li_27, li_28, li_29, li_30, li_31, li_32, li_33, li_34, li_35, li_36, li_37, li_38, li_39, li_40, li_41, li_42, li_43, li_44, li_45, li_46, li_47, li_48, li_49, li_50, li_51, li_52, li_53, li_54, li_55, li_56, li_57, li_58, li_59, li_60, li_61, li_62, li_63, li_64, li_65, li_66, li_67, li_68, li_69, li_70, li_71, li_72, li_73, li_74, li_75, li_76, li_77, li_78, li_91, li_93, li_96, li_97, li_99, li_100, li_122, li_138, li_255, li_256, li_400, li_401, li_625, li_800, li_999, li_1000, li_1001, li_1103, li_2000, li_2037, li_2038, li_2039, li_2040, li_2041, li_2042, li_2043, li_2044, li_2045, li_2046, li_2047, li_2048, li_2049, li_2050, li_2051, li_2052, li_2053, li_2054, li_2055, li_2056, li_2057, li_2058, li_2059, li_2060, li_2061, li_2062, li_2091, li_2093, li_2400, li_2865, li_3000, li_3002, li_3003, li_3005, li_3006, li_3007, li_3008, li_3009, li_3010, li_3011, li_3012, li_3013, li_3020, li_3024, li_3025, li_3026, li_3999, li_4000, li_4095, li_4096, li_5665, li_11330, li_12345, li_15625, li_1000000, li_1000003, li_100000000, li_1000000000, ti_lt, ti_eq, inb_iff, ix_eq, hT]
    rw [ti_div2 (by omega), this]
  have td : (rI s 58 0 j / 2).toInt = to / 2 := by rw [ti_div2 (by omega), hT]
  unfold m_laysSpaces_b16 m_laysSpaces_b16_G
  rw [gd_t (inb_iff.mpr (by omega)), gd_t (inb_iff.mpr (by omega)), iJ, iH]
  generalize rI s 58 0 j = T at hT tt td ⊢
  simp only [q_isWithin, Option.bind_some, gdB0, gdB1, gdbI, gifbI]
  have S0 : SP (wI s 69 0 hh 0) hh (pc (wdF f) (ftF f) fr to) (fr / 2) 0 := ⟨by rw [rI_eq rfl]; rfl, fun k hk => by omega⟩
  have K0 : KS s (wI s 69 0 hh 0) hh := fun k i c a b => rI_ne (by omega)
  generalize wI s 69 0 hh 0 = s1 at S0 K0 ⊢
  have k43 : ∀ {s' : Sg}, KS s s' hh → ∀ c, rI s' 43 0 c = f c := fun K c => by rw [K 43 0 c (by omega) (by omega)]; exact e43 c
  have sr : ∀ j', fr / 2 + j' ≤ n → 0 ≤ sumW (pc (wdF f) (ftF f) fr to) (fr / 2) j' ∧ sumW (pc (wdF f) (ftF f) fr to) (fr / 2) j' ≤ 1000 := fun j' hj' => by
    have := sumW_r (p := pc (wdF f) (ftF f) fr to) (w0 := fr / 2) (k := j') (fun i hi => pc_r R (by omega)); omega
  have loop : ∀ (s1 : Sg) (j : Nat) (l5 l6 l : Int32), KS s s1 hh → SP s1 hh (pc (wdF f) (ftF f) fr to) (fr / 2) j → l5.toInt = sumW (pc (wdF f) (ftF f) fr to) (fr / 2) j → (l6 = if j = 0 then 1 else 0) → (∀ w, fr / 2 + j ≤ w → w < (to + 1) / 2 → pc (wdF f) (ftF f) fr to w = (wdF f w).toInt) → fr / 2 + j ≤ (to + 1) / 2 → l.toInt = (fr / 2 + j : Nat) →
      ok (m_laysSpaces_b96 FU s1 H T l5 l6 l) (fun s' => SP s' hh (pc (wdF f) (ftF f) fr to) (fr / 2) (to / 2 + 1 - fr / 2) ∧ KS s s' hh) := by
    intro s1 j l5 l6 l hK hS e5 e6 hp hj hl
    refine ok_loop (K := fun k (p : Sg × Int32 × Int32 × Int32) => m_laysSpaces_b96 k p.1 H T p.2.1 p.2.2.1 p.2.2.2) (I := fun p => ∃ j' : Nat, j ≤ j' ∧ fr / 2 + j' ≤ (to + 1) / 2 ∧ p.2.2.2.toInt = (fr / 2 + j' : Nat) ∧ KS s p.1 hh ∧ SP p.1 hh (pc (wdF f) (ftF f) fr to) (fr / 2) j' ∧ p.2.1.toInt = sumW (pc (wdF f) (ftF f) fr to) (fr / 2) j' ∧ (p.2.2.1 = if j' = 0 then 1 else 0))
      (μ := fun p => 13 - p.2.2.2.toInt.toNat) ?_ FU (s1, l5, l6, l) ⟨j, Nat.le_refl _, hj, hl, hK, hS, e5, e6⟩ (by show _ < 20000; omega)
    rintro k ⟨s2, l5, l6, l2⟩ ⟨j', q0, q1, q2, q3, q4, q5, q6⟩ ih
    simp only at q0 q1 q2 q3 q4 q5 q6 ih
    show ok (m_laysSpaces_b96_G _ _ _ s2 H T l5 l6 l2) _
    unfold m_laysSpaces_b96_G
    rw [gd_t (by decide)]
    refine ok_gif (fun c => ?_) (fun c => ?_)
    · rw [ti_lt, tt, q2] at c
      have hw : fr / 2 + j' < n := by omega
      have pr := pc_r R (fr := fr) (to := to) hw
      rw [gd_t (inb_k (m := 2) rfl (by omega) (by omega) (by omega)), ix_k (m := 2) rfl (by omega) (by omega), show 2 + l2.toInt.toNat = 2 + (fr / 2 + j') by rw [q2]; omega, k43 q3]
      refine ok_bind (ok_mono (ok_addsSpaced hH hh2 (by omega) q6 q5 (sr j' (by omega)) (show (f (2 + (fr / 2 + j'))).toInt = _ from (hp (fr / 2 + j') (by omega) (by omega)).symm) pr q4) (fun q ⟨p1, p2, p3⟩ => ?_))
      have tl : (l2 + 1).toInt = (fr / 2 + (j' + 1) : Nat) := by rw [ti_add (by rw [q2, li_1]; omega) (by rw [q2, li_1]; omega), q2, li_1]; omega
      exact ih (q.1, q.2, 0, l2 + 1) ⟨j' + 1, by omega, by omega, by rw [tl], q3.trans p3, p2, p1, by rw [if_neg (by omega)]⟩ (by simp only [tl, q2]; omega)
    · rw [ti_lt, tt, q2] at c
      simp only [q_isWithin, Option.bind_some, gdB0, gdB1, gdbI, gifbI]
      by_cases e : to % 2 = 0
      · rw [gif_t (by rw [hT]; omega), gd_t (by decide), gd_t (inb_k (m := 15) rfl (by omega) (by omega) (by omega)), ix_k (m := 15) rfl (by omega) (by omega), show 15 + (T / 2).toInt.toNat = 15 + (fr / 2 + j') by rw [td]; omega, k43 q3]
        have pr := pc_r R (fr := fr) (to := to) (w := fr / 2 + j') (by omega)
        have epc : pc (wdF f) (ftF f) fr to (fr / 2 + j') = (f (15 + (fr / 2 + j'))).toInt := by unfold pc; rw [if_pos (by omega)]; rfl
        refine ok_bind (ok_mono (ok_addsSpaced hH hh2 (by omega) q6 q5 (sr j' (by omega)) epc.symm pr q4) (fun q ⟨p1, p2, p3⟩ => ok_some ⟨?_, q3.trans p3⟩))
        rw [show to / 2 + 1 - fr / 2 = j' + 1 by omega]; exact p2
      · rw [gif_f (by rw [hT]; omega)]
        refine ok_some ⟨?_, q3⟩
        rw [show to / 2 + 1 - fr / 2 = j' by omega]; exact q4
  by_cases c : fr % 2 = 1
  · rw [gif_t (by rw [hY]; omega)]
    have hw : fr / 2 < n := by omega
    have tF : (Y / 2).toInt = fr / 2 := by rw [ti_div2 (by omega), hY]; omega
    have r := R (fr / 2) hw
    rw [gd_t (by decide), gd_t (inb_k (m := 2) rfl (by omega) (by omega) (by omega)), gd_t (by decide), gd_t (inb_k (m := 15) rfl (by omega) (by omega) (by omega)), ix_k (m := 2) rfl (by omega) (by omega), ix_k (m := 15) rfl (by omega) (by omega), show 2 + (Y / 2).toInt.toNat = 2 + fr / 2 by rw [tF]; omega, show 15 + (Y / 2).toInt.toNat = 15 + fr / 2 by rw [tF]; omega, k43 K0, k43 K0]
    have r1 : (1 ≤ (f (2 + fr / 2)).toInt ∧ (f (2 + fr / 2)).toInt ≤ 20) ∧ 0 ≤ (f (15 + fr / 2)).toInt ∧ (f (15 + fr / 2)).toInt < (f (2 + fr / 2)).toInt := r
    have ts : (f (2 + fr / 2) - f (15 + fr / 2)).toInt = pc (wdF f) (ftF f) fr to (fr / 2 + 0) := by
      rw [ti_sub (by omega) (by omega)]; unfold pc; rw [if_neg (by omega), if_pos (by omega)]; rfl
    refine ok_bind (ok_mono (ok_addsSpaced (j := 0) hH hh2 (by omega) rfl rfl (by simp [sumW]) ts (pc_r R (by omega)) S0) (fun q ⟨p1, p2, p3⟩ => ?_))
    rw [gif_f (by rw [ti_eq, hY]; show ¬ (fr : Int) - 1 = -1; omega), gd_t (by decide)]
    refine loop q.1 1 q.2 0 _ (K0.trans p3) p2 p1 rfl (fun w h3 h4 => ?_) (by omega) ?_
    · unfold pc; rw [if_neg (by omega), if_neg (by omega)]
    · rw [ti_add (by rw [tF, li_1]; omega) (by rw [tF, li_1]; omega), tF, li_1]; omega
  · rw [gif_f (by rw [hY]; omega)]
    have hp : ∀ w, fr / 2 + 0 ≤ w → w < (to + 1) / 2 → pc (wdF f) (ftF f) fr to w = (wdF f w).toInt := fun w h3 h4 => by unfold pc; rw [if_neg (by omega), if_neg (by omega)]
    by_cases d : fr = 0
    · rw [gif_t (by rw [ti_eq, hY, d]; rfl)]
      exact loop s1 0 0 1 0 K0 S0 rfl rfl hp (by omega) (by rw [li_0, d]; rfl)
    · rw [gif_f (by rw [ti_eq, hY]; show ¬ (fr : Int) - 1 = -1; omega), gd_t (by decide)]
      have tF : (Y / 2).toInt = (fr : Int) / 2 - 1 := by rw [ti_div2 (by omega), hY]; omega
      exact loop s1 0 0 1 _ K0 S0 rfl rfl hp (by omega) (by rw [ti_add (by rw [tF, li_1]; omega) (by rw [tF, li_1]; omega), tF, li_1]; omega)
theorem ok_riverTo {s : Sg} {H K : Int32} {hh k m : Nat} {sp : Nat → Int} {A : Int → Int} {p : Int} (hH : H.toInt = hh) (h2 : hh < 2) (hK : K.toInt = k) (hk : k < 13) (m12 : m ≤ 12) (hm : (rI s 69 0 (1 - hh)).toInt = m) (hs : ∀ i : Nat, i < m → (rI s 67 0 (13 * (1 - hh) + i)).toInt = sp i ∧ (rI s 68 0 (13 * (1 - hh) + i)).toInt = A (sp i) ∧ 0 ≤ sp i ∧ sp i ≤ 300) (hp : (rI s 67 0 (13 * hh + k)).toInt = p) (rp : 0 ≤ p ∧ p ≤ 300) (BA : ∀ q, 0 ≤ A q ∧ A q ≤ 100) (HA : ∀ q, A q ≠ 0 → ∃ i, i < m ∧ sp i = q) :
    ok (m_riverTo s H K) (fun q => q.1 = s ∧ q.2.toInt = vl A p) := by
  unfold m_riverTo m_riverTo_G
  have t1 : (13 * H + K).toInt = 13 * hh + k := by simp (disch := omega) only [Int32.toInt_add, Int32.toInt_sub, Int32.toInt_mul, Int32.toInt_neg, bm32, li_0, li_1, li_2, li_3, li_4, li_5, li_6, li_7, li_8, li_9, li_10, li_11, li_12, li_13, li_14, li_15, li_16, li_17, li_18, li_19, li_20, li_21, li_22, li_23, li_24, li_25, li_26, li_27, li_28, li_29, li_30, li_31, li_32, li_33, li_34, li_35, li_36, li_37, li_38, li_39, li_40, li_41, li_42, li_43, li_44, li_45, li_46, li_47, li_48, li_49, li_50, li_51, li_52, li_53, li_54, li_55, li_56, li_57, li_58, li_59, li_60, li_61, li_62, li_63, li_64, li_65, li_66, li_67, li_68, li_69, li_70, li_71, li_72, li_73, li_74, li_75, li_76, li_77, li_78, li_91, li_93, li_96, li_97, li_99, li_100, li_122, li_138, li_255, li_256, li_400, li_401, li_625, li_800, li_999, li_1000, li_1001, li_1103, li_2000, li_2037, li_2038, li_2039, li_2040, li_2041, li_2042, li_2043, li_2044, li_2045, li_2046, li_2047, li_2048, li_2049, li_2050, li_2051, li_2052, li_2053, li_2054, li_2055, li_2056, li_2057, li_2058, li_2059, li_2060, li_2061, li_2062, li_2091, li_2093, li_2400, li_2865, li_3000, li_3002, li_3003, li_3005, li_3006, li_3007, li_3008, li_3009, li_3010, li_3011, li_3012, li_3013, li_3020, li_3024, li_3025, li_3026, li_3999, li_4000, li_4095, li_4096, li_5665, li_11330, li_12345, li_15625, li_1000000, li_1000003, li_100000000, li_1000000000, ti_lt, ti_eq, inb_iff, ix_eq, hH, hK]
  have u1 : (1 - H).toInt = ((1 - hh : Nat) : Int) := by simp (disch := omega) only [Int32.toInt_add, Int32.toInt_sub, Int32.toInt_mul, Int32.toInt_neg, bm32, li_0, li_1, li_2, li_3, li_4, li_5, li_6, li_7, li_8, li_9, li_10, li_11, li_12, li_13, li_14, li_15, li_16, li_17, li_18, li_19, li_20, li_21, li_22, li_23, li_24, li_25, li_26, li_27, li_28, li_29, li_30, li_31, li_32, li_33, li_34, li_35, li_36, li_37, li_38, li_39, li_40, li_41, li_42, li_43, li_44, li_45, li_46, li_47, li_48, li_49, li_50, li_51, li_52, li_53, li_54, li_55, li_56, li_57, li_58, li_59, li_60, li_61, li_62, li_63, li_64, li_65, li_66, li_67, li_68, li_69, li_70, li_71, li_72, li_73, li_74, li_75, li_76, li_77, li_78, li_91, li_93, li_96, li_97, li_99, li_100, li_122, li_138, li_255, li_256, li_400, li_401, li_625, li_800, li_999, li_1000, li_1001, li_1103, li_2000, li_2037, li_2038, li_2039, li_2040, li_2041, li_2042, li_2043, li_2044, li_2045, li_2046, li_2047, li_2048, li_2049, li_2050, li_2051, li_2052, li_2053, li_2054, li_2055, li_2056, li_2057, li_2058, li_2059, li_2060, li_2061, li_2062, li_2091, li_2093, li_2400, li_2865, li_3000, li_3002, li_3003, li_3005, li_3006, li_3007, li_3008, li_3009, li_3010, li_3011, li_3012, li_3013, li_3020, li_3024, li_3025, li_3026, li_3999, li_4000, li_4095, li_4096, li_5665, li_11330, li_12345, li_15625, li_1000000, li_1000003, li_100000000, li_1000000000, ti_lt, ti_eq, inb_iff, ix_eq, hH]; omega
  have u2 : (13 * (1 - H)).toInt = 13 * ((1 - hh : Nat) : Int) := by rw [ti_mul (by rw [u1]; show -2147483648 ≤ 13 * _; omega) (by rw [u1]; show 13 * _ < _; omega), u1]; rfl
  rw [gd_t (inb_iff.mpr (by omega)), show ix (13 * H + K) = 13 * hh + k by rw [ix_eq, t1]; omega]
  generalize rI s 67 0 (13 * hh + k) = P at hp ⊢
  refine ok_loop (K := fun k (q : Sg × Int32 × Int32) => m_riverTo_b18 k q.1 H P q.2.1 q.2.2) (I := fun q => q.1 = s ∧ ∃ i : Nat, i ≤ m ∧ q.2.2.toInt = i ∧ (0 ≤ q.2.1.toInt ∧ q.2.1.toInt ≤ 100) ∧ (∀ i', i' < i → -1 ≤ sp i' - p → sp i' - p ≤ 1 → A (sp i') ≤ q.2.1.toInt) ∧ (q.2.1.toInt = 0 ∨ ∃ i', i' < i ∧ -1 ≤ sp i' - p ∧ sp i' - p ≤ 1 ∧ q.2.1.toInt = A (sp i')))
    (μ := fun q => 13 - q.2.2.toInt.toNat) ?_ FU (s, 0, 0) ⟨rfl, 0, by omega, rfl, by simp only [li_0]; omega, fun i' h => by omega, .inl rfl⟩ (by show _ < 20000; omega)
  rintro n ⟨s2, l4, l5⟩ ⟨q0, i, q1, q2, q3, q4, q5⟩ ih
  simp only at q0 q1 q2 q3 q4 q5 ih
  subst q0
  show ok (m_riverTo_b18_G _ _ _ s2 H P l4 l5) _
  unfold m_riverTo_b18_G
  have iu : ix (1 - H) = 1 - hh := by rw [ix_eq, u1]; omega
  rw [gd_t (inb_iff.mpr (by omega)), iu]
  refine ok_gif (fun c => ?_) (fun c => ?_)
  · rw [ti_lt, q2, hm] at c
    obtain ⟨a1, a2, a3, a4⟩ := hs i (by omega)
    have u3 : (13 * (1 - H) + l5).toInt = 13 * ((1 - hh : Nat) : Int) + i := by rw [ti_add (by rw [u2, q2]; omega) (by rw [u2, q2]; omega), u2, q2]
    have i3 : ix (13 * (1 - H) + l5) = 13 * (1 - hh) + i := by rw [ix_eq, u3]; omega
    have b3 : inb (13 * (1 - H) + l5) 26 := inb_iff.mpr (by rw [u3]; omega)
    have t5 : (l5 + 1).toInt = (i + 1 : Nat) := by rw [ti_add (by rw [q2, li_1]; omega) (by rw [q2, li_1]; omega), q2, li_1]; omega
    have td : (rI s2 67 0 (13 * (1 - hh) + i) - P).toInt = sp i - p := by rw [ti_sub (by rw [a1, hp]; omega) (by rw [a1, hp]; omega), a1, hp]
    rw [gd_t b3, i3]
    simp only [q_m_lies, grt, Option.bind_some, gdB0, gdB1, gdbI, gifbI, td, li_1]
    have km : (-1 : Int32).toInt = -1 := by decide
    rw [km]
    have bA := BA (sp i)
    by_cases e : -1 ≤ sp i - p ∧ sp i - p ≤ 1
    · rw [gif_t e, gd_t b3]
      have tg : (g_max l4 (rI s2 68 0 (13 * (1 - hh) + i))).toInt = max l4.toInt (A (sp i)) := by rw [ti_max, a2]
      refine ih (s2, g_max l4 (rI s2 68 0 (13 * (1 - hh) + i)), l5 + 1) ⟨rfl, i + 1, by omega, t5, by simp only [tg]; omega, fun i' h h3 h4 => ?_, ?_⟩ (by simp only [t5, q2]; omega)
      · simp only [tg]
        by_cases x : i' = i
        · subst x; omega
        · have := q4 i' (by omega) h3 h4; omega
      · simp only [tg]
        by_cases x : l4.toInt ≤ A (sp i)
        · exact .inr ⟨i, by omega, e.1, e.2, by omega⟩
        · rcases q5 with q5 | ⟨i', y1, y2, y3, y4⟩
          · exact .inl (by omega)
          · exact .inr ⟨i', by omega, y2, y3, by omega⟩
    · rw [gif_f e]
      refine ih (s2, l4, l5 + 1) ⟨rfl, i + 1, by omega, t5, q3, fun i' h h3 h4 => ?_, ?_⟩ (by simp only [t5, q2]; omega)
      · by_cases x : i' = i
        · subst x; exact absurd ⟨h3, h4⟩ e
        · exact q4 i' (by omega) h3 h4
      · rcases q5 with q5 | ⟨i', y1, y2, y3, y4⟩
        · exact .inl q5
        · exact .inr ⟨i', by omega, y2, y3, y4⟩
  · rw [ti_lt, q2, hm] at c
    refine ok_some ⟨rfl, ?_⟩
    simp only []
    rw [ti_add (by rw [li_1]; omega) (by rw [li_1]; omega), li_1]
    have up : ∀ q, -1 ≤ q - p → q - p ≤ 1 → A q ≤ l4.toInt := fun q h3 h4 => by
      by_cases x : A q = 0
      · omega
      · obtain ⟨i', y1, y2⟩ := HA q x
        rw [← y2]; exact q4 i' (by omega) (by omega) (by omega)
    have v0 := up p (by omega) (by omega)
    have v1 := up (p - 1) (by omega) (by omega)
    have v2 := up (p + 1) (by omega) (by omega)
    have b0 := BA p; have b1 := BA (p - 1); have b2 := BA (p + 1)
    unfold vl
    rcases q5 with q5 | ⟨i', y1, y2, y3, y4⟩
    · omega
    · rcases (by omega : sp i' = p ∨ sp i' = p - 1 ∨ sp i' = p + 1) with z | z | z <;> (rw [z] at y4; omega)
