/-! weeks -/
def nxD (z : Int) : Int := (1103 * z + 12345) % 1000003
theorem nx_r {z : Int} : 0 ≤ nxD z ∧ nxD z ≤ 1000002 := by unfold nxD; omega
theorem q_nextDraw {s : Sg} {a : Int32} (h : 0 ≤ a.toInt ∧ a.toInt ≤ 1000002) : ∃ v, x9_nextDraw s a = some (s, v) ∧ v.toInt = nxD a.toInt := by
  unfold x9_nextDraw x9_nextDraw_G
  rw [gd_t (by decide)]
  refine ⟨_, rfl, ?_⟩
  have e : (a * 1103 + 12345).toInt = 1103 * a.toInt + 12345 := by simp (disch := omega) only [Int32.toInt_add, Int32.toInt_sub, Int32.toInt_mul, Int32.toInt_neg, bm32, li_0, li_1, li_2, li_3, li_4, li_5, li_6, li_7, li_8, li_9, li_10, li_11, li_12, li_13, li_14, li_15, li_16, li_17, li_18, li_19, li_20, li_21, li_22, li_23, li_24, li_25, li_26, li_27, li_28, li_29, li_30, li_31, li_32, li_33, li_34, li_35, li_36, li_37, li_38, li_39, li_40, li_41, li_42, li_43, li_44, li_45, li_46, li_47, li_48, li_49, li_50, li_51, li_52, li_53, li_54, li_55, li_56, li_57, li_58, li_59, li_60, li_61, li_62, li_63, li_64, li_65, li_66, li_67, li_68, li_69, li_70, li_71, li_72, li_73, li_74, li_75, li_76, li_77, li_78, li_91, li_93, li_96, li_97, li_99, li_100, li_122, li_138, li_255, li_256, li_400, li_401, li_625, li_800, li_999, li_1000, li_1001, li_1103, li_2000, li_2037, li_2038, li_2039, li_2040, li_2041, li_2042, li_2043, li_2044, li_2045, li_2046, li_2047, li_2048, li_2049, li_2050, li_2051, li_2052, li_2053, li_2054, li_2055, li_2056, li_2057, li_2058, li_2059, li_2060, li_2061, li_2062, li_2091, li_2093, li_2400, li_2865, li_3000, li_3002, li_3003, li_3005, li_3006, li_3007, li_3008, li_3009, li_3010, li_3011, li_3012, li_3013, li_3020, li_3024, li_3025, li_3026, li_3999, li_4000, li_4095, li_4096, li_5665, li_11330, li_12345, li_15625, li_1000000, li_1000003, li_100000000, li_1000000000, ti_lt, ti_eq, inb_iff, ix_eq]; omega
  rw [ti_rem (by rw [e]; omega) (by decide), e]; rfl
theorem tL_add {a b : Int64} (h : -9223372036854775808 ≤ a.toInt + b.toInt) (g : a.toInt + b.toInt < 9223372036854775808) : (a + b).toInt = a.toInt + b.toInt := by
  rw [Int64.toInt_add]; exact Int.bmod_eq_of_le (by omega) (by omega)
theorem tL_sub {a b : Int64} (h : -9223372036854775808 ≤ a.toInt - b.toInt) (g : a.toInt - b.toInt < 9223372036854775808) : (a - b).toInt = a.toInt - b.toInt := by
  rw [Int64.toInt_sub]; exact Int.bmod_eq_of_le (by omega) (by omega)
theorem tL_mul {a b : Int64} (h : -9223372036854775808 ≤ a.toInt * b.toInt) (g : a.toInt * b.toInt < 9223372036854775808) : (a * b).toInt = a.toInt * b.toInt := by
  rw [Int64.toInt_mul]; exact Int.bmod_eq_of_le (by omega) (by omega)
theorem q_draws {s : Sg} {k : Int32} (h : 0 ≤ (rI s 10 0 67).toInt ∧ (rI s 10 0 67).toInt ≤ 1000002) (hk : 0 < k.toInt) : ∃ v w, m_draws s k = some (wI s 10 0 67 v, w) ∧ v.toInt = nxD (rI s 10 0 67).toInt ∧ w = g_rem v k := by
  unfold m_draws m_draws_G
  rw [gd_t (by decide), gd_t (by rw [ti_eq, li_0]; omega)]
  refine ⟨_, _, rfl, ?_, by rw [rI_eq rfl]⟩
  generalize rI s 10 0 67 = a at h ⊢
  have c1 : (1103 : Int64).toInt = 1103 := rfl
  have c2 : (12345 : Int64).toInt = 12345 := rfl
  have c3 : (1000003 : Int64).toInt = 1000003 := rfl
  have e1 : (1103 * Int32.toInt64 a).toInt = 1103 * a.toInt := by rw [tL_mul (by rw [c1, Int32.toInt_toInt64]; omega) (by rw [c1, Int32.toInt_toInt64]; omega), c1, Int32.toInt_toInt64]
  have e2 : (1103 * Int32.toInt64 a + 12345).toInt = 1103 * a.toInt + 12345 := by rw [tL_add (by rw [e1, c2]; omega) (by rw [e1, c2]; omega), e1, c2]
  have e3 : ((1103 * Int32.toInt64 a + 12345) / 1000003).toInt = (1103 * a.toInt + 12345) / 1000003 := by
    rw [Int64.toInt_div_of_ne_right _ _ (by decide), e2, c3]; exact Int.tdiv_eq_ediv_of_nonneg (by omega)
  have e4 : (g_lrem (1103 * Int32.toInt64 a + 12345) 1000003).toInt = (1103 * a.toInt + 12345) % 1000003 := by
    unfold g_lrem
    have e5 : ((1103 * Int32.toInt64 a + 12345) / 1000003 * 1000003).toInt = (1103 * a.toInt + 12345) / 1000003 * 1000003 := by rw [tL_mul (by rw [e3, c3]; omega) (by rw [e3, c3]; omega), e3, c3]
    rw [tL_sub (by rw [e2, e5]; omega) (by rw [e2, e5]; omega), e2, e5]; omega
  rw [Int64.toInt_toInt32, e4]
  exact Int.bmod_eq_of_le (by omega) (by omega)
/-- what is drawn: a word, how wide, what -/
theorem ok_drawnAct {s : Sg} (M : MW (s.1 43 0)) (n1 : 1 ≤ (rI s 43 0 54).toInt) (h : 0 ≤ (rI s 10 0 67).toInt ∧ (rI s 10 0 67).toInt ≤ 1000002) {z1 z2 z3 : Int32} (e1 : z1.toInt = nxD (rI s 10 0 67).toInt) (e2 : z2.toInt = nxD z1.toInt) (e3 : z3.toInt = nxD z2.toInt) :
    ok (m_drawnAct s) (fun s' => rI s' 10 0 67 = z3 ∧ (∀ i, rI s' 43 0 i = (@ite _ (Why (s.1 43 0) (g_max 0 (g_rem z3 4 - 1)) (g_rem z1 (rI s 43 0 54)) (g_rem z2 20 + 1) = 0) (Classical.propDecidable _) (Act (s.1 43 0) (g_max 0 (g_rem z3 4 - 1)) (g_rem z1 (rI s 43 0 54)) (g_rem z2 20 + 1)) (s.1 43 0)) i) ∧ ∀ k i c, k ≠ 43 → ¬ (k = 10 ∧ i = 0 ∧ c = 67) → rI s' k i c = rI s k i c) := by
  have n12 : (rI s 43 0 54).toInt ≤ 12 := M.1.2
  have R1 := nx_r (z := (rI s 10 0 67).toInt)
  have R2 := nx_r (z := z1.toInt)
  have R3 := nx_r (z := z2.toInt)
  unfold m_drawnAct m_drawnAct_G
  simp only [q_m_wordMany, Option.bind_some]
  obtain ⟨v1, w1, a1, a2, a3⟩ := q_draws (s := s) (k := rI s 43 0 54) h (by omega)
  have : v1 = z1 := by rw [ti_eq, a2, e1]
  subst this
  rw [a1]; simp only [Option.bind_some]
  obtain ⟨v2, w2, b1, b2, b3⟩ := q_draws (s := wI s 10 0 67 v1) (k := 20) (by rw [rI_eq rfl, a2]; exact R1) (by decide)
  rw [rI_eq rfl] at b2
  have : v2 = z2 := by rw [ti_eq, b2, e2]
  subst this
  rw [b1]; simp only [Option.bind_some]
  obtain ⟨v3, w3, c1, c2, c3⟩ := q_draws (s := wI (wI s 10 0 67 v1) 10 0 67 v2) (k := 4) (by rw [rI_eq rfl, b2]; exact R2) (by decide)
  rw [rI_eq rfl] at c2
  have : v3 = z3 := by rw [ti_eq, c2, e3]
  subst this
  rw [c1]; simp only [Option.bind_some]
  rw [a3, b3, c3]
  have tw : (g_rem v1 (rI s 43 0 54)).toInt = v1.toInt % (rI s 43 0 54).toInt := ti_rem (by omega) (by omega)
  have tv : (g_rem v2 20).toInt = v2.toInt % 20 := ti_rem (by omega) (by decide)
  have tq : (g_rem v3 4).toInt = v3.toInt % 4 := ti_rem (by omega) (by decide)
  have lw : 0 ≤ (g_rem v1 (rI s 43 0 54)).toInt ∧ (g_rem v1 (rI s 43 0 54)).toInt < (rI s 43 0 54).toInt := by
    rw [tw]; exact ⟨Int.emod_nonneg _ (by omega), Int.emod_lt_of_pos _ (by omega)⟩
  have lv : 1 ≤ (g_rem v2 20 + 1).toInt ∧ (g_rem v2 20 + 1).toInt ≤ 20 := by rw [ti_add (by rw [tv, li_1]; omega) (by rw [tv, li_1]; omega), tv, li_1]; omega
  have lq : 0 ≤ (g_rem v3 4).toInt ∧ (g_rem v3 4).toInt < 4 := by rw [tq]; omega
  generalize g_rem v1 (rI s 43 0 54) = w at lw
  generalize g_rem v2 20 + 1 = ww at lv
  clear a1 b1 c1 a3 b3 c3 tw tv tq
  have k4 : ∀ k i c, ¬ (k = 10 ∧ i = 0 ∧ c = 67) → rI (wI (wI (wI s 10 0 67 v1) 10 0 67 v2) 10 0 67 v3) k i c = rI s k i c := fun k i c hk => by rw [rI_wI, if_neg hk, rI_wI, if_neg hk, rI_wI, if_neg hk]
  have k67 : rI (wI (wI (wI s 10 0 67 v1) 10 0 67 v2) 10 0 67 v3) 10 0 67 = v3 := rI_eq rfl
  generalize wI (wI (wI s 10 0 67 v1) 10 0 67 v2) 10 0 67 v3 = s4 at k4 k67
  have wn : wNum (s.1 43 0) w := lw
  rw [q_m_isLast (by rw [k4 _ _ _ (by omega)]; omega), k4 43 0 54 (by omega)]
  simp only [Option.bind_some, gdB0, gdB1, gdbI, gifbI]
  have e49 : ∀ (s5 : Sg) (q : Int32), m_drawnAct_b49 s5 w ww q = m_drawnAct_b49_G (m_drawnAct_b78) s5 w ww q := fun _ _ => rfl
  have e78 : ∀ (s5 : Sg) (q : Int32), ¬ q = 3 → m_drawnAct_b78 s5 w ww q = some s5 := fun s5 q h => by unfold m_drawnAct_b78 m_drawnAct_b78_G; rw [gif_f h]
  have i15 : ix (15 + w) = 15 + w.toInt.toNat := ix_k (m := 15) rfl lw.1 (by omega)
  have g15 : inb (15 + w) 5665 := inb_k (m := 15) rfl lw.1 (by omega) (by omega)
  -- a change of one cell
  have fin : ∀ (j : Nat) (x : Int32) (vb : Int32), vb = g_max 0 (g_rem v3 4 - 1) → Why (s.1 43 0) vb w ww = 0 → Act (s.1 43 0) vb w ww = ud (s.1 43 0) j x → ok (some (wI s4 43 0 j x)) (fun s' => rI s' 10 0 67 = v3 ∧ (∀ i, rI s' 43 0 i = (@ite _ (Why (s.1 43 0) (g_max 0 (g_rem v3 4 - 1)) w ww = 0) (Classical.propDecidable _) (Act (s.1 43 0) (g_max 0 (g_rem v3 4 - 1)) w ww) (s.1 43 0)) i) ∧ ∀ k i c, k ≠ 43 → ¬ (k = 10 ∧ i = 0 ∧ c = 67) → rI s' k i c = rI s k i c) := by
    intro j x vb hv hy hA
    refine ok_some ⟨by rw [rI_ne (by omega)]; exact k67, fun i => ?_, fun k i c h1 h2 => by rw [rI_ne (by omega)]; exact k4 k i c h2⟩
    rw [← hv, if_pos hy, hA]
    by_cases q : i = j
    · subst q; rw [rI_eq rfl, ud_eq rfl]
    · rw [rI_ne (by omega), ud_ne q]; exact k4 _ _ _ (by omega)
  have nof : ∀ (vb : Int32), vb = g_max 0 (g_rem v3 4 - 1) → ¬ Why (s.1 43 0) vb w ww = 0 → ok (some s4) (fun s' => rI s' 10 0 67 = v3 ∧ (∀ i, rI s' 43 0 i = (@ite _ (Why (s.1 43 0) (g_max 0 (g_rem v3 4 - 1)) w ww = 0) (Classical.propDecidable _) (Act (s.1 43 0) (g_max 0 (g_rem v3 4 - 1)) w ww) (s.1 43 0)) i) ∧ ∀ k i c, k ≠ 43 → ¬ (k = 10 ∧ i = 0 ∧ c = 67) → rI s' k i c = rI s k i c) := by
    intro vb hv hy
    refine ok_some ⟨k67, fun i => ?_, fun k i c _ h2 => k4 k i c h2⟩
    rw [← hv, if_neg hy]; exact k4 _ _ _ (by omega)
  have vq : ∀ (q : Nat) (vb : Int32), (g_rem v3 4).toInt = q → vb.toInt = (if q < 2 then 0 else (q : Int) - 1) → vb = g_max 0 (g_rem v3 4 - 1) := by
    intro q vb hq hv
    have ts : (g_rem v3 4 - 1).toInt = (q : Int) - 1 := by rw [ti_sub (by rw [hq, li_1]; omega) (by rw [hq, li_1]; omega), hq, li_1]
    rw [ti_eq, hv]; unfold g_max
    by_cases c : 0 < g_rem v3 4 - 1
    · rw [if_pos c, ts]; rw [ti_lt, ts, li_0] at c; rw [if_neg (by omega)]
    · rw [if_neg c, li_0]; rw [ti_lt, ts, li_0] at c; rw [if_pos (by omega)]
  obtain ⟨q, hq⟩ : ∃ q : Nat, (g_rem v3 4).toInt = q := ⟨_, (Int.toNat_of_nonneg lq.1).symm⟩
  have q4 : q < 4 := by omega
  by_cases c01 : q < 2
  · have hv := vq q 0 hq (by rw [if_pos c01]; rfl)
    have n2 : ¬ g_rem v3 4 = 2 := by rw [ti_eq, hq, li_2]; omega
    have n3 : ¬ g_rem v3 4 = 3 := by rw [ti_eq, hq, li_3]; omega
    rw [gif_t (by rw [ti_lt, hq, li_2]; omega)]
    by_cases d : w.toInt = (rI s 43 0 54).toInt - 1
    · rw [gif_t d, e49]; unfold m_drawnAct_b49_G
      rw [gif_f n2, e78 _ _ n3]
      refine nof 0 hv ?_
      unfold Why; rw [if_neg (by decide), if_neg (fun x => absurd x.1 (by decide)), if_neg (fun x => x wn), if_pos rfl, if_pos (show w.toInt = (s.1 43 0 54).toInt - 1 from d)]; decide
    · rw [gif_f d, gd_t b0, gd_t b0, i0, e49]; unfold m_drawnAct_b49_G
      rw [gif_f n2, e78 _ _ n3]
      rw [k4 43 0 0 (by omega)]
      refine fin 0 _ 0 hv ?_ ?_
      · unfold Why; rw [if_neg (by decide), if_neg (fun x => absurd x.1 (by decide)), if_neg (fun x => x wn), if_pos rfl, if_neg (show ¬ w.toInt = (s.1 43 0 54).toInt - 1 from d)]
      · unfold Act; rw [if_pos rfl]; rfl
  · rw [gif_f (by rw [ti_lt, hq, li_2]; omega), e49]; unfold m_drawnAct_b49_G
    by_cases c2 : q = 2
    · subst c2
      have hv := vq 2 1 hq rfl
      have n3 : ¬ g_rem v3 4 = 3 := by rw [ti_eq, hq, li_3]; omega
      rw [gif_t (by rw [ti_eq, hq]; rfl), gd_t g15, i15, k4 43 0 _ (by omega)]
      have r := M.2.1 w.toInt.toNat (show _ < (rI s 43 0 54).toInt by omega)
      by_cases d : (0 : Int32) < rI s 43 0 (15 + w.toInt.toNat)
      · rw [gif_t d, gd_t b1, gd_t b1, i1, e78 _ _ n3, k4 43 0 1 (by omega)]
        refine fin 1 _ 1 hv ?_ ?_
        · unfold Why; rw [if_neg (by decide), if_neg (fun x => absurd x.1 (by decide)), if_neg (fun x => x wn), if_neg (by decide), if_pos rfl, if_neg]
          intro x; rw [show rI s 43 0 (15 + w.toInt.toNat) = 0 from x] at d; exact absurd d (by decide)
        · unfold Act; rw [if_neg (by decide), if_pos rfl]; rfl
      · rw [gif_f d, e78 _ _ n3]
        refine nof 1 hv ?_
        unfold Why; rw [if_neg (by decide), if_neg (fun x => absurd x.1 (by decide)), if_neg (fun x => x wn), if_neg (by decide), if_pos rfl, if_pos]
        · decide
        · rw [ti_lt, li_0] at d; rw [ti_eq, li_0]; have : 0 ≤ (rI s 43 0 (15 + w.toInt.toNat)).toInt := r.2.1.1
          show (rI s 43 0 (15 + w.toInt.toNat)).toInt = 0; omega
    · have c3 : q = 3 := by omega
      subst c3
      have hv := vq 3 2 hq rfl
      rw [gif_f (by rw [ti_eq, hq, li_2]; omega)]
      unfold m_drawnAct_b78 m_drawnAct_b78_G
      rw [gif_t (by rw [ti_eq, hq]; rfl), q_m_canSwell ⟨lw.1, by omega⟩, k4 43 0 _ (by omega), k4 43 0 _ (by omega)]
      simp only [Option.bind_some, gdB0, gdB1, gdbI, gifbI]
      refine ok_gif (fun d => ?_) (fun d => ?_)
      · rw [gd_t (inb_k (m := 2) rfl lw.1 (by omega) (by omega)), ix_k (m := 2) rfl lw.1 (by omega)]
        refine fin _ _ 2 hv ?_ ?_
        · unfold Why; rw [if_neg (by decide), if_neg (fun x => x.2 lv), if_neg (fun x => x wn), if_neg (by decide), if_neg (by decide), if_neg]
          rintro (x | x)
          · exact d.1 x
          · exact x d.2
        · unfold Act; rw [if_neg (by decide), if_neg (by decide), if_pos rfl]
      · refine nof 2 hv ?_
        unfold Why; rw [if_neg (by decide), if_neg (fun x => x.2 lv), if_neg (fun x => x wn), if_neg (by decide), if_neg (by decide), if_pos]
        · decide
        · exact Classical.byContradiction fun x => d ⟨fun y => x (.inl y), Classical.byContradiction fun y => x (.inr y)⟩
/-- the class carries out what can be -/
theorem ok_carry2 {s : Sg} {f : Nat → Int32} (A : GA s 2 f) {v w ww : Int32} (hv : isVb v) : ok (x1_carryOutIfItCanBe s 2 v w ww) (fun s' => GA s' 2 (@ite _ (Why f v w ww = 0) (Classical.propDecidable _) (Act f v w ww) f)) := by
  by_cases hy : Why f v w ww = 0
  · rw [if_pos hy]
    refine ok_fr (ok_carry A.1 A.2.1 hv hy) (fr_x1_carryOutIfItCanBe _ _ _ _ _) (fun s' X' F => ⟨MW_Act A.1 hv hy, X', ?_⟩)
    exact LX_c (sx := s) A.1.2.2.2.2.2.1.2 (fun c => F.n _ _ _ (nh rfl)) (Nat.le_of_eq (F.n _ _ _ (nh rfl)).symm) (fun t k c h1 _ hk => F.i _ _ _ (clrT_no rfl hk h1)) (fun t h1 _ => F.n _ _ _ (clrT_no rfl rfl h1)) (fun i hi => Act_hi (fun h2 => by subst h2; obtain ⟨c0, c1, -⟩ := Why_2 hy; unfold wNum at c1; have := A.1.1.2; omega) (by omega)) A.2.2
  · rw [if_neg hy]
    unfold x1_carryOutIfItCanBe x1_carryOutIfItCanBe_G
    rw [q_x1_whyNot A.1 A.2.1]
    simp only [Option.bind_some]
    rw [gif_f hy]
    exact ok_some A
theorem weeks_loop {cnt : Int32} {N : Nat} (hN : cnt.toInt = N) (n60 : N ≤ 60) : ∀ (d : Nat) (sx sm : Sg) (z acc i : Int32) (fu fu' : Nat), i.toInt + d = N → 0 ≤ i.toInt → d < fu → d < fu' → GA sx 2 (sm.1 43 0) → rI sm 10 0 36 = rI sm 43 0 54 → (∀ w : Nat, (w : Int) < (rI sm 43 0 54).toInt → (rI sm 57 0 w).toInt = w) → 1 ≤ (rI sm 43 0 54).toInt → (0 ≤ z.toInt ∧ z.toInt ≤ 1000002) → rI sm 10 0 67 = z →
    ∃ sx1 sm1 r, x9_weeks_b64 fu sx cnt z acc i = x9_answer sx1 r ∧ m_weeks_b63 fu' sm cnt acc i = m_weeks_b114 FU sm1 r 0 ∧ GA sx1 2 (sm1.1 43 0) ∧ (∀ i, 15 ≤ i → rI sm1 43 0 i = rI sm 43 0 i) ∧ (∀ c, rI sm1 46 0 c = rI sm 46 0 c) ∧ (∀ c, rI sm1 57 0 c = rI sm 57 0 c) ∧ rI sm1 10 0 66 = rI sm 10 0 66 ∧ rI sm1 10 0 36 = rI sm 10 0 36 := by
  have stopX : ∀ (sx : Sg) (z acc i : Int32) (fu : Nat), (¬ i < cnt ∨ ¬ rI sx 15 2 0 < 999) → x9_weeks_b64 (fu + 1) sx cnt z acc i = x9_answer sx acc := by
    intro sx z acc i fu h
    show x9_weeks_b64_G _ _ _ _ _ sx cnt z acc i = _
    unfold x9_weeks_b64_G
    rw [gd_t (by rw [inb_iff]; decide), show ix 0 = 0 from rfl, bindp]
    exact gif_eq (fun a => gif_eq (fun b => absurd b (h.elim (fun x => absurd a x) id)) (fun _ => rfl)) (fun _ => rfl)
  have stopM : ∀ (sm : Sg) (acc i : Int32) (fu : Nat), (¬ i < cnt ∨ ¬ rI sm 43 0 14 < 999) → m_weeks_b63 (fu + 1) sm cnt acc i = m_weeks_b114 FU sm acc 0 := by
    intro sm acc i fu h
    show m_weeks_b63_G _ _ _ _ sm cnt acc i = _
    unfold m_weeks_b63_G
    rw [gd_t k14.1, k14.2]
    exact gif_eq (fun a => gif_eq (fun b => absurd b (h.elim (fun x => absurd a x) id)) (fun _ => rfl)) (fun _ => rfl)
  intro d
  induction d with
  | zero =>
    intro sx sm z acc i fu fu' h1 h2 h3 h4 A s1 s2 n1 hz ez
    obtain ⟨fu, rfl⟩ : ∃ y, fu = y + 1 := ⟨fu - 1, by omega⟩
    obtain ⟨fu', rfl⟩ : ∃ y, fu' = y + 1 := ⟨fu' - 1, by omega⟩
    have nl : ¬ i < cnt := by rw [ti_lt, hN]; omega
    exact ⟨sx, sm, acc, stopX _ _ _ _ _ (.inl nl), stopM _ _ _ _ (.inl nl), A, fun _ _ => rfl, fun _ => rfl, fun _ => rfl, rfl, rfl⟩
  | succ d ih =>
    intro sx sm z acc i fu fu' h1 h2 h3 h4 A s1 s2 n1 hz ez
    obtain ⟨fu, rfl⟩ : ∃ y, fu = y + 1 := ⟨fu - 1, by omega⟩
    obtain ⟨fu', rfl⟩ : ∃ y, fu' = y + 1 := ⟨fu' - 1, by omega⟩
    have n12 : (rI sm 43 0 54).toInt ≤ 12 := A.1.1.2
    have e14 : rI sx 15 2 0 = rI sm 43 0 14 := A.2.1.2.2.1.1
    by_cases p9 : rI sm 43 0 14 < 999
    · have lt : i < cnt := by rw [ti_lt, hN]; omega
      obtain ⟨z1, x1, y1⟩ := q_nextDraw (s := sx) (a := z) hz
      have R1 := nx_r (z := z.toInt)
      obtain ⟨z2, x2, y2⟩ := q_nextDraw (s := sx) (a := z1) (by rw [y1]; exact R1)
      have R2 := nx_r (z := z1.toInt)
      obtain ⟨z3, x3, y3⟩ := q_nextDraw (s := sx) (a := z2) (by rw [y2]; exact R2)
      have R3 := nx_r (z := z2.toInt)
      have em1 : g_max 1 (rI sx 1 2 7) = rI sm 43 0 54 := by
        rw [show rI sx 1 2 7 = rI sm 43 0 54 from A.2.1.1.1]; unfold g_max
        by_cases c : (1 : Int32) < rI sm 43 0 54
        · rw [if_pos c]
        · rw [if_neg c, ti_eq, li_1]; rw [ti_lt, li_1] at c; omega
      have hvb : isVb (g_max 0 (g_rem z3 4 - 1)) := by
        have tq : (g_rem z3 4).toInt = z3.toInt % 4 := ti_rem (by omega) (by decide)
        have ts : (g_rem z3 4 - 1).toInt = z3.toInt % 4 - 1 := by rw [ti_sub (by rw [tq, li_1]; omega) (by rw [tq, li_1]; omega), tq, li_1]
        unfold g_max isVb
        simp only [ti_eq, li_0, li_1, li_2, li_3]
        by_cases c : 0 < g_rem z3 4 - 1
        · rw [if_pos c, ts]; rw [ti_lt, ts, li_0] at c; omega
        · rw [if_neg c]; exact .inl rfl
      obtain ⟨m1, hm1, q1, q2, q3⟩ := ok_drawnAct A.1 n1 (by rw [ez]; exact hz) (z1 := z1) (z2 := z2) (z3 := z3) (by rw [ez]; exact y1) y2 y3
      obtain ⟨s4, hs4, A4⟩ := ok_carry2 (w := g_rem z1 (rI sm 43 0 54)) (ww := g_rem z2 20 + 1) A hvb
      have eK : m1.1 43 0 = @ite _ (Why (sm.1 43 0) (g_max 0 (g_rem z3 4 - 1)) (g_rem z1 (rI sm 43 0 54)) (g_rem z2 20 + 1) = 0) (Classical.propDecidable _) (Act (sm.1 43 0) (g_max 0 (g_rem z3 4 - 1)) (g_rem z1 (rI sm 43 0 54)) (g_rem z2 20 + 1)) (sm.1 43 0) := funext q2
      rw [← eK] at A4
      have hi15 : ∀ i, 15 ≤ i → rI m1 43 0 i = rI sm 43 0 i := by
        intro j hj
        rw [q2]
        by_cases hy : Why (sm.1 43 0) (g_max 0 (g_rem z3 4 - 1)) (g_rem z1 (rI sm 43 0 54)) (g_rem z2 20 + 1) = 0
        · rw [if_pos hy]
          exact Act_hi (fun h2 => by rw [h2] at hy; obtain ⟨c0, c1, -⟩ := Why_2 hy; unfold wNum at c1; have : (sm.1 43 0 54).toInt ≤ 12 := n12; omega) hj
        · rw [if_neg hy]; rfl
      have hi14 : rI m1 43 0 14 = rI sm 43 0 14 := by
        rw [q2]
        by_cases hy : Why (sm.1 43 0) (g_max 0 (g_rem z3 4 - 1)) (g_rem z1 (rI sm 43 0 54)) (g_rem z2 20 + 1) = 0
        · rw [if_pos hy]
          have n3 : ¬ g_max 0 (g_rem z3 4 - 1) = 3 := by
            have tq : (g_rem z3 4).toInt = z3.toInt % 4 := ti_rem (by omega) (by decide)
            have ts : (g_rem z3 4 - 1).toInt = z3.toInt % 4 - 1 := by rw [ti_sub (by rw [tq, li_1]; omega) (by rw [tq, li_1]; omega), tq, li_1]
            unfold g_max
            rw [ti_eq, li_3]
            by_cases c : 0 < g_rem z3 4 - 1
            · rw [if_pos c, ts]; omega
            · rw [if_neg c]; decide
          unfold Act
          rcases hvb with e | e | e | e
          · rw [if_pos e, ud_ne (by omega)]; rfl
          · rw [e, if_neg (by decide), if_pos rfl, ud_ne (by omega)]; rfl
          · rw [e] at hy
            obtain ⟨c0, c1, -⟩ := Why_2 hy; unfold wNum at c1
            rw [e, if_neg (by decide), if_neg (by decide), if_pos rfl, ud_ne (by have : (sm.1 43 0 54).toInt ≤ 12 := n12; omega)]; rfl
          · exact absurd e n3
        · rw [if_neg hy]; rfl
      have t36 : rI m1 10 0 36 = rI m1 43 0 54 := by rw [q3 _ _ _ (by omega) (by omega), hi15 54 (by omega)]; exact s1
      have t57 : ∀ w : Nat, (w : Int) < (rI m1 43 0 54).toInt → (rI m1 57 0 w).toInt = w := fun w hw => by rw [q3 _ _ _ (by omega) (by omega)]; rw [hi15 54 (by omega)] at hw; exact s2 w hw
      obtain ⟨s5, m2, r, hx5, hm5, -⟩ := fit_both A4 t36 t57
      have F5 := fr_x7_howManyFit _ _ _ hx5
      have G5 := fr_m_allOf _ _ _ hm5
      have k43 : ∀ c, rI m2 43 0 c = rI m1 43 0 c := fun c => G5.i _ _ _ (nh rfl)
      have A5 : GA s5 2 (m1.1 43 0) := GA_fr F5 rfl rfl rfl (fun _ _ => rfl) A4
      have p14 : (rI m1 43 0 14).toInt < 999 := by rw [hi14]; rw [ti_lt, li_999] at p9; exact p9
      have e5 : rI s5 15 2 0 = rI m1 43 0 14 := A5.2.1.2.2.1.1
      -- a proof more
      have A6 : GA (wI s5 15 2 0 (rI m1 43 0 14 + 1)) 2 ((wI m2 43 0 14 (rI m1 43 0 14 + 1)).1 43 0) := by
        have ek : (wI m2 43 0 14 (rI m1 43 0 14 + 1)).1 43 0 = ud (m1.1 43 0) 14 (rI m1 43 0 14 + 1) := by rw [wI_upd, show m2.1 43 0 = m1.1 43 0 from funext k43]
        rw [ek]
        have M5 := A5.1
        have X5 := A5.2.1
        have r14 : 0 ≤ (rI m1 43 0 14).toInt := M5.2.2.2.1.1.1
        have tp : (rI m1 43 0 14 + 1).toInt = (rI m1 43 0 14).toInt + 1 := by simp (disch := omega) only [Int32.toInt_add, Int32.toInt_sub, Int32.toInt_mul, Int32.toInt_neg, bm32, li_0, li_1, li_2, li_3, li_4, li_5, li_6, li_7, li_8, li_9, li_10, li_11, li_12, li_13, li_14, li_15, li_16, li_17, li_18, li_19, li_20, li_21, li_22, li_23, li_24, li_25, li_26, li_27, li_28, li_29, li_30, li_31, li_32, li_33, li_34, li_35, li_36, li_37, li_38, li_39, li_40, li_41, li_42, li_43, li_44, li_45, li_46, li_47, li_48, li_49, li_50, li_51, li_52, li_53, li_54, li_55, li_56, li_57, li_58, li_59, li_60, li_61, li_62, li_63, li_64, li_65, li_66, li_67, li_68, li_69, li_70, li_71, li_72, li_73, li_74, li_75, li_76, li_77, li_78, li_91, li_93, li_96, li_97, li_99, li_100, li_122, li_138, li_255, li_256, li_400, li_401, li_625, li_800, li_999, li_1000, li_1001, li_1103, li_2000, li_2037, li_2038, li_2039, li_2040, li_2041, li_2042, li_2043, li_2044, li_2045, li_2046, li_2047, li_2048, li_2049, li_2050, li_2051, li_2052, li_2053, li_2054, li_2055, li_2056, li_2057, li_2058, li_2059, li_2060, li_2061, li_2062, li_2091, li_2093, li_2400, li_2865, li_3000, li_3002, li_3003, li_3005, li_3006, li_3007, li_3008, li_3009, li_3010, li_3011, li_3012, li_3013, li_3020, li_3024, li_3025, li_3026, li_3999, li_4000, li_4095, li_4096, li_5665, li_11330, li_12345, li_15625, li_1000000, li_1000003, li_100000000, li_1000000000, ti_lt, ti_eq, inb_iff, ix_eq]
        refine ⟨MW_t M5 (fun i _ h _ _ _ _ => ud_ne h) ?_ (by rw [ud_ne (by omega)]; exact M5.2.2.2.2.2.2), GX_t M5 (fun c _ _ => rI_ne (by omega)) (fun c => rI_ne (by omega)) (fun c => rI_ne (by omega)) (fun c => rI_ne (by omega)) (fun c => rI_ne (by omega)) (fun c => rI_ne (by omega)) (fun i _ h _ _ _ _ => ud_ne h) ?_ ?_ X5, LX_c (sx := s5) M5.2.2.2.2.2.1.2 (fun c => rfl) (by rw [rN_wI]; omega) (fun t k c _ _ hk => rI_ne (.inl (by rintro rfl; cases hk))) (fun t _ _ => rfl) (fun i hi => ud_ne (by omega)) A5.2.2⟩
        · rw [ud_eq rfl, ud_ne (by omega), ud_ne (by omega), ud_ne (by omega), tp]
          have := M5.2.2.2.1
          exact ⟨by omega, this.2⟩
        · rw [rI_eq rfl, rI_ne (by omega), rI_ne (by omega), rI_ne (by omega), ud_eq rfl, ud_ne (by omega), ud_ne (by omega), ud_ne (by omega)]
          exact ⟨rfl, X5.2.2.1.2⟩
        · rw [rI_ne (by omega), ud_ne (by omega)]; exact X5.2.2.2.2.2
      have ex : x9_weeks_b64 (fu + 1) sx cnt z acc i = x9_weeks_b64 fu (wI s5 15 2 0 (rI m1 43 0 14 + 1)) cnt z3 (acc + r) (i + 1) := by
        show x9_weeks_b64_G _ _ _ _ _ sx cnt z acc i = _
        unfold x9_weeks_b64_G
        rw [gif_t lt, gd_t (by rw [inb_iff]; decide), show ix 0 = 0 from rfl, gif_t (by rw [e14]; exact p9), x1]
        simp only [Option.bind_some, em1]
        rw [gd_t (by rw [ti_eq, li_0]; omega), x2]
        simp only [Option.bind_some]
        rw [gd_t (by decide), x3]
        simp only [Option.bind_some]
        rw [gd_t (by decide), hs4]
        simp only [Option.bind_some]
        rw [hx5]
        simp only [Option.bind_some]
        rw [gd_t (by rw [inb_iff]; decide), gd_t (by rw [inb_iff]; decide), e5]
      have em : m_weeks_b63 (fu' + 1) sm cnt acc i = m_weeks_b63 fu' (wI m2 43 0 14 (rI m1 43 0 14 + 1)) cnt (acc + r) (i + 1) := by
        show m_weeks_b63_G _ _ _ _ sm cnt acc i = _
        unfold m_weeks_b63_G
        rw [gif_t lt, gd_t k14.1, k14.2, gif_t p9, hm1]
        simp only [Option.bind_some]
        rw [hm5]
        simp only [Option.bind_some]
        rw [gd_t k14.1, gd_t k14.1, k43]
      have ti : (i + 1).toInt = i.toInt + 1 := by simp (disch := omega) only [Int32.toInt_add, Int32.toInt_sub, Int32.toInt_mul, Int32.toInt_neg, bm32, li_0, li_1, li_2, li_3, li_4, li_5, li_6, li_7, li_8, li_9, li_10, li_11, li_12, li_13, li_14, li_15, li_16, li_17, li_18, li_19, li_20, li_21, li_22, li_23, li_24, li_25, li_26, li_27, li_28, li_29, li_30, li_31, li_32, li_33, li_34, li_35, li_36, li_37, li_38, li_39, li_40, li_41, li_42, li_43, li_44, li_45, li_46, li_47, li_48, li_49, li_50, li_51, li_52, li_53, li_54, li_55, li_56, li_57, li_58, li_59, li_60, li_61, li_62, li_63, li_64, li_65, li_66, li_67, li_68, li_69, li_70, li_71, li_72, li_73, li_74, li_75, li_76, li_77, li_78, li_91, li_93, li_96, li_97, li_99, li_100, li_122, li_138, li_255, li_256, li_400, li_401, li_625, li_800, li_999, li_1000, li_1001, li_1103, li_2000, li_2037, li_2038, li_2039, li_2040, li_2041, li_2042, li_2043, li_2044, li_2045, li_2046, li_2047, li_2048, li_2049, li_2050, li_2051, li_2052, li_2053, li_2054, li_2055, li_2056, li_2057, li_2058, li_2059, li_2060, li_2061, li_2062, li_2091, li_2093, li_2400, li_2865, li_3000, li_3002, li_3003, li_3005, li_3006, li_3007, li_3008, li_3009, li_3010, li_3011, li_3012, li_3013, li_3020, li_3024, li_3025, li_3026, li_3999, li_4000, li_4095, li_4096, li_5665, li_11330, li_12345, li_15625, li_1000000, li_1000003, li_100000000, li_1000000000, ti_lt, ti_eq, inb_iff, ix_eq]
      have e54 : rI (wI m2 43 0 14 (rI m1 43 0 14 + 1)) 43 0 54 = rI sm 43 0 54 := by rw [rI_ne (by omega), k43, hi15 54 (by omega)]
      obtain ⟨sx1, sm1, r1, u1, u2, u3, u4, u5, u6, u7, u8⟩ := ih (wI s5 15 2 0 (rI m1 43 0 14 + 1)) (wI m2 43 0 14 (rI m1 43 0 14 + 1)) z3 (acc + r) (i + 1) fu fu' (by rw [ti]; omega) (by rw [ti]; omega) (by omega) (by omega) A6
        (by rw [e54, rI_ne (by omega), G5.i 10 0 36 (nh rfl), q3 _ _ _ (by omega) (by omega)]; exact s1)
        (fun w hw => by rw [e54] at hw; rw [rI_ne (by omega), G5.i 57 0 w (nh rfl), q3 _ _ _ (by omega) (by omega)]; exact s2 w hw)
        (by rw [e54]; exact n1) (by rw [y3]; exact R3) (by rw [rI_ne (by omega), G5.i 10 0 67 (nh rfl)]; exact q1)
      refine ⟨sx1, sm1, r1, by rw [ex, u1], by rw [em, u2], u3, fun j hj => ?_, fun c => ?_, fun c => ?_, ?_, ?_⟩
      · rw [u4 j hj, rI_ne (by omega), k43, hi15 j hj]
      · rw [u5, rI_ne (by omega), G5.i 46 0 c (nh rfl), q3 _ _ _ (by omega) (by omega)]
      · rw [u6, rI_ne (by omega), G5.i 57 0 c (nh rfl), q3 _ _ _ (by omega) (by omega)]
      · rw [u7, rI_ne (by omega), G5.i 10 0 66 (nh rfl), q3 _ _ _ (by omega) (by omega)]
      · rw [u8, rI_ne (by omega), G5.i 10 0 36 (nh rfl), q3 _ _ _ (by omega) (by omega)]
    · exact ⟨sx, sm, acc, stopX _ _ _ _ _ (.inr (by rw [e14]; exact p9)), stopM _ _ _ _ (.inr p9), A, fun _ _ => rfl, fun _ => rfl, fun _ => rfl, rfl, rfl⟩
theorem ok_laysAside {s : Sg} {a : Int32} {k : Nat} (ha : a.toInt = k) (hk : k < 2) : ok (m_laysAside s a) (fun s' => (∀ i, i < 15 → rI s' 46 0 (15 * k + i) = rI s 43 0 i) ∧ ∀ i, i < 15 * k ∨ 15 * k + 15 ≤ i → rI s' 46 0 i = rI s 46 0 i) := by
  have t1 : (15 * a).toInt = 15 * k := by simp (disch := omega) only [Int32.toInt_add, Int32.toInt_sub, Int32.toInt_mul, Int32.toInt_neg, bm32, li_0, li_1, li_2, li_3, li_4, li_5, li_6, li_7, li_8, li_9, li_10, li_11, li_12, li_13, li_14, li_15, li_16, li_17, li_18, li_19, li_20, li_21, li_22, li_23, li_24, li_25, li_26, li_27, li_28, li_29, li_30, li_31, li_32, li_33, li_34, li_35, li_36, li_37, li_38, li_39, li_40, li_41, li_42, li_43, li_44, li_45, li_46, li_47, li_48, li_49, li_50, li_51, li_52, li_53, li_54, li_55, li_56, li_57, li_58, li_59, li_60, li_61, li_62, li_63, li_64, li_65, li_66, li_67, li_68, li_69, li_70, li_71, li_72, li_73, li_74, li_75, li_76, li_77, li_78, li_91, li_93, li_96, li_97, li_99, li_100, li_122, li_138, li_255, li_256, li_400, li_401, li_625, li_800, li_999, li_1000, li_1001, li_1103, li_2000, li_2037, li_2038, li_2039, li_2040, li_2041, li_2042, li_2043, li_2044, li_2045, li_2046, li_2047, li_2048, li_2049, li_2050, li_2051, li_2052, li_2053, li_2054, li_2055, li_2056, li_2057, li_2058, li_2059, li_2060, li_2061, li_2062, li_2091, li_2093, li_2400, li_2865, li_3000, li_3002, li_3003, li_3005, li_3006, li_3007, li_3008, li_3009, li_3010, li_3011, li_3012, li_3013, li_3020, li_3024, li_3025, li_3026, li_3999, li_4000, li_4095, li_4096, li_5665, li_11330, li_12345, li_15625, li_1000000, li_1000003, li_100000000, li_1000000000, ti_lt, ti_eq, inb_iff, ix_eq, ha]
  unfold m_laysAside m_laysAside_G
  refine ok_loop (K := fun n (p : Sg × Int32) => m_laysAside_b2 n p.1 a p.2) (I := fun p => 0 ≤ p.2.toInt ∧ p.2.toInt ≤ 15 ∧ (∀ i : Nat, (i : Int) < p.2.toInt → rI p.1 46 0 (15 * k + i) = rI s 43 0 i) ∧ (∀ i, i < 15 * k ∨ 15 * k + 15 ≤ i → rI p.1 46 0 i = rI s 46 0 i) ∧ ∀ i, rI p.1 43 0 i = rI s 43 0 i)
    (μ := fun p => 15 - p.2.toInt.toNat) ?_ FU (s, 0) ⟨by simp only [li_0]; omega, by simp only [li_0]; omega, fun i hi => by simp only [li_0] at hi; omega, fun i _ => rfl, fun i => rfl⟩ (by show _ < 20000; omega)
  rintro n ⟨s2, j⟩ ⟨g2, g3, g4, g5, g6⟩ ih
  simp only at g2 g3 g4 g5 g6 ih
  show ok (m_laysAside_b2_G _ s2 a j) _
  unfold m_laysAside_b2_G
  refine ok_gif (fun c => ?_) (fun c => ?_)
  · rw [ti_lt, li_15] at c
    have e1 : (j + 1).toInt = j.toInt + 1 := by simp (disch := omega) only [Int32.toInt_add, Int32.toInt_sub, Int32.toInt_mul, Int32.toInt_neg, bm32, li_0, li_1, li_2, li_3, li_4, li_5, li_6, li_7, li_8, li_9, li_10, li_11, li_12, li_13, li_14, li_15, li_16, li_17, li_18, li_19, li_20, li_21, li_22, li_23, li_24, li_25, li_26, li_27, li_28, li_29, li_30, li_31, li_32, li_33, li_34, li_35, li_36, li_37, li_38, li_39, li_40, li_41, li_42, li_43, li_44, li_45, li_46, li_47, li_48, li_49, li_50, li_51, li_52, li_53, li_54, li_55, li_56, li_57, li_58, li_59, li_60, li_61, li_62, li_63, li_64, li_65, li_66, li_67, li_68, li_69, li_70, li_71, li_72, li_73, li_74, li_75, li_76, li_77, li_78, li_91, li_93, li_96, li_97, li_99, li_100, li_122, li_138, li_255, li_256, li_400, li_401, li_625, li_800, li_999, li_1000, li_1001, li_1103, li_2000, li_2037, li_2038, li_2039, li_2040, li_2041, li_2042, li_2043, li_2044, li_2045, li_2046, li_2047, li_2048, li_2049, li_2050, li_2051, li_2052, li_2053, li_2054, li_2055, li_2056, li_2057, li_2058, li_2059, li_2060, li_2061, li_2062, li_2091, li_2093, li_2400, li_2865, li_3000, li_3002, li_3003, li_3005, li_3006, li_3007, li_3008, li_3009, li_3010, li_3011, li_3012, li_3013, li_3020, li_3024, li_3025, li_3026, li_3999, li_4000, li_4095, li_4096, li_5665, li_11330, li_12345, li_15625, li_1000000, li_1000003, li_100000000, li_1000000000, ti_lt, ti_eq, inb_iff, ix_eq]
    refine ok_gd (inb_iff.mpr (by omega)) (ok_gd (inb_k (m := 15 * k) (by rw [t1]; omega) g2 (by omega) (by omega)) ?_)
    rw [ix_k (m := 15 * k) (by rw [t1]; omega) g2 (by omega), g6]
    refine ih (wI s2 46 0 (15 * k + j.toInt.toNat) (rI s 43 0 (ix j)), j + 1) ⟨by simp only [e1]; omega, by simp only [e1]; omega, fun i hi => ?_, fun i hi => ?_, fun i => ?_⟩ (by simp only [e1]; omega)
    · simp only [e1] at hi
      by_cases q : i = j.toInt.toNat
      · subst q; rw [rI_eq rfl]; rfl
      · rw [rI_ne (by omega)]; exact g4 i (by omega)
    · rw [rI_ne (by omega)]; exact g5 i hi
    · rw [rI_ne (by omega)]; exact g6 i
  · rw [ti_lt, li_15] at c
    exact ok_some ⟨fun i hi => g4 i (by omega), g5⟩
theorem ok_takesBack {s : Sg} {a : Int32} {k : Nat} (ha : a.toInt = k) (hk : k < 2) : ok (m_takesBack s a) (fun s' => (∀ i, i < 15 → rI s' 43 0 i = rI s 46 0 (15 * k + i)) ∧ ∀ i, 15 ≤ i → rI s' 43 0 i = rI s 43 0 i) := by
  have t1 : (15 * a).toInt = 15 * k := by simp (disch := omega) only [Int32.toInt_add, Int32.toInt_sub, Int32.toInt_mul, Int32.toInt_neg, bm32, li_0, li_1, li_2, li_3, li_4, li_5, li_6, li_7, li_8, li_9, li_10, li_11, li_12, li_13, li_14, li_15, li_16, li_17, li_18, li_19, li_20, li_21, li_22, li_23, li_24, li_25, li_26, li_27, li_28, li_29, li_30, li_31, li_32, li_33, li_34, li_35, li_36, li_37, li_38, li_39, li_40, li_41, li_42, li_43, li_44, li_45, li_46, li_47, li_48, li_49, li_50, li_51, li_52, li_53, li_54, li_55, li_56, li_57, li_58, li_59, li_60, li_61, li_62, li_63, li_64, li_65, li_66, li_67, li_68, li_69, li_70, li_71, li_72, li_73, li_74, li_75, li_76, li_77, li_78, li_91, li_93, li_96, li_97, li_99, li_100, li_122, li_138, li_255, li_256, li_400, li_401, li_625, li_800, li_999, li_1000, li_1001, li_1103, li_2000, li_2037, li_2038, li_2039, li_2040, li_2041, li_2042, li_2043, li_2044, li_2045, li_2046, li_2047, li_2048, li_2049, li_2050, li_2051, li_2052, li_2053, li_2054, li_2055, li_2056, li_2057, li_2058, li_2059, li_2060, li_2061, li_2062, li_2091, li_2093, li_2400, li_2865, li_3000, li_3002, li_3003, li_3005, li_3006, li_3007, li_3008, li_3009, li_3010, li_3011, li_3012, li_3013, li_3020, li_3024, li_3025, li_3026, li_3999, li_4000, li_4095, li_4096, li_5665, li_11330, li_12345, li_15625, li_1000000, li_1000003, li_100000000, li_1000000000, ti_lt, ti_eq, inb_iff, ix_eq, ha]
  unfold m_takesBack m_takesBack_G
  refine ok_loop (K := fun n (p : Sg × Int32) => m_takesBack_b2 n p.1 a p.2) (I := fun p => 0 ≤ p.2.toInt ∧ p.2.toInt ≤ 15 ∧ (∀ i : Nat, (i : Int) < p.2.toInt → rI p.1 43 0 i = rI s 46 0 (15 * k + i)) ∧ (∀ i, 15 ≤ i → rI p.1 43 0 i = rI s 43 0 i) ∧ ∀ i, rI p.1 46 0 i = rI s 46 0 i)
    (μ := fun p => 15 - p.2.toInt.toNat) ?_ FU (s, 0) ⟨by simp only [li_0]; omega, by simp only [li_0]; omega, fun i hi => by simp only [li_0] at hi; omega, fun i _ => rfl, fun i => rfl⟩ (by show _ < 20000; omega)
  rintro n ⟨s2, j⟩ ⟨g2, g3, g4, g5, g6⟩ ih
  simp only at g2 g3 g4 g5 g6 ih
  show ok (m_takesBack_b2_G _ s2 a j) _
  unfold m_takesBack_b2_G
  refine ok_gif (fun c => ?_) (fun c => ?_)
  · rw [ti_lt, li_15] at c
    have e1 : (j + 1).toInt = j.toInt + 1 := by simp (disch := omega) only [Int32.toInt_add, Int32.toInt_sub, Int32.toInt_mul, Int32.toInt_neg, bm32, li_0, li_1, li_2, li_3, li_4, li_5, li_6, li_7, li_8, li_9, li_10, li_11, li_12, li_13, li_14, li_15, li_16, li_17, li_18, li_19, li_20, li_21, li_22, li_23, li_24, li_25, li_26, li_27, li_28, li_29, li_30, li_31, li_32, li_33, li_34, li_35, li_36, li_37, li_38, li_39, li_40, li_41, li_42, li_43, li_44, li_45, li_46, li_47, li_48, li_49, li_50, li_51, li_52, li_53, li_54, li_55, li_56, li_57, li_58, li_59, li_60, li_61, li_62, li_63, li_64, li_65, li_66, li_67, li_68, li_69, li_70, li_71, li_72, li_73, li_74, li_75, li_76, li_77, li_78, li_91, li_93, li_96, li_97, li_99, li_100, li_122, li_138, li_255, li_256, li_400, li_401, li_625, li_800, li_999, li_1000, li_1001, li_1103, li_2000, li_2037, li_2038, li_2039, li_2040, li_2041, li_2042, li_2043, li_2044, li_2045, li_2046, li_2047, li_2048, li_2049, li_2050, li_2051, li_2052, li_2053, li_2054, li_2055, li_2056, li_2057, li_2058, li_2059, li_2060, li_2061, li_2062, li_2091, li_2093, li_2400, li_2865, li_3000, li_3002, li_3003, li_3005, li_3006, li_3007, li_3008, li_3009, li_3010, li_3011, li_3012, li_3013, li_3020, li_3024, li_3025, li_3026, li_3999, li_4000, li_4095, li_4096, li_5665, li_11330, li_12345, li_15625, li_1000000, li_1000003, li_100000000, li_1000000000, ti_lt, ti_eq, inb_iff, ix_eq]
    refine ok_gd (inb_k (m := 15 * k) (by rw [t1]; omega) g2 (by omega) (by omega)) (ok_gd (inb_iff.mpr (by omega)) ?_)
    rw [ix_k (m := 15 * k) (by rw [t1]; omega) g2 (by omega), g6]
    refine ih (wI s2 43 0 (ix j) (rI s 46 0 (15 * k + j.toInt.toNat)), j + 1) ⟨by simp only [e1]; omega, by simp only [e1]; omega, fun i hi => ?_, fun i hi => ?_, fun i => ?_⟩ (by simp only [e1]; omega)
    · simp only [e1] at hi
      by_cases q : i = j.toInt.toNat
      · subst q; rw [rI_eq (show j.toInt.toNat = ix j from rfl)]
      · rw [rI_ne (by rw [ix_eq]; omega)]; exact g4 i (by omega)
    · rw [rI_ne (by rw [ix_eq]; omega)]; exact g5 i hi
    · rw [rI_ne (by omega)]; exact g6 i
  · rw [ti_lt, li_15] at c
    exact ok_some ⟨fun i hi => g4 i (by omega), g5⟩
