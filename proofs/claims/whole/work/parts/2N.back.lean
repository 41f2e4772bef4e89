/-! undo -/
theorem MW_back {f f' : Nat → Int32} (M : MW f) {v w ww : Int32} (S : Step f v w ww f' f) (hf : ∀ i, 15 ≤ i → f' i = f i) : MW f' := by
  have n12 := M.1
  rcases S with ⟨h1, h2, h3, h4, h5⟩ | ⟨h1, h2, h3, h4, h5, h6⟩ | ⟨h1, h2, h3, h4, h5, h6, h7, h8⟩ | ⟨h1, h2, h3, h4, h5⟩
  · refine MW_a M hf (fun j hj => ?_) ⟨fun j hj => ?_, fun j hj => ?_⟩ ?_
    · rw [h5 _ (by omega) (by omega)]; have := M.2.1 j hj; omega
    · rw [h4, bt_flip_hi h2 (by omega) (by omega)]; exact M.2.2.1.1 j hj
    · rw [h5 1 (by omega) (by omega)]; exact M.2.2.1.2 j hj
    · rw [h5 14 (by omega) (by omega)]; exact M.2.2.2.1.1
  · refine MW_a M hf (fun j hj => ?_) ⟨fun j hj => ?_, fun j hj => ?_⟩ ?_
    · rw [h6 _ (by omega) (by omega)]; have := M.2.1 j hj; omega
    · rw [h6 0 (by omega) (by omega)]; exact M.2.2.1.1 j hj
    · rw [h5, bt_flip_hi h2 (by omega) (by omega)]; exact M.2.2.1.2 j hj
    · rw [h6 14 (by omega) (by omega)]; exact M.2.2.2.1.1
  · refine MW_a M hf (fun j hj => ?_) ⟨fun j hj => ?_, fun j hj => ?_⟩ ?_
    · by_cases g : j = w.toInt.toNat
      · subst g; rw [h4]; have := M.2.1 _ hj; omega
      · rw [h8 _ (by omega) (by omega)]; have := M.2.1 j hj; omega
    · rw [h8 0 (by omega) (by omega)]; exact M.2.2.1.1 j hj
    · rw [h8 1 (by omega) (by omega)]; exact M.2.2.1.2 j hj
    · rw [h8 14 (by omega) (by omega)]; exact M.2.2.2.1.1
  · refine MW_a M hf (fun j hj => ?_) ⟨fun j hj => ?_, fun j hj => ?_⟩ ?_
    · rw [h5 _ (by omega)]; have := M.2.1 j hj; omega
    · rw [h5 0 (by omega)]; exact M.2.2.1.1 j hj
    · rw [h5 1 (by omega)]; exact M.2.2.1.2 j hj
    · omega
/-- back by the same hand -/
theorem Act_back {f f' : Nat → Int32} (M : MW f) {v w ww : Int32} (S : Step f v w ww f' f) (hf : ∀ i, 15 ≤ i → f' i = f i) (h3 : ¬ v = 3) : isVb v ∧ Why f v w ww = 0 ∧ Act f v w ww = f' := by
  have n12 := M.1
  rcases S with ⟨rfl, h2, h3, h4, h5⟩ | ⟨rfl, h2, h3, h4, h5, h6⟩ | ⟨rfl, h2, h3, h4, h5, h6, h7, h8⟩ | ⟨h1, -⟩
  · refine ⟨.inl rfl, ?_, ?_⟩
    · unfold Why; rw [if_neg (by decide), if_neg (fun x => absurd x.1 (by decide)), if_neg (fun x => x ⟨h2, by omega⟩), if_pos rfl, if_neg (by omega)]
    · unfold Act; rw [if_pos rfl]; funext i
      by_cases c : i = 0
      · subst c; rw [ud_eq rfl, h4]
      · rw [ud_ne c]
        by_cases d : i < 15
        · exact (h5 i (by omega) d).symm
        · exact (hf i (by omega)).symm
  · refine ⟨.inr (.inl rfl), ?_, ?_⟩
    · unfold Why; rw [if_neg (by decide), if_neg (fun x => absurd x.1 (by decide)), if_neg (fun x => x ⟨h2, by omega⟩), if_neg (by decide), if_pos rfl, if_neg (fun x => by rw [x, li_0] at h4; omega)]
    · unfold Act; rw [if_neg (by decide), if_pos rfl]; funext i
      by_cases c : i = 1
      · subst c; rw [ud_eq rfl, h5]
      · rw [ud_ne c]
        by_cases d : i < 15
        · exact (h6 i d c).symm
        · exact (hf i (by omega)).symm
  · refine ⟨.inr (.inr (.inl rfl)), ?_, ?_⟩
    · have r := M.2.1 w.toInt.toNat (by omega)
      unfold Why; rw [if_neg (by decide), if_neg (fun x => x.2 (by omega)), if_neg (fun x => x ⟨h2, by omega⟩), if_neg (by decide), if_neg (by decide), if_neg]
      rintro (x | x)
      · exact h5 x.symm
      · exact x h6
    · unfold Act; rw [if_neg (by decide), if_neg (by decide), if_pos rfl]; funext i
      by_cases c : i = 2 + w.toInt.toNat
      · subst c; rw [ud_eq rfl, h4]
      · rw [ud_ne c]
        by_cases d : i < 15
        · exact (h8 i d c).symm
        · exact (hf i (by omega)).symm
  · exact absurd h1 h3
theorem ok_m_undo {sm : Sg} {h : Nat} (h16 : h < 16) (hh : (rI sm 10 0 46).toInt = h + 1) : ok (m_undo sm) (fun q => q.2 = rI sm 59 0 (16 * h + 15) ∧ (rI q.1 10 0 46).toInt = h ∧ (∀ i, i < 15 → rI q.1 43 0 i = rI sm 59 0 (16 * h + i)) ∧ (∀ i, 15 ≤ i → rI q.1 43 0 i = rI sm 43 0 i) ∧ (∀ i, rI q.1 59 0 i = rI sm 59 0 i) ∧ (∀ i, rI q.1 42 0 i = rI sm 42 0 i) ∧ rI q.1 10 0 0 = 0 ∧ ∀ c, c ≠ 46 → c ≠ 0 → rI q.1 10 0 c = rI sm 10 0 c) := by
  unfold m_undo m_undo_G
  have t1 : (rI sm 10 0 46 - 1).toInt = h := by rw [ti_sub (by rw [hh, li_1]; omega) (by rw [hh, li_1]; omega), hh, li_1]; omega
  have t2 : (16 * (rI sm 10 0 46 - 1)).toInt = 16 * h := by rw [ti_mul (by rw [t1, li_16]; omega) (by rw [t1, li_16]; omega), t1, li_16]
  rw [gif_f (by rw [ti_eq, hh, li_0]; omega)]
  simp (disch := omega) only [rI_eq]
  refine ok_loop (K := fun k (p : Sg × Int32) => m_undo_b34 k p.1 (16 * (rI sm 10 0 46 - 1)) p.2) (I := fun p => (rI p.1 10 0 46).toInt = h ∧ 0 ≤ p.2.toInt ∧ p.2.toInt ≤ 15 ∧ (∀ i : Nat, (i : Int) < p.2.toInt → rI p.1 43 0 i = rI sm 59 0 (16 * h + i)) ∧ (∀ i, 15 ≤ i → rI p.1 43 0 i = rI sm 43 0 i) ∧ (∀ i, rI p.1 59 0 i = rI sm 59 0 i) ∧ (∀ i, rI p.1 42 0 i = rI sm 42 0 i) ∧ ∀ c, c ≠ 46 → rI p.1 10 0 c = rI sm 10 0 c)
    (μ := fun p => 15 - p.2.toInt.toNat) ?_ FU (wI sm 10 0 46 (rI sm 10 0 46 - 1), 0) ⟨by rw [rI_eq rfl, t1], by simp only [li_0]; omega, by simp only [li_0]; omega, fun i hi => by simp only [li_0] at hi; omega, fun i hi => rI_ne (by omega), fun i => rI_ne (by omega), fun i => rI_ne (by omega), fun c hc => rI_ne (by omega)⟩ (by show _ < 20000; omega)
  rintro k ⟨s2, j⟩ ⟨g1, g2, g3, g4, g5, g6, g42, g7⟩ ih
  simp only at g1 g2 g3 g4 g5 g6 g42 g7 ih
  show ok (m_undo_b34_G _ _ s2 _ j) _
  unfold m_undo_b34_G
  refine ok_gif (fun c => ?_) (fun c => ?_)
  · rw [ti_lt, li_15] at c
    have e1 : (j + 1).toInt = j.toInt + 1 := by simp (disch := omega) only [Int32.toInt_add, Int32.toInt_sub, Int32.toInt_mul, Int32.toInt_neg, bm32, li_0, li_1, li_2, li_3, li_4, li_5, li_6, li_7, li_8, li_9, li_10, li_11, li_12, li_13, li_14, li_15, li_16, li_17, li_18, li_19, li_20, li_21, li_22, li_23, li_24, li_25, li_26, li_27, li_28, li_29, li_30, li_31, li_32, li_33, li_34, li_35, li_36, li_37, li_38, li_39, li_40, li_41, li_42, li_43, li_44, li_45, li_46, li_47, li_48, li_49, li_50, li_51, li_52, li_53, li_54, li_55, li_56, li_57, li_58, li_59, li_60, li_61, li_62, li_63, li_64, li_65, li_66, li_67, li_68, li_69, li_70, li_71, li_72, li_73, li_74, li_75, li_76, li_77, li_78, li_91, li_93, li_96, li_97, li_99, li_100, li_122, li_138, li_255, li_256, li_400, li_401, li_625, li_800, li_999, li_1000, li_1001, li_1103, li_2000, li_2037, li_2038, li_2039, li_2040, li_2041, li_2042, li_2043, li_2044, li_2045, li_2046, li_2047, li_2048, li_2049, li_2050, li_2051, li_2052, li_2053, li_2054, li_2055, li_2056, li_2057, li_2058, li_2059, li_2060, li_2061, li_2062, li_2091, li_2093, li_2400, li_2865, li_3000, li_3002, li_3003, li_3005, li_3006, li_3007, li_3008, li_3009, li_3010, li_3011, li_3012, li_3013, li_3020, li_3024, li_3025, li_3026, li_3999, li_4000, li_4095, li_4096, li_5665, li_11330, li_12345, li_15625, li_1000000, li_1000003, li_100000000, li_1000000000, ti_lt, ti_eq, inb_iff, ix_eq]
    refine ok_gd (inb_k (m := 16 * h) (by rw [t2]; omega) g2 (by omega) (by omega)) (ok_gd (inb_iff.mpr (by omega)) ?_)
    rw [ix_k (m := 16 * h) (by rw [t2]; omega) g2 (by omega)]
    refine ih (wI s2 43 0 (ix j) (rI s2 59 0 (16 * h + j.toInt.toNat)), j + 1) ⟨?_, by simp only [e1]; omega, by simp only [e1]; omega, fun i hi => ?_, fun i hi => ?_, fun i => ?_, fun i => ?_, fun c hc => ?_⟩ (by simp only [e1]; omega)
    · rw [rI_ne (by omega)]; exact g1
    · simp only [e1] at hi
      by_cases q : i = j.toInt.toNat
      · subst q; rw [rI_eq (show j.toInt.toNat = ix j from rfl)]; exact g6 _
      · rw [rI_ne (by rw [ix_eq]; omega)]; exact g4 i (by omega)
    · rw [rI_ne (by rw [ix_eq]; omega)]; exact g5 i hi
    · rw [rI_ne (by omega)]; exact g6 i
    · rw [rI_ne (by omega)]; exact g42 i
    · rw [rI_ne (by omega)]; exact g7 c hc
  · rw [ti_lt, li_15] at c
    have e2 : ix (16 * (rI sm 10 0 46 - 1) + 15) = 16 * h + 15 := by rw [ix_k (m := 16 * h) (by rw [t2]; omega) (by decide) (by rw [li_15]; omega)]; rfl
    refine ok_gd (inb_k (m := 16 * h) (by rw [t2]; omega) (by decide) (by omega) (by rw [li_15]; omega)) ?_
    rw [e2, bindp, q_m_good]
    refine ok_some ?_
    simp (disch := omega) only [rI_ne, rI_eq]
    refine ⟨g6 _, g1, fun i hi => g4 i (by omega), g5, g6, g42, trivial, fun c h1 h2 => ?_⟩
    rw [rI_ne (by omega)]; exact g7 c h1
theorem c_undo {sx sm : Sg} (h : Inv sx sm) : Call sx sm (x9_undo sx) (m_undo sm) := by
  obtain ⟨n, g1, g2, g3, g4⟩ := id h.2.2.1
  have M := h.2.1.1.1
  have X := h.2.1.1.2.1
  have n12 := M.1
  unfold x9_undo x9_undo_G
  simp only [bindp]
  by_cases n0 : n = 0
  · subst n0
    have e1 : x3_takeBack sx 0 0 = some (sx, -1) := by
      unfold x3_takeBack x3_takeBack_G
      rw [gif_f (by rw [ti_lt, g2, li_0]; omega)]
    have e2 : m_undo sm = m_refuses sm (-3) := by
      unfold m_undo m_undo_G
      rw [gif_t (by rw [ti_eq, g3, li_0]; rfl), bindp]
    rw [e1, e2]
    simp only [Option.bind_some]
    rw [gif_t trivial]
    exact refuse_both h (.inr (.inr (.inl rfl)))
  · obtain ⟨k, rfl⟩ : ∃ k, n = k + 1 := ⟨n - 1, by omega⟩
    obtain ⟨⟨sm', r⟩, hm, p1, p2, p3, p4, p5, p42, p6, p7⟩ := ok_m_undo (h := k) (by omega) (by rw [g3]; omega)
    simp only at p1 p2 p3 p4 p5 p42 p6 p7
    have G := fr_m_undo _ _ hm
    obtain ⟨q1, q2⟩ := g4 k (by omega)
    have S : Step (sm.1 43 0) (rI sx 20 0 k) (rI sx 21 0 k) (rI sx 22 0 k) (sm'.1 43 0) (sm.1 43 0) := by
      refine Step_c n12.2 rfl (fun i _ _ => rfl) (fun i hi => ?_) (fun i hi => ?_) q2
      · unfold Sv; rw [if_pos (by omega)]; exact p3 i hi
      · unfold Sv; rw [if_neg (by omega)]; rfl
    have M' : MW (sm'.1 43 0) := MW_back M S p4
    have t1 : (rI sx 3 0 3 - 1).toInt = k := by rw [ti_sub (by rw [g2, li_1]; omega) (by rw [g2, li_1]; omega), g2, li_1]; omega
    have hi : ix (rI sx 3 0 3 - 1) = k := by rw [ix_eq, t1]; omega
    have hb : inb (rI sx 3 0 3 - 1) 16 := inb_iff.mpr (by rw [t1]; omega)
    -- the class takes it back
    have hx : ok (x3_takeBack sx 0 0) (fun q => q.2 = rI sx 20 0 k ∧ (rI q.1 3 0 3).toInt = k ∧ GX q.1 0 (sm'.1 43 0) ∧ (∀ c, rI q.1 20 0 c = rI sx 20 0 c ∧ rI q.1 21 0 c = rI sx 21 0 c ∧ rI q.1 22 0 c = rI sx 22 0 c)) := by
      unfold x3_takeBack x3_takeBack_G
      rw [gif_t (by rw [ti_lt, g2, li_0]; omega), gif_f (by rw [ti_lt, g2, li_16]; omega)]
      simp (disch := omega) only [rI_ne, rI_eq, hi, gd_t hb]
      have X1 : GX (wI sx 3 0 3 (rI sx 3 0 3 - 1)) 0 (sm.1 43 0) := GX_c ⟨n12.2, M.2.2.2.2.1.1.2⟩ (fun c _ => rI_ne (by omega)) (fun c => rI_ne (by omega)) (fun c => rI_ne (by omega)) (fun c => rI_ne (by omega)) (fun c => rI_ne (by omega)) (fun c => rI_ne (by omega)) (fun c => rI_ne (by omega)) (fun i _ => rfl) X
      refine ok_gif (fun v3 => ?_) (fun v3 => ?_)
      · rw [gd_t (by rw [inb_iff]; decide), gd_t (by rw [inb_iff]; decide), show ix 0 = 0 from rfl]
        rcases S with ⟨s1, -⟩ | ⟨s1, -⟩ | ⟨s1, -⟩ | ⟨s1, s2, s3, s4, s5⟩
        · rw [s1] at v3; exact absurd v3 (by decide)
        · rw [s1] at v3; exact absurd v3 (by decide)
        · rw [s1] at v3; exact absurd v3 (by decide)
        · refine ok_some ?_
          simp (disch := omega) only [rI_ne, rI_eq]
          refine ⟨trivial, t1, ?_, fun c => ⟨trivial, trivial, trivial⟩⟩
          have e14 : rI sx 15 0 0 - 1 = sm'.1 43 0 14 := by
            rw [X.2.2.1.1, s2, Int32.add_sub_cancel]
          rw [e14]
          refine GX_t M (fun c _ _ => ?_) (fun c => ?_) (fun c => ?_) (fun c => ?_) (fun c => ?_) (fun c => ?_) (fun i h1 h2 _ _ _ _ => ?_) ?_ ?_ X1
          · rw [rI_ne (by omega)]
          · rw [rI_ne (by omega)]
          · rw [rI_ne (by omega)]
          · rw [rI_ne (by omega)]
          · rw [rI_ne (by omega)]
          · rw [rI_ne (by omega)]
          · by_cases d : i < 14
            · exact s5 i d
            · exact p4 i (by omega)
          · simp (disch := omega) only [rI_ne, rI_eq]
            have T := X.2.2.1
            refine ⟨trivial, ?_, ?_, ?_⟩
            · rw [T.2.1]; exact (p4 51 (by omega)).symm
            · rw [T.2.2.1]; exact (p4 52 (by omega)).symm
            · rw [T.2.2.2]; exact (p4 53 (by omega)).symm
          · simp (disch := omega) only [rI_ne]; rw [X.2.2.2.2.2]; exact (p4 57 (by omega)).symm
      · obtain ⟨w1, w2, w3⟩ := Act_back M S p4 v3
        refine ok_bind (ok_fr (ok_carry M X1 w1 w2) (fr_x1_carryOutIfItCanBe _ _ _ _ _) (fun s3 X3 F => ?_))
        have a1 : ∀ c, rI s3 3 0 c = _ := fun c => F.i 3 0 c (nh rfl)
        have a2 : ∀ c, rI s3 20 0 c = _ := fun c => F.i 20 0 c (nh rfl)
        have a3 : ∀ c, rI s3 21 0 c = _ := fun c => F.i 21 0 c (nh rfl)
        have a4 : ∀ c, rI s3 22 0 c = _ := fun c => F.i 22 0 c (nh rfl)
        simp (disch := omega) only [a1, a2, a3, a4, rI_ne, rI_eq, hi, gd_t hb]
        rw [w3] at X3
        refine ok_some ⟨rfl, ?_, X3, fun c => ?_⟩
        · rw [a1, rI_eq rfl]; exact t1
        · simp (disch := omega) only [a2, a3, a4, rI_ne]; exact ⟨trivial, trivial, trivial⟩
    obtain ⟨⟨sx', r'⟩, hx1, u1, u2, u3, u4⟩ := hx
    simp only at u1 u2 u3 u4
    have F := fr_x3_takeBack _ _ _ _ hx1
    have nv : ¬ rI sx 20 0 k = -1 := by
      rcases S with ⟨s1, -⟩ | ⟨s1, -⟩ | ⟨s1, -⟩ | ⟨s1, -⟩ <;> rw [s1] <;> decide
    rw [hx1]
    simp only [Option.bind_some]
    rw [u1, gif_f nv, q_x9_answer]
    have G' : Fr FP_m_undo sm sm' := G
    have F' : Fr ((9, 1, 17) :: FP_x3_takeBack 0 0) sx (wI sx' 9 0 16 0) := fr_wI (F.mono (fun k i c h => .inr h)) (.inl ⟨rfl, .inr rfl, .inr rfl⟩)
    refine ⟨_, sm', _, rfl, by rw [hm, p1, q1], ⟨?_, ⟨⟨M', ?_, ?_⟩, ?_, ?_⟩, ?_, InvC_fr F' G' rfl rfl rfl rfl rfl rfl h.2.2.2.1, InvE_fr F' G' rfl rfl rfl h.2.2.2.2.1, InvF_fr F' G' rfl (.inl rfl) (.inl ⟨rfl, rfl⟩) (.inl rfl) rfl h.2.2.2.2.2⟩, by rw [F'.n _ _ _ (nh rfl)]; omega⟩
    · obtain ⟨a1, a2, a3, a4⟩ := h.1
      have b9 : ∀ c, c ≠ 16 → rI (wI sx' 9 0 16 0) 9 0 c = rI sx 9 0 c := fun c hc => by rw [rI_ne (by omega), F.i 9 0 c (nh rfl)]
      have b39 : ∀ c, rI (wI sx' 9 0 16 0) 39 0 c = rI sx 39 0 c := fun c => by rw [rI_ne (by omega), F.i 39 0 c (nh rfl)]
      have b41 : ∀ c, rI (wI sx' 9 0 16 0) 41 0 c = rI sx 41 0 c := fun c => by rw [rI_ne (by omega), F.i 41 0 c (nh rfl)]
      have b6 : rI (wI sx' 9 0 16 0) 6 0 6 = rI sx 6 0 6 := by rw [rI_ne (by omega), F.i 6 0 6 (nh rfl)]
      have c48 : ∀ c, rI sm' 48 0 c = rI sm 48 0 c := fun c => G'.i 48 0 c (nh rfl)
      have c42 : ∀ c, rI sm' 42 0 c = rI sm 42 0 c := p42
      unfold InvA
      simp only [b39, b41, b6, c48, c42, p6, rI_eq]
      rw [b9 13 (by omega), b9 14 (by omega), b9 15 (by omega), p7 13 (by omega) (by omega), p7 6 (by omega) (by omega), p7 58 (by omega) (by omega), p7 14 (by omega) (by omega)]
      exact ⟨a1, a2, ⟨a3.1, a3.2.1, trivial, a3.2.2.2⟩, a4⟩
    · exact GX_c ⟨M'.1.2, M'.2.2.2.2.1.1.2⟩ (fun c _ => rI_ne (by omega)) (fun c => rI_ne (by omega)) (fun c => rI_ne (by omega)) (fun c => rI_ne (by omega)) (fun c => rI_ne (by omega)) (fun c => rI_ne (by omega)) (fun c => rI_ne (by omega)) (fun i _ => rfl) u3
    · exact LX_c (sx := sx) M.2.2.2.2.2.1.2 (fun c => F'.n _ _ _ (nh rfl)) (Nat.le_of_eq (F'.n _ _ _ (nh rfl)).symm) (fun t k c h1 _ hk => F'.i _ _ _ (clrT_no rfl hk h1)) (fun t h1 _ => F'.n _ _ _ (clrT_no rfl rfl h1)) (fun i hi => p4 i (by omega)) h.2.1.1.2.2
    · rw [p4 54 (by omega), p7 36 (by omega) (by omega)]; exact h.2.1.2.1
    · intro w hw; rw [p4 54 (by omega)] at hw; rw [G'.i 57 0 w (nh rfl)]; exact h.2.1.2.2 w hw
    · refine ⟨k, by omega, by rw [rI_ne (by omega)]; exact u2, p2, fun j hj => ?_⟩
      rw [rI_ne (by omega), rI_ne (by omega), rI_ne (by omega), (u4 j).1, (u4 j).2.1, (u4 j).2.2, p5]
      obtain ⟨r1, r2⟩ := g4 j (by omega)
      refine ⟨r1, Step_c n12.2 (p4 54 (by omega)) (fun i h1 _ => p4 i h1) (fun i hi => ?_) (fun i hi => ?_) r2⟩
      · unfold Sv; rw [if_pos hj, if_pos (by omega), p5]
      · unfold Sv
        rw [if_pos (show j + 1 < k + 1 by omega)]
        by_cases c : j + 1 < k
        · rw [if_pos c, p5]
        · rw [if_neg c, p3 i hi, show j + 1 = k by omega]
/-! image, back -/
theorem cpy0 {s : Sg} {k g0 g1 : Nat} {m : Int32} {n : Nat} (hm : ix m = n) (k' i c : Nat) : rI (g_cpy s k g1 0 k g0 0 m) k' i c = if k' = k ∧ i = g0 ∧ c < n then rI s k g1 c else rI s k' i c := by
  show (if k' = k ∧ i = g0 then va_cpy (s.1 k g1) (s.1 k g0) (ix 0) (ix 0) (ix m) c else s.1 k' i c) = _
  unfold va_cpy rI
  simp only [show ix 0 = 0 from rfl, hm]
  by_cases h1 : k' = k ∧ i = g0
  · rw [if_pos h1]
    by_cases h2 : c < n
    · rw [if_pos ⟨by omega, by omega⟩, if_pos ⟨h1.1, h1.2, h2⟩, show 0 + (c - 0) = c by omega]
    · rw [if_neg (by omega), if_neg (fun x => h2 x.2.2), h1.1, h1.2]
  · rw [if_neg h1, if_neg (fun x => h1 ⟨x.1, x.2.1⟩)]
theorem rN_cpy {s : Sg} {k g0 g1 : Nat} {a b m : Int32} {k2 k' i c : Nat} : rN (g_cpy s k g1 a k2 g0 b m) k' i c = rN s k' i c := rfl
theorem ok_copyFrom {s : Sg} {g0 g1 : Nat} (hg : g0 ≠ g1) : ok (x1_copyFrom s g0 g1) (fun s' => (∀ c, 7 ≤ c → c ≤ 12 → rI s' 1 g0 c = rI s 1 g1 c) ∧ (∀ c, c < 12 → rI s' 12 g0 c = rI s 12 g1 c ∧ rI s' 13 g0 c = rI s 13 g1 c ∧ rI s' 14 g0 c = rI s 14 g1 c) ∧ (∀ c, c < 4 → rI s' 15 g0 c = rI s 15 g1 c) ∧
    (∀ c, c < 6 → rI s' 16 g0 c = rI s 16 g1 c ∧ rI s' 17 g0 c = rI s 17 g1 c) ∧ ∀ c, c < 6 → rN s' 18 g0 c = rN s 18 g1 c) := by
  unfold x1_copyFrom x1_copyFrom_G
  rw [gd_t (by unfold g_cok; decide), gd_t (by unfold g_cok; decide), gd_t (by unfold g_cok; decide), gd_t (by unfold g_cok; decide), gd_t (by unfold g_cok; decide), gd_t (by unfold g_cok; decide)]
  generalize hs0 : g_cpy (g_cpy (g_cpy (g_cpy (g_cpy (g_cpy s 12 g1 0 12 g0 0 12) 13 g1 0 13 g0 0 12) 14 g1 0 14 g0 0 12) 15 g1 0 15 g0 0 4) 16 g1 0 16 g0 0 6) 17 g1 0 17 g0 0 6 = s0
  have A : (∀ c, rI s0 1 g1 c = rI s 1 g1 c) ∧ (∀ c, c < 12 → rI s0 12 g0 c = rI s 12 g1 c ∧ rI s0 13 g0 c = rI s 13 g1 c ∧ rI s0 14 g0 c = rI s 14 g1 c) ∧ (∀ c, c < 4 → rI s0 15 g0 c = rI s 15 g1 c) ∧ (∀ c, c < 6 → rI s0 16 g0 c = rI s 16 g1 c ∧ rI s0 17 g0 c = rI s 17 g1 c) ∧ ∀ i c, rN s0 18 i c = rN s 18 i c := by
    subst hs0
    refine ⟨fun c => ?_, fun c hc => ⟨?_, ?_, ?_⟩, fun c hc => ?_, fun c hc => ⟨?_, ?_⟩, fun i c => rfl⟩
    · rw [cpy0 (n := 6) rfl, if_neg (by omega), cpy0 (n := 6) rfl, if_neg (by omega), cpy0 (n := 4) rfl, if_neg (by omega), cpy0 (n := 12) rfl, if_neg (by omega), cpy0 (n := 12) rfl, if_neg (by omega), cpy0 (n := 12) rfl, if_neg (by omega)]
    · rw [cpy0 (n := 6) rfl, if_neg (by omega), cpy0 (n := 6) rfl, if_neg (by omega), cpy0 (n := 4) rfl, if_neg (by omega), cpy0 (n := 12) rfl, if_neg (by omega), cpy0 (n := 12) rfl, if_neg (by omega), cpy0 (n := 12) rfl, if_pos (by omega)]
    · rw [cpy0 (n := 6) rfl, if_neg (by omega), cpy0 (n := 6) rfl, if_neg (by omega), cpy0 (n := 4) rfl, if_neg (by omega), cpy0 (n := 12) rfl, if_neg (by omega), cpy0 (n := 12) rfl, if_pos (by omega), cpy0 (n := 12) rfl, if_neg (by omega)]
    · rw [cpy0 (n := 6) rfl, if_neg (by omega), cpy0 (n := 6) rfl, if_neg (by omega), cpy0 (n := 4) rfl, if_neg (by omega), cpy0 (n := 12) rfl, if_pos (by omega), cpy0 (n := 12) rfl, if_neg (by omega), cpy0 (n := 12) rfl, if_neg (by omega)]
    · rw [cpy0 (n := 6) rfl, if_neg (by omega), cpy0 (n := 6) rfl, if_neg (by omega), cpy0 (n := 4) rfl, if_pos (by omega), cpy0 (n := 12) rfl, if_neg (by omega), cpy0 (n := 12) rfl, if_neg (by omega), cpy0 (n := 12) rfl, if_neg (by omega)]
    · rw [cpy0 (n := 6) rfl, if_neg (by omega), cpy0 (n := 6) rfl, if_pos (by omega), cpy0 (n := 4) rfl, if_neg (by omega), cpy0 (n := 12) rfl, if_neg (by omega), cpy0 (n := 12) rfl, if_neg (by omega), cpy0 (n := 12) rfl, if_neg (by omega)]
    · rw [cpy0 (n := 6) rfl, if_pos (by omega), cpy0 (n := 6) rfl, if_neg (by omega), cpy0 (n := 4) rfl, if_neg (by omega), cpy0 (n := 12) rfl, if_neg (by omega), cpy0 (n := 12) rfl, if_neg (by omega), cpy0 (n := 12) rfl, if_neg (by omega)]
  obtain ⟨A1, A2, A3, A4, A5⟩ := A
  refine ok_loop (K := fun k (p : Sg × Int32) => x1_copyFrom_b91 k p.1 g0 g1 p.2) (I := fun p => p.1.1 = s0.1 ∧ 0 ≤ p.2.toInt ∧ p.2.toInt ≤ 6 ∧ (∀ c : Nat, (c : Int) < p.2.toInt → rN p.1 18 g0 c = rN s 18 g1 c) ∧ ∀ c, rN p.1 18 g1 c = rN s 18 g1 c)
    (μ := fun p => 6 - p.2.toInt.toNat) ?_ FU (s0, 0) ⟨rfl, by simp only [li_0]; omega, by simp only [li_0]; omega, fun i hi => by simp only [li_0] at hi; omega, fun c => A5 g1 c⟩ (by show _ < 20000; omega)
  rintro k ⟨s2, j⟩ ⟨h1, h2, h3, h4, h5⟩ ih
  simp only at h1 h2 h3 h4 h5 ih
  show ok (x1_copyFrom_b91_G _ s2 g0 g1 j) _
  unfold x1_copyFrom_b91_G
  refine ok_gif (fun c => ?_) (fun c => ?_)
  · rw [ti_lt, li_6] at c
    have hb : inb j 6 := inb_iff.mpr (by omega)
    have e1 : (j + 1).toInt = j.toInt + 1 := by simp (disch := omega) only [Int32.toInt_add, Int32.toInt_sub, Int32.toInt_mul, Int32.toInt_neg, bm32, li_0, li_1, li_2, li_3, li_4, li_5, li_6, li_7, li_8, li_9, li_10, li_11, li_12, li_13, li_14, li_15, li_16, li_17, li_18, li_19, li_20, li_21, li_22, li_23, li_24, li_25, li_26, li_27, li_28, li_29, li_30, li_31, li_32, li_33, li_34, li_35, li_36, li_37, li_38, li_39, li_40, li_41, li_42, li_43, li_44, li_45, li_46, li_47, li_48, li_49, li_50, li_51, li_52, li_53, li_54, li_55, li_56, li_57, li_58, li_59, li_60, li_61, li_62, li_63, li_64, li_65, li_66, li_67, li_68, li_69, li_70, li_71, li_72, li_73, li_74, li_75, li_76, li_77, li_78, li_91, li_93, li_96, li_97, li_99, li_100, li_122, li_138, li_255, li_256, li_400, li_401, li_625, li_800, li_999, li_1000, li_1001, li_1103, li_2000, li_2037, li_2038, li_2039, li_2040, li_2041, li_2042, li_2043, li_2044, li_2045, li_2046, li_2047, li_2048, li_2049, li_2050, li_2051, li_2052, li_2053, li_2054, li_2055, li_2056, li_2057, li_2058, li_2059, li_2060, li_2061, li_2062, li_2091, li_2093, li_2400, li_2865, li_3000, li_3002, li_3003, li_3005, li_3006, li_3007, li_3008, li_3009, li_3010, li_3011, li_3012, li_3013, li_3020, li_3024, li_3025, li_3026, li_3999, li_4000, li_4095, li_4096, li_5665, li_11330, li_12345, li_15625, li_1000000, li_1000003, li_100000000, li_1000000000, ti_lt, ti_eq, inb_iff, ix_eq]
    rw [gd_t hb]
    have key : ∀ v, rN s2 18 g1 (ix j) = v → ok (x1_copyFrom_b91 k (wN s2 18 g0 (ix j) v) g0 g1 (j + 1)) (fun s' => (∀ c, 7 ≤ c → c ≤ 12 → rI s' 1 g0 c = rI s 1 g1 c) ∧ (∀ c, c < 12 → rI s' 12 g0 c = rI s 12 g1 c ∧ rI s' 13 g0 c = rI s 13 g1 c ∧ rI s' 14 g0 c = rI s 14 g1 c) ∧ (∀ c, c < 4 → rI s' 15 g0 c = rI s 15 g1 c) ∧
        (∀ c, c < 6 → rI s' 16 g0 c = rI s 16 g1 c ∧ rI s' 17 g0 c = rI s 17 g1 c) ∧ ∀ c, c < 6 → rN s' 18 g0 c = rN s 18 g1 c) := by
      intro v hv
      refine ih (wN s2 18 g0 (ix j) v, j + 1) ⟨h1, by simp only [e1]; omega, by simp only [e1]; omega, fun c hc => ?_, fun c => ?_⟩ (by simp only [e1]; omega)
      · simp only [e1] at hc
        rw [rN_wN]
        by_cases q : c = ix j
        · rw [if_pos ⟨rfl, rfl, q⟩, q, ← hv]; exact h5 _
        · rw [if_neg (fun x => q x.2.2)]; exact h4 c (by rw [ix_eq] at q; omega)
      · rw [rN_wN, if_neg (fun x => hg x.2.1.symm)]; exact h5 c
    split
    · next hv => rw [gd_t hb]; exact key 0 hv
    · next t hv => rw [gd_t hb]; exact key (t + 1) hv
  · rw [ti_lt, li_6] at c
    refine ok_some ?_
    have B : ∀ k i c, rI s2 k i c = rI s0 k i c := fun k i c => by unfold rI; rw [h1]
    simp (disch := omega) only [rI_ne, rI_eq, rN_wI, B]
    refine ⟨fun c h6 h7 => ?_, A2, A3, A4, fun c hc => h4 c (by omega)⟩
    rcases (by omega : c = 7 ∨ c = 8 ∨ c = 9 ∨ c = 10 ∨ c = 11 ∨ c = 12) with rfl | rfl | rfl | rfl | rfl | rfl <;> (simp (disch := omega) only [rI_ne, rI_eq, B]; exact A1 _)
theorem GA_copy {s s' : Sg} {g0 g1 : Nat} {f : Nat → Int32} (h : GA s g1 f) (p : (∀ c, 7 ≤ c → c ≤ 12 → rI s' 1 g0 c = rI s 1 g1 c) ∧ (∀ c, c < 12 → rI s' 12 g0 c = rI s 12 g1 c ∧ rI s' 13 g0 c = rI s 13 g1 c ∧ rI s' 14 g0 c = rI s 14 g1 c) ∧ (∀ c, c < 4 → rI s' 15 g0 c = rI s 15 g1 c) ∧
    (∀ c, c < 6 → rI s' 16 g0 c = rI s 16 g1 c ∧ rI s' 17 g0 c = rI s 17 g1 c) ∧ ∀ c, c < 6 → rN s' 18 g0 c = rN s 18 g1 c)
    (x79 : rN s' 79 0 0 = rN s 79 0 0) (xT : ∀ t k c, 1 ≤ t → [8, 31, 32, 33, 34, 35, 36].elem k = true → rI s' k t c = rI s k t c) (x36 : ∀ t, 1 ≤ t → rN s' 36 t 0 = rN s 36 t 0) : GA s' g0 f := by
  obtain ⟨M, X, L⟩ := h
  obtain ⟨p1, p2, p3, p4, p5⟩ := p
  have n12 := M.1
  have s6 := M.2.2.2.2.1.1
  have l6 := M.2.2.2.2.2.1
  refine ⟨M, ?_, ?_⟩
  · unfold GX at X ⊢
    rw [p1 7 (by omega) (by omega), p1 8 (by omega) (by omega), p1 9 (by omega) (by omega), p1 10 (by omega) (by omega), p1 11 (by omega) (by omega), p1 12 (by omega) (by omega), p3 0 (by omega), p3 1 (by omega), p3 2 (by omega), p3 3 (by omega)]
    refine ⟨X.1, fun w hw => ?_, X.2.2.1, ⟨X.2.2.2.1.1, fun k hk => ?_⟩, X.2.2.2.2⟩
    · rw [(p2 w (by omega)).1, (p2 w (by omega)).2.1, (p2 w (by omega)).2.2]; exact X.2.1 w hw
    · rw [(p4 k (by omega)).1, (p4 k (by omega)).2]; exact X.2.2.2.1.2 k hk
  · intro l hl
    obtain ⟨t, h1, h2, h3, h4⟩ := L l hl
    exact ⟨t, h1, by omega, by rw [p5 l (by omega)]; exact h3, LawR_c (by omega) (fn_eq (fun c => xT t 8 c h1 rfl)) (fn_eq (fun c => xT t 31 c h1 rfl)) (fn_eq (fun c => xT t 33 c h1 rfl)) (fn_eq (fun c => xT t 35 c h1 rfl)) (fn_eq (fun c => xT t 36 c h1 rfl)) (x36 t h1) (fun _ _ _ => rfl) h4⟩
