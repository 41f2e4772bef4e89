/-! a LINE: how wide, how many pieces, what it costs and pays, whether it is barred -/
def pc (wd ft : Nat → Int32) (fr to w : Nat) : Int := if to = 2 * w then (ft w).toInt else if fr = 2 * w + 1 then (wd w).toInt - (ft w).toInt else (wd w).toInt
def sumW (p : Nat → Int) (w0 : Nat) : Nat → Int
  | 0 => 0
  | k + 1 => sumW p w0 k + p (w0 + k) + (if k = 0 then 0 else 1)
def lpcs (fr to : Nat) : Nat := to / 2 + 1 - fr / 2
def lwid (wd ft : Nat → Int32) (fr to : Nat) : Int := sumW (pc wd ft fr to) (fr / 2) (lpcs fr to) + (if to % 2 = 0 then 1 else 0)
def XD (s : Sg) (g n : Nat) (wd ft kd : Nat → Int32) : Prop := (rI s 1 g 7).toInt = n ∧ n ≤ 12 ∧ ∀ w, w < n → rI s 12 g w = wd w ∧ rI s 13 g w = ft w ∧ rI s 14 g w = kd w
def MD (s : Sg) (n : Nat) (wd ft kd : Nat → Int32) : Prop := (rI s 10 0 36).toInt = n ∧ n ≤ 12 ∧ ∀ w, w < n → ∃ u : Nat, u < 12 ∧ (rI s 57 0 w).toInt = u ∧ rI s 43 0 (2 + u) = wd w ∧ rI s 43 0 (15 + u) = ft w ∧ rI s 43 0 (27 + u) = kd w
def RD (n : Nat) (wd ft : Nat → Int32) : Prop := ∀ w, w < n → (1 ≤ (wd w).toInt ∧ (wd w).toInt ≤ 20) ∧ 0 ≤ (ft w).toInt ∧ (ft w).toInt < (wd w).toInt
theorem pc_r {n : Nat} {wd ft : Nat → Int32} (h : RD n wd ft) {fr to w : Nat} (hw : w < n) : 0 ≤ pc wd ft fr to w ∧ pc wd ft fr to w ≤ 20 := by
  have := h w hw
  unfold pc; split
  · omega
  · split <;> omega
theorem sumW_r {p : Nat → Int} {w0 : Nat} : ∀ {k : Nat}, (∀ j, j < k → 0 ≤ p (w0 + j) ∧ p (w0 + j) ≤ 20) → 0 ≤ sumW p w0 k ∧ sumW p w0 k ≤ 21 * k := by
  intro k
  induction k with
  | zero => intro _; simp [sumW]
  | succ k ih =>
    intro h
    have h1 := ih (fun j hj => h j (by omega))
    have h2 := h k (by omega)
    unfold sumW
    split <;> omega
theorem sumW_s {p : Nat → Int} {w0 k : Nat} : sumW p w0 (k + 1) = sumW p w0 k + p (w0 + k) + (if k = 0 then 0 else 1) := rfl
theorem lwid_r {n : Nat} {wd ft : Nat → Int32} (h : RD n wd ft) (n12 : n ≤ 12) {fr to : Nat} (ht : to < 2 * n) : 0 ≤ lwid wd ft fr to ∧ lwid wd ft fr to ≤ 300 := by
  have := sumW_r (p := pc wd ft fr to) (w0 := fr / 2) (k := lpcs fr to) (fun j hj => pc_r h (by unfold lpcs at hj; omega))
  have e : lpcs fr to ≤ 12 := by unfold lpcs; omega
  unfold lwid; split <;> omega
theorem q_pieceOf {s : Sg} {g n : Nat} {wd ft kd : Nat → Int32} (X : XD s g n wd ft kd) (R : RD n wd ft) {w fr to : Nat} (hw : w < n) {W F T : Int32} (hW : W.toInt = w) (hF : F.toInt = (fr : Int) - 1) (hT : T.toInt = to) : ∃ v, x1_pieceOf s g W F T = some (s, v) ∧ v.toInt = pc wd ft fr to w := by
  obtain ⟨x1, x2, x3⟩ := X
  obtain ⟨y1, y2, y3⟩ := x3 w hw
  have r := R w hw
  have t2 : (2 * W).toInt = 2 * w := by simp (disch := omega) only [Int32.toInt_add, Int32.toInt_sub, Int32.toInt_mul, Int32.toInt_neg, bm32, li_0, li_1, li_2, li_3, li_4, li_5, li_6, li_7, li_8, li_9, li_10, li_11, li_12, li_13, li_14, li_15, li_16, li_17, li_18, li_19, li_20, li_21, li_22, li_23, li_24, li_25, li_26, li_27, li_28, li_29, li_30, li_31, li_32, li_33, li_34, li_35, li_36, li_37, li_38, li_39, li_40, li_41, li_42, li_43, li_44, li_45, li_46, li_47, li_48, li_49, li_50, li_51, li_52, li_53, li_54, li_55, li_56, li_57, li_58, li_59, li_60, li_61, li_62, li_63, li_64, li_65, li_66, li_67, li_68, li_69, li_70, li_71, li_72, li_73, li_74, li_75, li_76, li_77, li_78, li_91, li_93, li_96, li_97, li_99, li_100, li_122, li_138, li_255, li_256, li_400, li_401, li_625, li_800, li_999, li_1000, li_1001, li_1103, li_2000, li_2037, li_2038, li_2039, li_2040, li_2041, li_2042, li_2043, li_2044, li_2045, li_2046, li_2047, li_2048, li_2049, li_2050, li_2051, li_2052, li_2053, li_2054, li_2055, li_2056, li_2057, li_2058, li_2059, li_2060, li_2061, li_2062, li_2091, li_2093, li_2400, li_2865, li_3000, li_3002, li_3003, li_3005, li_3006, li_3007, li_3008, li_3009, li_3010, li_3011, li_3012, li_3013, li_3020, li_3024, li_3025, li_3026, li_3999, li_4000, li_4095, li_4096, li_5665, li_11330, li_12345, li_15625, li_1000000, li_1000003, li_100000000, li_1000000000, ti_lt, ti_eq, inb_iff, ix_eq, hW]
  have iw : ix W = w := by rw [ix_eq, hW]; omega
  have bw : inb W 12 := inb_iff.mpr (by rw [hW]; omega)
  unfold x1_pieceOf x1_pieceOf_G pc
  simp only [q_x1_has (show (rI s 1 g 7).toInt ≤ 12 by omega), Option.bind_some, gdB0, gdB1, gdbI, gifbI, gd_t bw, iw, y1, y2]
  rw [gif_t (by omega)]
  by_cases c1 : to = 2 * w
  · rw [gif_t (by rw [ti_eq, hT, t2]; omega), if_pos c1]; exact ⟨_, rfl, rfl⟩
  · rw [gif_f (by rw [ti_eq, hT, t2]; omega), if_neg c1]
    by_cases c2 : fr = 2 * w + 1
    · rw [gif_t (by rw [ti_eq, hF, t2]; omega), if_pos c2]; exact ⟨_, rfl, ti_sub (by omega) (by omega)⟩
    · rw [gif_f (by rw [ti_eq, hF, t2]; omega), if_neg c2]; exact ⟨_, rfl, rfl⟩
theorem XD_c {s s' : Sg} {g n : Nat} {wd ft kd : Nat → Int32} (h : XD s g n wd ft kd) (e1 : rI s' 1 g 7 = rI s 1 g 7) (e : ∀ k c, 12 ≤ k → k ≤ 14 → rI s' k g c = rI s k g c) : XD s' g n wd ft kd :=
  ⟨by rw [e1]; exact h.1, h.2.1, fun w hw => by rw [e 12 w (by omega) (by omega), e 13 w (by omega) (by omega), e 14 w (by omega) (by omega)]; exact h.2.2 w hw⟩
theorem ok_measureUp {s : Sg} {g0 g n : Nat} {wd ft kd : Nat → Int32} (X : XD s g n wd ft kd) (R : RD n wd ft) {fr to : Nat} (h1 : fr ≤ to) (h2 : to < 2 * n) {F T : Int32} (hF : F.toInt = (fr : Int) - 1) (hT : T.toInt = to) :
    ok (x2_measureUp s g0 g F T) (fun s' => rI s' 2 g0 2 = T ∧ (rI s' 2 g0 3).toInt = lwid wd ft fr to ∧ (rI s' 2 g0 4).toInt = lpcs fr to) := by
  have n12 := X.2.1
  have tf : ((F + 1) / 2).toInt = fr / 2 := by
    have : (F + 1).toInt = fr := by simp (disch := omega) only [Int32.toInt_add, Int32.toInt_sub, Int32.toInt_mul, Int32.toInt_neg, bm32, li_0, li_1, li_2, li_3, li_4, li_5, li_6, li_7, li_8, li_9, li_10, li_11, li_12, li_13, li_14, li_15, li_16, li_17, li_18, li_19, li_20, li_21, li_22, li_23, li_24, li_25, li_26, li_27, li_28, li_29, li_30, li_31, li_32, li_33, li_34, li_35, li_36, li_37, li_38, li_39, li_40, li_41, li_42, li_43, li_44, li_45, li_46, li_47, li_48, li_49, li_50, li_51, li_52, li_53, li_54, li_55, li_56, li_57, li_58, li_59, li_60, li_61, li_62, li_63, li_64, li_65, li_66, li_67, li_68, li_69, li_70, li_71, li_72, li_73, li_74, li_75, li_76, li_77, li_78, li_91, li_93, li_96, li_97, li_99, li_100, li_122, li_138, li_255, li_256, li_400, li_401, li_625, li_800, li_999, li_1000, li_1001, li_1103, li_2000, li_2037, li_2038, li_2039, li_2040, li_2041, li_2042, li_2043, li_2044, li_2045, li_2046, li_2047, li_2048, li_2049, li_2050, li_2051, li_2052, li_2053, li_2054, li_2055, li_2056, li_2057, li_2058, li_2059, li_2060, li_2061, li_2062, li_2091, li_2093, li_2400, li_2865, li_3000, li_3002, li_3003, li_3005, li_3006, li_3007, li_3008, li_3009, li_3010, li_3011, li_3012, li_3013, li_3020, li_3024, li_3025, li_3026, li_3999, li_4000, li_4095, li_4096, li_5665, li_11330, li_12345, li_15625, li_1000000, li_1000003, li_100000000, li_1000000000, ti_lt, ti_eq, inb_iff, ix_eq, hF]; omega
    rw [ti_div2 (by omega), this]
  have key : ∀ (s1 : Sg) (hy : Int), XD s1 g n wd ft kd → rI s1 2 g0 2 = T → (rI s1 2 g0 3).toInt = hy → (hy = if to % 2 = 0 then 1 else 0) → (rI s1 2 g0 4).toInt = 0 → ok (x2_measureUp_b35 FU s1 g0 g F ((F + 1) / 2)) (fun s' => rI s' 2 g0 2 = T ∧ (rI s' 2 g0 3).toInt = lwid wd ft fr to ∧ (rI s' 2 g0 4).toInt = lpcs fr to) := by
    intro s1 hy X1 e2 e3 ehy e4
    refine ok_loop (K := fun k (p : Sg × Int32) => x2_measureUp_b35 k p.1 g0 g F p.2) (I := fun p => ∃ j : Nat, j ≤ lpcs fr to ∧ p.2.toInt = (fr / 2 + j : Nat) ∧ XD p.1 g n wd ft kd ∧ rI p.1 2 g0 2 = T ∧ (rI p.1 2 g0 3).toInt = sumW (pc wd ft fr to) (fr / 2) j + hy ∧ (rI p.1 2 g0 4).toInt = j)
      (μ := fun p => 13 - p.2.toInt.toNat) ?_ FU (s1, (F + 1) / 2) ⟨0, by omega, by simp only [tf]; omega, X1, e2, by simp only [sumW]; omega, by omega⟩ (by show _ < 20000; omega)
    rintro k ⟨s2, l⟩ ⟨j, j1, j2, j3, j4, j5, j6⟩ ih
    simp only at j1 j2 j3 j4 j5 j6 ih
    show ok (x2_measureUp_b35_G _ _ s2 g0 g F l) _
    unfold x2_measureUp_b35_G
    have td : (T / 2).toInt = to / 2 := by rw [ti_div2 (by omega), hT]
    rw [gd_t (by decide), j4]
    refine ok_gif (fun c => ok_some ?_) (fun c => ?_)
    · rw [ti_lt, td, j2] at c
      have ej : j = lpcs fr to := by unfold lpcs at j1 ⊢; omega
      refine ⟨j4, ?_, by rw [j6, ej]⟩
      rw [j5, ej, ehy]; rfl
    · rw [ti_lt, td, j2] at c
      have hw : fr / 2 + j < n := by omega
      obtain ⟨v, hv, hv2⟩ := q_pieceOf j3 R hw j2 hF hT
      have pr := pc_r R (fr := fr) (to := to) hw
      have sr := sumW_r (p := pc wd ft fr to) (w0 := fr / 2) (k := j) (fun i hi => pc_r R (by omega))
      have hj : j < lpcs fr to := by unfold lpcs at j1 ⊢; omega
      have j13 : lpcs fr to ≤ 12 := by unfold lpcs; omega
      have hyr : 0 ≤ hy ∧ hy ≤ 1 := by rw [ehy]; split <;> omega
      rw [hv]
      simp only [Option.bind_some]
      have tl : (l + 1).toInt = (fr / 2 + (j + 1) : Nat) := by rw [ti_add (by rw [j2, li_1]; omega) (by rw [j2, li_1]; omega), j2, li_1]; omega
      have t4 : (rI s2 2 g0 4 + 1).toInt = j + 1 := by rw [ti_add (by rw [j6, li_1]; omega) (by rw [j6, li_1]; omega), j6, li_1]
      refine ok_gif (fun d => ?_) (fun d => ?_)
      · rw [ti_lt, j6, li_0] at d
        have t1 : (v + 1).toInt = pc wd ft fr to (fr / 2 + j) + 1 := by rw [ti_add (by rw [hv2, li_1]; omega) (by rw [hv2, li_1]; omega), hv2, li_1]
        have t3 : (rI s2 2 g0 3 + (v + 1)).toInt = sumW (pc wd ft fr to) (fr / 2) (j + 1) + hy := by
          rw [ti_add (by rw [j5, t1]; omega) (by rw [j5, t1]; omega), j5, t1]; rw [sumW_s, if_neg (by omega)]; omega
        simp (disch := omega) only [rI_ne]
        refine ih (wI (wI s2 2 g0 3 (rI s2 2 g0 3 + (v + 1))) 2 g0 4 (rI s2 2 g0 4 + 1), l + 1) ⟨j + 1, by omega, by rw [tl], XD_c j3 (by simp (disch := omega) only [rI_ne]) (fun k c h1 h2 => by simp (disch := omega) only [rI_ne]), by simp (disch := omega) only [rI_ne]; exact j4, by simp (disch := omega) only [rI_ne, rI_eq]; exact t3, by simp (disch := omega) only [rI_eq]; rw [t4]; omega⟩ (by simp only [tl, j2]; omega)
      · rw [ti_lt, j6, li_0] at d
        have j0 : j = 0 := by omega
        have t1 : (v + 0).toInt = pc wd ft fr to (fr / 2 + j) := by rw [Int32.add_zero, hv2]
        have t3 : (rI s2 2 g0 3 + (v + 0)).toInt = sumW (pc wd ft fr to) (fr / 2) (j + 1) + hy := by
          rw [ti_add (by rw [j5, t1]; omega) (by rw [j5, t1]; omega), j5, t1]; rw [sumW_s, if_pos j0]; omega
        simp (disch := omega) only [rI_ne]
        refine ih (wI (wI s2 2 g0 3 (rI s2 2 g0 3 + (v + 0))) 2 g0 4 (rI s2 2 g0 4 + 1), l + 1) ⟨j + 1, by omega, by rw [tl], XD_c j3 (by simp (disch := omega) only [rI_ne]) (fun k c h1 h2 => by simp (disch := omega) only [rI_ne]), by simp (disch := omega) only [rI_ne]; exact j4, by simp (disch := omega) only [rI_ne, rI_eq]; exact t3, by simp (disch := omega) only [rI_eq]; rw [t4]; omega⟩ (by simp only [tl, j2]; omega)
  unfold x2_measureUp x2_measureUp_G
  simp only [rI_eq]
  have er : (g_rem T 2 = 0) ↔ to % 2 = 0 := by
    rw [ti_eq, ti_rem (by omega) (by decide), hT, li_0, li_2]; omega
  rw [gd_t (by decide), gd_t (by decide), gd_t (by decide)]
  refine ok_gif (fun c => ?_) (fun c => ?_)
  · refine key _ 1 (XD_c X (by simp (disch := omega) only [rI_ne]) (fun k c h1 h2 => by simp (disch := omega) only [rI_ne])) (by simp (disch := omega) only [rI_ne, rI_eq]) (by simp (disch := omega) only [rI_ne, rI_eq]; rfl) (by rw [if_pos (er.mp c)]) (by simp (disch := omega) only [rI_eq]; rfl)
  · refine key _ 0 (XD_c X (by simp (disch := omega) only [rI_ne]) (fun k c h1 h2 => by simp (disch := omega) only [rI_ne])) (by simp (disch := omega) only [rI_ne, rI_eq]) (by simp (disch := omega) only [rI_ne, rI_eq]; rfl) (by rw [if_neg (fun x => c (er.mpr x))]) (by simp (disch := omega) only [rI_eq]; rfl)
/-! the model -/
theorem q_isWithin (s : Sg) (a : Int32) : m_isWithin s a = some (s, bI (0 ≤ a.toInt ∧ a.toInt % 2 = 0)) := by
  unfold m_isWithin m_isWithin_G
  rw [gdB0, gdB1, gd_t (by decide), ti_lt, li_0]
  refine gif_eq (fun c => lf0 (fun x => by omega)) (fun c => ?_)
  rw [ti_eq, ti_rem (by omega) (by decide), li_0, li_2]
  exact gif_eq (fun d => lf1 ⟨by omega, d⟩) (fun d => lf0 (fun x => d x.2))
theorem ok_addsPiece {s : Sg} {v : Int32} {j : Nat} {S : Int} (h7 : (rI s 10 0 37).toInt = j) (h8 : (rI s 10 0 38).toInt = S) (j12 : j ≤ 20) (hS : 0 ≤ S ∧ S ≤ 1000) (hv : 0 ≤ v.toInt ∧ v.toInt ≤ 20) :
    ok (m_addsPiece s v) (fun s' => (rI s' 10 0 37).toInt = j + 1 ∧ (rI s' 10 0 38).toInt = S + v.toInt + (if j = 0 then 0 else 1) ∧ ∀ k i c, ¬ (k = 10 ∧ i = 0 ∧ (c = 37 ∨ c = 38)) → rI s' k i c = rI s k i c) := by
  unfold m_addsPiece m_addsPiece_G
  have t7 : (rI s 10 0 37 + 1).toInt = j + 1 := by rw [ti_add (by rw [h7, li_1]; omega) (by rw [h7, li_1]; omega), h7, li_1]
  simp (disch := omega) only [rI_ne]
  refine ok_gif (fun c => ok_some ⟨?_, ?_, fun k i c n => by simp (disch := omega) only [rI_ne]⟩) (fun c => ok_some ⟨?_, ?_, fun k i c n => by simp (disch := omega) only [rI_ne]⟩)
  · rw [rI_eq rfl, t7]
  · rw [ti_lt, h7, li_0] at c
    have t1 : (v + 1).toInt = v.toInt + 1 := by simp (disch := omega) only [Int32.toInt_add, Int32.toInt_sub, Int32.toInt_mul, Int32.toInt_neg, bm32, li_0, li_1, li_2, li_3, li_4, li_5, li_6, li_7, li_8, li_9, li_10, li_11, li_12, li_13, li_14, li_15, li_16, li_17, li_18, li_19, li_20, li_21, li_22, li_23, li_24, li_25, li_26, li_27, li_28, li_29, li_30, li_31, li_32, li_33, li_34, li_35, li_36, li_37, li_38, li_39, li_40, li_41, li_42, li_43, li_44, li_45, li_46, li_47, li_48, li_49, li_50, li_51, li_52, li_53, li_54, li_55, li_56, li_57, li_58, li_59, li_60, li_61, li_62, li_63, li_64, li_65, li_66, li_67, li_68, li_69, li_70, li_71, li_72, li_73, li_74, li_75, li_76, li_77, li_78, li_91, li_93, li_96, li_97, li_99, li_100, li_122, li_138, li_255, li_256, li_400, li_401, li_625, li_800, li_999, li_1000, li_1001, li_1103, li_2000, li_2037, li_2038, li_2039, li_2040, li_2041, li_2042, li_2043, li_2044, li_2045, li_2046, li_2047, li_2048, li_2049, li_2050, li_2051, li_2052, li_2053, li_2054, li_2055, li_2056, li_2057, li_2058, li_2059, li_2060, li_2061, li_2062, li_2091, li_2093, li_2400, li_2865, li_3000, li_3002, li_3003, li_3005, li_3006, li_3007, li_3008, li_3009, li_3010, li_3011, li_3012, li_3013, li_3020, li_3024, li_3025, li_3026, li_3999, li_4000, li_4095, li_4096, li_5665, li_11330, li_12345, li_15625, li_1000000, li_1000003, li_100000000, li_1000000000, ti_lt, ti_eq, inb_iff, ix_eq]
    rw [rI_ne (by omega), rI_eq rfl, ti_add (by rw [h8, t1]; omega) (by rw [h8, t1]; omega), h8, t1, if_neg (by omega)]; omega
  · rw [rI_eq rfl, t7]
  · rw [ti_lt, h7, li_0] at c
    rw [rI_ne (by omega), rI_eq rfl, ti_add (by rw [h8]; omega) (by rw [h8]; omega), h8, if_pos (by omega)]; omega
theorem MD_c {s s' : Sg} {n : Nat} {wd ft kd : Nat → Int32} (h : MD s n wd ft kd) (e1 : rI s' 10 0 36 = rI s 10 0 36) (e2 : ∀ c, rI s' 57 0 c = rI s 57 0 c) (e3 : ∀ c, rI s' 43 0 c = rI s 43 0 c) : MD s' n wd ft kd :=
  ⟨by rw [e1]; exact h.1, h.2.1, fun w hw => by obtain ⟨u, h1, h2, h3, h4, h5⟩ := h.2.2 w hw; exact ⟨u, h1, by rw [e2]; exact h2, by rw [e3]; exact h3, by rw [e3]; exact h4, by rw [e3]; exact h5⟩⟩
theorem ok_takesLine {s : Sg} {n : Nat} {wd ft kd : Nat → Int32} (D : MD s n wd ft kd) (R : RD n wd ft) {fr to : Nat} (h1 : fr ≤ to) (h2 : to < 2 * n) {N F T Q : Int32} (hF : F.toInt = (fr : Int) - 1) (hT : T.toInt = to) :
    ok (m_takesLine s N F T Q) (fun s' => (rI s' 10 0 37).toInt = lpcs fr to ∧ (rI s' 10 0 38).toInt = lwid wd ft fr to ∧ rI s' 10 0 39 = N ∧ rI s' 10 0 40 = T ∧ rI s' 10 0 41 = Q) := by
  have n12 := D.2.1
  -- what stays
  let Keep : Sg → Prop := fun s' => MD s' n wd ft kd ∧ rI s' 10 0 39 = N ∧ rI s' 10 0 40 = T ∧ rI s' 10 0 41 = Q
  have keep : ∀ {a b : Sg}, Keep a → (∀ k i c, ¬ (k = 10 ∧ i = 0 ∧ (c = 37 ∨ c = 38)) → rI b k i c = rI a k i c) → Keep b := by
    intro a b h e
    exact ⟨MD_c h.1 (e _ _ _ (by omega)) (fun c => e _ _ _ (by omega)) (fun c => e _ _ _ (by omega)), by rw [e _ _ _ (by omega)]; exact h.2.1, by rw [e _ _ _ (by omega)]; exact h.2.2.1, by rw [e _ _ _ (by omega)]; exact h.2.2.2⟩
  have tt : ((T + 1) / 2).toInt = (to + 1) / 2 := by
    have : (T + 1).toInt = to + 1 := by simp (disch := omega) only [Int32.toInt_add, Int32.toInt_sub, Int32.toInt_mul, Int32.toInt_neg, bm32, li_0, li_1, li_2, li_3, li_4, li_5, li_6, li_7, li_8, li_9, li_10, li_11, li_12, li_13, li_14, li_15, li_16, li_17, li_18, li_19, li_20, li_21, li_22, li_23, li_24, li_25, li_26, li_27, li_28, li_29, li_30, li_31, li_32, li_33, li_34, li_35, li_36, li_37, li_38, li_39, li_40, li_41, li_42, li_43, li_44, li_45, li_46, li_47, li_48, li_49, li_50, li_51, li_52, li_53, li_54, li_55, li_56, li_57, li_58, li_59, li_60, li_61, li_62, li_63, li_64, li_65, li_66, li_67, li_68, li_69, li_70, li_71, li_72, li_73, li_74, li_75, li_76, li_77, li_78, li_91, li_93, li_96, li_97, li_99, li_100, li_122, li_138, li_255, li_256, li_400, li_401, li_625, li_800, li_999, li_1000, li_1001, li_1103, li_2000, li_2037, li_2038, li_2039, li_2040, li_2041, li_2042, li_2043, li_2044, li_2045, li_2046, li_2047, li_2048, li_2049, li_2050, li_2051, li_2052, li_2053, li_2054, li_2055, li_2056, li_2057, li_2058, li_2059, li_2060, li_2061, li_2062, li_2091, li_2093, li_2400, li_2865, li_3000, li_3002, li_3003, li_3005, li_3006, li_3007, li_3008, li_3009, li_3010, li_3011, li_3012, li_3013, li_3020, li_3024, li_3025, li_3026, li_3999, li_4000, li_4095, li_4096, li_5665, li_11330, li_12345, li_15625, li_1000000, li_1000003, li_100000000, li_1000000000, ti_lt, ti_eq, inb_iff, ix_eq, hT]
    rw [ti_div2 (by omega), this]
  -- the last piece
  have fin : ∀ (s1 : Sg) (j : Nat), Keep s1 → (rI s1 10 0 37).toInt = j → (rI s1 10 0 38).toInt = sumW (pc wd ft fr to) (fr / 2) j → fr / 2 + j = (to + 1) / 2 → ok ((m_isWithin s1 T).bind fun q2 => gif (q2.2 = 0) (some q2.1) (gd (¬ 2 = (0 : Int32)) (gd (inb (T / 2) 12) (gd (inb (15 + rI q2.1 57 0 (ix (T / 2))) 5665) ((m_addsPiece q2.1 (rI q2.1 43 0 (ix (15 + rI q2.1 57 0 (ix (T / 2)))))).bind fun s3 => some (wI s3 10 0 38 (rI s3 10 0 38 + 1)))))))
      (fun s' => (rI s' 10 0 37).toInt = lpcs fr to ∧ (rI s' 10 0 38).toInt = lwid wd ft fr to ∧ rI s' 10 0 39 = N ∧ rI s' 10 0 40 = T ∧ rI s' 10 0 41 = Q) := by
    intro s1 j hK e7 e8 ej
    rw [q_isWithin]
    simp only [Option.bind_some, gdB0, gdB1, gdbI, gifbI]
    by_cases c : to % 2 = 0
    · rw [gif_t (by rw [hT]; omega)]
      have hw : to / 2 < n := by omega
      obtain ⟨u, u1, u2, u3, u4, u5⟩ := hK.1.2.2 (to / 2) hw
      have td : (T / 2).toInt = to / 2 := by rw [ti_div2 (by omega), hT]
      have iT : ix (T / 2) = to / 2 := by rw [ix_eq, td]; omega
      have sr := sumW_r (p := pc wd ft fr to) (w0 := fr / 2) (k := j) (fun i hi => pc_r R (by omega))
      have r := R (to / 2) hw
      rw [gd_t (by decide), gd_t (inb_iff.mpr (by rw [td]; omega)), iT, gd_t (inb_k (m := 15) rfl (by omega) (by omega) (by omega)), ix_k (m := 15) rfl (by omega) (by omega), show 15 + (rI s1 57 0 (to / 2)).toInt.toNat = 15 + u by omega, u4]
      refine ok_bind (ok_mono (ok_addsPiece e7 e8 (by omega) (by omega) (by omega)) (fun s3 ⟨p1, p2, p3⟩ => ok_some ?_))
      have K3 := keep hK p3
      have el : j + 1 = lpcs fr to := by unfold lpcs; omega
      have epc : pc wd ft fr to (fr / 2 + j) = (ft (to / 2)).toInt := by unfold pc; rw [if_pos (by omega), show fr / 2 + j = to / 2 by omega]
      simp (disch := omega) only [rI_ne, rI_eq]
      refine ⟨by rw [p1, ← el]; omega, ?_, K3.2⟩
      rw [ti_add (by rw [p2, li_1]; split <;> omega) (by rw [p2, li_1]; split <;> omega), p2, li_1]
      unfold lwid
      rw [← el, if_pos c, sumW_s, epc]
    · rw [gif_f (by rw [hT]; omega)]
      refine ok_some ⟨?_, ?_, hK.2⟩
      · rw [e7]; unfold lpcs; omega
      · rw [e8]; unfold lwid; rw [if_neg c, show lpcs fr to = j by unfold lpcs; omega]; omega
  -- whole words
  have loop : ∀ (s1 : Sg) (j : Nat) (l : Int32), Keep s1 → (rI s1 10 0 37).toInt = j → (rI s1 10 0 38).toInt = sumW (pc wd ft fr to) (fr / 2) j → (∀ w, fr / 2 + j ≤ w → w < (to + 1) / 2 → pc wd ft fr to w = (wd w).toInt) → fr / 2 + j ≤ (to + 1) / 2 → l.toInt = (fr / 2 + j : Nat) →
      ok (m_takesLine_b92 FU s1 T ((T + 1) / 2) l) (fun s' => (rI s' 10 0 37).toInt = lpcs fr to ∧ (rI s' 10 0 38).toInt = lwid wd ft fr to ∧ rI s' 10 0 39 = N ∧ rI s' 10 0 40 = T ∧ rI s' 10 0 41 = Q) := by
    intro s1 j l hK e7 e8 hp hj hl
    refine ok_loop (K := fun k (p : Sg × Int32) => m_takesLine_b92 k p.1 T ((T + 1) / 2) p.2) (I := fun p => ∃ j' : Nat, j ≤ j' ∧ fr / 2 + j' ≤ (to + 1) / 2 ∧ p.2.toInt = (fr / 2 + j' : Nat) ∧ Keep p.1 ∧ (rI p.1 10 0 37).toInt = j' ∧ (rI p.1 10 0 38).toInt = sumW (pc wd ft fr to) (fr / 2) j')
      (μ := fun p => 13 - p.2.toInt.toNat) ?_ FU (s1, l) ⟨j, Nat.le_refl _, hj, hl, hK, e7, e8⟩ (by show _ < 20000; omega)
    rintro k ⟨s2, l2⟩ ⟨j', q0, q1, q2, q3, q4, q5⟩ ih
    simp only at q0 q1 q2 q3 q4 q5 ih
    show ok (m_takesLine_b92_G _ _ _ s2 T ((T + 1) / 2) l2) _
    unfold m_takesLine_b92_G
    refine ok_gif (fun c => ?_) (fun c => ?_)
    · rw [ti_lt, tt, q2] at c
      have hw : fr / 2 + j' < n := by omega
      obtain ⟨u, u1, u2, u3, u4, u5⟩ := q3.1.2.2 _ hw
      have iT : ix l2 = fr / 2 + j' := by rw [ix_eq, q2]; omega
      have sr := sumW_r (p := pc wd ft fr to) (w0 := fr / 2) (k := j') (fun i hi => pc_r R (by omega))
      have r := R _ hw
      rw [gd_t (inb_iff.mpr (by rw [q2]; omega)), iT, gd_t (inb_k (m := 2) rfl (by omega) (by omega) (by omega)), ix_k (m := 2) rfl (by omega) (by omega), show 2 + (rI s2 57 0 (fr / 2 + j')).toInt.toNat = 2 + u by omega, u3]
      refine ok_bind (ok_mono (ok_addsPiece q4 q5 (by omega) (by omega) (by omega)) (fun s3 ⟨p1, p2, p3⟩ => ?_))
      have tl : (l2 + 1).toInt = (fr / 2 + (j' + 1) : Nat) := by rw [ti_add (by rw [q2, li_1]; omega) (by rw [q2, li_1]; omega), q2, li_1]; omega
      refine ih (s3, l2 + 1) ⟨j' + 1, by omega, by omega, by rw [tl], keep q3 p3, by rw [p1]; omega, ?_⟩ (by simp only [tl, q2]; omega)
      rw [p2, sumW_s, hp _ (by omega) (by omega)]
    · rw [ti_lt, tt, q2] at c
      exact fin s2 j' q3 q4 q5 (by omega)
  unfold m_takesLine m_takesLine_G
  simp only [q_isWithin, Option.bind_some, gdB0, gdB1, gdbI, gifbI]
  have K5 : Keep (wI (wI (wI (wI (wI s 10 0 37 0) 10 0 38 0) 10 0 39 N) 10 0 40 T) 10 0 41 Q) := ⟨MD_c D (by simp (disch := omega) only [rI_ne]) (fun c => by simp (disch := omega) only [rI_ne]) (fun c => by simp (disch := omega) only [rI_ne]), by simp (disch := omega) only [rI_ne, rI_eq], by simp (disch := omega) only [rI_ne, rI_eq], by simp (disch := omega) only [rI_eq]⟩
  have z7 : (rI (wI (wI (wI (wI (wI s 10 0 37 0) 10 0 38 0) 10 0 39 N) 10 0 40 T) 10 0 41 Q) 10 0 37).toInt = (0 : Nat) := by simp (disch := omega) only [rI_ne, rI_eq]; rfl
  have z8 : (rI (wI (wI (wI (wI (wI s 10 0 37 0) 10 0 38 0) 10 0 39 N) 10 0 40 T) 10 0 41 Q) 10 0 38).toInt = sumW (pc wd ft fr to) (fr / 2) 0 := by simp (disch := omega) only [rI_ne, rI_eq]; rfl
  generalize wI (wI (wI (wI (wI s 10 0 37 0) 10 0 38 0) 10 0 39 N) 10 0 40 T) 10 0 41 Q = s5 at K5 z7 z8 ⊢
  have e69 : ∀ s7 : Sg, m_takesLine_b69 s7 F T = gif (F = -1) (m_takesLine_b92 FU s7 T ((T + 1) / 2) 0) (m_takesLine_b92 FU s7 T ((T + 1) / 2) (F / 2 + 1)) := by
    intro s7
    unfold m_takesLine_b69 m_takesLine_b69_G
    rw [gd_t (by decide), gd_t (by decide)]
  by_cases c : fr % 2 = 1
  · rw [gif_t (by rw [hF]; omega)]
    have hw : fr / 2 < n := by omega
    obtain ⟨u, u1, u2, u3, u4, u5⟩ := K5.1.2.2 (fr / 2) hw
    have tF : (F / 2).toInt = fr / 2 := by rw [ti_div2 (by omega), hF]; omega
    have iF : ix (F / 2) = fr / 2 := by rw [ix_eq, tF]; omega
    have r := R (fr / 2) hw
    have bF : inb (F / 2) 12 := inb_iff.mpr (by rw [tF]; omega)
    rw [gd_t (by decide), gd_t bF, iF, gd_t (inb_k (m := 2) rfl (by omega) (by omega) (by omega)), gd_t (by decide), gd_t bF, gd_t (inb_k (m := 15) rfl (by omega) (by omega) (by omega)), ix_k (m := 2) rfl (by omega) (by omega), ix_k (m := 15) rfl (by omega) (by omega), show 2 + (rI s5 57 0 (fr / 2)).toInt.toNat = 2 + u by omega, show 15 + (rI s5 57 0 (fr / 2)).toInt.toNat = 15 + u by omega, u3, u4]
    have ts : (wd (fr / 2) - ft (fr / 2)).toInt = (wd (fr / 2)).toInt - (ft (fr / 2)).toInt := ti_sub (by omega) (by omega)
    refine ok_bind (ok_mono (ok_addsPiece z7 z8 (by omega) (by simp [sumW]) (by rw [ts]; omega)) (fun s7 ⟨p1, p2, p3⟩ => ?_))
    rw [e69, gif_f (by rw [ti_eq, hF]; show ¬ (fr : Int) - 1 = -1; omega)]
    refine loop s7 1 _ (keep K5 p3) (by rw [p1]; rfl) ?_ (fun w h3 h4 => ?_) (by omega) ?_
    · rw [p2, ts]; simp only [sumW, if_pos]; unfold pc; rw [if_neg (by omega), if_pos (by omega)]; simp
    · unfold pc; rw [if_neg (by omega), if_neg (by omega)]
    · rw [ti_add (by rw [tF, li_1]; omega) (by rw [tF, li_1]; omega), tF, li_1]; omega
  · rw [gif_f (by rw [hF]; omega), e69]
    have hp : ∀ w, fr / 2 + 0 ≤ w → w < (to + 1) / 2 → pc wd ft fr to w = (wd w).toInt := fun w h3 h4 => by unfold pc; rw [if_neg (by omega), if_neg (by omega)]
    by_cases d : fr = 0
    · rw [gif_t (by rw [ti_eq, hF, d]; rfl)]
      exact loop s5 0 _ K5 z7 z8 hp (by omega) (by rw [li_0, d]; rfl)
    · rw [gif_f (by rw [ti_eq, hF]; show ¬ (fr : Int) - 1 = -1; omega)]
      have tF : (F / 2).toInt = (fr : Int) / 2 - 1 := by rw [ti_div2 (by omega), hF]; omega
      exact loop s5 0 _ K5 z7 z8 hp (by omega) (by rw [ti_add (by rw [tF, li_1]; omega) (by rw [tF, li_1]; omega), tF, li_1]; omega)
