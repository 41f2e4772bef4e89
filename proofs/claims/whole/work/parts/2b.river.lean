/-! RIVERS -/
def vl (A : Int → Int) (p : Int) : Int := 1 + max (A p) (max (A (p - 1)) (A (p + 1)))
noncomputable def stp (m : Nat) (sp : Nat → Int) (A : Int → Int) (p : Int) : Int := @ite Int (∃ k, k < m ∧ sp k = p) (Classical.propDecidable _) (vl A p) 0
def mxf (g : Nat → Int) (v : Int) : Nat → Int
  | 0 => v
  | k + 1 => max (mxf g v k) (g k)
theorem mxf_s {g : Nat → Int} {v : Int} {k : Nat} : mxf g v (k + 1) = max (mxf g v k) (g k) := rfl
theorem mxf_max {g : Nat → Int} {v : Int} (hv : 0 ≤ v) : ∀ k, mxf g v k = max v (mxf g 0 k) := by
  intro k
  induction k with
  | zero => show v = max v 0; omega
  | succ k ih => rw [mxf_s, mxf_s, ih]; omega
theorem mxf_r {g : Nat → Int} {v B : Int} (hv : 0 ≤ v ∧ v ≤ B) : ∀ {k}, (∀ i, i < k → g i ≤ B) → 0 ≤ mxf g v k ∧ mxf g v k ≤ B := by
  intro k
  induction k with
  | zero => intro _; exact hv
  | succ k ih => intro h; have := ih (fun i hi => h i (by omega)); have := h k (by omega); rw [mxf_s]; omega
theorem vl_r {A : Int → Int} {B : Int} (h : ∀ q, 0 ≤ A q ∧ A q ≤ B) (p : Int) : 1 ≤ vl A p ∧ vl A p ≤ B + 1 := by
  have := h p; have := h (p - 1); have := h (p + 1); unfold vl; omega
theorem stp_r {m : Nat} {sp : Nat → Int} {A : Int → Int} {B : Int} (h : ∀ q, 0 ≤ A q ∧ A q ≤ B) (p : Int) : 0 ≤ stp m sp A p ∧ stp m sp A p ≤ B + 1 := by
  have := vl_r h p; have := h p; unfold stp; split <;> omega
theorem stp_at {m k : Nat} {sp : Nat → Int} {A : Int → Int} (h : k < m) : stp m sp A (sp k) = vl A (sp k) := by
  unfold stp; rw [if_pos ⟨k, h, rfl⟩]
theorem stp_ne {m : Nat} {sp : Nat → Int} {A : Int → Int} {p : Int} (h : p ≠ sp m) : stp (m + 1) sp A p = stp m sp A p := by
  unfold stp
  by_cases c : ∃ k, k < m ∧ sp k = p
  · rw [if_pos c, if_pos (by obtain ⟨k, h1, h2⟩ := c; exact ⟨k, by omega, h2⟩)]
  · rw [if_neg c, if_neg (by
      rintro ⟨k, h1, h2⟩
      by_cases e : k = m
      · subst e; exact h h2.symm
      · exact c ⟨k, by omega, h2⟩)]
theorem stp_has {m : Nat} {sp : Nat → Int} {A : Int → Int} {p : Int} (h : stp m sp A p ≠ 0) : ∃ k, k < m ∧ sp k = p := by
  unfold stp at h
  by_cases c : ∃ k, k < m ∧ sp k = p
  · exact c
  · rw [if_neg c] at h; exact absurd rfl h
theorem ti_max (a b : Int32) : (g_max a b).toInt = max a.toInt b.toInt := by
  unfold g_max
  by_cases c : a < b
  · rw [if_pos c]; rw [ti_lt] at c; omega
  · rw [if_neg c]; rw [ti_lt] at c; omega
theorem pc_1 {n : Nat} {wd ft : Nat → Int32} (h : RD n wd ft) {fr to w : Nat} (hw : w < n) (ht : to ≠ 2 * w) : 1 ≤ pc wd ft fr to w := by
  have := h w hw
  unfold pc; rw [if_neg ht]; split <;> omega
theorem sp_r {n : Nat} {wd ft : Nat → Int32} (R : RD n wd ft) (n12 : n ≤ 12) {fr to k : Nat} (h2 : to < 2 * n) (hk : k < to / 2 - fr / 2) : 1 ≤ sumW (pc wd ft fr to) (fr / 2) (k + 1) ∧ sumW (pc wd ft fr to) (fr / 2) (k + 1) ≤ 252 := by
  have a := sumW_r (p := pc wd ft fr to) (w0 := fr / 2) (k := k + 1) (fun i hi => pc_r R (by omega))
  have b := sumW_r (p := pc wd ft fr to) (w0 := fr / 2) (k := k) (fun i hi => pc_r R (by omega))
  have c := pc_1 R (fr := fr) (to := to) (w := fr / 2 + k) (by omega) (by omega)
  refine ⟨?_, by omega⟩
  rw [sumW_s]; split <;> omega
theorem rI_fill {s : Sg} {k i : Nat} {v : Int32} {c : Nat} : rI (g_fillI s k i v) k i c = v := by
  show (if k = k ∧ i = i then v else s.1 k i c) = v
  rw [if_pos ⟨rfl, rfl⟩]
theorem rI_fillne {s : Sg} {k i k' i' : Nat} {v : Int32} {c : Nat} (h : ¬ (k' = k ∧ i' = i)) : rI (g_fillI s k i v) k' i' c = rI s k' i' c := by
  show (if k' = k ∧ i' = i then v else s.1 k' i' c) = s.1 k' i' c
  rw [if_neg h]
theorem rN_fill {s : Sg} {k i k' i' : Nat} {v : Int32} {c : Nat} : rN (g_fillI s k i v) k' i' c = rN s k' i' c := rfl
theorem ok_flow {s : Sg} {g n : Nat} {wd ft kd : Nat → Int32} (X : XD s g n wd ft kd) (R : RD n wd ft) {fr to : Nat} (h2 : to < 2 * n) {F T : Int32} (hF : F.toInt = (fr : Int) - 1) (hT : T.toInt = to) (hft : fr ≤ to) {A : Int → Int} {a b : Nat} (ab : a ≠ b) (ha : rN s 7 0 1 = a) (hb : rN s 7 0 2 = b) (HA : ∀ q : Nat, q < 256 → (rI s 75 a q).toInt = A q) (BA : ∀ q, 0 ≤ A q ∧ A q ≤ 100) :
    ok (x7_flowThrough s g F T) (fun q => (∀ i : Nat, i < 256 → (rI q.1 75 b i).toInt = stp (to / 2 - fr / 2) (fun k => sumW (pc wd ft fr to) (fr / 2) (k + 1)) A i) ∧ q.2.toInt = mxf (fun k => vl A (sumW (pc wd ft fr to) (fr / 2) (k + 1))) 0 (to / 2 - fr / 2)) := by
  have n12 := X.2.1
  have tf : ((F + 1) / 2).toInt = fr / 2 := by
    have : (F + 1).toInt = fr := by simp (disch := omega) only [Int32.toInt_add, Int32.toInt_sub, Int32.toInt_mul, Int32.toInt_neg, bm32, li_0, li_1, li_2, li_3, li_4, li_5, li_6, li_7, li_8, li_9, li_10, li_11, li_12, li_13, li_14, li_15, li_16, li_17, li_18, li_19, li_20, li_21, li_22, li_23, li_24, li_25, li_26, li_27, li_28, li_29, li_30, li_31, li_32, li_33, li_34, li_35, li_36, li_37, li_38, li_39, li_40, li_41, li_42, li_43, li_44, li_45, li_46, li_47, li_48, li_49, li_50, li_51, li_52, li_53, li_54, li_55, li_56, li_57, li_58, li_59, li_60, li_61, li_62, li_63, li_64, li_65, li_66, li_67, li_68, li_69, li_70, li_71, li_72, li_73, li_74, li_75, li_76, li_77, li_78, li_91, li_93, li_96, li_97, li_99, li_100, li_122, li_138, li_255, li_256, li_400, li_401, li_625, li_800, li_999, li_1000, li_1001, li_1103, li_2000, li_2037, li_2038, li_2039, li_2040, li_2041, li_2042, li_2043, li_2044, li_2045, li_2046, li_2047, li_2048, li_2049, li_2050, li_2051, li_2052, li_2053, li_2054, li_2055, li_2056, li_2057, li_2058, li_2059, li_2060, li_2061, li_2062, li_2091, li_2093, li_2400, li_2865, li_3000, li_3002, li_3003, li_3005, li_3006, li_3007, li_3008, li_3009, li_3010, li_3011, li_3012, li_3013, li_3020, li_3024, li_3025, li_3026, li_3999, li_4000, li_4095, li_4096, li_5665, li_11330, li_12345, li_15625, li_1000000, li_1000003, li_100000000, li_1000000000, ti_lt, ti_eq, inb_iff, ix_eq, hF]; omega
    rw [ti_div2 (by omega), this]
  have td : (T / 2).toInt = to / 2 := by rw [ti_div2 (by omega), hT]
  unfold x7_flowThrough x7_flowThrough_G
  simp only []
  rw [gd_t (by decide), hb]
  refine ok_loop (K := fun k (p : Sg × Int32 × Int32 × Int32) => x7_flowThrough_b21 k p.1 g F T p.2.1 p.2.2.1 p.2.2.2) (I := fun p => ∃ j : Nat, j ≤ to / 2 - fr / 2 ∧ p.2.2.2.toInt = (fr / 2 + j : Nat) ∧ p.2.2.1.toInt = sumW (pc wd ft fr to) (fr / 2) j + (if j = 0 then 0 else 1) ∧ p.2.1.toInt = mxf (fun k => vl A (sumW (pc wd ft fr to) (fr / 2) (k + 1))) 0 j ∧ XD p.1 g n wd ft kd ∧ rN p.1 7 0 1 = a ∧ rN p.1 7 0 2 = b ∧ (∀ q : Nat, q < 256 → (rI p.1 75 a q).toInt = A q) ∧ (∀ q : Nat, q < 256 → (rI p.1 75 b q).toInt = stp j (fun k => sumW (pc wd ft fr to) (fr / 2) (k + 1)) A q))
    (μ := fun p => 13 - p.2.2.2.toInt.toNat) ?_ FU (g_fillI s 75 b 0, 0, 0, (F + 1) / 2) ⟨0, by omega, by simp only [tf]; omega, by simp only [sumW]; rfl, rfl, XD_c X (rI_fillne (by omega)) (fun k c h1 h2 => rI_fillne (by omega)), ha, hb, fun q hq => by rw [rI_fillne (by omega)]; exact HA q hq, fun q hq => by rw [rI_fill]; unfold stp; rw [if_neg (by rintro ⟨k, h, -⟩; omega)]; rfl⟩ (by show _ < 20000; omega)
  rintro k ⟨s2, l4, l5, l6⟩ ⟨j, j1, j2, j3, j4, j5, j6, j7, j8, j9⟩ ih
  simp only at j1 j2 j3 j4 j5 j6 j7 j8 j9 ih
  show ok (x7_flowThrough_b21_G _ _ s2 g F T l4 l5 l6) _
  unfold x7_flowThrough_b21_G
  rw [gd_t (by decide)]
  refine ok_gif (fun c => ?_) (fun c => ?_)
  · rw [ti_lt, td, j2] at c
    have hj : j < to / 2 - fr / 2 := by omega
    obtain ⟨v, hv, hv2⟩ := q_pieceOf j5 R (w := fr / 2 + j) (by omega) j2 hF hT
    have sr := sp_r R n12 h2 hj
    have sb := sumW_r (p := pc wd ft fr to) (w0 := fr / 2) (k := j) (fun i hi => pc_r R (by omega))
    have pr := pc_r R (fr := fr) (to := to) (w := fr / 2 + j) (by omega)
    rw [hv]
    simp only [Option.bind_some]
    have tP : (l5 + v).toInt = sumW (pc wd ft fr to) (fr / 2) (j + 1) := by
      rw [sumW_s] at sr ⊢
      rw [ti_add (by rw [j3, hv2]; split <;> omega) (by rw [j3, hv2]; split <;> omega), j3, hv2]; split <;> omega
    generalize l5 + v = y at tP ⊢
    obtain ⟨P, hP⟩ : ∃ P : Nat, sumW (pc wd ft fr to) (fr / 2) (j + 1) = P := ⟨_, (Int.toNat_of_nonneg (by omega)).symm⟩
    have tyP : y.toInt = P := by rw [tP, hP]
    have rP : 1 ≤ P ∧ P ≤ 252 := by omega
    have t1 : (y + 1).toInt = P + 1 := by rw [ti_add (by rw [tyP, li_1]; omega) (by rw [tyP, li_1]; omega), tyP, li_1]
    have t2 : (y - 1).toInt = P - 1 := by rw [ti_sub (by rw [tyP, li_1]; omega) (by rw [tyP, li_1]; omega), tyP, li_1]
    have t6 : (l6 + 1).toInt = (fr / 2 + (j + 1) : Nat) := by rw [ti_add (by rw [j2, li_1]; omega) (by rw [j2, li_1]; omega), j2, li_1]; omega
    have k256 : (Int32.ofNat 256).toInt = 256 := by decide
    rw [gif_f (by rw [ti_lt, tyP, li_1]; omega), gif_t (by rw [ti_lt, t1, k256]; omega), gif_t (by rw [ti_lt, tyP, k256]; omega), gd_t (inb_iff.mpr (by omega)), gd_t (inb_iff.mpr (by omega)), gd_t (inb_iff.mpr (by omega)), gd_t (inb_iff.mpr (by omega)), gd_t (inb_iff.mpr (by omega)), j6, j7]
    have i0 : ix y = P := by rw [ix_eq, tyP]; omega
    have i1 : ix (y + 1) = P + 1 := by rw [ix_eq, t1]; omega
    have i2 : ix (y - 1) = P - 1 := by rw [ix_eq, t2]; omega
    rw [i0, i1, i2]
    have e0 := j8 P (by omega)
    have e1 := j8 (P + 1) (by omega)
    have e2 := j8 (P - 1) (by omega)
    rw [show ((P + 1 : Nat) : Int) = (P : Int) + 1 by omega] at e1
    rw [show ((P - 1 : Nat) : Int) = (P : Int) - 1 by omega] at e2
    have b0 := BA P; have b1 := BA ((P : Int) + 1); have b2 := BA ((P : Int) - 1)
    have tv : (1 + g_max (rI s2 75 a P) (g_max (rI s2 75 a (P - 1)) (rI s2 75 a (P + 1)))).toInt = vl A P := by
      have : (g_max (rI s2 75 a P) (g_max (rI s2 75 a (P - 1)) (rI s2 75 a (P + 1)))).toInt = max (A P) (max (A ((P : Int) - 1)) (A ((P : Int) + 1))) := by rw [ti_max, ti_max, e0, e1, e2]
      rw [ti_add (by rw [this, li_1]; omega) (by rw [this, li_1]; omega), this, li_1]; rfl
    generalize 1 + g_max (rI s2 75 a P) (g_max (rI s2 75 a (P - 1)) (rI s2 75 a (P + 1))) = z at tv ⊢
    rw [show rN (wI s2 75 b P z) 7 0 2 = b from j7, rI_eq rfl]
    refine ih (wI s2 75 b P z, g_max l4 z, y + 1, l6 + 1) ⟨j + 1, by omega, by rw [t6], ?_, ?_, XD_c j5 (rI_ne (by omega)) (fun k c h1 h2 => rI_ne (by omega)), j6, j7, fun q hq => by rw [rI_ne (by omega)]; exact j8 q hq, fun q hq => ?_⟩ (by simp only [t6, j2]; omega)
    · rw [t1, ← hP, if_neg (by omega)]
    · simp only []; rw [ti_max, j4, tv, mxf_s, hP]
    · by_cases e : q = P
      · subst e
        have := stp_at (m := j + 1) (k := j) (sp := fun k => sumW (pc wd ft fr to) (fr / 2) (k + 1)) (A := A) (by omega)
        simp only [hP] at this
        rw [rI_eq rfl, tv, this]
      · rw [rI_ne (by omega), j9 q hq, stp_ne (by simp only [hP]; omega)]
  · rw [ti_lt, td, j2] at c
    have ej : j = to / 2 - fr / 2 := by omega
    exact ok_some ⟨fun i hi => by rw [← ej]; exact j9 i hi, by rw [← ej]; exact j4⟩
