/-! ends, splits, swells: what is refused, what is done, what can be undone -/
def wNum (f : Nat → Int32) (w : Int32) : Prop := 0 ≤ w.toInt ∧ w.toInt < (f 54).toInt
/-- by what it is refused; 0 if it can be -/
noncomputable def Why (f : Nat → Int32) (v w ww : Int32) : Int32 :=
  @ite _ (v = 3) (Classical.propDecidable _) (@ite _ ((f 14).toInt < 999) (Classical.propDecidable _) 0 (-3))
  (@ite _ (v = 2 ∧ ¬ (1 ≤ ww.toInt ∧ ww.toInt ≤ 20)) (Classical.propDecidable _) (-1)
  (@ite _ (¬ wNum f w) (Classical.propDecidable _) (-2)
  (@ite _ (v = 0) (Classical.propDecidable _) (@ite _ (w.toInt = (f 54).toInt - 1) (Classical.propDecidable _) (-3) 0)
  (@ite _ (v = 1) (Classical.propDecidable _) (@ite _ (f (15 + w.toInt.toNat) = 0) (Classical.propDecidable _) (-3) 0)
  (@ite _ (ww = f (2 + w.toInt.toNat) ∨ ¬ (f (15 + w.toInt.toNat)).toInt < ww.toInt) (Classical.propDecidable _) (-3) 0)))))
theorem gif_sm {α : Type} {p : Prop} {s : Sg} {a b : α} : gif p (some (s, a)) (some (s, b)) = some (s, @ite _ p (Classical.propDecidable p) a b) := by
  by_cases h : p
  · rw [gif_t h, if_pos h]
  · rw [gif_f h, if_neg h]
theorem q_x1_whyNot {s : Sg} {g : Nat} {f : Nat → Int32} (M : MW f) (X : GX s g f) (v w ww : Int32) : x1_whyNot s g v w ww = some (s, Why f v w ww) := by
  have e7 : rI s 1 g 7 = f 54 := X.1.1
  have n12 := M.1
  unfold x1_whyNot x1_whyNot_G x1_whyNot_b42 x1_whyNot_b42_G Why
  simp only [q_x1_has (e7 ▸ n12.2), Option.bind_some, gdB0, gdB1, gdbI, gifbI, gd_t (show inb 0 4 by rw [inb_iff]; decide), show ix 0 = 0 from rfl, X.2.2.1.1, e7]
  by_cases v3 : v = 3
  · rw [gif_t v3, if_pos v3, gif_sm, ti_lt, li_999]
  · rw [gif_f v3, if_neg v3]
    have key : gif (0 ≤ w.toInt ∧ w.toInt < (f 54).toInt)
        (gif (v = 0) (gif (w = f 54 - 1) (some (s, (-3 : Int32))) (some (s, 0)))
          (gif (v = 1) (gd (inb w 12) (gif (rI s 13 g (ix w) = 0) (some (s, -3)) (some (s, 0))))
            (gd (inb w 12) (gif (ww = rI s 12 g (ix w)) (some (s, -3)) (gd (inb w 12) (gif (rI s 13 g (ix w) < ww) (some (s, 0)) (some (s, -3))))))))
        (some (s, -2)) = some (s, @ite _ (¬ wNum f w) (Classical.propDecidable _) (-2)
      (@ite _ (v = 0) (Classical.propDecidable _) (@ite _ (w.toInt = (f 54).toInt - 1) (Classical.propDecidable _) (-3) 0)
      (@ite _ (v = 1) (Classical.propDecidable _) (@ite _ (f (15 + w.toInt.toNat) = 0) (Classical.propDecidable _) (-3) 0)
      (@ite _ (ww = f (2 + w.toInt.toNat) ∨ ¬ (f (15 + w.toInt.toNat)).toInt < ww.toInt) (Classical.propDecidable _) (-3) 0)))) := by
      by_cases c : wNum f w
      · unfold wNum at c
        have W := X.2.1 w.toInt.toNat (by omega)
        have hb : inb w 12 := inb_iff.mpr (by omega)
        rw [gif_t c, if_neg (fun g => g c), gd_t hb, gd_t hb, gd_t hb, ix_eq, W.1, W.2.1]
        have e : (w = f 54 - 1) = (w.toInt = (f 54).toInt - 1) := propext (by simp (disch := omega) only [Int32.toInt_add, Int32.toInt_sub, Int32.toInt_mul, Int32.toInt_neg, bm32, li_0, li_1, li_2, li_3, li_4, li_5, li_6, li_7, li_8, li_9, li_10, li_11, li_12, li_13, li_14, li_15, li_16, li_17, li_18, li_19, li_20, li_21, li_22, li_23, li_24, li_25, li_26, li_27, li_28, li_29, li_30, li_31, li_32, li_33, li_34, li_35, li_36, li_37, li_38, li_39, li_40, li_41, li_42, li_43, li_44, li_45, li_46, li_47, li_48, li_49, li_50, li_51, li_52, li_53, li_54, li_55, li_56, li_57, li_58, li_59, li_60, li_61, li_62, li_63, li_64, li_65, li_66, li_67, li_68, li_69, li_70, li_71, li_72, li_73, li_74, li_75, li_76, li_77, li_78, li_91, li_93, li_96, li_97, li_99, li_100, li_122, li_138, li_255, li_256, li_400, li_401, li_625, li_800, li_999, li_1000, li_1001, li_1103, li_2000, li_2037, li_2038, li_2039, li_2040, li_2041, li_2042, li_2043, li_2044, li_2045, li_2046, li_2047, li_2048, li_2049, li_2050, li_2051, li_2052, li_2053, li_2054, li_2055, li_2056, li_2057, li_2058, li_2059, li_2060, li_2061, li_2062, li_2091, li_2093, li_2400, li_2865, li_3000, li_3002, li_3003, li_3005, li_3006, li_3007, li_3008, li_3009, li_3010, li_3011, li_3012, li_3013, li_3020, li_3024, li_3025, li_3026, li_3999, li_4000, li_4095, li_4096, li_5665, li_11330, li_12345, li_15625, li_1000000, li_1000003, li_100000000, li_1000000000, ti_lt, ti_eq, inb_iff, ix_eq])
        rw [e, gif_sm, gif_sm]
        by_cases v0 : v = 0
        · rw [gif_t v0, if_pos v0]
        · rw [gif_f v0, if_neg v0]
          by_cases v1 : v = 1
          · rw [gif_t v1, if_pos v1]
          · rw [gif_f v1, if_neg v1, ti_lt]
            by_cases c1 : ww = f (2 + w.toInt.toNat)
            · rw [gif_t c1, if_pos (.inl c1)]
            · rw [gif_f c1]
              by_cases c2 : (f (15 + w.toInt.toNat)).toInt < ww.toInt
              · rw [gif_t c2, if_neg (fun x => x.elim c1 (fun y => y c2))]
              · rw [gif_f c2, if_pos (.inr c2)]
      · rw [gif_f (show ¬ (0 ≤ w.toInt ∧ w.toInt < (f 54).toInt) from c), if_pos c]
    rw [key]
    by_cases v2 : v = 2
    · rw [gif_t v2, ti_lt, ti_lt, li_1, li_20]
      by_cases c1 : ww.toInt < 1
      · rw [gif_t c1, if_pos ⟨v2, by omega⟩]
      · rw [gif_f c1]
        by_cases c2 : 20 < ww.toInt
        · rw [gif_t c2, if_pos ⟨v2, by omega⟩]
        · rw [gif_f c2, if_neg (c := v = 2 ∧ ¬ (1 ≤ ww.toInt ∧ ww.toInt ≤ 20)) (fun x => x.2 (by omega))]
    · rw [gif_f v2, if_neg (c := v = 2 ∧ ¬ (1 ≤ ww.toInt ∧ ww.toInt ≤ 20)) (fun x => v2 x.1)]
/-- the row behind it -/
noncomputable def Act (f : Nat → Int32) (v w ww : Int32) : Nat → Int32 :=
  @ite _ (v = 0) (Classical.propDecidable _) (ud f 0 (f 0 ^^^ (1 <<< (w &&& 31))))
  (@ite _ (v = 1) (Classical.propDecidable _) (ud f 1 (f 1 ^^^ (1 <<< (w &&& 31))))
  (@ite _ (v = 2) (Classical.propDecidable _) (ud f (2 + w.toInt.toNat) ww) (ud f 14 (f 14 + 1))))
theorem Why_0 {f : Nat → Int32} {w ww : Int32} (h : Why f 0 w ww = 0) : wNum f w ∧ w.toInt + 1 < (f 54).toInt := by
  unfold Why at h
  rw [if_neg (by decide), if_neg (fun x => absurd x.1 (by decide))] at h
  by_cases c : wNum f w
  · rw [if_neg (fun x => x c), if_pos rfl] at h
    by_cases d : w.toInt = (f 54).toInt - 1
    · rw [if_pos d] at h; exact absurd h (by decide)
    · exact ⟨c, by have := c.2; omega⟩
  · rw [if_pos c] at h; exact absurd h (by decide)
theorem Why_1 {f : Nat → Int32} {w ww : Int32} (h : Why f 1 w ww = 0) : wNum f w ∧ ¬ f (15 + w.toInt.toNat) = 0 := by
  unfold Why at h
  rw [if_neg (by decide), if_neg (fun x => absurd x.1 (by decide))] at h
  by_cases c : wNum f w
  · rw [if_neg (fun x => x c), if_neg (by decide), if_pos rfl] at h
    by_cases d : f (15 + w.toInt.toNat) = 0
    · rw [if_pos d] at h; exact absurd h (by decide)
    · exact ⟨c, d⟩
  · rw [if_pos c] at h; exact absurd h (by decide)
theorem Why_2 {f : Nat → Int32} {w ww : Int32} (h : Why f 2 w ww = 0) : (1 ≤ ww.toInt ∧ ww.toInt ≤ 20) ∧ wNum f w ∧ ¬ ww = f (2 + w.toInt.toNat) ∧ (f (15 + w.toInt.toNat)).toInt < ww.toInt := by
  unfold Why at h
  rw [if_neg (by decide)] at h
  by_cases b : 1 ≤ ww.toInt ∧ ww.toInt ≤ 20
  · rw [if_neg (fun x => x.2 b)] at h
    by_cases c : wNum f w
    · rw [if_neg (fun x => x c), if_neg (by decide), if_neg (by decide)] at h
      by_cases d : ww = f (2 + w.toInt.toNat) ∨ ¬ (f (15 + w.toInt.toNat)).toInt < ww.toInt
      · rw [if_pos d] at h; exact absurd h (by decide)
      · exact ⟨b, c, fun x => d (.inl x), Classical.byContradiction fun x => d (.inr x)⟩
    · rw [if_pos c] at h; exact absurd h (by decide)
  · rw [if_pos ⟨rfl, b⟩] at h; exact absurd h (by decide)
theorem Why_3 {f : Nat → Int32} {w ww : Int32} (h : Why f 3 w ww = 0) : (f 14).toInt < 999 := by
  unfold Why at h
  rw [if_pos rfl] at h
  by_cases b : (f 14).toInt < 999
  · exact b
  · rw [if_neg b] at h; exact absurd h (by decide)
/-- a refusal's number -/
theorem Why_rf {f : Nat → Int32} {v w ww : Int32} (h : ¬ Why f v w ww = 0) : isRf (Why f v w ww) := by
  unfold Why at h ⊢
  split <;> rename_i h1 <;> simp only [h1, if_true, if_false] at h
  · split <;> rename_i h2 <;> simp only [h2, if_true, if_false] at h
    · exact absurd trivial h
    · exact .inr (.inr (.inl rfl))
  · split
    · exact .inl rfl
    · rename_i h2; simp only [h2, if_true, if_false] at h
      split
      · exact .inr (.inl rfl)
      · rename_i h3; rw [if_neg h3] at h
        split <;> rename_i h4 <;> simp only [h4, if_true, if_false] at h
        · split <;> rename_i h5 <;> simp only [h5, if_true, if_false] at h
          · exact .inr (.inr (.inl rfl))
          · exact absurd trivial h
        · split <;> rename_i h5 <;> simp only [h5, if_true, if_false] at h
          · split <;> rename_i h6 <;> simp only [h6, if_true, if_false] at h
            · exact .inr (.inr (.inl rfl))
            · exact absurd trivial h
          · split <;> rename_i h6 <;> simp only [h6, if_true, if_false] at h
            · exact .inr (.inr (.inl rfl))
            · exact absurd trivial h
def isVb (v : Int32) : Prop := v = 0 ∨ v = 1 ∨ v = 2 ∨ v = 3
/-- the row stays as it must be -/
theorem Act_hi {f : Nat → Int32} {v w ww : Int32} {i : Nat} (hw : v = 2 → w.toInt.toNat < 12) (h : 15 ≤ i) : Act f v w ww i = f i := by
  unfold Act
  split
  · exact ud_ne (by omega)
  · split
    · exact ud_ne (by omega)
    · split
      · next h2 => exact ud_ne (by have := hw h2; omega)
      · exact ud_ne (by omega)
theorem MW_a {f f' : Nat → Int32} (h : MW f) (hf : ∀ i, 15 ≤ i → f' i = f i)
    (hw : ∀ w : Nat, (w : Int) < (f 54).toInt → (1 ≤ (f' (2 + w)).toInt ∧ (f' (2 + w)).toInt ≤ 20) ∧ (f (15 + w)).toInt < (f' (2 + w)).toInt)
    (h3 : (∀ w : Nat, (f 54).toInt ≤ w + 1 → bt (f' 0) w = false) ∧ ∀ w : Nat, (f 54).toInt ≤ w → bt (f' 1) w = false)
    (h4 : 0 ≤ (f' 14).toInt ∧ (f' 14).toInt ≤ 999) : MW f' := by
  obtain ⟨a1, a2, a3, a4, a5, a6⟩ := h
  unfold MW
  rw [hf 54 (by omega), hf 51 (by omega), hf 52 (by omega), hf 53 (by omega), hf 55 (by omega), hf 56 (by omega), hf 57 (by omega)]
  refine ⟨a1, fun w hw' => ?_, h3, ⟨h4, a4.2⟩, ⟨a5.1, fun k hk => ?_⟩, a6⟩
  · rw [hf (15 + w) (by omega), hf (27 + w) (by omega)]
    have := a2 w hw'; have := hw w hw'; omega
  · rw [hf (39 + 2 * k) (by omega), hf (40 + 2 * k) (by omega)]; exact a5.2 k hk
theorem bt_flip_hi {x w : Int32} (h : 0 ≤ w.toInt) (g : w.toInt < 32) {i : Nat} (hi : w.toInt < i) : bt (x ^^^ (1 <<< (w &&& 31))) i = bt x i := by
  by_cases c : i < 32
  · rw [b_flip h g c, decide_eq_false (by omega), Bool.xor_false]
  · rw [b_big (by omega), b_big (by omega)]
theorem MW_Act {f : Nat → Int32} (h : MW f) {v w ww : Int32} (hv : isVb v) (hy : Why f v w ww = 0) : MW (Act f v w ww) := by
  have n12 := h.1
  have t := h.2.2.2.1.1
  unfold Act
  rcases hv with rfl | rfl | rfl | rfl
  · rw [if_pos rfl]
    obtain ⟨c1, c2⟩ := Why_0 hy
    unfold wNum at c1
    refine MW_a h (fun i hi => ud_ne (by omega)) (fun j hj => ?_) ⟨fun j hj => ?_, fun j hj => ?_⟩ ?_
    · rw [ud_ne (by omega)]; have := h.2.1 j hj; omega
    · rw [ud_eq rfl, bt_flip_hi c1.1 (by omega) (by omega)]; exact h.2.2.1.1 j hj
    · rw [ud_ne (by omega)]; exact h.2.2.1.2 j hj
    · rw [ud_ne (by omega)]; exact t
  · rw [if_neg (by decide), if_pos rfl]
    obtain ⟨c1, c2⟩ := Why_1 hy
    unfold wNum at c1
    refine MW_a h (fun i hi => ud_ne (by omega)) (fun j hj => ?_) ⟨fun j hj => ?_, fun j hj => ?_⟩ ?_
    · rw [ud_ne (by omega)]; have := h.2.1 j hj; omega
    · rw [ud_ne (by omega)]; exact h.2.2.1.1 j hj
    · rw [ud_eq rfl, bt_flip_hi c1.1 (by omega) (by omega)]; exact h.2.2.1.2 j hj
    · rw [ud_ne (by omega)]; exact t
  · rw [if_neg (by decide), if_neg (by decide), if_pos rfl]
    obtain ⟨c0, c1, c2, c3⟩ := Why_2 hy
    unfold wNum at c1
    refine MW_a h (fun i hi => ud_ne (by omega)) (fun j hj => ?_) ⟨fun j hj => ?_, fun j hj => ?_⟩ ?_
    · by_cases g : j = w.toInt.toNat
      · subst g; rw [ud_eq rfl]; exact ⟨c0, c3⟩
      · rw [ud_ne (by omega)]; have := h.2.1 j hj; omega
    · rw [ud_ne (by omega)]; exact h.2.2.1.1 j hj
    · rw [ud_ne (by omega)]; exact h.2.2.1.2 j hj
    · rw [ud_ne (by omega)]; exact t
  · rw [if_neg (by decide), if_neg (by decide), if_neg (by decide)]
    have c := Why_3 hy
    refine MW_a h (fun i hi => ud_ne (by omega)) (fun j hj => ?_) ⟨fun j hj => ?_, fun j hj => ?_⟩ ?_
    · rw [ud_ne (by omega)]; have := h.2.1 j hj; omega
    · rw [ud_ne (by omega)]; exact h.2.2.1.1 j hj
    · rw [ud_ne (by omega)]; exact h.2.2.1.2 j hj
    · rw [ud_eq rfl]; simp (disch := omega) only [Int32.toInt_add, Int32.toInt_sub, Int32.toInt_mul, Int32.toInt_neg, bm32, li_0, li_1, li_2, li_3, li_4, li_5, li_6, li_7, li_8, li_9, li_10, li_11, li_12, li_13, li_14, li_15, li_16, li_17, li_18, li_19, li_20, li_21, li_22, li_23, li_24, li_25, li_26, li_27, li_28, li_29, li_30, li_31, li_32, li_33, li_34, li_35, li_36, li_37, li_38, li_39, li_40, li_41, li_42, li_43, li_44, li_45, li_46, li_47, li_48, li_49, li_50, li_51, li_52, li_53, li_54, li_55, li_56, li_57, li_58, li_59, li_60, li_61, li_62, li_63, li_64, li_65, li_66, li_67, li_68, li_69, li_70, li_71, li_72, li_73, li_74, li_75, li_76, li_77, li_78, li_91, li_93, li_96, li_97, li_99, li_100, li_122, li_138, li_255, li_256, li_400, li_401, li_625, li_800, li_999, li_1000, li_1001, li_1103, li_2000, li_2037, li_2038, li_2039, li_2040, li_2041, li_2042, li_2043, li_2044, li_2045, li_2046, li_2047, li_2048, li_2049, li_2050, li_2051, li_2052, li_2053, li_2054, li_2055, li_2056, li_2057, li_2058, li_2059, li_2060, li_2061, li_2062, li_2091, li_2093, li_2400, li_2865, li_3000, li_3002, li_3003, li_3005, li_3006, li_3007, li_3008, li_3009, li_3010, li_3011, li_3012, li_3013, li_3020, li_3024, li_3025, li_3026, li_3999, li_4000, li_4095, li_4096, li_5665, li_11330, li_12345, li_15625, li_1000000, li_1000003, li_100000000, li_1000000000, ti_lt, ti_eq, inb_iff, ix_eq]; omega
/-- the class carries it out -/
theorem ok_carry {s : Sg} {g : Nat} {f : Nat → Int32} (M : MW f) (X : GX s g f) {v w ww : Int32} (hv : isVb v) (hy : Why f v w ww = 0) : ok (x1_carryOutIfItCanBe s g v w ww) (fun s' => GX s' g (Act f v w ww)) := by
  have n12 := M.1
  have s6 := M.2.2.2.2.1.1
  unfold x1_carryOutIfItCanBe x1_carryOutIfItCanBe_G
  simp only [q_x1_whyNot M X, Option.bind_some, hy]
  rw [gif_t trivial]
  unfold Act
  rcases hv with rfl | rfl | rfl | rfl
  · rw [if_pos rfl, gif_t rfl, X.1.2.1]
    refine ok_some ?_
    unfold GX at X ⊢
    simp (disch := omega) only [rI_ne, rI_eq, ud_ne, ud_eq]
    refine ⟨⟨X.1.1, trivial, X.1.2.2⟩, fun j hj => ?_, X.2.2.1, ⟨X.2.2.2.1.1, fun k hk => ?_⟩, X.2.2.2.2⟩
    · (try simp (disch := omega) only [rI_ne, ud_ne]); exact X.2.1 j hj
    · (try simp (disch := omega) only [rI_ne, ud_ne]); exact X.2.2.2.1.2 k hk
  · rw [if_neg (by decide), if_pos rfl, gif_f (by decide), gif_t rfl, X.1.2.2]
    refine ok_some ?_
    unfold GX at X ⊢
    simp (disch := omega) only [rI_ne, rI_eq, ud_ne, ud_eq]
    refine ⟨⟨X.1.1, X.1.2.1, trivial⟩, fun j hj => ?_, X.2.2.1, ⟨X.2.2.2.1.1, fun k hk => ?_⟩, X.2.2.2.2⟩
    · (try simp (disch := omega) only [rI_ne, ud_ne]); exact X.2.1 j hj
    · (try simp (disch := omega) only [rI_ne, ud_ne]); exact X.2.2.2.1.2 k hk
  · obtain ⟨c0, c1, c2, c3⟩ := Why_2 hy
    unfold wNum at c1
    rw [if_neg (by decide), if_neg (by decide), if_pos rfl, gif_f (by decide), gif_f (by decide), gif_t rfl, gd_t (inb_iff.mpr (by omega)), ix_eq]
    refine ok_some ?_
    unfold GX at X ⊢
    simp (disch := omega) only [rI_ne, rI_eq, ud_ne, ud_eq]
    refine ⟨X.1, fun j hj => ?_, X.2.2.1, ⟨X.2.2.2.1.1, fun k hk => ?_⟩, X.2.2.2.2⟩
    · (try simp (disch := omega) only [rI_ne, ud_ne])
      by_cases g : j = w.toInt.toNat
      · subst g; rw [ud_eq rfl, rI_eq rfl]; exact ⟨rfl, (X.2.1 _ hj).2⟩
      · rw [ud_ne (by omega), rI_ne (by omega)]; exact X.2.1 j hj
    · (try simp (disch := omega) only [rI_ne, ud_ne]); exact X.2.2.2.1.2 k hk
  · rw [if_neg (by decide), if_neg (by decide), if_neg (by decide), gif_f (by decide), gif_f (by decide), gif_f (by decide), gd_t (by rw [inb_iff]; decide), gd_t (by rw [inb_iff]; decide), show ix 0 = 0 from rfl, X.2.2.1.1]
    refine ok_some ?_
    unfold GX at X ⊢
    simp (disch := omega) only [rI_ne, rI_eq, ud_ne, ud_eq]
    refine ⟨X.1, fun j hj => ?_, ⟨trivial, X.2.2.1.2⟩, ⟨X.2.2.2.1.1, fun k hk => ?_⟩, X.2.2.2.2⟩
    · (try simp (disch := omega) only [rI_ne, ud_ne]); exact X.2.1 j hj
    · (try simp (disch := omega) only [rI_ne, ud_ne]); exact X.2.2.2.1.2 k hk
/-- how many are held behind one more; and where an elder one stood -/
def nxh (h : Nat) : Nat := if h < 16 then h + 1 else 16
def old (h j : Nat) : Nat := if h < 16 then j else j + 1
theorem ok_note {s : Sg} {g : Nat} {h : Nat} (hh : (rI s 3 g 3).toInt = h) (h16 : h ≤ 16) (v w ww : Int32) : ok (x3_note s g v w ww) (fun s' => (rI s' 3 g 3).toInt = nxh h ∧ (rI s' 20 g (nxh h - 1) = v ∧ rI s' 21 g (nxh h - 1) = w ∧ rI s' 22 g (nxh h - 1) = ww) ∧
    ∀ j, j + 1 < nxh h → rI s' 20 g j = rI s 20 g (old h j) ∧ rI s' 21 g j = rI s 21 g (old h j) ∧ rI s' 22 g j = rI s 22 g (old h j)) := by
  have tail : ∀ (s : Sg) (h : Nat), (rI s 3 g 3).toInt = h → h < 16 → x3_note_b13 s g v w ww = some (wI (wI (wI (wI s 20 g h v) 21 g h w) 22 g h ww) 3 g 3 (rI s 3 g 3 + 1)) := by
    intro s h hh h16
    have hi : ix (rI s 3 g 3) = h := by rw [ix_eq, hh]; omega
    have hb : inb (rI s 3 g 3) 16 := inb_iff.mpr (by omega)
    unfold x3_note_b13 x3_note_b13_G
    rw [gif_f (by rw [ti_lt, hh, li_0]; omega), gif_t (by rw [ti_lt, hh, li_16]; omega)]
    simp (disch := omega) only [rI_ne, gd_t hb, hi]
  unfold x3_note x3_note_G nxh old
  by_cases c : h < 16
  · rw [gif_t (by rw [ti_lt, hh, li_16]; omega), tail s h hh c, if_pos c]
    refine ok_some ⟨?_, ?_, fun j hj => ?_⟩
    · rw [rI_eq rfl]; simp (disch := omega) only [Int32.toInt_add, Int32.toInt_sub, Int32.toInt_mul, Int32.toInt_neg, bm32, li_0, li_1, li_2, li_3, li_4, li_5, li_6, li_7, li_8, li_9, li_10, li_11, li_12, li_13, li_14, li_15, li_16, li_17, li_18, li_19, li_20, li_21, li_22, li_23, li_24, li_25, li_26, li_27, li_28, li_29, li_30, li_31, li_32, li_33, li_34, li_35, li_36, li_37, li_38, li_39, li_40, li_41, li_42, li_43, li_44, li_45, li_46, li_47, li_48, li_49, li_50, li_51, li_52, li_53, li_54, li_55, li_56, li_57, li_58, li_59, li_60, li_61, li_62, li_63, li_64, li_65, li_66, li_67, li_68, li_69, li_70, li_71, li_72, li_73, li_74, li_75, li_76, li_77, li_78, li_91, li_93, li_96, li_97, li_99, li_100, li_122, li_138, li_255, li_256, li_400, li_401, li_625, li_800, li_999, li_1000, li_1001, li_1103, li_2000, li_2037, li_2038, li_2039, li_2040, li_2041, li_2042, li_2043, li_2044, li_2045, li_2046, li_2047, li_2048, li_2049, li_2050, li_2051, li_2052, li_2053, li_2054, li_2055, li_2056, li_2057, li_2058, li_2059, li_2060, li_2061, li_2062, li_2091, li_2093, li_2400, li_2865, li_3000, li_3002, li_3003, li_3005, li_3006, li_3007, li_3008, li_3009, li_3010, li_3011, li_3012, li_3013, li_3020, li_3024, li_3025, li_3026, li_3999, li_4000, li_4095, li_4096, li_5665, li_11330, li_12345, li_15625, li_1000000, li_1000003, li_100000000, li_1000000000, ti_lt, ti_eq, inb_iff, ix_eq, hh]; omega
    · simp (disch := omega) only [rI_ne, rI_eq]; exact ⟨trivial, trivial, trivial⟩
    · simp (disch := omega) only [rI_ne, if_pos c]; exact ⟨trivial, trivial, trivial⟩
  · have h6 : h = 16 := by omega
    subst h6
    rw [gif_f (by rw [ti_lt, hh, li_16]; omega), if_neg (by omega)]
    unfold x3_dropOldest x3_dropOldest_G
    have ck : g_cok 1 0 15 16 16 := by unfold g_cok; decide
    rw [gd_t ck, gd_t ck, gd_t ck]
    simp only [Option.bind_some]
    rw [tail _ 15 (by rw [rI_eq rfl]; rfl) (by omega)]
    have cp : ∀ (s : Sg) (k k' i c : Nat), rI (g_cpy s k g 1 k g 0 15) k' i c = if k' = k ∧ i = g then (if c < 15 then rI s k g (c + 1) else rI s k g c) else rI s k' i c := by
      intro s k k' i c
      show (if k' = k ∧ i = g then va_cpy (s.1 k g) (s.1 k g) (ix 1) (ix 0) (ix 15) c else s.1 k' i c) = _
      unfold va_cpy rI
      simp only [show ix 1 = 1 from rfl, show ix 0 = 0 from rfl, show ix 15 = 15 from rfl]
      by_cases h1 : k' = k ∧ i = g
      · rw [if_pos h1, if_pos h1]
        by_cases h2 : c < 15
        · rw [if_pos ⟨by omega, by omega⟩, if_pos h2, show 1 + (c - 0) = c + 1 by omega]
        · rw [if_neg (by omega), if_neg h2]
      · rw [if_neg h1, if_neg h1]
    refine ok_some ⟨?_, ?_, fun j hj => ?_⟩
    · rw [rI_eq rfl, rI_eq rfl]; decide
    · simp (disch := omega) only [rI_ne, rI_eq]; exact ⟨trivial, trivial, trivial⟩
    · simp (disch := omega) only [rI_ne, if_neg c, cp]
      have : j < 15 := by omega
      simp [this]
theorem ok_keeps {s : Sg} {h : Nat} (hh : (rI s 10 0 46).toInt = h) (h16 : h ≤ 16) (v : Int32) : ok (m_keeps s v) (fun s' => (rI s' 10 0 46).toInt = nxh h ∧ (∀ i, i < 15 → rI s' 59 0 (16 * (nxh h - 1) + i) = rI s 43 0 i) ∧ rI s' 59 0 (16 * (nxh h - 1) + 15) = v ∧
    ∀ j i, j + 1 < nxh h → i < 16 → rI s' 59 0 (16 * j + i) = rI s 59 0 (16 * old h j + i)) := by
  have tail : ∀ (s1 : Sg) (h : Nat), (rI s1 10 0 46).toInt = h → h < 16 → ok (m_keeps_b54 FU s1 v 16 0) (fun s' => (rI s' 10 0 46).toInt = h + 1 ∧ (∀ i, i < 15 → rI s' 59 0 (16 * h + i) = rI s1 43 0 i) ∧ rI s' 59 0 (16 * h + 15) = v ∧ ∀ i, i < 16 * h → rI s' 59 0 i = rI s1 59 0 i) := by
    intro s1 h hh h16
    refine ok_loop (K := fun k (p : Sg × Int32) => m_keeps_b54 k p.1 v 16 p.2) (I := fun p => (rI p.1 10 0 46) = rI s1 10 0 46 ∧ 0 ≤ p.2.toInt ∧ p.2.toInt ≤ 15 ∧ (∀ i : Nat, (i : Int) < p.2.toInt → rI p.1 59 0 (16 * h + i) = rI s1 43 0 i) ∧ (∀ i, i < 16 * h → rI p.1 59 0 i = rI s1 59 0 i) ∧ ∀ i, rI p.1 43 0 i = rI s1 43 0 i)
      (μ := fun p => 15 - p.2.toInt.toNat) ?_ FU (s1, 0) ⟨rfl, by simp only [li_0]; omega, by simp only [li_0]; omega, fun i hi => by simp only [li_0] at hi; omega, fun i hi => rfl, fun i => rfl⟩ (by show _ < 20000; omega)
    rintro k ⟨s2, j⟩ ⟨g1, g2, g3, g4, g5, g6⟩ ih
    simp only at g1 g2 g3 g4 g5 g6 ih
    show ok (m_keeps_b54_G _ s2 v 16 j) _
    unfold m_keeps_b54_G
    rw [g1]
    have t1 : (16 * rI s1 10 0 46).toInt = 16 * h := by simp (disch := omega) only [Int32.toInt_add, Int32.toInt_sub, Int32.toInt_mul, Int32.toInt_neg, bm32, li_0, li_1, li_2, li_3, li_4, li_5, li_6, li_7, li_8, li_9, li_10, li_11, li_12, li_13, li_14, li_15, li_16, li_17, li_18, li_19, li_20, li_21, li_22, li_23, li_24, li_25, li_26, li_27, li_28, li_29, li_30, li_31, li_32, li_33, li_34, li_35, li_36, li_37, li_38, li_39, li_40, li_41, li_42, li_43, li_44, li_45, li_46, li_47, li_48, li_49, li_50, li_51, li_52, li_53, li_54, li_55, li_56, li_57, li_58, li_59, li_60, li_61, li_62, li_63, li_64, li_65, li_66, li_67, li_68, li_69, li_70, li_71, li_72, li_73, li_74, li_75, li_76, li_77, li_78, li_91, li_93, li_96, li_97, li_99, li_100, li_122, li_138, li_255, li_256, li_400, li_401, li_625, li_800, li_999, li_1000, li_1001, li_1103, li_2000, li_2037, li_2038, li_2039, li_2040, li_2041, li_2042, li_2043, li_2044, li_2045, li_2046, li_2047, li_2048, li_2049, li_2050, li_2051, li_2052, li_2053, li_2054, li_2055, li_2056, li_2057, li_2058, li_2059, li_2060, li_2061, li_2062, li_2091, li_2093, li_2400, li_2865, li_3000, li_3002, li_3003, li_3005, li_3006, li_3007, li_3008, li_3009, li_3010, li_3011, li_3012, li_3013, li_3020, li_3024, li_3025, li_3026, li_3999, li_4000, li_4095, li_4096, li_5665, li_11330, li_12345, li_15625, li_1000000, li_1000003, li_100000000, li_1000000000, ti_lt, ti_eq, inb_iff, ix_eq, hh]
    refine ok_gif (fun c => ?_) (fun c => ?_)
    · rw [ti_lt, li_15] at c
      have e1 : (j + 1).toInt = j.toInt + 1 := by simp (disch := omega) only [Int32.toInt_add, Int32.toInt_sub, Int32.toInt_mul, Int32.toInt_neg, bm32, li_0, li_1, li_2, li_3, li_4, li_5, li_6, li_7, li_8, li_9, li_10, li_11, li_12, li_13, li_14, li_15, li_16, li_17, li_18, li_19, li_20, li_21, li_22, li_23, li_24, li_25, li_26, li_27, li_28, li_29, li_30, li_31, li_32, li_33, li_34, li_35, li_36, li_37, li_38, li_39, li_40, li_41, li_42, li_43, li_44, li_45, li_46, li_47, li_48, li_49, li_50, li_51, li_52, li_53, li_54, li_55, li_56, li_57, li_58, li_59, li_60, li_61, li_62, li_63, li_64, li_65, li_66, li_67, li_68, li_69, li_70, li_71, li_72, li_73, li_74, li_75, li_76, li_77, li_78, li_91, li_93, li_96, li_97, li_99, li_100, li_122, li_138, li_255, li_256, li_400, li_401, li_625, li_800, li_999, li_1000, li_1001, li_1103, li_2000, li_2037, li_2038, li_2039, li_2040, li_2041, li_2042, li_2043, li_2044, li_2045, li_2046, li_2047, li_2048, li_2049, li_2050, li_2051, li_2052, li_2053, li_2054, li_2055, li_2056, li_2057, li_2058, li_2059, li_2060, li_2061, li_2062, li_2091, li_2093, li_2400, li_2865, li_3000, li_3002, li_3003, li_3005, li_3006, li_3007, li_3008, li_3009, li_3010, li_3011, li_3012, li_3013, li_3020, li_3024, li_3025, li_3026, li_3999, li_4000, li_4095, li_4096, li_5665, li_11330, li_12345, li_15625, li_1000000, li_1000003, li_100000000, li_1000000000, ti_lt, ti_eq, inb_iff, ix_eq]
      have e2 : ix (16 * rI s1 10 0 46 + j) = 16 * h + j.toInt.toNat := by rw [ix_k (m := 16 * h) (by rw [t1]; omega) g2 (by omega)]
      refine ok_gd (inb_iff.mpr (by omega)) (ok_gd (inb_k (m := 16 * h) (by rw [t1]; omega) g2 (by omega) (by omega)) ?_)
      rw [e2, g6]
      refine ih (wI s2 59 0 (16 * h + j.toInt.toNat) (rI s1 43 0 (ix j)), j + 1) ⟨?_, by simp only [e1]; omega, by simp only [e1]; omega, fun i hi => ?_, fun i hi => ?_, fun i => ?_⟩ (by simp only [e1]; omega)
      · rw [rI_ne (by omega)]; exact g1
      · simp only [e1] at hi
        by_cases q : i = j.toInt.toNat
        · subst q; rw [rI_eq rfl]; rfl
        · rw [rI_ne (by omega)]; exact g4 i (by omega)
      · rw [rI_ne (by omega)]; exact g5 i hi
      · rw [rI_ne (by omega)]; exact g6 i
    · rw [ti_lt, li_15] at c
      have e2 : ix (16 * rI s1 10 0 46 + 15) = 16 * h + 15 := by rw [ix_k (m := 16 * h) (by rw [t1]; omega) (by decide) (by rw [li_15]; omega)]; rfl
      refine ok_gd (inb_k (m := 16 * h) (by rw [t1]; omega) (by decide) (by omega) (by rw [li_15]; omega)) (ok_some ?_)
      rw [e2]
      simp (disch := omega) only [rI_ne, rI_eq]
      refine ⟨?_, fun i hi => ?_, trivial, fun i hi => ?_⟩
      · rw [g1]; simp (disch := omega) only [Int32.toInt_add, Int32.toInt_sub, Int32.toInt_mul, Int32.toInt_neg, bm32, li_0, li_1, li_2, li_3, li_4, li_5, li_6, li_7, li_8, li_9, li_10, li_11, li_12, li_13, li_14, li_15, li_16, li_17, li_18, li_19, li_20, li_21, li_22, li_23, li_24, li_25, li_26, li_27, li_28, li_29, li_30, li_31, li_32, li_33, li_34, li_35, li_36, li_37, li_38, li_39, li_40, li_41, li_42, li_43, li_44, li_45, li_46, li_47, li_48, li_49, li_50, li_51, li_52, li_53, li_54, li_55, li_56, li_57, li_58, li_59, li_60, li_61, li_62, li_63, li_64, li_65, li_66, li_67, li_68, li_69, li_70, li_71, li_72, li_73, li_74, li_75, li_76, li_77, li_78, li_91, li_93, li_96, li_97, li_99, li_100, li_122, li_138, li_255, li_256, li_400, li_401, li_625, li_800, li_999, li_1000, li_1001, li_1103, li_2000, li_2037, li_2038, li_2039, li_2040, li_2041, li_2042, li_2043, li_2044, li_2045, li_2046, li_2047, li_2048, li_2049, li_2050, li_2051, li_2052, li_2053, li_2054, li_2055, li_2056, li_2057, li_2058, li_2059, li_2060, li_2061, li_2062, li_2091, li_2093, li_2400, li_2865, li_3000, li_3002, li_3003, li_3005, li_3006, li_3007, li_3008, li_3009, li_3010, li_3011, li_3012, li_3013, li_3020, li_3024, li_3025, li_3026, li_3999, li_4000, li_4095, li_4096, li_5665, li_11330, li_12345, li_15625, li_1000000, li_1000003, li_100000000, li_1000000000, ti_lt, ti_eq, inb_iff, ix_eq, hh]
      · rw [rI_ne (by omega)]; exact g4 i (by omega)
      · rw [rI_ne (by omega)]; exact g5 i hi
  unfold m_keeps m_keeps_G nxh old
  by_cases c : h < 16
  · rw [gif_f (by rw [ti_eq, hh, li_16]; omega), if_pos c]
    refine ok_mono (tail s h hh c) (fun s' ⟨p1, p2, p3, p4⟩ => ⟨by rw [p1]; omega, p2, p3, fun j i hj hi => ?_⟩)
    rw [if_pos c]; exact p4 _ (by omega)
  · have h6 : h = 16 := by omega
    subst h6
    rw [gif_t (by rw [ti_eq, hh, li_16]; rfl), if_neg (by omega)]
    refine ok_loop (K := fun k (p : Sg × Int32) => m_keeps_b14 k p.1 v 16 p.2) (I := fun p => (rI p.1 10 0 46).toInt = 16 ∧ 0 ≤ p.2.toInt ∧ p.2.toInt ≤ 240 ∧ (∀ i : Nat, (i : Int) < p.2.toInt → rI p.1 59 0 i = rI s 59 0 (i + 16)) ∧ (∀ i : Nat, p.2.toInt ≤ i → rI p.1 59 0 i = rI s 59 0 i) ∧ ∀ i, rI p.1 43 0 i = rI s 43 0 i)
      (μ := fun p => 240 - p.2.toInt.toNat) ?_ FU (s, 0) ⟨by rw [hh]; rfl, by simp only [li_0]; omega, by simp only [li_0]; omega, fun i hi => by simp only [li_0] at hi; omega, fun i hi => rfl, fun i => rfl⟩ (by show _ < 20000; omega)
    rintro k ⟨s2, j⟩ ⟨g1, g2, g3, g4, g5, g6⟩ ih
    simp only at g1 g2 g3 g4 g5 g6 ih
    show ok (m_keeps_b14_G _ _ s2 v 16 j) _
    unfold m_keeps_b14_G
    have t0 : (15 * 16 : Int32).toInt = 240 := by decide
    refine ok_gif (fun c => ?_) (fun c => ?_)
    · rw [ti_lt, t0] at c
      have e1 : (j + 1).toInt = j.toInt + 1 := by simp (disch := omega) only [Int32.toInt_add, Int32.toInt_sub, Int32.toInt_mul, Int32.toInt_neg, bm32, li_0, li_1, li_2, li_3, li_4, li_5, li_6, li_7, li_8, li_9, li_10, li_11, li_12, li_13, li_14, li_15, li_16, li_17, li_18, li_19, li_20, li_21, li_22, li_23, li_24, li_25, li_26, li_27, li_28, li_29, li_30, li_31, li_32, li_33, li_34, li_35, li_36, li_37, li_38, li_39, li_40, li_41, li_42, li_43, li_44, li_45, li_46, li_47, li_48, li_49, li_50, li_51, li_52, li_53, li_54, li_55, li_56, li_57, li_58, li_59, li_60, li_61, li_62, li_63, li_64, li_65, li_66, li_67, li_68, li_69, li_70, li_71, li_72, li_73, li_74, li_75, li_76, li_77, li_78, li_91, li_93, li_96, li_97, li_99, li_100, li_122, li_138, li_255, li_256, li_400, li_401, li_625, li_800, li_999, li_1000, li_1001, li_1103, li_2000, li_2037, li_2038, li_2039, li_2040, li_2041, li_2042, li_2043, li_2044, li_2045, li_2046, li_2047, li_2048, li_2049, li_2050, li_2051, li_2052, li_2053, li_2054, li_2055, li_2056, li_2057, li_2058, li_2059, li_2060, li_2061, li_2062, li_2091, li_2093, li_2400, li_2865, li_3000, li_3002, li_3003, li_3005, li_3006, li_3007, li_3008, li_3009, li_3010, li_3011, li_3012, li_3013, li_3020, li_3024, li_3025, li_3026, li_3999, li_4000, li_4095, li_4096, li_5665, li_11330, li_12345, li_15625, li_1000000, li_1000003, li_100000000, li_1000000000, ti_lt, ti_eq, inb_iff, ix_eq]
      have e3 : (j + 16).toInt = j.toInt + 16 := by simp (disch := omega) only [Int32.toInt_add, Int32.toInt_sub, Int32.toInt_mul, Int32.toInt_neg, bm32, li_0, li_1, li_2, li_3, li_4, li_5, li_6, li_7, li_8, li_9, li_10, li_11, li_12, li_13, li_14, li_15, li_16, li_17, li_18, li_19, li_20, li_21, li_22, li_23, li_24, li_25, li_26, li_27, li_28, li_29, li_30, li_31, li_32, li_33, li_34, li_35, li_36, li_37, li_38, li_39, li_40, li_41, li_42, li_43, li_44, li_45, li_46, li_47, li_48, li_49, li_50, li_51, li_52, li_53, li_54, li_55, li_56, li_57, li_58, li_59, li_60, li_61, li_62, li_63, li_64, li_65, li_66, li_67, li_68, li_69, li_70, li_71, li_72, li_73, li_74, li_75, li_76, li_77, li_78, li_91, li_93, li_96, li_97, li_99, li_100, li_122, li_138, li_255, li_256, li_400, li_401, li_625, li_800, li_999, li_1000, li_1001, li_1103, li_2000, li_2037, li_2038, li_2039, li_2040, li_2041, li_2042, li_2043, li_2044, li_2045, li_2046, li_2047, li_2048, li_2049, li_2050, li_2051, li_2052, li_2053, li_2054, li_2055, li_2056, li_2057, li_2058, li_2059, li_2060, li_2061, li_2062, li_2091, li_2093, li_2400, li_2865, li_3000, li_3002, li_3003, li_3005, li_3006, li_3007, li_3008, li_3009, li_3010, li_3011, li_3012, li_3013, li_3020, li_3024, li_3025, li_3026, li_3999, li_4000, li_4095, li_4096, li_5665, li_11330, li_12345, li_15625, li_1000000, li_1000003, li_100000000, li_1000000000, ti_lt, ti_eq, inb_iff, ix_eq]
      refine ok_gd (inb_iff.mpr (by rw [e3]; omega)) (ok_gd (inb_iff.mpr (by omega)) ?_)
      refine ih (wI s2 59 0 (ix j) (rI s2 59 0 (ix (j + 16))), j + 1) ⟨?_, by simp only [e1]; omega, by simp only [e1]; omega, fun i hi => ?_, fun i hi => ?_, fun i => ?_⟩ (by simp only [e1]; omega)
      · rw [rI_ne (by omega)]; exact g1
      · simp only [e1] at hi
        by_cases q : i = j.toInt.toNat
        · subst q; rw [rI_eq (show j.toInt.toNat = ix j from rfl), ix_eq, e3, g5 _ (by omega), show (j.toInt + 16).toNat = j.toInt.toNat + 16 by omega]
        · rw [rI_ne (by rw [ix_eq]; omega)]; exact g4 i (by omega)
      · simp only [e1] at hi; rw [rI_ne (by rw [ix_eq]; omega)]; exact g5 i (by omega)
      · rw [rI_ne (by omega)]; exact g6 i
    · rw [ti_lt, t0] at c
      have t2 : (rI s2 10 0 46 - 1).toInt = 15 := by rw [ti_sub (by rw [g1, li_1]; omega) (by rw [g1, li_1]; omega), g1, li_1]; rfl
      refine ok_mono (tail (wI s2 10 0 46 (rI s2 10 0 46 - 1)) 15 (by rw [rI_eq rfl, t2]; rfl) (by omega)) (fun s' ⟨p1, p2, p3, p4⟩ => ⟨by rw [p1]; rfl, fun i hi => ?_, p3, fun j' i hj hi => ?_⟩)
      · rw [p2 i hi, rI_ne (by omega)]; exact g6 i
      · rw [if_neg (by omega), p4 _ (by omega), rI_ne (by omega), g4 _ (by omega), show 16 * j' + i + 16 = 16 * (j' + 1) + i by omega]
/-- galley and log hold together (the part of the law that hands move) -/
theorem Step_new {f : Nat → Int32} (M : MW f) {v w ww : Int32} (hv : isVb v) (hy : Why f v w ww = 0) : ∀ w0 : Int32, (v = 2 → w0 = f (2 + w.toInt.toNat)) → Step (Act f v w ww) v w w0 f (Act f v w ww) := by
  intro w0 h0
  have n12 := M.1
  have t := M.2.2.2.1.1
  have e54 : Act f v w ww 54 = f 54 := Act_hi (fun h2 => by subst h2; obtain ⟨c0, c1, -⟩ := Why_2 hy; unfold wNum at c1; omega) (by omega)
  have e15 : ∀ i, 15 ≤ i → Act f v w ww i = f i := fun i hi => Act_hi (fun h2 => by subst h2; obtain ⟨c0, c1, -⟩ := Why_2 hy; unfold wNum at c1; omega) hi
  unfold Step
  rw [e54]
  rcases hv with rfl | rfl | rfl | rfl
  · obtain ⟨c1, c2⟩ := Why_0 hy
    refine .inl ⟨rfl, c1.1, c2, ?_, fun i h1 h2 => ?_⟩
    · unfold Act; rw [if_pos rfl, ud_eq rfl, xor_twice]
    · unfold Act; rw [if_pos rfl, ud_ne (by omega)]
  · obtain ⟨c1, c2⟩ := Why_1 hy
    unfold wNum at c1
    refine .inr (.inl ⟨rfl, c1.1, c1.2, ?_, ?_, fun i h1 h2 => ?_⟩)
    · rw [e15 _ (by omega)]
      have := (M.2.1 w.toInt.toNat (by omega)).2.1.1
      rw [ti_eq, li_0] at c2; omega
    · unfold Act; rw [if_neg (by decide), if_pos rfl, ud_eq rfl, xor_twice]
    · unfold Act; rw [if_neg (by decide), if_pos rfl, ud_ne (by omega)]
  · obtain ⟨c0, c1, c2, c3⟩ := Why_2 hy
    unfold wNum at c1
    have r := M.2.1 w.toInt.toNat (by omega)
    refine .inr (.inr (.inl ⟨rfl, c1.1, c1.2, (h0 rfl).symm, ?_, ?_, ?_, fun i h1 h2 => ?_⟩))
    · unfold Act; rw [if_neg (by decide), if_neg (by decide), if_pos rfl, ud_eq rfl, h0 rfl]; exact c2
    · rw [e15 _ (by omega), h0 rfl]; omega
    · rw [h0 rfl]; omega
    · unfold Act; rw [if_neg (by decide), if_neg (by decide), if_pos rfl, ud_ne (by omega)]
  · have c := Why_3 hy
    refine .inr (.inr (.inr ⟨rfl, ?_, t.1, c, fun i h1 => ?_⟩))
    · unfold Act; rw [if_neg (by decide), if_neg (by decide), if_neg (by decide), ud_eq rfl]
    · unfold Act; rw [if_neg (by decide), if_neg (by decide), if_neg (by decide), ud_ne (by omega)]
