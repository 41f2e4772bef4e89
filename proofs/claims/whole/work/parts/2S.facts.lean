def FV (nu pc sh hy la ki mo pr : Int32) : Nat → Int32 := fun i => if i = 0 then nu else if i = 1 then pc else if i = 2 then sh else if i = 3 then hy else if i = 4 then la else if i = 5 then ki else if i = 6 then mo else pr
theorem in8 {n : Int32} (h : 0 ≤ n.toInt ∧ n.toInt < 8) : inb n 8 := inb_iff.mpr h
/-- the facts of a LINE, as the class gathers them -/
theorem ok_gather {s : Sg} {g0 g1 n : Nat} {mea num : Int32} (hn : (rI s 1 g1 7).toInt = n) (n12 : n ≤ 12) {to : Nat} (ht : (rI s 2 g0 2).toInt = to) (t24 : to < 2 * n) :
    ok (x2_gatherFacts s g0 g1 mea num) (fun s' => ∀ i, i < 8 → rI s' 19 g0 i = FV num (rI s 2 g0 4) (mea - rI s 2 g0 3) (bI (to % 2 = 0)) (bI (to + 1 = 2 * n)) (rI s 14 g1 (to / 2)) (rI s 15 g1 2) (rI s 15 g1 0) i) := by
  have d2 : (rI s 2 g0 2 / 2).toInt = to / 2 := by rw [ti_div2 (by omega), ht]
  have hl : ∀ (s1 : Sg), (∀ k i c, k ≠ 19 → rI s1 k i c = rI s k i c) → ∀ (y1 : Int32) (v : Nat) (y2 : Int32), y1.toInt = v → v < 8 → x2_gatherFacts_b108 s1 g0 g1 g0 y1 y2 = some (wI (wI (wI s1 19 g0 v y2) 19 g0 7 (rI s 15 g1 0)) 19 g0 6 (rI s 15 g1 2)) := by
    intro s1 e y1 v y2 hv v8
    unfold x2_gatherFacts_b108 x2_gatherFacts_b108_G
    rw [gd_t (in8 (by omega)), gd_t (by rw [inb_iff]; decide), gd_t (by rw [inb_iff]; decide), gd_t (by rw [inb_iff]; decide), gd_t (by rw [inb_iff]; decide), show ix y1 = v by rw [ix_eq, hv]; omega, show ix 0 = 0 from rfl, show ix 7 = 7 from rfl, show ix 2 = 2 from rfl, show ix 6 = 6 from rfl]
    simp (disch := omega) only [rI_ne, e]
  have h56 : ∀ (s1 : Sg), (∀ k i c, k ≠ 19 → rI s1 k i c = rI s k i c) → ∀ (y2 : Int32), x2_gatherFacts_b56 s1 g0 g1 (rI s 2 g0 2 / 2) g0 3 y2 = some (wI (wI (wI (wI (wI s1 19 g0 3 y2) 19 g0 4 (bI (to + 1 = 2 * n))) 19 g0 5 (rI s 14 g1 (to / 2))) 19 g0 7 (rI s 15 g1 0)) 19 g0 6 (rI s 15 g1 2)) := by
    intro s1 e y2
    unfold x2_gatherFacts_b56 x2_gatherFacts_b56_G
    rw [gd_t (by rw [inb_iff]; decide), show ix 3 = 3 from rfl, show ix 4 = 4 from rfl]
    simp (disch := omega) only [rI_ne, e]
    have ec : (rI s 2 g0 2 = 2 * rI s 1 g1 7 - 1) ↔ to + 1 = 2 * n := by
      rw [ti_eq]; simp (disch := omega) only [Int32.toInt_add, Int32.toInt_sub, Int32.toInt_mul, Int32.toInt_neg, bm32, li_0, li_1, li_2, li_3, li_4, li_5, li_6, li_7, li_8, li_9, li_10, li_11, li_12, li_13, li_14, li_15, li_16, li_17, li_18, li_19, li_20, li_21, li_22, li_23, li_24, li_25, li_26, li_27, li_28, li_29, li_30, li_31, li_32, li_33, li_34, li_35, li_36, li_37, li_38, li_39, li_40, li_41, li_42, li_43, li_44, li_45, li_46, li_47, li_48, li_49, li_50, li_51, li_52, li_53, li_54, li_55, li_56, li_57, li_58, li_59, li_60, li_61, li_62, li_63, li_64, li_65, li_66, li_67, li_68, li_69, li_70, li_71, li_72, li_73, li_74, li_75, li_76, li_77, li_78, li_91, li_93, li_96, li_97, li_99, li_100, li_122, li_138, li_255, li_256, li_400, li_401, li_625, li_800, li_999, li_1000, li_1001, li_1103, li_2000, li_2037, li_2038, li_2039, li_2040, li_2041, li_2042, li_2043, li_2044, li_2045, li_2046, li_2047, li_2048, li_2049, li_2050, li_2051, li_2052, li_2053, li_2054, li_2055, li_2056, li_2057, li_2058, li_2059, li_2060, li_2061, li_2062, li_2091, li_2093, li_2400, li_2865, li_3000, li_3002, li_3003, li_3005, li_3006, li_3007, li_3008, li_3009, li_3010, li_3011, li_3012, li_3013, li_3020, li_3024, li_3025, li_3026, li_3999, li_4000, li_4095, li_4096, li_5665, li_11330, li_12345, li_15625, li_1000000, li_1000003, li_100000000, li_1000000000, ti_lt, inb_iff, ix_eq, hn, ht]; omega
    have fin : ∀ (v : Int32), ((x1_has (wI (wI s1 19 g0 3 y2) 19 g0 4 v) g1 (rI s 2 g0 2 / 2)).bind fun q3 => gif (q3.2 = 0) (x2_gatherFacts_b108 q3.1 g0 g1 g0 5 0) (gd (inb (rI s 2 g0 2 / 2) 12) (x2_gatherFacts_b108 q3.1 g0 g1 g0 5 (rI q3.1 14 g1 (ix (rI s 2 g0 2 / 2)))))) =
        some (wI (wI (wI (wI (wI s1 19 g0 3 y2) 19 g0 4 v) 19 g0 5 (rI s 14 g1 (to / 2))) 19 g0 7 (rI s 15 g1 0)) 19 g0 6 (rI s 15 g1 2)) := by
      intro v
      have e2 : ∀ k i c, k ≠ 19 → rI (wI (wI s1 19 g0 3 y2) 19 g0 4 v) k i c = rI s k i c := fun k i c hk => by rw [rI_ne (by omega), rI_ne (by omega), e k i c hk]
      rw [q_x1_has (by rw [e2 _ _ _ (by omega), hn]; omega)]
      simp only [Option.bind_some, gdB0, gdB1, gdbI, gifbI]
      rw [gif_t (by rw [e2 _ _ _ (by omega), hn, d2]; omega), gd_t (inb_iff.mpr (by rw [d2]; omega)), hl _ e2 5 5 _ rfl (by omega), e2 _ _ _ (by omega), show ix (rI s 2 g0 2 / 2) = to / 2 by rw [ix_eq, d2]; omega]
    rw [gd_t (by rw [inb_iff]; decide), gd_t (by rw [inb_iff]; decide)]
    refine gif_eq (fun c => ?_) (fun c => ?_)
    · rw [fin 1, bI_t (ec.mp c)]
    · rw [fin 0, bI_f (fun x => c (ec.mpr x))]
  unfold x2_gatherFacts x2_gatherFacts_G
  rw [gd_t (by decide), gd_t (by rw [inb_iff]; decide), gd_t (by rw [inb_iff]; decide), gd_t (by rw [inb_iff]; decide), gd_t (by decide), show ix 0 = 0 from rfl, show ix 1 = 1 from rfl, show ix 2 = 2 from rfl]
  simp (disch := omega) only [rI_ne]
  have er : (g_rem (rI s 2 g0 2) 2 = 0) ↔ to % 2 = 0 := by
    rw [ti_eq, ti_rem (by omega) (by decide), ht, li_0, li_2]; omega
  have e3 : ∀ k i c, k ≠ 19 → rI (wI (wI (wI s 19 g0 0 num) 19 g0 1 (rI s 2 g0 4)) 19 g0 2 (mea - rI s 2 g0 3)) k i c = rI s k i c := fun k i c hk => by rw [rI_ne (by omega), rI_ne (by omega), rI_ne (by omega)]
  have post : ∀ v, v = bI (to % 2 = 0) → ok (some (wI (wI (wI (wI (wI (wI (wI (wI s 19 g0 0 num) 19 g0 1 (rI s 2 g0 4)) 19 g0 2 (mea - rI s 2 g0 3)) 19 g0 3 v) 19 g0 4 (bI (to + 1 = 2 * n))) 19 g0 5 (rI s 14 g1 (to / 2))) 19 g0 7 (rI s 15 g1 0)) 19 g0 6 (rI s 15 g1 2)))
      (fun s' => ∀ i, i < 8 → rI s' 19 g0 i = FV num (rI s 2 g0 4) (mea - rI s 2 g0 3) (bI (to % 2 = 0)) (bI (to + 1 = 2 * n)) (rI s 14 g1 (to / 2)) (rI s 15 g1 2) (rI s 15 g1 0) i) := by
    intro v hv
    refine ok_some (fun i hi => ?_)
    subst hv
    rcases (by omega : i = 0 ∨ i = 1 ∨ i = 2 ∨ i = 3 ∨ i = 4 ∨ i = 5 ∨ i = 6 ∨ i = 7) with rfl | rfl | rfl | rfl | rfl | rfl | rfl | rfl <;> (simp (disch := omega) only [rI_ne, rI_eq]; rfl)
  refine ok_gif (fun c => ?_) (fun c => ?_)
  · rw [h56 _ e3]; exact post 1 (bI_t (er.mp c)).symm
  · rw [h56 _ e3]; exact post 0 (bI_f (fun x => c (er.mpr x))).symm
/-- the class's text of a LAW, or none -/
def LWX (s : Sg) (lw : Nat) (C : List Cla) : Prop := (lw = 0 ∧ C = []) ∨ ∃ t, lw = t + 1 ∧ lawC s t C ∧ ∀ c ∈ C, wfC c
theorem ok_valueOf {s : Sg} {g0 t p : Nat} {F : Nat → Int32} {P : List Ins} (hl : rN s 36 t 0 ≤ 512) (hs : segX (s.1 36 t) (rN s 36 t 0) p P) (hI : ∀ i ∈ P, okIns 8 i) (hS : skOK P) (hp : pushes P ≤ 50) (hg : goodE (evA F P 0 [])) (hf : ∀ i, i < 8 → rI s 19 g0 i = F i) {a : Int32} (ha : a.toInt = p) :
    ok (x4_valueOf s g0 t a 19 g0) (outX (evA F P 0 []) g0) := by
  obtain ⟨h1, h2, h3⟩ := hs
  unfold x4_valueOf x4_valueOf_G
  rw [gdB0]
  have ea : ∀ s : Sg, aln s 19 g0 = 8 := fun s => rfl
  refine valX (c := s.1 36 t) (F := F) hl rfl ea (by omega) (by omega) P.length P p [] (wI s 4 g0 1 0) a 0 0 FU (Nat.le_refl _) h1 h2 h3 hI hS (fun i hi => absurd hi (by simp)) (by simp; omega) hg (rI_eq rfl) (by rw [rN_wI]) (fun i hi => by rw [rI_ne (by omega)]; rfl) (fun i hi => by rw [rI_ne (by omega)]; exact hf i hi) ha (by simp) (by decide) (by rw [li_0]; omega) (by show _ < 20000; omega)
theorem clamp_eq (v : Int64) (top : Int32) (h : 0 ≤ top.toInt) : Int64.toInt32 (g_lmax 0 (g_lmin v (Int32.toInt64 top))) = Int64.toInt32 (clampL v (Int32.toInt64 top)) := by
  congr 1
  unfold g_lmax g_lmin clampL
  have ht : ¬ Int32.toInt64 top < 0 := by
    rw [Int64.lt_iff_toInt_lt, Int32.toInt_toInt64]; show ¬ top.toInt < 0; omega
  by_cases c : Int32.toInt64 top < v
  · have nv : ¬ v < 0 := fun d => ht (Int64.lt_trans c d)
    rw [if_pos c, if_neg nv, if_neg ht]
  · rw [if_neg c]
theorem cy (x : Int32) : Int64.toInt32 (Int32.toInt64 x) = x := by
  apply Int32.toInt_inj.mp
  rw [Int64.toInt_toInt32, Int32.toInt_toInt64]
  exact Int32.toInt_bmod x
/-- the class's fields of a LINE that is being judged -/
def JF (s : Sg) (g0 : Nat) (a5 a6 : Int64) (b : Prop) : Prop := rI s 2 g0 5 = Int64.toInt32 a5 ∧ rI s 2 g0 6 = Int64.toInt32 a6 ∧ rI s 2 g0 7 = bI b
def JPost (s s' : Sg) (g0 : Nat) (mea : Int32) (c5 c6 : Int32) (b : Prop) (bars : Int32) : Prop :=
  (bars = 0 → rI s' 2 g0 5 = c5 ∧ rI s' 2 g0 6 = c6) ∧ rI s' 2 g0 7 = bI b ∧ rI s' 2 g0 8 = bI ((rI s 2 g0 3).toInt ≤ mea.toInt ∧ ¬ b) ∧ ∀ c, c < 5 → rI s' 2 g0 c = rI s 2 g0 c
theorem judge_end {s : Sg} {g0 : Nat} {mea : Int32} {b : Prop} (h7 : rI s 2 g0 7 = bI b) : gif (mea < rI s 2 g0 3) (gd (isB 0) (some (wI s 2 g0 8 0))) (gif (rI s 2 g0 7 = 0) (gd (isB 1) (some (wI s 2 g0 8 1))) (gd (isB 0) (some (wI s 2 g0 8 0)))) = some (wI s 2 g0 8 (bI ((rI s 2 g0 3).toInt ≤ mea.toInt ∧ ¬ b))) := by
  rw [gdB0, gdB1, ti_lt, h7, gifbI]
  refine gif_eq (fun c => ?_) (fun c => gif_eq (fun d => ?_) (fun d => ?_))
  · rw [bI_f (fun x => by omega)]
  · rw [bI_f (fun x => x.2 d)]
  · rw [bI_t ⟨by omega, d⟩]
theorem judge_loop {g0 t : Nat} {F : Nat → Int32} {mea bars cl : Int32} {tot : Nat} (hcl : cl.toInt = tot) (t12 : tot ≤ 12) (s0 : Sg) (hlen : rN s0 36 t 0 ≤ 512) :
    ∀ (C : List Cla) (s : Sg) (j : Nat) (l : Int32) (fuel : Nat) (a5 a6 : Int64) (b : Prop), (∀ c ∈ C, wfC c) → clasX s0 t j C → j + C.length = tot → (∀ k i c, k ≠ 2 → k ≠ 4 → k ≠ 23 → rI s k i c = rI s0 k i c) → (∀ i c, rN s 36 i c = rN s0 36 i c) → (∀ i, i < 8 → rI s0 19 g0 i = F i) → (∀ c, c < 5 → rI s 2 g0 c = rI s0 2 g0 c) → JF s g0 a5 a6 b → l.toInt = j → C.length < fuel →
      ok (x2_judge_b71 fuel s g0 (t + 1) mea bars cl l) (fun s' => JPost s0 s' g0 mea (Int64.toInt32 (tl F 0 (Int32.toInt64 999) C a5)) (Int64.toInt32 (tl F 1 (Int32.toInt64 99) C a6)) (b ∨ barr F C) bars) := by
  intro C
  induction C with
  | nil =>
    intro s j l fuel a5 a6 b _ _ hj hk hn hf h2 hJ hl hfu
    obtain ⟨fuel, rfl⟩ : ∃ x, fuel = x + 1 := ⟨fuel - 1, by omega⟩
    simp only [List.length_nil, Nat.add_zero] at hj
    show ok (x2_judge_b71_G _ _ s g0 (t + 1) mea bars cl l) _
    unfold x2_judge_b71_G
    simp only []
    rw [gif_f (by rw [ti_lt, hl, hcl]; omega), judge_end hJ.2.2]
    refine ok_some ⟨fun _ => ?_, ?_, ?_, fun c hc => ?_⟩
    · rw [rI_ne (by omega), rI_ne (by omega)]; exact ⟨hJ.1, hJ.2.1⟩
    · rw [rI_ne (by omega), hJ.2.2]; exact bI_congr ⟨.inl, fun x => x.elim id (fun y => y.elim)⟩
    · rw [rI_eq rfl, h2 3 (by omega)]
      refine bI_congr ⟨fun x => ⟨x.1, fun y => y.elim x.2 (fun z => z.elim)⟩, fun x => ⟨x.1, fun y => x.2 (.inl y)⟩⟩
    · rw [rI_ne (by omega)]; exact h2 c hc
  | cons c r ih =>
    intro s j l fuel a5 a6 b hwf hX hj hk hn hf h2 hJ hl hfu
    obtain ⟨fuel, rfl⟩ : ∃ x, fuel = x + 1 := ⟨fuel - 1, by omega⟩
    simp only [List.length_cons] at hj hfu
    obtain ⟨vb, P, T⟩ := c
    have wf0 := hwf (vb, P, T) (by simp)
    obtain ⟨w1, w2, w3, w4, w5⟩ := id wf0
    simp only at w1 w2 w3 w4 w5
    obtain ⟨hX0, hXr⟩ := hX
    obtain ⟨x1, x2, x3⟩ := hX0
    simp only at x1 x2 x3
    have il : ix l = j := by rw [ix_eq, hl]; omega
    have bl : inb l 12 := inb_iff.mpr (by rw [hl]; omega)
    have tl1 : (l + 1).toInt = j + 1 := by rw [ti_add (by rw [hl, li_1]; omega) (by rw [hl, li_1]; omega), hl, li_1]
    have k31 : ∀ s1 : Sg, (∀ k i c, k ≠ 2 → k ≠ 4 → k ≠ 23 → rI s1 k i c = rI s0 k i c) → (rI s1 31 t j).toInt = vb := fun s1 h => by rw [h _ _ _ (by omega) (by omega) (by omega)]; exact x1
    -- go on
    have nx : ∀ (s1 : Sg) (a5' a6' : Int64) (b' : Prop), (∀ k i c, k ≠ 2 → k ≠ 4 → k ≠ 23 → rI s1 k i c = rI s0 k i c) → (∀ i c, rN s1 36 i c = rN s0 36 i c) → (∀ c, c < 5 → rI s1 2 g0 c = rI s0 2 g0 c) → JF s1 g0 a5' a6' b' →
        (bars = 0 → a5' = tlS F 0 (Int32.toInt64 999) (vb, P, T) a5 ∧ a6' = tlS F 1 (Int32.toInt64 99) (vb, P, T) a6) → (b' ↔ b ∨ (vb = 2 ∧ clH F (vb, P, T) = true)) → ok (x2_judge_b71 fuel s1 g0 (t + 1) mea bars cl (l + 1)) (fun s' => JPost s0 s' g0 mea (Int64.toInt32 (tl F 0 (Int32.toInt64 999) ((vb, P, T) :: r) a5)) (Int64.toInt32 (tl F 1 (Int32.toInt64 99) ((vb, P, T) :: r) a6)) (b ∨ barr F ((vb, P, T) :: r)) bars) := by
      intro s1 a5' a6' b' h1 h1n h3 hJ' ha hb
      refine ok_mono (ih s1 (j + 1) (l + 1) fuel a5' a6' b' (fun c hc => hwf c (by simp [hc])) hXr (by omega) h1 h1n hf h3 hJ' (by rw [tl1]; omega) (by omega)) (fun s' ⟨p1, p2, p3, p4⟩ => ?_)
      have eb : (b' ∨ barr F r) ↔ (b ∨ barr F ((vb, P, T) :: r)) := by
        simp only [barr, hb]
        constructor
        · rintro ((g | g) | g)
          · exact .inl g
          · exact .inr (.inl g)
          · exact .inr (.inr g)
        · rintro (g | g | g)
          · exact .inl (.inl g)
          · exact .inl (.inr g)
          · exact .inr g
      refine ⟨fun h0 => ?_, ?_, ?_, p4⟩
      · have := p1 h0
        rw [(ha h0).1, (ha h0).2] at this; exact this
      · rw [p2]; exact bI_congr eb
      · rw [p3]; refine bI_congr ⟨fun x => ⟨x.1, fun y => x.2 (eb.mpr y)⟩, fun x => ⟨x.1, fun y => x.2 (eb.mp y)⟩⟩
    -- the clause is run, its test holds
    have run : ∀ s1 : Sg, (∀ k i c, k ≠ 2 → k ≠ 4 → k ≠ 23 → rI s1 k i c = rI s0 k i c) → (∀ i c, rN s1 36 i c = rN s0 36 i c) → (∀ c, c < 5 → rI s1 2 g0 c = rI s0 2 g0 c) → JF s1 g0 a5 a6 b → clH F (vb, P, T) = true → (vb ≠ 2 → bars = 0) →
        ok (x2_judge_b135 (x2_judge_b71 fuel) s1 g0 (t + 1) mea bars cl l) (fun s' => JPost s0 s' g0 mea (Int64.toInt32 (tl F 0 (Int32.toInt64 999) ((vb, P, T) :: r) a5)) (Int64.toInt32 (tl F 1 (Int32.toInt64 99) ((vb, P, T) :: r) a6)) (b ∨ barr F ((vb, P, T) :: r)) bars) := by
      intro s1 h1 h1n h3 hJ1 hT hbars
      unfold x2_judge_b135 x2_judge_b135_G
      simp only []
      rw [gd_t bl, il]
      by_cases v2 : vb = 2
      · rw [gif_t (by rw [ti_eq, k31 s1 h1, v2]; rfl), gdB1]
        refine nx _ a5 a6 True (fun k i c g1 g2 g3 => by rw [rI_ne (by omega)]; exact h1 k i c g1 g2 g3) h1n (fun c hc => by rw [rI_ne (by omega)]; exact h3 c hc) ⟨by rw [rI_ne (by omega)]; exact hJ1.1, by rw [rI_ne (by omega)]; exact hJ1.2.1, by rw [rI_eq rfl, bI_t trivial]⟩ (fun _ => ?_) ⟨fun _ => .inr ⟨v2, hT⟩, fun _ => trivial⟩
        unfold tlS
        rw [if_neg (fun x => by have := x.1; simp only at this; omega), if_neg (fun x => by have := x.1; simp only at this; omega)]
        exact ⟨rfl, rfl⟩
      · have hb0 := hbars v2
        rw [gif_f (by rw [ti_eq, k31 s1 h1, li_2]; omega), gd_t bl]
        obtain ⟨p, q1, q2⟩ := x2 v2
        have ws := w3 v2
        have hg : goodE (evA F P 0 []) := by
          rcases ws.2.2 F [] with h | ⟨v, h⟩
          · exact .inl h
          · exact .inr ⟨v, [], h⟩
        have e36 : s1.1 36 t = s0.1 36 t := funext fun c => h1 36 t c (by omega) (by omega) (by omega)
        refine ok_bind (ok_fr (ok_valueOf (F := F) (p := p) (P := P) (by rw [h1n]; exact hlen) (by rw [e36, h1n]; exact q2) ws.1 ws.2.1 w4 hg (fun i hi => by rw [h1 _ _ _ (by omega) (by omega) (by omega)]; exact hf i hi) (by rw [h1 _ _ _ (by omega) (by omega) (by omega)]; exact q1)) (fr_x4_valueOf _ _ _ _ _ _) (fun q ho Fv => ?_))
        obtain ⟨s2, y⟩ := q
        simp only at ho Fv ⊢
        have f1 : ∀ k i c, k ≠ 2 → k ≠ 4 → k ≠ 23 → rI s2 k i c = rI s0 k i c := fun k i c g1 g2 g3 => by
          rw [Fv.i k i c (by intro x; simp [hit] at x; omega)]; exact h1 k i c g1 g2 g3
        have f2 : ∀ c, rI s2 2 g0 c = rI s1 2 g0 c := fun c => Fv.i 2 g0 c (by intro x; simp [hit] at x)
        have f3 : ∀ i c, rN s2 36 i c = rN s0 36 i c := fun i c => by rw [Fv.n 36 i c (by intro x; simp [hit] at x)]; exact h1n i c
        have fJ : JF s2 g0 a5 a6 b := by unfold JF; rw [f2, f2, f2]; exact hJ1
        have f5 : ∀ c, c < 5 → rI s2 2 g0 c = rI s0 2 g0 c := fun c hc => by rw [f2]; exact h3 c hc
        have nb : ¬ (vb = 2 ∧ clH F (vb, P, T) = true) := fun x => v2 x.1
        have hval : valC F (vb, P, T) = evS F P := if_neg v2
        rcases hg with hg | ⟨v, u, hg⟩
        · rw [hg] at ho
          rw [gif_f (by rw [ho.2]; decide)]
          refine nx s2 a5 a6 b f1 f3 f5 fJ (fun _ => ?_) ⟨.inl, fun x => x.elim id (fun y => absurd y nb)⟩
          unfold tlS; rw [hval, evS_none hg]
          constructor <;> (split <;> rfl)
        · rw [hg] at ho
          have hy : y = v := ho.1
          subst hy
          rw [gif_t ho.2, gd_t bl]
          have k31' := k31 s2 f1
          have clm : ∀ (top : Int32), x9_clamp s2 y top = some (s2, Int64.toInt32 (g_lmax 0 (g_lmin y (Int32.toInt64 top)))) := fun _ => rfl
          by_cases v0 : vb = 0
          · rw [gif_t (by rw [ti_eq, k31', v0]; rfl), clm]
            simp only [Option.bind_some]
            rw [clamp_eq _ _ (by decide)]
            refine nx _ (clampL y (Int32.toInt64 999)) a6 b (fun k i c g1 g2 g3 => by rw [rI_ne (by omega)]; exact f1 k i c g1 g2 g3) f3 (fun c hc => by rw [rI_ne (by omega)]; exact f5 c hc) ⟨by rw [rI_eq rfl], by rw [rI_ne (by omega)]; exact fJ.2.1, by rw [rI_ne (by omega)]; exact fJ.2.2⟩ (fun _ => ?_) ⟨.inl, fun x => x.elim id (fun y => absurd y nb)⟩
            unfold tlS; rw [hval, evS_some hg, if_pos ⟨v0, hT⟩, if_neg (fun x => by have := x.1; simp only at this; omega)]
            exact ⟨rfl, rfl⟩
          · rw [gif_f (by rw [ti_eq, k31', li_0]; omega), clm]
            simp only [Option.bind_some]
            rw [clamp_eq _ _ (by decide)]
            refine nx _ a5 (clampL y (Int32.toInt64 99)) b (fun k i c g1 g2 g3 => by rw [rI_ne (by omega)]; exact f1 k i c g1 g2 g3) f3 (fun c hc => by rw [rI_ne (by omega)]; exact f5 c hc) ⟨by rw [rI_ne (by omega)]; exact fJ.1, by rw [rI_eq rfl], by rw [rI_ne (by omega)]; exact fJ.2.2⟩ (fun _ => ?_) ⟨.inl, fun x => x.elim id (fun y => absurd y nb)⟩
            have v1 : vb = 1 := by omega
            unfold tlS; rw [hval, evS_some hg, if_pos (c := (vb, P, T).1 = 1 ∧ _) ⟨v1, hT⟩, if_neg (fun x => by have := x.1; simp only at this; omega)]
            exact ⟨rfl, rfl⟩
    -- its test is looked at first
    have tst : (vb ≠ 2 → bars = 0) → ok (x2_judge_b97 (x2_judge_b71 fuel) s g0 (t + 1) mea bars cl l) (fun s' => JPost s0 s' g0 mea (Int64.toInt32 (tl F 0 (Int32.toInt64 999) ((vb, P, T) :: r) a5)) (Int64.toInt32 (tl F 1 (Int32.toInt64 99) ((vb, P, T) :: r) a6)) (b ∨ barr F ((vb, P, T) :: r)) bars) := by
      intro hbars
      unfold x2_judge_b97 x2_judge_b97_G
      simp only []
      rw [gd_t bl, il]
      cases T with
      | none =>
        simp only at x3
        rw [gif_t (by rw [hk _ _ _ (by omega) (by omega) (by omega), ti_eq, x3]; rfl)]
        exact run s hk hn h2 hJ rfl hbars
      | some T =>
        obtain ⟨p, q1, q2⟩ := x3
        obtain ⟨wt, pt⟩ := w5 T rfl
        rw [gif_f (by rw [hk _ _ _ (by omega) (by omega) (by omega), ti_eq, q1]; show ¬ (p : Int) = -1; omega), gd_t bl]
        have hg : goodE (evA F T 0 []) := by
          rcases wt.2.2 F with h | ⟨v, -, h⟩
          · exact .inl h
          · exact .inr ⟨v, [], h⟩
        have e36 : s.1 36 t = s0.1 36 t := funext fun c => hk 36 t c (by omega) (by omega) (by omega)
        refine ok_bind (ok_fr (ok_valueOf (F := F) (p := p) (P := T) (by rw [hn]; exact hlen) (by rw [e36, hn]; exact q2) wt.1 wt.2.1 pt hg (fun i hi => by rw [hk _ _ _ (by omega) (by omega) (by omega)]; exact hf i hi) (by rw [hk _ _ _ (by omega) (by omega) (by omega)]; exact q1)) (fr_x4_valueOf _ _ _ _ _ _) (fun q ho Fv => ?_))
        obtain ⟨s2, y⟩ := q
        simp only at ho Fv ⊢
        have f1 : ∀ k i c, k ≠ 2 → k ≠ 4 → k ≠ 23 → rI s2 k i c = rI s0 k i c := fun k i c g1 g2 g3 => by
          rw [Fv.i k i c (by intro x; simp [hit] at x; omega)]; exact hk k i c g1 g2 g3
        have f2 : ∀ c, rI s2 2 g0 c = rI s 2 g0 c := fun c => Fv.i 2 g0 c (by intro x; simp [hit] at x)
        have f3 : ∀ i c, rN s2 36 i c = rN s0 36 i c := fun i c => by rw [Fv.n 36 i c (by intro x; simp [hit] at x)]; exact hn i c
        have fJ : JF s2 g0 a5 a6 b := by unfold JF; rw [f2, f2, f2]; exact hJ
        have f5 : ∀ c, c < 5 → rI s2 2 g0 c = rI s0 2 g0 c := fun c hc => by rw [f2]; exact h2 c hc
        rw [cmp_eq]
        have skip : clH F (vb, P, some T) = false → ok (x2_judge_b71 fuel s2 g0 (t + 1) mea bars cl (l + 1)) (fun s' => JPost s0 s' g0 mea (Int64.toInt32 (tl F 0 (Int32.toInt64 999) ((vb, P, some T) :: r) a5)) (Int64.toInt32 (tl F 1 (Int32.toInt64 99) ((vb, P, some T) :: r) a6)) (b ∨ barr F ((vb, P, some T) :: r)) bars) := by
          intro hF
          refine nx s2 a5 a6 b f1 f3 f5 fJ (fun _ => ?_) ⟨.inl, fun x => x.elim id (fun y => by rw [hF] at y; exact absurd y.2 (by decide))⟩
          unfold tlS; rw [if_neg (fun x => by rw [hF] at x; exact absurd x.2 (by decide)), if_neg (fun x => by rw [hF] at x; exact absurd x.2 (by decide))]
          exact ⟨rfl, rfl⟩
        rcases wt.2.2 F with h | ⟨v, hv, h⟩
        · rw [h] at ho
          rw [gif_t ho.1]
          exact skip (evT_none h)
        · rw [h] at ho
          have hy : y = v := ho.1
          subst hy
          rcases hv with rfl | rfl
          · rw [gif_t rfl]
            exact skip (by show evT F T = false; rw [evT_some h]; decide)
          · rw [gif_f (by decide)]
            exact run s2 f1 f3 f5 fJ (by show evT F T = true; rw [evT_some h]; decide) hbars
    show ok (x2_judge_b71_G _ _ s g0 (t + 1) mea bars cl l) _
    unfold x2_judge_b71_G
    simp only []
    rw [gif_t (by rw [ti_lt, hl, hcl]; omega)]
    refine ok_gif (fun b0 => tst (fun _ => b0)) (fun b0 => ?_)
    rw [gd_t bl, il]
    refine ok_gif (fun v2 => tst (fun h => absurd ?_ h)) (fun v2 => ?_)
    · rw [ti_eq, k31 s hk, li_2] at v2; omega
    · have v2' : vb ≠ 2 := by rw [ti_eq, k31 s hk, li_2] at v2; omega
      exact nx s a5 a6 b hk hn h2 hJ (fun h => absurd h b0) ⟨.inl, fun x => x.elim id (fun y => absurd y.1 v2')⟩
