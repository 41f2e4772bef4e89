noncomputable def LFV (nu : Int32) (wd ft kd : Nat → Int32) (n fr to : Nat) (mea mo pr : Int32) : Nat → Int32 :=
  FV nu (Int32.ofInt (lpcs fr to)) (mea - Int32.ofInt (lwid wd ft fr to)) (bI (to % 2 = 0)) (bI (to + 1 = 2 * n)) (kd (to / 2)) mo pr
def c0 (n to : Nat) (sh : Int32) : Int32 := if to + 1 = 2 * n then 0 else g_max 0 sh
def LCo (F : Nat → Int32) (C : List Cla) (n to : Nat) : Int32 := Int64.toInt32 (tl F 0 (Int32.toInt64 999) C (Int32.toInt64 (c0 n to (F 2))))
def LPa (F : Nat → Int32) (C : List Cla) : Int32 := Int64.toInt32 (tl F 1 (Int32.toInt64 99) C (Int32.toInt64 (F 1)))
def LFi (wd ft : Nat → Int32) (fr to : Nat) (mea : Int32) (F : Nat → Int32) (C : List Cla) : Prop := lwid wd ft fr to ≤ mea.toInt ∧ ¬ barr F C
theorem of_ti {x : Int32} {v : Int} (h : x.toInt = v) : x = Int32.ofInt v := by rw [← h, Int32.ofInt_toInt]
theorem ok_judge {s : Sg} {g0 g n lw : Nat} {wd ft kd : Nat → Int32} {C : List Cla} (X : XD s g n wd ft kd) (L : LWX s lw C) {fr to : Nat} (h24 : to < 2 * n) (h2 : (rI s 2 g0 2).toInt = to) (h3 : (rI s 2 g0 3).toInt = lwid wd ft fr to) (h4 : (rI s 2 g0 4).toInt = lpcs fr to) {mea num bars : Int32} :
    ok (x2_judge s g0 g lw mea num bars) (fun s' => JPost s s' g0 mea (LCo (LFV num wd ft kd n fr to mea (rI s 15 g 2) (rI s 15 g 0)) C n to) (LPa (LFV num wd ft kd n fr to mea (rI s 15 g 2) (rI s 15 g 0)) C) (barr (LFV num wd ft kd n fr to mea (rI s 15 g 2) (rI s 15 g 0)) C) bars) := by
  have eF : FV num (rI s 2 g0 4) (mea - rI s 2 g0 3) (bI (to % 2 = 0)) (bI (to + 1 = 2 * n)) (rI s 14 g (to / 2)) (rI s 15 g 2) (rI s 15 g 0) = LFV num wd ft kd n fr to mea (rI s 15 g 2) (rI s 15 g 0) := by
    unfold LFV; rw [of_ti h3, of_ti h4, (X.2.2 (to / 2) (by omega)).2.2]
  have G := ok_gather (mea := mea) (num := num) X.1 X.2.1 h2 h24
  rw [eF] at G
  generalize hFd : LFV num wd ft kd n fr to mea (rI s 15 g 2) (rI s 15 g 0) = F at G ⊢
  have F1 : F 1 = rI s 2 g0 4 := by rw [← hFd]; unfold LFV FV; rw [of_ti h4]; rfl
  have F4 : F 4 = bI (to + 1 = 2 * n) := by rw [← hFd]; rfl
  -- behind the facts
  have tail : ∀ (s1 : Sg) (y : Int32), (∀ i, i < 8 → rI s1 19 g0 i = F i) → (∀ k i c, k ≠ 19 → rI s1 k i c = rI s k i c) → (∀ i c, rN s1 36 i c = rN s 36 i c) → y = c0 n to (F 2) → ok (x2_judge_b33 s1 g0 lw mea bars g0 y) (fun s' => JPost s s' g0 mea (LCo F C n to) (LPa F C) (barr F C) bars) := by
    intro s1 y hf hk hn hy
    unfold x2_judge_b33 x2_judge_b33_G
    have s3J : JF (wI (wI (wI s1 2 g0 5 y) 2 g0 6 (rI (wI s1 2 g0 5 y) 2 g0 4)) 2 g0 7 0) g0 (Int32.toInt64 y) (Int32.toInt64 (F 1)) False := by
      refine ⟨?_, ?_, ?_⟩
      · simp (disch := omega) only [rI_ne, rI_eq]; rw [cy]
      · simp (disch := omega) only [rI_ne, rI_eq]; rw [hk _ _ _ (by omega), cy, F1]
      · rw [rI_eq rfl, bI_f (fun x => x)]
    have s3k : ∀ k i c, k ≠ 19 → k ≠ 2 → rI (wI (wI (wI s1 2 g0 5 y) 2 g0 6 (rI (wI s1 2 g0 5 y) 2 g0 4)) 2 g0 7 0) k i c = rI s k i c := fun k i c g1 g2 => by
      rw [rI_ne (by omega), rI_ne (by omega), rI_ne (by omega)]; exact hk k i c g1
    have s3f : ∀ i, i < 8 → rI (wI (wI (wI s1 2 g0 5 y) 2 g0 6 (rI (wI s1 2 g0 5 y) 2 g0 4)) 2 g0 7 0) 19 g0 i = F i := fun i hi => by
      rw [rI_ne (by omega), rI_ne (by omega), rI_ne (by omega)]; exact hf i hi
    have s32 : ∀ c, c < 5 → rI (wI (wI (wI s1 2 g0 5 y) 2 g0 6 (rI (wI s1 2 g0 5 y) 2 g0 4)) 2 g0 7 0) 2 g0 c = rI s 2 g0 c := fun c hc => by
      rw [rI_ne (by omega), rI_ne (by omega), rI_ne (by omega)]; exact hk _ _ _ (by omega)
    have s3n : ∀ i c, rN (wI (wI (wI s1 2 g0 5 y) 2 g0 6 (rI (wI s1 2 g0 5 y) 2 g0 4)) 2 g0 7 0) 36 i c = rN s 36 i c := fun i c => by rw [rN_wI, rN_wI, rN_wI]; exact hn i c
    rcases L with ⟨rfl, rfl⟩ | ⟨t, rfl, LC, wf⟩
    · simp only []
      rw [gdB0]
      show ok (x2_judge_b71 FU (wI (wI (wI s1 2 g0 5 y) 2 g0 6 (rI (wI s1 2 g0 5 y) 2 g0 4)) 2 g0 7 0) g0 0 mea bars 0 0) _
      generalize wI (wI (wI s1 2 g0 5 y) 2 g0 6 (rI (wI s1 2 g0 5 y) 2 g0 4)) 2 g0 7 0 = s3 at s3J s3k s3f s32 s3n
      show ok (x2_judge_b71_G _ _ s3 g0 0 mea bars 0 0) _
      unfold x2_judge_b71_G
      simp only []
      rw [gif_f (by decide), judge_end s3J.2.2]
      refine ok_some ⟨fun _ => ?_, ?_, ?_, fun c hc => ?_⟩
      · rw [rI_ne (by omega), rI_ne (by omega), s3J.1, s3J.2.1, hy]; exact ⟨rfl, rfl⟩
      · rw [rI_ne (by omega), s3J.2.2]; rfl
      · rw [rI_eq rfl, s32 3 (by omega)]; rfl
      · rw [rI_ne (by omega)]; exact s32 c hc
    · simp only []
      rw [gdB0]
      show ok (x2_judge_b71 FU (wI (wI (wI s1 2 g0 5 y) 2 g0 6 (rI (wI s1 2 g0 5 y) 2 g0 4)) 2 g0 7 0) g0 (t + 1) mea bars (g_min (rI (wI (wI (wI s1 2 g0 5 y) 2 g0 6 (rI (wI s1 2 g0 5 y) 2 g0 4)) 2 g0 7 0) 8 t 6) 12) 0) _
      generalize wI (wI (wI s1 2 g0 5 y) 2 g0 6 (rI (wI s1 2 g0 5 y) 2 g0 4)) 2 g0 7 0 = s3 at s3J s3k s3f s32 s3n ⊢
      obtain ⟨l1, l2, l3, l4, l5, l6⟩ := LC
      have cl : (g_min (rI s3 8 t 6) 12).toInt = C.length := by
        rw [s3k _ _ _ (by omega) (by omega)]
        unfold g_min
        rw [if_neg (by rw [ti_lt, l2, li_12]; omega)]
        exact l2
      have l3' : clasX s3 t 0 C := clasX_c (funext fun c => s3k _ _ _ (by omega) (by omega)) (funext fun c => s3k _ _ _ (by omega) (by omega)) (funext fun c => s3k _ _ _ (by omega) (by omega)) (funext fun c => s3k _ _ _ (by omega) (by omega)) (s3n t 0) l3
      refine ok_mono (judge_loop (F := F) (mea := mea) (bars := bars) cl l1 s3 (by rw [s3n]; exact l6) C s3 0 0 FU (Int32.toInt64 y) (Int32.toInt64 (F 1)) False wf l3' (by omega) (fun _ _ _ _ _ _ => rfl) (fun _ _ => rfl) s3f (fun _ _ => rfl) s3J rfl (by show _ < 20000; omega)) (fun s' ⟨p1, p2, p3, p4⟩ => ?_)
      have eb : (False ∨ barr F C) ↔ barr F C := ⟨fun x => x.elim False.elim id, .inr⟩
      refine ⟨fun h0 => ?_, ?_, ?_, fun c hc => ?_⟩
      · have := p1 h0; rw [hy] at this; exact this
      · rw [p2]; exact bI_congr eb
      · rw [p3, s32 3 (by omega)]; exact bI_congr ⟨fun x => ⟨x.1, fun y => x.2 (.inr y)⟩, fun x => ⟨x.1, fun y => y.elim id x.2⟩⟩
      · rw [p4 c hc]; exact s32 c hc
  have body : ok ((x2_gatherFacts s g0 g mea num).bind fun s1 => gd (inb 4 8) (gif (rI s1 19 g0 (ix 4) = 1) (x2_judge_b33 s1 g0 lw mea bars g0 0) (gd (inb 2 8) (x2_judge_b33 s1 g0 lw mea bars g0 (g_max 0 (rI s1 19 g0 (ix 2))))))) (fun s' => JPost s s' g0 mea (LCo F C n to) (LPa F C) (barr F C) bars) := by
    refine ok_bind (ok_fr G (fr_x2_gatherFacts _ _ _ _ _) (fun s1 hf Fr1 => ?_))
    have hk : ∀ k i c, k ≠ 19 → rI s1 k i c = rI s k i c := fun k i c g1 => Fr1.i k i c (by intro x; simp [hit] at x; omega)
    have hn : ∀ i c, rN s1 36 i c = rN s 36 i c := fun i c => Fr1.n 36 i c (by intro x; simp [hit] at x)
    rw [gd_t (by rw [inb_iff]; decide), gd_t (by rw [inb_iff]; decide), show ix 4 = 4 from rfl, show ix 2 = 2 from rfl, hf 4 (by omega), hf 2 (by omega), F4, bI_1]
    refine ok_gif (fun c => tail s1 0 hf hk hn ?_) (fun c => tail s1 _ hf hk hn ?_)
    · unfold c0; rw [if_pos c]
    · unfold c0; rw [if_neg c]
  unfold x2_judge x2_judge_G
  cases lw with
  | zero => exact body
  | succ t => exact body
/-! the model, when a line is taken -/
def Lin (s : Sg) (wd ft : Nat → Int32) (N : Int32) (fr to : Nat) (Q : Int32) : Prop :=
  (rI s 10 0 37).toInt = lpcs fr to ∧ (rI s 10 0 38).toInt = lwid wd ft fr to ∧ rI s 10 0 39 = N ∧ (rI s 10 0 40).toInt = to ∧ rI s 10 0 41 = Q
def LWM (s : Sg) (C : List Cla) : Prop := ((rI s 43 0 57).toInt = -1 ∧ C = []) ∨ ∃ l : Nat, l < 6 ∧ (rI s 43 0 57).toInt = l ∧ lawM (rI s 43 0 (58 + l)) (fun k => rI s 43 0 (65 + 400 * l + k)) (fun k => rI s 43 0 (2865 + 400 * l + k)) C ∧ ∀ c ∈ C, wfC c
def SameN (s s' : Sg) : Prop := ∀ k i c, k ≠ 55 → ¬ (k = 10 ∧ i = 0 ∧ c = 27) → rI s' k i c = rI s k i c
theorem q_lastPlace {s : Sg} {n : Nat} (h : (rI s 10 0 36).toInt = n) (n12 : n ≤ 12) : ∃ v, m_lastPlace s = some (s, v) ∧ v.toInt = 2 * (n : Int) - 1 :=
  ⟨_, rfl, by simp (disch := omega) only [Int32.toInt_add, Int32.toInt_sub, Int32.toInt_mul, Int32.toInt_neg, bm32, li_0, li_1, li_2, li_3, li_4, li_5, li_6, li_7, li_8, li_9, li_10, li_11, li_12, li_13, li_14, li_15, li_16, li_17, li_18, li_19, li_20, li_21, li_22, li_23, li_24, li_25, li_26, li_27, li_28, li_29, li_30, li_31, li_32, li_33, li_34, li_35, li_36, li_37, li_38, li_39, li_40, li_41, li_42, li_43, li_44, li_45, li_46, li_47, li_48, li_49, li_50, li_51, li_52, li_53, li_54, li_55, li_56, li_57, li_58, li_59, li_60, li_61, li_62, li_63, li_64, li_65, li_66, li_67, li_68, li_69, li_70, li_71, li_72, li_73, li_74, li_75, li_76, li_77, li_78, li_91, li_93, li_96, li_97, li_99, li_100, li_122, li_138, li_255, li_256, li_400, li_401, li_625, li_800, li_999, li_1000, li_1001, li_1103, li_2000, li_2037, li_2038, li_2039, li_2040, li_2041, li_2042, li_2043, li_2044, li_2045, li_2046, li_2047, li_2048, li_2049, li_2050, li_2051, li_2052, li_2053, li_2054, li_2055, li_2056, li_2057, li_2058, li_2059, li_2060, li_2061, li_2062, li_2091, li_2093, li_2400, li_2865, li_3000, li_3002, li_3003, li_3005, li_3006, li_3007, li_3008, li_3009, li_3010, li_3011, li_3012, li_3013, li_3020, li_3024, li_3025, li_3026, li_3999, li_4000, li_4095, li_4096, li_5665, li_11330, li_12345, li_15625, li_1000000, li_1000003, li_100000000, li_1000000000, ti_lt, ti_eq, inb_iff, ix_eq, h]⟩
theorem q_isLastLine {s : Sg} {n to : Nat} (h : (rI s 10 0 36).toInt = n) (n12 : n ≤ 12) (ht : (rI s 10 0 40).toInt = to) : m_isLastLine s = some (s, bI (to + 1 = 2 * n)) := by
  obtain ⟨v, h1, h2⟩ := q_lastPlace h n12
  unfold m_isLastLine m_isLastLine_G
  rw [h1]
  simp only [Option.bind_some, gdB0, gdB1, ti_eq, ht, h2]
  exact gif_eq (fun c => lf1 (by omega)) (fun c => lf0 (by omega))
theorem ok_setsAsked {s : Sg} {n : Nat} {wd ft kd : Nat → Int32} {N Q : Int32} {fr to : Nat} (D : MD s n wd ft kd) (L : Lin s wd ft N fr to Q) (h24 : to < 2 * n) :
    ok (m_setsAsked s) (fun s' => (∀ i, i < 8 → rI s' 55 0 i = LFV N wd ft kd n fr to Q (rI s 43 0 52) (rI s 43 0 14) i) ∧ ∀ k i c, k ≠ 55 → rI s' k i c = rI s k i c) := by
  obtain ⟨l1, l2, l3, l4, l5⟩ := L
  obtain ⟨d1, n12, d3⟩ := D
  obtain ⟨u, u1, u2, u3, u4, u5⟩ := d3 (to / 2) (by omega)
  have td : (rI s 10 0 40 / 2).toInt = to / 2 := by rw [ti_div2 (by omega), l4]
  have it : ix (rI s 10 0 40 / 2) = to / 2 := by rw [ix_eq, td]; omega
  have e73 : ∀ (s1 : Sg) (y2 : Int32), (∀ k i c, k ≠ 55 → rI s1 k i c = rI s k i c) → m_setsAsked_b73 s1 4 y2 = some (wI (wI (wI (wI s1 55 0 4 y2) 55 0 5 (kd (to / 2))) 55 0 6 (rI s 43 0 52)) 55 0 7 (rI s 43 0 14)) := by
    intro s1 y2 e
    unfold m_setsAsked_b73 m_setsAsked_b73_G
    simp (disch := omega) only [rI_ne, e, show ix 4 = 4 from rfl, show ix 5 = 5 from rfl, show ix 6 = 6 from rfl, show ix 7 = 7 from rfl, k52.2, k14.2, gd_t k52.1, gd_t k14.1, it]
    rw [gd_t (by rw [inb_iff]; decide), gd_t (by decide), gd_t (inb_iff.mpr (by rw [td]; omega)), gd_t (inb_k (m := 27) rfl (by omega) (by omega) (by omega)), gd_t (by rw [inb_iff]; decide), gd_t (by rw [inb_iff]; decide), gd_t (by rw [inb_iff]; decide), ix_k (m := 27) rfl (by omega) (by omega), show 27 + (rI s 57 0 (to / 2)).toInt.toNat = 27 + u by omega, u5]
  unfold m_setsAsked m_setsAsked_G
  simp (disch := omega) only [rI_ne, show ix 0 = 0 from rfl, show ix 1 = 1 from rfl, show ix 2 = 2 from rfl, show ix 3 = 3 from rfl, q_isWithin, Option.bind_some, gdB0, gdB1, gdbI, gifbI]
  rw [gd_t (by rw [inb_iff]; decide), gd_t (by rw [inb_iff]; decide), gd_t (by rw [inb_iff]; decide), gd_t (by rw [inb_iff]; decide), gd_t (by rw [inb_iff]; decide)]
  have e3 : ∀ v, ∀ k i c, k ≠ 55 → rI (wI (wI (wI (wI s 55 0 0 (rI s 10 0 39)) 55 0 1 (rI s 10 0 37)) 55 0 2 (rI s 10 0 41 - rI s 10 0 38)) 55 0 3 v) k i c = rI s k i c := fun v k i c hk => by rw [rI_ne (by omega), rI_ne (by omega), rI_ne (by omega), rI_ne (by omega)]
  have fin : ∀ v, v = bI (to % 2 = 0) → ok ((m_isLastLine (wI (wI (wI (wI s 55 0 0 (rI s 10 0 39)) 55 0 1 (rI s 10 0 37)) 55 0 2 (rI s 10 0 41 - rI s 10 0 38)) 55 0 3 v)).bind fun q6 => gif (q6.2 = 0) (m_setsAsked_b73 q6.1 4 0) (m_setsAsked_b73 q6.1 4 1)) (fun s' => (∀ i, i < 8 → rI s' 55 0 i = LFV N wd ft kd n fr to Q (rI s 43 0 52) (rI s 43 0 14) i) ∧ ∀ k i c, k ≠ 55 → rI s' k i c = rI s k i c) := by
    intro v hv
    rw [q_isLastLine (n := n) (to := to) (by rw [e3 v _ _ _ (by omega)]; exact d1) n12 (by rw [e3 v _ _ _ (by omega)]; exact l4)]
    simp only [Option.bind_some, gdB0, gdB1, gdbI, gifbI]
    have post : ∀ y, y = bI (to + 1 = 2 * n) → ok (m_setsAsked_b73 (wI (wI (wI (wI s 55 0 0 (rI s 10 0 39)) 55 0 1 (rI s 10 0 37)) 55 0 2 (rI s 10 0 41 - rI s 10 0 38)) 55 0 3 v) 4 y) (fun s' => (∀ i, i < 8 → rI s' 55 0 i = LFV N wd ft kd n fr to Q (rI s 43 0 52) (rI s 43 0 14) i) ∧ ∀ k i c, k ≠ 55 → rI s' k i c = rI s k i c) := by
      intro y hy
      rw [e73 _ y (e3 v)]
      refine ok_some ⟨fun i hi => ?_, fun k i c hk => by simp (disch := omega) only [rI_ne]⟩
      unfold LFV
      rw [l3, l5, of_ti l1, of_ti l2, ← hv, ← hy]
      rcases (by omega : i = 0 ∨ i = 1 ∨ i = 2 ∨ i = 3 ∨ i = 4 ∨ i = 5 ∨ i = 6 ∨ i = 7) with rfl | rfl | rfl | rfl | rfl | rfl | rfl | rfl <;> (simp (disch := omega) only [rI_ne, rI_eq]; rfl)
    exact ok_gif (fun c => post 1 (bI_t c).symm) (fun c => post 0 (bI_f c).symm)
  refine ok_gif (fun c => fin 1 (bI_t ?_).symm) (fun c => fin 0 (bI_f (fun x => c ?_)).symm)
  · rw [l4] at c; omega
  · rw [l4]; omega
theorem ok_tells {s : Sg} {C : List Cla} {F : Nat → Int32} (L : LWM s C) (hf : ∀ i, i < 8 → rI s 55 0 i = F i) {vb : Nat} {head top w : Int32} (hh : head.toInt = vb + 1) (hvb : vb ≤ 2) :
    ok (m_tells s head top w) (fun q => SameH s q.1 ∧ q.2 = Int64.toInt32 (tl F vb (Int32.toInt64 top) C (Int32.toInt64 w))) := by
  unfold m_tells m_tells_G
  rw [gd_t k57.1, gd_t k57.1, k57.2]
  rcases L with ⟨l1, rfl⟩ | ⟨l, l6, l1, LM, wf⟩
  · rw [gif_t (by rw [ti_eq, l1]; rfl)]
    exact ok_some ⟨fun _ _ _ _ => rfl, (cy w).symm⟩
  · rw [gif_f (by rw [ti_eq, l1]; show ¬ (l : Int) = -1; omega)]
    have tb : (400 * rI s 43 0 57).toInt = (400 * l : Nat) := by simp (disch := omega) only [Int32.toInt_add, Int32.toInt_sub, Int32.toInt_mul, Int32.toInt_neg, bm32, li_0, li_1, li_2, li_3, li_4, li_5, li_6, li_7, li_8, li_9, li_10, li_11, li_12, li_13, li_14, li_15, li_16, li_17, li_18, li_19, li_20, li_21, li_22, li_23, li_24, li_25, li_26, li_27, li_28, li_29, li_30, li_31, li_32, li_33, li_34, li_35, li_36, li_37, li_38, li_39, li_40, li_41, li_42, li_43, li_44, li_45, li_46, li_47, li_48, li_49, li_50, li_51, li_52, li_53, li_54, li_55, li_56, li_57, li_58, li_59, li_60, li_61, li_62, li_63, li_64, li_65, li_66, li_67, li_68, li_69, li_70, li_71, li_72, li_73, li_74, li_75, li_76, li_77, li_78, li_91, li_93, li_96, li_97, li_99, li_100, li_122, li_138, li_255, li_256, li_400, li_401, li_625, li_800, li_999, li_1000, li_1001, li_1103, li_2000, li_2037, li_2038, li_2039, li_2040, li_2041, li_2042, li_2043, li_2044, li_2045, li_2046, li_2047, li_2048, li_2049, li_2050, li_2051, li_2052, li_2053, li_2054, li_2055, li_2056, li_2057, li_2058, li_2059, li_2060, li_2061, li_2062, li_2091, li_2093, li_2400, li_2865, li_3000, li_3002, li_3003, li_3005, li_3006, li_3007, li_3008, li_3009, li_3010, li_3011, li_3012, li_3013, li_3020, li_3024, li_3025, li_3026, li_3999, li_4000, li_4095, li_4096, li_5665, li_11330, li_12345, li_15625, li_1000000, li_1000003, li_100000000, li_1000000000, ti_lt, ti_eq, inb_iff, ix_eq, l1]; omega
    exact ok_tells_loop (base := 400 * l) (tot := clasLen C) l6 rfl LM.2.1 hh hvb tb C s 0 _ _ FU wf LM.2.2 (by omega) (fun i hi => ⟨rfl, rfl⟩) hf l1 LM.1 (by rw [tb]; omega) (by
      have : C.length ≤ clasLen C := by
        clear wf LM
        induction C with
        | nil => simp
        | cons c r ih => simp only [List.length_cons, clasLen]; have : 1 ≤ claLen c := by unfold claLen; omega
                         omega
      have := LM.2.1
      show _ < 20000; omega)
theorem LWM_c {s s' : Sg} {C : List Cla} (h : LWM s C) (e : ∀ c, rI s' 43 0 c = rI s 43 0 c) : LWM s' C := by
  unfold LWM at h ⊢
  simp only [e]; exact h
theorem Lin_c {s s' : Sg} {wd ft : Nat → Int32} {N Q : Int32} {fr to : Nat} (h : Lin s wd ft N fr to Q) (e : ∀ c, 37 ≤ c → c ≤ 41 → rI s' 10 0 c = rI s 10 0 c) : Lin s' wd ft N fr to Q := by
  unfold Lin at h ⊢
  rw [e 37 (by omega) (by omega), e 38 (by omega) (by omega), e 39 (by omega) (by omega), e 40 (by omega) (by omega), e 41 (by omega) (by omega)]; exact h
theorem ok_costsNow {s : Sg} {n : Nat} {wd ft kd : Nat → Int32} {N Q : Int32} {fr to : Nat} {C : List Cla} (D : MD s n wd ft kd) (W : LWM s C) (L : Lin s wd ft N fr to Q) (h24 : to < 2 * n) :
    ok (m_costsNow s) (fun q => SameN s q.1 ∧ q.2 = LCo (LFV N wd ft kd n fr to Q (rI s 43 0 52) (rI s 43 0 14)) C n to) := by
  unfold m_costsNow m_costsNow_G
  simp only [bindp]
  refine ok_bind (ok_mono (ok_setsAsked D L h24) (fun s1 ⟨hf, hk⟩ => ?_))
  rw [q_isLastLine (n := n) (to := to) (by rw [hk _ _ _ (by omega)]; exact D.1) D.2.1 (by rw [hk _ _ _ (by omega)]; exact L.2.2.2.1)]
  simp only [Option.bind_some, gdB0, gdB1, gdbI, gifbI]
  have W1 : LWM s1 C := LWM_c W (fun c => hk _ _ _ (by omega))
  have fin : ∀ w, w = c0 n to (LFV N wd ft kd n fr to Q (rI s 43 0 52) (rI s 43 0 14) 2) → ok (m_tells s1 1 999 w) (fun q => SameN s q.1 ∧ q.2 = LCo (LFV N wd ft kd n fr to Q (rI s 43 0 52) (rI s 43 0 14)) C n to) := by
    intro w hw
    refine ok_mono (ok_tells W1 hf (vb := 0) rfl (by omega)) (fun q ⟨p1, p2⟩ => ⟨fun k i c h1 h2 => by rw [p1 k i c h2, hk k i c h1], ?_⟩)
    rw [p2, hw]; rfl
  refine ok_gif (fun c => fin 0 ?_) (fun c => ?_)
  · unfold c0; rw [if_pos c]
  · have e2 : rI s1 10 0 41 - rI s1 10 0 38 = LFV N wd ft kd n fr to Q (rI s 43 0 52) (rI s 43 0 14) 2 := by
      rw [hk _ _ _ (by omega), hk _ _ _ (by omega), L.2.2.2.2, of_ti L.2.1]; rfl
    unfold m_greater m_greater_G
    rw [e2]
    unfold c0 at fin
    rw [if_neg c] at fin
    generalize LFV N wd ft kd n fr to Q (rI s 43 0 52) (rI s 43 0 14) 2 = x at fin ⊢
    unfold g_max at fin
    refine ok_bind ?_
    refine ok_gif (fun d => ok_some (fin 0 ?_)) (fun d => ok_some (fin x ?_))
    · rw [if_neg (by rw [ti_lt] at d ⊢; omega)]
    · by_cases e : 0 < x
      · rw [if_pos e]
      · rw [if_neg e, ti_eq]; rw [ti_lt, li_0] at d e; rw [li_0]; omega
theorem ok_paysNow {s : Sg} {n : Nat} {wd ft kd : Nat → Int32} {N Q : Int32} {fr to : Nat} {C : List Cla} (D : MD s n wd ft kd) (W : LWM s C) (L : Lin s wd ft N fr to Q) (h24 : to < 2 * n) :
    ok (m_paysNow s) (fun q => SameN s q.1 ∧ q.2 = LPa (LFV N wd ft kd n fr to Q (rI s 43 0 52) (rI s 43 0 14)) C) := by
  unfold m_paysNow m_paysNow_G
  simp only [bindp]
  refine ok_bind (ok_mono (ok_setsAsked D L h24) (fun s1 ⟨hf, hk⟩ => ?_))
  have W1 : LWM s1 C := LWM_c W (fun c => hk _ _ _ (by omega))
  refine ok_mono (ok_tells W1 hf (vb := 1) rfl (by omega)) (fun q ⟨p1, p2⟩ => ⟨fun k i c h1 h2 => by rw [p1 k i c h2, hk k i c h1], ?_⟩)
  rw [p2, hk _ _ _ (by omega), of_ti L.1]; rfl
theorem t1_1 : Int32.toInt64 1 = 1 := by decide
theorem ok_isBarred {s : Sg} {n : Nat} {wd ft kd : Nat → Int32} {N Q : Int32} {fr to : Nat} {C : List Cla} (D : MD s n wd ft kd) (W : LWM s C) (L : Lin s wd ft N fr to Q) (h24 : to < 2 * n) :
    ok (m_isBarred s) (fun q => SameN s q.1 ∧ q.2 = bI (barr (LFV N wd ft kd n fr to Q (rI s 43 0 52) (rI s 43 0 14)) C)) := by
  unfold m_isBarred m_isBarred_G
  refine ok_bind (ok_mono (ok_setsAsked D L h24) (fun s1 ⟨hf, hk⟩ => ?_))
  have W1 : LWM s1 C := LWM_c W (fun c => hk _ _ _ (by omega))
  refine ok_bind (ok_mono (ok_tells W1 hf (vb := 2) (top := 1) (w := 0) rfl (by omega)) (fun q ⟨p1, p2⟩ => ?_))
  have sm : SameN s q.1 := fun k i c h1 h2 => by rw [p1 k i c h2, hk k i c h1]
  generalize LFV N wd ft kd n fr to Q (rI s 43 0 52) (rI s 43 0 14) = F at p2 hf
  rw [t1_1] at p2
  have z01 : ∀ (C : List Cla) (a : Int64), (a = 0 ∨ a = 1) → (tl F 2 1 C a = 0 ∨ tl F 2 1 C a = 1) := by
    intro C
    induction C with
    | nil => intro a h; exact h
    | cons c r ih =>
      intro a h
      apply ih
      unfold tlS
      split
      · next h1 =>
        have : valC F c = some 1 := by unfold valC; rw [if_pos h1.1]
        rw [this]; exact .inr (show clampL 1 1 = 1 by decide)
      · exact h
  have hz := z01 C (Int32.toInt64 0) (.inl (by decide))
  have key : q.2 = 1 ↔ barr F C := by
    rw [p2]
    have e := tl_bar (F := F) (C := C) (a := Int32.toInt64 0)
    constructor
    · intro h
      rcases hz with h0 | h1
      · rw [h0] at h; exact absurd h (by decide)
      · exact (e.mp h1).elim (fun x => absurd x (by decide)) id
    · intro h
      rw [e.mpr (.inr h)]; decide
  rw [gdB0, gdB1]
  refine ok_gif (fun c => ok_some ⟨sm, (bI_t (key.mp c)).symm⟩) (fun c => ok_some ⟨sm, (bI_f (fun x => c (key.mpr x))).symm⟩)
theorem ok_fitsNow {s : Sg} {n : Nat} {wd ft kd : Nat → Int32} {N Q : Int32} {fr to : Nat} {C : List Cla} (D : MD s n wd ft kd) (W : LWM s C) (L : Lin s wd ft N fr to Q) (h24 : to < 2 * n) :
    ok (m_fitsNow s) (fun q => SameN s q.1 ∧ q.2 = bI (LFi wd ft fr to Q (LFV N wd ft kd n fr to Q (rI s 43 0 52) (rI s 43 0 14)) C)) := by
  unfold m_fitsNow m_fitsNow_G
  rw [gdB0, ti_lt, L.2.2.2.2, L.2.1]
  refine ok_gif (fun c => ok_some ⟨fun _ _ _ _ _ => rfl, (bI_f (fun x => by have := x.1; omega)).symm⟩) (fun c => ?_)
  refine ok_bind (ok_mono (ok_isBarred D W L h24) (fun q ⟨p1, p2⟩ => ?_))
  rw [p2, gifbI, gdB0, gdB1]
  refine ok_gif (fun d => ok_some ⟨p1, (bI_f (fun x => x.2 d)).symm⟩) (fun d => ok_some ⟨p1, (bI_t ⟨by omega, d⟩).symm⟩)
