/-! LEAVE OUT, joined -/
noncomputable def DL (f : Nat → Int32) (n i : Nat) (C : List Cla) : Dom := (n - 1, (fun w => wdF f (skp i w)), (fun w => ftF f (skp i w)), (fun w => kdF f (skp i w)), f 53, f 52, f 14, C)
theorem RDD_L {f : Nat → Int32} (M : MW f) {n i : Nat} (hn : (f 54).toInt = n) (hi : i < n) (C : List Cla) : RDD (DL f n i C) :=
  ⟨fun w hw => RD_of M hn (skp i w) (by have hw' : w < n - 1 := hw; unfold skp; split <;> omega), by have := M.1.2; show n - 1 ≤ 12; omega, M.2.2.2.1.2.2.2.2⟩
theorem Bst_r {D : Dom} (R : RDD D) {r : Int32} (h : Bst D r) : r = -1 ∨ (0 ≤ r.toInt ∧ r.toInt < 100000000) := by
  rcases h with ⟨h, _⟩ | ⟨⟨m, h⟩, _⟩
  · exact .inl h
  · have := Pth_b R h; have := Pth_le h; have := R.2.1; exact .inr (by omega)
theorem leave_x {s : Sg} {f : Nat → Int32} {n i : Nat} {I : Int32} (A : GA s 0 f) (hn : (f 54).toInt = n) (hi : i < n) (hI : I.toInt = i) : ∃ s1 s2 s3 lw C r, x1_copyFrom s 1 0 = some s1 ∧ x1_dropWord s1 1 I = some s2 ∧ x1_lawInForce s2 0 = some (s2, lw) ∧ x9_layPaper s2 1 lw = some s3 ∧ x5_bestCosts s3 = some (s3, r) ∧ LWF f C ∧ Bst (DL f n i C) r ∧ GA s3 0 f := by
  obtain ⟨s1, hs1, q1⟩ := ok_copyFrom (s := s) (g0 := 1) (g1 := 0) (by omega)
  have F1 := fr_x1_copyFrom _ _ _ _ hs1
  have A1 : GA s1 1 f := GA_copy A q1 (F1.n _ _ _ (nh rfl)) (fun t k c ht hk => F1.i _ _ _ (clrT_no rfl hk ht)) (fun t ht => F1.n _ _ _ (clrT_no rfl rfl ht))
  have B1 : GA s1 0 f := GA_fr F1 rfl rfl rfl (fun i _ => rfl) A
  obtain ⟨s2, hs2, X2⟩ := ok_dropWord (XD_of A1.1 A1.2.1 hn) hi hI
  have F2 := fr_x1_dropWord _ _ _ _ hs2
  have B2 : GA s2 0 f := GA_fr F2 rfl rfl rfl (fun i _ => rfl) B1
  obtain ⟨lw, C, h1, h2, h3⟩ := law_now' B2
  have R := RDD_L A.1 hn hi C
  have e15 : ∀ c, rI s2 15 1 c = rI s1 15 1 c := fun c => F2.i _ _ _ (nh rfl)
  have X15 := A1.2.1.2.2.1
  obtain ⟨s3, hs3, T⟩ := ok_layOut (D := DL f n i C) (bars := 0) X2 h2 (by rw [e15]; exact X15.2.2.1) (by rw [e15]; exact X15.1) R.1
  have F3 := fr_x5_layOut _ _ _ _ _ _ hs3
  obtain ⟨⟨s4, r⟩, hr, e4, br⟩ := ok_bestCosts R T
  simp only at e4 br
  subst e4
  refine ⟨s1, s2, s4, lw, C, r, hs1, hs2, h1 s2 rfl rfl (fun _ => rfl), ?_, hr, h3, br, GA_fr F3 rfl rfl rfl (fun i _ => rfl) B2⟩
  rw [q_layPaper, e15, X15.2.2.2]; exact hs3
theorem LWF_u {s s' : Sg} {f : Nat → Int32} {C : List Cla} (h : LWF f C) (e : ∀ c, rI s' 43 0 c = f c) : LWM s' C := by
  unfold LWM
  simp only [e]; exact h
theorem leave_m {s : Sg} {f : Nat → Int32} {n i : Nat} {I : Int32} {C : List Cla} (M : MW f) (ef : ∀ c, rI s 43 0 c = f c) (hn : (f 54).toInt = n) (hi : i < n) (hI : I.toInt = i) (W : LWF f C) : ∃ s2 s3 r, m_leavesOut s I = some s2 ∧ m_bestNow s2 = some (s3, r) ∧ Bst (DL f n i C) r ∧ ∀ c, rI s3 43 0 c = f c := by
  have n12 : n ≤ 12 := by have := M.1.2; omega
  obtain ⟨s2, hs2, p1, p2, p3⟩ := ok_leavesOut (s := s) (by rw [ef]; exact hn) n12 hi hI
  have e2 : ∀ c, rI s2 43 0 c = f c := fun c => by rw [p3]; exact ef c
  have R := RDD_L M hn hi C
  have sk : ∀ w, w < n - 1 → skp i w < 12 := fun w hw => by unfold skp; split <;> omega
  have W2 : MWd s2 (DL f n i C) := ⟨⟨p1, R.2.1, fun w hw => ⟨skp i w, sk w hw, p2 w hw, e2 _, e2 _, e2 _⟩⟩, LWF_u (s := s) W e2, e2 52, e2 14⟩
  obtain ⟨m1, hm1, W1, L1⟩ := ok_laysLines (ask := 1) W2 R.1
  have hm1' : m_laysLines s2 (rI s2 43 0 53) 1 = some m1 := by rw [e2]; exact hm1
  obtain ⟨⟨s3, r⟩, hr, br, -⟩ := ok_bestNow R hm1' W1 L1
  have G := fr_m_bestNow _ _ hr
  exact ⟨s2, s3, r, hs2, hr, br, fun c => by rw [G.i 43 0 c (nh rfl)]; exact e2 c⟩
theorem LWF_1 {f : Nat → Int32} : True := trivial
theorem leave_loop {f : Nat → Int32} {n : Nat} (M : MW f) (hn : (f 54).toInt = n) {a : Int32} (ha : a = 0 ∨ a = 1) : ∀ (d i : Nat) (s m : Sg) (I b x y : Int32) (f1 f2 : Nat), i + d = n → I.toInt = i → d < f1 → d < f2 → GA s 0 f → (∀ c, rI m 43 0 c = f c) → ((b = -1 ∧ x = -1 ∧ y = 100000000) ∨ (x = y ∧ 0 ≤ b.toInt ∧ 0 ≤ x.toInt)) → ∃ s' m' m2 r, x9_leaveOut_b18 f1 s a b x I = some (s', r) ∧ m_leaveOut_b20 f2 m a b y I = some (m2, r) ∧ m_laysAllWords m' = some m2 ∧ ∀ c, rI m' 43 0 c = f c := by
  have km : (-1 : Int32).toInt = -1 := by decide
  have kb : (100000000 : Int32).toInt = 100000000 := by decide
  have n12 : n ≤ 12 := by have := M.1.2; omega
  intro d
  induction d with
  | zero =>
    intro i s m I b x y f1 f2 h1 h2 h3 h4 A ef h5
    obtain ⟨f1, rfl⟩ : ∃ x, f1 = x + 1 := ⟨f1 - 1, by omega⟩
    obtain ⟨f2, rfl⟩ : ∃ x, f2 = x + 1 := ⟨f2 - 1, by omega⟩
    have e7 : rI s 1 0 7 = f 54 := A.2.1.1.1
    obtain ⟨m2, hm2, -⟩ := ok_laysAllWords (s := m) (n := n) (by rw [ef]; exact hn) n12
    refine ⟨s, m, m2, if a = 0 then b else x, ?_, ?_, hm2, ef⟩
    · show x9_leaveOut_b18_G _ _ _ _ _ _ s a b x I = _
      unfold x9_leaveOut_b18_G
      rw [gif_f (by rw [ti_lt, h2, e7, hn]; omega)]
      by_cases c : a = 0
      · rw [gif_t c, if_pos c]
      · rw [gif_f c, if_neg c]
    · show m_leaveOut_b20_G _ _ _ _ _ m a b y I = _
      unfold m_leaveOut_b20_G
      rw [q_m_wordMany]
      simp only [Option.bind_some]
      rw [gif_f (by rw [ti_lt, h2, ef, hn]; omega), hm2]
      simp only [Option.bind_some]
      rcases h5 with ⟨rfl, rfl, rfl⟩ | ⟨rfl, h5, h6⟩
      · rw [gif_t rfl, ite_self]
      · rw [gif_f (by rw [ti_eq, km]; omega)]
        by_cases c : a = 0
        · rw [gif_t c, if_pos c]
        · rw [gif_f c, if_neg c]
  | succ d ih =>
    intro i s m I b x y f1 f2 h1 h2 h3 h4 A ef h5
    obtain ⟨f1, rfl⟩ : ∃ x, f1 = x + 1 := ⟨f1 - 1, by omega⟩
    obtain ⟨f2, rfl⟩ : ∃ x, f2 = x + 1 := ⟨f2 - 1, by omega⟩
    have e7 : rI s 1 0 7 = f 54 := A.2.1.1.1
    have t1 : (I + 1).toInt = (i + 1 : Nat) := by rw [ti_add (by rw [h2, li_1]; omega) (by rw [h2, li_1]; omega), h2, li_1]; omega
    obtain ⟨s1, s2, s3, lw, C, r, x1, x2, x3, x4, x5, W, br, A3⟩ := leave_x A hn (show i < n by omega) h2
    obtain ⟨m1, m2, r', y1, y2, br', e2⟩ := leave_m M ef hn (show i < n by omega) h2 W
    have er : r' = r := Bst_u br' br
    subst er
    have rr := Bst_r (RDD_L M hn (show i < n by omega) C) br
    have ec : x9_leaveOut_b18 (f1 + 1) s a b x I = gif (r' = -1) (x9_leaveOut_b18 f1 s3 a b x (I + 1)) (gif (b = -1) (x9_leaveOut_b18 f1 s3 a I r' (I + 1)) (gif (r' < x) (x9_leaveOut_b18 f1 s3 a I r' (I + 1)) (x9_leaveOut_b18 f1 s3 a b x (I + 1)))) := by
      show x9_leaveOut_b18_G _ _ _ _ _ _ s a b x I = _
      unfold x9_leaveOut_b18_G
      rw [gif_t (by rw [ti_lt, h2, e7, hn]; omega), x1]
      simp only [Option.bind_some]
      rw [x2]
      simp only [Option.bind_some]
      rw [x3]
      simp only [Option.bind_some]
      cases lw <;> (simp only []; rw [x4]; simp only [Option.bind_some]; rw [x5]; simp only [Option.bind_some])
    have em : m_leaveOut_b20 (f2 + 1) m a b y I = gif (r' = -1) (m_leaveOut_b20 f2 m2 a b y (I + 1)) (gif (r' < y) (m_leaveOut_b20 f2 m2 a I r' (I + 1)) (m_leaveOut_b20 f2 m2 a b y (I + 1))) := by
      show m_leaveOut_b20_G _ _ _ _ _ m a b y I = _
      unfold m_leaveOut_b20_G
      rw [q_m_wordMany]
      simp only [Option.bind_some]
      rw [gif_t (by rw [ti_lt, h2, ef, hn]; omega), y1]
      simp only [Option.bind_some]
      rw [y2]
      simp only [Option.bind_some]
    rw [ec, em]
    have same := ih (i + 1) s3 m2 (I + 1) b x y f1 f2 (by omega) t1 (by omega) (by omega) A3 e2 h5
    by_cases c : r' = -1
    · rw [gif_t c, gif_t c]; exact same
    · rw [gif_f c, gif_f c]
      have rr' : 0 ≤ r'.toInt ∧ r'.toInt < 100000000 := rr.elim (fun z => absurd z c) id
      have take := ih (i + 1) s3 m2 (I + 1) I r' r' f1 f2 (by omega) t1 (by omega) (by omega) A3 e2 (.inr ⟨rfl, by omega, rr'.1⟩)
      rcases h5 with ⟨rfl, rfl, rfl⟩ | ⟨rfl, h5, h6⟩
      · rw [gif_t rfl, gif_t (by rw [ti_lt, kb]; omega)]; exact take
      · rw [gif_f (by rw [ti_eq, km]; omega)]
        by_cases z : r' < x
        · rw [gif_t z, gif_t z]; exact take
        · rw [gif_f z, gif_f z]; exact same
