/-! JUST, FEWEST, MOST, RICHEST -/
theorem q_slot_no {s : Sg} {a b : Int32} (hb : b.toInt < 0 ∨ 24 < b.toInt) : x5_slot s a b = some (s, -1) := by
  unfold x5_slot x5_slot_G
  have k25 : (25 : Int32).toInt = 25 := by decide
  rw [ti_lt, ti_lt, ti_lt, ti_lt, li_0, li_24, k25]
  refine gif_eq (fun _ => rfl) (fun _ => gif_eq (fun _ => gif_eq (fun _ => rfl) (fun c => ?_)) (fun _ => rfl))
  rw [gif_f (by omega)]
theorem RDD_of {sm : Sg} {n : Nat} {C : List Cla} (M : MW (sm.1 43 0)) (hn : (rI sm 43 0 54).toInt = n) : RDD (DF (sm.1 43 0) n (rI sm 43 0 53) C) :=
  ⟨RD_of M hn, by have := M.1.2; show n ≤ 12; have e : (sm.1 43 0 54).toInt = n := hn; omega, M.2.2.2.1.2.2.2.2⟩
theorem cell_pos {D : Dom} {j fr : Nat} {c : Cl4} (h : cD D j fr = some c) (hf : fr ≤ 24) : (0 : Int64) < c.1 := by
  have := (ceC_w j fr c h hf).1
  rw [Int64.lt_iff_toInt_lt, show (0 : Int64).toInt = 0 from rfl]; omega
theorem q_canBeOf {s : Sg} {bars : Int32} {D : Dom} (T : TF s bars D) (n12 : D.n ≤ 12) {J : Int32} {j : Nat} (hJ : J.toInt = j) (hj : j ≤ 24) : x5_canBeOf s J = some (s, bI (cD D j (2 * D.n) ≠ none)) := by
  obtain ⟨v, hv, w⟩ := q_slot (s := s) (a := rI s 5 0 5) (fr := 2 * D.n) (by rw [T.1]; omega) (by omega) hJ hj
  have km : (-1 : Int32).toInt = -1 := by decide
  unfold x5_canBeOf x5_canBeOf_G
  rw [hv]
  simp only [Option.bind_some, gdB0, gdB1]
  rw [gif_f (by rw [ti_eq, w, km]; omega), gd_t (inb_iff.mpr (by rw [w]; omega)), show ix v = 2 * D.n * 25 + j by rw [ix_eq, w]; omega, CR_wy (T.2 (2 * D.n) j (Nat.le_refl _) hj), cmp_gt]
  cases hc : cD D j (2 * D.n) with
  | none => rw [gif_f (show ¬ (0 : Int64) < wy none by decide)]; exact (lf0 (fun x => x rfl))
  | some c => rw [gif_t (show (0 : Int64) < wy (some c) from cell_pos hc (by omega))]; exact lf1 (by simp)
theorem q_leastOfJust {s : Sg} {D : Dom} (T : TF s 0 D) (n12 : D.n ≤ 12) {J : Int32} {j : Nat} (hJ : J.toInt = j) (hj : j ≤ 24) : x5_leastOfJust s J = some (s, match cD D j (2 * D.n) with | none => -1 | some c => c.2.1) := by
  obtain ⟨v, hv, w⟩ := q_slot (s := s) (a := rI s 5 0 5) (fr := 2 * D.n) (by rw [T.1]; omega) (by omega) hJ hj
  have km : (-1 : Int32).toInt = -1 := by decide
  unfold x5_leastOfJust x5_leastOfJust_G
  rw [hv]
  simp only [Option.bind_some]
  have bv : inb v 625 := inb_iff.mpr (by rw [w]; omega)
  have cr := T.2 (2 * D.n) j (Nat.le_refl _) hj
  rw [gif_f (by rw [ti_eq, w, km]; omega), gd_t bv, gd_t bv, show ix v = 2 * D.n * 25 + j by rw [ix_eq, w]; omega, CR_wy cr, cmp_gt]
  cases hc : cD D j (2 * D.n) with
  | none => rw [gif_f (show ¬ (0 : Int64) < wy none by decide)]
  | some c =>
    rw [hc] at cr
    rw [gif_t (show (0 : Int64) < wy (some c) from cell_pos hc (by omega)), (cr.2 rfl).1]
theorem q_costsBy {s : Sg} {D : Dom} {w : Nat} (W : MWd s D) (V : ∀ fr j, fr ≤ 2 * D.n → j ≤ 24 → rI s 64 0 (j * 25 + fr) = cs w (cD D j fr)) {J : Int32} {j : Nat} (hJ : J.toInt = j) (hj : j ≤ 24) : m_costsBy s J = some (s, cs w (cD D j (2 * D.n))) := by
  have n12 := W.1.2.1
  unfold m_costsBy m_costsBy_G
  obtain ⟨lp, e1, e2⟩ := q_last W.1
  rw [e1]
  simp only [Option.bind_some, q_stateAt]
  have u := ti_state (J := J) (F := lp) (j := j) (fr := 2 * D.n) hJ (by rw [e2]; omega) hj (by omega)
  rw [gd_t (inb_iff.mpr (by rw [u]; omega)), show ix (J * 25 + lp + 1) = j * 25 + 2 * D.n by rw [ix_eq, u]; omega, V _ j (Nat.le_refl _) hj]
theorem cs0_no {D : Dom} (R : RDD D) {j fr : Nat} (hj : j ≤ 24) : cs 0 (cD D j fr) = 100000000 ↔ cD D j fr = none := by
  cases hc : cD D j fr with
  | none => exact ⟨fun _ => rfl, fun _ => rfl⟩
  | some c =>
    have b := cD_b R j (by omega) fr c hc
    unfold bnd at b
    constructor
    · intro x
      have x : c.2.1 = 100000000 := x
      rw [x, show (100000000 : Int32).toInt = 100000000 by decide] at b; omega
    · intro x; exact absurd x (by simp)
/-- both sides' tables at the paper's measure -/
theorem sums_both {sx sm : Sg} (h : Inv sx sm) : ∃ lw, ∃ D : Dom, RDD D ∧ x1_lawInForce sx 0 = some (sx, lw) ∧ ok (x9_layPaper sx 0 lw) (fun s' => TF s' 0 D) ∧ ∀ (w : Nat) (l1 : Int32), w ≤ 1 → l1.toInt = w → ok ((m_laysLines sm (rI sm 43 0 53) 1).bind fun s1 => m_laysSums s1 l1) (fun s' => MWd s' D ∧ ∀ fr j, fr ≤ 2 * D.n → j ≤ 24 → rI s' 64 0 (j * 25 + fr) = cs w (cD D j fr)) := by
  obtain ⟨lw, n, C, hl, hn, n12, -, T, hM⟩ := paper_both h
  have R : RDD (DF (sm.1 43 0) n (rI sm 43 0 53) C) := RDD_of h.2.1.1.1 hn
  exact ⟨lw, DF (sm.1 43 0) n (rI sm 43 0 53) C, R, hl, T, fun w l1 hw h1 => ok_bind (ok_mono (hM (rI sm 43 0 53) 1) (fun s1 ⟨a, b⟩ => ok_sums hw h1 R a b))⟩
theorem q_laysCosts (s : Sg) : m_laysCosts s = (m_laysLines s (rI s 43 0 53) 1).bind fun s1 => m_laysSums s1 0 := by
  unfold m_laysCosts m_laysCosts_G
  simp only [gd_t k53'.1, k53'.2, bindv]
theorem c_just {sx sm : Sg} (h : Inv sx sm) (a : Int32) : Call sx sm (x9_just sx a) (m_just sm a) := by
  obtain ⟨lw, D, R, hl, ⟨s3, hs3, T⟩, hM⟩ := sums_both h
  have ex : ∀ r s4, x5_leastOfJust s3 a = some (s4, r) → x9_just sx a = some (s4, r) := by
    intro r s4 hr
    unfold x9_just x9_just_G
    rw [hl]
    simp only [Option.bind_some, bindp]
    cases lw <;> (simp only []; rw [hs3]; exact hr)
  by_cases c : 0 ≤ a.toInt ∧ a.toInt ≤ 24
  · obtain ⟨j, hj⟩ : ∃ j : Nat, a.toInt = j := ⟨_, (Int.toNat_of_nonneg c.1).symm⟩
    obtain ⟨m2, hm2, W, V⟩ := hM 0 0 (by omega) rfl
    have ex' := ex _ _ (q_leastOfJust T R.2.1 hj (by omega))
    have em : m_just sm a = some (m2, match cD D j (2 * D.n) with | none => -1 | some c => c.2.1) := by
      unfold m_just m_just_G
      simp only [q_m_lies, Option.bind_some, gdB0, gdB1, gdbI, gifbI, li_0, li_24, q_laysCosts]
      rw [gif_t c, hm2]
      simp only [Option.bind_some, q_costsBy W V hj (show j ≤ 24 by omega)]
      have z := cs0_no R (j := j) (fr := 2 * D.n) (by omega)
      cases hc : cD D j (2 * D.n) with
      | none => rw [hc] at z; rw [gif_t (z.mpr rfl)]
      | some d => rw [hc] at z; rw [gif_f (fun y => absurd (z.mp y) (by simp))]; rfl
    exact call_scr ex' em (fr_x9_just _ _ _ ex') (fr_m_just _ _ _ em) rfl rfl h
  · have ex' : x9_just sx a = some (s3, -1) := ex _ _ (by
      unfold x5_leastOfJust x5_leastOfJust_G
      rw [q_slot_no (by omega)]
      simp only [Option.bind_some]
      rw [gif_t trivial])
    have em : m_just sm a = some (sm, -1) := by
      unfold m_just m_just_G
      simp only [q_m_lies, Option.bind_some, gdB0, gdB1, gdbI, gifbI, li_0, li_24]
      rw [gif_f c]
    exact call_scr (M := []) ex' em (fr_x9_just _ _ _ ex') fr_rfl rfl rfl h
theorem few_loop {s m : Sg} {D : Dom} (R : RDD D) (T : TF s 0 D) (W : MWd m D) (V : ∀ fr j, fr ≤ 2 * D.n → j ≤ 24 → rI m 64 0 (j * 25 + fr) = cs 0 (cD D j fr)) : ∀ (d j : Nat) (J : Int32) (f1 f2 : Nat), j + d = 25 → J.toInt = j → d < f1 → d < f2 → ∃ r, x9_fewest_b17 f1 s J = some (s, r) ∧ m_fewest_b6 f2 m J = some (m, r) := by
  intro d
  induction d with
  | zero =>
    intro j J f1 f2 h1 h2 h3 h4
    obtain ⟨f1, rfl⟩ : ∃ x, f1 = x + 1 := ⟨f1 - 1, by omega⟩
    obtain ⟨f2, rfl⟩ : ∃ x, f2 = x + 1 := ⟨f2 - 1, by omega⟩
    refine ⟨-1, ?_, ?_⟩
    · show x9_fewest_b17_G _ _ s J = _
      unfold x9_fewest_b17_G; rw [gif_t (by rw [ti_lt, h2, li_24]; omega)]
    · show m_fewest_b6_G _ _ m J = _
      unfold m_fewest_b6_G; rw [gif_t (by rw [ti_lt, h2, li_24]; omega)]
  | succ d ih =>
    intro j J f1 f2 h1 h2 h3 h4
    obtain ⟨f1, rfl⟩ : ∃ x, f1 = x + 1 := ⟨f1 - 1, by omega⟩
    obtain ⟨f2, rfl⟩ : ∃ x, f2 = x + 1 := ⟨f2 - 1, by omega⟩
    obtain ⟨r, r1, r2⟩ := ih (j + 1) (J + 1) f1 f2 (by omega) (by rw [ti_add (by rw [h2, li_1]; omega) (by rw [h2, li_1]; omega), h2, li_1]; omega) (by omega) (by omega)
    have ec : x9_fewest_b17 (f1 + 1) s J = gif (cD D j (2 * D.n) ≠ none) (some (s, J)) (x9_fewest_b17 f1 s (J + 1)) := by
      show x9_fewest_b17_G _ _ s J = _
      unfold x9_fewest_b17_G; rw [gif_f (by rw [ti_lt, h2, li_24]; omega), q_canBeOf T R.2.1 h2 (by omega)]; simp only [Option.bind_some, gdB0, gdB1, gdbI, gifbI]
    have em : m_fewest_b6 (f2 + 1) m J = gif (cs 0 (cD D j (2 * D.n)) = 100000000) (m_fewest_b6 f2 m (J + 1)) (some (m, J)) := by
      show m_fewest_b6_G _ _ m J = _
      unfold m_fewest_b6_G; rw [gif_f (by rw [ti_lt, h2, li_24]; omega), q_costsBy W V h2 (by omega)]; simp only [Option.bind_some]
    rw [ec, em]
    by_cases c : cD D j (2 * D.n) = none
    · rw [gif_f (fun x => x c), gif_t ((cs0_no R (by omega)).mpr c)]; exact ⟨r, r1, r2⟩
    · rw [gif_t c, gif_f (fun x => c ((cs0_no R (by omega)).mp x))]; exact ⟨J, rfl, rfl⟩
theorem c_fewest {sx sm : Sg} (h : Inv sx sm) : Call sx sm (x9_fewest sx) (m_fewest sm) := by
  obtain ⟨lw, D, R, hl, ⟨s3, hs3, T⟩, hM⟩ := sums_both h
  obtain ⟨m2, hm2, W, V⟩ := hM 0 0 (by omega) rfl
  obtain ⟨r, r1, r2⟩ := few_loop R T W V 25 0 0 FU FU rfl rfl (by show _ < 20000; omega) (by show _ < 20000; omega)
  have ex : x9_fewest sx = some (s3, r) := by
    unfold x9_fewest x9_fewest_G
    rw [hl]
    simp only [Option.bind_some]
    cases lw <;> (simp only []; rw [hs3]; exact r1)
  have em : m_fewest sm = some (m2, r) := by
    unfold m_fewest m_fewest_G
    rw [q_laysCosts, hm2]; exact r2
  exact call_scr ex em (fr_x9_fewest _ _ ex) (fr_m_fewest _ _ em) rfl rfl h
theorem most_loop {s m : Sg} {D : Dom} (R : RDD D) (T : TF s 0 D) (W : MWd m D) (V : ∀ fr j, fr ≤ 2 * D.n → j ≤ 24 → rI m 64 0 (j * 25 + fr) = cs 0 (cD D j fr)) : ∀ (d : Nat) (J : Int32) (f1 f2 : Nat), J.toInt = (d : Int) - 1 → d ≤ 25 → d < f1 → d < f2 → ∃ r, x9_most_b18 f1 s J = some (s, r) ∧ m_most_b7 f2 m J = some (m, r) := by
  intro d
  induction d with
  | zero =>
    intro J f1 f2 h2 h1 h3 h4
    obtain ⟨f1, rfl⟩ : ∃ x, f1 = x + 1 := ⟨f1 - 1, by omega⟩
    obtain ⟨f2, rfl⟩ : ∃ x, f2 = x + 1 := ⟨f2 - 1, by omega⟩
    refine ⟨-1, ?_, ?_⟩
    · show x9_most_b18_G _ _ s J = _
      unfold x9_most_b18_G; rw [gif_t (by rw [ti_lt, h2, li_0]; omega)]
    · show m_most_b7_G _ _ m J = _
      unfold m_most_b7_G; rw [gif_t (by rw [ti_lt, h2, li_0]; omega)]
  | succ d ih =>
    intro J f1 f2 h2 h1 h3 h4
    obtain ⟨f1, rfl⟩ : ∃ x, f1 = x + 1 := ⟨f1 - 1, by omega⟩
    obtain ⟨f2, rfl⟩ : ∃ x, f2 = x + 1 := ⟨f2 - 1, by omega⟩
    have hJ : J.toInt = d := by omega
    obtain ⟨r, r1, r2⟩ := ih (J - 1) f1 f2 (by rw [ti_sub (by rw [hJ, li_1]; omega) (by rw [hJ, li_1]; omega), hJ, li_1]) (by omega) (by omega) (by omega)
    have ec : x9_most_b18 (f1 + 1) s J = gif (cD D d (2 * D.n) ≠ none) (some (s, J)) (x9_most_b18 f1 s (J - 1)) := by
      show x9_most_b18_G _ _ s J = _
      unfold x9_most_b18_G; rw [gif_f (by rw [ti_lt, hJ, li_0]; omega), q_canBeOf T R.2.1 hJ (by omega)]; simp only [am1, Option.bind_some, gdB0, gdB1, gdbI, gifbI]
    have em : m_most_b7 (f2 + 1) m J = gif (cs 0 (cD D d (2 * D.n)) = 100000000) (m_most_b7 f2 m (J - 1)) (some (m, J)) := by
      show m_most_b7_G _ _ m J = _
      unfold m_most_b7_G; rw [gif_f (by rw [ti_lt, hJ, li_0]; omega), q_costsBy W V hJ (by omega)]; simp only [am1, Option.bind_some]
    rw [ec, em]
    by_cases c : cD D d (2 * D.n) = none
    · rw [gif_f (fun x => x c), gif_t ((cs0_no R (by omega)).mpr c)]; exact ⟨r, r1, r2⟩
    · rw [gif_t c, gif_f (fun x => c ((cs0_no R (by omega)).mp x))]; exact ⟨J, rfl, rfl⟩
theorem c_most {sx sm : Sg} (h : Inv sx sm) : Call sx sm (x9_most sx) (m_most sm) := by
  obtain ⟨lw, D, R, hl, ⟨s3, hs3, T⟩, hM⟩ := sums_both h
  obtain ⟨m2, hm2, W, V⟩ := hM 0 0 (by omega) rfl
  obtain ⟨r, r1, r2⟩ := most_loop R T W V 25 24 FU FU (by rw [li_24]; omega) (by omega) (by show _ < 20000; omega) (by show _ < 20000; omega)
  have ex : x9_most sx = some (s3, r) := by
    unfold x9_most x9_most_G
    rw [hl]
    simp only [Option.bind_some]
    cases lw <;> (simp only []; rw [hs3]; exact r1)
  have em : m_most sm = some (m2, r) := by
    unfold m_most m_most_G
    rw [q_laysCosts, hm2]; exact r2
  exact call_scr ex em (fr_x9_most _ _ ex) (fr_m_most _ _ em) rfl rfl h
theorem rich_loop {s m : Sg} {D : Dom} (R : RDD D) (T : TF s 0 D) (W : MWd m D) (V : ∀ fr j, fr ≤ 2 * D.n → j ≤ 24 → rI m 64 0 (j * 25 + fr) = cs 1 (cD D j fr)) : ∀ (d j : Nat) (J a b : Int32) (f1 f2 : Nat), j + d = 25 → J.toInt = j → d < f1 → d < f2 → ((a = -1 ∧ b = -100000000) ∨ (a = b ∧ 0 ≤ a.toInt)) → ∃ r, x5_mostPaid_b4 f1 s a J = some (s, r) ∧ m_richest_b23 f2 m b J = some (m, r) := by
  intro d
  have kc : (-100000000 : Int32).toInt = -100000000 := by decide
  have km : (-1 : Int32).toInt = -1 := by decide
  induction d with
  | zero =>
    intro j J a b f1 f2 h1 h2 h3 h4 h5
    obtain ⟨f1, rfl⟩ : ∃ x, f1 = x + 1 := ⟨f1 - 1, by omega⟩
    obtain ⟨f2, rfl⟩ : ∃ x, f2 = x + 1 := ⟨f2 - 1, by omega⟩
    refine ⟨a, ?_, ?_⟩
    · show x5_mostPaid_b4_G _ _ s a J = _
      unfold x5_mostPaid_b4_G; rw [gif_t (by rw [ti_lt, h2, li_24]; omega)]
    · show m_richest_b23_G _ _ _ m b J = _
      unfold m_richest_b23_G; rw [gif_t (by rw [ti_lt, h2, li_24]; omega)]
      rcases h5 with ⟨rfl, rfl⟩ | ⟨rfl, h5⟩
      · rw [gif_t rfl]
      · rw [gif_f (by rw [ti_eq, kc]; omega)]
  | succ d ih =>
    intro j J a b f1 f2 h1 h2 h3 h4 h5
    obtain ⟨f1, rfl⟩ : ∃ x, f1 = x + 1 := ⟨f1 - 1, by omega⟩
    obtain ⟨f2, rfl⟩ : ∃ x, f2 = x + 1 := ⟨f2 - 1, by omega⟩
    have t1 : (J + 1).toInt = (j + 1 : Nat) := by rw [ti_add (by rw [h2, li_1]; omega) (by rw [h2, li_1]; omega), h2, li_1]; omega
    obtain ⟨v, hv, w⟩ := q_slot (s := s) (a := rI s 5 0 5) (fr := 2 * D.n) (by rw [T.1]; omega) (by have := R.2.1; omega) h2 (by omega)
    have bv : inb v 625 := inb_iff.mpr (by have := R.2.1; rw [w]; omega)
    have cr := T.2 (2 * D.n) j (Nat.le_refl _) (by omega)
    have ec : x5_mostPaid_b4 (f1 + 1) s a J = gif ((0 : Int64) < wy (cD D j (2 * D.n))) (x5_mostPaid_b4 f1 s (g_max a (rI s 25 0 (2 * D.n * 25 + j))) (J + 1)) (x5_mostPaid_b4 f1 s a (J + 1)) := by
      show x5_mostPaid_b4_G _ _ s a J = _
      unfold x5_mostPaid_b4_G; rw [gif_f (by rw [ti_lt, h2, li_24]; omega), hv]
      simp only [Option.bind_some, gd_t bv]
      rw [gif_f (by rw [ti_eq, w, km]; omega), show ix v = 2 * D.n * 25 + j by rw [ix_eq, w]; omega, CR_wy cr, cmp_gt]
    have em : m_richest_b23 (f2 + 1) m b J = m_richest_b23 f2 m (g_max b (cs 1 (cD D j (2 * D.n)))) (J + 1) := by
      show m_richest_b23_G _ _ _ m b J = _
      unfold m_richest_b23_G; rw [gif_f (by rw [ti_lt, h2, li_24]; omega), q_costsBy W V h2 (by omega)]; simp only [Option.bind_some, grt]
    rw [ec, em]
    cases hc : cD D j (2 * D.n) with
    | none =>
      rw [gif_f (show ¬ (0 : Int64) < wy none by decide)]
      refine ih (j + 1) (J + 1) a _ f1 f2 (by omega) t1 (by omega) (by omega) ?_
      show (a = -1 ∧ g_max b (-100000000) = -100000000) ∨ (a = g_max b (-100000000) ∧ 0 ≤ a.toInt)
      rcases h5 with ⟨rfl, rfl⟩ | ⟨rfl, h5⟩
      · exact .inl ⟨rfl, by decide⟩
      · refine .inr ⟨?_, h5⟩
        rw [ti_eq, ti_max, kc]; omega
    | some c =>
      have b1 := cD_b R j (by omega) _ c hc
      unfold bnd at b1
      rw [hc] at cr
      rw [gif_t (show (0 : Int64) < wy (some c) from cell_pos hc (by have := R.2.1; omega)), (cr.2 rfl).2.2]
      refine ih (j + 1) (J + 1) _ _ f1 f2 (by omega) t1 (by omega) (by omega) ?_
      show (_ ∧ _) ∨ (g_max a c.2.2.2 = g_max b c.2.2.2 ∧ 0 ≤ (g_max a c.2.2.2).toInt)
      refine .inr ⟨?_, by rw [ti_max]; omega⟩
      rcases h5 with ⟨rfl, rfl⟩ | ⟨rfl, h5⟩
      · rw [ti_eq, ti_max, ti_max, kc, km]; omega
      · rfl
theorem c_richest {sx sm : Sg} (h : Inv sx sm) : Call sx sm (x9_richest sx) (m_richest sm) := by
  obtain ⟨lw, D, R, hl, ⟨s3, hs3, T⟩, hM⟩ := sums_both h
  obtain ⟨m2, hm2, W, V⟩ := hM 1 1 (by omega) rfl
  obtain ⟨r, r1, r2⟩ := rich_loop R T W V 25 0 0 (-1) (-100000000) FU FU rfl rfl (by show _ < 20000; omega) (by show _ < 20000; omega) (.inl ⟨rfl, rfl⟩)
  have ex : x9_richest sx = some (s3, r) := by
    unfold x9_richest x9_richest_G
    rw [hl]
    simp only [Option.bind_some, bindp]
    cases lw <;> (simp only []; rw [hs3]; exact r1)
  have em : m_richest sm = some (m2, r) := by
    unfold m_richest m_richest_G
    rw [gd_t k53'.1, k53'.2]
    obtain ⟨a, ha, hb⟩ : ∃ a, m_laysLines sm (rI sm 43 0 53) 1 = some a ∧ m_laysSums a 1 = some m2 := by
      cases hq : m_laysLines sm (rI sm 43 0 53) 1 with
      | none => rw [hq] at hm2; exact absurd hm2 (by simp)
      | some a => rw [hq] at hm2; exact ⟨a, rfl, hm2⟩
    rw [ha]
    simp only [Option.bind_some]
    rw [hb]; exact r2
  exact call_scr ex em (fr_x9_richest _ _ ex) (fr_m_richest _ _ em) rfl rfl h
