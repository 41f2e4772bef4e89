/-! COMPARE -/
theorem MD_57 {s : Sg} {n : Nat} {wd ft kd : Nat → Int32} {v : Int32} (h : MD s n wd ft kd) : MD (wI s 43 0 57 v) n wd ft kd :=
  ⟨by rw [rI_ne (by omega)]; exact h.1, h.2.1, fun w hw => by
    obtain ⟨u, h1, h2, h3, h4, h5⟩ := h.2.2 w hw
    exact ⟨u, h1, by rw [rI_ne (by omega)]; exact h2, by rw [rI_ne (by omega)]; exact h3, by rw [rI_ne (by omega)]; exact h4, by rw [rI_ne (by omega)]; exact h5⟩⟩
/-- the law of a number on both sides -/
theorem law_of {sx sm : Sg} (A : GA sx 0 (sm.1 43 0)) {a : Int32} (h : -1 ≤ a.toInt ∧ a.toInt < (rI sm 43 0 56).toInt) : ∃ lw C, x1_lawOf sx 0 a = some (sx, lw) ∧ LWX sx lw C ∧ LWM (wI sm 43 0 57 a) C := by
  obtain ⟨M, X, L⟩ := A
  have e11 : rI sx 1 0 11 = rI sm 43 0 56 := X.2.2.2.2.1
  have m1 : (rI sm 43 0 56).toInt ≤ 6 := M.2.2.2.2.2.1.2
  unfold x1_lawOf x1_lawOf_G
  by_cases c : a.toInt = -1
  · refine ⟨0, [], by rw [gif_t (by rw [ti_lt, c]; decide)], .inl ⟨rfl, rfl⟩, .inl ⟨by rw [rI_eq rfl]; exact c, rfl⟩⟩
  · obtain ⟨l, hl⟩ : ∃ l : Nat, a.toInt = l := ⟨_, (Int.toNat_of_nonneg (by omega)).symm⟩
    obtain ⟨t, t1, t2, t3, C, wf, LC, LM⟩ := L l (by show (l : Int) < (rI sm 43 0 56).toInt; omega)
    refine ⟨t + 1, C, ?_, .inr ⟨t, rfl, LC, wf⟩, .inr ⟨l, by omega, by rw [rI_eq rfl]; exact hl, ?_, wf⟩⟩
    · rw [gif_f (by rw [ti_lt, hl, li_0]; omega), gif_t (by rw [ti_lt, e11]; omega), gif_t (by rw [ti_lt, hl, li_6]; omega), gd_t (inb_iff.mpr (by omega)), show ix a = l by rw [ix_eq, hl]; omega, t3]
    · have e1 : rI (wI sm 43 0 57 a) 43 0 (58 + l) = sm.1 43 0 (58 + l) := rI_ne (by omega)
      have e2 : (fun k => rI (wI sm 43 0 57 a) 43 0 (65 + 400 * l + k)) = fun k => sm.1 43 0 (65 + 400 * l + k) := funext fun k => rI_ne (by omega)
      have e3 : (fun k => rI (wI sm 43 0 57 a) 43 0 (2865 + 400 * l + k)) = fun k => sm.1 43 0 (2865 + 400 * l + k) := funext fun k => rI_ne (by omega)
      rw [e1, e2, e3]; exact LM
theorem c_compare {sx sm : Sg} (h : Inv sx sm) (a : Int32) : Call sx sm (x9_compare sx a) (m_compare sm a) := by
  have A := h.2.1.1
  have X := A.2.1
  have M := A.1
  have e11 : rI sx 1 0 11 = rI sm 43 0 56 := X.2.2.2.2.1
  by_cases c : -1 ≤ a.toInt ∧ a.toInt < (rI sm 43 0 56).toInt
  · obtain ⟨lw, C, h1, h2, h3⟩ := law_of A c
    obtain ⟨n, hn⟩ : ∃ n : Nat, (rI sm 43 0 54).toInt = n := ⟨_, (Int.toNat_of_nonneg M.1.1).symm⟩
    have R : RDD (DF (sm.1 43 0) n (rI sm 43 0 53) C) := RDD_of M hn
    obtain ⟨s3, hs3, T⟩ := paper_x A hn h2 (rI sm 43 0 53) 0
    obtain ⟨⟨s4, r⟩, hr, e4, br⟩ := ok_bestCosts R T
    simp only at e4 br
    have W2 : MWd (wI sm 43 0 57 a) (DF (sm.1 43 0) n (rI sm 43 0 53) C) := ⟨MD_57 (MD_of M hn h.2.1.2.1 h.2.1.2.2), h3, rI_ne (by omega), rI_ne (by omega)⟩
    obtain ⟨m1, hm1, W1, L1⟩ := ok_laysLines (ask := 1) W2 R.1
    have hm1' : m_laysLines (wI sm 43 0 57 a) (rI (wI sm 43 0 57 a) 43 0 53) 1 = some m1 := by rw [rI_ne (by omega)]; exact hm1
    obtain ⟨⟨m2, u⟩, hu, bu, -⟩ := ok_bestNow R hm1' W1 L1
    simp only at bu
    have e : u = r := Bst_u bu br
    subst e
    have ex : x9_compare sx a = some (s4, u) := by
      unfold x9_compare x9_compare_G
      simp only [q_x1_canForce, Option.bind_some, gdB0, gdB1, gdbI, gifbI, e11]
      rw [gif_t c, h1]
      have lp : x9_layPaper sx 0 lw = some s3 := by rw [q_layPaper, X.2.2.1.2.2.2]; exact hs3
      simp only [Option.bind_some, bindp]
      cases lw <;> (simp only []; rw [lp]; exact hr)
    have em : m_compare sm a = some (wI m2 43 0 57 (rI sm 43 0 57), u) := by
      unfold m_compare m_compare_G
      simp only [q_m_isLaw M.2.2.2.2.2.1.1, Option.bind_some, gdB0, gdB1, gdbI, gifbI, gd_t k57.1, k57.2]
      rw [gif_t c, hu]; rfl
    have Gb := fr_m_bestNow _ _ hu
    have G : Fr FP_m_bestNow sm (wI m2 43 0 57 (rI sm 43 0 57)) := by
      intro k i c' hn'
      obtain ⟨g1, g2, g3⟩ := Gb k i c' hn'
      refine ⟨?_, g2, g3⟩
      by_cases e : k = 43 ∧ i = 0 ∧ c' = 57
      · obtain ⟨rfl, rfl, rfl⟩ := e
        show rI (wI m2 43 0 57 (rI sm 43 0 57)) 43 0 57 = rI sm 43 0 57
        rw [rI_eq rfl]
      · show rI (wI m2 43 0 57 (rI sm 43 0 57)) k i c' = rI sm k i c'
        rw [rI_ne (by omega)]
        have : rI m2 k i c' = rI (wI sm 43 0 57 a) k i c' := g1
        rw [this, rI_ne (by omega)]
    exact call_scr ex em (fr_x9_compare _ _ _ ex) G rfl rfl h
  · have ex : x9_compare sx a = some (sx, -1) := by
      unfold x9_compare x9_compare_G
      simp only [q_x1_canForce, Option.bind_some, gdB0, gdB1, gdbI, gifbI, e11]
      rw [gif_f c]
    have em : m_compare sm a = some (sm, -1) := by
      unfold m_compare m_compare_G
      simp only [q_m_isLaw M.2.2.2.2.2.1.1, Option.bind_some, gdB0, gdB1, gdbI, gifbI]
      rw [gif_f c]
    exact ⟨sx, sm, -1, ex, em, h, by omega⟩
