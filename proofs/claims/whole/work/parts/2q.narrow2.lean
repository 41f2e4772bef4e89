/-! NARROW, joined -/
theorem nar_loop {L : Int32} {l : Nat} (hL : L.toInt = l) (l24 : l ≤ 24) : ∀ (d j : Nat) (sx sm : Sg) (J : Int32) (f1 f2 : Nat), j + d = 61 → J.toInt = j → d < f1 → d < f2 → Inv sx sm → Call sx sm (x9_narrow_b18 f1 sx L J) (m_narrow_b15 f2 sm L J) := by
  intro d
  induction d with
  | zero =>
    intro j sx sm J f1 f2 h1 h2 h3 h4 h
    obtain ⟨f1, rfl⟩ : ∃ x, f1 = x + 1 := ⟨f1 - 1, by omega⟩
    obtain ⟨f2, rfl⟩ : ∃ x, f2 = x + 1 := ⟨f2 - 1, by omega⟩
    have e60 : rI sx 77 0 3 = 60 := h.2.2.2.2.2.2.1.2.2.2
    refine ⟨sx, sm, -1, ?_, ?_, h, by omega⟩
    · show x9_narrow_b18_G _ _ _ _ sx L J = _
      unfold x9_narrow_b18_G
      rw [gd_t (inb_iff.mpr (by rw [li_3]; omega)), show ix 3 = 3 by rw [ix_eq, li_3]; rfl, e60, gif_t (by rw [ti_lt, h2, li_60]; omega)]
    · show m_narrow_b15_G _ _ _ sm L J = _
      unfold m_narrow_b15_G
      rw [gif_t (by rw [ti_lt, h2, li_60]; omega)]
  | succ d ih =>
    intro j sx sm J f1 f2 h1 h2 h3 h4 h
    obtain ⟨f1, rfl⟩ : ∃ x, f1 = x + 1 := ⟨f1 - 1, by omega⟩
    obtain ⟨f2, rfl⟩ : ∃ x, f2 = x + 1 := ⟨f2 - 1, by omega⟩
    have e60 : rI sx 77 0 3 = 60 := h.2.2.2.2.2.2.1.2.2.2
    obtain ⟨lw, n, C, hl, hn, n12, hX, -, hM⟩ := paper_both h
    obtain ⟨s3, hs3, T⟩ := hX J 1
    obtain ⟨m1, hm1, W1, L1⟩ := hM J 0
    obtain ⟨⟨m2, v⟩, hm2, hv⟩ := ok_isBy hL l24 W1 L1
    simp only at hv
    have F := fr_x5_layOut _ _ _ _ _ _ hs3
    have G1 := fr_m_laysLines _ _ _ _ hm1
    have G2 := fr_m_isBy _ _ _ hm2
    have I1 : Inv s3 m1 := Inv_scr F G1 rfl rfl h
    have I2 : Inv s3 m2 := Inv_scr (L := []) fr_rfl G2 rfl rfl I1
    have eN : rN s3 79 0 0 = rN sx 79 0 0 := F.n _ _ _ (nh rfl)
    have ec : x9_narrow_b18 (f1 + 1) sx L J = gif (∃ j, j ≤ l ∧ cD (DF (sm.1 43 0) n J C) j (2 * (DF (sm.1 43 0) n J C).n) ≠ none) (some (s3, J)) (x9_narrow_b18 f1 s3 L (J + 1)) := by
      show x9_narrow_b18_G _ _ _ _ sx L J = _
      unfold x9_narrow_b18_G
      rw [gd_t (inb_iff.mpr (by rw [li_3]; omega)), show ix 3 = 3 by rw [ix_eq, li_3]; rfl, e60, gif_f (by rw [ti_lt, h2, li_60]; omega), hl]
      simp only [Option.bind_some]
      cases lw <;> (simp only []; rw [hs3]; simp only [Option.bind_some]; rw [q_atMost T n12 hL l24]; simp only [Option.bind_some, gdB0, gdB1, gdbI, gifbI])
    have em : m_narrow_b15 (f2 + 1) sm L J = gif (∃ j, j ≤ l ∧ cD (DF (sm.1 43 0) n J C) j (2 * (DF (sm.1 43 0) n J C).n) ≠ none) (some (m2, J)) (m_narrow_b15 f2 m2 L (J + 1)) := by
      show m_narrow_b15_G _ _ _ sm L J = _
      unfold m_narrow_b15_G
      rw [gif_f (by rw [ti_lt, h2, li_60]; omega), hm1]
      simp only [Option.bind_some]
      rw [hm2]
      simp only [Option.bind_some]
      rw [hv, gifbI]
    rw [ec, em]
    by_cases c : ∃ j, j ≤ l ∧ cD (DF (sm.1 43 0) n J C) j (2 * (DF (sm.1 43 0) n J C).n) ≠ none
    · rw [gif_t c, gif_t c]; exact ⟨s3, m2, J, rfl, rfl, I2, by omega⟩
    · rw [gif_f c, gif_f c]
      exact (ih (j + 1) s3 m2 (J + 1) f1 f2 (by omega) (by rw [ti_add (by rw [h2, li_1]; omega) (by rw [h2, li_1]; omega), h2, li_1]; omega) (by omega) (by omega) I2).re eN
theorem c_narrow {sx sm : Sg} (h : Inv sx sm) (a : Int32) : Call sx sm (x9_narrow sx a) (m_narrow sm a) := by
  have e10 : rI sx 76 0 3 = 10 := h.2.2.2.2.2.1.2.2.2
  by_cases c : 0 ≤ a.toInt ∧ a.toInt ≤ 24
  · obtain ⟨l, hl⟩ : ∃ j : Nat, a.toInt = j := ⟨_, (Int.toNat_of_nonneg c.1).symm⟩
    have ex : x9_narrow sx a = x9_narrow_b18 FU sx a 10 := by
      unfold x9_narrow x9_narrow_G
      rw [gif_f (by rw [ti_lt, li_0]; omega), gif_f (by rw [ti_lt, li_24]; omega), gd_t (inb_iff.mpr (by rw [li_3]; omega)), show ix 3 = 3 by rw [ix_eq, li_3]; rfl, e10]
    have em : m_narrow sm a = m_narrow_b15 FU sm a 10 := by
      unfold m_narrow m_narrow_G
      simp only [q_m_lies, Option.bind_some, gdB0, gdB1, gdbI, gifbI, li_0, li_24]
      rw [gif_t c]
    rw [ex, em]
    exact nar_loop hl (by omega) 51 10 sx sm 10 FU FU rfl rfl (by show _ < 20000; omega) (by show _ < 20000; omega) h
  · have ex : x9_narrow sx a = some (sx, -1) := by
      unfold x9_narrow x9_narrow_G
      rw [ti_lt, ti_lt, li_0, li_24]
      exact gif_eq (fun _ => rfl) (fun x => gif_eq (fun _ => rfl) (fun y => absurd ⟨by omega, by omega⟩ c))
    have em : m_narrow sm a = some (sm, -1) := by
      unfold m_narrow m_narrow_G
      simp only [q_m_lies, Option.bind_some, gdB0, gdB1, gdbI, gifbI, li_0, li_24]
      rw [gif_f c]
    exact ⟨sx, sm, -1, ex, em, h, by omega⟩
