/-! LEAVE OUT, the call -/
theorem c_leaveOut {sx sm : Sg} (h : Inv sx sm) (a : Int32) : Call sx sm (x9_leaveOut sx a) (m_leaveOut sm a) := by
  have A := h.2.1.1
  by_cases c : 0 ≤ a.toInt ∧ a.toInt ≤ 1
  · obtain ⟨n, hn⟩ : ∃ n : Nat, (rI sm 43 0 54).toInt = n := ⟨_, (Int.toNat_of_nonneg A.1.1.1).symm⟩
    have n12 : n ≤ 12 := by have : (rI sm 43 0 54).toInt ≤ 12 := A.1.1.2; omega
    have ha : a = 0 ∨ a = 1 := by rw [ti_eq, ti_eq, li_0, li_1]; omega
    obtain ⟨s', m', m2, r, ex0, em0, hl, ef⟩ := leave_loop A.1 hn ha n 0 sx sm 0 (-1) (-1) 100000000 FU FU (by omega) rfl (by show _ < 20000; omega) (by show _ < 20000; omega) A (fun c => rfl) (.inl ⟨rfl, rfl, rfl⟩)
    have ex : x9_leaveOut sx a = some (s', r) := by
      unfold x9_leaveOut x9_leaveOut_G
      rw [gif_f (by rw [ti_lt, li_0]; omega), gif_f (by rw [ti_lt, li_1]; omega)]; exact ex0
    have em : m_leaveOut sm a = some (m2, r) := by
      unfold m_leaveOut m_leaveOut_G
      simp only [q_m_lies, Option.bind_some, gdB0, gdB1, gdbI, gifbI, li_0, li_1]
      rw [gif_t c]; exact em0
    have F := fr_x9_leaveOut _ _ _ ex
    have G := fr_m_leaveOut _ _ _ em
    obtain ⟨m3, hm3, p1, p2⟩ := ok_laysAllWords (s := m') (n := n) (by rw [ef]; exact hn) n12
    have e3 : m3 = m2 := by rw [hl] at hm3; exact (Option.some.inj hm3).symm
    subst e3
    have k43 : ∀ c, rI m3 43 0 c = rI sm 43 0 c := fun c => G.i _ _ _ (nh rfl)
    refine ⟨s', m3, r, ex, em, ⟨InvA_fr F G rfl rfl rfl rfl rfl rfl rfl rfl h.1, ⟨GA_fr F rfl rfl rfl (fun i _ => k43 i) A, ?_, fun w hw => ?_⟩, LogR_fr F G h.log12 rfl rfl rfl rfl h.2.2.1, InvC_fr F G rfl rfl rfl rfl rfl rfl h.2.2.2.1, InvE_fr F G rfl rfl rfl h.2.2.2.2.1, InvF_fr F G rfl (.inl rfl) (.inl ⟨rfl, rfl⟩) (.inl rfl) rfl h.2.2.2.2.2⟩, by rw [F.n 79 0 0 (nh rfl)]; omega⟩
    · rw [p1, ef, k43]; rfl
    · rw [k43, hn] at hw; exact p2 w (by omega)
  · have ex : x9_leaveOut sx a = some (sx, -1) := by
      unfold x9_leaveOut x9_leaveOut_G
      rw [ti_lt, ti_lt, li_0, li_1]
      exact gif_eq (fun _ => rfl) (fun x => gif_eq (fun _ => rfl) (fun y => absurd ⟨by omega, by omega⟩ c))
    have em : m_leaveOut sm a = some (sm, -1) := by
      unfold m_leaveOut m_leaveOut_G
      simp only [q_m_lies, Option.bind_some, gdB0, gdB1, gdbI, gifbI, li_0, li_1]
      rw [gif_f c]
    exact ⟨sx, sm, -1, ex, em, h, by omega⟩
