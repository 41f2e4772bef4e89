/-! count -/
theorem k56 : inb 56 5665 ∧ ix 56 = 56 := ik (n := 56) (by omega)
theorem c_count {sx sm : Sg} (h : Inv sx sm) (a : Int32) : Call sx sm (x9_count sx a) (m_count sm a) := by
  have X := h.2.1.1.2.1
  have A4 := h.1.2.2.2
  have T := X.2.2.1
  obtain ⟨n, C, hn, n12, W, ⟨s1, hs1, Td⟩, -⟩ := both_all h.2.1.1 h.2.1.2.1 h.2.1.2.2
  have F1 := fr_x7_readSetting _ _ _ hs1
  obtain ⟨m1, hm1, hMC⟩ := ok_setting h.2.1.1.1 hn h.2.1.2.1 h.2.1.2.2 W
  have G1 := fr_m_laysSetting _ _ hm1
  obtain ⟨s2, m2, r2, hx2, hm2, -⟩ := fit_both h.2.1.1 h.2.1.2.1 h.2.1.2.2
  have F2 := fr_x7_howManyFit _ _ _ hx2
  have G2 := fr_m_allOf _ _ _ hm2
  have tA : ∀ (k : Nat) (x : Int32), x.toInt = k → (a = x ↔ a.toInt = k) := fun k x hx => by rw [ti_eq, hx]
  by_cases c : 0 ≤ a.toInt ∧ a.toInt ≤ 16
  · obtain ⟨k, hk⟩ : ∃ w : Nat, a.toInt = w := ⟨_, (Int.toNat_of_nonneg c.1).symm⟩
    have kk : k ≤ 16 := by omega
    have ea : a = nI k := by rw [ti_eq, hk, nI_ti (by omega)]
    subst ea
    have ne : ∀ x y : Nat, x < 100 → y < 100 → x ≠ y → ¬ nI x = nI y := fun x y hx hy h e => h ((nIq (by omega) (by omega)).mp e)
    unfold x9_count x9_count_G x9_count_b47 x9_count_b47_G m_count m_count_G m_settingLines m_settingLines_G
    rw [hs1, hx2, hm1, hm2]
    simp only [Option.bind_some, bindp, q_m_wordMany, gd_t k55.1, k55.2, gd_t k56.1, k56.2, gd_t k57.1, k57.2]
    rcases (by omega : k = 0 ∨ k = 1 ∨ k = 2 ∨ k = 3 ∨ k = 4 ∨ k = 5 ∨ k = 6 ∨ k = 7 ∨ k = 8 ∨ k = 9 ∨ k = 10 ∨ k = 11 ∨ k = 12 ∨ k = 13 ∨ k = 14 ∨ k = 15 ∨ k = 16) with rfl | rfl | rfl | rfl | rfl | rfl | rfl | rfl | rfl | rfl | rfl | rfl | rfl | rfl | rfl | rfl | rfl
    · rw [gif_t (p := nI 0 < 7) (by decide), gif_t (p := nI 0 < 13) (by decide), gif_t (show nI 0 = 0 from rfl), gif_t (show nI 0 = 0 from rfl)]
      exact call_id h rfl (by rw [show rI sx 1 0 7 = rI sm 43 0 54 from X.1.1])
    · rw [gif_t (p := nI 1 < 7) (by decide), gif_t (p := nI 1 < 13) (by decide), gif_f (show ¬ nI 1 = 0 by decide), gif_f (show ¬ nI 1 = 0 by decide), gif_t (show nI 1 = 1 from rfl), gif_t (show nI 1 = 1 from rfl)]
      refine call_scr (r := rI s1 7 0 4) rfl ?_ F1 G1 rfl rfl h
      rw [show rI m1 10 0 43 = rI s1 7 0 4 by rw [ti_eq, Td.1, hMC.2.2.1.1]]
    · rw [gif_t (p := nI 2 < 7) (by decide), gif_t (p := nI 2 < 13) (by decide), gif_f (show ¬ nI 2 = 0 by decide), gif_f (show ¬ nI 2 = 0 by decide), gif_f (show ¬ nI 2 = 1 by decide), gif_f (show ¬ nI 2 = 1 by decide), gif_t (show nI 2 = 2 from rfl), gif_t (show nI 2 = 2 from rfl)]
      exact call_scr rfl rfl F2 G2 rfl rfl h
    · rw [gif_t (p := nI 3 < 7) (by decide), gif_t (p := nI 3 < 13) (by decide), gif_f (show ¬ nI 3 = 0 by decide), gif_f (show ¬ nI 3 = 0 by decide), gif_f (show ¬ nI 3 = 1 by decide), gif_f (show ¬ nI 3 = 1 by decide), gif_f (show ¬ nI 3 = 2 by decide), gif_f (show ¬ nI 3 = 2 by decide), gif_t (show nI 3 = 3 from rfl), gif_t (show nI 3 = 3 from rfl)]
      exact call_id h rfl (by rw [show rI sx 1 0 10 = rI sm 43 0 55 from X.2.2.2.1.1])
    · rw [gif_t (p := nI 4 < 7) (by decide), gif_t (p := nI 4 < 13) (by decide), gif_f (show ¬ nI 4 = 0 by decide), gif_f (show ¬ nI 4 = 0 by decide), gif_f (show ¬ nI 4 = 1 by decide), gif_f (show ¬ nI 4 = 1 by decide), gif_f (show ¬ nI 4 = 2 by decide), gif_f (show ¬ nI 4 = 2 by decide), gif_f (show ¬ nI 4 = 3 by decide), gif_f (show ¬ nI 4 = 3 by decide), gif_t (show nI 4 = 4 from rfl), gif_t (show nI 4 = 4 from rfl)]
      exact call_id h rfl (by rw [show rI sx 1 0 11 = rI sm 43 0 56 from X.2.2.2.2.1])
    · rw [gif_t (p := nI 5 < 7) (by decide), gif_t (p := nI 5 < 13) (by decide), gif_f (show ¬ nI 5 = 0 by decide), gif_f (show ¬ nI 5 = 0 by decide), gif_f (show ¬ nI 5 = 1 by decide), gif_f (show ¬ nI 5 = 1 by decide), gif_f (show ¬ nI 5 = 2 by decide), gif_f (show ¬ nI 5 = 2 by decide), gif_f (show ¬ nI 5 = 3 by decide), gif_f (show ¬ nI 5 = 3 by decide), gif_f (show ¬ nI 5 = 4 by decide), gif_f (show ¬ nI 5 = 4 by decide), gif_t (show nI 5 = 5 from rfl), gif_t (show nI 5 = 5 from rfl)]
      obtain ⟨hh, g1, g2, g3, -⟩ := h.2.2.1
      exact call_id h rfl (by rw [show rI sx 3 0 3 = rI sm 10 0 46 by rw [ti_eq, g2, g3]])
    · rw [gif_t (p := nI 6 < 7) (by decide), gif_t (p := nI 6 < 13) (by decide), gif_f (show ¬ nI 6 = 0 by decide), gif_f (show ¬ nI 6 = 0 by decide), gif_f (show ¬ nI 6 = 1 by decide), gif_f (show ¬ nI 6 = 1 by decide), gif_f (show ¬ nI 6 = 2 by decide), gif_f (show ¬ nI 6 = 2 by decide), gif_f (show ¬ nI 6 = 3 by decide), gif_f (show ¬ nI 6 = 3 by decide), gif_f (show ¬ nI 6 = 4 by decide), gif_f (show ¬ nI 6 = 4 by decide), gif_f (show ¬ nI 6 = 5 by decide), gif_f (show ¬ nI 6 = 5 by decide), gif_t (show nI 6 = 6 from rfl), gif_t (show nI 6 = 6 from rfl)]
      exact call_id h rfl (by rw [show rI sx 9 0 13 = rI sm 10 0 13 from h.1.1.1])
    · rw [gif_f (p := nI 7 < 7) (by decide), gif_f (p := 11 < nI 7) (by decide), gd_t (by rw [inb_iff]; decide), gif_f (show ¬ nI 7 = 0 by decide), gif_f (show ¬ nI 7 = 1 by decide), gif_f (show ¬ nI 7 = 2 by decide), gif_f (show ¬ nI 7 = 3 by decide), gif_f (show ¬ nI 7 = 4 by decide), gif_f (show ¬ nI 7 = 5 by decide), gif_f (show ¬ nI 7 = 6 by decide), gif_t (show nI 7 = 7 from rfl), gd_t (by rw [inb_iff]; decide)]
      exact call_id h (r := rI sx 41 0 0) rfl (by rw [A4.1]; rfl)
    · rw [gif_f (p := nI 8 < 7) (by decide), gif_f (p := 11 < nI 8) (by decide), gd_t (by rw [inb_iff]; decide), gif_f (show ¬ nI 8 = 0 by decide), gif_f (show ¬ nI 8 = 1 by decide), gif_f (show ¬ nI 8 = 2 by decide), gif_f (show ¬ nI 8 = 3 by decide), gif_f (show ¬ nI 8 = 4 by decide), gif_f (show ¬ nI 8 = 5 by decide), gif_f (show ¬ nI 8 = 6 by decide), gif_f (show ¬ nI 8 = 7 by decide), gif_t (show nI 8 = 8 from rfl), gd_t (by rw [inb_iff]; decide)]
      exact call_id h (r := rI sx 41 0 1) rfl (by rw [A4.2.1]; rfl)
    · rw [gif_f (p := nI 9 < 7) (by decide), gif_f (p := 11 < nI 9) (by decide), gd_t (by rw [inb_iff]; decide), gif_f (show ¬ nI 9 = 0 by decide), gif_f (show ¬ nI 9 = 1 by decide), gif_f (show ¬ nI 9 = 2 by decide), gif_f (show ¬ nI 9 = 3 by decide), gif_f (show ¬ nI 9 = 4 by decide), gif_f (show ¬ nI 9 = 5 by decide), gif_f (show ¬ nI 9 = 6 by decide), gif_f (show ¬ nI 9 = 7 by decide), gif_f (show ¬ nI 9 = 8 by decide), gif_t (show nI 9 = 9 from rfl), gd_t (by rw [inb_iff]; decide)]
      exact call_id h (r := rI sx 41 0 2) rfl (by rw [A4.2.2.1]; rfl)
    · rw [gif_f (p := nI 10 < 7) (by decide), gif_f (p := 11 < nI 10) (by decide), gd_t (by rw [inb_iff]; decide), gif_f (show ¬ nI 10 = 0 by decide), gif_f (show ¬ nI 10 = 1 by decide), gif_f (show ¬ nI 10 = 2 by decide), gif_f (show ¬ nI 10 = 3 by decide), gif_f (show ¬ nI 10 = 4 by decide), gif_f (show ¬ nI 10 = 5 by decide), gif_f (show ¬ nI 10 = 6 by decide), gif_f (show ¬ nI 10 = 7 by decide), gif_f (show ¬ nI 10 = 8 by decide), gif_f (show ¬ nI 10 = 9 by decide), gif_t (show nI 10 = 10 from rfl), gd_t (by rw [inb_iff]; decide)]
      exact call_id h (r := rI sx 41 0 3) rfl (by rw [A4.2.2.2.1]; rfl)
    · rw [gif_f (p := nI 11 < 7) (by decide), gif_f (p := 11 < nI 11) (by decide), gd_t (by rw [inb_iff]; decide), gif_f (show ¬ nI 11 = 0 by decide), gif_f (show ¬ nI 11 = 1 by decide), gif_f (show ¬ nI 11 = 2 by decide), gif_f (show ¬ nI 11 = 3 by decide), gif_f (show ¬ nI 11 = 4 by decide), gif_f (show ¬ nI 11 = 5 by decide), gif_f (show ¬ nI 11 = 6 by decide), gif_f (show ¬ nI 11 = 7 by decide), gif_f (show ¬ nI 11 = 8 by decide), gif_f (show ¬ nI 11 = 9 by decide), gif_f (show ¬ nI 11 = 10 by decide), gif_t (show nI 11 = 11 from rfl), gd_t (by rw [inb_iff]; decide)]
      exact call_id h (r := rI sx 41 0 4) rfl (by rw [A4.2.2.2.2]; rfl)
    · rw [gif_f (p := nI 12 < 7) (by decide), gif_t (p := 11 < nI 12) (by decide), gif_t (p := nI 12 < 13) (by decide)]
      simp only [gif_f (show ¬ nI 12 = 0 by decide), gif_f (show ¬ nI 12 = 1 by decide), gif_f (show ¬ nI 12 = 2 by decide), gif_f (show ¬ nI 12 = 3 by decide), gif_f (show ¬ nI 12 = 4 by decide), gif_f (show ¬ nI 12 = 5 by decide), gif_f (show ¬ nI 12 = 6 by decide), gif_f (show ¬ nI 12 = 7 by decide), gif_f (show ¬ nI 12 = 8 by decide), gif_f (show ¬ nI 12 = 9 by decide), gif_f (show ¬ nI 12 = 10 by decide), gif_f (show ¬ nI 12 = 11 by decide), gif_t (show nI 12 = 12 from rfl)]
      exact call_id h rfl (by rw [show rI sx 1 0 12 = rI sm 43 0 57 from X.2.2.2.2.2])
    · rw [gif_f (p := nI 13 < 7) (by decide), gif_t (p := 11 < nI 13) (by decide), gif_f (p := nI 13 < 13) (by decide), gif_f (p := 16 < nI 13) (by decide), gd_t (by rw [inb_iff]; decide)]
      simp only [gif_f (show ¬ nI 13 = 0 by decide), gif_f (show ¬ nI 13 = 1 by decide), gif_f (show ¬ nI 13 = 2 by decide), gif_f (show ¬ nI 13 = 3 by decide), gif_f (show ¬ nI 13 = 4 by decide), gif_f (show ¬ nI 13 = 5 by decide), gif_f (show ¬ nI 13 = 6 by decide), gif_f (show ¬ nI 13 = 7 by decide), gif_f (show ¬ nI 13 = 8 by decide), gif_f (show ¬ nI 13 = 9 by decide), gif_f (show ¬ nI 13 = 10 by decide), gif_f (show ¬ nI 13 = 11 by decide), gif_f (show ¬ nI 13 = 12 by decide), gif_t (show nI 13 = 13 from rfl)]
      have e : m_termAt sm (nI 13 - 13) = some (sm, 14) := by unfold m_termAt m_termAt_G; rw [gif_t (by decide)]
      rw [e]; simp only [Option.bind_some, gd_t k14.1, k14.2]
      exact call_id h (r := rI sx 15 0 0) rfl (by rw [show rI sx 15 0 0 = rI sm 43 0 14 from T.1])
    · rw [gif_f (p := nI 14 < 7) (by decide), gif_t (p := 11 < nI 14) (by decide), gif_f (p := nI 14 < 13) (by decide), gif_f (p := 16 < nI 14) (by decide), gd_t (by rw [inb_iff]; decide)]
      simp only [gif_f (show ¬ nI 14 = 0 by decide), gif_f (show ¬ nI 14 = 1 by decide), gif_f (show ¬ nI 14 = 2 by decide), gif_f (show ¬ nI 14 = 3 by decide), gif_f (show ¬ nI 14 = 4 by decide), gif_f (show ¬ nI 14 = 5 by decide), gif_f (show ¬ nI 14 = 6 by decide), gif_f (show ¬ nI 14 = 7 by decide), gif_f (show ¬ nI 14 = 8 by decide), gif_f (show ¬ nI 14 = 9 by decide), gif_f (show ¬ nI 14 = 10 by decide), gif_f (show ¬ nI 14 = 11 by decide), gif_f (show ¬ nI 14 = 12 by decide), gif_f (show ¬ nI 14 = 13 by decide), gif_t (show nI 14 = 14 from rfl)]
      have e : m_termAt sm (nI 14 - 13) = some (sm, 51) := by unfold m_termAt m_termAt_G; rw [gif_f (by decide), gif_t (by decide)]
      rw [e]; simp only [Option.bind_some, gd_t k51.1, k51.2]
      exact call_id h (r := rI sx 15 0 1) rfl (by rw [show rI sx 15 0 1 = rI sm 43 0 51 from T.2.1])
    · rw [gif_f (p := nI 15 < 7) (by decide), gif_t (p := 11 < nI 15) (by decide), gif_f (p := nI 15 < 13) (by decide), gif_f (p := 16 < nI 15) (by decide), gd_t (by rw [inb_iff]; decide)]
      simp only [gif_f (show ¬ nI 15 = 0 by decide), gif_f (show ¬ nI 15 = 1 by decide), gif_f (show ¬ nI 15 = 2 by decide), gif_f (show ¬ nI 15 = 3 by decide), gif_f (show ¬ nI 15 = 4 by decide), gif_f (show ¬ nI 15 = 5 by decide), gif_f (show ¬ nI 15 = 6 by decide), gif_f (show ¬ nI 15 = 7 by decide), gif_f (show ¬ nI 15 = 8 by decide), gif_f (show ¬ nI 15 = 9 by decide), gif_f (show ¬ nI 15 = 10 by decide), gif_f (show ¬ nI 15 = 11 by decide), gif_f (show ¬ nI 15 = 12 by decide), gif_f (show ¬ nI 15 = 13 by decide), gif_f (show ¬ nI 15 = 14 by decide), gif_t (show nI 15 = 15 from rfl)]
      have e : m_termAt sm (nI 15 - 13) = some (sm, 52) := by unfold m_termAt m_termAt_G; rw [gif_f (by decide), gif_f (by decide), gif_t (by decide)]
      rw [e]; simp only [Option.bind_some, gd_t k52.1, k52.2]
      exact call_id h (r := rI sx 15 0 2) rfl (by rw [show rI sx 15 0 2 = rI sm 43 0 52 from T.2.2.1])
    · rw [gif_f (p := nI 16 < 7) (by decide), gif_t (p := 11 < nI 16) (by decide), gif_f (p := nI 16 < 13) (by decide), gif_f (p := 16 < nI 16) (by decide), gd_t (by rw [inb_iff]; decide)]
      simp only [gif_f (show ¬ nI 16 = 0 by decide), gif_f (show ¬ nI 16 = 1 by decide), gif_f (show ¬ nI 16 = 2 by decide), gif_f (show ¬ nI 16 = 3 by decide), gif_f (show ¬ nI 16 = 4 by decide), gif_f (show ¬ nI 16 = 5 by decide), gif_f (show ¬ nI 16 = 6 by decide), gif_f (show ¬ nI 16 = 7 by decide), gif_f (show ¬ nI 16 = 8 by decide), gif_f (show ¬ nI 16 = 9 by decide), gif_f (show ¬ nI 16 = 10 by decide), gif_f (show ¬ nI 16 = 11 by decide), gif_f (show ¬ nI 16 = 12 by decide), gif_f (show ¬ nI 16 = 13 by decide), gif_f (show ¬ nI 16 = 14 by decide), gif_f (show ¬ nI 16 = 15 by decide), gif_t (show nI 16 = 16 from rfl)]
      have e : m_termAt sm (nI 16 - 13) = some (sm, 53) := by unfold m_termAt m_termAt_G; rw [gif_f (by decide), gif_f (by decide), gif_f (by decide)]
      rw [e]; simp only [Option.bind_some, gd_t k53.1, k53.2]
      exact call_id h (r := rI sx 15 0 3) rfl (by rw [show rI sx 15 0 3 = rI sm 43 0 53 from T.2.2.2])
  · have ne : ∀ (k : Nat) (x : Int32), x.toInt = k → k ≤ 16 → ¬ a = x := fun k x hx hk e => by rw [e, hx] at c; omega
    have em : m_count sm a = some (sm, -1) := by
      unfold m_count m_count_G
      rw [gif_f (ne 0 0 rfl (by omega)), gif_f (ne 1 1 rfl (by omega)), gif_f (ne 2 2 rfl (by omega)), gif_f (ne 3 3 rfl (by omega)), gif_f (ne 4 4 rfl (by omega)), gif_f (ne 5 5 rfl (by omega)), gif_f (ne 6 6 rfl (by omega)), gif_f (ne 7 7 rfl (by omega)), gif_f (ne 8 8 rfl (by omega)), gif_f (ne 9 9 rfl (by omega)), gif_f (ne 10 10 rfl (by omega)), gif_f (ne 11 11 rfl (by omega)), gif_f (ne 12 12 rfl (by omega)), gif_f (ne 13 13 rfl (by omega)), gif_f (ne 14 14 rfl (by omega)), gif_f (ne 15 15 rfl (by omega)), gif_f (ne 16 16 rfl (by omega))]
    have e47 : x9_count_b47 sx a = some (sx, -1) := by
      unfold x9_count_b47 x9_count_b47_G
      rw [gif_f (ne 0 0 rfl (by omega)), gif_f (ne 1 1 rfl (by omega)), gif_f (ne 2 2 rfl (by omega)), gif_f (ne 3 3 rfl (by omega)), gif_f (ne 4 4 rfl (by omega)), gif_f (ne 5 5 rfl (by omega)), gif_f (ne 6 6 rfl (by omega)), gif_f (ne 7 7 rfl (by omega)), gif_f (ne 8 8 rfl (by omega)), gif_f (ne 9 9 rfl (by omega)), gif_f (ne 10 10 rfl (by omega)), gif_f (ne 11 11 rfl (by omega)), gif_f (ne 12 12 rfl (by omega))]
    have ex : x9_count sx a = some (sx, -1) := by
      unfold x9_count x9_count_G
      rw [e47, ti_lt, ti_lt, ti_lt, ti_lt, li_7, li_11, li_13, li_16]
      refine gif_eq (fun _ => gif_eq (fun _ => rfl) (fun d => absurd d (by omega))) (fun d => gif_eq (fun e => gif_eq (fun _ => rfl) (fun g => gif_eq (fun _ => rfl) (fun i => absurd i (by omega)))) (fun e => absurd e (by omega)))
    exact call_id h ex em
/-! what was seen -/
noncomputable def fv (f : Nat → Int32) (C : List Cla) (n fa j : Nat) : Int32 :=
  if fa = 0 then Int32.ofInt (lwid (wdF f) (ftF f) (frL (EL f (2 * n)) j) (toL (EL f (2 * n)) j)) else if fa = 1 then LCo (FL f n j) C n (toL (EL f (2 * n)) j) else if fa = 2 then LPa (FL f n j) C else Int32.ofInt (lpcs (frL (EL f (2 * n)) j) (toL (EL f (2 * n)) j))
theorem q_tellFact {s : Sg} {f : Nat → Int32} {C : List Cla} {n : Nat} (T : Told s f C n) (n12 : n ≤ 12) (K : rI s 78 0 0 = 1 ∧ rI s 78 0 1 = 3 ∧ rI s 78 0 2 = 4 ∧ rI s 78 0 3 = 2) {a b : Int32} {fa j : Nat} (ha : a.toInt = fa) (hf : fa < 4) (hb : b.toInt = j) (hj : j < (EL f (2 * n)).length) : x7_tellFact s a b = some (s, fv f C n fa j) := by
  have ll : (EL f (2 * n)).length ≤ 2 * n := EL_len
  obtain ⟨t0, tw, tp, tc, ty, tb, tf⟩ := T.2 j hj
  unfold x7_tellFact x7_tellFact_G
  rw [gif_f (by rw [ti_lt, ha, li_0]; omega), gif_t (by rw [ti_lt, ha, ti_ofNat (by omega)]; omega), gd_t (inb_iff.mpr (by omega)), show ix a = fa by rw [ix_eq, ha]; omega, bindp]
  unfold fv
  rcases (by omega : fa = 0 ∨ fa = 1 ∨ fa = 2 ∨ fa = 3) with rfl | rfl | rfl | rfl
  · rw [K.1, q_tellOf (w := 1) T.1 (by omega) rfl (by omega) hb hj, of_ti tw]; rfl
  · rw [K.2.1, q_tellOf (w := 3) T.1 (by omega) rfl (by omega) hb hj, tc]; rfl
  · rw [K.2.2.1, q_tellOf (w := 4) T.1 (by omega) rfl (by omega) hb hj, ty]; rfl
  · rw [K.2.2.2, q_tellOf (w := 2) T.1 (by omega) rfl (by omega) hb hj, of_ti tp]; rfl
/-- what the model lays -/
def FctR (s : Sg) (f : Nat → Int32) (C : List Cla) (n m : Nat) : Prop := ∀ j fa, j < m → fa < 4 → rI s 70 0 (4 * j + fa) = fv f C n fa j
theorem ok_laysFacts {s : Sg} {n : Nat} {C : List Cla} (M : MW (s.1 43 0)) (hn : (rI s 43 0 54).toInt = n) (h1 : rI s 10 0 36 = rI s 43 0 54) (h2 : ∀ w : Nat, (w : Int) < (rI s 43 0 54).toInt → (rI s 57 0 w).toInt = w) (W : LWF (s.1 43 0) C) :
    ok (m_laysFacts s) (fun s' => MC s' (s.1 43 0) C n ∧ FctR s' (s.1 43 0) C n (EL (s.1 43 0) (2 * n)).length) := by
  have R : RD n (wdF (s.1 43 0)) (ftF (s.1 43 0)) := RD_of M hn
  have n12 : (rI s 43 0 54).toInt ≤ 12 := M.1.2
  have ll : (EL (s.1 43 0) (2 * n)).length ≤ 2 * n := EL_len
  unfold m_laysFacts m_laysFacts_G
  refine ok_bind (ok_mono (ok_setting M hn h1 h2 W) (fun s1 h => ?_))
  generalize s.1 43 0 = f at h R ll
  refine ok_loop (K := fun k (p : Sg × Int32) => m_laysFacts_b6 k p.1 p.2) (I := fun p => ∃ j : Nat, j ≤ (EL f (2 * n)).length ∧ p.2.toInt = j ∧ MC p.1 f C n ∧ FctR p.1 f C n j)
    (μ := fun p => 25 - p.2.toInt.toNat) ?_ FU (s1, 0) ⟨0, by omega, rfl, h, fun j fa hj => by omega⟩ (by show _ < 20000; omega)
  rintro k ⟨s2, l⟩ ⟨j, j1, j2, j3, j4⟩ ih
  simp only at j1 j2 j3 j4 ih
  show ok (m_laysFacts_b6_G _ _ _ _ s2 l) _
  unfold m_laysFacts_b6_G
  have t1 : (l + 1).toInt = j + 1 := by rw [ti_add (by rw [j2, li_1]; omega) (by rw [j2, li_1]; omega), j2, li_1]
  have t4 : (4 * l).toInt = 4 * j := by simp (disch := omega) only [Int32.toInt_add, Int32.toInt_sub, Int32.toInt_mul, Int32.toInt_neg, bm32, li_0, li_1, li_2, li_3, li_4, li_5, li_6, li_7, li_8, li_9, li_10, li_11, li_12, li_13, li_14, li_15, li_16, li_17, li_18, li_19, li_20, li_21, li_22, li_23, li_24, li_25, li_26, li_27, li_28, li_29, li_30, li_31, li_32, li_33, li_34, li_35, li_36, li_37, li_38, li_39, li_40, li_41, li_42, li_43, li_44, li_45, li_46, li_47, li_48, li_49, li_50, li_51, li_52, li_53, li_54, li_55, li_56, li_57, li_58, li_59, li_60, li_61, li_62, li_63, li_64, li_65, li_66, li_67, li_68, li_69, li_70, li_71, li_72, li_73, li_74, li_75, li_76, li_77, li_78, li_91, li_93, li_96, li_97, li_99, li_100, li_122, li_138, li_255, li_256, li_400, li_401, li_625, li_800, li_999, li_1000, li_1001, li_1103, li_2000, li_2037, li_2038, li_2039, li_2040, li_2041, li_2042, li_2043, li_2044, li_2045, li_2046, li_2047, li_2048, li_2049, li_2050, li_2051, li_2052, li_2053, li_2054, li_2055, li_2056, li_2057, li_2058, li_2059, li_2060, li_2061, li_2062, li_2091, li_2093, li_2400, li_2865, li_3000, li_3002, li_3003, li_3005, li_3006, li_3007, li_3008, li_3009, li_3010, li_3011, li_3012, li_3013, li_3020, li_3024, li_3025, li_3026, li_3999, li_4000, li_4095, li_4096, li_5665, li_11330, li_12345, li_15625, li_1000000, li_1000003, li_100000000, li_1000000000, ti_lt, ti_eq, inb_iff, ix_eq, j2]
  refine ok_gif (fun c => ?_) (fun c => ?_)
  · rw [ti_lt, j2, j3.2.2.1.1] at c
    have hj : j < (EL f (2 * n)).length := by omega
    refine ok_bind (ok_fr (ok_set R j3 hj j2) (fr_m_takesSet _ _) (fun s3 ⟨p1, p2⟩ F3 => ?_))
    have a1 : (4 * l + 1).toInt = 4 * j + 1 := by rw [ti_add (by rw [t4, li_1]; omega) (by rw [t4, li_1]; omega), t4, li_1]
    have a2 : (4 * l + 2).toInt = 4 * j + 2 := by rw [ti_add (by rw [t4, li_2]; omega) (by rw [t4, li_2]; omega), t4, li_2]
    have a3 : (4 * l + 3).toInt = 4 * j + 3 := by rw [ti_add (by rw [t4, li_3]; omega) (by rw [t4, li_3]; omega), t4, li_3]
    rw [gd_t (inb_iff.mpr (by rw [t4]; omega)), show ix (4 * l) = 4 * j by rw [ix_eq, t4]; omega]
    have mc : ∀ (s4 : Sg) (i : Nat) (v : Int32), MC s4 f C n → MC (wI s4 70 0 i v) f C n := fun s4 i v h => MC_c h (fun c => rI_ne (by omega)) (fun c => rI_ne (by omega)) (fun c => rI_ne (by omega)) (rI_ne (by omega)) (rI_ne (by omega))
    have lc : ∀ (s4 : Sg) (i : Nat) (v : Int32), Lin s4 (wdF f) (ftF f) (nI j) (frL (EL f (2 * n)) j) (toL (EL f (2 * n)) j) (f 53) → Lin (wI s4 70 0 i v) (wdF f) (ftF f) (nI j) (frL (EL f (2 * n)) j) (toL (EL f (2 * n)) j) (f 53) := fun s4 i v h => Lin_c h (fun c _ _ => rI_ne (by omega))
    have lN : ∀ (s4 s5 : Sg), SameN s4 s5 → Lin s4 (wdF f) (ftF f) (nI j) (frL (EL f (2 * n)) j) (toL (EL f (2 * n)) j) (f 53) → Lin s5 (wdF f) (ftF f) (nI j) (frL (EL f (2 * n)) j) (toL (EL f (2 * n)) j) (f 53) := fun s4 s5 e h => Lin_c h (fun c _ _ => e _ _ _ (by omega) (by omega))
    refine ok_bind (ok_mono (ok_costs (mc _ _ _ p1) hj (lc _ _ _ p2)) (fun q3 ⟨q1, q2, qs⟩ => ?_))
    have L3 := lN _ _ qs (lc s3 (4 * j) (rI s3 10 0 38) p2)
    rw [gd_t (inb_iff.mpr (by rw [a1]; omega)), show ix (4 * l + 1) = 4 * j + 1 by rw [ix_eq, a1]; omega]
    refine ok_bind (ok_mono (ok_pays (mc _ _ _ q1) hj (lc _ _ _ L3)) (fun q5 ⟨u1, u2, us⟩ => ?_))
    have L5 := lN _ _ us (lc q3.1 (4 * j + 1) q3.2 L3)
    rw [gd_t (inb_iff.mpr (by rw [a2]; omega)), gd_t (inb_iff.mpr (by rw [a3]; omega)), show ix (4 * l + 2) = 4 * j + 2 by rw [ix_eq, a2]; omega, show ix (4 * l + 3) = 4 * j + 3 by rw [ix_eq, a3]; omega]
    rw [rI_ne (by omega)]
    refine ih (wI (wI q5.1 70 0 (4 * j + 2) q5.2) 70 0 (4 * j + 3) (rI q5.1 10 0 37), l + 1) ⟨j + 1, by omega, by rw [t1]; omega, mc _ _ _ (mc _ _ _ u1), fun j' fa h3 h4 => ?_⟩ (by simp only [t1, j2]; omega)
    simp only []
    by_cases q : j' = j
    · subst q
      unfold fv
      rcases (by omega : fa = 0 ∨ fa = 1 ∨ fa = 2 ∨ fa = 3) with rfl | rfl | rfl | rfl
      · rw [rI_ne (by omega), rI_ne (by omega), us _ _ _ (by omega) (by omega), rI_ne (by omega), qs _ _ _ (by omega) (by omega), rI_eq (by omega), of_ti p2.2.1]; rfl
      · rw [rI_ne (by omega), rI_ne (by omega), us _ _ _ (by omega) (by omega), rI_eq rfl, q2]; rfl
      · rw [rI_ne (by omega), rI_eq rfl, u2]; rfl
      · rw [rI_eq rfl, of_ti L5.1]; rfl
    · rw [rI_ne (by omega), rI_ne (by omega), us _ _ _ (by omega) (by omega), rI_ne (by omega), qs _ _ _ (by omega) (by omega), rI_ne (by omega), F3.i 70 0 _ (nh rfl)]
      exact j4 j' fa (by omega) h4
  · rw [ti_lt, j2, j3.2.2.1.1] at c
    rw [show j = (EL f (2 * n)).length by omega] at j4
    exact ok_some ⟨j3, j4⟩
