/-! LAW -/
theorem isB_oI (o : Bool) : isB (oI o) := by
  cases o with
  | false => exact .inl rfl
  | true => exact .inr rfl
def tpm (sm : Sg) : Nat → Int32 := fun i => rI sm 48 0 i
theorem x_reads {sx sm : Sg} (h : Inv sx sm) (o : Bool) {N : Nat} (hN : (rI sm 10 0 13).toInt = N) : ok (x6_readText sx (rI sx 9 0 13) (oI o)) (TXR (tkP (toks (tpm sm) N 402 0) N) o (pTxt (tkS (toks (tpm sm) N 402 0)) o 14 0 [] 0 0)) := by
  have N4 : N ≤ 400 := by have := h.1.1.2.2; omega
  have e13 : rI sx 9 0 13 = nI N := by rw [h.1.1.1, ti_eq, nI_ti (by omega)]; exact hN
  have r36 : rN sx 36 0 0 = 512 := h.2.2.2.2.2.2.2.2.1.1
  obtain ⟨K, hT⟩ := TK_of (t := tpm sm) N4
  unfold x6_readText x6_readText_G x8_clear x8_clear_G
  simp only [gd_t (isB_oI o), gdB0, Option.bind_some]
  have mm : g_max 0 (g_min (rI sx 9 0 13) (Int32.ofNat 400)) = nI N := by
    rw [e13]
    unfold g_max g_min
    rw [if_neg (show ¬ Int32.ofNat 400 < nI N by rw [ti_lt, nI_ti (by omega), ti_ofNat (by omega)]; omega)]
    by_cases c : (0 : Int32) < nI N
    · rw [if_pos c]
    · rw [if_neg c]
      rw [ti_lt, nI_ti (by omega), li_0] at c
      rw [ti_eq, nI_ti (by omega), li_0]; omega
  rw [mm]
  generalize hs5 : wI (wI (wI (wI (wI (wI (wI sx 6 0 5 (oI o)) 6 0 3 0) 6 0 4 0) 6 0 6 (-1)) 8 0 6 0) 8 0 7 0) 8 0 8 0 = s5
  have kp : ∀ k i c, k ≠ 6 → k ≠ 8 → rI s5 k i c = rI sx k i c := fun k i c h1 h2 => by rw [← hs5]; simp (disch := omega) only [rI_ne]
  obtain ⟨s6, e6, tx⟩ := x_cut (s := s5) (t := tpm sm) N4 (fun i hi => by rw [kp _ _ _ (by omega) (by omega)]; exact (h.1.2.1 i (by omega)).1)
  have F := fr_x6_cut _ _ s6 e6
  have n6 : ∀ k i c, k ≠ 28 → k ≠ 29 → rI s6 k i c = rI s5 k i c := fun k i c h1 h2 => F.i k i c (by intro x; simp [hit] at x; omega)
  have nn : rN s6 36 0 0 = 512 := by
    have : rN s6 36 0 0 = rN s5 36 0 0 := F.n 36 0 0 (by intro x; simp [hit] at x)
    rw [this, ← hs5]; exact r36
  rw [e6]
  simp only [Option.bind_some]
  refine x_text K ⟨tx, ?_, ?_, ?_, ?_, nn, ?_⟩ ?_
  · rw [n6 _ _ _ (by omega) (by omega), ← hs5]; simp (disch := omega) only [rI_ne, rI_eq]
  · rw [n6 _ _ _ (by omega) (by omega), ← hs5]; simp (disch := omega) only [rI_ne, rI_eq]; rfl
  · rw [n6 _ _ _ (by omega) (by omega), ← hs5]; simp (disch := omega) only [rI_ne, rI_eq]; rfl
  · rw [n6 _ _ _ (by omega) (by omega), ← hs5]; simp (disch := omega) only [rI_ne, rI_eq]; rfl
  · rw [n6 _ _ _ (by omega) (by omega), ← hs5]; simp (disch := omega) only [rI_ne, rI_eq]; exact .inl rfl
  · rw [n6 _ _ _ (by omega) (by omega), ← hs5]; simp (disch := omega) only [rI_ne, rI_eq]
theorem mo_reads {sx sm : Sg} (h : Inv sx sm) (o : Bool) {N : Nat} (hN : (rI sm 10 0 13).toInt = N) : ok (m_readsAs sm (oI o)) (fun y => TMR (tkS (toks (tpm sm) N 402 0)) (tkP (toks (tpm sm) N 402 0) N) (toks (tpm sm) N 402 0).length o (pTxt (tkS (toks (tpm sm) N 402 0)) o 14 0 [] 0 0) y ∧ rI y.1 10 0 13 = 0 ∧ rI y.1 10 0 18 = nI (toks (tpm sm) N 402 0).length) := by
  have N4 : N ≤ 400 := by have := h.1.1.2.2; omega
  obtain ⟨K, hT⟩ := TK_of (t := tpm sm) N4
  have core : ∀ s2 : Sg, (∀ k i c, ¬ (k = 10 ∧ 8 ≤ c ∧ c ≤ 10) → rI s2 k i c = rI sm k i c) → rI s2 10 0 10 = oI o → rI s2 10 0 8 = nI (lo o) → rI s2 10 0 9 = nI (hi o) → ok (m_reads s2) (fun y => TMR (tkS (toks (tpm sm) N 402 0)) (tkP (toks (tpm sm) N 402 0) N) (toks (tpm sm) N 402 0).length o (pTxt (tkS (toks (tpm sm) N 402 0)) o 14 0 [] 0 0) y ∧ rI y.1 10 0 13 = 0 ∧ rI y.1 10 0 18 = nI (toks (tpm sm) N 402 0).length) := by
    intro s2 k2 a10 a8 a9
    have e13 : rI s2 10 0 13 = nI N := by rw [k2 _ _ _ (by omega), ti_eq, nI_ti (by omega)]; exact hN
    unfold m_reads m_reads_G
    rw [e13]
    obtain ⟨s1, e1, tm, t18⟩ := mo_splits (s := s2) (t := tpm sm) N4 ⟨fun i hi => by rw [k2 _ _ _ (by omega)]; rfl, fun i hi => by rw [k2 _ _ _ (by omega)]; exact h.2.2.2.2.2.2.2.2.2 i hi⟩
    have F := fr_m_splits _ _ s1 e1
    have n1 : ∀ c, c ≠ 18 → rI s1 10 0 c = rI s2 10 0 c := fun c hc => F.i 10 0 c (by intro x; simp [hit] at x; omega)
    rw [e1]
    simp only [Option.bind_some]
    generalize hs6 : wI (wI (wI (wI (wI s1 10 0 13 0) 10 0 19 0) 10 0 20 0) 10 0 24 0) 10 0 21 (-1) = s6
    have kp : ∀ k i c, ¬ (k = 10 ∧ (c = 13 ∨ c = 19 ∨ c = 20 ∨ c = 24 ∨ c = 21)) → rI s6 k i c = rI s1 k i c := fun k i c hn => by rw [← hs6]; simp (disch := omega) only [rI_ne]
    have M6 : MS s6 (tkS (toks (tpm sm) N 402 0)) (tkP (toks (tpm sm) N 402 0) N) (toks (tpm sm) N 402 0).length o 0 0 0 := by
      refine ⟨fun k hk => ?_, ?_, ?_, ?_, ?_, ?_, ?_, ?_⟩
      · rw [kp _ _ _ (by omega), kp _ _ _ (by omega), kp _ _ _ (by omega)]; exact tm k hk
      · rw [kp _ _ _ (by omega), n1 _ (by omega)]; exact a10
      · rw [kp _ _ _ (by omega), n1 _ (by omega)]; exact a8
      · rw [kp _ _ _ (by omega), n1 _ (by omega)]; exact a9
      · rw [← hs6]; simp (disch := omega) only [rI_ne, rI_eq]; rfl
      · rw [← hs6]; simp (disch := omega) only [rI_ne, rI_eq]; rfl
      · rw [← hs6]; simp (disch := omega) only [rI_ne, rI_eq]; rfl
      · rw [← hs6]; simp (disch := omega) only [rI_ne, rI_eq]
    have T18 : rI s6 10 0 18 = nI (toks (tpm sm) N 402 0).length := by rw [kp _ _ _ (by omega)]; exact t18
    have T13 : rI s6 10 0 13 = 0 := by rw [← hs6]; simp (disch := omega) only [rI_ne, rI_eq]
    obtain ⟨y, ey, hy⟩ := m_text K hT (s := s6) ⟨0, by omega, M6, fun _ => ⟨rfl, trivial⟩⟩ T18
    obtain ⟨s7, e7, ey2⟩ := Option.bind_eq_some_iff.mp ey
    have F7 := fr_m_readOne _ s7 e7
    have F8 := fr_m_reads_b39 FU _ _ y ey2
    refine ⟨y, ey, hy, ?_, ?_⟩
    · have a : rI y.1 10 0 13 = rI s7 10 0 13 := F8.i 10 0 13 (by intro x; simp [hit] at x)
      have b : rI s7 10 0 13 = rI s6 10 0 13 := F7.i 10 0 13 (by intro x; simp [hit] at x)
      rw [a, b, T13]
    · have a : rI y.1 10 0 18 = rI s7 10 0 18 := F8.i 10 0 18 (by intro x; simp [hit] at x)
      have b : rI s7 10 0 18 = rI s6 10 0 18 := F7.i 10 0 18 (by intro x; simp [hit] at x)
      rw [a, b, T18]
  have fin : ∀ (x : Option (Sg × Int32)), ok x (fun y => TMR (tkS (toks (tpm sm) N 402 0)) (tkP (toks (tpm sm) N 402 0) N) (toks (tpm sm) N 402 0).length o (pTxt (tkS (toks (tpm sm) N 402 0)) o 14 0 [] 0 0) y ∧ rI y.1 10 0 13 = 0 ∧ rI y.1 10 0 18 = nI (toks (tpm sm) N 402 0).length) → ok (x.bind fun q3 => gd (isB q3.2) (some (q3.1, q3.2))) (fun y => TMR (tkS (toks (tpm sm) N 402 0)) (tkP (toks (tpm sm) N 402 0) N) (toks (tpm sm) N 402 0).length o (pTxt (tkS (toks (tpm sm) N 402 0)) o 14 0 [] 0 0) y ∧ rI y.1 10 0 13 = 0 ∧ rI y.1 10 0 18 = nI (toks (tpm sm) N 402 0).length) := by
    intro x hx
    refine ok_bind (ok_mono hx (fun y hy => ?_))
    have b : isB y.2 := by
      obtain ⟨h1, -⟩ := hy
      unfold TMR at h1
      cases hR : pTxt (tkS (toks (tpm sm) N 402 0)) o 14 0 [] 0 0 with
      | inr e => rw [hR] at h1; exact .inl h1.1
      | inl L => rw [hR] at h1; exact .inr h1.1
    rw [gd_t b]
    exact ok_some hy
  unfold m_readsAs m_readsAs_G m_readsAs_b17 m_readsAs_b17_G
  rw [gd_t (isB_oI o)]
  cases o with
  | false =>
    rw [gif_t (show oI false = 0 from rfl), gif_t (show oI false = 0 from rfl)]
    exact fin _ (core _ (fun k i c hn => by rw [rI_ne (by omega), rI_ne (by omega), rI_ne (by omega)]) (by rw [rI_ne (by omega), rI_ne (by omega), rI_eq rfl]) (by rw [rI_ne (by omega), rI_eq rfl]; rfl) (by rw [rI_eq rfl]; rfl))
  | true =>
    rw [gif_f (show ¬ oI true = 0 by decide), gif_f (show ¬ oI true = 0 by decide)]
    exact fin _ (core _ (fun k i c hn => by rw [rI_ne (by omega), rI_ne (by omega), rI_ne (by omega)]) (by rw [rI_ne (by omega), rI_ne (by omega), rI_eq rfl]) (by rw [rI_ne (by omega), rI_eq rfl]; rfl) (by rw [rI_eq rfl]; rfl))
/-- what stands behind a reading -/
theorem Inv_read {sx sm s1 m1 : Sg} (h : Inv sx sm) (F : Fr FP_x6_readText sx s1) (G : Fr FP_m_readsAs sm m1) (hf : rI s1 6 0 6 = rI m1 10 0 14) (h13 : rI m1 10 0 13 = 0) (hn : rN s1 36 0 0 = 512) : Inv (wI s1 9 0 13 0) m1 := by
  have F' : Fr ((9, 1, 14) :: FP_x6_readText) sx (wI s1 9 0 13 0) := fr_wI (F.mono (fun k i c x => .inr x)) (.inl ⟨rfl, .inr rfl, .inr rfl⟩)
  refine ⟨?_, InvB_fr F' G rfl rfl rfl rfl rfl h.2.1, LogR_fr F' G h.log12 rfl rfl rfl rfl h.2.2.1, InvC_fr F' G rfl rfl rfl rfl rfl rfl h.2.2.2.1, InvE_fr F' G rfl rfl rfl h.2.2.2.2.1, InvF_fr F' G rfl (.inr hn) (.inl ⟨rfl, rfl⟩) (.inl rfl) rfl h.2.2.2.2.2⟩
  obtain ⟨a1, a2, a3, a4⟩ := h.1
  have x9 : ∀ c, c ≠ 13 → rI (wI s1 9 0 13 0) 9 0 c = rI sx 9 0 c := fun c hc => by rw [rI_ne (by omega)]; exact F.i 9 0 c (by intro x; simp [hit] at x)
  have x41 : ∀ c, rI (wI s1 9 0 13 0) 41 0 c = rI sx 41 0 c := fun c => by rw [rI_ne (by omega)]; exact F.i 41 0 c (by intro x; simp [hit] at x)
  have m42 : ∀ c, rI m1 42 0 c = rI sm 42 0 c := fun c => G.i 42 0 c (by intro x; simp [hit] at x)
  have m6 : rI m1 10 0 6 = rI sm 10 0 6 := G.i 10 0 6 (by intro x; simp [hit] at x)
  have m58 : rI m1 10 0 58 = rI sm 10 0 58 := G.i 10 0 58 (by intro x; simp [hit] at x)
  have m0 : rI m1 10 0 0 = rI sm 10 0 0 := G.i 10 0 0 (by intro x; simp [hit] at x)
  refine ⟨⟨by rw [rI_eq rfl, h13], by rw [h13]; decide, by rw [h13]; decide⟩, fun i hi => by rw [h13] at hi; exact absurd hi (by show ¬ (i : Int) < 0; omega), ?_, ?_⟩
  · rw [x9 14 (by omega), x9 15 (by omega), x9 16 (by omega), m6, m58, m0, rI_ne (by omega), hf]
    exact ⟨a3.1, a3.2.1, a3.2.2.1, rfl⟩
  · rw [x41, x41, x41, x41, x41, m42, m42, m42, m42, m42]; exact a4
