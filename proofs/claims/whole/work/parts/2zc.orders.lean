/-! ORDERS, all -/
theorem ok_log {s : Sg} {g0 g1 : Nat} (hg : g0 ≠ g1) : ok (x3_copyFrom s g0 g1) (fun s' => rI s' 3 g0 3 = rI s 3 g1 3 ∧ ∀ c, c < 16 → rI s' 20 g0 c = rI s 20 g1 c ∧ rI s' 21 g0 c = rI s 21 g1 c ∧ rI s' 22 g0 c = rI s 22 g1 c) := by
  have i16 : ix 16 = 16 := ix_nI (a := 16) (by omega)
  unfold x3_copyFrom x3_copyFrom_G
  rw [gd_t (by unfold g_cok; decide), gd_t (by unfold g_cok; decide), gd_t (by unfold g_cok; decide)]
  refine ok_some ⟨?_, fun c hc => ⟨?_, ?_, ?_⟩⟩
  · rw [rI_eq rfl, cpy0 i16, if_neg (by omega), cpy0 i16, if_neg (by omega), cpy0 i16, if_neg (by omega)]
  · rw [rI_ne (by omega), cpy0 i16, if_neg (by omega), cpy0 i16, if_neg (by omega), cpy0 i16, if_pos ⟨rfl, rfl, hc⟩]
  · rw [rI_ne (by omega), cpy0 i16, if_neg (by omega), cpy0 i16, if_pos ⟨rfl, rfl, hc⟩, cpy0 i16, if_neg (by omega)]
  · rw [rI_ne (by omega), cpy0 i16, if_pos ⟨rfl, rfl, hc⟩, cpy0 i16, if_neg (by omega), cpy0 i16, if_neg (by omega)]
theorem e15 {j : Nat} (h : j < 15) : 15 * (1 : Int32) + nI j = nI (15 + j) := by
  have a : (15 * (1 : Int32)).toInt = 15 := by decide
  rw [ti_eq, ti_add (by rw [nI_ti (by omega), a]; omega) (by rw [nI_ti (by omega), a]; omega), nI_ti (by omega), nI_ti (by omega), a]; omega
theorem ok_aside {s : Sg} : ok (m_laysAside s 1) (fun s' => (∀ i, i < 15 → rI s' 46 0 (15 + i) = rI s 43 0 i) ∧ (∀ k i c, k ≠ 46 → rI s' k i c = rI s k i c)) := by
  unfold m_laysAside m_laysAside_G
  refine ok_loop (K := fun n (y : Sg × Int32) => m_laysAside_b2 n y.1 1 y.2) (I := fun y => ∃ j, y.2 = nI j ∧ j ≤ 15 ∧ (∀ i, i < j → rI y.1 46 0 (15 + i) = rI s 43 0 i) ∧ ∀ k i c, k ≠ 46 → rI y.1 k i c = rI s k i c)
    (μ := fun y => 20 - y.2.toInt.toNat) ?_ FU (s, 0) ⟨0, rfl, by omega, fun i hi => by omega, fun _ _ _ _ => rfl⟩ (by show _ < 20000; simp only []; omega)
  rintro f ⟨s2, l⟩ ⟨j, hj, j15, a1, a2⟩ ih
  simp only at hj a1 a2 ih
  subst hj
  show ok (m_laysAside_b2_G _ s2 1 (nI j)) _
  unfold m_laysAside_b2_G
  by_cases c : j < 15
  · rw [gif_t (by rw [ti_lt, nI_ti (by omega), li_15]; omega), gd_t (inb_nI (by omega) (by omega)), e15 c, gd_t (inb_nI (by omega) (by omega)), ix_nI (by omega), ix_nI (by omega), nI_s (by omega)]
    refine ih (wI s2 46 0 (15 + j) (rI s2 43 0 j), nI (j + 1)) ⟨j + 1, rfl, by omega, fun i hi => ?_, fun k i c' hk => by rw [rI_ne (by omega)]; exact a2 k i c' hk⟩ (by simp only []; rw [nI_ti (by omega), nI_ti (by omega)]; omega)
    simp only []
    by_cases e : i = j
    · subst e; rw [rI_eq rfl, a2 _ _ _ (by omega)]
    · rw [rI_ne (by omega)]; exact a1 i (by omega)
  · rw [gif_f (by rw [ti_lt, nI_ti (by omega), li_15]; omega)]
    exact ok_some ⟨fun i hi => a1 i (by omega), a2⟩
theorem ok_taken {s : Sg} : ok (m_takesBack s 1) (fun s' => (∀ i, i < 15 → rI s' 43 0 i = rI s 46 0 (15 + i)) ∧ (∀ i, 15 ≤ i → rI s' 43 0 i = rI s 43 0 i) ∧ (∀ k i c, k ≠ 43 → rI s' k i c = rI s k i c)) := by
  unfold m_takesBack m_takesBack_G
  refine ok_loop (K := fun n (y : Sg × Int32) => m_takesBack_b2 n y.1 1 y.2) (I := fun y => ∃ j, y.2 = nI j ∧ j ≤ 15 ∧ (∀ i, i < j → rI y.1 43 0 i = rI s 46 0 (15 + i)) ∧ (∀ i, 15 ≤ i → rI y.1 43 0 i = rI s 43 0 i) ∧ ∀ k i c, k ≠ 43 → rI y.1 k i c = rI s k i c)
    (μ := fun y => 20 - y.2.toInt.toNat) ?_ FU (s, 0) ⟨0, rfl, by omega, fun i hi => by omega, fun _ _ => rfl, fun _ _ _ _ => rfl⟩ (by show _ < 20000; simp only []; omega)
  rintro f ⟨s2, l⟩ ⟨j, hj, j15, a1, a3, a2⟩ ih
  simp only at hj a1 a2 a3 ih
  subst hj
  show ok (m_takesBack_b2_G _ s2 1 (nI j)) _
  unfold m_takesBack_b2_G
  by_cases c : j < 15
  · rw [gif_t (by rw [ti_lt, nI_ti (by omega), li_15]; omega), e15 c, gd_t (inb_nI (by omega) (by omega)), gd_t (inb_nI (by omega) (by omega)), ix_nI (by omega), ix_nI (by omega), nI_s (by omega)]
    refine ih (wI s2 43 0 j (rI s2 46 0 (15 + j)), nI (j + 1)) ⟨j + 1, rfl, by omega, fun i hi => ?_, fun i hi => by rw [rI_ne (by omega)]; exact a3 i hi, fun k i c' hk => by rw [rI_ne (by omega)]; exact a2 k i c' hk⟩ (by simp only []; rw [nI_ti (by omega), nI_ti (by omega)]; omega)
    simp only []
    by_cases e : i = j
    · subst e; rw [rI_eq rfl, a2 _ _ _ (by omega)]
    · rw [rI_ne (by omega)]; exact a1 i (by omega)
  · rw [gif_f (by rw [ti_lt, nI_ti (by omega), li_15]; omega)]
    exact ok_some ⟨fun i hi => a1 i (by omega), a3, a2⟩
theorem b27_eq : ∀ (d l : Nat) (s : Sg) (n : Nat), l + d = 256 → d < n → ∃ s', (∀ k, l ≤ k → k < 256 → rI s' 60 0 k = rI s 59 0 k) ∧ (∀ k i c, ¬ (k = 60 ∧ l ≤ c) → rI s' k i c = rI s k i c) ∧ s'.2 = s.2 ∧ m_orders_b27 n s (nI l) = ((m_lays s' 6).bind fun s2 => gd (inb 64 5665) (m_orders_b95 FU (wI (wI (wI s2 10 0 29 0) 10 0 30 (-1)) 10 0 59 2400) (rI s' 10 0 46) (rI (wI (wI (wI s2 10 0 29 0) 10 0 30 (-1)) 10 0 59 2400) 10 0 59 + rI (wI (wI (wI s2 10 0 29 0) 10 0 30 (-1)) 10 0 59 2400) 43 0 (ix 64)) 0)) := by
  intro d
  induction d with
  | zero =>
    intro l s n hl hn
    obtain ⟨n, rfl⟩ : ∃ f, n = f + 1 := ⟨n - 1, by omega⟩
    refine ⟨s, fun k h1 h2 => by omega, fun _ _ _ _ => rfl, rfl, ?_⟩
    show m_orders_b27_G _ _ _ s (nI l) = _
    unfold m_orders_b27_G
    rw [gif_f (by rw [ti_lt, nI_ti (by omega), li_256]; omega)]
  | succ d ih =>
    intro l s n hl hn
    obtain ⟨n, rfl⟩ : ∃ f, n = f + 1 := ⟨n - 1, by omega⟩
    obtain ⟨s', h1, h2, h3, h4⟩ := ih (l + 1) (wI s 60 0 l (rI s 59 0 l)) n (by omega) (by omega)
    refine ⟨s', fun k k1 k2 => ?_, fun k i c hn' => ?_, by rw [h3]; rfl, ?_⟩
    · by_cases e : k = l
      · subst e; rw [h2 _ _ _ (by omega), rI_eq rfl]
      · rw [h1 k (by omega) k2, rI_ne (by omega)]
    · rw [h2 k i c (by omega), rI_ne (by omega)]
    · show m_orders_b27_G _ _ _ s (nI l) = _
      unfold m_orders_b27_G
      rw [gif_t (by rw [ti_lt, nI_ti (by omega), li_256]; omega), gd_t (inb_nI (by omega) (by omega)), gd_t (inb_nI (by omega) (by omega)), ix_nI (by omega), nI_s (by omega)]
      exact h4
theorem b122_eq {l1 l3 : Int32} : ∀ (d l : Nat) (s : Sg) (n : Nat), l + d = 256 → d < n → ∃ s', (∀ k, l ≤ k → k < 256 → rI s' 59 0 k = rI s 60 0 k) ∧ (∀ k i c, ¬ (k = 59 ∧ l ≤ c) → rI s' k i c = rI s k i c) ∧ s'.2 = s.2 ∧ m_orders_b122 n s l1 l3 (nI l) = m_refuses (wI (wI s' 10 0 46 l1) 10 0 58 l3) (-3) := by
  intro d
  induction d with
  | zero =>
    intro l s n hl hn
    obtain ⟨n, rfl⟩ : ∃ f, n = f + 1 := ⟨n - 1, by omega⟩
    refine ⟨s, fun k h1 h2 => by omega, fun _ _ _ _ => rfl, rfl, ?_⟩
    show m_orders_b122_G _ _ s l1 l3 (nI l) = _
    unfold m_orders_b122_G
    rw [gif_f (by rw [ti_lt, nI_ti (by omega), li_256]; omega)]
    simp only [bindp]
  | succ d ih =>
    intro l s n hl hn
    obtain ⟨n, rfl⟩ : ∃ f, n = f + 1 := ⟨n - 1, by omega⟩
    obtain ⟨s', h1, h2, h3, h4⟩ := ih (l + 1) (wI s 59 0 l (rI s 60 0 l)) n (by omega) (by omega)
    refine ⟨s', fun k k1 k2 => ?_, fun k i c hn' => ?_, by rw [h3]; rfl, ?_⟩
    · by_cases e : k = l
      · subst e; rw [h2 _ _ _ (by omega), rI_eq rfl]
      · rw [h1 k (by omega) k2, rI_ne (by omega)]
    · rw [h2 k i c (by omega), rI_ne (by omega)]
    · show m_orders_b122_G _ _ s l1 l3 (nI l) = _
      unfold m_orders_b122_G
      rw [gif_t (by rw [ti_lt, nI_ti (by omega), li_256]; omega), gd_t (inb_nI (by omega) (by omega)), gd_t (inb_nI (by omega) (by omega)), ix_nI (by omega), nI_s (by omega)]
      exact h4
theorem ok_lays {s : Sg} {n : Nat} (hn : n ≤ 400) (h18 : rI s 10 0 18 = nI n) : ok (m_lays s 6) (fun s' => rI s' 43 0 64 = nI n ∧ (∀ i, i < n → rI s' 43 0 (2465 + i) = rI s 50 0 i ∧ rI s' 43 0 (5265 + i) = rI s 51 0 i) ∧ (∀ c, c ≠ 64 → ¬ (2465 ≤ c ∧ c < 2865) → ¬ 5265 ≤ c → rI s' 43 0 c = rI s 43 0 c) ∧ ∀ k i c, k ≠ 43 → rI s' k i c = rI s k i c) := by
  unfold m_lays m_lays_G
  have e58 : (58 : Int32) + 6 = nI 64 := by decide
  have e65 : ∀ j, j ≤ 400 → 65 + 400 * (6 : Int32) + nI j = nI (2465 + j) := by
    intro j hj
    have a : (65 + 400 * (6 : Int32)).toInt = 2465 := by decide
    rw [ti_eq, ti_add (by rw [nI_ti (by omega), a]; omega) (by rw [nI_ti (by omega), a]; omega), nI_ti (by omega), nI_ti (by omega), a]; omega
  have e28 : ∀ j, j ≤ 400 → 2865 + 400 * (6 : Int32) + nI j = nI (5265 + j) := by
    intro j hj
    have a : (2865 + 400 * (6 : Int32)).toInt = 5265 := by decide
    rw [ti_eq, ti_add (by rw [nI_ti (by omega), a]; omega) (by rw [nI_ti (by omega), a]; omega), nI_ti (by omega), nI_ti (by omega), a]; omega
  rw [e58, gd_t (inb_nI (by omega) (by omega)), ix_nI (by omega), h18]
  refine ok_loop (K := fun f (y : Sg × Int32) => m_lays_b15 f y.1 6 y.2) (I := fun y => ∃ j, y.2 = nI j ∧ j ≤ n ∧ rI y.1 43 0 64 = nI n ∧ (∀ i, i < j → rI y.1 43 0 (2465 + i) = rI s 50 0 i ∧ rI y.1 43 0 (5265 + i) = rI s 51 0 i) ∧ (∀ c, c ≠ 64 → ¬ (2465 ≤ c ∧ c < 2865) → ¬ 5265 ≤ c → rI y.1 43 0 c = rI s 43 0 c) ∧ ∀ k i c, k ≠ 43 → rI y.1 k i c = rI s k i c)
    (μ := fun y => 402 - y.2.toInt.toNat) ?_ FU (wI s 43 0 64 (nI n), 0) ⟨0, rfl, by omega, rI_eq rfl, fun i hi => by omega, fun c h1 _ _ => rI_ne (by omega), fun k i c hk => rI_ne (by omega)⟩ (by show _ < 20000; simp only []; omega)
  rintro f ⟨s2, l2⟩ ⟨j, hj, hjn, a1, a2, a3, a4⟩ ih
  simp only at hj a1 a2 a3 a4 ih
  subst hj
  show ok (m_lays_b15_G _ s2 6 (nI j)) _
  unfold m_lays_b15_G
  have b18 : rI s2 10 0 18 = nI n := by rw [a4 _ _ _ (by omega)]; exact h18
  rw [b18]
  by_cases c : j < n
  · rw [gif_t (by rw [ti_lt, nI_ti (by omega), nI_ti (by omega)]; omega), e65 j (by omega), e28 j (by omega), gd_t (inb_nI (by omega) (by omega)), gd_t (inb_nI (by omega) (by omega)), ix_nI (show 2465 + j < 1000000 by omega), ix_nI (show j < 1000000 by omega)]
    simp only []
    rw [gd_t (inb_nI (by omega) (by omega)), gd_t (inb_nI (by omega) (by omega)), ix_nI (show 5265 + j < 1000000 by omega), nI_s (by omega)]
    refine ih (wI (wI s2 43 0 (2465 + j) (rI s2 50 0 j)) 43 0 (5265 + j) (rI (wI s2 43 0 (2465 + j) (rI s2 50 0 j)) 51 0 j), nI (j + 1)) ⟨j + 1, rfl, by omega, ?_, fun i hi => ?_, fun c' h1 h2 h3 => ?_, fun k i c' hk => ?_⟩ (by simp only []; rw [nI_ti (by omega), nI_ti (by omega)]; omega)
    · simp only []; rw [rI_ne (by omega), rI_ne (by omega)]; exact a1
    · simp only []
      by_cases e : i = j
      · subst e
        exact ⟨by rw [rI_ne (by omega), rI_eq rfl, a4 _ _ _ (by omega)], by rw [rI_eq rfl, rI_ne (by omega), a4 _ _ _ (by omega)]⟩
      · rw [rI_ne (by omega), rI_ne (by omega), rI_ne (by omega), rI_ne (by omega)]; exact a2 i (by omega)
    · simp only []; rw [rI_ne (by omega), rI_ne (by omega)]; exact a3 c' h1 h2 h3
    · simp only []; rw [rI_ne (by omega), rI_ne (by omega)]; exact a4 k i c' hk
  · rw [gif_f (by rw [ti_lt, nI_ti (by omega), nI_ti (by omega)]; omega)]
    exact ok_some ⟨a1, fun i hi => a2 i (by omega), a3, a4⟩
theorem Inv_15 {sx sm : Sg} (h : Inv sx sm) (v : Int32) : Inv (wI sx 9 0 15 v) (wI sm 10 0 58 v) := by
  have F : Fr [(9, 1, 16)] sx (wI sx 9 0 15 v) := fr_wI fr_rfl (hit_is (by simp))
  have G : Fr [(10, 1, 59)] sm (wI sm 10 0 58 v) := fr_wI fr_rfl (hit_is (by simp))
  refine ⟨?_, InvB_fr F G rfl rfl rfl rfl rfl h.2.1, LogR_fr F G h.log12 rfl rfl rfl rfl h.2.2.1, InvC_fr F G rfl rfl rfl rfl rfl rfl h.2.2.2.1, InvE_fr F G rfl rfl rfl h.2.2.2.2.1, InvF_fr F G rfl (.inl rfl) (.inl ⟨rfl, rfl⟩) (.inl rfl) rfl h.2.2.2.2.2⟩
  obtain ⟨a1, a2, a3, a4⟩ := h.1
  unfold InvA
  simp (disch := omega) only [rI_ne, rI_eq]
  exact ⟨a1, a2, ⟨a3.1, trivial, a3.2.2⟩, a4⟩
theorem LogR_k {sx sx' sm sm' : Sg} (hm : (rI sm 43 0 54).toInt ≤ 12) (h1 : rI sx' 3 0 3 = rI sx 3 0 3) (h2 : ∀ c, c < 16 → rI sx' 20 0 c = rI sx 20 0 c ∧ rI sx' 21 0 c = rI sx 21 0 c ∧ rI sx' 22 0 c = rI sx 22 0 c)
    (h5 : rI sm' 10 0 46 = rI sm 10 0 46) (h6 : ∀ c, c < 256 → rI sm' 59 0 c = rI sm 59 0 c) (h7 : ∀ c, c < 27 ∨ c = 54 → rI sm' 43 0 c = rI sm 43 0 c) (h : LogR sx sm) : LogR sx' sm' := by
  obtain ⟨n, g1, g2, g3, g4⟩ := h
  refine ⟨n, g1, by rw [h1]; exact g2, by rw [h5]; exact g3, fun j hj => ?_⟩
  obtain ⟨e1, e2, e3⟩ := h2 j (by omega)
  rw [e1, e2, e3, h6 _ (by omega)]
  have hs : ∀ j i, i < 15 → Sv sm' n j i = Sv sm n j i := by
    intro j i hi; unfold Sv
    by_cases c : j < n
    · rw [if_pos c, if_pos c, h6 _ (by omega)]
    · rw [if_neg c, if_neg c, h7 i (by omega)]
  exact ⟨(g4 j hj).1, Step_c hm (h7 54 (by omega)) (fun i _ h => h7 i (by omega)) (hs j) (hs (j + 1)) (g4 j hj).2⟩
