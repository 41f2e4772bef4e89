/-! a text's clauses, each as it must be -/
theorem pTxt_g {σ : Nat → Nat} {o : Bool} {T : Nat} (hT : σ T = 4000) : ∀ (n c : Nat) (L : List Clz) (p q : Nat) (L' : List Clz), L.length = c → c ≤ 12 → p ≤ T → q ≤ 50 → (∀ x, x ∈ L → ∃ a b d e, GCl o T a b x d e) → pTxt σ o n c L p q = .inl L' → (∀ x, x ∈ L' → ∃ a b d e, GCl o T a b x d e) ∧ L'.length ≤ 12 := by
  intro n
  induction n with
  | zero => intro c L p q L' _ _ _ _ _ h; exact absurd h (by simp [pTxt])
  | succ n ih =>
    intro c L p q L' hL hc hp hq hx h
    rw [pTxt_s] at h
    by_cases c12 : 12 ≤ c
    · rw [if_pos c12] at h; exact absurd h (by simp)
    · rw [if_neg c12] at h
      have gc := pOne_g (o := o) hT hp hq
      cases hr : pOne σ o p q with
      | inr e => rw [hr] at h; exact absurd h (by simp)
      | inl y =>
        rw [hr] at h gc
        simp only at h
        have all : ∀ x, x ∈ L ++ [y.1] → ∃ a b d e, GCl o T a b x d e := by
          intro x hm
          rcases List.mem_append.mp hm with e | e
          · exact hx x e
          · have : x = y.1 := by simpa using e
            subst this; exact ⟨p, q, _, _, gc⟩
        have ln : (L ++ [y.1]).length = c + 1 := by rw [List.length_append, hL]; rfl
        have p'T : y.2.1 ≤ T := gc.2.2.2.2.2.2.2.2.1
        by_cases c4 : σ y.2.1 = 4000
        · rw [if_pos c4] at h
          simp only [Sum.inl.injEq] at h
          subst h; exact ⟨all, by omega⟩
        · rw [if_neg c4] at h
          by_cases c5 : σ y.2.1 = 2059
          · rw [if_pos c5] at h
            exact ih (c + 1) (L ++ [y.1]) (y.2.1 + 1) y.2.2 L' ln (by omega) (pT hT p'T c4) gc.2.2.2.2.2.2.2.2.2 all h
          · rw [if_neg c5] at h; exact absurd h (by simp)
theorem wfC_of {T a b d e : Nat} {x : Clz} (h : GCl false T a b x d e) : wfC (claOf x) := by
  obtain ⟨h1, h2, h3, h4, h5, h6, h7, h8⟩ := h
  refine ⟨h1.2 rfl, fun e => h2.2 (fun x => absurd e x), fun e => (h2.1 e).1, h6, fun U hU => ⟨wfT_B (h5 U hU).1, (h5 U hU).2⟩⟩
/-! the model lays its ops -/
theorem ok_laysOps {s : Sg} {l n : Nat} (hl : l < 6) (hn : n ≤ 400) (h24 : rI s 10 0 24 = nI n) : ok (m_laysOps s (nI l)) (fun s' => rI s' 43 0 (58 + l) = nI n ∧ (∀ i, i < n → rI s' 43 0 (65 + 400 * l + i) = rI s 53 0 i ∧ rI s' 43 0 (2865 + 400 * l + i) = rI s 54 0 i) ∧ (∀ c, c ≠ 58 + l → ¬ (65 + 400 * l ≤ c ∧ c < 65 + 400 * l + 400) → ¬ (2865 + 400 * l ≤ c ∧ c < 2865 + 400 * l + 400) → rI s' 43 0 c = rI s 43 0 c) ∧ ∀ k i c, k ≠ 43 → rI s' k i c = rI s k i c) := by
  unfold m_laysOps m_laysOps_G
  have e58 : 58 + nI l = nI (58 + l) := by
    rw [ti_eq, ti_add (by rw [nI_ti (by omega), li_58]; omega) (by rw [nI_ti (by omega), li_58]; omega), nI_ti (by omega), nI_ti (by omega), li_58]; omega
  have m4 : (400 * nI l).toInt = 400 * l := by rw [ti_mul (by rw [nI_ti (by omega), li_400]; omega) (by rw [nI_ti (by omega), li_400]; omega), nI_ti (by omega), li_400]
  have e65 : ∀ j, j ≤ 400 → 65 + 400 * nI l + nI j = nI (65 + 400 * l + j) := by
    intro j hj
    have a : (65 + 400 * nI l).toInt = 65 + 400 * l := by rw [ti_add (by rw [m4, li_65]; omega) (by rw [m4, li_65]; omega), m4, li_65]
    rw [ti_eq, ti_add (by rw [nI_ti (by omega), a]; omega) (by rw [nI_ti (by omega), a]; omega), nI_ti (by omega), nI_ti (by omega), a]; omega
  have e28 : ∀ j, j ≤ 400 → 2865 + 400 * nI l + nI j = nI (2865 + 400 * l + j) := by
    intro j hj
    have a : (2865 + 400 * nI l).toInt = 2865 + 400 * l := by rw [ti_add (by rw [m4, li_2865]; omega) (by rw [m4, li_2865]; omega), m4, li_2865]
    rw [ti_eq, ti_add (by rw [nI_ti (by omega), a]; omega) (by rw [nI_ti (by omega), a]; omega), nI_ti (by omega), nI_ti (by omega), a]; omega
  rw [e58, gd_t (inb_nI (by omega) (by omega)), ix_nI (by omega), h24]
  refine ok_loop (K := fun f (y : Sg × Int32) => m_laysOps_b15 f y.1 (nI l) y.2) (I := fun y => ∃ j, y.2 = nI j ∧ j ≤ n ∧ rI y.1 43 0 (58 + l) = nI n ∧ (∀ i, i < j → rI y.1 43 0 (65 + 400 * l + i) = rI s 53 0 i ∧ rI y.1 43 0 (2865 + 400 * l + i) = rI s 54 0 i) ∧ (∀ c, c ≠ 58 + l → ¬ (65 + 400 * l ≤ c ∧ c < 65 + 400 * l + 400) → ¬ (2865 + 400 * l ≤ c ∧ c < 2865 + 400 * l + 400) → rI y.1 43 0 c = rI s 43 0 c) ∧ ∀ k i c, k ≠ 43 → rI y.1 k i c = rI s k i c)
    (μ := fun y => 402 - y.2.toInt.toNat) ?_ FU (wI s 43 0 (58 + l) (nI n), 0) ⟨0, rfl, by omega, rI_eq rfl, fun i hi => by omega, fun c h1 _ _ => rI_ne (by omega), fun k i c hk => rI_ne (by omega)⟩ (by show _ < 20000; simp only []; omega)
  rintro f ⟨s2, l2⟩ ⟨j, hj, hjn, a1, a2, a3, a4⟩ ih
  simp only at hj a1 a2 a3 a4 ih
  subst hj
  show ok (m_laysOps_b15_G _ s2 (nI l) (nI j)) _
  unfold m_laysOps_b15_G
  have b24 : rI s2 10 0 24 = nI n := by rw [a4 _ _ _ (by omega)]; exact h24
  rw [b24]
  by_cases c : j < n
  · rw [gif_t (by rw [ti_lt, nI_ti (by omega), nI_ti (by omega)]; omega), e65 j (by omega), e28 j (by omega), gd_t (inb_nI (by omega) (by omega)), gd_t (inb_nI (by omega) (by omega)), ix_nI (show 65 + 400 * l + j < 1000000 by omega), ix_nI (show j < 1000000 by omega)]
    simp only []
    rw [gd_t (inb_nI (by omega) (by omega)), gd_t (inb_nI (by omega) (by omega)), ix_nI (show 2865 + 400 * l + j < 1000000 by omega), nI_s (by omega)]
    refine ih (wI (wI s2 43 0 (65 + 400 * l + j) (rI s2 53 0 j)) 43 0 (2865 + 400 * l + j) (rI (wI s2 43 0 (65 + 400 * l + j) (rI s2 53 0 j)) 54 0 j), nI (j + 1)) ⟨j + 1, rfl, by omega, ?_, fun i hi => ?_, fun c' h1 h2 h3 => ?_, fun k i c' hk => ?_⟩ (by simp only []; rw [nI_ti (by omega), nI_ti (by omega)]; omega)
    · simp only []; rw [rI_ne (by omega), rI_ne (by omega)]; exact a1
    · simp only []
      by_cases e : i = j
      · subst e
        exact ⟨by rw [rI_ne (by omega), rI_eq rfl, a4 _ _ _ (by omega)], by rw [rI_eq rfl, rI_ne (by omega), a4 _ _ _ (by omega)]⟩
      · rw [rI_ne (by omega), rI_ne (by omega), rI_ne (by omega), rI_ne (by omega)]; exact a2 i (by omega)
    · simp only []; rw [rI_ne (by omega), rI_ne (by omega)]; exact a3 c' h1 h2 h3
    · simp only []; rw [rI_ne (by omega), rI_ne (by omega)]; exact a4 k i c' hk
  · rw [gif_f (by rw [ti_lt, nI_ti (by omega), nI_ti (by omega)]; omega)]
    exact ok_some ⟨a1, fun i hi => a2 i (by omega), a3, a4⟩
/-! the law as it stands in a text of its own -/
theorem nI24 : (nI 24576).toInt = 24576 := nI_ti (by omega)
theorem clasX_of {s' s : Sg} {t z : Nat} (hI : ∀ k c, 31 ≤ k → k ≤ 36 → rI s' k t c = rI s k 0 c) (hN : rN s' 36 t 0 = z) (z4 : z ≤ 400) : ∀ (L : List Clz) (j0 : Nat), (∀ c (h : c < L.length), PlC false s (j0 + c) L[c] z) → (∀ x, x ∈ L → x.1 ≤ 3) → clasX s' t j0 (L.map claOf) := by
  have fn : s'.1 36 t = s.1 36 0 := funext fun c => hI 36 c (by omega) (by omega)
  intro L
  induction L with
  | nil => intro j0 _ _; trivial
  | cons x r ih =>
    intro j0 h hv
    refine ⟨?_, ih (j0 + 1) (fun c hc => ?_) (fun y hy => hv y (by simp [hy]))⟩
    · have h0 := h 0 (by simp)
      simp only [Nat.add_zero, List.getElem_cons_zero] at h0
      obtain ⟨P1, P2, ⟨P3, P3'⟩, P4, P5⟩ := h0
      have vx := hv x (by simp)
      refine ⟨by rw [hI 31 _ (by omega) (by omega), P1, nI_ti (by omega)]; rfl, fun hn => ?_, ?_⟩
      · obtain ⟨a, q1, q2, q3, q4⟩ := P3 hn
        refine ⟨a, by rw [hI 33 _ (by omega) (by omega), q1, nI_ti (by omega)], ?_⟩
        rw [fn, hN]
        exact ⟨q2, by show (rI s 36 0 (a + x.2.1.length)).toInt = 24576; rw [q3]; exact nI24, q4⟩
      · show match x.2.2.2.2 with | none => (rI s' 35 t j0).toInt = -1 | some U => ∃ p : Nat, (rI s' 35 t j0).toInt = p ∧ segX (s'.1 36 t) (rN s' 36 t 0) p U
        cases hU : x.2.2.2.2 with
        | none => rw [hU] at P5; simp only at P5 ⊢; rw [hI 35 _ (by omega) (by omega), P5]; decide
        | some U =>
          rw [hU] at P5
          obtain ⟨a, q1, q2, q3, q4⟩ := P5
          refine ⟨a, by rw [hI 35 _ (by omega) (by omega), q1, nI_ti (by omega)], ?_⟩
          rw [fn, hN]
          exact ⟨q2, by show (rI s 36 0 (a + U.length)).toInt = 24576; rw [q3]; exact nI24, q4⟩
    · have := h (c + 1) (by simp only [List.length_cons]; omega)
      rw [show j0 + (c + 1) = j0 + 1 + c by omega] at this
      simpa using this
