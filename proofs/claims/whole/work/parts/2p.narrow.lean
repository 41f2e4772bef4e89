/-! NARROW -/
theorem q_atMost {s : Sg} {bars : Int32} {D : Dom} (T : TF s bars D) (n12 : D.n ≤ 12) {L : Int32} {l : Nat} (hL : L.toInt = l) (l24 : l ≤ 24) : x5_canBeOfAtMost s L = some (s, bI (∃ j, j ≤ l ∧ cD D j (2 * D.n) ≠ none)) := by
  have key : ∀ (d j : Nat) (J : Int32) (f : Nat), j + d = l + 1 → J.toInt = j → d < f → x5_canBeOfAtMost_b2 f s L J = some (s, bI (∃ i, j ≤ i ∧ i ≤ l ∧ cD D i (2 * D.n) ≠ none)) := by
    intro d
    induction d with
    | zero =>
      intro j J f h1 h2 h3
      obtain ⟨f, rfl⟩ : ∃ x, f = x + 1 := ⟨f - 1, by omega⟩
      show x5_canBeOfAtMost_b2_G _ _ s L J = _
      unfold x5_canBeOfAtMost_b2_G
      rw [gif_t (by rw [ti_lt, hL, h2]; omega), gdB0]
      exact (lf0 (fun ⟨i, a, b, _⟩ => by omega))
    | succ d ih =>
      intro j J f h1 h2 h3
      obtain ⟨f, rfl⟩ : ∃ x, f = x + 1 := ⟨f - 1, by omega⟩
      show x5_canBeOfAtMost_b2_G _ _ s L J = _
      unfold x5_canBeOfAtMost_b2_G
      rw [gif_f (by rw [ti_lt, hL, h2]; omega), gif_f (by rw [ti_lt, h2, li_24]; omega), q_canBeOf T n12 h2 (by omega)]
      simp only [Option.bind_some, gdB0, gdB1, gdbI, gifbI]
      refine gif_eq (fun c => lf1 ⟨j, Nat.le_refl _, by omega, c⟩) (fun c => ?_)
      rw [ih (j + 1) (J + 1) f (by omega) (by rw [ti_add (by rw [h2, li_1]; omega) (by rw [h2, li_1]; omega), h2, li_1]; omega) (by omega)]
      refine pr (bI_congr ⟨fun ⟨i, a, b, e⟩ => ⟨i, by omega, b, e⟩, fun ⟨i, a, b, e⟩ => ⟨i, ?_, b, e⟩⟩)
      have : i ≠ j := fun z => c (z ▸ e)
      omega
  unfold x5_canBeOfAtMost x5_canBeOfAtMost_G
  rw [key (l + 1) 0 0 FU (by omega) rfl (by show _ < 20000; omega)]
  exact pr (bI_congr ⟨fun ⟨i, _, b, e⟩ => ⟨i, b, e⟩, fun ⟨i, b, e⟩ => ⟨i, by omega, b, e⟩⟩)
theorem TM_lim {P : Nat → Option Cl4 → Prop} {D : Dom} {k jj l : Nat} (hl : l ≤ jj) (hP : ∀ i o, 25 * (l + 1) ≤ i → P i o) (h : TM P D k jj 0) : TM0 P D (k + 1) := by
  intro fr j hf hj
  have a := h fr j hf hj
  unfold stg2 at a
  by_cases c : j - 1 < jj ∨ (j - 1 = jj ∧ fr - 1 < 0)
  · rw [if_pos c] at a; exact a
  · rw [if_neg c] at a
    by_cases z : j = 0 ∨ fr = 0
    · rw [pcl_z (m' := k) z]; exact a
    · exact hP _ _ (by omega)
theorem ok_isBy {s : Sg} {D : Dom} {ask L : Int32} {l : Nat} (hL : L.toInt = l) (l24 : l ≤ 24) (W : MWd s D) (PLs : PL s D ask (2 * D.n) 0 0) : ok (m_isBy s L) (fun q => q.2 = bI (∃ j, j ≤ l ∧ cD D j (2 * D.n) ≠ none)) := by
  have n12 := W.1.2.1
  have km : (-1 : Int32).toInt = -1 := by decide
  have k625 : (625 : Int32).toInt = 625 := by decide
  have nb0 : vp_nar .boolean 0 = 0 := by decide
  have tail : ∀ s1 : Sg, MWd s1 D → PL s1 D ask (2 * D.n) 0 0 → TM0 (fun i o => i < 25 * (l + 1) → rI s1 66 0 i = bI (o ≠ none)) D 0 → ok (m_isBy_b35 FU s1 L (-1)) (fun q => q.2 = bI (∃ j, j ≤ l ∧ cD D j (2 * D.n) ≠ none)) := by
    intro s1 W1 L1 B1
    refine ok_loop (K := fun n (p : Sg × Int32) => m_isBy_b35 n p.1 L p.2) (I := fun p => ∃ k : Nat, k ≤ 2 * D.n ∧ p.2.toInt = (k : Int) - 1 ∧ MWd p.1 D ∧ PL p.1 D ask (2 * D.n) 0 0 ∧ TM0 (fun i o => i < 25 * (l + 1) → rI p.1 66 0 i = bI (o ≠ none)) D k)
      (μ := fun p => 25 - (p.2.toInt + 1).toNat) ?_ FU (s1, -1) ⟨0, by omega, show (-1 : Int32).toInt = ((0 : Nat) : Int) - 1 by decide, W1, L1, B1⟩ (by show _ < 20000; omega)
    rintro n ⟨s2, F⟩ ⟨k, k1, k2, k3, k4, k5⟩ ih
    simp only at k1 k2 k3 k4 k5 ih
    show ok (m_isBy_b35_G _ _ _ s2 L F) _
    unfold m_isBy_b35_G
    obtain ⟨lp, e1, e2⟩ := q_last k3.1
    rw [e1]
    simp only [Option.bind_some]
    have t1 : (F + 1).toInt = k := by rw [ti_add (by rw [k2, li_1]; omega) (by rw [k2, li_1]; omega), k2, li_1]; omega
    refine ok_gif (fun c => ?_) (fun c => ?_)
    · rw [ti_lt, k2, e2] at c
      have next : ∀ s3 : Sg, MWd s3 D → PL s3 D ask (2 * D.n) 0 0 → TM0 (fun i o => i < 25 * (l + 1) → rI s3 66 0 i = bI (o ≠ none)) D (k + 1) → ok (m_isBy_b35 n s3 L (F + 1)) (fun q => q.2 = bI (∃ j, j ≤ l ∧ cD D j (2 * D.n) ≠ none)) :=
        fun s3 W3 L3 B3 => ih (s3, F + 1) ⟨k + 1, by omega, by rw [t1]; omega, W3, L3, B3⟩ (by simp only [t1, k2]; omega)
      refine ok_loop (K := fun m (p : Sg × Int32) => m_isBy_b45 (m_isBy_b35 n) m p.1 L F p.2) (I := fun p => ∃ jj : Nat, jj ≤ k + 1 ∧ p.2.toInt = jj ∧ MWd p.1 D ∧ PL p.1 D ask (2 * D.n) 0 0 ∧ TM (fun i o => i < 25 * (l + 1) → rI p.1 66 0 i = bI (o ≠ none)) D k jj 0 ∧ ((k = 0 ∨ plD D (k - 1)) ∨ jj = 0))
        (μ := fun p => 26 - p.2.toInt.toNat) ?_ FU (s2, 0) ⟨0, by omega, rfl, k3, k4, TM_of k5, .inr rfl⟩ (by show _ < 20000; omega)
      rintro m ⟨s3, J⟩ ⟨jj, a1, a2, a3, a4, a5, a6⟩ ih2
      simp only at a1 a2 a3 a4 a5 ih2
      show ok (m_isBy_b45_G _ _ _ _ _ s3 L F J) _
      unfold m_isBy_b45_G
      refine ok_gif (fun d => ?_) (fun d => ok_gif (fun g => ?_) (fun g => ?_))
      · rw [ti_lt, t1, a2] at d
        exact next s3 a3 a4 (TM_done (by omega) a5)
      · rw [ti_lt, t1, a2] at d
        rw [ti_lt, a2, hL] at g
        rw [q_isStart a3.1 k2 (by omega)]
        simp only [Option.bind_some, gdB0, gdB1, gdbI, gifbI]
        by_cases hs : k = 0 ∨ plD D (k - 1)
        · rw [gif_t hs]
          have t2 : (J + 1).toInt = (jj + 1 : Nat) := by rw [ti_add (by rw [a2, li_1]; omega) (by rw [a2, li_1]; omega), a2, li_1]; omega
          simp only [q_stateAt, Option.bind_some]
          have u2 := ti_state (J := J) (F := F) (j := jj) (fr := k) a2 k2 (by omega) (by omega)
          have vc : rI s3 66 0 (jj * 25 + k) = bI (cD D jj k ≠ none) := TM_cell a5 (by omega) (by omega) (by omega)
          rw [gd_t (inb_iff.mpr (by rw [u2]; omega)), show ix (J * 25 + F + 1) = jj * 25 + k by rw [ix_eq, u2]; omega, vc, gifbI]
          by_cases hc : cD D jj k = none
          · rw [gif_f (fun x => x hc)]
            exact ih2 (s3, J + 1) ⟨jj + 1, by omega, t2, a3, a4, TM_rownone a5 hc, .inl hs⟩ (by simp only [t2, a2]; omega)
          · rw [gif_t hc]
            refine ok_loop (K := fun d (p : Sg × Int32) => m_isBy_b86 (m_isBy_b35 n) (m_isBy_b45 (m_isBy_b35 n) m) d p.1 L F J p.2) (I := fun p => ∃ t : Nat, k ≤ t ∧ t ≤ 2 * D.n ∧ p.2.toInt = t ∧ MWd p.1 D ∧ PL p.1 D ask (2 * D.n) 0 0 ∧ TM (fun i o => i < 25 * (l + 1) → rI p.1 66 0 i = bI (o ≠ none)) D k jj t)
              (μ := fun p => 26 - p.2.toInt.toNat) ?_ FU (s3, F + 1) ⟨k, Nat.le_refl _, k1, t1, a3, a4, TM_row0 a5⟩ (by show _ < 20000; omega)
            rintro d' ⟨s4, T⟩ ⟨t, b1, b2, b3, b4, b5, b6⟩ ih3
            simp only at b1 b2 b3 b4 b5 b6 ih3
            show ok (m_isBy_b86_G _ _ _ _ _ s4 L F J T) _
            unfold m_isBy_b86_G
            obtain ⟨lp, e1, e2⟩ := q_last b4.1
            rw [e1]
            simp only [Option.bind_some]
            refine ok_gif (fun x => ?_) (fun x => ?_)
            · rw [ti_lt, e2, b3] at x
              exact ih2 (s4, J + 1) ⟨jj + 1, by omega, t2, b4, b5, TM_rowend b6 (fun t' h e => by have := e.2.2.1.1; omega), .inl hs⟩ (by simp only [t2, a2]; omega)
            · rw [ti_lt, e2, b3] at x
              have t3 : (T + 1).toInt = (t + 1 : Nat) := by rw [ti_add (by rw [b3, li_1]; omega) (by rw [b3, li_1]; omega), b3, li_1]; omega
              rw [q_canLine b4.1 b5 a2 k2 b3 (by omega) b1 (by omega) hs]
              simp only [Option.bind_some, gdB0, gdB1, gdbI, gifbI]
              have hp := pcl_step (D := D) (j := jj) b1
              obtain ⟨cc, hcc⟩ : ∃ cc, cD D jj k = some cc := by
                cases hq : cD D jj k with
                | none => exact absurd hq hc
                | some cc => exact ⟨cc, rfl⟩
              rw [hcc] at hp
              simp only at hp
              by_cases he : edD D jj k t
              · rw [gif_t he]
                rw [if_pos he] at hp
                simp only [q_stateAt, Option.bind_some]
                have u1 := ti_state (J := J + 1) (F := T) (j := jj + 1) (fr := t + 1) t2 (by rw [b3]; omega) (by omega) (by omega)
                rw [gd_t (inb_iff.mpr (by rw [u1]; omega)), show ix ((J + 1) * 25 + T + 1) = (jj + 1) * 25 + (t + 1) by rw [ix_eq, u1]; omega, nb1]
                refine ih3 (wI s4 66 0 ((jj + 1) * 25 + (t + 1)) 1, T + 1) ⟨t + 1, by omega, by omega, t3, MWd_w (by omega) b4, PL_w (by omega) b5, TM_next (by omega) (by omega) b6 (fun i o hi ho => ?_) (fun ho => ?_)⟩ (by simp only [t3, b3]; omega)
                · simp only at ho ⊢; rw [rI_ne (by omega)]; exact ho
                · simp only []
                  intro _
                  rw [rI_eq rfl, hp]
                  refine (bI_t ?_).symm
                  cases pcl D k (jj + 1) (t + 1) <;> simp [jn]
              · rw [gif_f he]
                rw [if_neg he] at hp
                refine ih3 (s4, T + 1) ⟨t + 1, by omega, by omega, t3, b4, b5, TM_next (by omega) (by omega) b6 (fun i o _ ho => ho) (fun ho => ?_)⟩ (by simp only [t3, b3]; omega)
                rw [hp]; exact ho
        · rw [gif_f hs]
          have j0 : jj = 0 := by
            rcases a6 with a6 | a6
            · exact absurd a6 hs
            · exact a6
          subst j0
          refine next s3 a3 a4 (TM0_skip (k := k) (fun fr j hf hj => ?_) (fun j t e => hs e.2.1))
          have := a5 fr j hf hj
          unfold stg2 at this
          rw [if_neg (by omega)] at this; exact this
      · rw [ti_lt, a2, hL] at g
        exact next s3 a3 a4 (TM_lim (l := l) (by omega) (fun i o hi hx => by omega) a5)
    · rw [ti_lt, k2, e2] at c
      have ek : k = 2 * D.n := by omega
      have V : ∀ j, j ≤ l → rI s2 66 0 (j * 25 + 2 * D.n) = bI (cD D j (2 * D.n) ≠ none) := fun j hj => by
        have := k5 (2 * D.n) j (by omega) (by omega) (by omega)
        rw [pcl_full (by omega)] at this; exact this
      clear ih
      refine ok_loop (K := fun n (p : Sg × Int32 × Int32) => m_isBy_b142 n p.1 L p.2.1 p.2.2) (I := fun p => p.1 = s2 ∧ ∃ j : Nat, j ≤ l + 1 ∧ p.2.2.toInt = j ∧ p.2.1 = bI (∃ i, i < j ∧ cD D i (2 * D.n) ≠ none))
        (μ := fun p => 26 - p.2.2.toInt.toNat) ?_ FU (s2, 0, 0) ⟨rfl, 0, by omega, rfl, (bI_f (fun ⟨i, h, _⟩ => by omega)).symm⟩ (by show _ < 20000; omega)
      rintro n ⟨s3, a, l3⟩ ⟨q0, j, j1, j2, j3⟩ ih
      simp only at q0 j1 j2 j3 ih
      subst q0
      show ok (m_isBy_b142_G _ _ _ s3 L a l3) _
      unfold m_isBy_b142_G
      subst j3
      simp only [gdbI, gifbI]
      refine ok_gif (fun c => ?_) (fun c => ?_)
      · rw [ti_lt, j2, hL] at c
        refine ok_some (bI_congr ⟨fun ⟨i, x, y⟩ => ⟨i, by omega, y⟩, fun ⟨i, x, y⟩ => ⟨i, by omega, y⟩⟩)
      · rw [ti_lt, j2, hL] at c
        have t1 : (l3 + 1).toInt = (j + 1 : Nat) := by rw [ti_add (by rw [j2, li_1]; omega) (by rw [j2, li_1]; omega), j2, li_1]; omega
        have go : ∀ v : Int32, v = bI (∃ i, i < j + 1 ∧ cD D i (2 * D.n) ≠ none) → ok (m_isBy_b142 n s3 L v (l3 + 1)) (fun q => q.2 = bI (∃ j, j ≤ l ∧ cD D j (2 * D.n) ≠ none)) :=
          fun v hv => ih (s3, v, l3 + 1) ⟨rfl, j + 1, by omega, t1, hv⟩ (by simp only [t1, j2]; omega)
        refine ok_gif (fun g => go 1 (bI_t (by obtain ⟨i, x, y⟩ := g; exact ⟨i, by omega, y⟩)).symm) (fun g => ?_)
        rw [e1]
        simp only [Option.bind_some, q_stateAt]
        have u := ti_state (J := l3) (F := lp) (j := j) (fr := 2 * D.n) j2 (by rw [e2]; omega) (by omega) (by omega)
        rw [gd_t (inb_iff.mpr (by rw [u]; omega)), show ix (l3 * 25 + lp + 1) = j * 25 + 2 * D.n by rw [ix_eq, u]; omega, V j (by omega), gifbI]
        refine ok_gif (fun x => go 1 (bI_t ⟨j, by omega, x⟩).symm) (fun x => go 0 (bI_f ?_).symm)
        rintro ⟨i, y, z⟩
        by_cases e : i = j
        · subst e; exact x z
        · exact g ⟨i, by omega, z⟩
  unfold m_isBy m_isBy_G
  refine ok_loop (K := fun n (p : Sg × Int32) => m_isBy_b2 n p.1 L p.2) (I := fun p => ∃ i : Nat, i ≤ 625 ∧ p.2.toInt = i ∧ MWd p.1 D ∧ PL p.1 D ask (2 * D.n) 0 0 ∧ ∀ i', i' < i → rI p.1 66 0 i' = 0)
    (μ := fun p => 626 - p.2.toInt.toNat) ?_ FU (s, 0) ⟨0, by omega, rfl, W, PLs, fun i' h => by omega⟩ (by show _ < 20000; omega)
  rintro n ⟨s2, x⟩ ⟨i, i1, i2, i3, i4, i5⟩ ih
  simp only at i1 i2 i3 i4 i5 ih
  show ok (m_isBy_b2_G _ _ _ s2 L x) _
  unfold m_isBy_b2_G
  refine ok_gif (fun c => ?_) (fun c => ?_)
  · rw [ti_lt, i2, k625] at c
    have t1 : (x + 1).toInt = (i + 1 : Nat) := by rw [ti_add (by rw [i2, li_1]; omega) (by rw [i2, li_1]; omega), i2, li_1]; omega
    rw [gd_t (inb_iff.mpr (by rw [i2]; omega)), show ix x = i by rw [ix_eq, i2]; omega, nb0]
    refine ih (wI s2 66 0 i 0, x + 1) ⟨i + 1, by omega, t1, MWd_w (by omega) i3, PL_w (by omega) i4, fun i' h => ?_⟩ (by simp only [t1, i2]; omega)
    simp only []
    by_cases e : i' = i
    · subst e; rw [rI_eq rfl]
    · rw [rI_ne (by omega)]; exact i5 i' (by omega)
  · rw [ti_lt, i2, k625] at c
    simp only [q_stateAt, Option.bind_some]
    have u := ti_state (J := 0) (F := -1) (j := 0) (fr := 0) rfl (by decide) (by omega) (by omega)
    rw [gd_t (inb_iff.mpr (by rw [u]; omega)), show ix (0 * 25 + -1 + 1) = 0 by rw [ix_eq, u]; rfl, nb1]
    refine tail _ (MWd_w (by omega) i3) (PL_w (by omega) i4) (fun fr j hf hj => ?_)
    rw [pcl_0]
    show _ → rI (wI s2 66 0 0 1) 66 0 (j * 25 + fr) = bI _
    intro _
    by_cases e : j = 0 ∧ fr = 0
    · rw [if_pos e, rI_eq (by omega), bI_t (by simp)]
    · rw [if_neg e, rI_ne (by omega), i5 _ (by omega), bI_f (fun x => x rfl)]
