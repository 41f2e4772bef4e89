/-! THE LEAST, backward, in the model -/
def BLv (D : Dom) (j fr : Nat) (v : Int) : Prop := (0 ≤ v ∧ v ≤ 100000000) ∧ (v < 100000000 → ∃ m, Bth D m j fr v) ∧ ∀ m c, Bth D m j fr c → c < 100000000 → v ≤ c
def BL (s : Sg) (D : Dom) (K : Nat) : Prop := ∀ fr j, K ≤ fr → fr ≤ 2 * D.n → j ≤ fr → BLv D j fr (rI s 64 0 (j * 25 + fr)).toInt
theorem Bth_0 {D : Dom} (R : RDD D) : ∀ {m j fr : Nat} {c : Int}, Bth D m j fr c → 0 ≤ c := by
  intro m
  induction m with
  | zero => intro j fr c h; have := h.2; omega
  | succ m ih =>
    intro j fr c h
    obtain ⟨to, c1, h1, h2, h3⟩ := Bth_s.mp h
    have := ih h2
    have := coD_r R h1.2.2.2 h1.2.2.1.1
    omega
theorem ok_least {s : Sg} {D : Dom} (R : RDD D) (W : MWd s D) (L : PL s D 1 (2 * D.n) 0 0) : ok (m_laysLeast s) (fun s' => MWd s' D ∧ PL s' D 1 (2 * D.n) 0 0 ∧ BL s' D 0) := by
  have n12 := W.1.2.1
  have km : (-1 : Int32).toInt = -1 := by decide
  have kb : (100000000 : Int32).toInt = 100000000 := by decide
  unfold m_laysLeast m_laysLeast_G
  obtain ⟨lp0, e01, e02⟩ := q_last W.1
  rw [e01]
  simp only [Option.bind_some]
  refine ok_loop (K := fun n (p : Sg × Int32) => m_laysLeast_b5 n p.1 p.2) (I := fun p => ∃ K : Nat, K ≤ 2 * D.n + 1 ∧ p.2.toInt = (K : Int) - 2 ∧ MWd p.1 D ∧ PL p.1 D 1 (2 * D.n) 0 0 ∧ BL p.1 D K)
    (μ := fun p => (p.2.toInt + 2).toNat) ?_ FU (s, lp0) ⟨2 * D.n + 1, Nat.le_refl _, by simp only [e02]; omega, W, L, fun fr j h1 h2 => by omega⟩ (by simp only [e02]; show _ < 20000; omega)
  rintro n ⟨s2, F⟩ ⟨K, k1, k2, k3, k4, k5⟩ ih
  simp only at k1 k2 k3 k4 k5 ih
  show ok (m_laysLeast_b5_G _ s2 F) _
  unfold m_laysLeast_b5_G
  refine ok_gif (fun c => ?_) (fun c => ?_)
  · rw [ti_lt, k2, km] at c
    exact ok_some ⟨k3, k4, by rw [show 0 = K by omega]; exact k5⟩
  · rw [ti_lt, k2, km] at c
    obtain ⟨k, rfl⟩ : ∃ k, K = k + 1 := ⟨K - 1, by omega⟩
    have hF : F.toInt = (k : Int) - 1 := by omega
    have t1 : (F + 1).toInt = k := by rw [ti_add (by rw [hF, li_1]; omega) (by rw [hF, li_1]; omega), hF, li_1]; omega
    have tm : (F - 1).toInt = (k : Int) - 2 := by rw [ti_sub (by rw [hF, li_1]; omega) (by rw [hF, li_1]; omega), hF, li_1]; omega
    refine ok_loop (K := fun m (p : Sg × Int32) => m_laysLeast_b12 (m_laysLeast_b5 n) m p.1 F p.2) (I := fun p => ∃ jj : Nat, jj ≤ k + 1 ∧ p.2.toInt = jj ∧ MWd p.1 D ∧ PL p.1 D 1 (2 * D.n) 0 0 ∧ BL p.1 D (k + 1) ∧ ∀ j, j < jj → BLv D j k (rI p.1 64 0 (j * 25 + k)).toInt)
      (μ := fun p => 26 - p.2.toInt.toNat) ?_ FU (s2, 0) ⟨0, by omega, rfl, k3, k4, k5, fun j hj => by omega⟩ (by show _ < 20000; omega)
    rintro m ⟨s3, J⟩ ⟨jj, a1, a2, a3, a4, a5, a6⟩ ih2
    simp only at a1 a2 a3 a4 a5 a6 ih2
    show ok (m_laysLeast_b12_G _ _ _ s3 F J) _
    unfold m_laysLeast_b12_G
    rw [am1]
    refine ok_gif (fun d => ?_) (fun d => ?_)
    · rw [ti_lt, t1, a2] at d
      refine ih (s3, F - 1) ⟨k, by omega, tm, a3, a4, fun fr j h1 h2 h3 => ?_⟩ (by simp only [tm, hF]; omega)
      by_cases e : fr = k
      · subst e; exact a6 j (by omega)
      · exact a5 fr j (by omega) h2 h3
    · rw [ti_lt, t1, a2] at d
      have t2 : (J + 1).toInt = (jj + 1 : Nat) := by rw [ti_add (by rw [a2, li_1]; omega) (by rw [a2, li_1]; omega), a2, li_1]; omega
      obtain ⟨lp, e1, e2⟩ := q_last a3.1
      rw [e1]
      simp only [Option.bind_some]
      -- the row
      have row : ∀ v0 : Int32, v0.toInt = (if k = 2 * D.n then 0 else 100000000) → ok (m_laysLeast_b40 (m_laysLeast_b5 n) (m_laysLeast_b12 (m_laysLeast_b5 n) m) FU s3 F J v0 (F + 1)) (fun s' => MWd s' D ∧ PL s' D 1 (2 * D.n) 0 0 ∧ BL s' D 0) := by
        intro v0 hv0
        refine ok_loop (K := fun d (p : Int32 × Int32) => m_laysLeast_b40 (m_laysLeast_b5 n) (m_laysLeast_b12 (m_laysLeast_b5 n) m) d s3 F J p.1 p.2) (I := fun p => ∃ t : Nat, k ≤ t ∧ t ≤ 2 * D.n ∧ p.2.toInt = t ∧ (0 ≤ p.1.toInt ∧ p.1.toInt ≤ 100000000) ∧ (k = 2 * D.n → p.1.toInt = 0) ∧ (p.1.toInt < 100000000 → ∃ m, Bth D m jj k p.1.toInt) ∧ ∀ m to c1, to < t → edD D jj k to → Bth D m (jj + 1) (to + 1) c1 → (coD D jj k to).toInt + c1 < 100000000 → p.1.toInt ≤ (coD D jj k to).toInt + c1)
          (μ := fun p => 26 - p.2.toInt.toNat) ?_ FU (v0, F + 1) ⟨k, Nat.le_refl _, by omega, t1, by simp only [hv0]; split <;> omega, fun z => by simp only [hv0, if_pos z], fun z => ?_, fun m to c1 h1 h2 => by have := h2.1; omega⟩ (by show _ < 20000; omega)
        · rintro d' ⟨v, T⟩ ⟨t, b1, b2, b3, b4, b5, b6, b7⟩ ih3
          simp only at b1 b2 b3 b4 b5 b6 b7 ih3
          show ok (m_laysLeast_b40_G _ _ _ _ _ _ _ _ s3 F J v T) _
          unfold m_laysLeast_b40_G
          rw [e1]
          simp only [Option.bind_some, q_stateAt, lss]
          have u2 := ti_state (J := J) (F := F) (j := jj) (fr := k) a2 hF (by omega) (by omega)
          have z2 : inb (J * 25 + F + 1) 625 := inb_iff.mpr (by rw [u2]; omega)
          have i2 : ix (J * 25 + F + 1) = jj * 25 + k := by rw [ix_eq, u2]; omega
          -- the row's end
          have fin : (∀ to, t ≤ to → ¬ edD D jj k to) → ok (m_laysLeast_b12 (m_laysLeast_b5 n) m (wI s3 64 0 (jj * 25 + k) v) F (J + 1)) (fun s' => MWd s' D ∧ PL s' D 1 (2 * D.n) 0 0 ∧ BL s' D 0) := by
            intro hno
            refine ih2 (wI s3 64 0 (jj * 25 + k) v, J + 1) ⟨jj + 1, by omega, t2, MWd_w (by omega) a3, PL_w (by omega) a4, fun fr j h1 h2 h3 => ?_, fun j hj => ?_⟩ (by simp only [t2, a2]; omega)
            · simp only []; rw [rI_ne (by omega)]; exact a5 fr j h1 h2 h3
            · simp only []
              by_cases e : j = jj
              · subst e
                rw [rI_eq rfl]
                refine ⟨b4, b6, fun m' c' hB hc => ?_⟩
                cases m' with
                | zero => have := hB.2; have := b5 hB.1; omega
                | succ m' =>
                  obtain ⟨to, c1, h1, h2, h3⟩ := Bth_s.mp hB
                  by_cases y : to < t
                  · have := b7 m' to c1 y h1 h2 (by omega); omega
                  · exact absurd h1 (hno to (by omega))
              · rw [rI_ne (by omega)]; exact a6 j (by omega)
          refine ok_gif (fun x => ?_) (fun x => ?_)
          · rw [ti_lt, e2, b3] at x
            rw [gd_t z2, i2]
            exact fin (fun to h1 h2 => by have := h2.2.2.1.1; omega)
          · rw [ti_lt, e2, b3] at x
            rw [q_isStart a3.1 hF (by omega)]
            simp only [Option.bind_some, gdB0, gdB1, gdbI, gifbI]
            by_cases hs : k = 0 ∨ plD D (k - 1)
            · rw [gif_t hs, q_canLine a3.1 a4 a2 hF b3 (by omega) b1 (by omega) hs]
              simp only [Option.bind_some, gdB0, gdB1, gdbI, gifbI]
              have t3 : (T + 1).toInt = (t + 1 : Nat) := by rw [ti_add (by rw [b3, li_1]; omega) (by rw [b3, li_1]; omega), b3, li_1]; omega
              by_cases he : edD D jj k t
              · rw [gif_t he]
                rw [show m_lineAt s3 J F T = some (s3, (J * 25 + F + 1) * 25 + T) from rfl]
                simp only [Option.bind_some]
                have u1 := ti_state (J := J + 1) (F := T) (j := jj + 1) (fr := t + 1) t2 (by rw [b3]; omega) (by omega) (by omega)
                have u3 := ti_line (J := J) (F := F) (T := T) a2 hF b3 (by omega) (by omega) (by omega)
                rw [gd_t (inb_iff.mpr (by rw [u3]; omega)), gd_t (inb_iff.mpr (by rw [u1]; omega)), show ix ((J + 1) * 25 + T + 1) = (jj + 1) * 25 + (t + 1) by rw [ix_eq, u1]; omega, show ix ((J * 25 + F + 1) * 25 + T) = (jj * 25 + k) * 25 + t by rw [ix_eq, u3]; omega]
                obtain ⟨p1, -⟩ := (a4 jj k t (by omega) b1 hs he.2.2.1 (by omega)).2 (by decide) he.2.2.2
                rw [p1]
                obtain ⟨q1, q2, q3⟩ := a5 (t + 1) (jj + 1) (by omega) (by omega) (by omega)
                have cr := coD_r R he.2.2.2 he.2.2.1.1
                have es : (coD D jj k t + rI s3 64 0 ((jj + 1) * 25 + (t + 1))).toInt = (coD D jj k t).toInt + (rI s3 64 0 ((jj + 1) * 25 + (t + 1))).toInt := ti_add (by omega) (by omega)
                generalize coD D jj k t + rI s3 64 0 ((jj + 1) * 25 + (t + 1)) = y at es ⊢
                have hk : k ≠ 2 * D.n := by omega
                -- what is kept is the lesser of the two
                have go : ∀ v' : Int32, (v'.toInt ≤ v.toInt ∧ v'.toInt ≤ y.toInt ∧ (v' = v ∨ v' = y)) → ok (m_laysLeast_b40 (m_laysLeast_b5 n) (m_laysLeast_b12 (m_laysLeast_b5 n) m) d' s3 F J v' (T + 1)) (fun s' => MWd s' D ∧ PL s' D 1 (2 * D.n) 0 0 ∧ BL s' D 0) := by
                  rintro v' ⟨g1, g2, g3⟩
                  refine ih3 (v', T + 1) ⟨t + 1, by omega, by omega, t3, ?_, fun z => absurd z hk, fun z => ?_, fun m' to c1 h1 h2 h3 h4 => ?_⟩ (by simp only [t3, b3]; omega)
                  · simp only []; rcases g3 with g3 | g3 <;> (rw [g3] at g1 g2 ⊢; omega)
                  · simp only at z ⊢
                    rcases g3 with g3 | g3
                    · rw [g3] at z ⊢; exact b6 z
                    · rw [g3, es] at z
                      obtain ⟨m', hm'⟩ := q2 (by omega)
                      rw [g3, es]
                      exact ⟨m' + 1, t, _, he, hm', rfl⟩
                  · simp only []
                    by_cases w : to = t
                    · subst w
                      have c0 := Bth_0 R h3
                      have := q3 m' c1 h3 (by omega)
                      omega
                    · have := b7 m' to c1 (by omega) h2 h3 h4; omega
                by_cases w : v < y
                · rw [if_pos w]; rw [ti_lt] at w; exact go v ⟨by omega, by omega, .inl rfl⟩
                · rw [if_neg w]; rw [ti_lt] at w; exact go y ⟨by omega, by omega, .inr rfl⟩
              · rw [gif_f he]
                refine ih3 (v, T + 1) ⟨t + 1, by omega, by omega, t3, b4, b5, b6, fun m' to c1 h1 h2 h3 h4 => ?_⟩ (by simp only [t3, b3]; omega)
                by_cases w : to = t
                · subst w; exact absurd h2 he
                · exact b7 m' to c1 (by omega) h2 h3 h4
            · rw [gif_f hs, gd_t z2, i2]
              exact fin (fun to _ h => hs h.2.1)
        · simp only [hv0] at z ⊢
          by_cases e : k = 2 * D.n
          · rw [if_pos e]; exact ⟨0, e, rfl⟩
          · rw [if_neg e] at z; omega
      refine ok_gif (fun x => row 0 ?_) (fun x => row 100000000 ?_)
      · rw [ti_eq, hF, e2] at x; rw [if_pos (by omega), li_0]
      · rw [ti_eq, hF, e2] at x; rw [if_neg (by omega), kb]
