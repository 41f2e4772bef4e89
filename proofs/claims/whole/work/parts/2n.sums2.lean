/-! SUMS, the model's pass -/
theorem MWd_w {s : Sg} {D : Dom} {k i c : Nat} {v : Int32} (hk : 60 < k) (h : MWd s D) : MWd (wI s k i c v) D :=
  MWd_c h (rI_ne (by omega)) (fun c => rI_ne (by omega)) (fun c => rI_ne (by omega))
theorem PL_w {s : Sg} {D : Dom} {ask : Int32} {k t jj k' i c : Nat} {v : Int32} (hk : 63 < k') (h : PL s D ask k t jj) : PL (wI s k' i c v) D ask k t jj :=
  PL_c h (fun k c _ => rI_ne (by omega))
theorem ok_sums {s : Sg} {D : Dom} {w : Nat} {l1 : Int32} (hw : w ≤ 1) (hl : l1.toInt = w) (R : RDD D) (W : MWd s D) (L : PL s D 1 (2 * D.n) 0 0) : ok (m_laysSums s l1) (fun s' => MWd s' D ∧ ∀ fr j, fr ≤ 2 * D.n → j ≤ 24 → rI s' 64 0 (j * 25 + fr) = cs w (cD D j fr)) := by
  have n12 := W.1.2.1
  have km : (-1 : Int32).toInt = -1 := by decide
  have k625 : (625 : Int32).toInt = 625 := by decide
  have kb : (100000000 : Int32).toInt = 100000000 := by decide
  have kc : (-100000000 : Int32).toInt = -100000000 := by decide
  have lw : l1 = 0 ↔ w = 0 := by rw [ti_eq, hl, li_0]; omega
  have tail : ∀ s1 : Sg, MWd s1 D → PL s1 D 1 (2 * D.n) 0 0 → TM0 (fun i o => rI s1 64 0 i = cs w o) D 0 → ok (m_laysSums_b47 FU s1 l1 (-1)) (fun s' => MWd s' D ∧ ∀ fr j, fr ≤ 2 * D.n → j ≤ 24 → rI s' 64 0 (j * 25 + fr) = cs w (cD D j fr)) := by
    intro s1 W1 L1 B1
    refine ok_loop (K := fun n (p : Sg × Int32) => m_laysSums_b47 n p.1 l1 p.2) (I := fun p => ∃ k : Nat, k ≤ 2 * D.n ∧ p.2.toInt = (k : Int) - 1 ∧ MWd p.1 D ∧ PL p.1 D 1 (2 * D.n) 0 0 ∧ TM0 (fun i o => rI p.1 64 0 i = cs w o) D k)
      (μ := fun p => 25 - (p.2.toInt + 1).toNat) ?_ FU (s1, -1) ⟨0, by omega, show (-1 : Int32).toInt = ((0 : Nat) : Int) - 1 by decide, W1, L1, B1⟩ (by show _ < 20000; omega)
    rintro n ⟨s2, F⟩ ⟨k, k1, k2, k3, k4, k5⟩ ih
    simp only at k1 k2 k3 k4 k5 ih
    show ok (m_laysSums_b47_G _ _ s2 l1 F) _
    unfold m_laysSums_b47_G
    obtain ⟨lp, e1, e2⟩ := q_last k3.1
    rw [e1]
    simp only [Option.bind_some]
    have t1 : (F + 1).toInt = k := by rw [ti_add (by rw [k2, li_1]; omega) (by rw [k2, li_1]; omega), k2, li_1]; omega
    refine ok_gif (fun c => ?_) (fun c => ?_)
    · rw [ti_lt, k2, e2] at c
      have next : ∀ s3 : Sg, MWd s3 D → PL s3 D 1 (2 * D.n) 0 0 → TM0 (fun i o => rI s3 64 0 i = cs w o) D (k + 1) → ok (m_laysSums_b47 n s3 l1 (F + 1)) (fun s' => MWd s' D ∧ ∀ fr j, fr ≤ 2 * D.n → j ≤ 24 → rI s' 64 0 (j * 25 + fr) = cs w (cD D j fr)) :=
        fun s3 W3 L3 B3 => ih (s3, F + 1) ⟨k + 1, by omega, by rw [t1]; omega, W3, L3, B3⟩ (by simp only [t1, k2]; omega)
      refine ok_loop (K := fun m (p : Sg × Int32) => m_laysSums_b57 (m_laysSums_b47 n) m p.1 l1 F p.2) (I := fun p => ∃ jj : Nat, jj ≤ k + 1 ∧ p.2.toInt = jj ∧ MWd p.1 D ∧ PL p.1 D 1 (2 * D.n) 0 0 ∧ TM (fun i o => rI p.1 64 0 i = cs w o) D k jj 0 ∧ ((k = 0 ∨ plD D (k - 1)) ∨ jj = 0))
        (μ := fun p => 26 - p.2.toInt.toNat) ?_ FU (s2, 0) ⟨0, by omega, rfl, k3, k4, TM_of k5, .inr rfl⟩ (by show _ < 20000; omega)
      rintro m ⟨s3, J⟩ ⟨jj, a1, a2, a3, a4, a5, a6⟩ ih2
      simp only at a1 a2 a3 a4 a5 ih2
      show ok (m_laysSums_b57_G _ _ _ _ s3 l1 F J) _
      unfold m_laysSums_b57_G
      refine ok_gif (fun d => ?_) (fun d => ?_)
      · rw [ti_lt, t1, a2] at d
        exact next s3 a3 a4 (TM_done (by omega) a5)
      · rw [ti_lt, t1, a2] at d
        rw [q_isStart a3.1 k2 (by omega)]
        simp only [Option.bind_some, gdB0, gdB1, gdbI, gifbI]
        by_cases hs : k = 0 ∨ plD D (k - 1)
        · rw [gif_t hs]
          have t2 : (J + 1).toInt = (jj + 1 : Nat) := by rw [ti_add (by rw [a2, li_1]; omega) (by rw [a2, li_1]; omega), a2, li_1]; omega
          simp only [q_stateAt, Option.bind_some]
          have u2 := ti_state (J := J) (F := F) (j := jj) (fr := k) a2 k2 (by omega) (by omega)
          have z2 : inb (J * 25 + F + 1) 625 := inb_iff.mpr (by rw [u2]; omega)
          have i2 : ix (J * 25 + F + 1) = jj * 25 + k := by rw [ix_eq, u2]; omega
          have vc : rI s3 64 0 (jj * 25 + k) = cs w (cD D jj k) := TM_cell a5 (by omega) (by omega)
          rw [gd_t z2, i2, vc]
          refine ok_loop (K := fun d (p : Sg × Int32) => m_laysSums_b89 (m_laysSums_b47 n) (m_laysSums_b57 (m_laysSums_b47 n) m) d p.1 l1 F J (cs w (cD D jj k)) p.2) (I := fun p => ∃ t : Nat, k ≤ t ∧ t ≤ 2 * D.n ∧ p.2.toInt = t ∧ MWd p.1 D ∧ PL p.1 D 1 (2 * D.n) 0 0 ∧ TM (fun i o => rI p.1 64 0 i = cs w o) D k jj t)
            (μ := fun p => 26 - p.2.toInt.toNat) ?_ FU (s3, F + 1) ⟨k, Nat.le_refl _, k1, t1, a3, a4, TM_row0 a5⟩ (by show _ < 20000; omega)
          rintro d' ⟨s4, T⟩ ⟨t, b1, b2, b3, b4, b5, b6⟩ ih3
          simp only at b1 b2 b3 b4 b5 b6 ih3
          show ok (m_laysSums_b89_G _ _ _ _ _ s4 l1 F J (cs w (cD D jj k)) T) _
          unfold m_laysSums_b89_G
          obtain ⟨lp, e1, e2⟩ := q_last b4.1
          rw [e1]
          simp only [Option.bind_some]
          refine ok_gif (fun x => ?_) (fun x => ?_)
          · rw [ti_lt, e2, b3] at x
            exact ih2 (s4, J + 1) ⟨jj + 1, by omega, t2, b4, b5, TM_rowend b6 (fun t' h e => by have := e.2.2.1.1; omega), .inl hs⟩ (by simp only [t2, a2]; omega)
          · rw [ti_lt, e2, b3] at x
            have t3 : (T + 1).toInt = (t + 1 : Nat) := by rw [ti_add (by rw [b3, li_1]; omega) (by rw [b3, li_1]; omega), b3, li_1]; omega
            cases hc : cD D jj k with
            | none =>
              have goend : ok (m_laysSums_b57 (m_laysSums_b47 n) m s4 l1 F (J + 1)) (fun s' => MWd s' D ∧ ∀ fr j, fr ≤ 2 * D.n → j ≤ 24 → rI s' 64 0 (j * 25 + fr) = cs w (cD D j fr)) :=
                ih2 (s4, J + 1) ⟨jj + 1, by omega, t2, b4, b5, TM_rownone b6 hc, .inl hs⟩ (by simp only [t2, a2]; omega)
              by_cases w0 : w = 0
              · rw [show cs w none = (100000000 : Int32) from if_pos w0, gif_t rfl]; exact goend
              · rw [show cs w none = (-100000000 : Int32) from if_neg w0, gif_f (by rw [ti_eq, kb, kc]; omega), gif_t rfl]; exact goend
            | some c =>
              have bc := cD_b R jj (by omega) k c hc
              unfold bnd at bc
              have rc : 0 ≤ (cs w (some c)).toInt ∧ (cs w (some c)).toInt ≤ 30000 := by
                unfold cs; simp only []; split <;> omega
              rw [gif_f (by rw [ti_eq, kb]; omega), gif_f (by rw [ti_eq, kc]; omega), q_canLine b4.1 b5 a2 k2 b3 (by omega) b1 (by omega) hs]
              simp only [Option.bind_some, gdB0, gdB1, gdbI, gifbI]
              by_cases he : edD D jj k t
              · rw [gif_t he]
                have u1 := ti_state (J := J + 1) (F := T) (j := jj + 1) (fr := t + 1) t2 (by rw [b3]; omega) (by omega) (by omega)
                have u3 := ti_line (J := J) (F := F) (T := T) a2 k2 b3 (by omega) (by omega) (by omega)
                have z1 : inb ((J + 1) * 25 + T + 1) 625 := inb_iff.mpr (by rw [u1]; omega)
                have z3 : inb ((J * 25 + F + 1) * 25 + T) 15625 := inb_iff.mpr (by rw [u3]; omega)
                have i1 : ix ((J + 1) * 25 + T + 1) = (jj + 1) * 25 + (t + 1) := by rw [ix_eq, u1]; omega
                have i3 : ix ((J * 25 + F + 1) * 25 + T) = (jj * 25 + k) * 25 + t := by rw [ix_eq, u3]; omega
                have vc4 : rI s4 64 0 (jj * 25 + k) = cs w (some c) := by rw [← hc]; exact TM_cell b6 (by omega) (by omega)
                have old : rI s4 64 0 ((jj + 1) * 25 + (t + 1)) = cs w (pcl D k (jj + 1) (t + 1)) := by
                  have := b6 (t + 1) (jj + 1) (by omega) (by omega)
                  unfold stg2 at this
                  rw [if_neg (by omega)] at this; exact this
                obtain ⟨p1, p2⟩ := (b5 jj k t (by omega) b1 hs he.2.2.1 (by omega)).2 (by decide) he.2.2.2
                have st := cs_step R hw (by omega) b1 he hc
                have em : m_takesSum s4 J F T l1 = some (wI s4 64 0 ((jj + 1) * 25 + (t + 1)) (cs w (pcl D (k + 1) (jj + 1) (t + 1)))) := by
                  unfold m_takesSum m_takesSum_G
                  rw [st]
                  simp only [q_stateAt, Option.bind_some, show m_lineAt s4 J F T = some (s4, (J * 25 + F + 1) * 25 + T) from rfl, gd_t z1, gd_t z2, gd_t z3, i1, i2, i3, lss, grt, vc4, old, p1, p2]
                  rcases (by omega : w = 0 ∨ w = 1) with rfl | rfl
                  · rw [gif_t (lw.mpr rfl), if_pos rfl]; rfl
                  · rw [gif_f (fun z => by have := lw.mp z; omega), if_neg (by omega)]; rfl
                rw [em]
                simp only [Option.bind_some]
                rw [← hc]
                refine ih3 (wI s4 64 0 ((jj + 1) * 25 + (t + 1)) (cs w (pcl D (k + 1) (jj + 1) (t + 1))), T + 1) ⟨t + 1, by omega, by omega, t3, MWd_w (by omega) b4, PL_w (by omega) b5, TM_next (by omega) (by omega) b6 (fun i o hi ho => ?_) (fun ho => ?_)⟩ (by simp only [t3, b3]; omega)
                · simp only at ho ⊢; rw [rI_ne (by omega)]; exact ho
                · simp only at ho ⊢; rw [rI_eq rfl]
              · rw [gif_f he, ← hc]
                refine ih3 (s4, T + 1) ⟨t + 1, by omega, by omega, t3, b4, b5, TM_next (by omega) (by omega) b6 (fun i o _ ho => ho) (fun ho => ?_)⟩ (by simp only [t3, b3]; omega)
                rw [pcl_step b1, hc]
                simp only []; rw [if_neg he]; exact ho
        · rw [gif_f hs]
          have j0 : jj = 0 := by
            rcases a6 with a6 | a6
            · exact absurd a6 hs
            · exact a6
          subst j0
          refine next s3 a3 a4 (TM0_skip (k := k) (fun fr j hf hj => ?_) (fun j t e => hs e.2.1))
          have := a5 fr j hf hj
          unfold stg2 at this
          rw [if_neg (by omega)] at this; exact this
    · rw [ti_lt, k2, e2] at c
      refine ok_some ⟨k3, fun fr j hf hj => ?_⟩
      have := k5 fr j (by omega) hj
      rw [pcl_full (by omega)] at this; exact this
  unfold m_laysSums m_laysSums_G
  refine ok_loop (K := fun n (p : Sg × Int32) => m_laysSums_b2 n p.1 l1 p.2) (I := fun p => ∃ i : Nat, i ≤ 625 ∧ p.2.toInt = i ∧ MWd p.1 D ∧ PL p.1 D 1 (2 * D.n) 0 0 ∧ ∀ i', i' < i → rI p.1 64 0 i' = cs w none)
    (μ := fun p => 626 - p.2.toInt.toNat) ?_ FU (s, 0) ⟨0, by omega, rfl, W, L, fun i' h => by omega⟩ (by show _ < 20000; omega)
  rintro n ⟨s2, l⟩ ⟨i, i1, i2, i3, i4, i5⟩ ih
  simp only at i1 i2 i3 i4 i5 ih
  show ok (m_laysSums_b2_G _ _ _ s2 l1 l) _
  unfold m_laysSums_b2_G
  refine ok_gif (fun c => ?_) (fun c => ?_)
  · rw [ti_lt, i2, k625] at c
    have t1 : (l + 1).toInt = (i + 1 : Nat) := by rw [ti_add (by rw [i2, li_1]; omega) (by rw [i2, li_1]; omega), i2, li_1]; omega
    have bl : inb l 625 := inb_iff.mpr (by rw [i2]; omega)
    rw [gd_t bl, gd_t bl, show ix l = i by rw [ix_eq, i2]; omega]
    have go : ∀ v : Int32, v = cs w none → ok (m_laysSums_b2 n (wI s2 64 0 i v) l1 (l + 1)) (fun s' => MWd s' D ∧ ∀ fr j, fr ≤ 2 * D.n → j ≤ 24 → rI s' 64 0 (j * 25 + fr) = cs w (cD D j fr)) := by
      intro v hv
      refine ih (wI s2 64 0 i v, l + 1) ⟨i + 1, by omega, t1, MWd_w (by omega) i3, PL_w (by omega) i4, fun i' h => ?_⟩ (by simp only [t1, i2]; omega)
      simp only []
      by_cases e : i' = i
      · subst e; rw [rI_eq rfl, hv]
      · rw [rI_ne (by omega)]; exact i5 i' (by omega)
    refine ok_gif (fun d => go _ ?_) (fun d => go _ ?_)
    · unfold cs; rw [if_pos (lw.mp d)]
    · unfold cs; rw [if_neg (fun z => d (lw.mpr z))]
  · rw [ti_lt, i2, k625] at c
    simp only [q_stateAt, Option.bind_some]
    have u := ti_state (J := 0) (F := -1) (j := 0) (fr := 0) rfl (by decide) (by omega) (by omega)
    rw [gd_t (inb_iff.mpr (by rw [u]; omega)), show ix (0 * 25 + -1 + 1) = 0 by rw [ix_eq, u]; rfl]
    refine tail _ (MWd_w (by omega) i3) (PL_w (by omega) i4) (fun fr j hf hj => ?_)
    rw [pcl_0]
    show rI (wI s2 64 0 0 0) 64 0 (j * 25 + fr) = cs w _
    by_cases e : j = 0 ∧ fr = 0
    · rw [if_pos e, rI_eq (by omega)]; unfold cs; simp only [ite_self]
    · rw [if_neg e, rI_ne (by omega), i5 _ (by omega)]
