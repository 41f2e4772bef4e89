/-! WAYS -/
def wy : Option Cl4 → Int64
  | none => 0
  | some c => c.1
theorem wy_jn {a : Option Cl4} {c : Cl4} {co pa T : Int32} : wy (jn a c co pa T) = wy a + c.1 := by cases a <;> rfl
theorem CR_wy {s : Sg} {bars : Int32} {i : Nat} {o : Option Cl4} (h : CR s bars i o) : rL s 27 0 i = wy o := by
  cases o with
  | none => exact h
  | some c => exact h.1
def lsum (v : Nat → Int64) : Nat → Int64
  | 0 => 0
  | k + 1 => lsum v k + v k
theorem lsum_s {v : Nat → Int64} {k : Nat} : lsum v (k + 1) = lsum v k + v k := rfl
theorem wy_step {D : Dom} {k t j : Nat} (h : k ≤ t) (e : edD D j k t) : wy (pcl D (k + 1) (j + 1) (t + 1)) = wy (pcl D k (j + 1) (t + 1)) + wy (cD D j k) := by
  rw [pcl_step h]
  cases cD D j k with
  | none => show _ = _ + (0 : Int64); rw [Int64.add_zero]
  | some c => simp only []; rw [if_pos e, wy_jn]; rfl
theorem ok_waysInAll {s : Sg} {bars : Int32} {D : Dom} (h : TF s bars D) (n12 : D.n ≤ 12) : ok (x5_waysInAll s) (fun q => q.1 = s ∧ q.2 = lsum (fun j => wy (cD D j (2 * D.n))) 25) := by
  unfold x5_waysInAll x5_waysInAll_G
  refine ok_loop (K := fun n (p : Sg × Int64 × Int32) => x5_waysInAll_b4 n p.1 p.2.1 p.2.2) (I := fun p => p.1 = s ∧ ∃ j : Nat, j ≤ 25 ∧ p.2.2.toInt = j ∧ p.2.1 = lsum (fun j => wy (cD D j (2 * D.n))) j)
    (μ := fun p => 26 - p.2.2.toInt.toNat) ?_ FU (s, 0, 0) ⟨rfl, 0, by omega, rfl, rfl⟩ (by show _ < 20000; omega)
  rintro n ⟨s2, l1, l3⟩ ⟨rfl, j, j1, j2, j3⟩ ih
  simp only at j1 j2 j3 ih
  show ok (x5_waysInAll_b4_G _ _ s2 l1 l3) _
  unfold x5_waysInAll_b4_G
  refine ok_gif (fun c => ?_) (fun c => ?_)
  · rw [ti_lt, j2, li_24] at c
    exact ok_some ⟨rfl, by simp only []; rw [j3, show j = 25 by omega]⟩
  · rw [ti_lt, j2, li_24] at c
    obtain ⟨v, hv, w⟩ := q_slot (s := s2) (a := rI s2 5 0 5) (fr := 2 * D.n) (by rw [h.1]; omega) (by omega) j2 (by omega)
    rw [hv]
    simp only [Option.bind_some]
    have km : (-1 : Int32).toInt = -1 := by decide
    have t1 : (l3 + 1).toInt = (j + 1 : Nat) := by rw [ti_add (by rw [j2, li_1]; omega) (by rw [j2, li_1]; omega), j2, li_1]; omega
    rw [gif_f (by rw [ti_eq, w, km]; omega), gd_t (inb_iff.mpr (by rw [w]; omega)), show ix v = 2 * D.n * 25 + j by rw [ix_eq, w]; omega, CR_wy (h.2 (2 * D.n) j (Nat.le_refl _) (by omega))]
    exact ih (s2, l1 + wy (cD D j (2 * D.n)), l3 + 1) ⟨rfl, j + 1, by omega, t1, by simp only []; rw [j3, lsum_s]⟩ (by simp only [t1, j2]; omega)
theorem ok_mways {s : Sg} {D : Dom} {ask : Int32} (W : MWd s D) (L : PL s D ask (2 * D.n) 0 0) : ok (m_ways_b14 FU s 0) (fun q => q.2 = lsum (fun j => wy (cD D j (2 * D.n))) 25) := by
  have n12 := W.1.2.1
  have km : (-1 : Int32).toInt = -1 := by decide
  have k625 : (625 : Int32).toInt = 625 := by decide
  -- the tail
  have tail : ∀ s1 : Sg, MWd s1 D → PL s1 D ask (2 * D.n) 0 0 → TM0 (fun i o => rL s1 65 0 i = wy o) D 0 → ok (m_ways_b47 FU s1 (-1)) (fun q => q.2 = lsum (fun j => wy (cD D j (2 * D.n))) 25) := by
    intro s1 W1 L1 B1
    refine ok_loop (K := fun n (p : Sg × Int32) => m_ways_b47 n p.1 p.2) (I := fun p => ∃ k : Nat, k ≤ 2 * D.n ∧ p.2.toInt = (k : Int) - 1 ∧ MWd p.1 D ∧ PL p.1 D ask (2 * D.n) 0 0 ∧ TM0 (fun i o => rL p.1 65 0 i = wy o) D k)
      (μ := fun p => 25 - (p.2.toInt + 1).toNat) ?_ FU (s1, -1) ⟨0, by omega, show (-1 : Int32).toInt = ((0 : Nat) : Int) - 1 by decide, W1, L1, B1⟩ (by show _ < 20000; omega)
    rintro n ⟨s2, F⟩ ⟨k, k1, k2, k3, k4, k5⟩ ih
    simp only at k1 k2 k3 k4 k5 ih
    show ok (m_ways_b47_G _ _ _ s2 F) _
    unfold m_ways_b47_G
    obtain ⟨lp, e1, e2⟩ := q_last k3.1
    rw [e1]
    simp only [Option.bind_some]
    have t1 : (F + 1).toInt = k := by rw [ti_add (by rw [k2, li_1]; omega) (by rw [k2, li_1]; omega), k2, li_1]; omega
    refine ok_gif (fun c => ?_) (fun c => ?_)
    · rw [ti_lt, k2, e2] at c
      have next : ∀ s3 : Sg, MWd s3 D → PL s3 D ask (2 * D.n) 0 0 → TM0 (fun i o => rL s3 65 0 i = wy o) D (k + 1) → ok (m_ways_b47 n s3 (F + 1)) (fun q => q.2 = lsum (fun j => wy (cD D j (2 * D.n))) 25) :=
        fun s3 W3 L3 B3 => ih (s3, F + 1) ⟨k + 1, by omega, by rw [t1]; omega, W3, L3, B3⟩ (by simp only [t1, k2]; omega)
      refine ok_loop (K := fun m (p : Sg × Int32) => m_ways_b57 (m_ways_b47 n) m p.1 F p.2) (I := fun p => ∃ jj : Nat, jj ≤ k + 1 ∧ p.2.toInt = jj ∧ MWd p.1 D ∧ PL p.1 D ask (2 * D.n) 0 0 ∧ TM (fun i o => rL p.1 65 0 i = wy o) D k jj 0 ∧ ((k = 0 ∨ plD D (k - 1)) ∨ jj = 0))
        (μ := fun p => 26 - p.2.toInt.toNat) ?_ FU (s2, 0) ⟨0, by omega, rfl, k3, k4, TM_of k5, .inr rfl⟩ (by show _ < 20000; omega)
      rintro m ⟨s3, J⟩ ⟨jj, a1, a2, a3, a4, a5, a6⟩ ih2
      simp only at a1 a2 a3 a4 a5 ih2
      show ok (m_ways_b57_G _ _ _ s3 F J) _
      unfold m_ways_b57_G
      refine ok_gif (fun d => ?_) (fun d => ?_)
      · rw [ti_lt, t1, a2] at d
        exact next s3 a3 a4 (TM_done (by omega) a5)
      · rw [ti_lt, t1, a2] at d
        rw [q_isStart a3.1 k2 (by omega)]
        simp only [Option.bind_some, gdB0, gdB1, gdbI, gifbI]
        by_cases hs : k = 0 ∨ plD D (k - 1)
        · rw [gif_t hs]
          have t2 : (J + 1).toInt = (jj + 1 : Nat) := by rw [ti_add (by rw [a2, li_1]; omega) (by rw [a2, li_1]; omega), a2, li_1]; omega
          refine ok_loop (K := fun d (p : Sg × Int32) => m_ways_b76 (m_ways_b47 n) (m_ways_b57 (m_ways_b47 n) m) d p.1 F J p.2) (I := fun p => ∃ t : Nat, k ≤ t ∧ t ≤ 2 * D.n ∧ p.2.toInt = t ∧ MWd p.1 D ∧ PL p.1 D ask (2 * D.n) 0 0 ∧ TM (fun i o => rL p.1 65 0 i = wy o) D k jj t)
            (μ := fun p => 26 - p.2.toInt.toNat) ?_ FU (s3, F + 1) ⟨k, Nat.le_refl _, k1, t1, a3, a4, TM_row0 a5⟩ (by show _ < 20000; omega)
          rintro d' ⟨s4, T⟩ ⟨t, b1, b2, b3, b4, b5, b6⟩ ih3
          simp only at b1 b2 b3 b4 b5 b6 ih3
          show ok (m_ways_b76_G _ _ _ _ _ s4 F J T) _
          unfold m_ways_b76_G
          obtain ⟨lp, e1, e2⟩ := q_last b4.1
          rw [e1]
          simp only [Option.bind_some]
          refine ok_gif (fun x => ?_) (fun x => ?_)
          · rw [ti_lt, e2, b3] at x
            exact ih2 (s4, J + 1) ⟨jj + 1, by omega, t2, b4, b5, TM_rowend b6 (fun t' h e => by have := e.2.2.1.1; omega), .inl hs⟩ (by simp only [t2, a2]; omega)
          · rw [ti_lt, e2, b3] at x
            have t3 : (T + 1).toInt = (t + 1 : Nat) := by rw [ti_add (by rw [b3, li_1]; omega) (by rw [b3, li_1]; omega), b3, li_1]; omega
            rw [q_canLine b4.1 b5 a2 k2 b3 (by omega) b1 (by omega) hs]
            simp only [Option.bind_some, gdB0, gdB1, gdbI, gifbI]
            by_cases he : edD D jj k t
            · rw [gif_t he]
              simp only [q_stateAt, Option.bind_some]
              have u1 := ti_state (J := J + 1) (F := T) (j := jj + 1) (fr := t + 1) t2 (by rw [b3]; omega) (by omega) (by omega)
              have u2 := ti_state (J := J) (F := F) (j := jj) (fr := k) a2 k2 (by omega) (by omega)
              have z1 : inb ((J + 1) * 25 + T + 1) 625 := inb_iff.mpr (by rw [u1]; omega)
              rw [gd_t z1, gd_t (inb_iff.mpr (by rw [u2]; omega)), gd_t z1, show ix ((J + 1) * 25 + T + 1) = (jj + 1) * 25 + (t + 1) by rw [ix_eq, u1]; omega, show ix (J * 25 + F + 1) = jj * 25 + k by rw [ix_eq, u2]; omega]
              have vc : rL s4 65 0 (jj * 25 + k) = wy (cD D jj k) := TM_cell b6 (by omega) (by omega)
              rw [vc]
              refine ih3 (wL s4 65 0 ((jj + 1) * 25 + (t + 1)) (rL s4 65 0 ((jj + 1) * 25 + (t + 1)) + wy (cD D jj k)), T + 1) ⟨t + 1, by omega, by omega, t3, MWd_c b4 rfl (fun c => rfl) (fun c => rfl), PL_c b5 (fun k c _ => rfl), TM_next (by omega) (by omega) b6 (fun i o hi ho => ?_) (fun ho => ?_)⟩ (by simp only [t3, b3]; omega)
              · simp only at ho ⊢; rw [rL_wL, if_neg (by omega)]; exact ho
              · simp only at ho ⊢; rw [rL_wL, if_pos ⟨rfl, rfl, rfl⟩, ho, wy_step b1 he]
            · rw [gif_f he]
              refine ih3 (s4, T + 1) ⟨t + 1, by omega, by omega, t3, b4, b5, TM_next (by omega) (by omega) b6 (fun i o _ ho => ho) (fun ho => ?_)⟩ (by simp only [t3, b3]; omega)
              rw [pcl_step b1]
              cases cD D jj k with
              | none => exact ho
              | some c => simp only []; rw [if_neg he]; exact ho
        · rw [gif_f hs]
          have j0 : jj = 0 := by
            rcases a6 with a6 | a6
            · exact absurd a6 hs
            · exact a6
          subst j0
          refine next s3 a3 a4 (TM0_skip (k := k) (fun fr j hf hj => ?_) (fun j t e => hs e.2.1))
          have := a5 fr j hf hj
          unfold stg2 at this
          rw [if_neg (by omega)] at this; exact this
    · rw [ti_lt, k2, e2] at c
      have ek : k = 2 * D.n := by omega
      have V : ∀ j, j ≤ 24 → rL s2 65 0 (j * 25 + 2 * D.n) = wy (cD D j (2 * D.n)) := fun j hj => by
        have := k5 (2 * D.n) j (by omega) hj
        rw [pcl_full (by omega)] at this; exact this
      clear ih
      refine ok_loop (K := fun n (p : Sg × Int64 × Int32) => m_ways_b141 n p.1 p.2.1 p.2.2) (I := fun p => p.1 = s2 ∧ ∃ j : Nat, j ≤ 25 ∧ p.2.2.toInt = j ∧ p.2.1 = lsum (fun j => wy (cD D j (2 * D.n))) j)
        (μ := fun p => 26 - p.2.2.toInt.toNat) ?_ FU (s2, 0, 0) ⟨rfl, 0, by omega, rfl, rfl⟩ (by show _ < 20000; omega)
      rintro n ⟨s3, l1, l3⟩ ⟨q0, j, j1, j2, j3⟩ ih
      simp only at q0 j1 j2 j3 ih
      subst q0
      show ok (m_ways_b141_G _ _ _ s3 l1 l3) _
      unfold m_ways_b141_G
      refine ok_gif (fun c => ?_) (fun c => ?_)
      · rw [ti_lt, j2, li_24] at c
        exact ok_some (by simp only []; rw [j3, show j = 25 by omega])
      · rw [ti_lt, j2, li_24] at c
        rw [e1]
        simp only [Option.bind_some, q_stateAt]
        have u := ti_state (J := l3) (F := lp) (j := j) (fr := 2 * D.n) j2 (by rw [e2]; omega) (by omega) (by omega)
        have t1 : (l3 + 1).toInt = (j + 1 : Nat) := by rw [ti_add (by rw [j2, li_1]; omega) (by rw [j2, li_1]; omega), j2, li_1]; omega
        rw [gd_t (inb_iff.mpr (by rw [u]; omega)), show ix (l3 * 25 + lp + 1) = j * 25 + 2 * D.n by rw [ix_eq, u]; omega, V j (by omega)]
        exact ih (s3, l1 + wy (cD D j (2 * D.n)), l3 + 1) ⟨rfl, j + 1, by omega, t1, by simp only []; rw [j3, lsum_s]⟩ (by simp only [t1, j2]; omega)
  refine ok_loop (K := fun n (p : Sg × Int32) => m_ways_b14 n p.1 p.2) (I := fun p => ∃ i : Nat, i ≤ 625 ∧ p.2.toInt = i ∧ MWd p.1 D ∧ PL p.1 D ask (2 * D.n) 0 0 ∧ ∀ i', i' < i → rL p.1 65 0 i' = 0)
    (μ := fun p => 626 - p.2.toInt.toNat) ?_ FU (s, 0) ⟨0, by omega, rfl, W, L, fun i' h => by omega⟩ (by show _ < 20000; omega)
  rintro n ⟨s2, l⟩ ⟨i, i1, i2, i3, i4, i5⟩ ih
  simp only at i1 i2 i3 i4 i5 ih
  show ok (m_ways_b14_G _ _ _ s2 l) _
  unfold m_ways_b14_G
  refine ok_gif (fun c => ?_) (fun c => ?_)
  · rw [ti_lt, i2, k625] at c
    have t1 : (l + 1).toInt = (i + 1 : Nat) := by rw [ti_add (by rw [i2, li_1]; omega) (by rw [i2, li_1]; omega), i2, li_1]; omega
    rw [gd_t (inb_iff.mpr (by rw [i2]; omega)), show ix l = i by rw [ix_eq, i2]; omega]
    refine ih (wL s2 65 0 i 0, l + 1) ⟨i + 1, by omega, t1, MWd_c i3 rfl (fun c => rfl) (fun c => rfl), PL_c i4 (fun k c _ => rfl), fun i' h => ?_⟩ (by simp only [t1, i2]; omega)
    simp only []
    rw [rL_wL]
    by_cases e : i' = i
    · rw [if_pos ⟨rfl, rfl, e⟩]
    · rw [if_neg (by omega)]; exact i5 i' (by omega)
  · rw [ti_lt, i2, k625] at c
    simp only [q_stateAt, Option.bind_some]
    have u := ti_state (J := 0) (F := -1) (j := 0) (fr := 0) rfl (by decide) (by omega) (by omega)
    rw [gd_t (inb_iff.mpr (by rw [u]; omega)), show ix (0 * 25 + -1 + 1) = 0 by rw [ix_eq, u]; rfl]
    refine tail _ (MWd_c i3 rfl (fun c => rfl) (fun c => rfl)) (PL_c i4 (fun k c _ => rfl)) (fun fr j hf hj => ?_)
    rw [pcl_0]
    show rL (wL s2 65 0 0 1) 65 0 (j * 25 + fr) = wy _
    rw [rL_wL]
    by_cases e : j = 0 ∧ fr = 0
    · rw [if_pos e, if_pos (by omega)]; rfl
    · rw [if_neg e, if_neg (by omega), i5 _ (by omega)]; rfl
