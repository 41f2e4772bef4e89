/-! THE BEST COSTS of both -/
theorem ok_bestSlot {s : Sg} {D : Dom} (T : TF s 0 D) (n12 : D.n ≤ 12) : ok (x5_bestSlot s) (fun q => q.1 = s ∧ ((q.2 = -1 ∧ ∀ j, j ≤ 24 → cD D j (2 * D.n) = none) ∨ ∃ j d, j ≤ 24 ∧ cD D j (2 * D.n) = some d ∧ q.2.toInt = (2 * D.n * 25 + j : Nat) ∧ ∀ i d', i ≤ 24 → cD D i (2 * D.n) = some d' → d.2.1.toInt ≤ d'.2.1.toInt)) := by
  have km : (-1 : Int32).toInt = -1 := by decide
  unfold x5_bestSlot x5_bestSlot_G
  refine ok_loop (K := fun n (p : Sg × Int32 × Int32) => x5_bestSlot_b4 n p.1 p.2.1 p.2.2) (I := fun p => p.1 = s ∧ ∃ k : Nat, k ≤ 25 ∧ p.2.2.toInt = k ∧ ((p.2.1 = -1 ∧ ∀ j, j < k → cD D j (2 * D.n) = none) ∨ ∃ j d, j < k ∧ cD D j (2 * D.n) = some d ∧ p.2.1.toInt = (2 * D.n * 25 + j : Nat) ∧ ∀ i d', i < k → cD D i (2 * D.n) = some d' → d.2.1.toInt ≤ d'.2.1.toInt))
    (μ := fun p => 26 - p.2.2.toInt.toNat) ?_ FU (s, -1, 0) ⟨rfl, 0, by omega, rfl, .inl ⟨rfl, fun j hj => by omega⟩⟩ (by show _ < 20000; omega)
  rintro n ⟨s2, l1, l2⟩ ⟨q0, k, k1, k2, k3⟩ ih
  simp only at q0 k1 k2 k3 ih
  subst q0
  show ok (x5_bestSlot_b4_G _ _ _ s2 l1 l2) _
  unfold x5_bestSlot_b4_G
  refine ok_gif (fun c => ?_) (fun c => ?_)
  · rw [ti_lt, k2, li_24] at c
    refine ok_some ⟨rfl, ?_⟩
    rcases k3 with ⟨a, b⟩ | ⟨j, d, a, b, e, g⟩
    · exact .inl ⟨a, fun j hj => b j (by omega)⟩
    · exact .inr ⟨j, d, by omega, b, e, fun i d' hi => g i d' (by omega)⟩
  · rw [ti_lt, k2, li_24] at c
    obtain ⟨v, hv, w⟩ := q_slot (s := s2) (a := rI s2 5 0 5) (fr := 2 * D.n) (by rw [T.1]; omega) (by omega) k2 (by omega)
    have t1 : (l2 + 1).toInt = (k + 1 : Nat) := by rw [ti_add (by rw [k2, li_1]; omega) (by rw [k2, li_1]; omega), k2, li_1]; omega
    have bv : inb v 625 := inb_iff.mpr (by rw [w]; omega)
    have cr := T.2 (2 * D.n) k (Nat.le_refl _) (by omega)
    rw [hv]
    simp only [Option.bind_some, gd_t bv]
    rw [gif_f (by rw [ti_eq, w, km]; omega), show ix v = 2 * D.n * 25 + k by rw [ix_eq, w]; omega, CR_wy cr]
    cases hc : cD D k (2 * D.n) with
    | none =>
      rw [gif_t (by rw [cmp_eq]; rfl)]
      refine ih (s2, l1, l2 + 1) ⟨rfl, k + 1, by omega, t1, ?_⟩ (by simp only [t1, k2]; omega)
      rcases k3 with ⟨a, b⟩ | ⟨j, d, a, b, e, g⟩
      · refine .inl ⟨a, fun j hj => ?_⟩
        by_cases z : j = k
        · subst z; exact hc
        · exact b j (by omega)
      · refine .inr ⟨j, d, by omega, b, e, fun i d' hi hd => ?_⟩
        by_cases z : i = k
        · subst z; rw [hc] at hd; exact absurd hd (by simp)
        · exact g i d' (by omega) hd
    | some d =>
      have dw : d.1 ≠ 0 := by
        have := cell_pos hc (by omega)
        intro z; rw [z] at this; exact absurd this (by decide)
      rw [hc] at cr
      obtain ⟨r1, r2, r3⟩ := cr.2 rfl
      rw [gif_f (by rw [cmp_eq]; exact dw), r1, r2]
      rcases k3 with ⟨a, b⟩ | ⟨j, d0, a, b, e, g⟩
      · rw [gif_t a]
        refine ih (s2, v, l2 + 1) ⟨rfl, k + 1, by omega, t1, .inr ⟨k, d, by omega, hc, w, fun i d' hi hd => ?_⟩⟩ (by simp only [t1, k2]; omega)
        by_cases z : i = k
        · subst z; rw [hc] at hd; simp only [Option.some.injEq] at hd; subst hd; omega
        · rw [b i (by omega)] at hd; exact absurd hd (by simp)
      · rw [gif_f (by rw [ti_eq, e, km]; omega), q_isBetter e (by omega)]
        simp only [Option.bind_some, gdB0, gdB1, gdbI, gifbI]
        have c0 := T.2 (2 * D.n) j (Nat.le_refl _) (by omega)
        rw [b] at c0
        obtain ⟨s1, s2', s3⟩ := c0.2 rfl
        rw [s1, s2']
        refine ok_gif (fun x => ?_) (fun x => ?_)
        · have le : d.2.1.toInt ≤ d0.2.1.toInt := by
            unfold bet at x
            by_cases y : d.2.1 = d0.2.1
            · rw [y]; omega
            · rw [if_neg y, ti_lt] at x; omega
          refine ih (s2, v, l2 + 1) ⟨rfl, k + 1, by omega, t1, .inr ⟨k, d, by omega, hc, w, fun i d' hi hd => ?_⟩⟩ (by simp only [t1, k2]; omega)
          by_cases z : i = k
          · subst z; rw [hc] at hd; simp only [Option.some.injEq] at hd; subst hd; omega
          · have := g i d' (by omega) hd; omega
        · have le : d0.2.1.toInt ≤ d.2.1.toInt := by
            unfold bet at x
            by_cases y : d.2.1 = d0.2.1
            · rw [y]; omega
            · rw [if_neg y, ti_lt] at x; omega
          refine ih (s2, l1, l2 + 1) ⟨rfl, k + 1, by omega, t1, .inr ⟨j, d0, by omega, b, e, fun i d' hi hd => ?_⟩⟩ (by simp only [t1, k2]; omega)
          by_cases z : i = k
          · subst z; rw [hc] at hd; simp only [Option.some.injEq] at hd; subst hd; omega
          · exact g i d' (by omega) hd
/-- the least cost of a setting, or -1 -/
def Bst (D : Dom) (r : Int32) : Prop := (r = -1 ∧ ∀ m c, ¬ Pth D m (2 * D.n) c) ∨ (∃ m, Pth D m (2 * D.n) r.toInt) ∧ ∀ m c, Pth D m (2 * D.n) c → r.toInt ≤ c
theorem ok_bestCosts {s : Sg} {D : Dom} (R : RDD D) (T : TF s 0 D) : ok (x5_bestCosts s) (fun q => q.1 = s ∧ Bst D q.2) := by
  have n12 := R.2.1
  have km : (-1 : Int32).toInt = -1 := by decide
  have small : ∀ m c, Pth D m (2 * D.n) c → m ≤ 24 := fun m c h => by have := Pth_le h; omega
  unfold x5_bestCosts x5_bestCosts_G
  refine ok_bind (ok_mono (ok_bestSlot T n12) (fun q ⟨e, h⟩ => ?_))
  rcases h with ⟨a, b⟩ | ⟨j, d, j24, hc, w, g⟩
  · rw [gif_t a]
    refine ok_some ⟨e, .inl ⟨rfl, fun m c h => ?_⟩⟩
    exact (cD_lc R m (small m c h) (2 * D.n)).2 (b m (small m c h)) c h
  · rw [gif_f (by rw [ti_eq, w, km]; omega), gd_t (inb_iff.mpr (by rw [w]; omega)), show ix q.2 = 2 * D.n * 25 + j by rw [ix_eq, w]; omega]
    have cr := T.2 (2 * D.n) j (Nat.le_refl _) j24
    rw [hc] at cr
    refine ok_some ⟨e, .inr ?_⟩
    simp only []
    rw [e, (cr.2 rfl).1]
    have p := (cD_lc R j j24 (2 * D.n)).1 d hc
    refine ⟨⟨j, p.1⟩, fun m c h => ?_⟩
    have L := cD_lc R m (small m c h) (2 * D.n)
    cases hm : cD D m (2 * D.n) with
    | none => exact absurd h (L.2 hm c)
    | some d' =>
      have := (L.1 d' hm).2 c h
      have := g m d' (small m c h) hm
      omega
theorem Bst_u {D : Dom} {a b : Int32} (ha : Bst D a) (hb : Bst D b) : a = b := by
  rcases ha with ⟨a1, a2⟩ | ⟨⟨m, a1⟩, a2⟩ <;> rcases hb with ⟨b1, b2⟩ | ⟨⟨m', b1⟩, b2⟩
  · rw [a1, b1]
  · exact absurd b1 (a2 _ _)
  · exact absurd a1 (b2 _ _)
  · rw [ti_eq]
    have := a2 _ _ b1
    have := b2 _ _ a1
    omega
theorem Pth_b {D : Dom} (R : RDD D) : ∀ {j fr : Nat} {c : Int}, Pth D j fr c → 0 ≤ c ∧ c ≤ 999 * j := by
  intro j
  induction j with
  | zero => intro fr c h; have := h.2; omega
  | succ j ih =>
    intro fr c h
    obtain ⟨f, c0, h1, h2, h3, h4⟩ := Pth_s.mp h
    have := ih h1
    have := coD_r R h3.2.2.2 h3.2.2.1.1
    omega
theorem ok_bestNow {s s1 : Sg} {D : Dom} (R : RDD D) (h1 : m_laysLines s (rI s 43 0 53) 1 = some s1) (W : MWd s1 D) (L : PL s1 D 1 (2 * D.n) 0 0) : ok (m_bestNow s) (fun q => Bst D q.2 ∧ MWd q.1 D ∧ PL q.1 D 1 (2 * D.n) 0 0 ∧ BL q.1 D 0) := by
  have n12 := R.2.1
  have kb : (100000000 : Int32).toInt = 100000000 := by decide
  unfold m_bestNow m_bestNow_G
  rw [gd_t k53'.1, k53'.2, h1]
  simp only [Option.bind_some]
  refine ok_bind (ok_mono (ok_least R W L) (fun s2 ⟨W2, L2, B⟩ => ?_))
  simp only [q_stateAt, Option.bind_some]
  have u := ti_state (J := 0) (F := -1) (j := 0) (fr := 0) rfl (by decide) (by omega) (by omega)
  rw [gd_t (inb_iff.mpr (by rw [u]; omega)), show ix (0 * 25 + -1 + 1) = 0 by rw [ix_eq, u]; rfl]
  obtain ⟨b1, b2, b3⟩ := B 0 0 (by omega) (by omega) (by omega)
  rw [show 0 * 25 + 0 = 0 from rfl] at b1 b2 b3
  have lt : ∀ m c, Pth D m (2 * D.n) c → c < 100000000 := fun m c h => by have := Pth_b R h; have := Pth_le h; omega
  refine ok_gif (fun c => ok_some ⟨.inr ?_, W2, L2, B⟩) (fun c => ok_some ⟨.inl ⟨rfl, fun m c' h => ?_⟩, W2, L2, B⟩)
  · rw [ti_lt, kb] at c
    obtain ⟨m, hm⟩ := b2 c
    exact ⟨⟨m, B0.mp hm⟩, fun m' c' h => b3 m' c' (B0.mpr h) (lt m' c' h)⟩
  · rw [ti_lt, kb] at c
    have := b3 m c' (B0.mpr h) (lt m c' h)
    have := lt m c' h
    omega
