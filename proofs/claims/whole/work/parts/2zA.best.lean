/-! BEST: where the best setting's lines end -/
def ath (es : List Nat) (k : Nat) : Int32 := match es[k]? with | some x => nI x | none => -1
def BestL (D : Dom) (es : List Nat) (j fr : Nat) (c : Int) : Prop := BLs D es j fr c ∧ ∀ es' c', BLs D es' j fr c' → c * 4294967296 - Wl es ≤ c' * 4294967296 - Wl es'
theorem BLs_b {D : Dom} (R : RDD D) : ∀ {es : List Nat} {j fr : Nat} {c : Int}, fr ≤ 2 * D.n → BLs D es j fr c → 0 ≤ c ∧ c ≤ 999 * (2 * D.n - fr : Nat) := by
  intro es
  induction es with
  | nil => intro j fr c _ h; have := h.2; omega
  | cons to r ih =>
    intro j fr c hf h
    obtain ⟨h1, c1, h2, h3⟩ := BLs_s.mp h
    have a := h1.1
    have b := h1.2.2.1.1
    have := ih (by omega) h2
    have := coD_r R h1.2.2.2 h1.2.2.1.1
    omega
/-- a best setting's head and tail -/
theorem BestL_t {D : Dom} {to : Nat} {r : List Nat} {j fr : Nat} {c : Int} (h : BestL D (to :: r) j fr c) : ∃ c1, BestL D r (j + 1) (to + 1) c1 ∧ edD D j fr to ∧ c = (coD D j fr to).toInt + c1 := by
  obtain ⟨h1, h2⟩ := h
  obtain ⟨g1, c1, g2, g3⟩ := BLs_s.mp h1
  refine ⟨c1, ⟨g2, fun es' c' h' => ?_⟩, g1, g3⟩
  have := h2 (to :: es') _ ⟨g1, c', h', rfl⟩
  unfold Wl at this
  omega
theorem Best_c {s : Sg} {D : Dom} (R : RDD D) (B : BL s D 0) {es : List Nat} {j fr : Nat} {c : Int} (hj : j ≤ fr) (hf : fr ≤ 2 * D.n) (h : BestL D es j fr c) : (rI s 64 0 (j * 25 + fr)).toInt = c := by
  have n12 := R.2.1
  obtain ⟨b1, b2, b3⟩ := B fr j (by omega) hf hj
  have r := BLs_b R hf h.1
  have le := b3 _ c (Bth_of h.1) (by omega)
  obtain ⟨m, hm⟩ := b2 (by omega)
  obtain ⟨es', h'⟩ := Bth_ls hm
  have k := h.2 es' _ h'
  have w := Wl_lt (by omega) (BLs_inc n12 h.1).1
  have w0 := Wl_0 es'
  have := p2_mono (show 0 ≤ fr by omega)
  rw [p2_0] at this
  omega
theorem ok_walk {s : Sg} {D : Dom} (R : RDD D) (W : MWd s D) (L : PL s D 1 (2 * D.n) 0 0) (B : BL s D 0) {a : Int32} {A : Nat} (ha : a.toInt = A) : ∀ (r : List Nat) (n j fr : Nat) (c : Int) (F J : Int32), BestL D r j fr c → r.length + 2 ≤ n → j ≤ A + 1 → J.toInt = j → F.toInt = (fr : Int) - 1 → j ≤ fr → fr ≤ 2 * D.n → (fr = 0 ∨ plD D (fr - 1)) → m_best_b29 n s a F J = some (s, if j = A + 1 then F else ath r (A - j)) := by
  have n12 := R.2.1
  intro r
  induction r with
  | nil =>
    intro n j fr c F J hB hn hjA hJ hF hjf hf2 hst
    obtain ⟨n', rfl⟩ : ∃ n', n = n' + 1 := ⟨n - 1, by omega⟩
    show m_best_b29_G _ _ s a F J = _
    unfold m_best_b29_G
    obtain ⟨lp, e1, e2⟩ := q_last W.1
    have hfr : fr = 2 * D.n := hB.1.1
    by_cases z : j = A + 1
    · rw [gif_t (by rw [ti_lt, ha, hJ]; omega), if_pos z]
    · rw [gif_f (by rw [ti_lt, ha, hJ]; omega), if_neg z, e1]
      simp only [Option.bind_some]
      rw [gif_t (by rw [ti_eq, hF, e2]; omega)]
      rfl
  | cons to r ih =>
    intro n j fr c F J hB hn hjA hJ hF hjf hf2 hst
    obtain ⟨n', rfl⟩ : ∃ n', n = n' + 1 := ⟨n - 1, by omega⟩
    have cv := Best_c R B hjf hf2 hB
    obtain ⟨c1, hT, he, hc⟩ := BestL_t hB
    have a1 := he.1
    have a2 := he.2.2.1.1
    have cv1 := Best_c R B (show j + 1 ≤ to + 1 by omega) (by omega) hT
    have b29 := ih n' (j + 1) (to + 1) c1
    show m_best_b29_G _ _ s a F J = _
    unfold m_best_b29_G
    obtain ⟨lp, e1, e2⟩ := q_last W.1
    by_cases z : j = A + 1
    · rw [gif_t (by rw [ti_lt, ha, hJ]; omega), if_pos z]
    · rw [gif_f (by rw [ti_lt, ha, hJ]; omega), if_neg z, e1]
      simp only [Option.bind_some]
      rw [gif_f (by rw [ti_eq, hF, e2]; omega)]
      have t2 : (J + 1).toInt = (j + 1 : Nat) := by rw [ti_add (by rw [hJ, li_1]; omega) (by rw [hJ, li_1]; omega), hJ, li_1]; omega
      have tf : (F + 1).toInt = (fr : Nat) := by rw [ti_add (by rw [hF, li_1]; omega) (by rw [hF, li_1]; omega), hF, li_1]; omega
      -- the search
      have key' : ∀ (d m t : Nat) (T : Int32), T.toInt = t → fr ≤ t → t + d = to → d < m → m_best_b50 (m_best_b29 n') m s a F J T = some (s, ath (to :: r) (A - j)) := by
        intro d
        induction d with
        | zero =>
          intro m t T hT' h1 h2 h3
          obtain ⟨m', rfl⟩ : ∃ m', m = m' + 1 := ⟨m - 1, by omega⟩
          have ht : t = to := by omega
          subst ht
          show m_best_b50_G _ _ _ _ _ s a F J T = _
          unfold m_best_b50_G
          rw [q_canLine W.1 L hJ hF hT' hjf h1 (by omega) hst]
          simp only [Option.bind_some, gdB0, gdB1, gdbI, gifbI]
          rw [gif_t he]
          rw [show m_lineAt s J F T = some (s, (J * 25 + F + 1) * 25 + T) from rfl]
          simp only [Option.bind_some, q_stateAt]
          have u1 := ti_state (J := J + 1) (F := T) (j := j + 1) (fr := t + 1) t2 (by rw [hT']; omega) (by omega) (by omega)
          have u2 := ti_state (J := J) (F := F) (j := j) (fr := fr) hJ hF (by omega) (by omega)
          have u3 := ti_line (J := J) (F := F) (T := T) hJ hF hT' (by omega) (by omega) (by omega)
          rw [gd_t (inb_iff.mpr (by rw [u3]; omega)), gd_t (inb_iff.mpr (by rw [u1]; omega)), gd_t (inb_iff.mpr (by rw [u2]; omega)), show ix ((J + 1) * 25 + T + 1) = (j + 1) * 25 + (t + 1) by rw [ix_eq, u1]; omega, show ix ((J * 25 + F + 1) * 25 + T) = (j * 25 + fr) * 25 + t by rw [ix_eq, u3]; omega, show ix (J * 25 + F + 1) = j * 25 + fr by rw [ix_eq, u2]; omega]
          obtain ⟨p1, -⟩ := (L j fr t hjf h1 hst he.2.2.1 (by omega)).2 (by decide) he.2.2.2
          rw [p1]
          have cr := coD_r R he.2.2.2 he.2.2.1.1
          have br := BLs_b R (by omega) hT.1
          have es : (coD D j fr t + rI s 64 0 ((j + 1) * 25 + (t + 1))).toInt = (coD D j fr t).toInt + (rI s 64 0 ((j + 1) * 25 + (t + 1))).toInt := ti_add (by omega) (by omega)
          rw [gif_t (by rw [ti_eq, es, cv, cv1]; omega)]
          rw [ih n' (j + 1) (t + 1) c1 T (J + 1) hT (by simp only [List.length_cons] at hn; omega) (by omega) t2 (by rw [hT']; omega) (by omega) (by omega) (.inr he.2.2.1)]
          by_cases y : j = A
          · rw [if_pos (by omega), show A - j = 0 by omega]
            have : T = nI t := by rw [ti_eq, hT', nI_ti (by omega)]
            rw [this]; rfl
          · rw [if_neg (by omega), show A - j = (A - (j + 1)) + 1 by omega]; rfl
        | succ d ihd =>
          intro m t T hT' h1 h2 h3
          obtain ⟨m', rfl⟩ : ∃ m', m = m' + 1 := ⟨m - 1, by omega⟩
          have t3 : (T + 1).toInt = (t + 1 : Nat) := by rw [ti_add (by rw [hT', li_1]; omega) (by rw [hT', li_1]; omega), hT', li_1]; omega
          have nx := ihd m' (t + 1) (T + 1) t3 (by omega) (by omega) (by omega)
          show m_best_b50_G _ _ _ _ _ s a F J T = _
          unfold m_best_b50_G
          rw [q_canLine W.1 L hJ hF hT' hjf h1 (by omega) hst]
          simp only [Option.bind_some, gdB0, gdB1, gdbI, gifbI]
          by_cases ht : edD D j fr t
          · rw [gif_t ht]
            rw [show m_lineAt s J F T = some (s, (J * 25 + F + 1) * 25 + T) from rfl]
            simp only [Option.bind_some, q_stateAt]
            have u1 := ti_state (J := J + 1) (F := T) (j := j + 1) (fr := t + 1) t2 (by rw [hT']; omega) (by omega) (by omega)
            have u2 := ti_state (J := J) (F := F) (j := j) (fr := fr) hJ hF (by omega) (by omega)
            have u3 := ti_line (J := J) (F := F) (T := T) hJ hF hT' (by omega) (by omega) (by omega)
            rw [gd_t (inb_iff.mpr (by rw [u3]; omega)), gd_t (inb_iff.mpr (by rw [u1]; omega)), gd_t (inb_iff.mpr (by rw [u2]; omega)), show ix ((J + 1) * 25 + T + 1) = (j + 1) * 25 + (t + 1) by rw [ix_eq, u1]; omega, show ix ((J * 25 + F + 1) * 25 + T) = (j * 25 + fr) * 25 + t by rw [ix_eq, u3]; omega, show ix (J * 25 + F + 1) = j * 25 + fr by rw [ix_eq, u2]; omega]
            obtain ⟨p1, -⟩ := (L j fr t hjf h1 hst ht.2.2.1 (by omega)).2 (by decide) ht.2.2.2
            rw [p1]
            have cr := coD_r R ht.2.2.2 ht.2.2.1.1
            obtain ⟨q1, q2, q3⟩ := B (t + 1) (j + 1) (by omega) (by omega) (by omega)
            have es : (coD D j fr t + rI s 64 0 ((j + 1) * 25 + (t + 1))).toInt = (coD D j fr t).toInt + (rI s 64 0 ((j + 1) * 25 + (t + 1))).toInt := ti_add (by omega) (by omega)
            have bc := BLs_b R hf2 hB.1
            rw [gif_f (by
              rw [ti_eq, es, cv]
              intro x
              obtain ⟨m2, hm2⟩ := q2 (by omega)
              obtain ⟨es2, h2'⟩ := Bth_ls hm2
              have kk := hB.2 (t :: es2) _ ⟨ht, _, h2', rfl⟩
              have w := Wl_lt (show to ≤ 24 by omega) (show inc to (to :: r) from ⟨Nat.le_refl _, by omega, (BLs_inc n12 hT.1).1⟩)
              have w0 := Wl_0 es2
              have pm := p2_mono (show t + 1 ≤ to by omega)
              have ps := p2_s (show t < 31 by omega)
              have wt : Wl (t :: es2) = p2 t + Wl es2 := rfl
              rw [x, wt] at kk
              omega)]
            exact nx
          · rw [gif_f ht]
            exact nx
      exact key' (to - fr) FU fr (F + 1) tf (Nat.le_refl _) (by omega) (by show _ < 20000; omega)
/-- the class's best slot -/
theorem ok_bestSlot2 {s : Sg} {D : Dom} (R : RDD D) (T : TF s 0 D) : ok (x5_bestSlot s) (fun q => q.1 = s ∧ ((q.2 = -1 ∧ ∀ es c, ¬ BLs D es 0 0 c) ∨ ∃ i es c, i < 625 ∧ q.2.toInt = (i : Nat) ∧ BestL D es 0 0 c ∧ ∀ k, bt (rI s 26 0 i) k = true ↔ k ∈ es)) := by
  have n12 := R.2.1
  have km : (-1 : Int32).toInt = -1 := by decide
  unfold x5_bestSlot x5_bestSlot_G
  refine ok_loop (K := fun n (p : Sg × Int32 × Int32) => x5_bestSlot_b4 n p.1 p.2.1 p.2.2) (I := fun p => p.1 = s ∧ ∃ k : Nat, k ≤ 25 ∧ p.2.2.toInt = k ∧ ((p.2.1 = -1 ∧ ∀ j, j < k → cD D j (2 * D.n) = none) ∨ ∃ j d, j < k ∧ cD D j (2 * D.n) = some d ∧ p.2.1.toInt = (2 * D.n * 25 + j : Nat) ∧ ∀ i d', i < k → cD D i (2 * D.n) = some d' → kd d ≤ kd d'))
    (μ := fun p => 26 - p.2.2.toInt.toNat) ?_ FU (s, -1, 0) ⟨rfl, 0, by omega, rfl, .inl ⟨rfl, fun j hj => by omega⟩⟩ (by show _ < 20000; omega)
  rintro n ⟨s2, l1, l2⟩ ⟨q0, k, k1, k2, k3⟩ ih
  simp only at q0 k1 k2 k3 ih
  subst q0
  show ok (x5_bestSlot_b4_G _ _ _ s2 l1 l2) _
  unfold x5_bestSlot_b4_G
  refine ok_gif (fun c => ?_) (fun c => ?_)
  · rw [ti_lt, k2, li_24] at c
    refine ok_some ⟨rfl, ?_⟩
    rcases k3 with ⟨a, b⟩ | ⟨j, d, a, b, e, g⟩
    · refine .inl ⟨a, fun es c' h => ?_⟩
      have h' := FB0 h
      have := (Fl_lt h').1
      exact (cD_lk R es.length (by omega) (2 * D.n)).2 (b es.length (by omega)) es c' h'
    · have cr := T.2 (2 * D.n) j (Nat.le_refl _) (by omega)
      rw [b] at cr
      obtain ⟨r1, r2, r3⟩ := cr.2 rfl
      obtain ⟨⟨es, f1, f2, f3⟩, f4⟩ := (cD_lk R j (by omega) (2 * D.n)).1 d b
      refine .inr ⟨2 * D.n * 25 + j, es, d.2.1.toInt, by omega, e, ⟨BF0 f1, fun es' c' h => ?_⟩, by rw [r2]; exact f2⟩
      have h' := FB0 h
      have hl := (Fl_lt h').1
      have LL := cD_lk R es'.length (by omega) (2 * D.n)
      have kk : kd d = d.2.1.toInt * 4294967296 - Wl es := by unfold kd key; rw [f3]
      cases hm : cD D es'.length (2 * D.n) with
      | none => exact absurd h' (LL.2 hm es' c')
      | some d' =>
        have := (LL.1 d' hm).2 es' c' h'
        have := g es'.length d' (by omega) hm
        omega
  · rw [ti_lt, k2, li_24] at c
    obtain ⟨v, hv, w⟩ := q_slot (s := s2) (a := rI s2 5 0 5) (fr := 2 * D.n) (by rw [T.1]; omega) (by omega) k2 (by omega)
    have t1 : (l2 + 1).toInt = (k + 1 : Nat) := by rw [ti_add (by rw [k2, li_1]; omega) (by rw [k2, li_1]; omega), k2, li_1]; omega
    have bv : inb v 625 := inb_iff.mpr (by rw [w]; omega)
    have cr := T.2 (2 * D.n) k (Nat.le_refl _) (by omega)
    rw [hv]
    simp only [Option.bind_some, gd_t bv]
    rw [gif_f (by rw [ti_eq, w, km]; omega), show ix v = 2 * D.n * 25 + k by rw [ix_eq, w]; omega, CR_wy cr]
    cases hc : cD D k (2 * D.n) with
    | none =>
      rw [gif_t (by rw [cmp_eq]; rfl)]
      refine ih (s2, l1, l2 + 1) ⟨rfl, k + 1, by omega, t1, ?_⟩ (by simp only [t1, k2]; omega)
      rcases k3 with ⟨a, b⟩ | ⟨j, d, a, b, e, g⟩
      · refine .inl ⟨a, fun j hj => ?_⟩
        by_cases z : j = k
        · subst z; exact hc
        · exact b j (by omega)
      · refine .inr ⟨j, d, by omega, b, e, fun i d' hi hd => ?_⟩
        by_cases z : i = k
        · subst z; rw [hc] at hd; exact absurd hd (by simp)
        · exact g i d' (by omega) hd
    | some d =>
      have dw : d.1 ≠ 0 := by
        have := cell_pos hc (by omega)
        intro z; rw [z] at this; exact absurd this (by decide)
      rw [hc] at cr
      obtain ⟨r1, r2, r3⟩ := cr.2 rfl
      rw [gif_f (by rw [cmp_eq]; exact dw), r1, r2]
      rcases k3 with ⟨a, b⟩ | ⟨j, d0, a, b, e, g⟩
      · rw [gif_t a]
        refine ih (s2, v, l2 + 1) ⟨rfl, k + 1, by omega, t1, .inr ⟨k, d, by omega, hc, w, fun i d' hi hd => ?_⟩⟩ (by simp only [t1, k2]; omega)
        by_cases z : i = k
        · subst z; rw [hc] at hd; simp only [Option.some.injEq] at hd; subst hd; omega
        · rw [b i (by omega)] at hd; exact absurd hd (by simp)
      · rw [gif_f (by rw [ti_eq, e, km]; omega), q_isBetter e (by omega)]
        simp only [Option.bind_some, gdB0, gdB1, gdbI, gifbI]
        have c0 := T.2 (2 * D.n) j (Nat.le_refl _) (by omega)
        rw [b] at c0
        obtain ⟨s1, s2', s3⟩ := c0.2 rfl
        rw [s1, s2']
        refine ok_gif (fun x => ?_) (fun x => ?_)
        · rw [bet_key] at x
          refine ih (s2, v, l2 + 1) ⟨rfl, k + 1, by omega, t1, .inr ⟨k, d, by omega, hc, w, fun i d' hi hd => ?_⟩⟩ (by simp only [t1, k2]; omega)
          by_cases z : i = k
          · subst z; rw [hc] at hd; simp only [Option.some.injEq] at hd; subst hd; omega
          · have := g i d' (by omega) hd; unfold kd at this ⊢; omega
        · rw [bet_key] at x
          refine ih (s2, l1, l2 + 1) ⟨rfl, k + 1, by omega, t1, .inr ⟨j, d0, by omega, b, e, fun i d' hi hd => ?_⟩⟩ (by simp only [t1, k2]; omega)
          by_cases z : i = k
          · subst z; rw [hc] at hd; simp only [Option.some.injEq] at hd; subst hd; unfold kd; omega
          · exact g i d' (by omega) hd
/-- the class's search for the bit -/
theorem q_bit {s : Sg} {D : Dom} (n12 : D.n ≤ 12) (T : TF s 0 D) {l2 : Int32} {i : Nat} (hi : i < 625) (h2 : l2.toInt = i) : ∀ (d n p A : Nat) (l3 l4 : Int32) (es : List Nat), p + d = 2 * D.n → d < n → l4.toInt = p → l3.toInt = A → inc p es → (∀ x, x ∈ es → x < 2 * D.n) → (∀ k, p ≤ k → (bt (rI s 26 0 i) k = true ↔ k ∈ es)) → x5_bestPlace_b21 n s l2 l3 l4 = some (s, ath es A) := by
  intro d
  induction d with
  | zero =>
    intro n p A l3 l4 es h1 h3 h4 h5 h6 h7 h8
    obtain ⟨n', rfl⟩ : ∃ n', n = n' + 1 := ⟨n - 1, by omega⟩
    show x5_bestPlace_b21_G _ s l2 l3 l4 = _
    unfold x5_bestPlace_b21_G
    rw [gif_t (by rw [ti_lt, T.1, h4]; omega)]
    cases es with
    | nil => rfl
    | cons x r => have := h7 x (by simp); have := h6.1; omega
  | succ d ih =>
    intro n p A l3 l4 es h1 h3 h4 h5 h6 h7 h8
    obtain ⟨n', rfl⟩ : ∃ n', n = n' + 1 := ⟨n - 1, by omega⟩
    have t1 : (l4 + 1).toInt = (p + 1 : Nat) := by rw [ti_add (by rw [h4, li_1]; omega) (by rw [h4, li_1]; omega), h4, li_1]; omega
    show x5_bestPlace_b21_G _ s l2 l3 l4 = _
    unfold x5_bestPlace_b21_G
    rw [gif_f (by rw [ti_lt, T.1, h4]; omega), gif_t (by rw [ti_lt, h4, li_24]; omega), gd_t (inb_iff.mpr (by omega)), show ix l2 = i by rw [ix_eq, h2]; omega]
    have bi := bit_iff (x := rI s 26 0 i) (w := l4) (by omega) (by omega)
    rw [h4, Int.toNat_natCast, h8 p (Nat.le_refl _)] at bi
    by_cases c : p ∈ es
    · rw [gif_t (bi.mpr c)]
      cases es with
      | nil => exact absurd c (by simp)
      | cons x r =>
        have hx : x = p := by
          rcases List.mem_cons.mp c with e | e
          · exact e.symm
          · have : ∀ (r : List Nat) (lo y : Nat), inc lo r → y ∈ r → lo ≤ y := by
              intro r
              induction r with
              | nil => intro lo y _ h; exact absurd h (by simp)
              | cons z r ihr =>
                intro lo y h g
                rcases List.mem_cons.mp g with e | e
                · rw [e]; exact h.1
                · have := ihr (z + 1) y h.2.2 e
                  have := h.1
                  omega
            have := this r (x + 1) p h6.2.2 e
            have := h6.1
            omega
        subst hx
        by_cases z : A = 0
        · subst z
          rw [gif_t (by rw [ti_eq, h5, li_0]; rfl)]
          have : l4 = nI x := by rw [ti_eq, h4, nI_ti (by omega)]
          rw [this]; rfl
        · rw [gif_f (by rw [ti_eq, h5, li_0]; omega), am1]
          have t3 : (l3 - 1).toInt = (A - 1 : Nat) := by rw [ti_sub (by rw [h5, li_1]; omega) (by rw [h5, li_1]; have := (Int32.toInt_lt l3); omega), h5, li_1]; omega
          rw [ih n' (x + 1) (A - 1) (l3 - 1) (l4 + 1) r (by omega) (by omega) t1 t3 h6.2.2 (fun y hy => h7 y (by simp [hy])) (fun k hk => by
            rw [h8 k (by omega)]
            constructor
            · intro e
              rcases List.mem_cons.mp e with e | e
              · omega
              · exact e
            · intro e; simp [e])]
          rw [show A = (A - 1) + 1 by omega]; rfl
    · rw [gif_f (fun x => c (bi.mp x))]
      refine ih n' (p + 1) A l3 (l4 + 1) es (by omega) (by omega) t1 h5 ?_ h7 (fun k hk => h8 k (by omega))
      cases es with
      | nil => trivial
      | cons x r =>
        refine ⟨?_, h6.2⟩
        have h0 := h6.1
        have : p ≠ x := fun e => c (by simp [e])
        omega
theorem ok_bestPlace {s : Sg} {D : Dom} (R : RDD D) (T : TF s 0 D) {a : Int32} {A : Nat} (ha : a.toInt = A) : ok (x5_bestPlace s a) (fun q => (q.2 = -1 ∧ ∀ es c, ¬ BLs D es 0 0 c) ∨ ∃ es c, BestL D es 0 0 c ∧ q.2 = ath es A) := by
  have n12 := R.2.1
  have km : (-1 : Int32).toInt = -1 := by decide
  unfold x5_bestPlace x5_bestPlace_G
  refine ok_bind (ok_mono (ok_bestSlot2 R T) (fun q ⟨e, h⟩ => ?_))
  rcases h with ⟨a1, b1⟩ | ⟨i, es, c, i1, i2, i3, i4⟩
  · rw [gif_t a1]; exact ok_some (.inl ⟨rfl, b1⟩)
  · obtain ⟨j1, j2⟩ := BLs_inc n12 i3.1
    rw [gif_f (by rw [ti_eq, i2, km]; omega), gif_f (by rw [ti_lt, ha, li_0]; omega), e, q_bit n12 T i1 i2 (2 * D.n) FU 0 A a 0 es (by omega) (by show _ < 20000; omega) rfl ha j1 j2 (fun k _ => i4 k)]
    exact ok_some (.inr ⟨es, c, i3, rfl⟩)
theorem Best_u {D : Dom} (n12 : D.n ≤ 12) : ∀ {es es' : List Nat} {j fr : Nat} {c c' : Int}, fr ≤ 2 * D.n → BestL D es j fr c → BestL D es' j fr c' → es = es' := by
  intro es
  induction es with
  | nil =>
    intro es' j fr c c' hf h h'
    cases es' with
    | nil => rfl
    | cons x r =>
      have e1 := h.1.1
      have := h'.1.1.1
      have := h'.1.1.2.2.1.1
      omega
  | cons x r ih =>
    intro es' j fr c c' hf h h'
    cases es' with
    | nil =>
      have e1 := h'.1.1
      have := h.1.1.1
      have := h.1.1.2.2.1.1
      omega
    | cons y r' =>
      obtain ⟨c1, g1, g2, g3⟩ := BestL_t h
      obtain ⟨c2, g1', g2', g3'⟩ := BestL_t h'
      have k1 := h.2 _ _ h'.1
      have k2 := h'.2 _ _ h.1
      have u1 := g2.1
      have u2 := g2.2.2.1.1
      have u1' := g2'.1
      have u2' := g2'.2.2.1.1
      have w1 := Wl_lt (show x + 1 ≤ 24 by omega) (BLs_inc n12 g1.1).1
      have w2 := Wl_lt (show y + 1 ≤ 24 by omega) (BLs_inc n12 g1'.1).1
      have z1 := Wl_0 r
      have z2 := Wl_0 r'
      have e1 : Wl (x :: r) = p2 x + Wl r := rfl
      have e2 : Wl (y :: r') = p2 y + Wl r' := rfl
      have p1 := p2_s (show x < 31 by omega)
      have p2' := p2_s (show y < 31 by omega)
      have m1 := p2_mono (show 0 ≤ x by omega)
      have m2 := p2_mono (show 0 ≤ y by omega)
      rw [p2_0] at m1 m2
      rw [e1, e2] at k1 k2
      have xy : x = y := by
        by_cases l : x < y
        · have := p2_mono (show x + 1 ≤ y by omega); omega
        · by_cases l' : y < x
          · have := p2_mono (show y + 1 ≤ x by omega); omega
          · omega
      subst xy
      rw [ih (by omega) g1 g1']
theorem c_best {sx sm : Sg} (h : Inv sx sm) (a : Int32) : Call sx sm (x9_best sx a) (m_best sm a) := by
  have km : (-1 : Int32).toInt = -1 := by decide
  obtain ⟨lw, n, C, hl, hn, n12, -, ⟨s3, hs3, T⟩, hM⟩ := paper_both h
  have R : RDD (DF (sm.1 43 0) n (rI sm 43 0 53) C) := RDD_of h.2.1.1.1 hn
  obtain ⟨s1, h1, W, L⟩ := hM (rI sm 43 0 53) 1
  obtain ⟨⟨m2, u⟩, hu, bu, W2, L2, B2⟩ := ok_bestNow R h1 W L
  simp only at bu W2 L2 B2
  have ex : ∀ r s4, (gif (a = (-1 : Int32)) ((x5_bestCosts s3).bind fun q4 => some (q4.1, q4.2)) ((x5_bestPlace s3 a).bind fun q5 => some (q5.1, q5.2))) = some (s4, r) → x9_best sx a = some (s4, r) := by
    intro r s4 hr
    unfold x9_best x9_best_G
    rw [hl]
    simp only [Option.bind_some]
    cases lw <;> (simp only []; rw [hs3]; exact hr)
  by_cases c1 : a.toInt < -1
  · -- nothing is asked
    have em : m_best sm a = some (sm, -1) := by
      unfold m_best m_best_G
      rw [gif_t (by rw [ti_lt, km]; exact c1)]
    obtain ⟨⟨s4, v⟩, hv, e4, hp⟩ := ok_bestSlot2 R T
    simp only at e4 hp
    have ex' := ex (-1) s4 (by
      rw [gif_f (by rw [ti_eq, km]; omega)]
      unfold x5_bestPlace x5_bestPlace_G
      rw [hv]
      simp only [Option.bind_some]
      by_cases z : v = -1
      · rw [gif_t z]; rfl
      · rw [gif_f z, gif_t (by rw [ti_lt, li_0]; omega)]; rfl)
    exact call_scr ex' em (fr_x9_best _ _ _ ex') (fr_rfl (L := FP_m_best)) rfl rfl h
  · by_cases c2 : a.toInt = -1
    · obtain ⟨⟨s4, r⟩, hr, e4, br⟩ := ok_bestCosts R T
      simp only at e4 br
      have e : u = r := Bst_u bu br
      subst e
      have ex' := ex u s4 (by rw [gif_t (by rw [ti_eq, km]; exact c2), hr]; rfl)
      have em : m_best sm a = some (m2, u) := by
        unfold m_best m_best_G
        rw [gif_f (by rw [ti_lt, km]; exact c1), hu]
        simp only [Option.bind_some]
        by_cases z : u = -1
        · rw [gif_t z]
        · rw [gif_f z, gif_t (by rw [ti_eq, km]; exact c2)]
      exact call_scr ex' em (fr_x9_best _ _ _ ex') (fr_m_best _ _ _ em) rfl rfl h
    · obtain ⟨A, hA⟩ : ∃ A : Nat, a.toInt = A := ⟨_, (Int.toNat_of_nonneg (by omega)).symm⟩
      obtain ⟨⟨s4, v⟩, hv, hp⟩ := ok_bestPlace R T hA
      simp only at hp
      have ex' := ex v s4 (by rw [gif_f (by rw [ti_eq, km]; exact c2), hv]; rfl)
      have em : m_best sm a = some (m2, v) := by
        unfold m_best m_best_G
        rw [gif_f (by rw [ti_lt, km]; exact c1), hu]
        simp only [Option.bind_some]
        rcases hp with ⟨p1, p2'⟩ | ⟨es, c, p1, p2'⟩
        · have z : u = -1 := by
            rcases bu with ⟨b1, b2⟩ | ⟨⟨m, b1⟩, b2⟩
            · exact b1
            · obtain ⟨es, he⟩ := Bth_ls (B0.mpr b1)
              exact absurd he (p2' _ _)
          rw [gif_t z, p1, z]
        · have z : u ≠ -1 := by
            intro z
            rcases bu with ⟨b1, b2⟩ | ⟨⟨m, b1⟩, b2⟩
            · exact b2 _ _ (B0.mp (Bth_of p1.1))
            · have := (Pth_b R b1).1
              rw [z, km] at this; omega
          have hl' := (Fl_lt (FB0 p1.1)).1
          have l24 : es.length + 2 ≤ FU := by
            have : es.length ≤ 24 := by have := R.2.1; omega
            show _ ≤ 20000
            omega
          rw [gif_f z, gif_f (by rw [ti_eq, km]; exact c2), ok_walk R W2 L2 B2 hA es FU 0 0 c (-1) 0 p1 l24 (by omega) rfl (by rw [km]; rfl) (by omega) (by omega) (.inl rfl), if_neg (by omega), p2']
          rfl
      exact call_scr ex' em (fr_x9_best _ _ _ ex') (fr_m_best _ _ _ em) rfl rfl h
