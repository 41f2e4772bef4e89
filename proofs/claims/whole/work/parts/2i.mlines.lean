/-! THE MODEL'S LINES: whether each fits, what it costs and pays -/
def MWd (s : Sg) (D : Dom) : Prop := MD s D.n D.wd D.ft D.kd ∧ LWM s D.C ∧ rI s 43 0 52 = D.mo ∧ rI s 43 0 14 = D.pr
theorem MWd_c {s s' : Sg} {D : Dom} (h : MWd s D) (e1 : rI s' 10 0 36 = rI s 10 0 36) (e2 : ∀ c, rI s' 57 0 c = rI s 57 0 c) (e3 : ∀ c, rI s' 43 0 c = rI s 43 0 c) : MWd s' D :=
  ⟨MD_c h.1 e1 e2 e3, LWM_c h.2.1 e3, by rw [e3]; exact h.2.2.1, by rw [e3]; exact h.2.2.2⟩
theorem q_last {s : Sg} {D : Dom} (h : MD s D.n D.wd D.ft D.kd) : ∃ v, m_lastPlace s = some (s, v) ∧ v.toInt = 2 * (D.n : Int) - 1 := by
  have n12 := h.2.1
  have : (2 * rI s 10 0 36).toInt = 2 * (D.n : Int) := by rw [ti_mul (by rw [h.1, li_2]; omega) (by rw [h.1, li_2]; omega), h.1, li_2]
  exact ⟨_, rfl, by rw [ti_sub (by rw [this, li_1]; omega) (by rw [this, li_1]; omega), this, li_1]⟩
theorem q_isPlace {s : Sg} {D : Dom} (h : MD s D.n D.wd D.ft D.kd) {a : Int32} {p : Nat} (ha : a.toInt = p) (hp : p < 2 * D.n) : m_isPlace s a = some (s, bI (plD D p)) := by
  have n12 := h.2.1
  have td : (a / 2).toInt = p / 2 := by rw [ti_div2 (by omega), ha]
  have it : ix (a / 2) = p / 2 := by rw [ix_eq, td]; omega
  obtain ⟨u, u1, u2, u3, u4, u5⟩ := h.2.2 (p / 2) (by omega)
  unfold m_isPlace m_isPlace_G plD
  have er : (g_rem a 2 = 1) ↔ p % 2 = 1 := by rw [ti_eq, ti_rem (by omega) (by decide), ha, li_1, li_2]; omega
  simp only [gdB0, gdB1]
  rw [gd_t (by decide), gd_t (by decide), gd_t (inb_iff.mpr (by omega)), it, gd_t (inb_k (m := 15) rfl (by omega) (by omega) (by omega)), ix_k (m := 15) rfl (by omega) (by omega), show 15 + (rI s 57 0 (p / 2)).toInt.toNat = 15 + u by omega, u4]
  refine gif_eq (fun c => lf1 ⟨hp, .inl (er.mp c)⟩) (fun c => ?_)
  rw [ti_lt, li_0]
  exact gif_eq (fun d => lf1 ⟨hp, .inr d⟩) (fun d => lf0 (fun x => x.2.elim (fun y => c (er.mpr y)) d))
theorem nb_b {p : Prop} : vp_nar .boolean (bI p) = bI p := by
  by_cases h : p
  · rw [bI_t h]; decide
  · rw [bI_f h]; decide
def EN (s : Sg) (D : Dom) (ask : Int32) (j fr to : Nat) : Prop := rI s 61 0 ((j * 25 + fr) * 25 + to) = bI (fiD D j fr to) ∧ (ask ≠ 0 → fiD D j fr to → rI s 62 0 ((j * 25 + fr) * 25 + to) = coD D j fr to ∧ rI s 63 0 ((j * 25 + fr) * 25 + to) = paD D j fr to)
theorem ti_line {J F T : Int32} {j fr to : Nat} (hJ : J.toInt = j) (hF : F.toInt = (fr : Int) - 1) (hT : T.toInt = to) (h1 : j ≤ 24) (h2 : fr ≤ 24) (h3 : to ≤ 24) : (((J * 25 + F) + 1) * 25 + T).toInt = ((j * 25 + fr) * 25 + to : Nat) := by
  have k25 : (25 : Int32).toInt = 25 := by decide
  have t1 : (J * 25).toInt = j * 25 := by rw [ti_mul (by rw [hJ, k25]; omega) (by rw [hJ, k25]; omega), hJ, k25]
  have t2 : (J * 25 + F).toInt = j * 25 + fr - 1 := by rw [ti_add (by rw [t1, hF]; omega) (by rw [t1, hF]; omega), t1, hF]; omega
  have t3 : (J * 25 + F + 1).toInt = j * 25 + fr := by rw [ti_add (by rw [t2, li_1]; omega) (by rw [t2, li_1]; omega), t2, li_1]; omega
  have t4 : ((J * 25 + F + 1) * 25).toInt = (j * 25 + fr) * 25 := by rw [ti_mul (by rw [t3, k25]; omega) (by rw [t3, k25]; omega), t3, k25]
  rw [ti_add (by rw [t4, hT]; omega) (by rw [t4, hT]; omega), t4, hT]; omega
theorem ti_state {J F : Int32} {j fr : Nat} (hJ : J.toInt = j) (hF : F.toInt = (fr : Int) - 1) (h1 : j ≤ 24) (h2 : fr ≤ 24) : (J * 25 + F + 1).toInt = (j * 25 + fr : Nat) := by
  have k25 : (25 : Int32).toInt = 25 := by decide
  have t1 : (J * 25).toInt = j * 25 := by rw [ti_mul (by rw [hJ, k25]; omega) (by rw [hJ, k25]; omega), hJ, k25]
  have t2 : (J * 25 + F).toInt = j * 25 + fr - 1 := by rw [ti_add (by rw [t1, hF]; omega) (by rw [t1, hF]; omega), t1, hF]; omega
  rw [ti_add (by rw [t2, li_1]; omega) (by rw [t2, li_1]; omega), t2, li_1]; omega
theorem ok_laysLine {s : Sg} {D : Dom} {ask J F T : Int32} {j fr to : Nat} (W : MWd s D) (R : RD D.n D.wd D.ft) (hJ : J = nI j) (hj : j ≤ 24) (hF : F.toInt = (fr : Int) - 1) (hT : T.toInt = to) (h1 : fr ≤ to) (h2 : to < 2 * D.n) :
    ok (m_laysLine s J F T D.mea ask) (fun s' => MWd s' D ∧ EN s' D ask j fr to ∧ ∀ k c, k = 61 ∨ k = 62 ∨ k = 63 → c ≠ (j * 25 + fr) * 25 + to → rI s' k 0 c = rI s k 0 c) := by
  have n12 := W.1.2.1
  have tJ : J.toInt = j := by rw [hJ, nI_ti (by omega)]
  have ti := ti_line tJ hF hT hj (by omega) (by omega)
  unfold m_laysLine m_laysLine_G
  rw [show m_lineAt s J F T = some (s, ((J * 25 + F) + 1) * 25 + T) from rfl]
  simp only [Option.bind_some]
  generalize ((J * 25 + F) + 1) * 25 + T = q at ti ⊢
  have bq : inb q 15625 := inb_iff.mpr (by rw [ti]; omega)
  have iq : ix q = (j * 25 + fr) * 25 + to := by rw [ix_eq, ti]; omega
  simp only [gd_t bq, iq]
  unfold EN
  generalize (j * 25 + fr) * 25 + to = i
  refine ok_bind (ok_fr (ok_takesLine W.1 R h1 h2 hF hT) (fr_m_takesLine _ _ _ _ _) (fun s2 ⟨p1, p2, p3, p4, p5⟩ F2 => ?_))
  have k2 : ∀ k i c, ¬ (k = 10 ∧ i = 0 ∧ 37 ≤ c ∧ c ≤ 41) → rI s2 k i c = rI s k i c := fun k i c hk => F2.i k i c (by intro x; simp [hit] at x; omega)
  have W2 : MWd s2 D := MWd_c W (k2 _ _ _ (by omega)) (fun c => k2 _ _ _ (by omega)) (fun c => k2 _ _ _ (by omega))
  have L2 : Lin s2 D.wd D.ft J fr to D.mea := ⟨p1, p2, p3, by rw [p4]; exact hT, p5⟩
  have eF : ∀ s3 : Sg, MWd s3 D → LFV J D.wd D.ft D.kd D.n fr to D.mea (rI s3 43 0 52) (rI s3 43 0 14) = LF D j fr to := fun s3 W3 => by rw [W3.2.2.1, W3.2.2.2, hJ]; rfl
  refine ok_bind (ok_mono (ok_fitsNow W2.1 W2.2.1 L2 h2) (fun q3 ⟨r1, r2⟩ => ?_))
  rw [eF s2 W2] at r2
  rw [r2, nb_b, rI_eq rfl, gifbI]
  have k4 : ∀ (v : Int32) k i' c, k ≠ 55 → ¬ (k = 10 ∧ i' = 0 ∧ c = 27) → k ≠ 61 → rI (wI q3.1 61 0 i v) k i' c = rI s2 k i' c := fun v k i' c h1 h2 h3 => by rw [rI_ne (by omega)]; exact r1 k i' c h1 h2
  have W4 : ∀ v, MWd (wI q3.1 61 0 i v) D := fun v => MWd_c W2 (k4 v _ _ _ (by omega) (by omega) (by omega)) (fun c => k4 v _ _ _ (by omega) (by omega) (by omega)) (fun c => k4 v _ _ _ (by omega) (by omega) (by omega))
  have L4 : ∀ v, Lin (wI q3.1 61 0 i v) D.wd D.ft J fr to D.mea := fun v => by
    unfold Lin
    rw [k4 v _ _ _ (by omega) (by omega) (by omega), k4 v _ _ _ (by omega) (by omega) (by omega), k4 v _ _ _ (by omega) (by omega) (by omega), k4 v _ _ _ (by omega) (by omega) (by omega), k4 v _ _ _ (by omega) (by omega) (by omega)]; exact L2
  have o4 : ∀ (v : Int32) k c, k = 61 ∨ k = 62 ∨ k = 63 → c ≠ i → rI (wI q3.1 61 0 i v) k 0 c = rI s k 0 c := fun v k c hk hc => by
    rw [rI_ne (by omega), r1 _ _ _ (by omega) (by omega), k2 _ _ _ (by omega)]
  have a4 : ∀ v : Int32, rI (wI q3.1 61 0 i v) 61 0 i = v := fun v => rI_eq rfl
  have e1 : LFi D.wd D.ft fr to D.mea (LF D j fr to) D.C = fiD D j fr to := rfl
  rw [e1]
  refine (?_ : ∀ s4 : Sg, MWd s4 D → Lin s4 D.wd D.ft J fr to D.mea → (∀ k c, k = 61 ∨ k = 62 ∨ k = 63 → c ≠ i → rI s4 k 0 c = rI s k 0 c) → rI s4 61 0 i = bI (fiD D j fr to) → ok (gif (fiD D j fr to) (gif (ask = 0) (some s4) ((m_costsNow s4).bind fun q5 => (m_paysNow (wI q5.1 62 0 i q5.2)).bind fun q7 => some (wI q7.1 63 0 i q7.2))) (some s4)) (fun s' => MWd s' D ∧ (rI s' 61 0 i = bI (fiD D j fr to) ∧ (ask ≠ 0 → fiD D j fr to → rI s' 62 0 i = coD D j fr to ∧ rI s' 63 0 i = paD D j fr to)) ∧ ∀ k c, k = 61 ∨ k = 62 ∨ k = 63 → c ≠ i → rI s' k 0 c = rI s k 0 c)) _ (W4 _) (L4 _) (o4 _) (a4 _)
  clear a4 o4 L4 W4 k4 r2 r1
  intro s4 W4 L4 o4 a4
  refine ok_gif (fun hf => ok_gif (fun ha => ok_some ⟨W4, ⟨a4, fun x => absurd ha x⟩, o4⟩) (fun ha => ?_)) (fun hf => ok_some ⟨W4, ⟨a4, fun _ x => absurd x hf⟩, o4⟩)
  refine ok_bind (ok_mono (ok_costsNow W4.1 W4.2.1 L4 h2) (fun q5 ⟨c1, c2⟩ => ?_))
  rw [eF s4 W4] at c2
  have k6 : ∀ k i' c, k ≠ 55 → ¬ (k = 10 ∧ i' = 0 ∧ c = 27) → ¬ (k = 62 ∧ i' = 0 ∧ c = i) → rI (wI q5.1 62 0 i q5.2) k i' c = rI s4 k i' c := fun k i' c h1 h2 h3 => by rw [rI_ne (by omega)]; exact c1 k i' c h1 h2
  have a6 : rI (wI q5.1 62 0 i q5.2) 62 0 i = coD D j fr to := by rw [rI_eq rfl, c2]; rfl
  generalize wI q5.1 62 0 i q5.2 = s6 at k6 a6 ⊢
  have W6 : MWd s6 D := MWd_c W4 (k6 _ _ _ (by omega) (by omega) (by omega)) (fun c => k6 _ _ _ (by omega) (by omega) (by omega)) (fun c => k6 _ _ _ (by omega) (by omega) (by omega))
  have L6 : Lin s6 D.wd D.ft J fr to D.mea := by
    unfold Lin
    rw [k6 _ _ _ (by omega) (by omega) (by omega), k6 _ _ _ (by omega) (by omega) (by omega), k6 _ _ _ (by omega) (by omega) (by omega), k6 _ _ _ (by omega) (by omega) (by omega), k6 _ _ _ (by omega) (by omega) (by omega)]; exact L4
  refine ok_bind (ok_mono (ok_paysNow W6.1 W6.2.1 L6 h2) (fun q7 ⟨d1, d2⟩ => ok_some ?_))
  rw [eF s6 W6] at d2
  have k8 : ∀ k i' c, k ≠ 55 → ¬ (k = 10 ∧ i' = 0 ∧ c = 27) → ¬ (k = 63 ∧ i' = 0 ∧ c = i) → rI (wI q7.1 63 0 i q7.2) k i' c = rI s6 k i' c := fun k i' c h1 h2 h3 => by rw [rI_ne (by omega)]; exact d1 k i' c h1 h2
  refine ⟨MWd_c W6 (k8 _ _ _ (by omega) (by omega) (by omega)) (fun c => k8 _ _ _ (by omega) (by omega) (by omega)) (fun c => k8 _ _ _ (by omega) (by omega) (by omega)), ⟨?_, fun _ _ => ⟨?_, ?_⟩⟩, fun k c hk hc => ?_⟩
  · rw [k8 _ _ _ (by omega) (by omega) (by omega), k6 _ _ _ (by omega) (by omega) (by omega)]; exact a4
  · rw [k8 _ _ _ (by omega) (by omega) (by omega)]; exact a6
  · rw [rI_eq rfl, d2]; rfl
  · rw [k8 _ _ _ (by omega) (by omega) (by omega), k6 _ _ _ (by omega) (by omega) (by omega)]; exact o4 k c hk hc
def PL (s : Sg) (D : Dom) (ask : Int32) (k t jj : Nat) : Prop := ∀ j fr to, j ≤ fr → fr ≤ to → (fr = 0 ∨ plD D (fr - 1)) → plD D to → (fr < k ∨ (fr = k ∧ (to < t ∨ (to = t ∧ j < jj)))) → EN s D ask j fr to
theorem ok_laysLines {s : Sg} {D : Dom} {ask : Int32} (W : MWd s D) (R : RD D.n D.wd D.ft) :
    ok (m_laysLines s D.mea ask) (fun s' => MWd s' D ∧ PL s' D ask (2 * D.n) 0 0) := by
  have n12 := W.1.2.1
  have km : (-1 : Int32).toInt = -1 := by decide
  unfold m_laysLines m_laysLines_G
  refine ok_loop (K := fun n (p : Sg × Int32) => m_laysLines_b2 n p.1 D.mea ask p.2) (I := fun p => ∃ k : Nat, k ≤ 2 * D.n ∧ p.2.toInt = (k : Int) - 1 ∧ MWd p.1 D ∧ PL p.1 D ask k 0 0)
    (μ := fun p => 25 - (p.2.toInt + 1).toNat) ?_ FU (s, -1) ⟨0, by omega, show (-1 : Int32).toInt = ((0 : Nat) : Int) - 1 by decide, W, fun j fr to h1 h2 h3 h4 h5 => by omega⟩ (by show _ < 20000; omega)
  rintro n ⟨s2, F⟩ ⟨k, k1, k2, k3, k4⟩ ih
  simp only at k1 k2 k3 k4 ih
  show ok (m_laysLines_b2_G _ _ _ _ s2 D.mea ask F) _
  unfold m_laysLines_b2_G
  obtain ⟨lp, e1, e2⟩ := q_last k3.1
  rw [e1]
  simp only [Option.bind_some]
  have t1 : (F + 1).toInt = k := by rw [ti_add (by rw [k2, li_1]; omega) (by rw [k2, li_1]; omega), k2, li_1]; omega
  have inner : k < 2 * D.n → ok (m_laysLines_b31 (m_laysLines_b2 n) FU s2 D.mea ask F (F + 1)) (fun s' => MWd s' D ∧ PL s' D ask (2 * D.n) 0 0) := by
    intro hk
    refine ok_loop (K := fun m (p : Sg × Int32) => m_laysLines_b31 (m_laysLines_b2 n) m p.1 D.mea ask F p.2) (I := fun p => ∃ t : Nat, k ≤ t ∧ t ≤ 2 * D.n ∧ p.2.toInt = t ∧ MWd p.1 D ∧ PL p.1 D ask k t 0)
      (μ := fun p => 25 - p.2.toInt.toNat) ?_ FU (s2, F + 1) ⟨k, Nat.le_refl _, k1, t1, k3, fun j fr to h1 h2 h3 h4 h5 => k4 j fr to h1 h2 h3 h4 (by omega)⟩ (by show _ < 20000; omega)
    rintro m ⟨s3, T⟩ ⟨t, a1, a2, a3, a4, a5⟩ ih2
    simp only at a1 a2 a3 a4 a5 ih2
    show ok (m_laysLines_b31_G _ _ _ s3 D.mea ask F T) _
    unfold m_laysLines_b31_G
    obtain ⟨lp, e1, e2⟩ := q_last a4.1
    rw [e1]
    simp only [Option.bind_some]
    refine ok_gif (fun c => ?_) (fun c => ?_)
    · rw [ti_lt, a3, e2] at c
      refine ih (s3, F + 1) ⟨k + 1, by omega, by rw [t1]; omega, a4, fun j fr to h1 h2 h3 h4 h5 => a5 j fr to h1 h2 h3 h4 ?_⟩ (by simp only [t1, k2]; omega)
      have := h4.1; omega
    · rw [ti_lt, a3, e2] at c
      have ht : t < 2 * D.n := by omega
      have t2 : (T + 1).toInt = (t + 1 : Nat) := by rw [ti_add (by rw [a3, li_1]; omega) (by rw [a3, li_1]; omega), a3, li_1]; omega
      refine ok_loop (K := fun d (p : Sg × Int32) => m_laysLines_b43 (m_laysLines_b2 n) (m_laysLines_b31 (m_laysLines_b2 n) m) d p.1 D.mea ask F T p.2) (I := fun p => ∃ jj : Nat, jj ≤ k + 1 ∧ p.2 = nI jj ∧ MWd p.1 D ∧ PL p.1 D ask k t jj)
        (μ := fun p => 26 - p.2.toInt.toNat) ?_ FU (s3, 0) ⟨0, by omega, rfl, a4, a5⟩ (by show _ < 20000; omega)
      rintro d ⟨s4, J⟩ ⟨jj, b1, b2, b3, b4⟩ ih3
      simp only at b1 b2 b3 b4 ih3
      have tj : J.toInt = jj := by rw [b2, nI_ti (by omega)]
      show ok (m_laysLines_b43_G _ _ _ _ s4 D.mea ask F T J) _
      unfold m_laysLines_b43_G
      refine ok_gif (fun x => ?_) (fun x => ?_)
      · rw [ti_lt, t1, tj] at x
        refine ih2 (s4, T + 1) ⟨t + 1, by omega, by omega, t2, b3, fun j fr to h1 h2 h3 h4 h5 => b4 j fr to h1 h2 h3 h4 (by omega)⟩ (by simp only [t2, a3]; omega)
      · rw [ti_lt, t1, tj] at x
        rw [q_isPlace b3.1 a3 ht]
        simp only [Option.bind_some, gdB0, gdB1, gdbI, gifbI]
        by_cases hp : plD D t
        · rw [gif_t hp]
          refine ok_bind (ok_mono (ok_laysLine (j := jj) b3 R b2 (by omega) k2 a3 a1 ht) (fun s5 ⟨p1, p2, p3⟩ => ?_))
          have t3 : (J + 1).toInt = (jj + 1 : Nat) := by rw [ti_add (by rw [tj, li_1]; omega) (by rw [tj, li_1]; omega), tj, li_1]; omega
          refine ih3 (s5, J + 1) ⟨jj + 1, by omega, by rw [ti_eq, t3, nI_ti (by omega)], p1, fun j fr to h1 h2 h3 h4 h5 => ?_⟩ (by simp only [t3, tj]; omega)
          by_cases y : j = jj ∧ fr = k ∧ to = t
          · obtain ⟨rfl, rfl, rfl⟩ := y; exact p2
          · have h4' := h4.1
            have := b4 j fr to h1 h2 h3 h4 (by omega)
            unfold EN at this ⊢
            rw [p3 61 _ (by omega) (by omega), p3 62 _ (by omega) (by omega), p3 63 _ (by omega) (by omega)]; exact this
        · rw [gif_f hp]
          refine ih2 (s4, T + 1) ⟨t + 1, by omega, by omega, t2, b3, fun j fr to h1 h2 h3 h4 h5 => b4 j fr to h1 h2 h3 h4 ?_⟩ (by simp only [t2, a3]; omega)
          have : to ≠ t := fun z => hp (z ▸ h4)
          omega
  refine ok_gif (fun c => ?_) (fun c => ?_)
  · rw [ti_lt, k2, e2] at c
    have hk : k < 2 * D.n := by omega
    refine ok_gif (fun d => inner hk) (fun d => ?_)
    rw [ti_eq, k2, km] at d
    rw [q_isPlace (p := k - 1) k3.1 (by rw [k2]; omega) (by omega)]
    simp only [Option.bind_some, gdB0, gdB1, gdbI, gifbI]
    by_cases hp : plD D (k - 1)
    · rw [gif_t hp]; exact inner hk
    · rw [gif_f hp]
      refine ih (s2, F + 1) ⟨k + 1, by omega, by rw [t1]; omega, k3, fun j fr to h1 h2 h3 h4 h5 => k4 j fr to h1 h2 h3 h4 ?_⟩ (by simp only [t1, k2]; omega)
      have : fr ≠ k := fun z => by subst z; exact h3.elim (fun y => by omega) hp
      omega
  · rw [ti_lt, k2, e2] at c
    exact ok_some ⟨k3, by rw [show 2 * D.n = k by omega]; exact k4⟩
