/-! THE TABLE, all of it -/
theorem TB_done {s : Sg} {bars : Int32} {D : Dom} {k t : Nat} (h : TB s bars D k t 0) (g : ∀ t', t ≤ t' → ∀ j, ¬ edD D j k t') : TB0 s bars D (k + 1) := by
  intro fr j hf hj
  have a := h fr j hf hj
  unfold stg at a
  by_cases c : fr - 1 < t ∨ (fr - 1 = t ∧ j - 1 < 0)
  · rw [if_pos c] at a; exact a
  · rw [if_neg c] at a
    cases fr with
    | zero => rw [pcl_min (m' := k) (by omega)]; exact a
    | succ t' => rw [pcl_skip (g t' (by omega))]; exact a
theorem TB_start {s : Sg} {bars : Int32} {D : Dom} {k : Nat} (h : TB0 s bars D k) : TB s bars D k k 0 := by
  intro fr j hf hj
  have a := h fr j hf hj
  unfold stg
  by_cases c : fr - 1 < k ∨ (fr - 1 = k ∧ j - 1 < 0)
  · rw [if_pos c, pcl_min (m' := k) (by omega)]; exact a
  · rw [if_neg c]; exact a
theorem TB_skip {s : Sg} {bars : Int32} {D : Dom} {k t : Nat} (h : TB s bars D k t 0) (g : ∀ j, ¬ edD D j k t) : TB s bars D k (t + 1) 0 := by
  intro fr j hf hj
  have a := h fr j hf hj
  unfold stg at a ⊢
  by_cases c : fr - 1 < t ∨ (fr - 1 = t ∧ j - 1 < 0)
  · rw [if_pos c] at a; rw [if_pos (by omega)]; exact a
  · rw [if_neg c] at a
    by_cases d : fr - 1 < t + 1 ∨ (fr - 1 = t + 1 ∧ j - 1 < 0)
    · rw [if_pos d]
      cases fr with
      | zero => rw [pcl_min (m' := k) (by omega)]; exact a
      | succ t' =>
        have e : t' = t := by omega
        subst e
        rw [pcl_skip g]; exact a
    · rw [if_neg d]; exact a
theorem TB_c {s s' : Sg} {bars : Int32} {D : Dom} {k t jj : Nat} (h : TB s bars D k t jj) (e1 : ∀ i, rL s' 27 0 i = rL s 27 0 i) (e2 : ∀ q i, 24 ≤ q → q ≤ 26 → rI s' q 0 i = rI s q 0 i) : TB s' bars D k t jj :=
  fun fr j hf hj => CR_c (h fr j hf hj) (e1 _) (fun q h1 h2 => e2 q _ h1 h2)
def TF (s : Sg) (bars : Int32) (D : Dom) : Prop := (rI s 5 0 5).toInt = 2 * (D.n : Int) - 1 ∧ ∀ fr j, fr ≤ 2 * D.n → j ≤ 24 → CR s bars (fr * 25 + j) (cD D j fr)
theorem lo_step (n : Nat) (s : Sg) (g lw : Nat) (mea bars F : Int32) : x5_layOut_b51 (n + 1) s g lw mea bars F =
    gif (F < rI s 5 0 5) (gif (F = -1) (x5_layOut_b84 (x5_layOut_b51 n) FU s g lw mea bars F (F + 1)) ((x1_canEndAt s g F).bind fun q => gif (q.2 = 0) (x5_layOut_b51 n q.1 g lw mea bars (F + 1)) (x5_layOut_b84 (x5_layOut_b51 n) FU q.1 g lw mea bars F (F + 1)))) (some s) := by
  show x5_layOut_b51_G _ _ _ s g lw mea bars F = _
  unfold x5_layOut_b51_G
  cases lw <;> rfl
theorem li_step (K : Sg → Nat → Nat → Int32 → Int32 → Int32 → Option Sg) (n : Nat) (s : Sg) (g lw : Nat) (mea bars F T : Int32) : x5_layOut_b84 K (n + 1) s g lw mea bars F T =
    gif (rI s 5 0 5 < T) (K s g lw mea bars (F + 1)) ((x1_canEndAt s g T).bind fun q => gif (q.2 = 0) (x5_layOut_b84 K n q.1 g lw mea bars F (T + 1)) ((x2_measureUp q.1 1 g F T).bind fun s2 => gif (mea < rI s2 2 1 3) (K s2 g lw mea bars (F + 1)) ((x5_layLine s2 g lw mea F bars).bind fun s3 => x5_layOut_b84 K n s3 g lw mea bars F (T + 1)))) := by
  show x5_layOut_b84_G _ _ _ _ _ s g lw mea bars F T = _
  unfold x5_layOut_b84_G
  cases lw <;> rfl
theorem ok_layOut {s : Sg} {g lw : Nat} {D : Dom} {bars : Int32} (X : XD s g D.n D.wd D.ft D.kd) (L : LWX s lw D.C) (hmo : rI s 15 g 2 = D.mo) (hpr : rI s 15 g 0 = D.pr) (R : RD D.n D.wd D.ft) :
    ok (x5_layOut s g lw D.mea bars) (fun s' => TF s' bars D) := by
  have n12 := X.2.1
  have main : ∀ s6 : Sg, XW s6 g lw D → TB0 s6 bars D 0 → ok (x5_layOut_b51 FU s6 g lw D.mea bars (-1)) (fun s' => TF s' bars D) := by
    intro s6 X6 B6
    refine ok_loop (K := fun n (p : Sg × Int32) => x5_layOut_b51 n p.1 g lw D.mea bars p.2) (I := fun p => ∃ k : Nat, k ≤ 2 * D.n ∧ p.2.toInt = (k : Int) - 1 ∧ XW p.1 g lw D ∧ TB0 p.1 bars D k)
      (μ := fun p => 25 - (p.2.toInt + 1).toNat) ?_ FU (s6, -1) ⟨0, by omega, show (-1 : Int32).toInt = ((0 : Nat) : Int) - 1 by decide, X6, B6⟩ (by show _ < 20000; omega)
    rintro n ⟨s2, F⟩ ⟨k, k1, k2, k3, k4⟩ ih
    simp only at k1 k2 k3 k4 ih
    show ok (x5_layOut_b51 (n + 1) s2 g lw D.mea bars F) _
    rw [lo_step]
    have t1 : (F + 1).toInt = k := by rw [ti_add (by rw [k2, li_1]; omega) (by rw [k2, li_1]; omega), k2, li_1]; omega
    -- the next start
    have next : ∀ s3 : Sg, k < 2 * D.n → XW s3 g lw D → TB0 s3 bars D (k + 1) → ok (x5_layOut_b51 n s3 g lw D.mea bars (F + 1)) (fun s' => TF s' bars D) :=
      fun s3 hk X3 B3 => ih (s3, F + 1) ⟨k + 1, by omega, by rw [t1]; omega, X3, B3⟩ (by simp only [t1, k2]; omega)
    -- all lines from this start
    have inner : k < 2 * D.n → (k = 0 ∨ plD D (k - 1)) → ok (x5_layOut_b84 (x5_layOut_b51 n) FU s2 g lw D.mea bars F (F + 1)) (fun s' => TF s' bars D) := by
      intro hk hs
      refine ok_loop (K := fun m (p : Sg × Int32) => x5_layOut_b84 (x5_layOut_b51 n) m p.1 g lw D.mea bars F p.2) (I := fun p => ∃ t : Nat, k ≤ t ∧ t ≤ 2 * D.n ∧ p.2.toInt = t ∧ XW p.1 g lw D ∧ TB p.1 bars D k t 0)
        (μ := fun p => 25 - p.2.toInt.toNat) ?_ FU (s2, F + 1) ⟨k, Nat.le_refl _, k1, t1, k3, TB_start k4⟩ (by show _ < 20000; omega)
      rintro m ⟨s3, T⟩ ⟨t, a1, a2, a3, a4, a5⟩ ih2
      simp only at a1 a2 a3 a4 a5 ih2
      show ok (x5_layOut_b84 (x5_layOut_b51 n) (m + 1) s3 g lw D.mea bars F T) _
      rw [li_step]
      have t2 : (T + 1).toInt = (t + 1 : Nat) := by rw [ti_add (by rw [a3, li_1]; omega) (by rw [a3, li_1]; omega), a3, li_1]; omega
      refine ok_gif (fun c => ?_) (fun c => ?_)
      · rw [ti_lt, a3, a4.2.2.2.2] at c
        exact next s3 hk a4 (TB_done a5 (fun t' h j e => by have := e.2.2.1.1; omega))
      · rw [ti_lt, a3, a4.2.2.2.2] at c
        rw [q_canEndAt a4.1 a3]
        simp only [Option.bind_some, gdB0, gdB1, gdbI, gifbI]
        by_cases hp : plD D t
        · rw [gif_t hp]
          refine ok_bind (ok_fr (ok_measureUp (g0 := 1) a4.1 R a1 hp.1 k2 a3) (fr_x2_measureUp _ _ _ _ _) (fun s4 ⟨p1, p2, p3⟩ Fm => ?_))
          have K4 := KX_measure Fm
          have X4 := XW_k K4 a4
          have B4 : TB s4 bars D k t 0 := TB_c a5 (fun i => Fm.l _ _ _ (by intro x; simp [hit] at x)) (fun q i h1 h2 => Fm.i _ _ _ (by intro x; simp [hit] at x))
          refine ok_gif (fun w => ?_) (fun w => ?_)
          · rw [ti_lt, p2] at w
            refine next s4 hk X4 (TB_done B4 (fun t' h j e => ?_))
            have e1 := e.2.2.2.1
            have e2 := e.2.2.1.1
            have := lwid_mono R (fr := k) (to := t) a1 (t' - t) (by omega)
            rw [show t + (t' - t) = t' by omega] at this
            omega
          · refine ok_bind (ok_mono (ok_layLine X4 ⟨by rw [p1, ti_eq, a3, nI_ti (by omega)], p2, p3⟩ a1 hs hp k2 B4) (fun s5 ⟨q1, q2, _⟩ => ?_))
            exact ih2 (s5, T + 1) ⟨t + 1, by omega, by omega, t2, q1, q2⟩ (by simp only [t2, a3]; omega)
        · rw [gif_f hp]
          exact ih2 (s3, T + 1) ⟨t + 1, by omega, by omega, t2, a4, TB_skip a5 (fun j e => hp e.2.2.1)⟩ (by simp only [t2, a3]; omega)
    refine ok_gif (fun c => ?_) (fun c => ?_)
    · rw [ti_lt, k2, k3.2.2.2.2] at c
      have hk : k < 2 * D.n := by omega
      have km : (-1 : Int32).toInt = -1 := by decide
      refine ok_gif (fun d => ?_) (fun d => ?_)
      · rw [ti_eq, k2, km] at d
        exact inner hk (.inl (by omega))
      · rw [ti_eq, k2, km] at d
        rw [q_canEndAt (p := k - 1) k3.1 (by rw [k2]; omega)]
        simp only [Option.bind_some, gdB0, gdB1, gdbI, gifbI]
        by_cases hp : plD D (k - 1)
        · rw [gif_t hp]; exact inner hk (.inr hp)
        · rw [gif_f hp]
          exact next s2 hk k3 (TB_done (TB_start k4) (fun t' _ j e => e.2.1.elim (fun x => by omega) hp))
    · rw [ti_lt, k2, k3.2.2.2.2] at c
      refine ok_some ⟨k3.2.2.2.2, fun fr j hf hj => ?_⟩
      have := k4 fr j (by omega) hj
      rw [pcl_full (by omega)] at this; exact this
  have e0 : x5_layOut s g lw D.mea bars = x5_layOut_b51 FU (wI (wL (wI (wI (wI (g_fillL s 27 0 0) 24 0 0 0) 25 0 0 0) 26 0 0 0) 27 0 0 1) 5 0 5 (2 * rI s 1 g 7 - 1)) g lw D.mea bars (-1) := by
    have b0 : inb 0 625 := inb_iff.mpr (by rw [li_0]; omega)
    have i0 : ix 0 = 0 := by rw [ix_eq, li_0]; rfl
    unfold x5_layOut x5_layOut_G
    cases lw <;> (simp only [gd_t b0, i0]; rfl)
  rw [e0]
  have kk : ∀ q i c, q ≠ 5 → q ≠ 24 → q ≠ 25 → q ≠ 26 → rI (wI (wL (wI (wI (wI (g_fillL s 27 0 0) 24 0 0 0) 25 0 0 0) 26 0 0 0) 27 0 0 1) 5 0 5 (2 * rI s 1 g 7 - 1)) q i c = rI s q i c := by
    intro q i c h1 h2 h3 h4
    rw [rI_ne (by omega), rI_wL, rI_ne (by omega), rI_ne (by omega), rI_ne (by omega)]; rfl
  have kn : ∀ q i c, rN (wI (wL (wI (wI (wI (g_fillL s 27 0 0) 24 0 0 0) 25 0 0 0) 26 0 0 0) 27 0 0 1) 5 0 5 (2 * rI s 1 g 7 - 1)) q i c = rN s q i c := fun q i c => rfl
  have kl : ∀ i, rL (wI (wL (wI (wI (wI (g_fillL s 27 0 0) 24 0 0 0) 25 0 0 0) 26 0 0 0) 27 0 0 1) 5 0 5 (2 * rI s 1 g 7 - 1)) 27 0 i = if i = 0 then 1 else 0 := by
    intro i
    rw [rL_wI, rL_wL]
    by_cases c : i = 0
    · rw [if_pos ⟨rfl, rfl, c⟩, if_pos c]
    · rw [if_neg (by omega), if_neg c, rL_wI, rL_wI, rL_wI]
      show (if (27 : Nat) = 27 ∧ (0 : Nat) = 0 then (0 : Int64) else s.2.1 27 0 i) = 0
      rw [if_pos ⟨rfl, rfl⟩]
  have k5 : (rI (wI (wL (wI (wI (wI (g_fillL s 27 0 0) 24 0 0 0) 25 0 0 0) 26 0 0 0) 27 0 0 1) 5 0 5 (2 * rI s 1 g 7 - 1)) 5 0 5).toInt = 2 * (D.n : Int) - 1 := by
    rw [rI_eq rfl]
    have : (2 * rI s 1 g 7).toInt = 2 * (D.n : Int) := by rw [ti_mul (by rw [X.1, li_2]; omega) (by rw [X.1, li_2]; omega), X.1, li_2]
    rw [ti_sub (by rw [this, li_1]; omega) (by rw [this, li_1]; omega), this, li_1]
  have kz : rI (wI (wL (wI (wI (wI (g_fillL s 27 0 0) 24 0 0 0) 25 0 0 0) 26 0 0 0) 27 0 0 1) 5 0 5 (2 * rI s 1 g 7 - 1)) 24 0 0 = 0 ∧ rI (wI (wL (wI (wI (wI (g_fillL s 27 0 0) 24 0 0 0) 25 0 0 0) 26 0 0 0) 27 0 0 1) 5 0 5 (2 * rI s 1 g 7 - 1)) 26 0 0 = 0 ∧ rI (wI (wL (wI (wI (wI (g_fillL s 27 0 0) 24 0 0 0) 25 0 0 0) 26 0 0 0) 27 0 0 1) 5 0 5 (2 * rI s 1 g 7 - 1)) 25 0 0 = 0 := by
    simp (disch := omega) only [rI_wL, rI_ne, rI_eq, and_self]
  generalize wI (wL (wI (wI (wI (g_fillL s 27 0 0) 24 0 0 0) 25 0 0 0) 26 0 0 0) 27 0 0 1) 5 0 5 (2 * rI s 1 g 7 - 1) = s6 at kk kn kl k5 kz ⊢
  refine main s6 ⟨XD_c X (kk _ _ _ (by omega) (by omega) (by omega) (by omega)) (fun q c h1 h2 => kk _ _ _ (by omega) (by omega) (by omega) (by omega)), ?_, by rw [kk _ _ _ (by omega) (by omega) (by omega) (by omega)]; exact hmo, by rw [kk _ _ _ (by omega) (by omega) (by omega) (by omega)]; exact hpr, k5⟩ (fun fr j hf hj => ?_)
  · rcases L with h | ⟨t, h1, h2, h3⟩
    · exact .inl h
    · exact .inr ⟨t, h1, lawC_c (funext fun c => kk _ _ _ (by omega) (by omega) (by omega) (by omega)) (funext fun c => kk _ _ _ (by omega) (by omega) (by omega) (by omega)) (funext fun c => kk _ _ _ (by omega) (by omega) (by omega) (by omega)) (funext fun c => kk _ _ _ (by omega) (by omega) (by omega) (by omega)) (funext fun c => kk _ _ _ (by omega) (by omega) (by omega) (by omega)) (kn _ _ _) h2, h3⟩
  · unfold pcl
    by_cases c : j = 0
    · rw [if_pos c]
      by_cases d : fr = 0
      · rw [if_pos d]; subst c; subst d
        exact ⟨by rw [kl]; rfl, fun _ => kz⟩
      · rw [if_neg d]; show rL s6 27 0 _ = 0; rw [kl, if_neg (by omega)]
    · rw [if_neg c]
      by_cases d : fr = 0
      · rw [if_pos d]; show rL s6 27 0 _ = 0; rw [kl, if_neg (by omega)]
      · rw [if_neg d, show min 0 fr = 0 by omega]; show rL s6 27 0 _ = 0; rw [kl, if_neg (by omega)]
