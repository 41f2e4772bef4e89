variable {σ : Nat → Nat} {T : Nat}
theorem pTail_v {r : CZ} {y : Clz × Nat × Nat} (h : pTail σ true r = .inl y) : ∃ y', r = .inl y' ∧ y.1.1 = y'.1.1 := by
  cases r with
  | inr e => exact absurd h (by simp [pTail])
  | inl y' =>
    refine ⟨y', rfl, ?_⟩
    unfold pTail at h
    simp only at h
    by_cases c : σ y'.2.1 = 3009
    · rw [if_pos c] at h
      cases hr : pTest σ true 8 (y'.2.1 + 1) y'.2.2 with
      | inr e => rw [hr, pb_r] at h; exact absurd h (by simp)
      | inl z =>
        rw [hr] at h
        have h : (Sum.inl ((y'.1.1, y'.1.2.1, y'.1.2.2.1, y'.1.2.2.2.1, some z.1), z.2.1, z.2.2) : CZ) = .inl y := h
        simp only [Sum.inl.injEq] at h
        rw [← h]
    · rw [if_neg c] at h
      simp only [Sum.inl.injEq] at h
      rw [← h]
theorem pTimes_v {v : Nat} {A B : List Ins} {p q : Nat} {y : Clz × Nat × Nat} (h : pTimes σ v A B p q = .inl y) : y.1.1 = v := by
  unfold pTimes hd at h
  by_cases c : σ p = 3008
  · rw [if_pos c] at h
    by_cases c2 : 1 ≤ σ (p + 1) ∧ σ (p + 1) ≤ 20
    · rw [if_pos c2] at h; simp only [Sum.inl.injEq] at h; rw [← h]
    · rw [if_neg c2] at h; exact absurd h (by simp)
  · rw [if_neg c] at h; simp only [Sum.inl.injEq] at h; rw [← h]
theorem pOne_v {p q : Nat} {y : Clz × Nat × Nat} (h : pOne σ true p q = .inl y) : 3003 ≤ σ p ∧ σ p ≤ 3006 ∧ y.1.1 = σ p - 3003 := by
  unfold pOne at h
  rw [if_pos rfl] at h
  obtain ⟨y', h1, h2⟩ := pTail_v h
  unfold pOrderH at h1
  by_cases c : 3003 ≤ σ p ∧ σ p ≤ 3006
  · rw [if_pos c] at h1
    refine ⟨c.1, c.2, ?_⟩
    rw [h2]
    by_cases c6 : σ p = 3006
    · rw [if_pos c6] at h1; rw [pTimes_v h1]; omega
    · rw [if_neg c6] at h1
      cases hr : pSum σ true 8 (p + 1) q with
      | inr e => rw [hr, pb_r] at h1; exact absurd h1 (by simp)
      | inl z =>
        rw [hr] at h1
        have h1 : (if σ p = 3005 then (if σ z.2.1 = 3007 then pb (pSum σ true 8 (z.2.1 + 1) z.2.2) (fun B p2 q2 => pTimes σ 2 z.1 B p2 q2) else .inr z.2.1) else pTimes σ (σ p - 3003) z.1 [] z.2.1 z.2.2) = .inl y' := h1
        by_cases c5 : σ p = 3005
        · rw [if_pos c5] at h1
          by_cases c7 : σ z.2.1 = 3007
          · rw [if_pos c7] at h1
            cases hr2 : pSum σ true 8 (z.2.1 + 1) z.2.2 with
            | inr e => rw [hr2, pb_r] at h1; exact absurd h1 (by simp)
            | inl w =>
              rw [hr2] at h1
              have h1 : pTimes σ 2 z.1 w.1 w.2.1 w.2.2 = .inl y' := h1
              rw [pTimes_v h1]; omega
          · rw [if_neg c7] at h1; exact absurd h1 (by simp)
        · rw [if_neg c5] at h1; rw [pTimes_v h1]
  · rw [if_neg c] at h1; exact absurd h1 (by simp)
def ONC (s1 : Sg) (y : Sg × Int32) : Prop :=
  (y.2 = 1 ∧ rI s1 10 0 63 = 0 ∧ Inv y.1 s1 ∧ rI y.1 0 0 8 = rI s1 10 0 29 ∧ rI y.1 0 0 7 = rI s1 10 0 30) ∨
  (y.2 = 0 ∧ ¬ rI s1 10 0 63 = 0 ∧ (rI s1 10 0 62 = 0 ∨ (¬ rI s1 10 0 62 = 0 ∧ ∃ q v, m_obeys s1 = some (q, v) ∧ v < 0 ∧ ∀ i, 15 ≤ i → rI q 43 0 i = rI s1 43 0 i))) ∨
  (y.2 = 1 ∧ ¬ rI s1 10 0 63 = 0 ∧ ¬ rI s1 10 0 62 = 0 ∧ ∃ q v, m_obeys s1 = some (q, v) ∧ ¬ v < 0 ∧ Inv y.1 q ∧ rI y.1 0 0 8 = rI q 10 0 29 + 1 ∧ rI y.1 0 0 7 = rI q 10 0 30 ∧ (∀ i, 15 ≤ i → rI q 43 0 i = rI s1 43 0 i) ∧ rI q 10 0 59 = rI s1 10 0 59)
/-- behind the sums -/
theorem once_150 {s' s1 : Sg} (I : Inv s' s1) {c v : Nat} (hc : c < 12) (hv : v ≤ 3) (h31 : rI s' 31 0 c = nI v) (h61 : rI s1 10 0 61 = nI (if v = 0 then 22 else if v = 1 then 23 else if v = 2 then 24 else 26)) (d8 : rI s' 0 0 8 = rI s1 10 0 29) (d7 : rI s' 0 0 7 = rI s1 10 0 30) {u w : Int64} (hu : v ≠ 3 → rL s1 72 0 0 = u ∧ rng u) (hw : v = 2 → rL s1 72 0 1 = w ∧ rng w) (u0 : v = 3 → u = 0) (w0 : v ≠ 2 → w = 0) {t : Int32} (ht : ok (m_allOf s1 2) (fun q => q.2 = t)) (t0 : 0 ≤ t.toInt) (f4 : rI s' 11 0 4 = t) (n63 : ¬ rI s1 10 0 63 = 0) (n62 : ¬ rI s1 10 0 62 = 0) : ok (x0_runOnce_b150 s' 0 (nI c) u w) (ONC s1) := by
  have bc : inb (nI c) 12 := inb_nI (by omega) hc
  have ic : ix (nI c) = c := ix_nI (by omega)
  have z32 : Int64.toInt32 0 = 0 := by decide
  have b2 : inb 0 2 ∧ ix 0 = 0 ∧ inb 1 2 ∧ ix 1 = 1 := ⟨inb_nI (a := 0) (by omega) (by omega), ix_nI (a := 0) (by omega), inb_nI (a := 1) (by omega) (by omega), ix_nI (a := 1) (by omega)⟩
  have b4 : inb 4 29 ∧ ix 4 = 4 := ⟨inb_nI (a := 4) (by omega) (by omega), ix_nI (a := 4) (by omega)⟩
  unfold x0_runOnce_b150 x0_runOnce_b150_G
  simp only [gd_t bc, ic, gdB0, gdB1]
  rw [h31]
  -- done, not a pass
  have done : ∀ (sx' q : Sg) (r : Int32) (L : FPt), v ≠ 3 → x0_attempt s' (nI v) (Int64.toInt32 u) (Int64.toInt32 w) = some (sx', 0) → m_obeys s1 = some (q, r) → 0 ≤ r.toInt → Inv sx' q → Fr FP_x0_attempt s' sx' → (∀ i, 15 ≤ i → rI q 43 0 i = rI s1 43 0 i) → Fr L s1 q → hitb L 10 0 29 = false → hitb L 10 0 30 = false → hitb L 10 0 59 = false → ok ((x0_attempt s' (nI v) (Int64.toInt32 u) (Int64.toInt32 w)).bind fun q1 => gif (q1.2 = 0) (gif (rI q1.1 31 0 c = 3) (gd (inb 4 29) (some (wI (wI q1.1 0 0 7 (rI q1.1 11 0 (ix 4))) 0 0 8 (rI (wI q1.1 0 0 7 (rI q1.1 11 0 (ix 4))) 0 0 8 + 1), (1 : Int32)))) (some (wI q1.1 0 0 8 (rI q1.1 0 0 8 + 1), 1))) (some (q1.1, 0))) (ONC s1) := by
    intro sx' q r L v3 ea eo r0 I' F hi G g1 g2 g3
    have x31 : rI sx' 31 0 c = nI v := by rw [F.i 31 0 c (by intro x; simp [hit] at x)]; exact h31
    have x8 : rI sx' 0 0 8 = rI s' 0 0 8 := F.i 0 0 8 (by intro x; simp [hit] at x)
    have x7 : rI sx' 0 0 7 = rI s' 0 0 7 := F.i 0 0 7 (by intro x; simp [hit] at x)
    rw [ea]
    simp only [Option.bind_some]
    rw [gif_t trivial, x31, gif_f (fun e => v3 ((mq (m := 3) (by omega) li_3).mp e))]
    have F8 : Fr [(0, 1, 9)] sx' (wI sx' 0 0 8 (rI sx' 0 0 8 + 1)) := fr_wI fr_rfl (hit_is (by simp))
    refine ok_some (.inr (.inr ⟨rfl, n63, n62, q, r, eo, by rw [ti_lt, li_0]; omega, Inv_scr F8 (M := []) fr_rfl rfl rfl I', ?_, ?_, hi, G.i 10 0 59 (nh g3)⟩))
    · rw [rI_eq rfl, x8, d8, G.i 10 0 29 (nh g1)]
    · rw [rI_ne (by omega), x7, d7, G.i 10 0 30 (nh g2)]
  -- it can't be
  have cant : ∀ (e r : Int32) (q : Sg), x0_attempt s' (nI v) (Int64.toInt32 u) (Int64.toInt32 w) = some (s', e) → ¬ e = 0 → m_obeys s1 = some (q, r) → r.toInt < 0 → (∀ i, 15 ≤ i → rI q 43 0 i = rI s1 43 0 i) → ok ((x0_attempt s' (nI v) (Int64.toInt32 u) (Int64.toInt32 w)).bind fun q1 => gif (q1.2 = 0) (gif (rI q1.1 31 0 c = 3) (gd (inb 4 29) (some (wI (wI q1.1 0 0 7 (rI q1.1 11 0 (ix 4))) 0 0 8 (rI (wI q1.1 0 0 7 (rI q1.1 11 0 (ix 4))) 0 0 8 + 1), (1 : Int32)))) (some (wI q1.1 0 0 8 (rI q1.1 0 0 8 + 1), 1))) (some (q1.1, 0))) (ONC s1) := by
    intro e r q ea e0 eo r0 hi
    rw [ea]
    simp only [Option.bind_some]
    rw [gif_f e0]
    exact ok_some (.inr (.inl ⟨rfl, n63, .inr ⟨n62, q, r, eo, by rw [ti_lt, li_0]; omega, hi⟩⟩))
  have ob : m_obeys s1 = (m_small s1 (rL s1 72 0 0)).bind fun q1 => gif (rI q1.1 10 0 61 = 23) ((m_splitsKept q1.1 q1.2).bind fun q2 => some (q2.1, q2.2)) (gif (rI q1.1 10 0 61 = 24) (gd (inb 1 2) ((m_small q1.1 (rL q1.1 72 0 (ix 1))).bind fun q3 => (m_swellsKept q3.1 q1.2 q3.2).bind fun q4 => some (q4.1, q4.2))) (gif (rI q1.1 10 0 61 = 25) ((m_stopsKept q1.1 q1.2).bind fun q5 => some (q5.1, q5.2)) (gif (rI q1.1 10 0 61 = 26) ((m_passesKept q1.1).bind fun q6 => gif (q6.2 < 0) (some (wI q6.1 10 0 30 (rI q6.1 10 0 30), q6.2)) (some (wI q6.1 10 0 30 q6.2, q6.2))) ((m_stopsKept q1.1 q1.2).bind fun q9 => some (q9.1, q9.2))))) := by
    unfold m_obeys m_obeys_G
    rw [gd_t b2.1, b2.2.1]
  rw [m_sml] at ob
  simp only [Option.bind_some, bindp, gd_t b2.2.2.1, b2.2.2.2, m_sml, h61] at ob
  rcases (by omega : v = 0 ∨ v = 1 ∨ v = 2 ∨ v = 3) with rfl | rfl | rfl | rfl
  · obtain ⟨e1, ru⟩ := hu (by omega)
    have ew := w0 (by omega)
    subst ew
    rw [e1, gif_f (by decide), gif_f (by decide), gif_f (by decide), gif_f (by decide)] at ob
    rw [z32] at done cant ⊢
    rcases mv_stop I ru with ⟨sx', sm', r, h1, h2, h3, h4, h5, h6, h7⟩ | ⟨e, r, h1, h2, h3, h4⟩
    · exact done sx' sm' r _ (by omega) h1 (ob.trans h2) h3 h4 h5 h6 h7 rfl rfl rfl
    · exact cant e r s1 h1 h2 (ob.trans h3) h4 (fun _ _ => rfl)
  · obtain ⟨e1, ru⟩ := hu (by omega)
    have ew := w0 (by omega)
    subst ew
    rw [e1, gif_t (by decide)] at ob
    rw [z32] at done cant ⊢
    rcases mv_split I ru with ⟨sx', sm', r, h1, h2, h3, h4, h5, h6, h7⟩ | ⟨e, r, h1, h2, h3, h4⟩
    · exact done sx' sm' r _ (by omega) h1 (ob.trans h2) h3 h4 h5 h6 h7 rfl rfl rfl
    · exact cant e r s1 h1 h2 (ob.trans h3) h4 (fun _ _ => rfl)
  · obtain ⟨e1, ru⟩ := hu (by omega)
    obtain ⟨e2, rw'⟩ := hw rfl
    rw [e1, e2, gif_f (by decide), gif_t (by decide)] at ob
    rcases mv_swell I ru rw' with ⟨sx', sm', r, h1, h2, h3, h4, h5, h6, h7⟩ | ⟨e, r, h1, h2, h3, h4⟩
    · exact done sx' sm' r _ (by omega) h1 (ob.trans h2) h3 h4 h5 h6 h7 rfl rfl rfl
    · exact cant e r s1 h1 h2 (ob.trans h3) h4 (fun _ _ => rfl)
  · have eu := u0 rfl
    have ew := w0 (by omega)
    subst eu; subst ew
    rw [gif_f (by decide), gif_f (by decide), gif_f (by decide), gif_t (by decide)] at ob
    rw [z32] at done cant ⊢
    rcases mv_pass I ht t0 with ⟨sx', sm', h1, h2, h4, h5, h6, h7⟩ | ⟨e, r, h1, h2, h3, h4⟩
    · rw [h2] at ob
      simp only [Option.bind_some] at ob
      rw [gif_f (by rw [ti_lt, li_0]; omega)] at ob
      rw [show nI 3 = 3 from rfl, h1]
      simp only [Option.bind_some]
      have x31 : rI sx' 31 0 c = nI 3 := by rw [h5.i 31 0 c (by intro x; simp [hit] at x)]; exact h31
      have x8 : rI sx' 0 0 8 = rI s' 0 0 8 := h5.i 0 0 8 (by intro x; simp [hit] at x)
      have x4 : rI sx' 11 0 4 = t := by rw [h5.i 11 0 4 (by intro x; simp [hit] at x)]; exact f4
      rw [gif_t trivial, x31, gif_t (show nI 3 = 3 from rfl), gd_t b4.1, b4.2, x4]
      have F8 : Fr [(0, 1, 9), (0, 1, 8)] sx' (wI (wI sx' 0 0 7 t) 0 0 8 (rI (wI sx' 0 0 7 t) 0 0 8 + 1)) := fr_wI (fr_wI fr_rfl (hit_is (by simp))) (hit_is (by simp))
      have G8 : Fr [(10, 1, 31)] sm' (wI sm' 10 0 30 t) := fr_wI fr_rfl (hit_is (by simp))
      refine ok_some (.inr (.inr ⟨rfl, n63, n62, _, t, ob, by rw [ti_lt, li_0]; omega, Inv_scr F8 G8 rfl rfl h4, ?_, ?_, fun i hi => by rw [rI_ne (by omega)]; exact h6 i hi, ?_⟩))
      · simp only []; rw [rI_eq rfl, rI_ne (by omega), x8, d8, rI_ne (by omega), h7.i 10 0 29 (nh rfl)]
      · simp only []; rw [rI_ne (by omega), rI_eq rfl, rI_eq rfl]
      · rw [rI_ne (by omega), h7.i 10 0 59 (nh rfl)]
    · rw [h3] at ob
      simp only [Option.bind_some] at ob
      rw [gif_t (by rw [ti_lt, li_0]; omega)] at ob
      exact cant e r _ h1 h2 ob h4 (fun i hi => by rw [rI_ne (by omega)])
