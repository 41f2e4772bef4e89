/-! what a clause asks for is done on both sides -/
theorem rf_neg {k : Int32} (h : isRf k) : k.toInt < 0 := by
  rcases h with rfl | rfl | rfl | rfl | rfl <;> decide
theorem mv_core {sx sm : Sg} (I : Inv sx sm) {v a b a' b' : Int32} (hv : isVb v) {mk : Option (Sg × Int32)} {L : FPt} (hEq : Why (sm.1 43 0) v a b = 0 → a' = a ∧ b' = b) (hNe : ¬ Why (sm.1 43 0) v a b = 0 → ¬ Why (sm.1 43 0) v a' b' = 0)
    (no : ¬ Why (sm.1 43 0) v a' b' = 0 → ∃ r, mk = some (sm, r) ∧ r.toInt < 0) (yes : Why (sm.1 43 0) v a' b' = 0 → ∀ h : Nat, h ≤ 16 → (rI sm 10 0 46).toInt = h → ∃ sm' r, mk = some (sm', r) ∧ 0 ≤ r.toInt ∧ MV sm sm' v a' b' h ∧ Fr L sm sm')
    (c1 : clr L [57] 0 = true) (c2 : hitb L 10 0 36 = false) (d1 : clr L [42, 44, 45, 47, 48, 73] 0 = true) (d2 : hitb L 10 0 66 = false) (d3 : hitb L 10 0 13 = false) (d4 : hitb L 10 0 6 = false) (d5 : hitb L 10 0 58 = false) (d6 : hitb L 10 0 0 = false) (d7 : hitb L 10 0 14 = false) :
    (∃ sx' sm' r, x0_attempt sx v a b = some (sx', 0) ∧ mk = some (sm', r) ∧ 0 ≤ r.toInt ∧ Inv sx' sm' ∧ Fr FP_x0_attempt sx sx' ∧ (∀ i, 15 ≤ i → rI sm' 43 0 i = rI sm 43 0 i) ∧ Fr L sm sm') ∨ (∃ e r, x0_attempt sx v a b = some (sx, e) ∧ ¬ e = 0 ∧ mk = some (sm, r) ∧ r.toInt < 0) := by
  by_cases hy : Why (sm.1 43 0) v a b = 0
  · obtain ⟨rfl, rfl⟩ := hEq hy
    obtain ⟨hh, g1, g2, g3, -⟩ := id I.2.2.1
    obtain ⟨sm', r, e1, e2, m, G⟩ := yes hy hh g1 g3
    obtain ⟨sx', hx, hB, hL, F⟩ := both_moved I.2.1 I.2.2.1 hv hy G c1 c2 (fun h' q1 q2 => (show h' = hh by omega) ▸ m)
    refine .inl ⟨sx', sm', r, hx, e1, e2, Inv_moved I F G hB hL d1 d2 d3 d4 d5 d6 d7, F, fun i hi => ?_, G⟩
    rw [m.1 i]
    refine Act_hi (fun v2 => ?_) hi
    subst v2
    have w := (Why_2 hy).2.1
    have n12 : (sm.1 43 0 54).toInt ≤ 12 := I.2.1.1.1.1.2
    unfold wNum at w
    omega
  · obtain ⟨r, e1, e2⟩ := no (hNe hy)
    exact .inr ⟨_, r, q_attempt_no I.2.1 hy, hy, e1, e2⟩
/-- a sum as a small number -/
def smv (u : Int64) : Int32 := if 0 ≤ u.toInt ∧ u.toInt ≤ 1000000 then Int64.toInt32 u else -1
theorem m_sml (s : Sg) (u : Int64) : m_small s u = some (s, smv u) := by
  unfold m_small m_small_G smv
  simp only [cmp_lt, cmp_gt]
  rw [Int64.lt_iff_toInt_lt, Int64.lt_iff_toInt_lt, show (0 : Int64).toInt = 0 from rfl, show (1000000 : Int64).toInt = 1000000 by decide]
  by_cases c : u.toInt < 0
  · rw [gif_t c, if_neg (by omega)]
  · rw [gif_f c]
    by_cases d : 1000000 < u.toInt
    · rw [gif_t d, if_neg (by omega)]
    · rw [gif_f d, if_pos (by omega)]
theorem t32 {u : Int64} (h : rng u) : (Int64.toInt32 u).toInt = u.toInt := by
  unfold rng at h
  rw [Int64.toInt_toInt32]; exact Int.bmod_eq_of_le (by omega) (by omega)
theorem sm_eq {u : Int64} (h : rng u) {lo hi : Int} (h1 : 0 ≤ lo) (h2 : hi ≤ 1000000) (w : lo ≤ (Int64.toInt32 u).toInt ∧ (Int64.toInt32 u).toInt ≤ hi) : smv u = Int64.toInt32 u := by
  rw [t32 h] at w
  unfold smv
  rw [if_pos (by omega)]
theorem sm_in {u : Int64} {lo hi : Int} (h1 : 0 ≤ lo) (w : lo ≤ (smv u).toInt ∧ (smv u).toInt ≤ hi) : smv u = Int64.toInt32 u := by
  unfold smv at w ⊢
  by_cases c : 0 ≤ u.toInt ∧ u.toInt ≤ 1000000
  · rw [if_pos c]
  · rw [if_neg c, show (-1 : Int32).toInt = -1 by decide] at w; omega
/-- by the verb: 0 ends, 1 splits, 2 swells -/
theorem mv_stop {sx sm : Sg} (I : Inv sx sm) {u : Int64} (hu : rng u) : (∃ sx' sm' r, x0_attempt sx 0 (Int64.toInt32 u) 0 = some (sx', 0) ∧ m_stopsKept sm (smv u) = some (sm', r) ∧ 0 ≤ r.toInt ∧ Inv sx' sm' ∧ Fr FP_x0_attempt sx sx' ∧ (∀ i, 15 ≤ i → rI sm' 43 0 i = rI sm 43 0 i) ∧ Fr FP_m_stopsKept sm sm') ∨ (∃ e r, x0_attempt sx 0 (Int64.toInt32 u) 0 = some (sx, e) ∧ ¬ e = 0 ∧ m_stopsKept sm (smv u) = some (sm, r) ∧ r.toInt < 0) := by
  have M := I.2.1.1.1
  have n12 : (sm.1 43 0 54).toInt ≤ 12 := M.1.2
  refine mv_core I (.inl rfl) (a' := smv u) (b' := 0) (fun hy => ⟨?_, rfl⟩) (fun hy hy' => hy ?_) (fun hy => ⟨_, m_stops_no M hy, rf_neg (Why_rf hy)⟩) (fun hy h h16 hh => ?_) rfl rfl rfl rfl rfl rfl rfl rfl rfl
  · have w := (Why_0 hy).1
    unfold wNum at w
    exact sm_eq hu (Int.le_refl 0) (show (12 : Int) ≤ 1000000 by omega) (by omega)
  · have w := (Why_0 hy').1
    unfold wNum at w
    rw [sm_in (u := u) (lo := 0) (hi := 12) (by omega) (by omega)] at hy'; exact hy'
  · obtain ⟨⟨sm', r⟩, hm, m, hr⟩ := ok_stops M hy h16 hh
    simp only at hr
    exact ⟨sm', r, hm, by rw [hr]; exact bI_nn, m, fr_m_stopsKept _ _ _ hm⟩
theorem mv_split {sx sm : Sg} (I : Inv sx sm) {u : Int64} (hu : rng u) : (∃ sx' sm' r, x0_attempt sx 1 (Int64.toInt32 u) 0 = some (sx', 0) ∧ m_splitsKept sm (smv u) = some (sm', r) ∧ 0 ≤ r.toInt ∧ Inv sx' sm' ∧ Fr FP_x0_attempt sx sx' ∧ (∀ i, 15 ≤ i → rI sm' 43 0 i = rI sm 43 0 i) ∧ Fr FP_m_splitsKept sm sm') ∨ (∃ e r, x0_attempt sx 1 (Int64.toInt32 u) 0 = some (sx, e) ∧ ¬ e = 0 ∧ m_splitsKept sm (smv u) = some (sm, r) ∧ r.toInt < 0) := by
  have M := I.2.1.1.1
  have n12 : (sm.1 43 0 54).toInt ≤ 12 := M.1.2
  refine mv_core I (.inr (.inl rfl)) (a' := smv u) (b' := 0) (fun hy => ⟨?_, rfl⟩) (fun hy hy' => hy ?_) (fun hy => ⟨_, m_splits_no M hy, rf_neg (Why_rf hy)⟩) (fun hy h h16 hh => ?_) rfl rfl rfl rfl rfl rfl rfl rfl rfl
  · have w := (Why_1 hy).1
    unfold wNum at w
    exact sm_eq hu (Int.le_refl 0) (show (12 : Int) ≤ 1000000 by omega) (by omega)
  · have w := (Why_1 hy').1
    unfold wNum at w
    rw [sm_in (u := u) (lo := 0) (hi := 12) (by omega) (by omega)] at hy'; exact hy'
  · obtain ⟨⟨sm', r⟩, hm, m, hr⟩ := ok_splits M hy h16 hh
    simp only at hr
    exact ⟨sm', r, hm, by rw [hr]; exact bI_nn, m, fr_m_splitsKept _ _ _ hm⟩
theorem mv_swell {sx sm : Sg} (I : Inv sx sm) {u w : Int64} (hu : rng u) (hw : rng w) : (∃ sx' sm' r, x0_attempt sx 2 (Int64.toInt32 u) (Int64.toInt32 w) = some (sx', 0) ∧ m_swellsKept sm (smv u) (smv w) = some (sm', r) ∧ 0 ≤ r.toInt ∧ Inv sx' sm' ∧ Fr FP_x0_attempt sx sx' ∧ (∀ i, 15 ≤ i → rI sm' 43 0 i = rI sm 43 0 i) ∧ Fr FP_m_swellsKept sm sm') ∨ (∃ e r, x0_attempt sx 2 (Int64.toInt32 u) (Int64.toInt32 w) = some (sx, e) ∧ ¬ e = 0 ∧ m_swellsKept sm (smv u) (smv w) = some (sm, r) ∧ r.toInt < 0) := by
  have M := I.2.1.1.1
  have n12 : (sm.1 43 0 54).toInt ≤ 12 := M.1.2
  refine mv_core I (.inr (.inr (.inl rfl))) (a' := smv u) (b' := smv w) (fun hy => ⟨?_, ?_⟩) (fun hy hy' => hy ?_) (fun hy => ⟨_, m_swells_no M hy, rf_neg (Why_rf hy)⟩) (fun hy h h16 hh => ?_) rfl rfl rfl rfl rfl rfl rfl rfl rfl
  · have x := (Why_2 hy).2.1
    unfold wNum at x
    exact sm_eq hu (Int.le_refl 0) (show (12 : Int) ≤ 1000000 by omega) (by omega)
  · exact sm_eq hw (show (0 : Int) ≤ 1 by omega) (show (20 : Int) ≤ 1000000 by omega) (Why_2 hy).1
  · have x := (Why_2 hy').2.1
    have y := (Why_2 hy').1
    unfold wNum at x
    rw [sm_in (u := u) (lo := 0) (hi := 12) (by omega) (by omega), sm_in (u := w) (lo := 1) (hi := 20) (by omega) y] at hy'; exact hy'
  · obtain ⟨⟨sm', r⟩, hm, m, hr⟩ := ok_swells M hy h16 hh
    refine ⟨sm', r, hm, ?_, m, fr_m_swellsKept _ _ _ _ hm⟩
    have x := (Why_2 hy).2.1
    unfold wNum at x
    have := M.2.1 (smv u).toInt.toNat (by omega)
    have e : r = rI sm 43 0 (2 + (smv u).toInt.toNat) := hr
    rw [e]
    show 0 ≤ (sm.1 43 0 _).toInt
    omega
theorem mv_pass {sx sm : Sg} (I : Inv sx sm) {t : Int32} (ht : ok (m_allOf sm 2) (fun q => q.2 = t)) (t0 : 0 ≤ t.toInt) : (∃ sx' sm', x0_attempt sx 3 0 0 = some (sx', 0) ∧ m_passesKept sm = some (sm', t) ∧ Inv sx' sm' ∧ Fr FP_x0_attempt sx sx' ∧ (∀ i, 15 ≤ i → rI sm' 43 0 i = rI sm 43 0 i) ∧ Fr FP_m_passesKept sm sm') ∨ (∃ e r, x0_attempt sx 3 0 0 = some (sx, e) ∧ ¬ e = 0 ∧ m_passesKept sm = some (sm, r) ∧ r.toInt < 0) := by
  have M := I.2.1.1.1
  have r14 : 0 ≤ (rI sm 43 0 14).toInt ∧ (rI sm 43 0 14).toInt ≤ 999 := M.2.2.2.1.1
  by_cases c : (rI sm 43 0 14).toInt < 999
  · have hy : Why (sm.1 43 0) 3 0 0 = 0 := by unfold Why; rw [if_pos rfl, if_pos (show (sm.1 43 0 14).toInt < 999 from c)]
    obtain ⟨⟨m1, r⟩, hm1, hr⟩ := ht
    have hr : r = t := hr
    subst hr
    have G1 := fr_m_allOf _ _ _ hm1
    have I1 : Inv sx m1 := Inv_scr (L := []) fr_rfl G1 rfl rfl I
    have e14 : rI m1 43 0 14 = rI sm 43 0 14 := G1.i _ _ _ (nh rfl)
    have e43' : ∀ i, rI m1 43 0 i = rI sm 43 0 i := fun i => G1.i _ _ _ (nh rfl)
    have hy1 : Why (m1.1 43 0) 3 0 0 = 0 := by unfold Why; rw [if_pos rfl, if_pos (show (m1.1 43 0 14).toInt < 999 by show (rI m1 43 0 14).toInt < 999; rw [e14]; exact c)]
    obtain ⟨hh, g1, g2, g3, -⟩ := id I1.2.2.1
    obtain ⟨s2, hk, p⟩ := ok_keeps g3 g1 3
    have Gk := fr_m_keeps _ _ _ hk
    have e43 : ∀ i, rI s2 43 0 i = rI m1 43 0 i := fun i => Gk.i _ _ _ (nh rfl)
    have m : MV m1 (wI s2 43 0 14 (rI m1 43 0 14 + 1)) 3 0 0 hh := MV_of p e43 (by unfold Act; rw [if_neg (by decide), if_neg (by decide), if_neg (by decide)]; rfl)
    have G : Fr ((43, 1, 0) :: FP_m_keeps) m1 (wI s2 43 0 14 (rI m1 43 0 14 + 1)) := fr_wI (Gk.mono (fun k i c h => .inr h)) (hit_ie (.head _))
    obtain ⟨s2', hx, hB, hL, F⟩ := both_moved I1.2.1 I1.2.2.1 (.inr (.inr (.inr rfl))) hy1 G rfl rfl (fun h' e1 e2 => (show h' = hh by omega) ▸ m)
    have I2 := Inv_moved I1 F G hB hL rfl rfl rfl rfl rfl rfl rfl
    have em : m_passesKept sm = some (wI s2 43 0 14 (rI m1 43 0 14 + 1), r) := by
      unfold m_passesKept m_passesKept_G
      simp only [gd_t k14.1, k14.2]
      rw [gif_f (by rw [ti_eq, li_999]; omega), hm1]
      simp only [Option.bind_some]
      rw [hk]
      simp only [Option.bind_some, e43]
    refine .inl ⟨s2', _, hx, em, I2, F, fun i hi => ?_, fr_m_passesKept _ _ em⟩
    rw [rI_ne (by omega), e43, e43']
  · have hy : Why (sm.1 43 0) 3 0 0 = -3 := by unfold Why; rw [if_pos rfl, if_neg (show ¬ (sm.1 43 0 14).toInt < 999 from c)]
    refine .inr ⟨_, -3, q_attempt_no I.2.1 (by rw [hy]; decide), by rw [hy]; decide, ?_, by decide⟩
    unfold m_passesKept m_passesKept_G
    simp only [gd_t k14.1, k14.2]
    rw [gif_t (by rw [ti_eq, li_999]; omega)]
