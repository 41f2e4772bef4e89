/-! RIVERS, joined -/
noncomputable def spf (f : Nat → Int32) (n j k : Nat) : Int := sumW (pc (wdF f) (ftF f) (frL (EL f (2 * n)) j) (toL (EL f (2 * n)) j)) (frL (EL f (2 * n)) j / 2) (k + 1)
def mNf (f : Nat → Int32) (n j : Nat) : Nat := toL (EL f (2 * n)) j / 2 - frL (EL f (2 * n)) j / 2
noncomputable def AA (f : Nat → Int32) (n : Nat) : Nat → Int → Int
  | 0 => fun _ => 0
  | j + 1 => stp (mNf f n j) (spf f n j) (AA f n j)
noncomputable def RR (f : Nat → Int32) (n : Nat) : Nat → Int
  | 0 => 0
  | j + 1 => mxf (fun k => vl (AA f n j) (spf f n j k)) (RR f n j) (mNf f n j)
theorem AA_s {f : Nat → Int32} {n j : Nat} : AA f n (j + 1) = stp (mNf f n j) (spf f n j) (AA f n j) := rfl
theorem RR_s {f : Nat → Int32} {n j : Nat} : RR f n (j + 1) = mxf (fun k => vl (AA f n j) (spf f n j k)) (RR f n j) (mNf f n j) := rfl
theorem AA_r {f : Nat → Int32} {n : Nat} : ∀ j : Nat, ∀ q, 0 ≤ AA f n j q ∧ AA f n j q ≤ j := by
  intro j
  induction j with
  | zero => intro q; show (0 : Int) ≤ 0 ∧ (0 : Int) ≤ ((0 : Nat) : Int); omega
  | succ j ih => intro q; rw [AA_s]; have := stp_r (m := mNf f n j) (sp := spf f n j) ih q; omega
theorem RR_r {f : Nat → Int32} {n : Nat} : ∀ j : Nat, 0 ≤ RR f n j ∧ RR f n j ≤ j := by
  intro j
  induction j with
  | zero => show (0 : Int) ≤ 0 ∧ (0 : Int) ≤ ((0 : Nat) : Int); omega
  | succ j ih => rw [RR_s]; exact mxf_r (by omega) (fun i hi => by have := vl_r (AA_r (f := f) (n := n) j) (spf f n j i); omega)
theorem ok_longest {s : Sg} {g n : Nat} {f : Nat → Int32} {C : List Cla} (T : Told s f C n) (X : XD s g n (wdF f) (ftF f) (kdF f)) (R : RD n (wdF f) (ftF f)) (hN : (rN s 7 0 1 = 0 ∧ rN s 7 0 2 = 1) ∨ (rN s 7 0 1 = 1 ∧ rN s 7 0 2 = 0)) :
    ok (x7_longestRiver s g) (fun q => q.2.toInt = RR f n (EL f (2 * n)).length ∧ ((rN q.1 7 0 1 = 0 ∧ rN q.1 7 0 2 = 1) ∨ (rN q.1 7 0 1 = 1 ∧ rN q.1 7 0 2 = 0))) := by
  have n12 := X.2.1
  have ll : (EL f (2 * n)).length ≤ 2 * n := EL_len
  unfold x7_longestRiver x7_longestRiver_G
  simp only []
  have hab : rN s 7 0 1 ≠ rN s 7 0 2 := by omega
  refine ok_loop (K := fun k (p : Sg × Int32 × Int32 × Int32) => x7_longestRiver_b15 k p.1 g p.2.1 p.2.2.1 p.2.2.2) (I := fun p => ∃ j : Nat, j ≤ (EL f (2 * n)).length ∧ p.2.2.2.toInt = j ∧ p.2.2.1.toInt = (frL (EL f (2 * n)) j : Int) - 1 ∧ p.2.1.toInt = RR f n j ∧ rI p.1 7 0 4 = rI s 7 0 4 ∧ (∀ c, rI p.1 74 0 c = rI s 74 0 c) ∧ XD p.1 g n (wdF f) (ftF f) (kdF f) ∧ ((rN p.1 7 0 1 = 0 ∧ rN p.1 7 0 2 = 1) ∨ (rN p.1 7 0 1 = 1 ∧ rN p.1 7 0 2 = 0)) ∧ (∀ q : Nat, q < 256 → (rI p.1 75 (rN p.1 7 0 1) q).toInt = AA f n j q))
    (μ := fun p => 25 - p.2.2.2.toInt.toNat) ?_ FU (g_fillI s 75 (rN s 7 0 1) 0, 0, -1, 0) ⟨0, by omega, rfl, by simp only [frL, if_pos]; decide, rfl, rI_fillne (by omega), fun c => rI_fillne (by omega), XD_c X (rI_fillne (by omega)) (fun k c h1 h2 => rI_fillne (by omega)), hN, fun q hq => by rw [rN_fill, rI_fill]; rfl⟩ (by show _ < 20000; omega)
  rintro k ⟨s2, l2, l3, l4⟩ ⟨j, j1, j2, j3, j4, j5, j6, j7, j8, j9⟩ ih
  simp only at j1 j2 j3 j4 j5 j6 j7 j8 j9 ih
  show ok (x7_longestRiver_b15_G _ _ _ s2 g l2 l3 l4) _
  unfold x7_longestRiver_b15_G
  have e4 : (rI s2 7 0 4).toInt = (EL f (2 * n)).length := by rw [j5]; exact T.1
  refine ok_gif (fun c => ?_) (fun c => ?_)
  · rw [ti_lt, e4, j2] at c
    have hj : j < (EL f (2 * n)).length := by omega
    have ft := fr_to hj
    rw [q_tellOf e4 (by omega) (w := 0) rfl (by omega) j2 hj]
    simp only [Option.bind_some]
    have hT : (rI s2 74 0 j).toInt = toL (EL f (2 * n)) j := by rw [j6]; exact (T.2 j hj).1
    have ar := AA_r (f := f) (n := n) j
    have rr := RR_r (f := f) (n := n) j
    refine ok_bind (ok_fr (ok_flow (A := AA f n j) j7 R ft.2 j3 hT ft.1 (by omega) rfl rfl j9 (fun q => by have := ar q; omega)) (fr_x7_flowThrough _ _ _ _) (fun q ⟨p1, p2⟩ F => ?_))
    have fN1 : rN q.1 7 0 1 = rN s2 7 0 1 := F.n _ _ _ (nh rfl)
    have fN2 : rN q.1 7 0 2 = rN s2 7 0 2 := F.n _ _ _ (nh rfl)
    rw [fN1, fN2]
    have t1 : (l4 + 1).toInt = (j + 1 : Nat) := by rw [ti_add (by rw [j2, li_1]; omega) (by rw [j2, li_1]; omega), j2, li_1]; omega
    have n1 : rN (wN (wN q.1 7 0 1 (rN s2 7 0 2)) 7 0 2 (rN s2 7 0 1)) 7 0 1 = rN s2 7 0 2 := by simp [rN_wN]
    have n2 : rN (wN (wN q.1 7 0 1 (rN s2 7 0 2)) 7 0 2 (rN s2 7 0 1)) 7 0 2 = rN s2 7 0 1 := by simp [rN_wN]
    have fI : ∀ k i c, rI (wN (wN q.1 7 0 1 (rN s2 7 0 2)) 7 0 2 (rN s2 7 0 1)) k i c = rI q.1 k i c := fun k i c => rfl
    refine ih (wN (wN q.1 7 0 1 (rN s2 7 0 2)) 7 0 2 (rN s2 7 0 1), g_max l2 q.2, rI s2 74 0 j, l4 + 1) ⟨j + 1, by omega, t1, ?_, ?_, ?_, fun c => ?_, XD_c j7 (by rw [fI]; exact F.i _ _ _ (nh rfl)) (fun k c h1 h2 => by rw [fI]; rcases (by omega : k = 12 ∨ k = 13 ∨ k = 14) with rfl | rfl | rfl <;> exact F.i _ _ _ (nh rfl)), ?_, fun q' hq => ?_⟩ (by simp only [t1, j2]; omega)
    · simp only []
      rw [hT]; unfold frL; rw [if_neg (by omega), show j + 1 - 1 = j by omega]; unfold toL; omega
    · simp only []
      rw [ti_max, j4, p2, RR_s, mxf_max rr.1]; rfl
    · simp only []; rw [fI, F.i _ _ _ (nh rfl)]; exact j5
    · simp only []; rw [fI, F.i _ _ _ (nh rfl)]; exact j6 c
    · simp only []; rw [n1, n2]; omega
    · simp only []; rw [n1, fI]; exact p1 q' hq
  · rw [ti_lt, e4, j2] at c
    exact ok_some ⟨by simp only []; rw [j4, show j = (EL f (2 * n)).length by omega], j8⟩
theorem ok_river {s : Sg} {n : Nat} {f : Nat → Int32} {C : List Cla} (h : MC s f C n) (R : RD n (wdF f) (ftF f)) :
    ok (m_river_b15 FU (wI s 69 0 1 0) 0 0) (fun q => q.2.toInt = RR f n (EL f (2 * n)).length) := by
  have n12 := h.2.1.2.1
  have ll : (EL f (2 * n)).length ≤ 2 * n := EL_len
  refine ok_loop (K := fun k (p : Sg × Int32 × Int32) => m_river_b15 k p.1 p.2.1 p.2.2) (I := fun p => ∃ j : Nat, j ≤ (EL f (2 * n)).length ∧ p.2.2.toInt = j ∧ p.2.1.toInt = RR f n j ∧ MC p.1 f C n ∧ ∃ m : Nat, ∃ sp : Nat → Int, m ≤ 12 ∧ (rI p.1 69 0 (1 - j % 2)).toInt = m ∧ (∀ i : Nat, i < m → (rI p.1 67 0 (13 * (1 - j % 2) + i)).toInt = sp i ∧ (rI p.1 68 0 (13 * (1 - j % 2) + i)).toInt = AA f n j (sp i) ∧ 0 ≤ sp i ∧ sp i ≤ 300) ∧ ∀ q, AA f n j q ≠ 0 → ∃ i, i < m ∧ sp i = q)
    (μ := fun p => 25 - p.2.2.toInt.toNat) ?_ FU (wI s 69 0 1 0, 0, 0) ⟨0, by omega, rfl, rfl, MC_c h (fun c => rI_ne (by omega)) (fun c => rI_ne (by omega)) (fun c => rI_ne (by omega)) (rI_ne (by omega)) (rI_ne (by omega)), 0, fun _ => 0, by omega, by simp only []; rw [rI_eq rfl]; rfl, fun i hi => by omega, fun q hq => absurd rfl hq⟩ (by show _ < 20000; omega)
  rintro k ⟨s2, l1, l2⟩ ⟨j, j1, j2, j3, j4, m, sp, j5, j6, j7, j8⟩ ih
  simp only at j1 j2 j3 j4 j6 j7 ih
  show ok (m_river_b15_G _ _ s2 l1 l2) _
  unfold m_river_b15_G
  refine ok_gif (fun c => ?_) (fun c => ?_)
  · rw [ti_lt, j4.2.2.1.1, j2] at c
    have hj : j < (EL f (2 * n)).length := by omega
    have ft := fr_to hj
    have tH : (g_rem l2 2).toInt = (j % 2 : Nat) := by rw [ti_rem (by omega) (by decide), j2, li_2]; omega
    rw [gd_t (by decide)]
    have okS : ok (m_laysSpaces s2 (g_rem l2 2) l2) (fun s' => SP s' (j % 2) (pc (wdF f) (ftF f) (frL (EL f (2 * n)) j) (toL (EL f (2 * n)) j)) (frL (EL f (2 * n)) j / 2) (toL (EL f (2 * n)) j / 2 + 1 - frL (EL f (2 * n)) j / 2) ∧ KS s2 s' (j % 2)) := by
      unfold m_laysSpaces m_laysSpaces_G
      refine ok_gif (fun d => ?_) (fun d => ?_)
      · rw [ti_eq, j2, li_0] at d
        have d0 : j = 0 := by omega
        subst d0
        exact ok_spaces j4.1 n12 R ft.1 ft.2 tH (by omega) j2 (by omega) (show (-1 : Int32).toInt = ((0 : Nat) : Int) - 1 by decide) (j4.2.2.1.2 0 hj)
      · rw [ti_eq, j2, li_0] at d
        have t1 : (l2 - 1).toInt = j - 1 := by rw [ti_sub (by rw [j2, li_1]; omega) (by rw [j2, li_1]; omega), j2, li_1]
        rw [gd_t (inb_iff.mpr (by omega)), show ix (l2 - 1) = j - 1 by rw [ix_eq, t1]; omega]
        refine ok_spaces j4.1 n12 R ft.1 ft.2 tH (by omega) j2 (by omega) ?_ (j4.2.2.1.2 j hj)
        rw [j4.2.2.1.2 (j - 1) (by omega)]
        unfold frL; rw [if_neg (by omega)]; unfold toL; omega
    refine ok_bind (ok_mono okS (fun s3 ⟨S, KS⟩ => ?_))
    have M3 : MC s3 f C n := MC_c j4 (fun c => KS _ _ _ (by omega) (by omega)) (fun c => KS _ _ _ (by omega) (by omega)) (fun c => KS _ _ _ (by omega) (by omega)) (KS _ _ _ (by omega) (by omega)) (KS _ _ _ (by omega) (by omega))
    have ar := AA_r (f := f) (n := n) j
    have rr := RR_r (f := f) (n := n) j
    have mN : mNf f n j ≤ 12 := by unfold mNf; omega
    have em : toL (EL f (2 * n)) j / 2 + 1 - frL (EL f (2 * n)) j / 2 - 1 = mNf f n j := by unfold mNf; omega
    have S1 : (rI s3 69 0 (j % 2)).toInt = mNf f n j := by rw [S.1, em]
    have S2 : ∀ k : Nat, k < mNf f n j → (rI s3 67 0 (13 * (j % 2) + k)).toInt = spf f n j k := fun k hk => S.2 k (by unfold mNf at hk; omega)
    have spr : ∀ k : Nat, k < mNf f n j → 1 ≤ spf f n j k ∧ spf f n j k ≤ 252 := fun k hk => sp_r R n12 ft.2 hk
    have t2 : (l2 + 1).toInt = (j + 1 : Nat) := by rw [ti_add (by rw [j2, li_1]; omega) (by rw [j2, li_1]; omega), j2, li_1]; omega
    -- the line's spaces
    refine ok_loop (K := fun d (p : Sg × Int32 × Int32) => m_river_b36 (m_river_b15 k) d p.1 p.2.1 l2 (g_rem l2 2) p.2.2) (I := fun p => ∃ i : Nat, i ≤ mNf f n j ∧ p.2.2.toInt = i ∧ p.2.1.toInt = mxf (fun k => vl (AA f n j) (spf f n j k)) (RR f n j) i ∧ (∀ i' : Nat, i' < i → (rI p.1 68 0 (13 * (j % 2) + i')).toInt = vl (AA f n j) (spf f n j i')) ∧ (∀ i' : Nat, i' < 13 → rI p.1 68 0 (13 * (1 - j % 2) + i') = rI s3 68 0 (13 * (1 - j % 2) + i')) ∧ ∀ k i c, k ≠ 68 → rI p.1 k i c = rI s3 k i c)
      (μ := fun p => 13 - p.2.2.toInt.toNat) ?_ FU (s3, l1, 0) ⟨0, by omega, rfl, j3, fun i' hi => by omega, fun i' _ => rfl, fun k i c _ => rfl⟩ (by show _ < 20000; omega)
    rintro d ⟨s4, l1', l4⟩ ⟨i, i1, i2, i3, i4, i5, i6⟩ ih2
    simp only at i1 i2 i3 i4 i5 i6 ih2
    show ok (m_river_b36_G _ _ _ _ s4 l1' l2 (g_rem l2 2) l4) _
    unfold m_river_b36_G
    have iH : ix (g_rem l2 2) = j % 2 := by rw [ix_eq, tH]; omega
    rw [gd_t (inb_iff.mpr (by rw [tH]; omega)), iH]
    have e9 : (rI s4 69 0 (j % 2)).toInt = mNf f n j := by rw [i6 _ _ _ (by omega)]; exact S1
    refine ok_gif (fun e => ?_) (fun e => ?_)
    · rw [ti_lt, i2, e9] at e
      have hi : i < mNf f n j := by omega
      have sri := spr i hi
      refine ok_bind (ok_mono (ok_riverTo (s := s4) (K := l4) (k := i) (m := m) (sp := sp) (A := AA f n j) (p := spf f n j i) tH (by omega) i2 (by omega) j5 ?_ (fun i' hi' => ?_) ?_ (by omega) (fun q => by have := ar q; omega) j8) (fun q ⟨p1, p2⟩ => ?_))
      · rw [i6 _ _ _ (by omega), KS _ _ _ (by omega) (by omega)]; exact j6
      · rw [i6 _ _ _ (by omega), KS _ _ _ (by omega) (by omega), i5 i' (by omega), KS _ _ _ (by omega) (by omega)]; exact j7 i' hi'
      · rw [i6 _ _ _ (by omega)]; exact S2 i hi
      · obtain ⟨q1, v⟩ := q
        simp only at p1 p2
        subst p1
        have u1 : (13 * g_rem l2 2).toInt = 13 * (j % 2 : Nat) := by rw [ti_mul (by rw [tH]; show -2147483648 ≤ 13 * _; omega) (by rw [tH]; show 13 * _ < _; omega), tH]; rfl
        have u2 : (13 * g_rem l2 2 + l4).toInt = 13 * (j % 2 : Nat) + i := by rw [ti_add (by rw [u1, i2]; omega) (by rw [u1, i2]; omega), u1, i2]
        have b2 : inb (13 * g_rem l2 2 + l4) 26 := inb_iff.mpr (by rw [u2]; omega)
        rw [gd_t b2, gd_t b2, show ix (13 * g_rem l2 2 + l4) = 13 * (j % 2) + i by rw [ix_eq, u2]; omega, grt, rI_eq rfl]
        simp only [Option.bind_some]
        have t4 : (l4 + 1).toInt = (i + 1 : Nat) := by rw [ti_add (by rw [i2, li_1]; omega) (by rw [i2, li_1]; omega), i2, li_1]; omega
        refine ih2 (wI q1 68 0 (13 * (j % 2) + i) v, g_max l1' v, l4 + 1) ⟨i + 1, by omega, t4, by simp only []; rw [ti_max, i3, p2, mxf_s], fun i' hi' => ?_, fun i' hi' => ?_, fun k i c hk => ?_⟩ (by simp only [t4, i2]; omega)
        · simp only []
          by_cases x : i' = i
          · subst x; rw [rI_eq rfl]; exact p2
          · rw [rI_ne (by omega)]; exact i4 i' (by omega)
        · simp only []; rw [rI_ne (by omega)]; exact i5 i' hi'
        · simp only []; rw [rI_ne (by omega)]; exact i6 k i c hk
    · rw [ti_lt, i2, e9] at e
      have ei : i = mNf f n j := by omega
      subst ei
      have eh : 1 - (j + 1) % 2 = j % 2 := by omega
      refine ih (s4, l1', l2 + 1) ⟨j + 1, by omega, t2, by simp only []; rw [i3, RR_s], MC_c M3 (fun c => i6 _ _ _ (by omega)) (fun c => i6 _ _ _ (by omega)) (fun c => i6 _ _ _ (by omega)) (i6 _ _ _ (by omega)) (i6 _ _ _ (by omega)), mNf f n j, spf f n j, mN, by simp only []; rw [eh]; exact e9, fun i' hi' => ?_, fun q hq => ?_⟩ (by simp only [t2, j2]; omega)
      · simp only []
        have sri := spr i' hi'
        rw [eh, i6 _ _ _ (by omega), i4 i' hi', AA_s, stp_at hi']
        exact ⟨S2 i' hi', rfl, by omega, by omega⟩
      · rw [AA_s] at hq; exact stp_has hq
  · rw [ti_lt, j4.2.2.1.1, j2] at c
    exact ok_some (by simp only []; rw [j3, show j = (EL f (2 * n)).length by omega])
theorem c_river {sx sm : Sg} (h : Inv sx sm) : Call sx sm (x9_river sx) (m_river sm) := by
  obtain ⟨n, C, hn, n12, W, ⟨s1, hs1, T⟩, -⟩ := both_all h.2.1.1 h.2.1.2.1 h.2.1.2.2
  have F1 := fr_x7_readSetting _ _ _ hs1
  obtain ⟨m1, hm1, hMC⟩ := ok_setting h.2.1.1.1 hn h.2.1.2.1 h.2.1.2.2 W
  have R : RD n (wdF (sm.1 43 0)) (ftF (sm.1 43 0)) := RD_of h.2.1.1.1 hn
  have X : XD s1 0 n (wdF (sm.1 43 0)) (ftF (sm.1 43 0)) (kdF (sm.1 43 0)) := XD_c (XD_of h.2.1.1.1 h.2.1.1.2.1 hn) (F1.i _ _ _ (nh rfl)) (fun k c h1 h2 => by rcases (by omega : k = 12 ∨ k = 13 ∨ k = 14) with rfl | rfl | rfl <;> exact F1.i _ _ _ (nh rfl))
  have hN := h.2.2.2.2.2.2.2.2.1.2.1
  have e1 : rN s1 7 0 1 = rN sx 7 0 1 := F1.n _ _ _ (nh rfl)
  have e2 : rN s1 7 0 2 = rN sx 7 0 2 := F1.n _ _ _ (nh rfl)
  obtain ⟨⟨s2, r⟩, hx, hr, hN2⟩ := ok_longest (g := 0) T X R (by rw [e1, e2]; exact hN)
  obtain ⟨⟨m2, r'⟩, hm, hr'⟩ := ok_river hMC R
  simp only at hr hr' hN2
  have er : r = r' := by rw [ti_eq, hr, hr']
  subst er
  have ex : x9_river sx = some (s2, r) := by
    unfold x9_river x9_river_G
    rw [hs1]; simp only [Option.bind_some]
    rw [hx]; rfl
  have em : m_river sm = some (m2, r) := by
    unfold m_river m_river_G
    rw [hm1]; simp only [Option.bind_some]
    rw [gd_t (inb_iff.mpr (by rw [li_1]; omega)), show ix 1 = 1 from by rw [ix_eq, li_1]; rfl, hm]
  have F := fr_x9_river _ _ ex
  have G := fr_m_river _ _ em
  exact ⟨s2, m2, r, ex, em, ⟨InvA_fr F G rfl rfl rfl rfl rfl rfl rfl rfl h.1, InvB_fr F G rfl rfl rfl rfl rfl h.2.1, LogR_fr F G h.log12 rfl rfl rfl rfl h.2.2.1, InvC_fr F G rfl rfl rfl rfl rfl rfl h.2.2.2.1, InvE_fr F G rfl rfl rfl h.2.2.2.2.1, InvF_fr F G rfl (.inl rfl) (.inr hN2) (.inl rfl) rfl h.2.2.2.2.2⟩, by rw [F.n 79 0 0 (nh rfl)]; omega⟩
