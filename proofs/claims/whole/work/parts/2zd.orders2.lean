theorem Fr.wid {L M : FPt} {a b : Sg} (h : Fr L a b) : Fr (L ++ M) a b := h.mono (fun _ _ _ x => hit_al x)
theorem Fr.wid' {L M : FPt} {a b : Sg} (h : Fr M a b) : Fr (L ++ M) a b := h.mono (fun _ _ _ x => hit_ar x)
theorem c_orders {sx sm : Sg} (h : Inv sx sm) : Call sx sm (x9_orders sx) (m_orders sm) := by
  have km : (-1 : Int32).toInt = -1 := by decide
  have h0 := Inv_15 h (-1)
  obtain ⟨N, hN⟩ : ∃ N : Nat, (rI (wI sm 10 0 58 (-1)) 10 0 13).toInt = N := ⟨_, (Int.toNat_of_nonneg h0.1.1.2.1).symm⟩
  have N4 : N ≤ 400 := by have := h0.1.1.2.2; omega
  obtain ⟨K, hT0⟩ := TK_of (t := tpm (wI sm 10 0 58 (-1))) N4
  obtain ⟨s2, ex2, hx2⟩ := x_reads h0 true hN
  obtain ⟨⟨m1, r1⟩, em1, hm1, h13, h18⟩ := mo_reads h0 true hN
  simp only at h13 h18
  rw [show oI true = 1 from rfl] at ex2 em1
  have Fr2 := fr_x6_readText _ _ _ s2 ex2
  have Gr2 := fr_m_readsAs _ _ _ em1
  have r79 : rN s2 79 0 0 = rN sx 79 0 0 := by rw [Fr2.n 79 0 0 (by intro x; simp [hit] at x)]; rfl
  unfold x9_orders x9_orders_G m_orders m_orders_G
  simp only [bindp]
  rw [ex2, em1]
  simp only [Option.bind_some]
  cases hR : pTxt (tkS (toks (tpm (wI sm 10 0 58 (-1))) N 402 0)) true 14 0 [] 0 0 with
  | inr e =>
    rw [hR] at hx2 hm1
    obtain ⟨x1, x2⟩ := hx2
    obtain ⟨y1, y2⟩ := hm1
    simp only at y1 y2
    have I := Inv_read h0 Fr2 Gr2 (by rw [x1]; exact y2.symm) h13 x2
    rw [gif_f (by rw [rI_ne (by omega), x1]; exact ne_m1 K e), gif_t y1]
    exact (refuse_both I (.inr (.inr (.inr (.inr rfl))))).re r79
  | inl L =>
    rw [hR] at hx2 hm1
    obtain ⟨z, z4, h7, h6, hP, hn36, hB, hNL, hF⟩ := hx2
    obtain ⟨y1, y2, p, q, hpT, n, hnp, hMS, hCl⟩ := hm1
    simp only at y1 y2 hMS hCl
    obtain ⟨gAll, gLen⟩ := pTxt_g (o := true) K.2.1 14 0 [] 0 0 L rfl (by omega) (by omega) (by omega) (fun x hx => absurd hx (by simp)) hR
    have I := Inv_read h0 Fr2 Gr2 (by rw [hF]; exact y2.symm) h13 hn36
    have hM := hMS.1
    generalize hσ : tkS (toks (tpm (wI sm 10 0 58 (-1))) N 402 0) = σ at K hT0 hR hM
    generalize hpl : tkP (toks (tpm (wI sm 10 0 58 (-1))) N 402 0) N = pl at K hM
    generalize hTT : (toks (tpm (wI sm 10 0 58 (-1))) N 402 0).length = T at K hT0 hM h18
    clear hCl hMS
    have T4 := K.1
    rw [gif_t (by rw [rI_ne (by omega)]; exact hF), gif_f (by rw [y1]; decide)]
    generalize hs3 : wI s2 9 0 13 0 = s3 at I ⊢
    have w3 : ∀ k i c, ¬ (k = 9 ∧ c = 13) → rI s3 k i c = rI s2 k i c := fun k i c hn => by rw [← hs3, rI_ne (by omega)]
    have n79 : rN s3 79 0 0 = rN sx 79 0 0 := by rw [← hs3]; exact r79
    -- all is laid aside on both sides
    obtain ⟨t1, et1, ct1⟩ := ok_copyFrom (s := s3) (g0 := 5) (g1 := 0) (by omega)
    obtain ⟨t2, et2, lt2, lc2⟩ := ok_log (s := t1) (g0 := 1) (g1 := 0) (by omega)
    have ebx : x0_begin s3 = some (wI (wI t2 0 0 8 0) 0 0 7 (-1)) := by
      unfold x0_begin x0_begin_G
      rw [et1]
      simp only [Option.bind_some]
      rw [et2]
      rfl
    have Fb := fr_x0_begin _ _ ebx
    have Ft1 := fr_x1_copyFrom _ _ _ _ et1
    have Ft2 := fr_x3_copyFrom _ _ _ _ et2
    rw [ebx]
    simp only [Option.bind_some]
    generalize hbx : wI (wI t2 0 0 8 0) 0 0 7 (-1) = bx at Fb ⊢
    have kbx : ∀ k i c, k ≠ 0 → rI bx k i c = rI t2 k i c := fun k i c hk => by rw [← hbx, rI_ne (by omega), rI_ne (by omega)]
    obtain ⟨m2, em2, a2, b2⟩ := ok_aside (s := m1)
    obtain ⟨m3, a3, b3, c3, em3⟩ := b27_eq 256 0 m2 FU (by omega) (by show _ < 20000; omega)
    have m18 : rI m3 10 0 18 = nI T := by rw [b3 _ _ _ (by omega), b2 _ _ _ (by omega)]; exact h18
    obtain ⟨m4, em4, a4, b4, c4, d4⟩ := ok_lays T4 m18
    rw [em2]
    simp only [Option.bind_some]
    rw [show (0 : Int32) = nI 0 from rfl, em3, em4]
    simp only [Option.bind_some]
    have k64 : inb 64 5665 ∧ ix 64 = 64 := ik (n := 64) (by omega)
    rw [gd_t k64.1, k64.2]
    generalize hbm : wI (wI (wI m4 10 0 29 0) 10 0 30 (-1)) 10 0 59 2400 = bm
    have kbm : ∀ k i c, ¬ (k = 10 ∧ (c = 29 ∨ c = 30 ∨ c = 59)) → rI bm k i c = rI m4 k i c := fun k i c hn => by rw [← hbm, rI_ne (by omega), rI_ne (by omega), rI_ne (by omega)]
    have e59 : rI bm 10 0 59 = nI (2400 + 0) := by rw [← hbm, rI_eq rfl]; rfl
    have kM : ∀ k i c, k ≠ 43 → k ≠ 46 → k ≠ 60 → ¬ (k = 10 ∧ (c = 29 ∨ c = 30 ∨ c = 59)) → rI bm k i c = rI m1 k i c := fun k i c h1 h2 h3 h4 => by rw [kbm _ _ _ h4, d4 _ _ _ h1, b3 _ _ _ (by omega), b2 _ _ _ h2]
    have k43 : ∀ c, c ≠ 64 → ¬ (2465 ≤ c ∧ c < 2865) → ¬ 5265 ≤ c → rI bm 43 0 c = rI m1 43 0 c := fun c h1 h2 h3 => by rw [kbm _ _ _ (by omega), c4 c h1 h2 h3, b3 _ _ _ (by omega), b2 _ _ _ (by omega)]
    have k46 : ∀ i, i < 15 → rI bm 46 0 (15 + i) = rI m1 43 0 i := fun i hi => by rw [kbm _ _ _ (by omega), d4 _ _ _ (by omega), b3 _ _ _ (by omega), a2 i hi]
    have k60 : ∀ k, k < 256 → rI bm 60 0 k = rI m1 59 0 k := fun k hk => by rw [kbm _ _ _ (by omega), d4 _ _ _ (by omega), a3 k (by omega) hk, b2 _ _ _ (by omega)]
    have tk : TkL σ T bm := by
      intro k hk
      obtain ⟨q1, q2⟩ := b4 k hk
      obtain ⟨t1', t2', -⟩ := hM k (by omega)
      have e50 : ∀ c, rI m3 50 0 c = rI m1 50 0 c := fun c => by rw [b3 _ _ _ (by omega), b2 _ _ _ (by omega)]
      have e51 : ∀ c, rI m3 51 0 c = rI m1 51 0 c := fun c => by rw [b3 _ _ _ (by omega), b2 _ _ _ (by omega)]
      exact ⟨by rw [kbm _ _ _ (by omega), q1, e50]; exact t1', fun x => by rw [kbm _ _ _ (by omega), q2, e51]; exact t2' x⟩
    have eend : rI bm 10 0 59 + rI bm 43 0 64 = nI (2400 + T) := by
      rw [e59, kbm _ _ _ (by omega), a4, nI_ad (by omega)]
    have el1 : rI m3 10 0 46 = rI m1 10 0 46 := by rw [b3 _ _ _ (by omega), b2 _ _ _ (by omega)]
    rw [eend, el1]
    have G3 : Fr [(60, 0, 0)] m2 m3 := fun k i c hn => by
      have hk : ¬ k = 60 := fun e => hn (.inl ⟨e.symm, .inl rfl, .inl rfl⟩)
      have e2 : m3.2 = m2.2 := c3
      exact ⟨b3 k i c (by omega), by rw [e2], by rw [e2]⟩
    have GM : Fr (FP_m_laysAside ++ ([(60, 0, 0)] ++ (FP_m_lays ++ [(10, 1, 30), (10, 1, 31), (10, 1, 60)]))) m1 bm := by
      have g1 := (fr_m_laysAside _ _ _ em2).wid (M := [(60, 0, 0)] ++ (FP_m_lays ++ [(10, 1, 30), (10, 1, 31), (10, 1, 60)]))
      have g2 : Fr (FP_m_laysAside ++ ([(60, 0, 0)] ++ (FP_m_lays ++ [(10, 1, 30), (10, 1, 31), (10, 1, 60)]))) m2 m3 := (G3.wid).wid'
      have g3 : Fr (FP_m_laysAside ++ ([(60, 0, 0)] ++ (FP_m_lays ++ [(10, 1, 30), (10, 1, 31), (10, 1, 60)]))) m3 m4 := ((fr_m_lays _ _ _ em4).wid).wid'.wid'
      have g4 : Fr [(10, 1, 30), (10, 1, 31), (10, 1, 60)] m4 bm := by rw [← hbm]; exact fr_wI (fr_wI (fr_wI fr_rfl (hit_is (by simp))) (hit_is (by simp))) (hit_is (by simp))
      exact ((g1.trans g2).trans g3).trans (g4.wid'.wid'.wid')
    have Ib : Inv bx bm := by
      refine ⟨InvA_fr Fb GM rfl rfl rfl rfl rfl rfl rfl rfl I.1, ⟨GA_fr Fb rfl rfl rfl (fun i hi => k43 i (by omega) (by omega) (by omega)) I.2.1.1, ?_, fun w hw => ?_⟩, LogR_c I.log12 (Fb.i _ _ _ (nh rfl)) (fun c => Fb.i _ _ _ (nh rfl)) (fun c => Fb.i _ _ _ (nh rfl)) (fun c => Fb.i _ _ _ (nh rfl)) (kM _ _ _ (by omega) (by omega) (by omega) (by omega)) (fun c => kM _ _ _ (by omega) (by omega) (by omega) (by omega)) (fun c hc => k43 c (by omega) (by omega) (by omega)) I.2.2.1, InvC_fr Fb GM rfl rfl rfl rfl rfl rfl I.2.2.2.1, InvE_fr Fb GM rfl rfl rfl I.2.2.2.2.1, InvF_fr Fb GM rfl (.inl rfl) (.inl ⟨rfl, rfl⟩) (.inl rfl) rfl I.2.2.2.2.2⟩
      · rw [k43 54 (by omega) (by omega) (by omega), kM _ _ _ (by omega) (by omega) (by omega) (by omega)]; exact I.2.1.2.1
      · rw [k43 54 (by omega) (by omega) (by omega)] at hw
        rw [kM _ _ _ (by omega) (by omega) (by omega) (by omega)]; exact I.2.1.2.2 w hw
    have hO : OI bx bm bx bm := ⟨Ib, fr_rfl, fun _ _ => rfl, by rw [← hbx, ← hbm, rI_ne (by omega), rI_eq rfl, rI_ne (by omega), rI_ne (by omega), rI_eq rfl], by rw [← hbx, ← hbm, rI_eq rfl, rI_ne (by omega), rI_eq rfl]⟩
    have cb : ∀ k i, 31 ≤ k → k ≤ 36 → rI bx k 0 i = rI s2 k 0 i := fun k i k1 k2 => by
      have : ¬ hit FP_x0_begin k 0 i := fun x => by
        obtain ⟨e, m, q'⟩ := hit_k x
        have : ∀ e, e ∈ FP_x0_begin → ¬ (31 ≤ e.1 ∧ e.1 ≤ 36) := by decide
        exact this e m (by omega)
      rw [Fb.i k 0 i this, w3 _ _ _ (by omega)]
    have hPb : PlL true bx L z := fun c hc => PlC_c (hP c hc) (fun i _ => cb 36 i (by omega) (by omega)) (fun k k1 k2 => cb k c k1 (by omega)) (Nat.le_refl _)
    have hb6 : rI bx 8 0 6 = nI L.length := by rw [Fb.i 8 0 6 (nh rfl), w3 _ _ _ (by omega)]; exact h6
    have b79 : rN bx 79 0 0 = rN sx 79 0 0 := by rw [Fb.n 79 0 0 (nh rfl)]; exact n79
    rcases run_all K.2.1 T4 hT0 z4 hPb hb6 tk gLen (l1 := rI m1 10 0 46) 14 0 [] 0 0 bx bm FU FU hR rfl hO fr_rfl e59 (by omega) (by omega) (by show _ < 20000; omega) (by show _ < 20000; omega) with ⟨sx', sm', q1, q2, q3⟩ | ⟨sx', sm', c, c12, q1, q2, q3, q4, q5⟩
    · rw [show nI 0 = (0 : Int32) from rfl] at q2
      rw [q1, q2, ← q3.2.2.2.1]
      exact (answer_both q3.1 _).re (by rw [q3.2.1.n 79 0 0 (nh rfl)]; exact b79)
    · rw [show nI 0 = (0 : Int32) from rfl] at q2
      rw [q1, q2]
      unfold gup
      simp only [bindp]
      -- all is taken back
      have A5 : GA bx 5 (bm.1 43 0) := by
        have g1 : GA t1 5 (m1.1 43 0) := GA_copy I.2.1.1 ct1 (Ft1.n _ _ _ (nh rfl)) (fun t k c' ht hk => Ft1.i _ _ _ (clrT_no rfl hk ht)) (fun t ht => Ft1.n _ _ _ (clrT_no rfl rfl ht))
        have g2 : Fr (FP_x3_copyFrom 1 ++ [(0, 1, 9), (0, 1, 8)]) t1 bx := by
          have : Fr [(0, 1, 9), (0, 1, 8)] t2 bx := by rw [← hbx]; exact fr_wI (fr_wI fr_rfl (hit_is (by simp))) (hit_is (by simp))
          exact Ft2.wid.trans this.wid'
        exact GA_fr g2 rfl rfl rfl (fun i hi => k43 i (by omega) (by omega) (by omega)) g1
      have A5' : GA sx' 5 (bm.1 43 0) := GA_fr q3 rfl rfl rfl (fun i _ => rfl) A5
      obtain ⟨u1, eu1, cu1⟩ := ok_copyFrom (s := sx') (g0 := 0) (g1 := 5) (by omega)
      obtain ⟨u2, eu2, lu2, lc3⟩ := ok_log (s := u1) (g0 := 0) (g1 := 1) (by omega)
      have Fu1 := fr_x1_copyFrom _ _ _ _ eu1
      have Fu2 := fr_x3_copyFrom _ _ _ _ eu2
      have egu : x0_giveUp sx' = some u2 := by
        unfold x0_giveUp x0_giveUp_G
        rw [eu1]
        simp only [Option.bind_some]
        rw [eu2]
        rfl
      have Fg := fr_x0_giveUp _ _ egu
      have A0 : GA u1 0 (bm.1 43 0) := GA_copy A5' cu1 (Fu1.n _ _ _ (nh rfl)) (fun t k c' ht hk => Fu1.i _ _ _ (clrT_no rfl hk ht)) (fun t ht => Fu1.n _ _ _ (clrT_no rfl rfl ht))
      have A0' : GA u2 0 (bm.1 43 0) := GA_fr Fu2 rfl rfl rfl (fun i _ => rfl) A0
      obtain ⟨w1, ew1, x1, x2, x3⟩ := ok_taken (s := sm')
      obtain ⟨w2, y1', y2', y3', ew2⟩ := b122_eq (l1 := rI m1 10 0 46) (l3 := nI c) 256 0 w1 FU (by omega) (by show _ < 20000; omega)
      rw [egu, ew1]
      simp only [Option.bind_some]
      rw [show (0 : Int32) = nI 0 from rfl, ew2]
      -- as it was
      have v43 : ∀ i, rI (wI w2 10 0 46 (rI m1 10 0 46)) 43 0 i = rI bm 43 0 i := by
        intro i
        rw [rI_ne (by omega), y2' _ _ _ (by omega)]
        by_cases ci : i < 15
        · rw [x1 i ci, q4.i 46 0 (15 + i) (nh rfl), k46 i ci, k43 i (by omega) (by omega) (by omega)]
        · rw [x2 i (by omega), q5 i (by omega)]
      have v59 : ∀ k, k < 256 → rI (wI w2 10 0 46 (rI m1 10 0 46)) 59 0 k = rI bm 59 0 k := by
        intro k hk
        rw [rI_ne (by omega), y1' k (by omega) hk, x3 _ _ _ (by omega), q4.i 60 0 k (nh rfl), k60 k hk, kM _ _ _ (by omega) (by omega) (by omega) (by omega)]
      have FX : Fr (FP_x0_runOnce ++ FP_x0_giveUp) bx u2 := q3.wid.trans Fg.wid'
      have Gw2 : Fr [(59, 0, 0)] w1 w2 := fun k i c' hn => by
        have hk : ¬ k = 59 := fun e => hn (.inl ⟨e.symm, .inl rfl, .inl rfl⟩)
        have e2 : w2.2 = w1.2 := y3'
        exact ⟨y2' k i c' (by omega), by rw [e2], by rw [e2]⟩
      have GG : Fr (FP_m_runs ++ (FP_m_takesBack ++ ([(59, 0, 0)] ++ [(10, 1, 47)]))) bm (wI w2 10 0 46 (rI m1 10 0 46)) := by
        have g1 := q4.wid (M := FP_m_takesBack ++ ([(59, 0, 0)] ++ [(10, 1, 47)]))
        have g2 : Fr (FP_m_runs ++ (FP_m_takesBack ++ ([(59, 0, 0)] ++ [(10, 1, 47)]))) sm' w1 := ((fr_m_takesBack _ _ _ ew1).wid).wid'
        have g3 : Fr (FP_m_runs ++ (FP_m_takesBack ++ ([(59, 0, 0)] ++ [(10, 1, 47)]))) w1 w2 := (Gw2.wid).wid'.wid'
        have g4 : Fr [(10, 1, 47)] w2 (wI w2 10 0 46 (rI m1 10 0 46)) := fr_wI fr_rfl (hit_is (by simp))
        exact ((g1.trans g2).trans g3).trans (g4.wid'.wid'.wid')
      have l31 : rI u2 3 0 3 = rI bx 3 0 3 := by
        have a : rI u1 3 1 3 = rI sx' 3 1 3 := Fu1.i 3 1 3 (nh rfl)
        have b : rI sx' 3 1 3 = rI bx 3 1 3 := q3.i 3 1 3 (nh rfl)
        have d : rI bx 3 1 3 = rI t2 3 1 3 := kbx _ _ _ (by omega)
        have e : rI bx 3 0 3 = rI t2 3 0 3 := kbx _ _ _ (by omega)
        have f : rI t2 3 0 3 = rI t1 3 0 3 := Ft2.i 3 0 3 (nh rfl)
        rw [lu2, a, b, d, lt2, e, f]
      have l20 : ∀ k, k = 20 ∨ k = 21 ∨ k = 22 → ∀ c', c' < 16 → rI u1 k 1 c' = rI t1 k 0 c' ∧ rI bx k 0 c' = rI t1 k 0 c' := by
        intro k hk c' hc'
        obtain ⟨z1, z2, z3⟩ := lc2 c' hc'
        have a : rI u1 k 1 c' = rI sx' k 1 c' := by rcases hk with rfl | rfl | rfl <;> exact Fu1.i _ _ _ (nh rfl)
        have b : rI sx' k 1 c' = rI bx k 1 c' := by rcases hk with rfl | rfl | rfl <;> exact q3.i _ _ _ (nh rfl)
        have d : rI bx k 1 c' = rI t2 k 1 c' := kbx _ _ _ (by omega)
        have e : rI bx k 0 c' = rI t2 k 0 c' := kbx _ _ _ (by omega)
        have f : rI t2 k 0 c' = rI t1 k 0 c' := by rcases hk with rfl | rfl | rfl <;> exact Ft2.i _ _ _ (nh rfl)
        refine ⟨?_, by rw [e, f]⟩
        rw [a, b, d]
        rcases hk with rfl | rfl | rfl
        · exact z1
        · exact z2
        · exact z3
      have If : Inv u2 (wI w2 10 0 46 (rI m1 10 0 46)) := by
        have fn : (wI w2 10 0 46 (rI m1 10 0 46)).1 43 0 = bm.1 43 0 := funext v43
        refine ⟨InvA_fr FX GG rfl rfl rfl rfl rfl rfl rfl rfl Ib.1, ⟨by rw [fn]; exact A0', ?_, fun w hw => ?_⟩, LogR_k Ib.log12 l31 (fun c' hc' => ?_) ?_ v59 (fun c' _ => v43 c') Ib.2.2.1, InvC_fr FX GG rfl rfl rfl rfl rfl rfl Ib.2.2.2.1, InvE_fr FX GG rfl rfl rfl Ib.2.2.2.2.1, InvF_fr FX GG rfl (.inl rfl) (.inl ⟨rfl, rfl⟩) (.inl rfl) rfl Ib.2.2.2.2.2⟩
        · rw [v43, GG.i 10 0 36 (nh rfl)]; exact Ib.2.1.2.1
        · rw [v43] at hw
          rw [GG.i 57 0 w (nh rfl)]; exact Ib.2.1.2.2 w hw
        · obtain ⟨z1, z2, z3⟩ := lc3 c' hc'
          rw [z1, z2, z3, (l20 20 (.inl rfl) c' hc').1, (l20 21 (.inr (.inl rfl)) c' hc').1, (l20 22 (.inr (.inr rfl)) c' hc').1, (l20 20 (.inl rfl) c' hc').2, (l20 21 (.inr (.inl rfl)) c' hc').2, (l20 22 (.inr (.inr rfl)) c' hc').2]
          exact ⟨rfl, rfl, rfl⟩
        · rw [rI_eq rfl, kM _ _ _ (by omega) (by omega) (by omega) (by omega)]
      exact (refuse_both (Inv_15 If (nI c)) (.inr (.inr (.inl rfl)))).re (by rw [rN_wI, FX.n 79 0 0 (nh rfl)]; exact b79)
