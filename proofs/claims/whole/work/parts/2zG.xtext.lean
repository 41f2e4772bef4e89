/-! the class's orders, clauses, texts -/
variable {σ pl : Nat → Nat} {T : Nat} {o : Bool}
theorem CP_head {s s' s2 : Sg} {c z z' : Nat} {x : Clz} {p q : Nat} (hX : XS s2 σ pl T o p q z') (h1 : z ≤ z') (h2 : z' ≤ p) (hK : KP s s2 z c) (hP : PlC o s2 c x z') (hn : nlC o s2 x) : CP σ pl T o s s2 c z x p q := ⟨z', hX, h1, h2, hK, hP, hn⟩
/-- how often -/
theorem x_times (K : TK σ pl T) {s0 s : Sg} {p q z c v : Nat} {A B : List Ins} (hC : CP σ pl T true s0 s c z (v, A, B, 1, none) p q) (hp : p ≤ T) (hc : c < 12) : ok (x6_readOrder_b142 s (nI c) 1) (RC σ pl T true s0 c z (pTimes σ v A B p q)) := by
  have T4 := K.1
  have km : (-1 : Int32).toInt = -1 := by decide
  have bc : inb (nI c) 12 := inb_nI (by omega) hc
  have ic : ix (nI c) = c := ix_nI (by omega)
  obtain ⟨z', hX, h1, h2, hK, hP, hn⟩ := hC
  unfold x6_readOrder_b142 x6_readOrder_b142_G pTimes
  rw [gif_f (by decide)]
  by_cases c1 : σ p = 3008
  · have hp1 := pT K.2.1 hp (by omega)
    have hX1 := XS_adv hX (by omega)
    rw [if_pos c1, xs_take_y K hX hp li_3008 c1]
    simp only [Option.bind_some]
    rw [gif_f (by decide)]
    by_cases c2 : 1 ≤ σ (p + 1) ∧ σ (p + 1) ≤ 20
    · rw [if_pos c2, xs_from_y K hX1 hp1 li_1 li_20 c2]
      simp only [Option.bind_some, gd_t bc, ic, gdB0, gdB1]
      rw [rI_eq rfl, gif_f (by rw [ti_eq, nI_ti (by omega), km]; omega)]
      have hX2 := XS_adv hX1 (by omega)
      have av : ∀ k i x, ¬ (k = 6 ∧ x = 3) → rI (adv (adv s)) k i x = rI s k i x := fun k i x hn => by unfold adv; rw [rI_ne (by omega), rI_ne (by omega)]
      obtain ⟨P1, P2, ⟨P3, P3'⟩, ⟨P4, P4'⟩, P5⟩ := hP
      have cs : ∀ i, i < z' → rI (wI (adv (adv s)) 32 0 c (nI (σ (p + 1)))) 36 0 i = rI s 36 0 i := fun i _ => by rw [rI_ne (by omega), av _ _ _ (by omega)]
      refine ok_some ⟨rfl, z', XS_arr hX2 (by omega), h1, by show z' ≤ p + 2; omega, ⟨fun i hi => ?_, fun k i k1 k2 hi => ?_, ?_, fun hf => ?_⟩, ⟨?_, ?_, ⟨fun hA => ?_, fun hA => ?_⟩, ⟨fun hB => ?_, fun hB => ?_⟩, ?_⟩, fun hf ho => absurd ho (by decide)⟩
      · rw [rI_ne (by omega), av _ _ _ (by omega)]; exact hK.1 i hi
      · rw [rI_ne (by omega), av _ _ _ (by omega)]; exact hK.2.1 k i k1 k2 hi
      · rw [rI_ne (by omega), av _ _ _ (by omega)]; exact hK.2.2.1
      · rw [rI_ne (by omega), av _ _ _ (by omega)] at hf; exact hK.2.2.2 hf
      · rw [rI_ne (by omega), av _ _ _ (by omega)]; exact P1
      · rw [rI_eq rfl]
      · obtain ⟨a, q1, q2⟩ := P3 hA
        exact ⟨a, by rw [rI_ne (by omega), av _ _ _ (by omega)]; exact q1, sgx_c q2 cs (Nat.le_refl _)⟩
      · rw [rI_ne (by omega), av _ _ _ (by omega)]; exact P3' hA
      · obtain ⟨a, q1, q2⟩ := P4 hB
        exact ⟨a, by rw [rI_ne (by omega), av _ _ _ (by omega)]; exact q1, sgx_c q2 cs (Nat.le_refl _)⟩
      · rw [rI_ne (by omega), av _ _ _ (by omega)]; exact P4' hB
      · show rI (wI (adv (adv s)) 32 0 c _) 35 0 c = -1
        rw [rI_ne (by omega), av _ _ _ (by omega)]; exact P5
    · rw [if_neg c2, xs_from_n K hX1 hp1 li_1 li_20 c2]
      simp only [Option.bind_some, gd_t bc, ic, gdB0, gdB1]
      rw [rI_eq rfl, gif_t rfl]
      exact ok_some ⟨rfl, FX_arr (fx_fail hX1) (by omega)⟩
  · rw [if_neg c1, xs_take_n K hX hp li_3008 c1]
    simp only [Option.bind_some, gdB1]
    rw [gif_t trivial]
    exact ok_some ⟨rfl, z', hX, h1, h2, hK, hP, hn⟩
theorem x_b142_f {s : Sg} {c : Int32} : x6_readOrder_b142 s c 0 = some (s, 0) := by
  unfold x6_readOrder_b142 x6_readOrder_b142_G
  rw [gif_t rfl, gd_t (.inl rfl)]
theorem x_b79_f {s : Sg} {c v : Int32} : x6_readOrder_b79 s c v 0 = some (s, 0) := by
  unfold x6_readOrder_b79 x6_readOrder_b79_G
  rw [gif_t rfl, x_b142_f]
theorem x_order (K : TK σ pl T) {s : Sg} {p q z c : Nat} (h : XS s σ pl T true p q z) (hp : p ≤ T) (hq : q ≤ 50) (hz : z ≤ p) (hc : c < 12) (a2 : rI s 32 0 c = nI 1) (a3 : rI s 33 0 c = -1) (a4 : rI s 34 0 c = -1) (a5 : rI s 35 0 c = -1) : ok (x6_readOrder s (nI c)) (RC σ pl T true s c z (pOrderH σ p q)) := by
  have T4 := K.1
  have sp := K.2.2.1 p
  have km : (-1 : Int32).toInt = -1 := by decide
  have bc : inb (nI c) 12 := inb_nI (by omega) hc
  have ic : ix (nI c) = c := ix_nI (by omega)
  have av : ∀ k i x, ¬ (k = 6 ∧ x = 3) → rI (adv s) k i x = rI s k i x := fun k i x hn => by unfold adv; rw [rI_ne (by omega)]
  unfold x6_readOrder x6_readOrder_G pOrderH
  by_cases c1 : 3003 ≤ σ p ∧ σ p ≤ 3006
  · rw [if_pos c1, xs_from_y K h hp li_3003 li_3006 c1]
    have hp1 := pT K.2.1 hp (by omega)
    simp only [Option.bind_some]
    rw [gif_f (by rw [ti_eq, nI_ti (by omega), km]; omega)]
    have h1 := XS_adv h (by omega)
    unfold x6_readOrder_b21 x6_readOrder_b21_G
    simp only [gd_t bc, ic]
    rw [gif_f (by decide), sub_c (b := 3003) li_3003 (by omega) (by omega)]
    by_cases c2 : σ p = 3006
    · rw [if_pos c2, gif_t ((sg_eq K li_3006).mpr c2)]
      unfold x6_readOrder_b79 x6_readOrder_b79_G
      rw [gif_f (by decide), gif_f (fun x => by have : σ p = 3005 := (sg_eq K li_3005).mp x; omega)]
      refine x_times K (s0 := s) ⟨z, XS_arr h1 (by omega), Nat.le_refl _, by show z ≤ p + 1; omega, ⟨fun i _ => ?_, fun k i k1 k2 hi => ?_, ?_, fun hf => ?_⟩, ⟨?_, ?_, ⟨fun hA => absurd rfl hA, fun _ => ?_⟩, ⟨fun hB => absurd hB.2 (by decide), fun _ => ?_⟩, ?_⟩, fun _ ho => absurd ho (by decide)⟩ hp1 hc
      · rw [rI_ne (by omega), av _ _ _ (by omega)]
      · rw [rI_ne (by omega), av _ _ _ (by omega)]
      · rw [rI_ne (by omega), av _ _ _ (by omega)]
      · rw [rI_ne (by omega), av _ _ _ (by omega)] at hf; exact hf
      · rw [rI_eq rfl, c2]
      · rw [rI_ne (by omega), av _ _ _ (by omega)]; exact a2
      · rw [rI_ne (by omega), av _ _ _ (by omega)]; exact a3
      · rw [rI_ne (by omega), av _ _ _ (by omega)]; exact a4
      · show rI (wI (adv s) 31 0 c _) 35 0 c = -1
        rw [rI_ne (by omega), av _ _ _ (by omega)]; exact a5
    · rw [if_neg c2, gif_f (fun x => c2 ((sg_eq K li_3006).mp x))]
      have h2 := XS_arr (k := 31) (c := c) (v := nI (σ p - 3003)) h1 (by omega)
      have e7 : rI (wI (adv s) 31 0 c (nI (σ p - 3003))) 8 0 7 = nI z := h2.2.2.2.2.1
      rw [e7]
      have h3 := XS_arr (k := 33) (c := c) (v := nI z) h2 (by omega)
      have g := pSum_g (o := true) K.2.1 8 hp1 hq
      obtain ⟨y, hy, hG⟩ := x_seg K (x_sum0 K) keep_sum h3 hp1 hq (by omega) g
      obtain ⟨x, hx, hy2⟩ := Option.bind_eq_some_iff.mp hy
      obtain ⟨s5, hs5, hy3⟩ := Option.bind_eq_some_iff.mp hy2
      simp only [Option.some.injEq] at hy3
      subst hy3
      rw [hx]
      simp only [Option.bind_some]
      rw [hs5]
      simp only [Option.bind_some]
      cases hr : pSum σ true 8 (p + 1) q with
      | inr e =>
        rw [hr] at hG
        have : x.2 = 0 := hG.1
        rw [this, x_b79_f, pb_r]
        exact ok_some ⟨rfl, hG.2⟩
      | inl w =>
        obtain ⟨A, p', q'⟩ := w
        rw [hr] at hG g
        obtain ⟨g1, g2, g3, g4, g5, g6⟩ := GR_l.mp g
        obtain ⟨y1, G1, G2, G3, G4, G5, G6⟩ := hG
        simp only at y1 G1 G2 G3 G4 G5 G6
        rw [y1, pb_l]
        unfold x6_readOrder_b79 x6_readOrder_b79_G
        rw [gif_f (by decide)]
        have k1 : KP s s5 z c := by
          refine ⟨fun i hi => ?_, fun k i k1 k2 hi => ?_, ?_, fun hf => ?_⟩
          · rw [G3 i hi, rI_ne (by omega), rI_ne (by omega), av _ _ _ (by omega)]
          · rw [G4 k i k1 k2, rI_ne (by omega), rI_ne (by omega), av _ _ _ (by omega)]
          · rw [G5, rI_ne (by omega), rI_ne (by omega), av _ _ _ (by omega)]
          · have := (G6 hf).1
            rw [rI_ne (by omega), rI_ne (by omega), av _ _ _ (by omega)] at this; exact this
        have b1 : rI s5 31 0 c = nI (σ p - 3003) := by rw [G4 31 c (by omega) (by omega), rI_ne (by omega), rI_eq rfl]
        have b2 : rI s5 32 0 c = nI 1 := by rw [G4 32 c (by omega) (by omega), rI_ne (by omega), rI_ne (by omega), av _ _ _ (by omega)]; exact a2
        have b3 : rI s5 33 0 c = nI z := by rw [G4 33 c (by omega) (by omega), rI_eq rfl]
        have b4 : rI s5 34 0 c = -1 := by rw [G4 34 c (by omega) (by omega), rI_ne (by omega), rI_ne (by omega), av _ _ _ (by omega)]; exact a4
        have b5 : rI s5 35 0 c = -1 := by rw [G4 35 c (by omega) (by omega), rI_ne (by omega), rI_ne (by omega), av _ _ _ (by omega)]; exact a5
        by_cases c3 : σ p = 3005
        · rw [if_pos c3, gif_t ((sg_eq K li_3005).mpr c3)]
          by_cases c4 : σ p' = 3007
          · rw [if_pos c4, xs_tof_y K G1 g3 li_3007 c4]
            have hp2 := pT K.2.1 g3 (by omega)
            have hX1 := XS_adv G1 (by omega)
            have e8 : rI (adv s5) 8 0 7 = nI (z + A.length + 1) := hX1.2.2.2.2.1
            simp only [Option.bind_some, gd_t bc, ic]
            rw [e8, gif_f (by decide)]
            have hX2 := XS_arr (k := 34) (c := c) (v := nI (z + A.length + 1)) hX1 (by omega)
            have g' := pSum_g (o := true) K.2.1 8 hp2 g5
            have av5 : ∀ k i x, ¬ (k = 6 ∧ x = 3) → rI (adv s5) k i x = rI s5 k i x := fun k i x hn => by unfold adv; rw [rI_ne (by omega)]
            obtain ⟨y', hy', hG'⟩ := x_seg K (x_sum0 K) keep_sum hX2 hp2 g5 (by omega) g'
            obtain ⟨x', hx', hy2'⟩ := Option.bind_eq_some_iff.mp hy'
            obtain ⟨s6, hs6, hy3'⟩ := Option.bind_eq_some_iff.mp hy2'
            simp only [Option.some.injEq] at hy3'
            subst hy3'
            rw [hx']
            simp only [Option.bind_some, hs6]
            cases hr2 : pSum σ true 8 (p' + 1) q' with
            | inr e =>
              rw [hr2] at hG'
              have z0 : x'.2 = 0 := hG'.1
              rw [gif_t z0, x_b142_f, pb_r]
              exact ok_some ⟨rfl, hG'.2⟩
            | inl w =>
              obtain ⟨B, p2, q2⟩ := w
              rw [hr2] at hG' g'
              obtain ⟨f1, f2, f3, f4, f5, f6⟩ := GR_l.mp g'
              obtain ⟨y1', H1, H2, H3, H4, H5, H6⟩ := hG'
              simp only at y1' H1 H2 H3 H4 H5 H6
              rw [gif_f (by rw [y1']; decide), pb_l]
              refine x_times K (s0 := s) ⟨z + A.length + 1 + B.length + 1, H1, by omega, by omega, ⟨fun i hi => ?_, fun k i k1' k2 hi => ?_, ?_, fun hf => ?_⟩, ⟨?_, ?_, ⟨fun _ => ⟨z, ?_, ?_⟩, fun hA => absurd (by show 2 ≠ 3; omega) hA⟩, ⟨fun _ => ⟨z + A.length + 1, ?_, H2⟩, fun hB => absurd ⟨rfl, rfl⟩ hB⟩, ?_⟩, fun _ ho => absurd ho (by decide)⟩ f3 hc
              · rw [H3 i (by omega), rI_ne (by omega), av5 _ _ _ (by omega)]; exact k1.1 i hi
              · rw [H4 k i k1' k2, rI_ne (by omega), av5 _ _ _ (by omega)]; exact k1.2.1 k i k1' k2 hi
              · rw [H5, rI_ne (by omega), av5 _ _ _ (by omega)]; exact k1.2.2.1
              · have := (H6 hf).1
                rw [rI_ne (by omega), av5 _ _ _ (by omega)] at this; exact k1.2.2.2 this
              · rw [H4 31 c (by omega) (by omega), rI_ne (by omega), av5 _ _ _ (by omega), b1, c3]
              · rw [H4 32 c (by omega) (by omega), rI_ne (by omega), av5 _ _ _ (by omega), b2]
              · rw [H4 33 c (by omega) (by omega), rI_ne (by omega), av5 _ _ _ (by omega), b3]
              · exact sgx_c G2 (fun i hi => by rw [H3 i (by omega), rI_ne (by omega), av5 _ _ _ (by omega)]) (by omega)
              · rw [H4 34 c (by omega) (by omega), rI_eq rfl]
              · show rI s6 35 0 c = -1
                rw [H4 35 c (by omega) (by omega), rI_ne (by omega), av5 _ _ _ (by omega), b5]
          · rw [if_neg c4, xs_tof_n K G1 g3 li_3007 c4]
            simp only [Option.bind_some, gd_t bc, ic]
            rw [gif_t trivial]
            obtain ⟨s', e1, e2⟩ := em_f (FX_arr (k := 34) (c := c) (v := rI (wI s5 6 0 6 (nI (pl p'))) 8 0 7) (fx_fail G1) (by omega)) 6 0
            rw [e1]
            simp only [Option.bind_some]
            rw [x_b142_f]
            exact ok_some ⟨rfl, e2⟩
        · rw [if_neg c3, gif_f (fun x => c3 ((sg_eq K li_3005).mp x))]
          refine x_times K (s0 := s) ⟨z + A.length + 1, G1, by omega, by omega, k1, ⟨b1, b2, ⟨fun _ => ⟨z, b3, G2⟩, fun hA => absurd (by show σ p - 3003 ≠ 3; omega) hA⟩, ⟨fun hB => absurd hB.2 (by show ¬ σ p - 3003 = 2; omega), fun _ => b4⟩, b5⟩, fun _ ho => absurd ho (by decide)⟩ g3 hc
  · rw [if_neg c1, xs_from_n K h hp li_3003 li_3006 c1]
    simp only [Option.bind_some]
    rw [gif_t trivial]
    unfold x6_readOrder_b21 x6_readOrder_b21_G
    simp only [gd_t bc, ic]
    rw [gif_t trivial, x_b79_f]
    exact ok_some ⟨rfl, FX_arr (fx_fail h) (by omega)⟩
/-- the test behind a head -/
theorem x_tail (K : TK σ pl T) {s0 s : Sg} {c z : Nat} {r : CZ} {x : Int32} {p0 q0 : Nat} (hg : GC o T p0 q0 r) (hn0 : ∀ y, r = .inl y → y.1.2.2.2.2 = none) (hC : RC σ pl T o s0 c z r (s, x)) (hc : c < 12) : ok (x6_readClause_b75 s (nI c) x) (RC σ pl T o s0 c z (pTail σ o r)) := by
  have T4 := K.1
  have bc : inb (nI c) 12 := inb_nI (by omega) hc
  have ic : ix (nI c) = c := ix_nI (by omega)
  have n1 : nI c + 1 = nI (c + 1) := nI_s (by omega)
  unfold x6_readClause_b75 x6_readClause_b75_G
  rw [n1]
  cases r with
  | inr e =>
    obtain ⟨x0, fx⟩ := hC
    simp only at x0 fx
    subst x0
    rw [gif_t rfl]
    simp only [gdB0]
    exact ok_some ⟨rfl, ⟨by rw [rI_ne (by omega)]; exact fx.1, fx.2⟩⟩
  | inl y =>
    obtain ⟨⟨v, A, B, t, U⟩, p', q'⟩ := y
    have hU : U = none := hn0 _ rfl
    subst hU
    obtain ⟨x0, z', hX, h1, h2, hK, hP, hn⟩ := hC
    simp only at x0 hX h1 h2 hK hP hn
    subst x0
    have hpT : p' ≤ T := hg.2.2.2.2.2.2.2.2.1
    have hq : q' ≤ 50 := hg.2.2.2.2.2.2.2.2.2
    rw [gif_f (by decide)]
    unfold pTail
    simp only []
    obtain ⟨P1, P2, ⟨P3, P3'⟩, ⟨P4, P4'⟩, P5⟩ := hP
    simp only at P1 P2 P3 P3' P4 P4' P5
    by_cases c1 : σ p' = 3009
    · have hp1 := pT K.2.1 hpT (by omega)
      rw [if_pos c1, xs_take_y K hX hpT li_3009 c1]
      simp only [Option.bind_some, gd_t bc, ic]
      rw [gif_f (by decide)]
      have hX1 := XS_adv hX (by omega)
      have av : ∀ k i x, ¬ (k = 6 ∧ x = 3) → rI (adv s) k i x = rI s k i x := fun k i x hn => by unfold adv; rw [rI_ne (by omega)]
      have e8 : rI (adv s) 8 0 7 = nI z' := hX1.2.2.2.2.1
      rw [e8]
      have hX2 := XS_arr (k := 35) (c := c) (v := nI z') hX1 (by omega)
      have g := pTest_g (o := o) K.2.1 8 hp1 hq
      obtain ⟨y, hy, hG⟩ := x_seg K (x_test0 K) keep_test hX2 hp1 hq (by omega) g
      obtain ⟨x, hx, hy2⟩ := Option.bind_eq_some_iff.mp hy
      obtain ⟨s5, hs5, hy3⟩ := Option.bind_eq_some_iff.mp hy2
      simp only [Option.some.injEq] at hy3
      subst hy3
      rw [hx]
      simp only [Option.bind_some]
      rw [hs5]
      simp only [Option.bind_some]
      cases hr : pTest σ o 8 (p' + 1) q' with
      | inr e =>
        rw [hr] at hG
        have x0 : x.2 = 0 := hG.1
        rw [gd_t (.inl x0), pb_r]
        exact ok_some ⟨x0, ⟨by rw [rI_ne (by omega)]; exact hG.2.1, hG.2.2⟩⟩
      | inl w =>
        obtain ⟨V, p2, q2⟩ := w
        rw [hr] at hG g
        obtain ⟨g1, g2, g3, g4, g5, g6⟩ := GR_l.mp g
        obtain ⟨y1, G1, G2, G3, G4, G5, G6⟩ := hG
        simp only at y1 G1 G2 G3 G4 G5 G6
        rw [gd_t (.inr y1), pb_l]
        have w6 : ∀ k i x, ¬ (k = 8 ∧ x = 6) → rI (wI s5 8 0 6 (nI (c + 1))) k i x = rI s5 k i x := fun k i x hn => rI_ne (by omega)
        have X5 : XS (wI s5 8 0 6 (nI (c + 1))) σ pl T o p2 q2 (z' + V.length + 1) := by
          obtain ⟨t1, t2, t3, t4, t5, t6, t7⟩ := G1
          refine ⟨fun j hj => ?_, ?_, ?_, ?_, ?_, t6, ?_⟩
          · rw [w6 _ _ _ (by omega), w6 _ _ _ (by omega)]; exact t1 j hj
          · rw [w6 _ _ _ (by omega)]; exact t2
          · rw [w6 _ _ _ (by omega)]; exact t3
          · rw [w6 _ _ _ (by omega)]; exact t4
          · rw [w6 _ _ _ (by omega)]; exact t5
          · rw [w6 _ _ _ (by omega)]; exact t7
        have cs : ∀ i, i < z' → rI (wI s5 8 0 6 (nI (c + 1))) 36 0 i = rI s 36 0 i := fun i hi => by rw [w6 _ _ _ (by omega), G3 i hi, rI_ne (by omega), av _ _ _ (by omega)]
        have ar : ∀ k i, 31 ≤ k → k ≤ 35 → (k ≠ 35 ∨ i ≠ c) → rI (wI s5 8 0 6 (nI (c + 1))) k 0 i = rI s k 0 i := fun k i k1 k2 hi => by rw [w6 _ _ _ (by omega), G4 k i k1 k2, rI_ne (by omega), av _ _ _ (by omega)]
        refine ok_some ⟨y1, z' + V.length + 1, X5, by omega, by show z' + V.length + 1 ≤ p2; omega, ⟨fun i hi => ?_, fun k i k1 k2 hi => ?_, ?_, fun hf => ?_⟩, ⟨?_, ?_, ⟨fun hA => ?_, fun hA => ?_⟩, ⟨fun hB => ?_, fun hB => ?_⟩, z', ?_, ?_⟩, fun hf ho => ?_⟩
        · rw [cs i (by omega)]; exact hK.1 i hi
        · rw [ar k i k1 k2 (by omega)]; exact hK.2.1 k i k1 k2 hi
        · simp only []; rw [w6 _ _ _ (by omega), G5, rI_ne (by omega), av _ _ _ (by omega)]; exact hK.2.2.1
        · simp only [] at hf; rw [w6 _ _ _ (by omega)] at hf
          have := (G6 hf).1
          rw [rI_ne (by omega), av _ _ _ (by omega)] at this; exact hK.2.2.2 this
        · simp only []; rw [ar 31 c (by omega) (by omega) (by omega)]; exact P1
        · simp only []; rw [ar 32 c (by omega) (by omega) (by omega)]; exact P2
        · obtain ⟨a, q1, q2'⟩ := P3 hA
          exact ⟨a, by simp only []; rw [ar 33 c (by omega) (by omega) (by omega)]; exact q1, sgx_c q2' cs (by omega)⟩
        · simp only []; rw [ar 33 c (by omega) (by omega) (by omega)]; exact P3' hA
        · obtain ⟨a, q1, q2'⟩ := P4 hB
          exact ⟨a, by simp only []; rw [ar 34 c (by omega) (by omega) (by omega)]; exact q1, sgx_c q2' cs (by omega)⟩
        · simp only []; rw [ar 34 c (by omega) (by omega) (by omega)]; exact P4' hB
        · simp only []; rw [w6 _ _ _ (by omega), G4 35 c (by omega) (by omega), rI_eq rfl]
        · exact sgx_c G2 (fun i _ => w6 _ _ _ (by omega)) (Nat.le_refl _)
        · simp only [] at hf; rw [w6 _ _ _ (by omega)] at hf
          obtain ⟨f1, f2⟩ := G6 hf
          rw [rI_ne (by omega), av _ _ _ (by omega)] at f1
          refine ⟨(hn f1 ho).1, fun U hU => ?_⟩
          simp only [Option.some.injEq] at hU
          subst hU; exact f2 ho
    · rw [if_neg c1, xs_take_n K hX hpT li_3009 c1]
      simp only [Option.bind_some, gdB1]
      rw [gif_t trivial]
      have w6 : ∀ k i x, ¬ (k = 8 ∧ x = 6) → rI (wI s 8 0 6 (nI (c + 1))) k i x = rI s k i x := fun k i x hn => rI_ne (by omega)
      have X5 : XS (wI s 8 0 6 (nI (c + 1))) σ pl T o p' q' z' := by
        obtain ⟨t1, t2, t3, t4, t5, t6, t7⟩ := hX
        refine ⟨fun j hj => ?_, ?_, ?_, ?_, ?_, t6, ?_⟩
        · rw [w6 _ _ _ (by omega), w6 _ _ _ (by omega)]; exact t1 j hj
        · rw [w6 _ _ _ (by omega)]; exact t2
        · rw [w6 _ _ _ (by omega)]; exact t3
        · rw [w6 _ _ _ (by omega)]; exact t4
        · rw [w6 _ _ _ (by omega)]; exact t5
        · rw [w6 _ _ _ (by omega)]; exact t7
      have cs : ∀ i, i < z' → rI (wI s 8 0 6 (nI (c + 1))) 36 0 i = rI s 36 0 i := fun i hi => w6 _ _ _ (by omega)
      refine ok_some ⟨rfl, z', X5, h1, h2, ⟨fun i hi => ?_, fun k i k1 k2 hi => ?_, ?_, fun hf => ?_⟩, ⟨?_, ?_, ⟨fun hA => ?_, fun hA => ?_⟩, ⟨fun hB => ?_, fun hB => ?_⟩, ?_⟩, fun hf ho => ?_⟩
      · rw [w6 _ _ _ (by omega)]; exact hK.1 i hi
      · rw [w6 _ _ _ (by omega)]; exact hK.2.1 k i k1 k2 hi
      · rw [w6 _ _ _ (by omega)]; exact hK.2.2.1
      · rw [w6 _ _ _ (by omega)] at hf; exact hK.2.2.2 hf
      · rw [w6 _ _ _ (by omega)]; exact P1
      · rw [w6 _ _ _ (by omega)]; exact P2
      · obtain ⟨a, q1, q2'⟩ := P3 hA
        exact ⟨a, by rw [w6 _ _ _ (by omega)]; exact q1, sgx_c q2' cs (Nat.le_refl _)⟩
      · rw [w6 _ _ _ (by omega)]; exact P3' hA
      · obtain ⟨a, q1, q2'⟩ := P4 hB
        exact ⟨a, by rw [w6 _ _ _ (by omega)]; exact q1, sgx_c q2' cs (Nat.le_refl _)⟩
      · rw [w6 _ _ _ (by omega)]; exact P4' hB
      · show rI (wI s 8 0 6 (nI (c + 1))) 35 0 c = -1
        rw [w6 _ _ _ (by omega)]; exact P5
      · rw [w6 _ _ _ (by omega)] at hf; exact hn hf ho
theorem x_clause (K : TK σ pl T) {s : Sg} {p q z c : Nat} (h : XS s σ pl T o p q z) (hp : p ≤ T) (hq : q ≤ 50) (hz : z ≤ p) (hc : c < 12) : ok (x6_readClause s (nI c)) (RC σ pl T o s c z (pOne σ o p q)) := by
  have bc : inb (nI c) 12 := inb_nI (by omega) hc
  have ic : ix (nI c) = c := ix_nI (by omega)
  unfold x6_readClause x6_readClause_G pOne
  simp only [gd_t bc, ic]
  rw [gif_f (by rw [ti_lt, nI_ti (by omega), li_0]; omega), gif_t (by rw [ti_lt, nI_ti (by omega), li_12]; omega)]
  generalize hs5 : wI (wI (wI (wI s 32 0 c 1) 33 0 c (-1)) 34 0 c (-1)) 35 0 c (-1) = s5
  have h5 : XS s5 σ pl T o p q z := by rw [← hs5]; exact XS_arr (XS_arr (XS_arr (XS_arr h (by omega)) (by omega)) (by omega)) (by omega)
  have a2 : rI s5 32 0 c = nI 1 := by rw [← hs5, rI_ne (by omega), rI_ne (by omega), rI_ne (by omega), rI_eq rfl]; rfl
  have a3 : rI s5 33 0 c = -1 := by rw [← hs5, rI_ne (by omega), rI_ne (by omega), rI_eq rfl]
  have a4 : rI s5 34 0 c = -1 := by rw [← hs5, rI_ne (by omega), rI_eq rfl]
  have a5 : rI s5 35 0 c = -1 := by rw [← hs5, rI_eq rfl]
  have kp : ∀ k i x, (k < 31 ∨ 35 < k ∨ x ≠ c) → rI s5 k i x = rI s k i x := fun k i x hn => by rw [← hs5, rI_ne (by omega), rI_ne (by omega), rI_ne (by omega), rI_ne (by omega)]
  have e5 : rI s5 6 0 5 = oI o := h5.2.1
  have up : ∀ (r : CZ) (y : Sg × Int32), RC σ pl T o s5 c z r y → RC σ pl T o s c z r y := by
    intro r y hr
    cases r with
    | inr e => exact hr
    | inl w =>
      obtain ⟨x0, z', hX, h1, h2, hK, hP, hn⟩ := hr
      refine ⟨x0, z', hX, h1, h2, ⟨fun i hi => ?_, fun k i k1 k2 hi => ?_, ?_, fun hf => ?_⟩, hP, hn⟩
      · rw [hK.1 i hi, kp _ _ _ (by omega)]
      · rw [hK.2.1 k i k1 k2 hi, kp _ _ _ (by omega)]
      · rw [hK.2.2.1, kp _ _ _ (by omega)]
      · have := hK.2.2.2 hf
        rw [kp _ _ _ (by omega)] at this; exact this
  rw [e5]
  cases o with
  | false =>
    rw [gif_t (show oI false = 0 from rfl), if_neg (by decide)]
    obtain ⟨y, hy, hR⟩ := x_rule K h5 hp hq hz hc a2 a3 a4 a5
    rw [hy]
    obtain ⟨g1, g2⟩ := pRuleH_g K.2.1 hp hq
    exact ok_mono (x_tail K g1 g2 hR hc) (fun w hw => up _ w hw)
  | true =>
    rw [gif_f (show ¬ oI true = 0 by decide), if_pos rfl]
    obtain ⟨y, hy, hR⟩ := x_order K h5 hp hq hz hc a2 a3 a4 a5
    rw [hy]
    obtain ⟨g1, g2⟩ := pOrderH_g K.2.1 hp hq
    exact ok_mono (x_tail K g1 g2 hR hc) (fun w hw => up _ w hw)
/-! the whole text -/
def PlL (o : Bool) (s : Sg) (L : List Clz) (z : Nat) : Prop := ∀ c (h : c < L.length), PlC o s c L[c] z
def TXL (o : Bool) (s : Sg) (L : List Clz) : Prop := ∃ z, z ≤ 400 ∧ rI s 8 0 7 = nI z ∧ rI s 8 0 6 = nI L.length ∧ PlL o s L z ∧ rN s 36 0 0 = 512 ∧ isB (rI s 8 0 8) ∧ (rI s 8 0 8 = 0 → o = false → ∀ x, x ∈ L → noLine x.2.1 ∧ ∀ U, x.2.2.2.2 = some U → noLine U) ∧ rI s 6 0 6 = -1
def TXR (pl : Nat → Nat) (o : Bool) (r : List Clz ⊕ Nat) (s : Sg) : Prop := match r with | .inr e => rI s 6 0 6 = nI (pl e) ∧ rN s 36 0 0 = 512 | .inl L => TXL o s L
/-- the number of clauses is told by the clause itself -/
theorem x_clause_n {s : Sg} {c : Nat} {y : Sg × Int32} (hc : c < 12) (h : x6_readClause s (nI c) = some y) : rI y.1 8 0 6 = nI (c + 1) := by
  have n1 : nI c + 1 = nI (c + 1) := nI_s (by omega)
  have bc : inb (nI c) 12 := inb_nI (by omega) hc
  have ic : ix (nI c) = c := ix_nI (by omega)
  have t75 : ∀ (s1 : Sg) (x : Int32) (w : Sg × Int32), x6_readClause_b75 s1 (nI c) x = some w → rI w.1 8 0 6 = nI (c + 1) := by
    intro s1 x w hw
    unfold x6_readClause_b75 x6_readClause_b75_G at hw
    rw [n1] at hw
    have gdv : ∀ (s2 : Sg) (v : Int32), gd (isB v) (some (wI s2 8 0 6 (nI (c + 1)), v)) = some w → rI w.1 8 0 6 = nI (c + 1) := by
      intro s2 v hg
      by_cases b : isB v
      · rw [gd_t b] at hg; simp only [Option.some.injEq] at hg; subst hg; exact rI_eq rfl
      · rw [show gd (isB v) (some (wI s2 8 0 6 (nI (c + 1)), v)) = none from if_neg b] at hg; exact absurd hg (by simp)
    by_cases x0 : x = 0
    · rw [gif_t x0] at hw; exact gdv _ _ hw
    · rw [gif_f x0] at hw
      obtain ⟨q2, _, hw2⟩ := Option.bind_eq_some_iff.mp hw
      by_cases q0 : q2.2 = 0
      · rw [gif_t q0] at hw2; exact gdv _ _ hw2
      · rw [gif_f q0, gd_t bc] at hw2
        obtain ⟨q5, _, hw3⟩ := Option.bind_eq_some_iff.mp hw2
        obtain ⟨s6, _, hw4⟩ := Option.bind_eq_some_iff.mp hw3
        exact gdv _ _ hw4
  unfold x6_readClause x6_readClause_G at h
  simp only [gd_t bc, ic] at h
  rw [gif_f (by rw [ti_lt, nI_ti (by omega), li_0]; omega), gif_t (by rw [ti_lt, nI_ti (by omega), li_12]; omega)] at h
  by_cases x0 : rI (wI (wI (wI (wI s 32 0 c 1) 33 0 c (-1)) 34 0 c (-1)) 35 0 c (-1)) 6 0 5 = 0
  · rw [gif_t x0] at h
    obtain ⟨q6, _, h2⟩ := Option.bind_eq_some_iff.mp h
    exact t75 _ _ _ h2
  · rw [gif_f x0] at h
    obtain ⟨q6, _, h2⟩ := Option.bind_eq_some_iff.mp h
    exact t75 _ _ _ h2
theorem PlC_c {s s' : Sg} {c : Nat} {x : Clz} {z z' : Nat} (h : PlC o s c x z) (g : ∀ i, i < z → rI s' 36 0 i = rI s 36 0 i) (a : ∀ k, 31 ≤ k → k ≤ 35 → rI s' k 0 c = rI s k 0 c) (hz : z ≤ z') : PlC o s' c x z' := by
  obtain ⟨P1, P2, ⟨P3, P3'⟩, ⟨P4, P4'⟩, P5⟩ := h
  refine ⟨by rw [a 31 (by omega) (by omega)]; exact P1, by rw [a 32 (by omega) (by omega)]; exact P2, ⟨fun hA => ?_, fun hA => by rw [a 33 (by omega) (by omega)]; exact P3' hA⟩, ⟨fun hB => ?_, fun hB => by rw [a 34 (by omega) (by omega)]; exact P4' hB⟩, ?_⟩
  · obtain ⟨i, q1, q2⟩ := P3 hA
    exact ⟨i, by rw [a 33 (by omega) (by omega)]; exact q1, sgx_c q2 g hz⟩
  · obtain ⟨i, q1, q2⟩ := P4 hB
    exact ⟨i, by rw [a 34 (by omega) (by omega)]; exact q1, sgx_c q2 g hz⟩
  · cases hU : x.2.2.2.2 with
    | none => rw [hU] at P5; simp only at P5 ⊢; rw [a 35 (by omega) (by omega)]; exact P5
    | some U =>
      rw [hU] at P5
      obtain ⟨i, q1, q2⟩ := P5
      exact ⟨i, by rw [a 35 (by omega) (by omega)]; exact q1, sgx_c q2 g hz⟩
theorem x_text (K : TK σ pl T) {s : Sg} (h : XS s σ pl T o 0 0 0) (hf : rI s 6 0 6 = -1) : ok (x6_readText_b45 FU s 0) (TXR pl o (pTxt σ o 14 0 [] 0 0)) := by
  have T4 := K.1
  generalize hR : pTxt σ o 14 0 [] 0 0 = R0
  refine ok_loop (K := fun n (y : Sg × Int32) => x6_readText_b45 n y.1 y.2) (I := fun y => ∃ c m L p q z, y.2 = nI c ∧ c ≤ 12 ∧ 14 ≤ m + c ∧ pTxt σ o m c L p q = R0 ∧ L.length = c ∧ XS y.1 σ pl T o p q z ∧ z ≤ p ∧ p ≤ T ∧ q ≤ 50 ∧ PlL o y.1 L z ∧ (rI y.1 8 0 8 = 0 → o = false → ∀ x, x ∈ L → noLine x.2.1 ∧ ∀ U, x.2.2.2.2 = some U → noLine U) ∧ rI y.1 6 0 6 = -1)
    (μ := fun y => 20 - y.2.toInt.toNat) ?_ FU (s, 0) ⟨0, 14, [], 0, 0, 0, rfl, by omega, by omega, hR, rfl, h, by omega, by omega, by omega, fun c hc => absurd hc (by simp), fun _ _ x hx => absurd hx (by simp), hf⟩ (by show _ < 20000; omega)
  rintro n ⟨s2, l⟩ ⟨c, m, L, p, q, z, hl, hc, hm, hR2, hL, hX, hz, hp, hq, hP, hN, hF⟩ ih
  simp only at hl hX hP hN hF ih
  subst hl
  show ok (x6_readText_b45_G _ _ _ _ s2 (nI c)) _
  unfold x6_readText_b45_G
  obtain ⟨m', rfl⟩ : ∃ m', m = m' + 1 := ⟨m - 1, by omega⟩
  rw [pTxt_s] at hR2
  rw [gif_f (by rw [ti_lt, nI_ti (by omega), li_12]; omega)]
  by_cases c12 : 12 ≤ c
  · rw [if_pos c12] at hR2
    have e12 : c = 12 := by omega
    unfold x6_readClause x6_readClause_G
    rw [gif_f (by rw [ti_lt, nI_ti (by omega), li_0]; omega), gif_f (by rw [ti_lt, nI_ti (by omega), li_12]; omega), xs_fail K hX hp]
    simp only [Option.bind_some, gdB0]
    rw [gif_t trivial]
    refine ok_some ?_
    rw [← hR2]
    exact ⟨rI_eq rfl, hX.2.2.2.2.2.1⟩
  · rw [if_neg c12] at hR2
    have hc' : c < 12 := by omega
    obtain ⟨y, hy, hC⟩ := x_clause K hX hp hq hz hc'
    have hn6 := x_clause_n hc' hy
    rw [hy]
    simp only [Option.bind_some]
    have gc := pOne_g (o := o) K.2.1 hp hq
    cases hr : pOne σ o p q with
    | inr e =>
      rw [hr] at hC hR2
      rw [gif_t hC.1]
      refine ok_some ?_
      rw [← hR2]
      exact ⟨hC.2.1, hC.2.2⟩
    | inl w =>
      obtain ⟨x, p', q'⟩ := w
      rw [hr] at hC hR2 gc
      obtain ⟨y1, z', X1, z1, z2, hK, hPl, hnl⟩ := hC
      simp only at y1 X1 z2 hPl hnl hR2
      have p'T : p' ≤ T := gc.2.2.2.2.2.2.2.2.1
      have q'5 : q' ≤ 50 := gc.2.2.2.2.2.2.2.2.2
      have PL1 : PlL o y.1 (L ++ [x]) z' := by
        intro j hj
        rw [List.length_append] at hj
        by_cases e : j < L.length
        · rw [List.getElem_append_left e]
          exact PlC_c (hP j e) (fun i hi => hK.1 i hi) (fun k k1 k2 => hK.2.1 k j k1 k2 (by omega)) z1
        · have ej : j = L.length := by simp at hj; omega
          subst ej
          rw [List.getElem_append_right (Nat.le_refl _)]
          simp only [Nat.sub_self, List.getElem_cons_zero]
          rw [hL]; exact hPl
      have NL1 : rI y.1 8 0 8 = 0 → o = false → ∀ u, u ∈ L ++ [x] → noLine u.2.1 ∧ ∀ U, u.2.2.2.2 = some U → noLine U := by
        intro hf0 ho u hu
        rcases List.mem_append.mp hu with e | e
        · exact hN (hK.2.2.2 hf0) ho u e
        · have : u = x := by simpa using e
          subst this; exact hnl hf0 ho
      have F1 : rI y.1 6 0 6 = -1 := by rw [hK.2.2.1]; exact hF
      rw [gif_f (by rw [y1]; decide), xs_sign K X1 p'T]
      simp only [Option.bind_some]
      by_cases c4 : σ p' = 4000
      · rw [if_pos c4] at hR2
        rw [gif_t ((sg_eq K li_4000).mpr c4)]
        refine ok_some ?_
        rw [← hR2]
        exact ⟨z', by omega, X1.2.2.2.2.1, by rw [hn6, List.length_append, hL]; rfl, PL1, X1.2.2.2.2.2.1, X1.2.2.2.2.2.2, NL1, F1⟩
      · rw [if_neg c4] at hR2
        rw [gif_f (fun e => c4 ((sg_eq K li_4000).mp e))]
        by_cases c5 : σ p' = 2059
        · rw [if_pos c5] at hR2
          have hp1 := pT K.2.1 p'T c4
          rw [xs_tof_y K X1 p'T li_2059 c5]
          simp only [Option.bind_some]
          rw [gif_f (by decide), nI_s (by omega)]
          have av : ∀ k i x, ¬ (k = 6 ∧ x = 3) → rI (adv y.1) k i x = rI y.1 k i x := fun k i x hn => by unfold adv; rw [rI_ne (by omega)]
          refine ih (adv y.1, nI (c + 1)) ⟨c + 1, m', L ++ [x], p' + 1, q', z', rfl, by omega, by omega, hR2, by rw [List.length_append, hL]; rfl, XS_adv X1 (by omega), by omega, hp1, q'5, ?_, ?_, ?_⟩ (by simp only []; rw [nI_ti (by omega), nI_ti (by omega)]; omega)
          · intro j hj
            exact PlC_c (PL1 j hj) (fun i _ => av _ _ _ (by omega)) (fun k k1 k2 => av _ _ _ (by omega)) (Nat.le_refl _)
          · intro hf0; rw [av _ _ _ (by omega)] at hf0; exact NL1 hf0
          · rw [av _ _ _ (by omega)]; exact F1
        · rw [if_neg c5] at hR2
          rw [xs_tof_n K X1 p'T li_2059 c5]
          simp only [Option.bind_some]
          rw [gif_t trivial]
          refine ok_some ?_
          rw [← hR2]
          exact ⟨rI_eq rfl, X1.2.2.2.2.2.1⟩
