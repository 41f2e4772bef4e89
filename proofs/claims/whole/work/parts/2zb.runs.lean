variable {σ : Nat → Nat} {T : Nat}
def OI (bx bm sx sm : Sg) : Prop := Inv sx sm ∧ Fr FP_x0_runOnce bx sx ∧ (∀ i, 15 ≤ i → rI sm 43 0 i = rI bm 43 0 i) ∧ rI sx 0 0 8 = rI sm 10 0 29 ∧ rI sx 0 0 7 = rI sm 10 0 30
theorem run36 {k i c : Nat} (h1 : 31 ≤ k) (h2 : k ≤ 36) : ¬ hit FP_x0_runOnce k i c := fun h => by
  obtain ⟨e, m, q⟩ := hit_k h
  have : ∀ e, e ∈ FP_x0_runOnce → ¬ (31 ≤ e.1 ∧ e.1 ≤ 36) := by decide
  exact this e m (by omega)
noncomputable def gup (sx' : Sg) (n : Int32) : Option (Sg × Int32) := (x0_giveUp sx').bind fun s2 => (x9_refuse (wI s2 9 0 15 n) (-3)).bind fun q4 => some (q4.1, q4.2)
theorem run_loop (hT : σ T = 4000) (T4 : T ≤ 400) {bx bm : Sg} {c z p q : Nat} {y : Clz × Nat × Nat} (hc : c < 12) (z4 : z ≤ 400) (hP : PlC true bx c y.1 z) (hk : TkL σ T bm) (hp : p ≤ T) (hq : q ≤ 50) (hr : pOne σ true p q = .inl y) {l3 : Int32} : ∀ (k i : Nat) (sx sm : Sg) (fx fm : Nat), i + k = y.1.2.2.2.1 → OI bx bm sx sm → rI sm 10 0 59 = nI (2400 + p) → k < fx → k < fm →
    (∃ sx' sm', (∀ K61, x9_orders_b77 K61 fx sx (nI c) (nI i) = K61 sx' (nI (c + 1))) ∧ m_runs_b19 fm sm (nI (2400 + T)) (nI y.1.2.2.2.1) l3 (nI i) = some (wI sm' 10 0 59 l3, 1) ∧ OI bx bm sx' sm') ∨
    (∃ sx' sm', (∀ K61, x9_orders_b77 K61 fx sx (nI c) (nI i) = gup sx' (nI c)) ∧ m_runs_b19 fm sm (nI (2400 + T)) (nI y.1.2.2.2.1) l3 (nI i) = some (sm', 0) ∧ Fr FP_x0_runOnce bx sx' ∧ ∀ i, 15 ≤ i → rI sm' 43 0 i = rI bm 43 0 i) := by
  have gc := pOne_g (o := true) hT hp hq
  rw [hr] at gc
  have t20 : 1 ≤ y.1.2.2.2.1 ∧ y.1.2.2.2.1 ≤ 20 := gc.2.2.2.1
  have bc : inb (nI c) 12 := inb_nI (by omega) hc
  have ic : ix (nI c) = c := ix_nI (by omega)
  intro k
  induction k with
  | zero =>
    intro i sx sm fx fm hi hO h59 hfx hfm
    obtain ⟨fx, rfl⟩ : ∃ f, fx = f + 1 := ⟨fx - 1, by omega⟩
    obtain ⟨fm, rfl⟩ : ∃ f, fm = f + 1 := ⟨fm - 1, by omega⟩
    have e32 : rI sx 32 0 c = nI y.1.2.2.2.1 := by rw [hO.2.1.i 32 0 c (run36 (by omega) (by omega))]; exact hP.2.1
    refine .inl ⟨sx, sm, fun K61 => ?_, ?_, hO⟩
    · show x9_orders_b77_G _ _ _ _ _ sx (nI c) (nI i) = _
      unfold x9_orders_b77_G
      rw [gd_t bc, ic, e32, gif_f (by rw [ti_lt, nI_ti (by omega), nI_ti (by omega)]; omega), nI_s (by omega)]
    · show m_runs_b19_G _ _ _ sm _ _ l3 (nI i) = _
      unfold m_runs_b19_G
      rw [gif_f (by rw [ti_lt, nI_ti (by omega), nI_ti (by omega)]; omega), gdB1]
  | succ k ih =>
    intro i sx sm fx fm hi hO h59 hfx hfm
    obtain ⟨fx, rfl⟩ : ∃ f, fx = f + 1 := ⟨fx - 1, by omega⟩
    obtain ⟨fm, rfl⟩ : ∃ f, fm = f + 1 := ⟨fm - 1, by omega⟩
    obtain ⟨I, Fx, h43, d8, d7⟩ := hO
    have e32 : rI sx 32 0 c = nI y.1.2.2.2.1 := by rw [Fx.i 32 0 c (run36 (by omega) (by omega))]; exact hP.2.1
    have hP' : PlC true sx c y.1 z := PlC_c hP (fun i _ => Fx.i 36 0 i (run36 (by omega) (by omega))) (fun k k1 k2 => Fx.i k 0 c (run36 (by omega) (by omega))) (Nat.le_refl _)
    have hk' : TkL σ T sm := fun j hj => by rw [h43 _ (by omega), h43 _ (by omega)]; exact hk j hj
    obtain ⟨s1, eg, e43, e59, ⟨sx', r⟩, ex, hN⟩ := once_both hT T4 I hc z4 hP' hk' h59 hp hq hr d8 d7
    have F1 := fr_x0_runOnce _ _ _ _ ex
    have Fx' := Fx.trans F1
    have lhs : ∀ K61, x9_orders_b77 K61 (fx + 1) sx (nI c) (nI i) = gif (r = 0) (gup sx' (nI c)) (x9_orders_b77 K61 fx sx' (nI c) (nI (i + 1))) := by
      intro K61
      show x9_orders_b77_G _ _ _ _ _ sx (nI c) (nI i) = _
      unfold x9_orders_b77_G
      rw [gd_t bc, ic, e32, gif_t (by rw [ti_lt, nI_ti (by omega), nI_ti (by omega)]; omega), gif_t (by rw [ti_lt, nI_ti (by omega), li_20]; omega), ex]
      simp only [Option.bind_some]
      rw [nI_s (by omega)]
      rfl
    have rhs : m_runs_b19 (fm + 1) sm (nI (2400 + T)) (nI y.1.2.2.2.1) l3 (nI i) = gif (rI s1 10 0 63 = 0) (m_runs_b19 fm s1 (nI (2400 + T)) (nI y.1.2.2.2.1) l3 (nI (i + 1))) (gif (rI s1 10 0 62 = 0) (some (s1, 0)) ((m_obeys s1).bind fun q2 => gif (q2.2 < 0) (some (q2.1, 0)) (m_runs_b19 fm (wI q2.1 10 0 29 (rI q2.1 10 0 29 + 1)) (nI (2400 + T)) (nI y.1.2.2.2.1) l3 (nI (i + 1))))) := by
      show m_runs_b19_G _ _ _ sm _ _ l3 (nI i) = _
      unfold m_runs_b19_G
      rw [gif_t (by rw [ti_lt, nI_ti (by omega), nI_ti (by omega)]; omega), eg]
      simp only [Option.bind_some, gdB0]
      rw [nI_s (by omega)]
    rcases hN with ⟨r1, e63, I', q8, q7⟩ | ⟨r0, n63, hh⟩ | ⟨r1, n63, n62, qq, v, eo, nv, I', q8, q7, hi43, q59⟩
    · simp only at r1 I' q8 q7
      subst r1
      have hO' : OI bx bm sx' s1 := ⟨I', Fx', fun j hj => by rw [e43]; exact h43 j hj, q8, q7⟩
      rcases ih (i + 1) sx' s1 fx fm (by omega) hO' (by rw [e59]; exact h59) (by omega) (by omega) with ⟨a, b, h1, h2, h3⟩ | ⟨a, b, h1, h2, h3, h4⟩
      · exact .inl ⟨a, b, fun K61 => by rw [lhs, gif_f (by decide)]; exact h1 K61, by rw [rhs, gif_t e63]; exact h2, h3⟩
      · exact .inr ⟨a, b, fun K61 => by rw [lhs, gif_f (by decide)]; exact h1 K61, by rw [rhs, gif_t e63]; exact h2, h3, h4⟩
    · simp only at r0
      subst r0
      rcases hh with e62 | ⟨n62, qq, v, eo, nv, hi43⟩
      · exact .inr ⟨sx', s1, fun K61 => by rw [lhs, gif_t rfl], by rw [rhs, gif_f n63, gif_t e62], Fx', fun j hj => by rw [e43]; exact h43 j hj⟩
      · exact .inr ⟨sx', qq, fun K61 => by rw [lhs, gif_t rfl], by rw [rhs, gif_f n63, gif_f n62, eo]; simp only [Option.bind_some]; rw [gif_t nv], Fx', fun j hj => by rw [hi43 j hj, e43]; exact h43 j hj⟩
    · simp only at r1 I' q8 q7
      subst r1
      have G8 : Fr [(10, 1, 30)] qq (wI qq 10 0 29 (rI qq 10 0 29 + 1)) := fr_wI fr_rfl (hit_is (by simp))
      have hO' : OI bx bm sx' (wI qq 10 0 29 (rI qq 10 0 29 + 1)) := ⟨Inv_scr (L := []) fr_rfl G8 rfl rfl I', Fx', fun j hj => by rw [rI_ne (by omega), hi43 j hj, e43]; exact h43 j hj, by rw [rI_eq rfl]; exact q8, by rw [rI_ne (by omega)]; exact q7⟩
      have rhs' : m_runs_b19 (fm + 1) sm (nI (2400 + T)) (nI y.1.2.2.2.1) l3 (nI i) = m_runs_b19 fm (wI qq 10 0 29 (rI qq 10 0 29 + 1)) (nI (2400 + T)) (nI y.1.2.2.2.1) l3 (nI (i + 1)) := by
        rw [rhs, gif_f n63, gif_f n62, eo]
        simp only [Option.bind_some]
        rw [gif_f nv]
      rcases ih (i + 1) sx' (wI qq 10 0 29 (rI qq 10 0 29 + 1)) fx fm (by omega) hO' (by rw [rI_ne (by omega), q59, e59]; exact h59) (by omega) (by omega) with ⟨a, b, h1, h2, h3⟩ | ⟨a, b, h1, h2, h3, h4⟩
      · exact .inl ⟨a, b, fun K61 => by rw [lhs, gif_f (by decide)]; exact h1 K61, by rw [rhs']; exact h2, h3⟩
      · exact .inr ⟨a, b, fun K61 => by rw [lhs, gif_f (by decide)]; exact h1 K61, by rw [rhs']; exact h2, h3, h4⟩
theorem run_clause (hT : σ T = 4000) (T4 : T ≤ 400) {bx bm : Sg} {c z p q : Nat} {y : Clz × Nat × Nat} (hc : c < 12) (z4 : z ≤ 400) (hP : PlC true bx c y.1 z) (hk : TkL σ T bm) (hp : p ≤ T) (hq : q ≤ 50) (hr : pOne σ true p q = .inl y) {sx sm : Sg} (hO : OI bx bm sx sm) (h59 : rI sm 10 0 59 = nI (2400 + p)) :
    (∃ sx' sm', (∀ K61, x9_orders_b77 K61 FU sx (nI c) 0 = K61 sx' (nI (c + 1))) ∧ m_runs sm (nI (2400 + T)) = some (sm', 1) ∧ OI bx bm sx' sm' ∧ rI sm' 10 0 59 = nI (2400 + (y.2.1 + 1))) ∨
    (∃ sx' sm', (∀ K61, x9_orders_b77 K61 FU sx (nI c) 0 = gup sx' (nI c)) ∧ m_runs sm (nI (2400 + T)) = some (sm', 0) ∧ Fr FP_x0_runOnce bx sx' ∧ ∀ i, 15 ≤ i → rI sm' 43 0 i = rI bm 43 0 i) := by
  obtain ⟨I, Fx, h43, d8, d7⟩ := hO
  have gc := pOne_g (o := true) hT hp hq
  rw [hr] at gc
  have t20 : 1 ≤ y.1.2.2.2.1 ∧ y.1.2.2.2.1 ≤ 20 := gc.2.2.2.1
  have m12 : 0 ≤ (rI sm 43 0 54).toInt ∧ (rI sm 43 0 54).toInt ≤ 12 := I.2.1.1.1.1
  have q43 : ∀ i, rI (wI sm 10 0 32 0) 43 0 i = rI sm 43 0 i := fun i => rI_ne (by omega)
  obtain ⟨s1, e1, GP1, r25, r60, r61, -⟩ := ga_30 hT T4 (s := wI sm 10 0 32 0) (p := p) (q := q) (y := y) (live := 0) (y1 := 0) (fun k hk' => by rw [q43, q43, h43 _ (by omega), h43 _ (by omega)]; exact hk k hk') (by rw [q43]; exact m12) (by rw [rI_ne (by omega)]; exact h59) hp hq (.inl rfl) hr
  have ego : m_goesAlong sm (nI (2400 + T)) 0 = some s1 := by
    unfold m_goesAlong m_goesAlong_G
    rw [gif_t rfl, gif_t rfl]
    exact e1
  have G := fr_m_goesAlong _ _ _ _ ego
  have hO1 : OI bx bm sx s1 := ⟨Inv_scr (L := []) fr_rfl G rfl rfl I, Fx, fun i hi => by rw [G.i 43 0 i (nh rfl)]; exact h43 i hi, by rw [G.i 10 0 29 (nh rfl)]; exact d8, by rw [G.i 10 0 30 (nh rfl)]; exact d7⟩
  have em : m_runs sm (nI (2400 + T)) = m_runs_b19 FU s1 (nI (2400 + T)) (nI y.1.2.2.2.1) (nI (2400 + (y.2.1 + 1))) 0 := by
    unfold m_runs m_runs_G
    rw [ego]
    simp only [Option.bind_some]
    rw [r60, r25]
  rcases run_loop hT T4 hc z4 hP hk hp hq hr (l3 := nI (2400 + (y.2.1 + 1))) y.1.2.2.2.1 0 sx s1 FU FU (by omega) hO1 (by rw [G.i 10 0 59 (nh rfl)]; exact h59) (by show _ < 20000; omega) (by show _ < 20000; omega) with ⟨a, b, h1, h2, h3⟩ | ⟨a, b, h1, h2, h3, h4⟩
  · have G9 : Fr [(10, 1, 60)] b (wI b 10 0 59 (nI (2400 + (y.2.1 + 1)))) := fr_wI fr_rfl (hit_is (by simp))
    refine .inl ⟨a, _, h1, by rw [em]; exact h2, ⟨Inv_scr (L := []) fr_rfl G9 rfl rfl h3.1, h3.2.1, fun i hi => by rw [rI_ne (by omega)]; exact h3.2.2.1 i hi, by rw [rI_ne (by omega)]; exact h3.2.2.2.1, by rw [rI_ne (by omega)]; exact h3.2.2.2.2⟩, rI_eq rfl⟩
  · exact .inr ⟨a, b, h1, by rw [em]; exact h2, h3, h4⟩
theorem pTxt_pre {o : Bool} : ∀ (n c : Nat) (L0 : List Clz) (p q : Nat) (L : List Clz), pTxt σ o n c L0 p q = .inl L → ∃ r, L = L0 ++ r := by
  intro n
  induction n with
  | zero => intro c L0 p q L h; exact absurd h (by simp [pTxt])
  | succ n ih =>
    intro c L0 p q L h
    rw [pTxt_s] at h
    by_cases c12 : 12 ≤ c
    · rw [if_pos c12] at h; exact absurd h (by simp)
    · rw [if_neg c12] at h
      cases hr : pOne σ o p q with
      | inr e => rw [hr] at h; exact absurd h (by simp)
      | inl y =>
        rw [hr] at h
        simp only at h
        by_cases c4 : σ y.2.1 = 4000
        · rw [if_pos c4] at h; simp only [Sum.inl.injEq] at h; exact ⟨[y.1], h.symm⟩
        · rw [if_neg c4] at h
          by_cases c5 : σ y.2.1 = 2059
          · rw [if_pos c5] at h
            obtain ⟨r, hr'⟩ := ih _ _ _ _ _ h
            exact ⟨y.1 :: r, by rw [hr']; simp⟩
          · rw [if_neg c5] at h; exact absurd h (by simp)
theorem run_all (hT : σ T = 4000) (T4 : T ≤ 400) (hT0 : ∀ k, k < T → σ k ≠ 4000) {bx bm : Sg} {z : Nat} {L : List Clz} (z4 : z ≤ 400) (hP : PlL true bx L z) (h6 : rI bx 8 0 6 = nI L.length) (hk : TkL σ T bm) (L12 : L.length ≤ 12) {l1 : Int32} : ∀ (m c : Nat) (L0 : List Clz) (p q : Nat) (sx sm : Sg) (fx fm : Nat), pTxt σ true m c L0 p q = .inl L → L0.length = c → OI bx bm sx sm → Fr FP_m_runs bm sm → rI sm 10 0 59 = nI (2400 + p) → p ≤ T → q ≤ 50 → m + 1 < fx → m + 1 < fm →
    (∃ sx' sm', x9_orders_b61 fx sx (nI c) = x9_answer sx' (rI sx' 0 0 8) ∧ m_orders_b95 fm sm l1 (nI (2400 + T)) (nI c) = m_good sm' (rI sm' 10 0 29) ∧ OI bx bm sx' sm') ∨
    (∃ sx' sm' n, n < 12 ∧ x9_orders_b61 fx sx (nI c) = gup sx' (nI n) ∧ m_orders_b95 fm sm l1 (nI (2400 + T)) (nI c) = ((m_takesBack sm' 1).bind fun s2 => m_orders_b122 FU s2 l1 (nI n) 0) ∧ Fr FP_x0_runOnce bx sx' ∧ Fr FP_m_runs bm sm' ∧ ∀ i, 15 ≤ i → rI sm' 43 0 i = rI bm 43 0 i) := by
  intro m
  induction m with
  | zero => intro c L0 p q sx sm fx fm h; exact absurd h (by simp [pTxt])
  | succ m ih =>
    intro c L0 p q sx sm fx fm h hL hO hG h59 hp hq hfx hfm
    obtain ⟨fx, rfl⟩ : ∃ f, fx = f + 1 := ⟨fx - 1, by omega⟩
    obtain ⟨fm, rfl⟩ : ∃ f, fm = f + 1 := ⟨fm - 1, by omega⟩
    rw [pTxt_s] at h
    by_cases c12 : 12 ≤ c
    · rw [if_pos c12] at h; exact absurd h (by simp)
    rw [if_neg c12] at h
    cases hr : pOne σ true p q with
    | inr e => rw [hr] at h; exact absurd h (by simp)
    | inl y =>
      rw [hr] at h
      simp only at h
      have gc := pOne_g (o := true) hT hp hq
      rw [hr] at gc
      have p'T : y.2.1 ≤ T := gc.2.2.2.2.2.2.2.2.1
      have q'5 : y.2.2 ≤ 50 := gc.2.2.2.2.2.2.2.2.2
      -- the list goes on with this clause
      obtain ⟨r, hLr⟩ : ∃ r, L = (L0 ++ [y.1]) ++ r := by
        by_cases c4 : σ y.2.1 = 4000
        · rw [if_pos c4] at h; simp only [Sum.inl.injEq] at h; exact ⟨[], by rw [← h]; simp⟩
        · rw [if_neg c4] at h
          by_cases c5 : σ y.2.1 = 2059
          · rw [if_pos c5] at h; exact pTxt_pre _ _ _ _ _ _ h
          · rw [if_neg c5] at h; exact absurd h (by simp)
      have cl : c < L.length := by rw [hLr]; simp only [List.length_append, List.length_cons, List.length_nil]; omega
      have Lc : L[c] = y.1 := by
        subst hLr
        rw [List.getElem_append_left (by simp only [List.length_append, List.length_cons, List.length_nil]; omega), List.getElem_append_right (by omega)]
        simp [hL]
      have hPc : PlC true bx c y.1 z := by rw [← Lc]; exact hP c cl
      have s6 : ∀ s, Fr FP_x0_runOnce bx s → rI s 8 0 6 = nI L.length := fun s f => by rw [f.i 8 0 6 (nh rfl)]; exact h6
      have pl : p < T := by
        rcases Nat.lt_or_ge p T with x | x
        · exact x
        · have := (pOne_v hr).2.1
          have e : p = T := by omega
          rw [e, hT] at this; omega
      have lx : x9_orders_b61 (fx + 1) sx (nI c) = x9_orders_b77 (x9_orders_b61 fx) FU sx (nI c) 0 := by
        show x9_orders_b61_G _ _ sx (nI c) = _
        unfold x9_orders_b61_G
        rw [s6 sx hO.2.1, gif_t (by rw [ti_lt, nI_ti (by omega), nI_ti (by omega)]; omega), gif_t (by rw [ti_lt, nI_ti (by omega), li_12]; omega)]
      have lm : m_orders_b95 (fm + 1) sm l1 (nI (2400 + T)) (nI c) = (m_runs sm (nI (2400 + T))).bind fun q1 => gif (q1.2 = 0) ((m_takesBack q1.1 1).bind fun s2 => m_orders_b122 FU s2 l1 (nI c) 0) (m_orders_b95 fm q1.1 l1 (nI (2400 + T)) (nI (c + 1))) := by
        show m_orders_b95_G _ _ _ _ _ sm l1 (nI (2400 + T)) (nI c) = _
        unfold m_orders_b95_G
        rw [h59, gif_t (by rw [ti_lt, nI_ti (by omega), nI_ti (by omega)]; omega), nI_s (by omega)]
      rcases run_clause hT T4 (by omega) z4 hPc hk hp hq hr hO h59 with ⟨sx', sm', a1, a2, a3, a4⟩ | ⟨sx', sm', a1, a2, a3, a4⟩
      · have G' := hG.trans (fr_m_runs _ _ _ a2)
        rw [lx, a1, lm, a2]
        simp only [Option.bind_some]
        rw [gif_f (by decide)]
        by_cases c4 : σ y.2.1 = 4000
        · rw [if_pos c4] at h
          simp only [Sum.inl.injEq] at h
          have eT : y.2.1 = T := by
            rcases Nat.lt_or_ge y.2.1 T with x | x
            · exact absurd c4 (hT0 _ x)
            · omega
          have lenL : L.length = c + 1 := by rw [← h, List.length_append, hL]; rfl
          obtain ⟨fx', rfl⟩ : ∃ f, fx = f + 1 := ⟨fx - 1, by omega⟩
          obtain ⟨fm', rfl⟩ : ∃ f, fm = f + 1 := ⟨fm - 1, by omega⟩
          refine .inl ⟨sx', sm', ?_, ?_, a3⟩
          · show x9_orders_b61_G _ _ sx' (nI (c + 1)) = _
            unfold x9_orders_b61_G
            rw [s6 sx' a3.2.1, gif_f (by rw [ti_lt, nI_ti (by omega), nI_ti (by omega)]; omega)]
            simp only [bindp]
          · show m_orders_b95_G _ _ _ _ _ sm' l1 (nI (2400 + T)) (nI (c + 1)) = _
            unfold m_orders_b95_G
            rw [a4, gif_f (by rw [ti_lt, nI_ti (by omega), nI_ti (by omega)]; omega)]
            simp only [bindp]
        · rw [if_neg c4] at h
          by_cases c5 : σ y.2.1 = 2059
          · rw [if_pos c5] at h
            exact ih (c + 1) (L0 ++ [y.1]) (y.2.1 + 1) y.2.2 sx' sm' fx fm h (by rw [List.length_append, hL]; rfl) a3 G' a4 (pT hT p'T c4) q'5 (by omega) (by omega)
          · rw [if_neg c5] at h; exact absurd h (by simp)
      · rw [lx, a1, lm, a2]
        simp only [Option.bind_some]
        rw [gif_t trivial]
        exact .inr ⟨sx', sm', c, by omega, rfl, rfl, a3, hG.trans (fr_m_runs _ _ _ a2), a4⟩
