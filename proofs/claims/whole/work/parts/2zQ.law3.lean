theorem MW_56 {f f' : Nat → Int32} (h : MW f) (hf : ∀ i, i < 58 → i ≠ 56 → f' i = f i) (h6 : (f 56).toInt < 6) (e : (f' 56).toInt = (f 56).toInt + 1) : MW f' := by
  obtain ⟨h1, h2, h3, h4, h5, h6', h7⟩ := h
  unfold MW
  rw [hf 54 (by omega) (by omega), hf 0 (by omega) (by omega), hf 1 (by omega) (by omega), hf 14 (by omega) (by omega), hf 51 (by omega) (by omega), hf 52 (by omega) (by omega), hf 53 (by omega) (by omega), hf 55 (by omega) (by omega), hf 57 (by omega) (by omega), e]
  refine ⟨h1, fun w hw => ?_, h3, h4, ⟨h5.1, fun k hk => ?_⟩, ⟨by omega, by omega⟩, h7.1, by omega⟩
  · rw [hf (2 + w) (by omega) (by omega), hf (15 + w) (by omega) (by omega), hf (27 + w) (by omega) (by omega)]; exact h2 w hw
  · rw [hf (39 + 2 * k) (by omega) (by omega), hf (40 + 2 * k) (by omega) (by omega)]; exact h5.2 k hk
theorem GX_56 {sx sx' : Sg} {f f' : Nat → Int32} (M : MW f) (h1 : ∀ c, 7 ≤ c → c ≠ 11 → rI sx' 1 0 c = rI sx 1 0 c) (h2 : ∀ k c, 12 ≤ k → k ≤ 17 → rI sx' k 0 c = rI sx k 0 c) (hf : ∀ i, i < 58 → i ≠ 56 → f' i = f i) (e : rI sx' 1 0 11 = f' 56) (h : GX sx 0 f) : GX sx' 0 f' := by
  have m1 := M.1.2
  have m2 := M.2.2.2.2.1.1.2
  unfold GX at h ⊢
  rw [hf 54 (by omega) (by omega), hf 0 (by omega) (by omega), hf 1 (by omega) (by omega), hf 14 (by omega) (by omega), hf 51 (by omega) (by omega), hf 52 (by omega) (by omega), hf 53 (by omega) (by omega), hf 55 (by omega) (by omega), hf 57 (by omega) (by omega), e, h1 7 (by omega) (by omega), h1 8 (by omega) (by omega), h1 9 (by omega) (by omega), h1 10 (by omega) (by omega), h1 12 (by omega) (by omega), h2 15 _ (by omega) (by omega), h2 15 _ (by omega) (by omega), h2 15 _ (by omega) (by omega), h2 15 _ (by omega) (by omega)]
  refine ⟨h.1, fun w hw => ?_, h.2.2.1, ⟨h.2.2.2.1.1, fun k hk => ?_⟩, rfl, h.2.2.2.2.2⟩
  · rw [h2 12 _ (by omega) (by omega), h2 13 _ (by omega) (by omega), h2 14 _ (by omega) (by omega), hf (2 + w) (by omega) (by omega), hf (15 + w) (by omega) (by omega), hf (27 + w) (by omega) (by omega)]; exact h.2.1 w hw
  · rw [h2 16 _ (by omega) (by omega), h2 17 _ (by omega) (by omega), hf (39 + 2 * k) (by omega) (by omega), hf (40 + 2 * k) (by omega) (by omega)]; exact h.2.2.2.1.2 k hk
theorem Inv_13 {sx sm : Sg} (h : Inv sx sm) : Inv (wI sx 9 0 13 0) (wI sm 10 0 13 0) := by
  have F : Fr [(9, 1, 14)] sx (wI sx 9 0 13 0) := fr_wI fr_rfl (hit_is (by simp))
  have G : Fr [(10, 1, 14)] sm (wI sm 10 0 13 0) := fr_wI fr_rfl (hit_is (by simp))
  refine ⟨?_, InvB_fr F G rfl rfl rfl rfl rfl h.2.1, LogR_fr F G h.log12 rfl rfl rfl rfl h.2.2.1, InvC_fr F G rfl rfl rfl rfl rfl rfl h.2.2.2.1, InvE_fr F G rfl rfl rfl h.2.2.2.2.1, InvF_fr F G rfl (.inl rfl) (.inl ⟨rfl, rfl⟩) (.inl rfl) rfl h.2.2.2.2.2⟩
  obtain ⟨a1, a2, a3, a4⟩ := h.1
  unfold InvA
  simp (disch := omega) only [rI_ne, rI_eq]
  exact ⟨⟨trivial, by decide, by decide⟩, fun i hi => absurd hi (by show ¬ (i : Int) < 0; omega), a3, a4⟩
/-- a law told on both sides -/
theorem Inv_law {s2 m1 s5 m6 : Sg} (I : Inv s2 m1) {T l n z : Nat} {L : List Clz} (hT : rN s2 79 0 0 = T) (hl : (rI m1 43 0 56).toInt = l) (l6 : l < 6)
    (a1 : ∀ k i c, ¬ (k = 1 ∧ i = 0 ∧ c = 11) → ¬ (i = T ∧ ((31 ≤ k ∧ k ≤ 36) ∨ k = 8)) → rI s5 k i c = rI s2 k i c)
    (a2 : ∀ k c, ((31 ≤ k ∧ k ≤ 36) ∨ k = 8) → rI s5 k T c = rI s2 k 0 c) (a3 : rI s5 1 0 11 = nI (l + 1))
    (n1 : rN s5 36 T 0 = z) (n2 : rN s5 79 0 0 = T + 1) (n3 : rN s5 18 0 l = T + 1) (n4 : ∀ k i c, ¬ (k = 36 ∧ i = T ∧ c = 0) → ¬ (k = 79 ∧ i = 0 ∧ c = 0) → ¬ (k = 18 ∧ i = 0 ∧ c = l) → rN s5 k i c = rN s2 k i c)
    (b1 : rI m6 43 0 56 = nI (l + 1)) (b2 : rI m6 43 0 (58 + l) = nI n) (b3 : ∀ i, i < n → rI m6 43 0 (65 + 400 * l + i) = rI m1 53 0 i ∧ rI m6 43 0 (2865 + 400 * l + i) = rI m1 54 0 i)
    (b4 : ∀ c, c ≠ 56 → c ≠ 58 + l → ¬ (65 + 400 * l ≤ c ∧ c < 65 + 400 * l + 400) → ¬ (2865 + 400 * l ≤ c ∧ c < 2865 + 400 * l + 400) → rI m6 43 0 c = rI m1 43 0 c) (b5 : ∀ k i c, k ≠ 43 → rI m6 k i c = rI m1 k i c)
    (F : Fr ([(1, 1, 12), (18, 1, 0)] ++ FP_x8_trimmed) s2 s5) (G : Fr [(43, 1, 0)] m1 m6)
    (z4 : z ≤ 400) (n4' : n ≤ 400) (hL : L.length ≤ 12) (h6 : rI s2 8 0 6 = nI L.length) (hP : PlL false s2 L z) (hB : isB (rI s2 8 0 8)) (hN : rI s2 8 0 8 = 0 → ∀ x, x ∈ L → noLine x.2.1 ∧ ∀ U, x.2.2.2.2 = some U → noLine U)
    (hn : n = clasLen (L.map claOf)) (hM : clasM (m1.1 53 0) (m1.1 54 0) 0 (L.map claOf)) (hW : ∀ x, x ∈ L → wfC (claOf x)) : Inv s5 m6 := by
  have T1 : 1 ≤ T := by rw [← hT]; exact I.2.2.2.2.2.2.2.2.1.2.2
  have A := I.2.1.1
  have M := A.1
  have b43 : ∀ i, i < 58 → i ≠ 56 → m6.1 43 0 i = m1.1 43 0 i := fun i h1 h2 => b4 i h2 (by omega) (by omega) (by omega)
  have e56 : (rI m1 43 0 56) = nI l := by rw [ti_eq, hl, nI_ti (by omega)]
  -- texts told before
  have txt : ∀ t k c, 1 ≤ t → t < rN s2 79 0 0 → [8, 31, 32, 33, 34, 35, 36].elem k = true → rI s5 k t c = rI s2 k t c := by
    intro t k c h1 h2 h3
    refine a1 k t c ?_ (by omega)
    rintro ⟨rfl, -⟩
    exact absurd h3 (by decide)
  have txN : ∀ t, 1 ≤ t → t < rN s2 79 0 0 → rN s5 36 t 0 = rN s2 36 t 0 := fun t h1 h2 => n4 36 t 0 (by omega) (by omega) (by omega)
  have le79 : rN s2 79 0 0 ≤ rN s5 79 0 0 := by omega
  -- images
  have img : ∀ (g : Nat) (f f' : Nat → Int32), 1 ≤ g → (∀ i, f' i = f i) → GA s2 g f → GA s5 g f' := by
    intro g f f' hg hf h
    refine ⟨MW_c (fun i _ => hf i) h.1, GX_c ⟨h.1.1.2, h.1.2.2.2.2.1.1.2⟩ (fun c _ => a1 _ _ _ (by omega) (by omega)) (fun c => a1 _ _ _ (by omega) (by omega)) (fun c => a1 _ _ _ (by omega) (by omega)) (fun c => a1 _ _ _ (by omega) (by omega)) (fun c => a1 _ _ _ (by omega) (by omega)) (fun c => a1 _ _ _ (by omega) (by omega)) (fun c => a1 _ _ _ (by omega) (by omega)) (fun i _ => hf i) h.2.1, ?_⟩
    exact LX_c h.1.2.2.2.2.2.1.2 (fun c => n4 _ _ _ (by omega) (by omega) (by omega)) le79 txt txN (fun i _ => hf i) h.2.2
  refine ⟨InvA_fr F G rfl rfl rfl rfl rfl rfl rfl rfl I.1, ⟨⟨?_, ?_, ?_⟩, ?_, ?_⟩, ?_, ?_, InvE_fr F G rfl rfl rfl I.2.2.2.2.1, InvF_fr F G rfl (.inr (by rw [n4 36 0 0 (by omega) (by omega) (by omega)]; exact I.2.2.2.2.2.2.2.2.1.1)) (.inl ⟨rfl, rfl⟩) (.inr le79) rfl I.2.2.2.2.2⟩
  · exact MW_56 M b43 (by show (rI m1 43 0 56).toInt < 6; omega) (by show (rI m6 43 0 56).toInt = (rI m1 43 0 56).toInt + 1; rw [b1, nI_ti (by omega), hl]; omega)
  · exact GX_56 M (fun c _ h2 => a1 _ _ _ (by omega) (by omega)) (fun k c h1 h2 => a1 _ _ _ (by omega) (by omega)) b43 (by rw [a3]; exact b1.symm) A.2.1
  · -- the laws
    intro j hj
    have hj' : (j : Int) < (rI m6 43 0 56).toInt := hj
    rw [b1, nI_ti (by omega)] at hj'
    by_cases e : j = l
    · subst e
      refine ⟨T, T1, by omega, n3, L.map claOf, fun c hc => ?_, ⟨by rw [List.length_map]; exact hL, by rw [a2 8 6 (by omega), h6, nI_ti (by omega), List.length_map], clasX_of (s := s2) (fun k c h1 h2 => a2 k c (by omega)) n1 z4 L 0 (fun c hc => by rw [Nat.zero_add]; exact hP c hc) (fun x hx => by have := (hW x hx).1; show (claOf x).1 ≤ 3; omega), by rw [a2 8 8 (by omega)]; exact hB, fun hf c hc => ?_, by omega⟩, ?_, by omega, clasM_k hM (fun i hi => ?_)⟩
      · obtain ⟨x, h1, h2⟩ := List.mem_map.mp hc
        subst h2; exact hW x h1
      · rw [a2 8 8 (by omega)] at hf
        obtain ⟨x, h1, h2⟩ := List.mem_map.mp hc
        subst h2; exact hN hf x h1
      · show (rI m6 43 0 (58 + j)).toInt = _
        rw [b2, nI_ti (by omega), hn]
      · exact b3 i (by omega)
    · obtain ⟨t, t1, t2, t3, t4⟩ := A.2.2 j (by show (j : Int) < (rI m1 43 0 56).toInt; omega)
      refine ⟨t, t1, by omega, by rw [n4 18 0 j (by omega) (by omega) (by omega)]; exact t3, ?_⟩
      obtain ⟨C, g1, g2, g3⟩ := t4
      refine ⟨C, g1, lawC_c (fn_eq (fun c => txt t 8 c t1 t2 rfl)) (fn_eq (fun c => txt t 31 c t1 t2 rfl)) (fn_eq (fun c => txt t 33 c t1 t2 rfl)) (fn_eq (fun c => txt t 35 c t1 t2 rfl)) (fn_eq (fun c => txt t 36 c t1 t2 rfl)) (txN t t1 t2) g2, lawM_c (b4 _ (by omega) (by omega) (by omega) (by omega)) (fun i hi => ⟨b4 _ (by omega) (by omega) (by omega) (by omega), b4 _ (by omega) (by omega) (by omega) (by omega)⟩) g3⟩
  · rw [b5 _ _ _ (by omega), b4 54 (by omega) (by omega) (by omega) (by omega)]; exact I.2.1.2.1
  · intro w hw
    rw [b4 54 (by omega) (by omega) (by omega) (by omega)] at hw
    rw [b5 _ _ _ (by omega)]; exact I.2.1.2.2 w hw
  · exact LogR_c I.log12 (a1 _ _ _ (by omega) (by omega)) (fun c => a1 _ _ _ (by omega) (by omega)) (fun c => a1 _ _ _ (by omega) (by omega)) (fun c => a1 _ _ _ (by omega) (by omega)) (b5 _ _ _ (by omega)) (fun c => b5 _ _ _ (by omega)) (fun c hc => b4 _ (by omega) (by omega) (by omega) (by omega)) I.2.2.1
  · intro k hk
    obtain ⟨q1, q2, q3⟩ := I.2.2.2.1 k hk
    rw [a1 38 0 k (by omega) (by omega), b5 45 0 k (by omega)]
    exact ⟨q1, q2, fun g => img (3 + k) _ _ (by omega) (fun i => b5 44 0 _ (by omega)) (q3 g)⟩
theorem c_law {sx sm : Sg} (h : Inv sx sm) : Call sx sm (x9_law sx) (m_law sm) := by
  have km : (-1 : Int32).toInt = -1 := by decide
  have e11 : rI sx 1 0 11 = rI sm 43 0 56 := h.2.1.1.2.1.2.2.2.2.1
  have M := h.2.1.1.1
  have m56 : 0 ≤ (rI sm 43 0 56).toInt ∧ (rI sm 43 0 56).toInt ≤ 6 := M.2.2.2.2.2.1
  have k56 : inb 56 5665 ∧ ix 56 = 56 := ik (n := 56) (by omega)
  unfold x9_law x9_law_G m_law m_law_G
  simp only [bindp, gd_t k56.1, k56.2]
  rw [e11]
  by_cases c6 : (rI sm 43 0 56).toInt = 6
  · rw [gif_f (by rw [ti_lt, c6, li_6]; omega), gif_t (by rw [ti_eq, c6, li_6])]
    exact (refuse_both (Inv_13 h) (.inr (.inr (.inr (.inl rfl))))).re rfl
  · obtain ⟨l, hl⟩ : ∃ l : Nat, (rI sm 43 0 56).toInt = l := ⟨_, (Int.toNat_of_nonneg m56.1).symm⟩
    have l6 : l < 6 := by omega
    obtain ⟨N, hN⟩ : ∃ N : Nat, (rI sm 10 0 13).toInt = N := ⟨_, (Int.toNat_of_nonneg h.1.1.2.1).symm⟩
    have N4 : N ≤ 400 := by have := h.1.1.2.2; omega
    obtain ⟨K, hT0⟩ := TK_of (t := tpm sm) N4
    rw [gif_t (by rw [ti_lt, hl, li_6]; omega), gif_f (by rw [ti_eq, hl, li_6]; omega)]
    obtain ⟨s1, ex1, hx1⟩ := x_reads h false hN
    obtain ⟨⟨m1, r1⟩, em1, hm1, h13, -⟩ := mo_reads h false hN
    simp only at h13
    rw [show oI false = 0 from rfl] at ex1 em1
    have F1 := fr_x6_readText _ _ _ s1 ex1
    have G1 := fr_m_readsAs _ _ _ em1
    have r79 : rN s1 79 0 0 = rN sx 79 0 0 := F1.n 79 0 0 (by intro x; simp [hit] at x)
    rw [ex1, em1]
    simp only [Option.bind_some]
    cases hR : pTxt (tkS (toks (tpm sm) N 402 0)) false 14 0 [] 0 0 with
    | inr e =>
      rw [hR] at hx1 hm1
      obtain ⟨x1, x2⟩ := hx1
      obtain ⟨y1, y2⟩ := hm1
      simp only at y1 y2
      have I := Inv_read h F1 G1 (by rw [x1]; exact y2.symm) h13 x2
      rw [gif_f (by rw [rI_ne (by omega), x1]; exact ne_m1 K e), gif_t y1]
      exact (refuse_both I (.inr (.inr (.inr (.inr rfl))))).re r79
    | inl L =>
      rw [hR] at hx1 hm1
      obtain ⟨z, z4, h7, h6, hP, hn36, hB, hNL, hF⟩ := hx1
      obtain ⟨y1, y2, p, q, hpT, n, hnp, hMS, hCl⟩ := hm1
      simp only at y1 y2 hMS hCl
      obtain ⟨hn, hM⟩ := hCl trivial
      obtain ⟨gAll, gLen⟩ := pTxt_g (o := false) K.2.1 14 0 [] 0 0 L rfl (by omega) (by omega) (by omega) (fun x hx => absurd hx (by simp)) hR
      have I := Inv_read h F1 G1 (by rw [hF]; exact y2.symm) h13 hn36
      rw [gif_t (by rw [rI_ne (by omega)]; exact hF), gif_f (by rw [y1]; decide)]
      have m1l : rI m1 43 0 56 = nI l := by rw [G1.i 43 0 56 (by intro x; simp [hit] at x), ti_eq, hl, nI_ti (by omega)]
      obtain ⟨m2, em2, b2, b3, b4, b5⟩ := ok_laysOps (s := m1) l6 (show n ≤ 400 by have := K.1; omega) hMS.2.2.2.2.2.2.1
      have G2 := fr_m_laysOps _ _ _ em2
      have x11 : rI (wI s1 9 0 13 0) 1 0 11 = nI l := by rw [I.2.1.1.2.1.2.2.2.2.1]; exact m1l
      have m2l : rI m2 43 0 56 = nI l := by rw [b4 56 (by omega) (by omega) (by omega)]; exact m1l
      rw [m1l, em2, x11]
      generalize hs2 : wI s1 9 0 13 0 = s2 at I x11 ⊢
      have w2 : ∀ k i c, ¬ (k = 9 ∧ c = 13) → rI s2 k i c = rI s1 k i c := fun k i c hn => by rw [← hs2, rI_ne (by omega)]
      have wn : ∀ k i c, rN s2 k i c = rN s1 k i c := fun k i c => by rw [← hs2]; rfl
      have e7 : rI s2 8 0 7 = nI z := by rw [w2 _ _ _ (by omega)]; exact h7
      have etr : x8_trimmed s2 0 = some ((fun k i s => if i = rN s2 79 0 0 ∧ ((31 ≤ k ∧ k ≤ 36) ∨ k = 8) then s2.1 k 0 s else s2.1 k i s, (s2.2.1, u3 (u3 s2.2.2 36 (rN s2 79 0 0) 0 z) 79 0 0 (rN s2 79 0 0 + 1))), rN s2 79 0 0) := by
        unfold x8_trimmed
        rw [e7, wn 36, hn36, ix_nI (by omega), gd_t ⟨by rw [ti_lt, nI_ti (by omega), li_0]; omega, by omega, by omega, by rw [w2 _ _ _ (by omega)]; exact hB⟩]
      have F2 := fr_x8_trimmed _ _ _ etr
      rw [etr]
      simp only [Option.bind_some, gd_t (inb_nI (show l < 1000000 by omega) l6), ix_nI (show l < 1000000 by omega)]
      generalize hs3 : (fun k i s => if i = rN s2 79 0 0 ∧ ((31 ≤ k ∧ k ≤ 36) ∨ k = 8) then s2.1 k 0 s else s2.1 k i s, (s2.2.1, u3 (u3 s2.2.2 36 (rN s2 79 0 0) 0 z) 79 0 0 (rN s2 79 0 0 + 1))) = s3 at F2 ⊢
      have t1 : ∀ k i c, ¬ (i = rN s2 79 0 0 ∧ ((31 ≤ k ∧ k ≤ 36) ∨ k = 8)) → rI s3 k i c = rI s2 k i c := fun k i c hn => by rw [← hs3]; exact if_neg hn
      have t2 : ∀ k c, ((31 ≤ k ∧ k ≤ 36) ∨ k = 8) → rI s3 k (rN s2 79 0 0) c = rI s2 k 0 c := fun k c hn => by rw [← hs3]; exact if_pos ⟨rfl, hn⟩
      have t3 : ∀ k i c, rN s3 k i c = if k = 79 ∧ i = 0 ∧ c = 0 then rN s2 79 0 0 + 1 else if k = 36 ∧ i = rN s2 79 0 0 ∧ c = 0 then z else rN s2 k i c := fun k i c => by rw [← hs3]; rfl
      have e4 : rI (wN s3 18 0 l (rN s2 79 0 0 + 1)) 1 0 11 = nI l := by rw [rI_wN, t1 _ _ _ (by omega)]; exact x11
      rw [e4, m2l, nI_s (by omega), rI_eq rfl, rI_eq rfl]
      generalize hs5 : wI (wN s3 18 0 l (rN s2 79 0 0 + 1)) 1 0 11 (nI (l + 1)) = s5
      generalize hm6 : wI m2 43 0 56 (nI (l + 1)) = m6
      have F5 : Fr ([(1, 1, 12), (18, 1, 0)] ++ FP_x8_trimmed) s2 s5 := by
        rw [← hs5]
        exact fr_wI (fr_wN (F2.mono (fun k i c x => .inr (.inr x))) (.inr (.inl ⟨rfl, .inr rfl, .inl rfl⟩))) (.inl ⟨rfl, .inr rfl, .inr rfl⟩)
      have G6 : Fr [(43, 1, 0)] m1 m6 := by
        rw [← hm6]
        exact fr_wI G2 (.inl ⟨rfl, .inr rfl, .inl rfl⟩)
      have I5 : Inv s5 m6 := by
        refine Inv_law I (T := rN s2 79 0 0) (l := l) (n := n) (z := z) (L := L) rfl (by rw [m1l, nI_ti (by omega)]) l6 (fun k i c hn1 hn2 => ?_) (fun k c hk => ?_) ?_ ?_ ?_ ?_ (fun k i c h1 h2 h3 => ?_) ?_ ?_ (fun i hi => ?_) (fun c h1 h2 h3 h4 => ?_) (fun k i c hk => ?_) F5 G6 z4 (by have := K.1; omega) gLen (by rw [w2 _ _ _ (by omega)]; exact h6) (fun c hc => ?_) (by rw [w2 _ _ _ (by omega)]; exact hB) (fun hf => ?_) hn hM (fun x hx => ?_)
        · rw [← hs5, rI_ne (by omega), rI_wN]; exact t1 k i c hn2
        · rw [← hs5, rI_ne (by omega), rI_wN]; exact t2 k c hk
        · rw [← hs5, rI_eq rfl]
        · rw [← hs5, rN_wI, rN_wN, if_neg (by omega), t3, if_neg (by omega), if_pos ⟨rfl, rfl, rfl⟩]
        · rw [← hs5, rN_wI, rN_wN, if_neg (by omega), t3, if_pos ⟨rfl, rfl, rfl⟩]
        · rw [← hs5, rN_wI, rN_wN, if_pos ⟨rfl, rfl, rfl⟩]
        · rw [← hs5, rN_wI, rN_wN, if_neg h3, t3, if_neg h2, if_neg h1]
        · rw [← hm6, rI_eq rfl]
        · rw [← hm6, rI_ne (by omega)]; exact b2
        · rw [← hm6, rI_ne (by omega), rI_ne (by omega)]; exact b3 i hi
        · rw [← hm6, rI_ne (by omega)]; exact b4 c h2 h3 h4
        · rw [← hm6, rI_ne (by omega)]; exact b5 k i c hk
        · exact PlC_c (hP c hc) (fun i _ => w2 _ _ _ (by omega)) (fun k _ _ => w2 _ _ _ (by omega)) (Nat.le_refl _)
        · rw [w2 _ _ _ (by omega)] at hf; exact hNL hf rfl
        · obtain ⟨a, b, d, e, g⟩ := gAll x hx; exact wfC_of g
      obtain ⟨sx', sm', r, ex, em, hI, -⟩ := answer_both I5 (nI (l + 1) - 1)
      refine ⟨sx', sm', r, ex, em, hI, ?_⟩
      have : sx' = wI s5 9 0 16 0 := by
        have e : x9_answer s5 (nI (l + 1) - 1) = some (wI s5 9 0 16 0, nI (l + 1) - 1) := rfl
        rw [e] at ex; simp only [Option.some.injEq, Prod.mk.injEq] at ex; exact ex.1.symm
      rw [this, rN_wI, ← hs5, rN_wI, rN_wN, if_neg (by omega), t3, if_pos ⟨rfl, rfl, rfl⟩, wn, r79]
      omega
