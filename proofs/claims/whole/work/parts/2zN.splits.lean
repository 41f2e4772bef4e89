/-! the model splits -/
theorem mo_small (s : Sg) (b : Int32) : m_isSmall s b = some (s, bI (srt b = 1)) := by
  have k122 : (122 : Int32).toInt = 122 := by decide
  have k97 : (97 : Int32).toInt = 97 := by decide
  have e : srt b = 1 ↔ 97 ≤ b.toInt ∧ b.toInt ≤ 122 := by unfold srt; (repeat' split) <;> omega
  unfold m_isSmall m_isSmall_G
  simp only [gdB0, gdB1]
  refine gif_eq (fun c => ?_) (fun c => gif_eq (fun d => ?_) (fun d => ?_))
  · rw [ti_lt, k97] at c; exact lf0 (fun x => by have := e.mp x; omega)
  · rw [ti_lt, k122] at d; exact lf0 (fun x => by have := e.mp x; omega)
  · rw [ti_lt, k97] at c; rw [ti_lt, k122] at d; exact lf1 (e.mpr (by omega))
theorem mo_digit (s : Sg) (b : Int32) : m_isDigit s b = some (s, bI (srt b = 2)) := by
  have k57 : (57 : Int32).toInt = 57 := by decide
  have k48 : (48 : Int32).toInt = 48 := by decide
  have e : srt b = 2 ↔ 48 ≤ b.toInt ∧ b.toInt ≤ 57 := by unfold srt; (repeat' split) <;> omega
  unfold m_isDigit m_isDigit_G
  simp only [gdB0, gdB1]
  refine gif_eq (fun c => ?_) (fun c => gif_eq (fun d => ?_) (fun d => ?_))
  · rw [ti_lt, k48] at c; exact lf0 (fun x => by have := e.mp x; omega)
  · rw [ti_lt, k57] at d; exact lf0 (fun x => by have := e.mp x; omega)
  · rw [ti_lt, k48] at c; rw [ti_lt, k57] at d; exact lf1 (e.mpr (by omega))
def cM (s : Sg) (i : Nat) (x : Nat × Nat) : Prop := rI s 50 0 i = nI (mc x.1) ∧ (x.1 ≤ 1000 → rI s 51 0 i = nI x.1) ∧ (x.1 = 1001 → 1000 < (rI s 51 0 i).toInt) ∧ rI s 52 0 i = nI x.2
def CMt (s : Sg) (L : List (Nat × Nat)) : Prop := ∀ i (h : i < L.length), cM s i L[i]
def MT (s : Sg) (t : Nat → Int32) (N : Nat) : Prop := (∀ i, i < N → rI s 48 0 i = t i) ∧ ∀ i, i < 138 → rI s 47 0 i = nth mwords i 0
theorem CMt_add {s s' : Sg} {L : List (Nat × Nat)} {x : Nat × Nat} (h : CMt s L) (hk : ∀ k i, 50 ≤ k → k ≤ 52 → i < L.length → rI s' k 0 i = rI s k 0 i) (hx : cM s' L.length x) : CMt s' (L ++ [x]) := by
  intro i hi
  rw [List.length_append] at hi
  by_cases e : i < L.length
  · rw [List.getElem_append_left e]
    obtain ⟨h1, h2, h3, h4⟩ := h i e
    exact ⟨by rw [hk 50 i (by omega) (by omega) e]; exact h1, fun q => by rw [hk 51 i (by omega) (by omega) e]; exact h2 q, fun q => by rw [hk 51 i (by omega) (by omega) e]; exact h3 q, by rw [hk 52 i (by omega) (by omega) e]; exact h4⟩
  · have ei : i = L.length := by simp at hi; omega
    subst ei
    rw [List.getElem_append_right (Nat.le_refl _)]
    simp only [Nat.sub_self, List.getElem_cons_zero]
    exact hx
theorem mo_splits {s : Sg} {t : Nat → Int32} {N : Nat} (hN : N ≤ 400) (hT : MT s t N) : ok (m_splits s (nI N)) (fun s' => TokM s' (tkS (toks t N 402 0)) (tkP (toks t N 402 0) N) (toks t N 402 0).length ∧ rI s' 10 0 18 = nI (toks t N 402 0).length) := by
  unfold m_splits m_splits_G
  generalize hL : toks t N 402 0 = L
  have LR : L.length ≤ N := by rw [← hL]; have := (toks_r (t := t) (N := N) (n := 402) (k := 0) (by omega)).1; omega
  refine ok_loop (K := fun n (y : Sg × Int32) => m_splits_b7 n y.1 (nI N) y.2) (I := fun y => ∃ m k L0, y.2 = nI k ∧ k ≤ N ∧ 402 ≤ m + k ∧ L = L0 ++ toks t N m k ∧ L0.length ≤ k ∧ rI y.1 10 0 18 = nI L0.length ∧ CMt y.1 L0 ∧ MT y.1 t N)
    (μ := fun y => 402 - y.2.toInt.toNat) ?_ FU (wI s 10 0 18 0, 0) ⟨402, 0, [], rfl, by omega, by omega, hL.symm, by simp, by show rI (wI s 10 0 18 0) 10 0 18 = nI 0; rw [rI_eq rfl]; rfl, fun i hi => absurd hi (by simp), fun i hi => by rw [rI_ne (by omega)]; exact hT.1 i hi, fun i hi => by rw [rI_ne (by omega)]; exact hT.2 i hi⟩ (by show _ < 20000; simp only []; omega)
  rintro fu ⟨s2, l2⟩ ⟨m, k, L0, e2, hk, hm, hL0, hlk, h18, hC, hT2⟩ ih
  simp only at e2 hC hT2 h18 ih
  subst e2
  show ok (m_splits_b7_G _ _ _ _ _ _ s2 (nI N) (nI k)) _
  unfold m_splits_b7_G
  obtain ⟨m', rfl⟩ : ∃ m', m = m' + 1 := ⟨m - 1, by omega⟩
  rw [toks_s] at hL0
  by_cases c : k < N
  · rw [if_pos c] at hL0
    have mu : ∀ x, k < x → x ≤ N → 402 - (nI x).toInt.toNat < 402 - (nI k).toInt.toNat := fun x h1 h2 => by rw [nI_ti (by omega), nI_ti (by omega)]; omega
    rw [gif_t (by rw [ti_lt, nI_ti (by omega), nI_ti (by omega)]; omega), gd_t (inb_nI (by omega) (by omega)), ix_nI (by omega), hT2.1 k c, nI_s (by omega)]
    by_cases c32 : t k = 32
    · rw [if_pos c32] at hL0
      rw [gif_t c32]
      exact ih (s2, nI (k + 1)) ⟨m', k + 1, L0, rfl, by omega, by omega, hL0, by omega, h18, hC, hT2⟩ (mu (k + 1) (by omega) (by omega))
    · rw [if_neg c32] at hL0
      obtain ⟨e1, e2, e3⟩ := tend_r (t := t) c
      rw [gif_f c32]
      -- the token, its end found
      have fin : ok (m_splits_b100 (m_splits_b7 fu) s2 (nI N) (nI k) (t k) (nI (tend t N k))) (fun s' => TokM s' (tkS L) (tkP L N) L.length ∧ rI s' 10 0 18 = nI L.length) := by
        unfold m_splits_b100 m_splits_b100_G
        have bT : inb (nI L0.length) 401 := inb_nI (by omega) (by omega)
        have iT : ix (nI L0.length) = L0.length := ix_nI (by omega)
        have q1 : rI (wI s2 52 0 L0.length (nI k)) 10 0 18 = nI L0.length := by rw [rI_ne (by omega)]; exact h18
        have q2 : rI (wI (wI s2 52 0 L0.length (nI k)) 51 0 L0.length 0) 10 0 18 = nI L0.length := by rw [rI_ne (by omega)]; exact q1
        rw [h18]
        simp only [gd_t bT, iT, q1, q2]
        rw [mo_small]
        simp only [Option.bind_some, gdB0, gdB1, gdbI, gifbI]
        -- the value, then the next
        have nxt : ∀ (s3 : Sg) (cd : Nat), (∀ q i x, ¬ ((q = 52 ∨ q = 51 ∨ q = 50) ∧ x = L0.length) → rI s3 q i x = rI s2 q i x) → rI s3 52 0 L0.length = nI k → rI s3 51 0 L0.length = 0 → rI s3 50 0 L0.length = nI (mc (sgn t k (tend t N k))) → ok (m_splits_b169 (m_splits_b7 fu) FU s3 (nI N) (t k) (nI (tend t N k)) (nI k)) (fun s' => TokM s' (tkS L) (tkP L N) L.length ∧ rI s' 10 0 18 = nI L.length) := by
          intro s3 cd k3 p3 v3 c3
          -- on with the next token
          have on : ∀ s4 : Sg, (∀ q i x, ¬ ((q = 52 ∨ q = 51 ∨ q = 50) ∧ x = L0.length) → rI s4 q i x = rI s2 q i x) → cM s4 L0.length (sgn t k (tend t N k), k) → ok (m_splits_b7 fu (wI s4 10 0 18 (rI s4 10 0 18 + 1)) (nI N) (nI (tend t N k))) (fun s' => TokM s' (tkS L) (tkP L N) L.length ∧ rI s' 10 0 18 = nI L.length) := by
            intro s4 k4 hx
            refine ih (wI s4 10 0 18 (rI s4 10 0 18 + 1), nI (tend t N k)) ⟨m', tend t N k, L0 ++ [(sgn t k (tend t N k), k)], rfl, e2, by omega, by rw [hL0]; simp, by rw [List.length_append]; show L0.length + 1 ≤ _; omega, ?_, CMt_add hC (fun q i h1 h2 hi => by rw [rI_ne (by omega)]; exact k4 q 0 i (by omega)) ?_, fun i hi => ?_, fun i hi => ?_⟩ (mu _ (by omega) e2)
            · simp only []; rw [rI_eq rfl, k4 10 0 18 (by omega), h18, nI_s (by omega), List.length_append]; rfl
            · obtain ⟨x1, x2, x3, x4⟩ := hx
              exact ⟨by rw [rI_ne (by omega)]; exact x1, fun q => by rw [rI_ne (by omega)]; exact x2 q, fun q => by rw [rI_ne (by omega)]; exact x3 q, by rw [rI_ne (by omega)]; exact x4⟩
            · rw [rI_ne (by omega), k4 48 0 i (by omega)]; exact hT2.1 i hi
            · rw [rI_ne (by omega), k4 47 0 i (by omega)]; exact hT2.2 i hi
          by_cases d : srt (t k) = 2
          · -- a number
            have es : sgn t k (tend t N k) = min (nmp t (tend t N k - k) k 0) 1001 := by
              unfold sgn
              rw [if_neg (by omega), if_pos d]
              exact nc_nm (v := 0)
            have all2 : ∀ j, k ≤ j → j < tend t N k → srt (t j) = 2 := fun j h1 h2 => by rw [e3 (by omega) j h1 h2, d]
            have vle : nmp t (tend t N k - k) k 0 ≤ 10000009 := nmp_le (fun i h1 h2 => (dg_le (all2 i h1 (by omega))).1) (by omega)
            generalize hV : nmp t (tend t N k - k) k 0 = V at es vle
            refine ok_loop (K := fun n (y : Sg × Int32) => m_splits_b169 (m_splits_b7 fu) n y.1 (nI N) (t k) (nI (tend t N k)) y.2) (I := fun y => ∃ j v, y.2 = nI j ∧ k ≤ j ∧ j ≤ tend t N k ∧ v ≤ 10000009 ∧ rI y.1 51 0 L0.length = nI v ∧ nmp t (tend t N k - j) j v = V ∧ ∀ q i x, ¬ (q = 51 ∧ x = L0.length) → rI y.1 q i x = rI s3 q i x)
              (μ := fun y => 402 - y.2.toInt.toNat) ?_ FU (s3, nI k) ⟨k, 0, rfl, by omega, by omega, by omega, by rw [v3]; rfl, hV, fun _ _ _ _ => rfl⟩ (by show _ < 20000; simp only []; omega)
            rintro fu2 ⟨s4, l5⟩ ⟨j, v, hj, hkj, hje, hv, h51, hVj, hk4⟩ ih2
            simp only at hj h51 hk4 ih2
            subst hj
            have b18 : rI s4 10 0 18 = nI L0.length := by rw [hk4 _ _ _ (by omega), k3 _ _ _ (by omega)]; exact h18
            show ok (m_splits_b169_G _ _ _ s4 (nI N) (t k) (nI (tend t N k)) (nI j)) _
            unfold m_splits_b169_G
            rw [mo_digit]
            simp only [Option.bind_some, gdB0, gdB1, gdbI, gifbI]
            by_cases cj : j < tend t N k
            · rw [gif_t (by rw [ti_lt, nI_ti (by omega), nI_ti (by omega)]; omega), gif_t d]
              simp only [b18, gd_t bT, iT]
              rw [h51, show tend t N k - j = (tend t N k - (j + 1)) + 1 by omega, nmp_s] at *
              have muj : 402 - (nI (j + 1)).toInt.toNat < 402 - (nI j).toInt.toNat := by rw [nI_ti (by omega), nI_ti (by omega)]; omega
              by_cases cv : 1000000 < v
              · rw [if_pos cv] at hVj
                rw [gif_t (by rw [ti_lt, nI_ti (by omega), li_1000000]; omega), nI_s (by omega)]
                exact ih2 (wI s4 51 0 L0.length (nI v), nI (j + 1)) ⟨j + 1, v, rfl, by omega, by omega, hv, rI_eq rfl, hVj, fun q i x hn => by rw [rI_ne (by omega)]; exact hk4 q i x hn⟩ muj
              · rw [if_neg cv] at hVj
                obtain ⟨d1, d2⟩ := dg_le (all2 j hkj cj)
                have tj : rI s4 48 0 j = t j := by rw [hk4 _ _ _ (by omega), k3 _ _ _ (by omega)]; exact hT2.1 j (by omega)
                have u1 : (10 * nI v).toInt = 10 * v := by rw [ti_mul (by rw [nI_ti (by omega), li_10]; omega) (by rw [nI_ti (by omega), li_10]; omega), nI_ti (by omega), li_10]
                have u2 : (10 * nI v + t j).toInt = 10 * v + (48 + dg (t j)) := by rw [ti_add (by rw [u1, d2]; omega) (by rw [u1, d2]; omega), u1, d2]
                have u3 : 10 * nI v + t j - 48 = nI (10 * v + dg (t j)) := by
                  have k48 : (48 : Int32).toInt = 48 := by decide
                  rw [ti_eq, ti_sub (by rw [u2, k48]; omega) (by rw [u2, k48]; omega), u2, k48, nI_ti (by omega)]; omega
                rw [gif_f (by rw [ti_lt, nI_ti (by omega), li_1000000]; omega), gd_t (inb_nI (by omega) (by omega)), ix_nI (by omega), tj, u3, nI_s (by omega)]
                exact ih2 (wI s4 51 0 L0.length (nI (10 * v + dg (t j))), nI (j + 1)) ⟨j + 1, 10 * v + dg (t j), rfl, by omega, by omega, by omega, rI_eq rfl, hVj, fun q i x hn => by rw [rI_ne (by omega)]; exact hk4 q i x hn⟩ muj
            · rw [gif_f (by rw [ti_lt, nI_ti (by omega), nI_ti (by omega)]; omega)]
              have ej : j = tend t N k := by omega
              rw [ej, Nat.sub_self] at hVj
              have ev : v = V := hVj
              refine on s4 (fun q i x hn => by rw [hk4 q i x (by omega)]; exact k3 q i x hn) ⟨by rw [hk4 _ _ _ (by omega)]; exact c3, fun q => ?_, fun q => ?_, by rw [hk4 _ _ _ (by omega)]; exact p3⟩
              · simp only [] at q ⊢
                rw [h51, ev]; congr 1; omega
              · simp only [] at q
                rw [h51, ev, nI_ti (by omega)]; omega
          · -- none
            rw [show FU = 19999 + 1 from rfl]
            show ok (m_splits_b169_G _ _ _ s3 (nI N) (t k) (nI (tend t N k)) (nI k)) _
            unfold m_splits_b169_G
            rw [mo_digit]
            simp only [Option.bind_some, gdB0, gdB1, gdbI, gifbI]
            rw [gif_f d]
            have s1 : 1001 < sgn t k (tend t N k) := by
              unfold sgn
              by_cases c1 : srt (t k) = 1
              · rw [if_pos c1]; have := (idx_r (segL t (tend t N k - k) k)).1; omega
              · rw [if_neg c1, if_neg d]; omega
            have := on s3 k3 ⟨c3, fun q => by simp only [] at q; omega, fun q => by simp only [] at q; omega, p3⟩
            exact ok_gif (fun _ => this) (fun _ => this)
        have k52 : ∀ (w : Int32) q i x, ¬ ((q = 52 ∨ q = 51 ∨ q = 50) ∧ x = L0.length) → rI (wI (wI (wI s2 52 0 L0.length (nI k)) 51 0 L0.length 0) 50 0 L0.length w) q i x = rI s2 q i x := fun w q i x hn => by rw [rI_ne (by omega), rI_ne (by omega), rI_ne (by omega)]
        have p52 : ∀ w : Int32, rI (wI (wI (wI s2 52 0 L0.length (nI k)) 51 0 L0.length 0) 50 0 L0.length w) 52 0 L0.length = nI k := fun w => by rw [rI_ne (by omega), rI_ne (by omega), rI_eq rfl]
        have v52 : ∀ w : Int32, rI (wI (wI (wI s2 52 0 L0.length (nI k)) 51 0 L0.length 0) 50 0 L0.length w) 51 0 L0.length = 0 := fun w => by rw [rI_ne (by omega), rI_eq rfl]
        by_cases c1 : srt (t k) = 1
        · rw [gif_t c1]
          have ht3 : ∀ i, i < tend t N k → rI (wI (wI s2 52 0 L0.length (nI k)) 51 0 L0.length 0) 48 0 i = t i := fun i hi => by rw [rI_ne (by omega), rI_ne (by omega)]; exact hT2.1 i (by omega)
          have hw3 : ∀ i, i < 138 → rI (wI (wI s2 52 0 L0.length (nI k)) 51 0 L0.length 0) 47 0 i = nth mwords i 0 := fun i hi => by rw [rI_ne (by omega), rI_ne (by omega)]; exact hT2.2 i hi
          rw [mo_word hw3 (by omega) (by omega) ht3]
          simp only [Option.bind_some]
          have : sgn t k (tend t N k) = idxW 3999 cws 3000 (segL t (tend t N k - k) k) := by unfold sgn; rw [if_pos c1]
          rw [← this]
          exact nxt _ 0 (k52 _) (p52 _) (v52 _) (rI_eq rfl)
        · rw [gif_f c1, mo_digit]
          simp only [Option.bind_some, gdB0, gdB1, gdbI, gifbI]
          by_cases c2 : srt (t k) = 2
          · rw [gif_t c2]
            have : mc (sgn t k (tend t N k)) = 50 := by
              rw [mc_n]
              unfold sgn; rw [if_neg c1, if_pos c2]
              exact ncp_le (by omega)
            exact nxt _ 0 (k52 _) (p52 _) (v52 _) (by rw [rI_eq rfl, this]; rfl)
          · rw [gif_f c2, an255]
            have bb := byt_lt (t k)
            have : 100 + nI (byt (t k)) = nI (mc (sgn t k (tend t N k))) := by
              have : mc (sgn t k (tend t N k)) = 100 + byt (t k) := by
                rw [mc_b (by omega)]
                unfold sgn; rw [if_neg c1, if_neg c2]; omega
              rw [this]
              rw [ti_eq, ti_add (by rw [nI_ti (by omega), li_100]; omega) (by rw [nI_ti (by omega), li_100]; omega), nI_ti (by omega), nI_ti (by omega), li_100]; omega
            rw [this]
            exact nxt _ 0 (k52 _) (p52 _) (v52 _) (rI_eq rfl)
      rw [mo_small]
      simp only [Option.bind_some, gdB0, gdB1, gdbI, gifbI]
      by_cases c1 : srt (t k) = 1
      · rw [gif_t c1]
        have et : tend t N k = rend t N 1 402 (k + 1) := by unfold tend; rw [if_neg (by omega), c1]
        rw [et] at fin
        generalize hE : rend t N 1 402 (k + 1) = E at fin
        refine ok_loop (K := fun n (y : Int32) => m_splits_b43 (m_splits_b7 fu) n s2 (nI N) (nI k) (t k) y) (I := fun y => ∃ n j, y = nI j ∧ j ≤ N ∧ 402 ≤ n + j ∧ rend t N 1 n j = E)
          (μ := fun y => 402 - y.toInt.toNat) ?_ FU (nI (k + 1)) ⟨402, k + 1, rfl, by omega, by omega, hE⟩ (by show _ < 20000; omega)
        rintro fu2 y ⟨n, j, hy, hj, hn, hE2⟩ ih2
        subst hy
        obtain ⟨n', rfl⟩ : ∃ n', n = n' + 1 := ⟨n - 1, by omega⟩
        rw [rend_s] at hE2
        show ok (m_splits_b43_G _ _ _ _ _ s2 (nI N) (nI k) (t k) (nI j)) _
        unfold m_splits_b43_G
        rw [mo_digit]
        simp only [Option.bind_some, gdB0, gdB1, gdbI, gifbI]
        by_cases cj : j < N
        · rw [gif_t (by rw [ti_lt, nI_ti (by omega), nI_ti (by omega)]; omega), gd_t (inb_nI (by omega) (by omega)), ix_nI (by omega), hT2.1 j cj, mo_small]
          simp only [Option.bind_some, gdB0, gdB1, gdbI, gifbI]
          by_cases ce : srt (t j) = 1
          · rw [if_pos ⟨cj, ce⟩] at hE2
            rw [gif_t ce, nI_s (by omega)]
            exact ih2 (nI (j + 1)) ⟨n', j + 1, rfl, by omega, by omega, hE2⟩ (by rw [nI_ti (by omega), nI_ti (by omega)]; omega)
          · rw [if_neg (fun x => ce x.2)] at hE2
            rw [gif_f ce, mo_digit]
            simp only [Option.bind_some, gdB0, gdB1, gdbI, gifbI]
            rw [gif_f (by omega), hE2]; exact fin
        · rw [if_neg (fun x => cj x.1)] at hE2
          rw [gif_f (by rw [ti_lt, nI_ti (by omega), nI_ti (by omega)]; omega), gif_f (by omega), hE2]; exact fin
      · rw [gif_f c1, mo_digit]
        simp only [Option.bind_some, gdB0, gdB1, gdbI, gifbI]
        by_cases c2 : srt (t k) = 2
        · rw [gif_t c2]
          have et : tend t N k = rend t N 2 402 (k + 1) := by unfold tend; rw [if_neg (by omega), c2]
          rw [et] at fin
          generalize hE : rend t N 2 402 (k + 1) = E at fin
          refine ok_loop (K := fun n (y : Int32) => m_splits_b75 (m_splits_b7 fu) n s2 (nI N) (nI k) (t k) y) (I := fun y => ∃ n j, y = nI j ∧ j ≤ N ∧ 402 ≤ n + j ∧ rend t N 2 n j = E)
            (μ := fun y => 402 - y.toInt.toNat) ?_ FU (nI (k + 1)) ⟨402, k + 1, rfl, by omega, by omega, hE⟩ (by show _ < 20000; omega)
          rintro fu2 y ⟨n, j, hy, hj, hn, hE2⟩ ih2
          subst hy
          obtain ⟨n', rfl⟩ : ∃ n', n = n' + 1 := ⟨n - 1, by omega⟩
          rw [rend_s] at hE2
          show ok (m_splits_b75_G _ _ _ s2 (nI N) (nI k) (t k) (nI j)) _
          unfold m_splits_b75_G
          by_cases cj : j < N
          · rw [gif_t (by rw [ti_lt, nI_ti (by omega), nI_ti (by omega)]; omega), gd_t (inb_nI (by omega) (by omega)), ix_nI (by omega), hT2.1 j cj, mo_digit]
            simp only [Option.bind_some, gdB0, gdB1, gdbI, gifbI]
            by_cases ce : srt (t j) = 2
            · rw [if_pos ⟨cj, ce⟩] at hE2
              rw [gif_t ce, nI_s (by omega)]
              exact ih2 (nI (j + 1)) ⟨n', j + 1, rfl, by omega, by omega, hE2⟩ (by rw [nI_ti (by omega), nI_ti (by omega)]; omega)
            · rw [if_neg (fun x => ce x.2)] at hE2
              rw [gif_f ce, hE2]; exact fin
          · rw [if_neg (fun x => cj x.1)] at hE2
            rw [gif_f (by rw [ti_lt, nI_ti (by omega), nI_ti (by omega)]; omega), hE2]; exact fin
        · rw [gif_f c2]
          have so2 : srt (t k) ≤ 2 := by unfold srt; (repeat' split) <;> omega
          have et : tend t N k = k + 1 := by unfold tend; rw [if_pos (by omega)]
          rw [et] at fin; exact fin
  · rw [if_neg c, List.append_nil] at hL0
    subst hL0
    rw [gif_f (by rw [ti_lt, nI_ti (by omega), nI_ti (by omega)]; omega)]
    have bT : inb (nI L.length) 401 := inb_nI (by omega) (by omega)
    have iT : ix (nI L.length) = L.length := ix_nI (by omega)
    have q1 : rI (wI s2 52 0 L.length (nI N)) 10 0 18 = nI L.length := by rw [rI_ne (by omega)]; exact h18
    have q2 : rI (wI (wI s2 52 0 L.length (nI N)) 50 0 L.length 0) 10 0 18 = nI L.length := by rw [rI_ne (by omega)]; exact q1
    rw [h18]
    simp only [gd_t bT, iT, q1, q2]
    refine ok_some ⟨fun i hi => ?_, by rw [rI_ne (by omega)]; exact q2⟩
    by_cases e : i < L.length
    · obtain ⟨x1, x2, x3, x4⟩ := hC i e
      rw [tkS_l e, tkP_l e]
      simp (disch := omega) only [rI_ne]
      exact ⟨x1, x2, x3, x4⟩
    · have ei : i = L.length := by omega
      subst ei
      rw [tkS_e (Nat.le_refl _), tkP_e (Nat.le_refl _)]
      exact ⟨by rw [rI_ne (by omega), rI_eq rfl]; rfl, fun q => by omega, fun q => by omega, by rw [rI_ne (by omega), rI_ne (by omega), rI_eq rfl]⟩
