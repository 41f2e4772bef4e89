/-! WORDS of both sides -/
def cws : List (List Int32) := [[99, 111, 115, 116, 115], [112, 97, 121, 115], [98, 97, 114, 115], [101, 110, 100], [115, 112, 108, 105, 116], [115, 119, 101, 108, 108], [112, 97, 115, 115], [116, 111], [116, 105, 109, 101, 115], [105, 102], [111, 114], [97, 110, 100], [110, 111, 116], [108, 105, 110, 101], [112, 105, 101, 99, 101, 115], [115, 104, 111, 114, 116], [104, 121, 112, 104, 101, 110], [108, 97, 115, 116], [107, 105, 110, 100], [109, 111, 111, 100], [112, 114, 111, 111, 102], [100, 111, 110, 101], [108, 97, 116, 101, 115, 116], [108, 105, 110, 101, 115], [102, 105, 116], [119, 105, 100, 101], [101, 110, 100, 115]]
def mws : List (List Int32) := [[99, 111, 115, 116, 115], [112, 97, 121, 115], [98, 97, 114, 115], [105, 102], [111, 114], [97, 110, 100], [110, 111, 116], [108, 105, 110, 101], [112, 105, 101, 99, 101, 115], [115, 104, 111, 114, 116], [104, 121, 112, 104, 101, 110], [108, 97, 115, 116], [107, 105, 110, 100], [109, 111, 111, 100], [112, 114, 111, 111, 102], [100, 111, 110, 101], [108, 97, 116, 101, 115, 116], [108, 105, 110, 101, 115], [102, 105, 116], [119, 105, 100, 101], [101, 110, 100, 115], [101, 110, 100], [115, 112, 108, 105, 116], [115, 119, 101, 108, 108], [116, 111], [112, 97, 115, 115], [116, 105, 109, 101, 115]]
def joinW : List (List Int32) → List Int32
  | [] => []
  | W :: r => W ++ 32 :: joinW r
theorem join_c : joinW cws = g_str := by decide +kernel
theorem join_m : joinW mws = mwords := by decide +kernel
def idxW (d : Nat) : List (List Int32) → Nat → List Int32 → Nat
  | [], _, _ => d
  | W :: r, w, S => if S = W then w else idxW d r (w + 1) S
theorem idx_s {d : Nat} {W : List Int32} {r : List (List Int32)} {w : Nat} {S : List Int32} : idxW d (W :: r) w S = if S = W then w else idxW d r (w + 1) S := rfl
theorem idx_mc (S : List Int32) : mc (idxW 3999 cws 3000 S) = idxW 0 mws 1 S := by
  by_cases h0 : S = [99, 111, 115, 116, 115]
  · subst h0; decide +kernel
  by_cases h1 : S = [112, 97, 121, 115]
  · subst h1; decide +kernel
  by_cases h2 : S = [98, 97, 114, 115]
  · subst h2; decide +kernel
  by_cases h3 : S = [101, 110, 100]
  · subst h3; decide +kernel
  by_cases h4 : S = [115, 112, 108, 105, 116]
  · subst h4; decide +kernel
  by_cases h5 : S = [115, 119, 101, 108, 108]
  · subst h5; decide +kernel
  by_cases h6 : S = [112, 97, 115, 115]
  · subst h6; decide +kernel
  by_cases h7 : S = [116, 111]
  · subst h7; decide +kernel
  by_cases h8 : S = [116, 105, 109, 101, 115]
  · subst h8; decide +kernel
  by_cases h9 : S = [105, 102]
  · subst h9; decide +kernel
  by_cases h10 : S = [111, 114]
  · subst h10; decide +kernel
  by_cases h11 : S = [97, 110, 100]
  · subst h11; decide +kernel
  by_cases h12 : S = [110, 111, 116]
  · subst h12; decide +kernel
  by_cases h13 : S = [108, 105, 110, 101]
  · subst h13; decide +kernel
  by_cases h14 : S = [112, 105, 101, 99, 101, 115]
  · subst h14; decide +kernel
  by_cases h15 : S = [115, 104, 111, 114, 116]
  · subst h15; decide +kernel
  by_cases h16 : S = [104, 121, 112, 104, 101, 110]
  · subst h16; decide +kernel
  by_cases h17 : S = [108, 97, 115, 116]
  · subst h17; decide +kernel
  by_cases h18 : S = [107, 105, 110, 100]
  · subst h18; decide +kernel
  by_cases h19 : S = [109, 111, 111, 100]
  · subst h19; decide +kernel
  by_cases h20 : S = [112, 114, 111, 111, 102]
  · subst h20; decide +kernel
  by_cases h21 : S = [100, 111, 110, 101]
  · subst h21; decide +kernel
  by_cases h22 : S = [108, 97, 116, 101, 115, 116]
  · subst h22; decide +kernel
  by_cases h23 : S = [108, 105, 110, 101, 115]
  · subst h23; decide +kernel
  by_cases h24 : S = [102, 105, 116]
  · subst h24; decide +kernel
  by_cases h25 : S = [119, 105, 100, 101]
  · subst h25; decide +kernel
  by_cases h26 : S = [101, 110, 100, 115]
  · subst h26; decide +kernel
  have e1 : idxW 3999 cws 3000 S = 3999 := by
    unfold cws
    rw [idx_s, if_neg h0, idx_s, if_neg h1, idx_s, if_neg h2, idx_s, if_neg h3, idx_s, if_neg h4, idx_s, if_neg h5, idx_s, if_neg h6, idx_s, if_neg h7, idx_s, if_neg h8, idx_s, if_neg h9, idx_s, if_neg h10, idx_s, if_neg h11, idx_s, if_neg h12, idx_s, if_neg h13, idx_s, if_neg h14, idx_s, if_neg h15, idx_s, if_neg h16, idx_s, if_neg h17, idx_s, if_neg h18, idx_s, if_neg h19, idx_s, if_neg h20, idx_s, if_neg h21, idx_s, if_neg h22, idx_s, if_neg h23, idx_s, if_neg h24, idx_s, if_neg h25, idx_s, if_neg h26]
    rfl
  have e2 : idxW 0 mws 1 S = 0 := by
    unfold mws
    rw [idx_s, if_neg h0, idx_s, if_neg h1, idx_s, if_neg h2, idx_s, if_neg h9, idx_s, if_neg h10, idx_s, if_neg h11, idx_s, if_neg h12, idx_s, if_neg h13, idx_s, if_neg h14, idx_s, if_neg h15, idx_s, if_neg h16, idx_s, if_neg h17, idx_s, if_neg h18, idx_s, if_neg h19, idx_s, if_neg h20, idx_s, if_neg h21, idx_s, if_neg h22, idx_s, if_neg h23, idx_s, if_neg h24, idx_s, if_neg h25, idx_s, if_neg h26, idx_s, if_neg h3, idx_s, if_neg h4, idx_s, if_neg h5, idx_s, if_neg h7, idx_s, if_neg h6, idx_s, if_neg h8]
    rfl
  rw [e1, e2]; rfl
theorem idx_r (S : List Int32) : 3000 ≤ idxW 3999 cws 3000 S ∧ idxW 3999 cws 3000 S ≤ 3999 := by
  have : ∀ (ws : List (List Int32)) (w : Nat), 3000 ≤ w → w + ws.length ≤ 3999 → 3000 ≤ idxW 3999 ws w S ∧ idxW 3999 ws w S ≤ 3999 := by
    intro ws
    induction ws with
    | nil => intro w h1 h2; show 3000 ≤ 3999 ∧ 3999 ≤ 3999; omega
    | cons W r ih =>
      intro w h1 h2
      simp only [List.length_cons] at h2
      rw [idx_s]
      by_cases c : S = W
      · rw [if_pos c]; omega
      · rw [if_neg c]; exact ih (w + 1) (by omega) (by omega)
  exact this cws 3000 (by omega) (by show 3000 + 27 ≤ 3999; omega)
def segL (t : Nat → Int32) : Nat → Nat → List Int32
  | 0 => fun _ => []
  | n + 1 => fun k => t k :: segL t n (k + 1)
theorem segL_s {t : Nat → Int32} {n k : Nat} : segL t (n + 1) k = t k :: segL t n (k + 1) := rfl
theorem segL_l {t : Nat → Int32} : ∀ {n k : Nat}, (segL t n k).length = n := by
  intro n
  induction n with
  | zero => intro k; rfl
  | succ n ih => intro k; rw [segL_s, List.length_cons, ih]
theorem nth_drop {α : Type} {d : α} : ∀ {L : List α} {i : Nat} {c : α} {r : List α}, L.drop i = c :: r → nth L i d = c ∧ L.drop (i + 1) = r ∧ i < L.length := by
  intro L
  induction L with
  | nil => intro i c r h; simp at h
  | cons x L ih =>
    intro i c r h
    cases i with
    | zero =>
      simp only [List.drop_zero, List.cons.injEq] at h
      exact ⟨h.1, by simp [h.2], by simp⟩
    | succ i =>
      simp only [List.drop_succ_cons] at h
      obtain ⟨h1, h2, h3⟩ := ih h
      exact ⟨h1, by simpa using h2, by simp only [List.length_cons]; omega⟩
theorem g_str_l : g_str.length = 138 := by decide +kernel
theorem mwords_l : mwords.length = 138 := by decide +kernel
theorem strat {i : Nat} {c : Int32} {r : List Int32} (h : g_str.drop i = c :: r) : i < 138 ∧ g_strat (nI i) = c ∧ g_str.drop (i + 1) = r := by
  obtain ⟨h1, h2, h3⟩ := nth_drop (d := (0 : Int32)) h
  rw [g_str_l] at h3
  refine ⟨h3, ?_, h2⟩
  unfold g_strat
  rw [ix_nI (by omega)]; exact h1
def no32 (W : List Int32) : Prop := ∀ c, c ∈ W → c ≠ 32
theorem xw_dead {s : Sg} {l1 l2 : Int32} {n : Nat} : ∀ {W : List Int32} {i : Nat} {l3 l4 : Int32} {rest : List Int32}, no32 W → g_str.drop i = W ++ 32 :: rest → x6_wordOf_b13 (n + W.length + 1) s l1 l2 l3 l4 0 (nI i) = x6_wordOf_b13 n s l1 l2 (l3 + 1) l1 1 (nI (i + W.length + 1)) := by
  intro W
  induction W with
  | nil =>
    intro i l3 l4 rest _ h
    obtain ⟨h1, h2, h3⟩ := strat (by simpa using h)
    show x6_wordOf_b13_G _ s l1 l2 l3 l4 0 (nI i) = _
    unfold x6_wordOf_b13_G
    rw [gif_t (by rw [ti_lt, nI_ti (by omega)]; show (i : Int) < (138 : Int32).toInt; rw [li_138]; omega), gd_t (inb_nI (by omega) (by show i < 138; omega)), h2, gif_t rfl, gif_t rfl, nI_s (by omega)]
    rfl
  | cons c W ih =>
    intro i l3 l4 rest hn h
    obtain ⟨h1, h2, h3⟩ := strat (by simpa using h)
    show x6_wordOf_b13_G (x6_wordOf_b13 (n + W.length + 1)) s l1 l2 l3 l4 0 (nI i) = _
    unfold x6_wordOf_b13_G
    rw [gif_t (by rw [ti_lt, nI_ti (by omega)]; show (i : Int) < (138 : Int32).toInt; rw [li_138]; omega), gd_t (inb_nI (by omega) (by show i < 138; omega)), h2, gif_f (hn c (by simp)), gif_t rfl, nI_s (by omega), ih (fun x hx => hn x (by simp [hx])) h3, show i + 1 + W.length + 1 = i + (c :: W).length + 1 by simp only [List.length_cons]; omega]
theorem xw_live {s : Sg} {t : Nat → Int32} {k e : Nat} (he : e ≤ 400) (ht : ∀ i, i < e → rI s 39 0 i = t i) {n : Nat} : ∀ {W : List Int32} {i j : Nat} {l3 : Int32} {rest : List Int32}, no32 W → g_str.drop i = W ++ 32 :: rest → j ≤ e → x6_wordOf_b13 (n + W.length + 1) s (nI k) (nI e) l3 (nI j) 1 (nI i) = if segL t (e - j) j = W then some (s, l3) else x6_wordOf_b13 n s (nI k) (nI e) (l3 + 1) (nI k) 1 (nI (i + W.length + 1)) := by
  intro W
  induction W with
  | nil =>
    intro i j l3 rest _ h hj
    obtain ⟨h1, h2, h3⟩ := strat (by simpa using h)
    show x6_wordOf_b13_G _ s (nI k) (nI e) l3 (nI j) 1 (nI i) = _
    unfold x6_wordOf_b13_G
    rw [gif_t (by rw [ti_lt, nI_ti (by omega)]; show (i : Int) < (138 : Int32).toInt; rw [li_138]; omega), gd_t (inb_nI (by omega) (by show i < 138; omega)), h2, gif_t rfl, gif_f (by decide)]
    by_cases c : j = e
    · subst c
      rw [gif_t rfl, Nat.sub_self, if_pos (show segL t 0 j = [] from rfl)]
    · rw [gif_f (fun x => c ((nIq (by omega) (by omega)).mp x)), if_neg (fun x => by have := congrArg List.length x; rw [segL_l] at this; simp at this; omega), nI_s (by omega)]
      rfl
  | cons c W ih =>
    intro i j l3 rest hn h hj
    obtain ⟨h1, h2, h3⟩ := strat (by simpa using h)
    have hn' : no32 W := fun x hx => hn x (by simp [hx])
    have el : i + 1 + W.length + 1 = i + (c :: W).length + 1 := by simp only [List.length_cons]; omega
    show x6_wordOf_b13_G (x6_wordOf_b13 (n + W.length + 1)) s (nI k) (nI e) l3 (nI j) 1 (nI i) = _
    unfold x6_wordOf_b13_G
    rw [gif_t (by rw [ti_lt, nI_ti (by omega)]; show (i : Int) < (138 : Int32).toInt; rw [li_138]; omega), gd_t (inb_nI (by omega) (by show i < 138; omega)), h2, gif_f (hn c (by simp)), gif_f (by decide), nI_s (show i < 1000000 by omega), nI_s (show j < 1000000 by omega)]
    by_cases ce : j < e
    · rw [gif_t (by rw [ti_lt, nI_ti (by omega), nI_ti (by omega)]; omega), gif_t (by rw [ti_lt, nI_ti (by omega), ti_ofNat (by omega)]; omega), gd_t (inb_nI (by omega) (by omega)), ix_nI (by omega), ht j ce, show e - j = (e - (j + 1)) + 1 by omega, segL_s]
      by_cases cc : t j = c
      · rw [gif_t cc, ih hn' h3 (by omega), el]
        by_cases q : segL t (e - (j + 1)) (j + 1) = W
        · rw [if_pos q, if_pos (by rw [cc, q])]
        · rw [if_neg q, if_neg (fun x => q (by simp only [List.cons.injEq] at x; exact x.2))]
      · rw [gif_f cc, xw_dead hn' h3, el, if_neg (fun x => cc (by simp only [List.cons.injEq] at x; exact x.1))]
    · rw [gif_f (by rw [ti_lt, nI_ti (by omega), nI_ti (by omega)]; omega), xw_dead hn' h3, el, show e - j = 0 by omega, if_neg (fun x => by simp [segL] at x)]
theorem xw_all {s : Sg} {t : Nat → Int32} {k e : Nat} (he : e ≤ 400) (hk : k ≤ e) (ht : ∀ i, i < e → rI s 39 0 i = t i) : ∀ (ws : List (List Int32)) (n i w : Nat), (∀ W, W ∈ ws → no32 W) → g_str.drop i = joinW ws → i + (joinW ws).length = 138 → (joinW ws).length < n → w + ws.length < 100000 → x6_wordOf_b13 n s (nI k) (nI e) (nI w) (nI k) 1 (nI i) = some (s, nI (idxW 3999 ws w (segL t (e - k) k))) := by
  intro ws
  induction ws with
  | nil =>
    intro n i w _ h hi hn hw
    obtain ⟨n', rfl⟩ : ∃ n', n = n' + 1 := ⟨n - 1, by omega⟩
    show x6_wordOf_b13_G _ s (nI k) (nI e) (nI w) (nI k) 1 (nI i) = _
    unfold x6_wordOf_b13_G
    have : i = 138 := by simpa [joinW] using hi
    rw [gif_f (by rw [ti_lt, nI_ti (by omega)]; show ¬ (i : Int) < (138 : Int32).toInt; rw [li_138]; omega)]
    rfl
  | cons W r ih =>
    intro n i w hno h hi hn hw
    have lj : (joinW (W :: r)).length = W.length + (1 + (joinW r).length) := by
      show (W ++ 32 :: joinW r).length = _
      rw [List.length_append, List.length_cons]; omega
    rw [lj] at hi hn
    simp only [List.length_cons] at hw
    obtain ⟨m, rfl⟩ : ∃ m, n = m + W.length + 1 := ⟨n - (W.length + 1), by omega⟩
    have h' : g_str.drop i = W ++ 32 :: joinW r := h
    rw [xw_live he ht (hno W (by simp)) h' hk, idx_s]
    by_cases c : segL t (e - k) k = W
    · rw [if_pos c, if_pos c]
    · rw [if_neg c, if_neg c, nI_s (by omega)]
      refine ih m (i + W.length + 1) (w + 1) (fun X hX => hno X (by simp [hX])) ?_ (by omega) (by omega) (by omega)
      have d : g_str.drop (i + W.length) = 32 :: joinW r := by
        rw [← List.drop_drop, h', List.drop_left]
      exact (nth_drop (d := (0 : Int32)) d).2.1
theorem cws_no : ∀ W, W ∈ cws → no32 W := by
  have : ∀ W, W ∈ cws → ∀ c, c ∈ W → c ≠ 32 := by decide +kernel
  exact this
theorem x_word {s : Sg} {t : Nat → Int32} {k e : Nat} (he : e ≤ 400) (hk : k ≤ e) (ht : ∀ i, i < e → rI s 39 0 i = t i) : x6_wordOf s (nI k) (nI e) = some (s, nI (idxW 3999 cws 3000 (segL t (e - k) k))) := by
  unfold x6_wordOf x6_wordOf_G
  have l138 : (joinW cws).length = 138 := by rw [join_c]; exact g_str_l
  exact xw_all he hk ht cws FU 0 3000 cws_no (by rw [join_c]; rfl) (by rw [l138]) (by rw [l138]; show 138 < 20000; omega) (by show 3000 + 27 < 100000; omega)
/-! the model's -/
theorem mstr {s : Sg} (hm : ∀ i, i < 138 → rI s 47 0 i = nth mwords i 0) {i : Nat} {c : Int32} {r : List Int32} (h : mwords.drop i = c :: r) : i < 138 ∧ rI s 47 0 i = c ∧ mwords.drop (i + 1) = r := by
  obtain ⟨h1, h2, h3⟩ := nth_drop (d := (0 : Int32)) h
  rw [mwords_l] at h3
  exact ⟨h3, by rw [hm i h3]; exact h1, h2⟩
theorem nI_ad {a b : Nat} (h : a + b < 1000000) : nI a + nI b = nI (a + b) := by
  rw [ti_eq, ti_add (by rw [nI_ti (by omega), nI_ti (by omega)]; omega) (by rw [nI_ti (by omega), nI_ti (by omega)]; omega), nI_ti (by omega), nI_ti (by omega), nI_ti (by omega)]; omega
theorem mw_len {s : Sg} (hm : ∀ i, i < 138 → rI s 47 0 i = nth mwords i 0) {K5 : Sg → Int32 → Int32 → Int32 → Int32 → Option (Sg × Int32)} {l1 l2 l3 : Int32} {k0 n : Nat} : ∀ {W : List Int32} {j : Nat} {rest : List Int32}, no32 W → mwords.drop (k0 + j) = W ++ 32 :: rest → m_wordOf_b18 K5 (n + W.length + 1) s l1 l2 l3 (nI k0) (nI j) = gif (nI (j + W.length) = l2 - l1) (m_wordOf_b57 K5 FU s l1 l2 l3 (nI k0) (nI (j + W.length)) 1 0) (m_wordOf_b57 K5 FU s l1 l2 l3 (nI k0) (nI (j + W.length)) 0 0) := by
  intro W
  induction W with
  | nil =>
    intro j rest _ h
    obtain ⟨h1, h2, h3⟩ := mstr hm (by simpa using h)
    show m_wordOf_b18_G _ _ s l1 l2 l3 (nI k0) (nI j) = _
    unfold m_wordOf_b18_G
    rw [nI_ad (by omega), gd_t (inb_nI (by omega) (by omega)), ix_nI (by omega), h2, gif_t rfl]
    rfl
  | cons c W ih =>
    intro j rest hn h
    obtain ⟨h1, h2, h3⟩ := mstr hm (by simpa using h)
    show m_wordOf_b18_G (m_wordOf_b18 K5 (n + W.length + 1)) _ s l1 l2 l3 (nI k0) (nI j) = _
    unfold m_wordOf_b18_G
    rw [nI_ad (by omega), gd_t (inb_nI (by omega) (by omega)), ix_nI (by omega), h2, gif_f (hn c (by simp)), nI_s (by omega), ih (fun x hx => hn x (by simp [hx])) h3, show j + 1 + W.length = j + (c :: W).length by simp only [List.length_cons]; omega]
theorem mw_no {K5 : Sg → Int32 → Int32 → Int32 → Int32 → Option (Sg × Int32)} {n : Nat} {s : Sg} {l1 l2 l3 l4 l5 l7 : Int32} : m_wordOf_b57 K5 (n + 1) s l1 l2 l3 l4 l5 0 l7 = K5 s l1 l2 (l3 + 1) (l4 + (l5 + 1)) := by
  show m_wordOf_b57_G _ _ s l1 l2 l3 l4 l5 0 l7 = _
  unfold m_wordOf_b57_G
  exact gif_eq (fun _ => by rw [gif_t rfl, gif_t rfl]) (fun _ => by rw [gif_t rfl])
theorem mw_cmp {s : Sg} (hm : ∀ i, i < 138 → rI s 47 0 i = nth mwords i 0) {t : Nat → Int32} {k e : Nat} (he : e ≤ 400) (ht : ∀ i, i < e → rI s 48 0 i = t i) {K5 : Sg → Int32 → Int32 → Int32 → Int32 → Option (Sg × Int32)} {l2 l3 : Int32} {k0 len : Nat} (hl : k + len = e) (h0 : k0 + len < 138) : ∀ {W : List Int32} {i n : Nat} {rest : List Int32}, mwords.drop (k0 + i) = W ++ 32 :: rest → i + W.length = len → W.length + 1 < n → m_wordOf_b57 K5 n s (nI k) l2 l3 (nI k0) (nI len) 1 (nI i) = if segL t (e - (k + i)) (k + i) = W then some (s, l3) else K5 s (nI k) l2 (l3 + 1) (nI k0 + (nI len + 1)) := by
  intro W
  induction W with
  | nil =>
    intro i n rest h hi hn
    obtain ⟨n', rfl⟩ : ∃ n', n = n' + 1 := ⟨n - 1, by omega⟩
    have : i = len := by simpa using hi
    subst this
    show m_wordOf_b57_G _ _ s (nI k) l2 l3 (nI k0) (nI i) 1 (nI i) = _
    unfold m_wordOf_b57_G
    rw [gif_f (by rw [ti_lt]; omega), gif_f (by decide), show e - (k + i) = 0 by omega, if_pos (show segL t 0 (k + i) = [] from rfl)]
  | cons c W ih =>
    intro i n rest h hi hn
    obtain ⟨n', rfl⟩ : ∃ n', n = n' + 1 := ⟨n - 1, by omega⟩
    simp only [List.length_cons] at hi hn
    obtain ⟨h1, h2, h3⟩ := mstr hm (by simpa using h)
    show m_wordOf_b57_G _ _ s (nI k) l2 l3 (nI k0) (nI len) 1 (nI i) = _
    unfold m_wordOf_b57_G
    rw [gif_t (by rw [ti_lt, nI_ti (by omega), nI_ti (by omega)]; omega), gif_f (by decide), nI_ad (by omega), nI_ad (by omega), gd_t (inb_nI (by omega) (by omega)), gd_t (inb_nI (by omega) (by omega)), ix_nI (by omega), ix_nI (by omega), h2, ht (k + i) (by omega), nI_s (by omega), show e - (k + i) = (e - (k + (i + 1))) + 1 by omega, segL_s]
    by_cases cc : c = t (k + i)
    · rw [gif_t cc, ih h3 (by omega) (by omega)]
      by_cases q : segL t (e - (k + (i + 1))) (k + (i + 1)) = W
      · rw [if_pos q, if_pos (by rw [show k + i + 1 = k + (i + 1) by omega, q, cc])]
      · rw [if_neg q, if_neg (fun x => q (by simp only [List.cons.injEq] at x; exact x.2))]
    · rw [gif_f cc, if_neg (fun x => cc (by simp only [List.cons.injEq] at x; exact x.1.symm))]
      obtain ⟨n2, rfl⟩ : ∃ n2, n' = n2 + 1 := ⟨n' - 1, by omega⟩
      exact mw_no
theorem mw_all {s : Sg} (hm : ∀ i, i < 138 → rI s 47 0 i = nth mwords i 0) {t : Nat → Int32} {k e : Nat} (he : e ≤ 400) (hk : k ≤ e) (ht : ∀ i, i < e → rI s 48 0 i = t i) : ∀ (ws : List (List Int32)) (n i w : Nat), (∀ W, W ∈ ws → no32 W) → mwords.drop i = joinW ws → i + (joinW ws).length = 138 → ws.length < n → w + ws.length < 100000 → m_wordOf_b5 n s (nI k) (nI e) (nI w) (nI i) = some (s, nI (idxW 0 ws w (segL t (e - k) k))) := by
  intro ws
  induction ws with
  | nil =>
    intro n i w _ h hi hn hw
    obtain ⟨n', rfl⟩ : ∃ n', n = n' + 1 := ⟨n - 1, by omega⟩
    show m_wordOf_b5_G _ s (nI k) (nI e) (nI w) (nI i) = _
    unfold m_wordOf_b5_G
    have : i = 138 := by simpa [joinW] using hi
    rw [gif_f (by rw [ti_lt, nI_ti (by omega), ti_ofNat (by omega)]; omega)]
    rfl
  | cons W r ih =>
    intro n i w hno h hi hn hw
    have lj : (joinW (W :: r)).length = W.length + (1 + (joinW r).length) := by
      show (W ++ 32 :: joinW r).length = _
      rw [List.length_append, List.length_cons]; omega
    rw [lj] at hi
    simp only [List.length_cons] at hw hn
    obtain ⟨m, rfl⟩ : ∃ m, n = m + 1 := ⟨n - 1, by omega⟩
    have h' : mwords.drop i = W ++ 32 :: joinW r := h
    have d : mwords.drop (i + W.length) = 32 :: joinW r := by
      rw [← List.drop_drop, h', List.drop_left]
    show m_wordOf_b5_G _ s (nI k) (nI e) (nI w) (nI i) = _
    unfold m_wordOf_b5_G
    obtain ⟨f, hf⟩ : ∃ f, FU = f + W.length + 1 := ⟨20000 - (W.length + 1), by show 20000 = _; omega⟩
    have sb : nI e - nI k = nI (e - k) := by
      rw [ti_eq, ti_sub (by rw [nI_ti (by omega), nI_ti (by omega)]; omega) (by rw [nI_ti (by omega), nI_ti (by omega)]; omega), nI_ti (by omega), nI_ti (by omega), nI_ti (by omega)]; omega
    have go : m_wordOf_b5 m s (nI k) (nI e) (nI w + 1) (nI i + (nI W.length + 1)) = some (s, nI (idxW 0 r (w + 1) (segL t (e - k) k))) := by
      rw [nI_s (by omega), nI_s (by omega), nI_ad (by omega)]
      exact ih m (i + (W.length + 1)) (w + 1) (fun X hX => hno X (by simp [hX])) (by rw [← Nat.add_assoc]; exact (nth_drop (d := (0 : Int32)) d).2.1) (by omega) (by omega) (by omega)
    rw [gif_t (by rw [ti_lt, nI_ti (by omega), ti_ofNat (by omega)]; omega), hf, show (0 : Int32) = nI 0 from rfl, mw_len hm (j := 0) (hno W (by simp)) h', Nat.zero_add, sb, idx_s]
    by_cases c : W.length = e - k
    · rw [gif_t (by rw [c]), show (0 : Int32) = nI 0 from rfl, mw_cmp hm he ht (len := W.length) (by omega) (by omega) (W := W) (i := 0) (rest := joinW r) h' (by omega) (by show _ < 20000; omega), Nat.add_zero]
      by_cases q : segL t (e - k) k = W
      · rw [if_pos q, if_pos q]
      · rw [if_neg q, if_neg q]; exact go
    · rw [gif_f (fun x => c ((nIq (by omega) (by omega)).mp x)), if_neg (fun x => c (by have := congrArg List.length x; rw [segL_l] at this; omega)), show FU = 19999 + 1 from rfl, mw_no]
      exact go
theorem mws_no : ∀ W, W ∈ mws → no32 W := by
  have : ∀ W, W ∈ mws → ∀ c, c ∈ W → c ≠ 32 := by decide +kernel
  exact this
theorem mo_word {s : Sg} (hm : ∀ i, i < 138 → rI s 47 0 i = nth mwords i 0) {t : Nat → Int32} {k e : Nat} (he : e ≤ 400) (hk : k ≤ e) (ht : ∀ i, i < e → rI s 48 0 i = t i) : m_wordOf s (nI k) (nI e) = some (s, nI (mc (idxW 3999 cws 3000 (segL t (e - k) k)))) := by
  unfold m_wordOf m_wordOf_G
  have l138 : (joinW mws).length = 138 := by rw [join_m]; exact mwords_l
  rw [idx_mc]
  exact mw_all hm he hk ht mws FU 0 1 mws_no (by rw [join_m]; rfl) (by rw [l138]) (by show 27 < 20000; omega) (by show 1 + 27 < 100000; omega)
