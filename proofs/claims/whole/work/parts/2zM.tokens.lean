/-! TOKENS -/
def srt (b : Int32) : Nat := if 97 ≤ b.toInt ∧ b.toInt ≤ 122 then 1 else if 48 ≤ b.toInt ∧ b.toInt ≤ 57 then 2 else 0
def rend (t : Nat → Int32) (N so : Nat) : Nat → Nat → Nat
  | 0 => fun k => k
  | n + 1 => fun k => if k < N ∧ srt (t k) = so then rend t N so n (k + 1) else k
theorem rend_s {t : Nat → Int32} {N so n k : Nat} : rend t N so (n + 1) k = if k < N ∧ srt (t k) = so then rend t N so n (k + 1) else k := rfl
theorem rend_r {t : Nat → Int32} {N so : Nat} : ∀ {n k : Nat}, k ≤ N → k ≤ rend t N so n k ∧ rend t N so n k ≤ N ∧ ∀ i, k ≤ i → i < rend t N so n k → srt (t i) = so := by
  intro n
  induction n with
  | zero => intro k h; exact ⟨Nat.le_refl _, h, fun i h1 h2 => by have : i < k := h2; omega⟩
  | succ n ih =>
    intro k h
    rw [rend_s]
    by_cases c : k < N ∧ srt (t k) = so
    · rw [if_pos c]
      obtain ⟨i1, i2, i3⟩ := ih (k := k + 1) (by omega)
      refine ⟨by omega, i2, fun i h1 h2 => ?_⟩
      by_cases e : i = k
      · rw [e]; exact c.2
      · exact i3 i (by omega) h2
    · rw [if_neg c]; exact ⟨Nat.le_refl _, h, fun i h1 h2 => by omega⟩
def tend (t : Nat → Int32) (N k : Nat) : Nat := if srt (t k) = 0 then k + 1 else rend t N (srt (t k)) 402 (k + 1)
theorem tend_r {t : Nat → Int32} {N k : Nat} (h : k < N) : k + 1 ≤ tend t N k ∧ tend t N k ≤ N ∧ (srt (t k) ≠ 0 → ∀ i, k ≤ i → i < tend t N k → srt (t i) = srt (t k)) := by
  unfold tend
  by_cases c : srt (t k) = 0
  · rw [if_pos c]; exact ⟨Nat.le_refl _, by omega, fun x => absurd c x⟩
  · rw [if_neg c]
    obtain ⟨i1, i2, i3⟩ := rend_r (t := t) (so := srt (t k)) (n := 402) (show k + 1 ≤ N by omega)
    refine ⟨i1, i2, fun _ i h1 h2 => ?_⟩
    by_cases e : i = k
    · rw [e]
    · exact i3 i (by omega) h2
def dg (b : Int32) : Nat := (b.toInt - 48).toNat
def ncp (t : Nat → Int32) : Nat → Nat → Nat → Nat
  | 0 => fun _ v => v
  | n + 1 => fun k v => ncp t n (k + 1) (min (10 * v + dg (t k)) 1001)
def nmp (t : Nat → Int32) : Nat → Nat → Nat → Nat
  | 0 => fun _ v => v
  | n + 1 => fun k v => nmp t n (k + 1) (if 1000000 < v then v else 10 * v + dg (t k))
theorem ncp_s {t : Nat → Int32} {n k v : Nat} : ncp t (n + 1) k v = ncp t n (k + 1) (min (10 * v + dg (t k)) 1001) := rfl
theorem nmp_s {t : Nat → Int32} {n k v : Nat} : nmp t (n + 1) k v = nmp t n (k + 1) (if 1000000 < v then v else 10 * v + dg (t k)) := rfl
theorem nc_nm {t : Nat → Int32} : ∀ {n k v : Nat}, ncp t n k (min v 1001) = min (nmp t n k v) 1001 := by
  intro n
  induction n with
  | zero => intro k v; rfl
  | succ n ih =>
    intro k v
    rw [ncp_s, nmp_s, ← ih]
    congr 1
    by_cases c : 1000000 < v
    · rw [if_pos c]; omega
    · rw [if_neg c]; omega
theorem nmp_le {t : Nat → Int32} : ∀ {n k v : Nat}, (∀ i, k ≤ i → i < k + n → dg (t i) ≤ 9) → v ≤ 10000009 → nmp t n k v ≤ 10000009 := by
  intro n
  induction n with
  | zero => intro k v _ h; exact h
  | succ n ih =>
    intro k v hd h
    rw [nmp_s]
    refine ih (fun i h1 h2 => hd i (by omega) (by omega)) ?_
    have := hd k (by omega) (by omega)
    by_cases c : 1000000 < v
    · rw [if_pos c]; exact h
    · rw [if_neg c]; omega
theorem ncp_le {t : Nat → Int32} : ∀ {n k v : Nat}, v ≤ 1001 → ncp t n k v ≤ 1001 := by
  intro n
  induction n with
  | zero => intro k v h; exact h
  | succ n ih => intro k v _; rw [ncp_s]; exact ih (by omega)
def byt (b : Int32) : Nat := b.toBitVec.toNat % 256
theorem an255 (b : Int32) : b &&& 255 = nI (byt b) := by
  apply b_ext
  intro i hi
  rw [b_and, b_255, bt_nI _ hi]
  unfold byt bt
  rw [show 256 = 2 ^ 8 from rfl, Nat.testBit_mod_two_pow, BitVec.testBit_toNat, Bool.and_comm]
theorem byt_lt (b : Int32) : byt b < 256 := Nat.mod_lt _ (by omega)
def sgn (t : Nat → Int32) (k e : Nat) : Nat := if srt (t k) = 1 then idxW 3999 cws 3000 (segL t (e - k) k) else if srt (t k) = 2 then ncp t (e - k) k 0 else 2000 + byt (t k)
theorem sgn_le (t : Nat → Int32) (k e : Nat) : sgn t k e ≤ 3999 := by
  unfold sgn
  by_cases c : srt (t k) = 1
  · rw [if_pos c]; exact (idx_r _).2
  · rw [if_neg c]
    by_cases d : srt (t k) = 2
    · rw [if_pos d]; have := ncp_le (t := t) (n := e - k) (k := k) (v := 0) (by omega); omega
    · rw [if_neg d]; have := byt_lt (t k); omega
def toks (t : Nat → Int32) (N : Nat) : Nat → Nat → List (Nat × Nat)
  | 0 => fun _ => []
  | n + 1 => fun k => if k < N then (if t k = 32 then toks t N n (k + 1) else (sgn t k (tend t N k), k) :: toks t N n (tend t N k)) else []
theorem toks_s {t : Nat → Int32} {N n k : Nat} : toks t N (n + 1) k = if k < N then (if t k = 32 then toks t N n (k + 1) else (sgn t k (tend t N k), k) :: toks t N n (tend t N k)) else [] := rfl
theorem toks_r {t : Nat → Int32} {N : Nat} : ∀ {n k : Nat}, k ≤ N → (toks t N n k).length + k ≤ N ∧ ∀ x, x ∈ toks t N n k → x.1 ≤ 3999 ∧ x.2 < N := by
  intro n
  induction n with
  | zero => intro k h; exact ⟨by show 0 + k ≤ N; omega, fun x hx => absurd hx (by simp [toks])⟩
  | succ n ih =>
    intro k h
    rw [toks_s]
    by_cases c : k < N
    · rw [if_pos c]
      by_cases d : t k = 32
      · rw [if_pos d]; obtain ⟨i1, i2⟩ := ih (k := k + 1) (by omega); exact ⟨by omega, i2⟩
      · rw [if_neg d]
        obtain ⟨e1, e2, -⟩ := tend_r (t := t) c
        obtain ⟨i1, i2⟩ := ih (k := tend t N k) e2
        refine ⟨by rw [List.length_cons]; omega, fun x hx => ?_⟩
        rcases List.mem_cons.mp hx with e | e
        · subst e; exact ⟨sgn_le t k _, c⟩
        · exact i2 x e
    · rw [if_neg c]; exact ⟨by show 0 + k ≤ N; omega, fun x hx => absurd hx (by simp)⟩
def tkS (L : List (Nat × Nat)) (k : Nat) : Nat := match L[k]? with | some x => x.1 | none => 4000
def tkP (L : List (Nat × Nat)) (N k : Nat) : Nat := match L[k]? with | some x => x.2 | none => N
theorem tkS_l {L : List (Nat × Nat)} {k : Nat} (h : k < L.length) : tkS L k = L[k].1 := by unfold tkS; rw [List.getElem?_eq_getElem h]
theorem tkP_l {L : List (Nat × Nat)} {N k : Nat} (h : k < L.length) : tkP L N k = L[k].2 := by unfold tkP; rw [List.getElem?_eq_getElem h]
theorem tkS_e {L : List (Nat × Nat)} {k : Nat} (h : L.length ≤ k) : tkS L k = 4000 := by unfold tkS; rw [List.getElem?_eq_none h]
theorem tkP_e {L : List (Nat × Nat)} {N k : Nat} (h : L.length ≤ k) : tkP L N k = N := by unfold tkP; rw [List.getElem?_eq_none h]
theorem TK_of {t : Nat → Int32} {N : Nat} (hN : N ≤ 400) : TK (tkS (toks t N 402 0)) (tkP (toks t N 402 0) N) (toks t N 402 0).length ∧ ∀ k, k < (toks t N 402 0).length → tkS (toks t N 402 0) k ≠ 4000 := by
  obtain ⟨h1, h2⟩ := toks_r (t := t) (N := N) (n := 402) (k := 0) (by omega)
  generalize toks t N 402 0 = L at h1 h2 ⊢
  refine ⟨⟨by omega, tkS_e (Nat.le_refl _), fun k => ?_, fun k => ?_⟩, fun k hk => ?_⟩
  · rcases Nat.lt_or_ge k L.length with c | c
    · rw [tkS_l c]; have := (h2 _ (List.getElem_mem c)).1; omega
    · rw [tkS_e c]; omega
  · rcases Nat.lt_or_ge k L.length with c | c
    · rw [tkP_l c]; have := (h2 _ (List.getElem_mem c)).2; omega
    · rw [tkP_e c]; exact hN
  · rw [tkS_l hk]; have := (h2 _ (List.getElem_mem hk)).1; omega
/-! the class cuts -/
theorem x_sort (s : Sg) (b : Int32) : x6_sortOf s b = some (s, nI (srt b)) := by
  have k57 : (57 : Int32).toInt = 57 := by decide
  have k122 : (122 : Int32).toInt = 122 := by decide
  have k97 : (97 : Int32).toInt = 97 := by decide
  have k48 : (48 : Int32).toInt = 48 := by decide
  unfold x6_sortOf x6_sortOf_G srt
  by_cases a : 97 ≤ b.toInt ∧ b.toInt ≤ 122
  · rw [if_pos a, gif_f (by rw [ti_lt, k97]; omega), gif_f (by rw [ti_lt, k122]; omega)]; rfl
  · rw [if_neg a]
    have rest : (gif (b < 48) (some (s, (0 : Int32))) (gif (57 < b) (some (s, 0)) (some (s, 2)))) = some (s, nI (if 48 ≤ b.toInt ∧ b.toInt ≤ 57 then 2 else 0)) := by
      by_cases d : 48 ≤ b.toInt ∧ b.toInt ≤ 57
      · rw [if_pos d, gif_f (by rw [ti_lt, k48]; omega), gif_f (by rw [ti_lt, k57]; omega)]; rfl
      · rw [if_neg d]
        refine gif_eq (fun _ => rfl) (fun e => ?_)
        rw [ti_lt, k48] at e
        rw [gif_t (by rw [ti_lt, k57]; omega)]; rfl
    refine gif_eq (fun _ => rest) (fun e => ?_)
    rw [ti_lt, k97] at e
    rw [gif_t (by rw [ti_lt, k122]; omega)]; exact rest
theorem dg_le {b : Int32} (h : srt b = 2) : dg b ≤ 9 ∧ b.toInt = 48 + (dg b : Int) := by
  unfold srt at h
  by_cases a : 97 ≤ b.toInt ∧ b.toInt ≤ 122
  · rw [if_pos a] at h; omega
  · rw [if_neg a] at h
    by_cases d : 48 ≤ b.toInt ∧ b.toInt ≤ 57
    · unfold dg; omega
    · rw [if_neg d] at h; omega
theorem x_num {s : Sg} {t : Nat → Int32} {e : Nat} (he : e ≤ 400) (ht : ∀ i, i < e → rI s 39 0 i = t i) : ∀ (c i v n : Nat), i + c = e → c < n → v ≤ 1001 → (∀ j, i ≤ j → j < e → srt (t j) = 2) → x6_numberOf_b5 n s (nI e) (nI v) (nI i) = some (s, nI (ncp t c i v)) := by
  intro c
  induction c with
  | zero =>
    intro i v n hi hn hv hd
    obtain ⟨n', rfl⟩ : ∃ n', n = n' + 1 := ⟨n - 1, by omega⟩
    show x6_numberOf_b5_G _ s (nI e) (nI v) (nI i) = _
    unfold x6_numberOf_b5_G
    rw [gif_f (by rw [ti_lt, nI_ti (by omega), nI_ti (by omega)]; omega)]
    rfl
  | succ c ih =>
    intro i v n hi hn hv hd
    obtain ⟨n', rfl⟩ : ∃ n', n = n' + 1 := ⟨n - 1, by omega⟩
    show x6_numberOf_b5_G _ s (nI e) (nI v) (nI i) = _
    unfold x6_numberOf_b5_G
    obtain ⟨d1, d2⟩ := dg_le (hd i (by omega) (by omega))
    have v1 : (nI v * 10).toInt = 10 * v := by rw [ti_mul (by rw [nI_ti (by omega), li_10]; omega) (by rw [nI_ti (by omega), li_10]; omega), nI_ti (by omega), li_10]; omega
    have v2 : (nI v * 10 + t i).toInt = 10 * v + (48 + dg (t i)) := by rw [ti_add (by rw [v1, d2]; omega) (by rw [v1, d2]; omega), v1, d2]
    have v3 : (nI v * 10 + t i - 48).toInt = 10 * v + dg (t i) := by
      have k48 : (48 : Int32).toInt = 48 := by decide
      rw [ti_sub (by rw [v2, k48]; omega) (by rw [v2, k48]; omega), v2, k48]; omega
    have mn : g_min (nI v * 10 + t i - 48) 1001 = nI (min (10 * v + dg (t i)) 1001) := by
      unfold g_min
      by_cases x : (1001 : Int32) < nI v * 10 + t i - 48
      · rw [if_pos x]
        rw [ti_lt, v3, li_1001] at x
        rw [show min (10 * v + dg (t i)) 1001 = 1001 by omega]; rfl
      · rw [if_neg x]
        rw [ti_lt, v3, li_1001] at x
        rw [ti_eq, v3, nI_ti (by omega)]; omega
    rw [gif_t (by rw [ti_lt, nI_ti (by omega), nI_ti (by omega)]; omega), gif_t (by rw [ti_lt, nI_ti (by omega), ti_ofNat (by omega)]; omega), gd_t (inb_nI (by omega) (by omega)), ix_nI (by omega), ht i (by omega), mn, nI_s (by omega), ncp_s]
    exact ih (i + 1) _ n' (by omega) (by omega) (by omega) (fun j h1 h2 => hd j (by omega) h2)
def CX (s : Sg) (L : List (Nat × Nat)) : Prop := ∀ i (h : i < L.length), rI s 28 0 i = nI L[i].1 ∧ rI s 29 0 i = nI L[i].2
theorem CX_add {s : Sg} {L : List (Nat × Nat)} {a b : Nat} (h : CX s L) : CX (wI (wI s 29 0 L.length (nI b)) 28 0 L.length (nI a)) (L ++ [(a, b)]) := by
  intro i hi
  rw [List.length_append] at hi
  by_cases e : i < L.length
  · rw [List.getElem_append_left e, rI_ne (by omega), rI_ne (by omega), rI_ne (by omega), rI_ne (by omega)]; exact h i e
  · have ei : i = L.length := by simp at hi; omega
    subst ei
    rw [List.getElem_append_right (Nat.le_refl _)]
    simp only [Nat.sub_self, List.getElem_cons_zero]
    exact ⟨rI_eq rfl, by rw [rI_ne (by omega), rI_eq rfl]⟩
theorem x_cut {s : Sg} {t : Nat → Int32} {N : Nat} (hN : N ≤ 400) (ht : ∀ i, i < N → rI s 39 0 i = t i) : ok (x6_cut s (nI N)) (fun s' => TokX s' (tkS (toks t N 402 0)) (tkP (toks t N 402 0) N) (toks t N 402 0).length) := by
  unfold x6_cut x6_cut_G
  generalize hL : toks t N 402 0 = L
  have LR : L.length ≤ N := by rw [← hL]; have := (toks_r (t := t) (N := N) (n := 402) (k := 0) (by omega)).1; omega
  refine ok_loop (K := fun n (y : Sg × Int32 × Int32) => x6_cut_b5 n y.1 (nI N) y.2.1 y.2.2) (I := fun y => ∃ m k L0, y.2.1 = nI L0.length ∧ y.2.2 = nI k ∧ k ≤ N ∧ 402 ≤ m + k ∧ L = L0 ++ toks t N m k ∧ L0.length ≤ k ∧ CX y.1 L0 ∧ ∀ i, i < N → rI y.1 39 0 i = t i)
    (μ := fun y => 402 - y.2.2.toInt.toNat) ?_ FU (s, 0, 0) ⟨402, 0, [], rfl, rfl, by omega, by omega, hL.symm, by simp, fun i hi => absurd hi (by simp), ht⟩ (by show _ < 20000; simp only []; omega)
  rintro fu ⟨s2, l3, l4⟩ ⟨m, k, L0, e3, e4, hk, hm, hL0, hlk, hC, ht2⟩ ih
  simp only at e3 e4 hC ht2 ih
  subst e3; subst e4
  show ok (x6_cut_b5_G _ _ s2 (nI N) (nI L0.length) (nI k)) _
  unfold x6_cut_b5_G
  obtain ⟨m', rfl⟩ : ∃ m', m = m' + 1 := ⟨m - 1, by omega⟩
  rw [toks_s] at hL0
  by_cases c : k < N
  · rw [if_pos c] at hL0
    rw [gif_t (by rw [ti_lt, nI_ti (by omega), nI_ti (by omega)]; omega), gif_t (by rw [ti_lt, nI_ti (by omega), li_400]; omega), gd_t (inb_nI (by omega) (by omega)), ix_nI (by omega), ht2 k c, x_sort]
    simp only [Option.bind_some]
    have so2 : srt (t k) ≤ 2 := by unfold srt; (repeat' split) <;> omega
    -- a run's end is found
    have fin : ok (x6_cut_b62 (x6_cut_b5 fu) s2 (nI N) (nI L0.length) (nI k) (nI (tend t N k)) (nI (srt (t k)))) (fun s' => TokX s' (tkS L) (tkP L N) L.length) := by
      obtain ⟨e1, e2, e3⟩ := tend_r (t := t) c
      unfold x6_cut_b62 x6_cut_b62_G
      rw [gd_t (inb_nI (by omega) (by omega)), ix_nI (by omega), ht2 k c]
      have mu : ∀ x, k < x → x ≤ N → 402 - (nI x).toInt.toNat < 402 - (nI k).toInt.toNat := fun x h1 h2 => by rw [nI_ti (by omega), nI_ti (by omega)]; omega
      by_cases c32 : t k = 32
      · rw [if_pos c32] at hL0
        have es : srt (t k) = 0 := by rw [c32]; decide
        have et : tend t N k = k + 1 := by unfold tend; rw [if_pos es]
        rw [gif_t c32, et]
        exact ih (s2, nI L0.length, nI (k + 1)) ⟨m', k + 1, L0, rfl, rfl, by omega, by omega, hL0, by omega, hC, ht2⟩ (mu (k + 1) (by omega) (by omega))
      · rw [if_neg c32] at hL0
        rw [gif_f c32]
        have bl3 : inb (nI L0.length) 401 := inb_nI (by omega) (by omega)
        have il3 : ix (nI L0.length) = L0.length := ix_nI (by omega)
        simp only [gd_t bl3, il3]
        -- the token is told
        have told : ok (x6_cut_b5 fu (wI (wI s2 29 0 L0.length (nI k)) 28 0 L0.length (nI (sgn t k (tend t N k)))) (nI N) (nI L0.length + 1) (nI (tend t N k))) (fun s' => TokX s' (tkS L) (tkP L N) L.length) := by
          rw [nI_s (by omega)]
          refine ih (wI (wI s2 29 0 L0.length (nI k)) 28 0 L0.length (nI (sgn t k (tend t N k))), nI (L0.length + 1), nI (tend t N k)) ⟨m', tend t N k, L0 ++ [(sgn t k (tend t N k), k)], by rw [List.length_append]; rfl, rfl, e2, by omega, by rw [hL0]; simp, by rw [List.length_append]; show L0.length + 1 ≤ _; omega, CX_add hC, fun i hi => by rw [rI_ne (by omega), rI_ne (by omega)]; exact ht2 i hi⟩ (mu _ (by omega) e2)
        have ht3 : ∀ i, i < tend t N k → rI (wI s2 29 0 L0.length (nI k)) 39 0 i = t i := fun i hi => by rw [rI_ne (by omega)]; exact ht2 i (by omega)
        by_cases c1 : srt (t k) = 1
        · rw [gif_t (by rw [c1]; rfl), x_word (by omega) (by omega) ht3]
          simp only [Option.bind_some]
          have : sgn t k (tend t N k) = idxW 3999 cws 3000 (segL t (tend t N k - k) k) := by unfold sgn; rw [if_pos c1]
          rw [← this]; exact told
        · rw [gif_f (fun x => c1 ((mq (m := 1) (by omega) li_1).mp x))]
          by_cases c2 : srt (t k) = 2
          · rw [gif_t (by rw [c2]; rfl)]
            have : x6_numberOf (wI s2 29 0 L0.length (nI k)) (nI k) (nI (tend t N k)) = some (wI s2 29 0 L0.length (nI k), nI (ncp t (tend t N k - k) k 0)) := x_num (by omega) ht3 (tend t N k - k) k 0 FU (by omega) (by show _ < 20000; omega) (by omega) (fun j h1 h2 => by rw [e3 (by omega) j h1 h2, c2])
            rw [this]
            simp only [Option.bind_some]
            have : sgn t k (tend t N k) = ncp t (tend t N k - k) k 0 := by unfold sgn; rw [if_neg c1, if_pos c2]
            rw [← this]; exact told
          · rw [gif_f (fun x => c2 ((mq (m := 2) (by omega) li_2).mp x)), gd_t (inb_nI (by omega) (by omega)), rI_ne (by omega), ht2 k c, an255]
            have bb := byt_lt (t k)
            have : 2000 + nI (byt (t k)) = nI (sgn t k (tend t N k)) := by
              unfold sgn
              rw [if_neg c1, if_neg c2]
              rw [ti_eq, ti_add (by rw [nI_ti (by omega), li_2000]; omega) (by rw [nI_ti (by omega), li_2000]; omega), nI_ti (by omega), nI_ti (by omega), li_2000]; omega
            rw [this]; exact told
    by_cases c0 : srt (t k) = 0
    · have et : tend t N k = k + 1 := by unfold tend; rw [if_pos c0]
      rw [et] at fin
      rw [show FU = 19999 + 1 from rfl]
      show ok (x6_cut_b33_G _ _ _ s2 (nI N) (nI L0.length) (nI k) (nI k + 1) (nI (srt (t k)))) _
      unfold x6_cut_b33_G
      rw [nI_s (by omega)]
      exact ok_gif (fun _ => by rw [gif_t (by rw [c0]; rfl)]; exact fin) (fun _ => fin)
    · have et : tend t N k = rend t N (srt (t k)) 402 (k + 1) := by unfold tend; rw [if_neg c0]
      rw [et] at fin
      generalize hE : rend t N (srt (t k)) 402 (k + 1) = E at fin
      rw [nI_s (by omega)]
      refine ok_loop (K := fun n (y : Int32) => x6_cut_b33 (x6_cut_b5 fu) n s2 (nI N) (nI L0.length) (nI k) y (nI (srt (t k)))) (I := fun y => ∃ n j, y = nI j ∧ j ≤ N ∧ 402 ≤ n + j ∧ rend t N (srt (t k)) n j = E)
        (μ := fun y => 402 - y.toInt.toNat) ?_ FU (nI (k + 1)) ⟨402, k + 1, rfl, by omega, by omega, hE⟩ (by show _ < 20000; omega)
      rintro fu2 y ⟨n, j, hy, hj, hn, hE2⟩ ih2
      subst hy
      obtain ⟨n', rfl⟩ : ∃ n', n = n' + 1 := ⟨n - 1, by omega⟩
      rw [rend_s] at hE2
      show ok (x6_cut_b33_G _ _ _ s2 (nI N) (nI L0.length) (nI k) (nI j) (nI (srt (t k)))) _
      unfold x6_cut_b33_G
      by_cases cj : j < N
      · rw [gif_t (by rw [ti_lt, nI_ti (by omega), nI_ti (by omega)]; omega), gif_f (fun x => c0 ((mq (m := 0) (by omega) li_0).mp x)), gd_t (inb_nI (by omega) (by omega)), ix_nI (by omega), ht2 j cj, x_sort]
        simp only [Option.bind_some]
        have sj2 : srt (t j) ≤ 2 := by unfold srt; (repeat' split) <;> omega
        by_cases ce : srt (t j) = srt (t k)
        · rw [if_pos ⟨cj, ce⟩] at hE2
          rw [gif_t (by rw [ce]), nI_s (by omega)]
          exact ih2 (nI (j + 1)) ⟨n', j + 1, rfl, by omega, by omega, hE2⟩ (by rw [nI_ti (by omega), nI_ti (by omega)]; omega)
        · rw [if_neg (fun x => ce x.2)] at hE2
          rw [gif_f (fun x => ce ((nIq (by omega) (by omega)).mp x)), hE2]; exact fin
      · rw [if_neg (fun x => cj x.1)] at hE2
        rw [gif_f (by rw [ti_lt, nI_ti (by omega), nI_ti (by omega)]; omega), hE2]; exact fin
  · rw [if_neg c, List.append_nil] at hL0
    subst hL0
    rw [gif_f (by rw [ti_lt, nI_ti (by omega), nI_ti (by omega)]; omega)]
    have bl3 : inb (nI L.length) 401 := inb_nI (by omega) (by omega)
    have il3 : ix (nI L.length) = L.length := ix_nI (by omega)
    simp only [gd_t bl3, il3]
    refine ok_some (fun i hi => ?_)
    by_cases e : i < L.length
    · rw [tkS_l e, tkP_l e, rI_ne (by omega), rI_ne (by omega), rI_ne (by omega), rI_ne (by omega)]; exact hC i e
    · have ei : i = L.length := by omega
      subst ei
      rw [tkS_e (Nat.le_refl _), tkP_e (Nat.le_refl _)]
      exact ⟨by rw [rI_eq rfl]; rfl, by rw [rI_ne (by omega), rI_eq rfl]⟩
