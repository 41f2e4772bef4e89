/-! the class's machine works off abstract code -/
theorem evA_drop {F : Nat → Int32} {P : List Ins} : ∀ {n : Nat} {k : List Int64}, n ≤ P.length → evA F P n k = evA F (P.drop n) 0 k := by
  induction P with
  | nil => intro n k h; have : n = 0 := by simpa using h
           subst this; rfl
  | cons i r ih =>
    intro n k h
    cases n with
    | zero => rfl
    | succ n => show evA F r n k = _; rw [ih (by simpa using h)]; rfl
theorem EncX_drop {c : Nat → Int32} {P : List Ins} : ∀ {q n : Nat}, n ≤ P.length → EncX c q P → EncX c (q + n) (P.drop n) := by
  induction P with
  | nil => intro q n h g; have : n = 0 := by simpa using h
           subst this; exact g
  | cons i r ih =>
    intro q n h g
    cases n with
    | zero => exact g
    | succ n => have := ih (q := q + 1) (n := n) (by simpa using h) g.2
                rw [show q + (n + 1) = q + 1 + n by omega]; exact this
theorem skOK_drop {P : List Ins} : ∀ {n : Nat}, skOK P → skOK (P.drop n) := by
  induction P with
  | nil => intro n h; simp; exact h
  | cons i r ih =>
    intro n h
    cases n with
    | zero => exact h
    | succ n => exact ih h.2
theorem pushes_drop {P : List Ins} : ∀ {n : Nat}, pushes (P.drop n) ≤ pushes P := by
  induction P with
  | nil => intro n; simp
  | cons i r ih =>
    intro n
    cases n with
    | zero => exact Nat.le_refl _
    | succ n => have := ih (n := n); simp only [List.drop_succ_cons, pushes]; omega
theorem ok_drop {p : Ins → Prop} {P : List Ins} {n : Nat} (h : ∀ i ∈ P, p i) : ∀ i ∈ P.drop n, p i := fun i hi => h i (List.mem_of_mem_drop hi)
/-- one instruction's two numbers -/
theorem bt_nI (n : Nat) {i : Nat} (hi : i < 32) : bt (nI n) i = n.testBit i := by
  show (BitVec.ofNat 32 n).getLsbD i = _
  rw [BitVec.getLsbD_ofNat]; simp [hi]
theorem b_4095 (i : Nat) : bt 4095 i = decide (i < 12) := by
  rcases Nat.lt_or_ge i 32 with h | h
  · exact (by decide +kernel : ∀ i, i < 32 → bt 4095 i = decide (i < 12)) i h
  · rw [b_big h, decide_eq_false (by omega)]
theorem sh12 {n : Nat} (h : n < 2147483648) : nI n >>> ((12 : Int32) &&& 31) = nI (n / 4096) := by
  apply b_ext
  intro i hi
  rw [show ((12 : Int32)) = nI 12 from rfl, b_sshr 12 (by omega) _ hi, bt_nI _ hi]
  have e : (n / 4096).testBit i = n.testBit (12 + i) := by
    rw [show 4096 = 2 ^ 12 from rfl, Nat.testBit_div_two_pow]; congr 1; omega
  rw [e]
  by_cases c : 12 + i < 32
  · rw [if_pos c, bt_nI _ c]
  · rw [if_neg c, bt_nI _ (by omega)]
    rw [Nat.testBit_lt_two_pow (show n < 2 ^ 31 by omega), Nat.testBit_lt_two_pow]
    exact Nat.lt_of_lt_of_le (show n < 2 ^ 31 by omega) (Nat.pow_le_pow_right (by omega) (by omega))
theorem an12 (n : Nat) : nI n &&& 4095 = nI (n % 4096) := by
  apply b_ext
  intro i hi
  rw [b_and, b_4095, bt_nI _ hi, bt_nI _ hi, show 4096 = 2 ^ 12 from rfl, Nat.testBit_mod_two_pow, Bool.and_comm]
theorem dec12 {x : Int32} {o a : Nat} (h : x.toInt = 4096 * o + a) (ha : a < 4096) (ho : o ≤ 14) : x >>> ((12 : Int32) &&& 31) = nI o ∧ x &&& 4095 = nI a := by
  have e : x = nI (4096 * o + a) := by rw [ti_eq, nI_ti (by omega), h]; omega
  rw [e, sh12 (by omega), an12]
  exact ⟨by congr 1; omega, by congr 1; omega⟩
theorem nIq {a b : Nat} (ha : a < 2147483648) (hb : b < 2147483648) : (nI a = nI b) ↔ a = b := by
  rw [ti_eq, nI_ti ha, nI_ti hb]; omega
theorem am1 (h : Int32) : h + (-1) = h - 1 := by rw [Int32.sub_eq_add_neg]
theorem cmp_lt {x y : Int64} : lg_cmp x y < 0 ↔ x < y := by
  unfold lg_cmp
  by_cases h : y < x
  · rw [if_pos h]; constructor
    · intro e; exact absurd e (by decide)
    · intro e; exact absurd (Int64.lt_trans e h) (Int64.lt_irrefl)
  · rw [if_neg h]
    by_cases g : x = y
    · rw [if_pos g]; subst g; exact ⟨fun e => absurd e (by decide), fun e => absurd e Int64.lt_irrefl⟩
    · rw [if_neg g]; exact ⟨fun _ => Int64.lt_of_le_of_ne (Int64.not_lt.mp h) g, fun _ => by decide⟩
theorem cmp_gt {x y : Int64} : 0 < lg_cmp x y ↔ y < x := by
  unfold lg_cmp
  by_cases h : y < x
  · rw [if_pos h]; exact ⟨fun _ => h, fun _ => by decide⟩
  · rw [if_neg h]
    by_cases g : x = y
    · rw [if_pos g]; exact ⟨fun e => absurd e (by decide), fun e => absurd e h⟩
    · rw [if_neg g]; exact ⟨fun e => absurd e (by decide), fun e => absurd e h⟩
theorem cmp_eq {x y : Int64} : lg_cmp x y = 0 ↔ x = y := by
  unfold lg_cmp
  by_cases h : y < x
  · rw [if_pos h]; constructor
    · intro e; exact absurd e (by decide)
    · intro e; subst e; exact absurd h Int64.lt_irrefl
  · rw [if_neg h]
    by_cases g : x = y
    · rw [if_pos g]; exact ⟨fun _ => g, fun _ => rfl⟩
    · rw [if_neg g]; exact ⟨fun e => absurd e (by decide), fun e => absurd e g⟩
theorem opr_cmp_le {o : Nat} {a b : Int64} (h : o = 12 ∨ o = 13 ∨ o = 14) : ¬ (FARI < opr o a b ∨ opr o a b < -FARI) := by
  have k : ∀ v : Int64, v = 1 ∨ v = 0 → ¬ (FARI < v ∨ v < -FARI) := by
    rintro v (rfl | rfl) <;> decide
  apply k
  unfold opr
  rcases h with rfl | rfl | rfl
  · simp only [show ¬ (12 : Nat) = 7 by decide, show ¬ (12 : Nat) = 8 by decide, show ¬ (12 : Nat) = 9 by decide, show ¬ (12 : Nat) = 10 by decide, show ¬ (12 : Nat) = 11 by decide, if_true, if_false]; split <;> simp
  · simp only [show ¬ (13 : Nat) = 7 by decide, show ¬ (13 : Nat) = 8 by decide, show ¬ (13 : Nat) = 9 by decide, show ¬ (13 : Nat) = 10 by decide, show ¬ (13 : Nat) = 11 by decide, show ¬ (13 : Nat) = 12 by decide, if_true, if_false]; split <;> simp
  · simp only [show ¬ (14 : Nat) = 7 by decide, show ¬ (14 : Nat) = 8 by decide, show ¬ (14 : Nat) = 9 by decide, show ¬ (14 : Nat) = 10 by decide, show ¬ (14 : Nat) = 11 by decide, show ¬ (14 : Nat) = 12 by decide, show ¬ (14 : Nat) = 13 by decide, if_false]; split <;> simp
/-- combine: what it answers, and whether it is broken -/
theorem ok_combine {s : Sg} {g : Nat} (hb : rI s 4 g 1 = 0) {o : Nat} (ho : 7 ≤ o ∧ o ≤ 14) (a b : Int64) : ok (x4_combine s g (nI o) a b) (fun q => (match opn o a b with | none => rI q.1 4 g 1 = 1 | some v => q.2 = v ∧ rI q.1 4 g 1 = 0) ∧ q.1.2 = s.2 ∧ (∀ k i c, ¬ (k = 4 ∧ i = g ∧ c = 1) → rI q.1 k i c = rI s k i c)) := by
  have t186 : ∀ (s1 : Sg) (v : Int64), s1.2 = s.2 → (∀ k i c, ¬ (k = 4 ∧ i = g ∧ c = 1) → rI s1 k i c = rI s k i c) → ok (x4_combine_b186 s1 g v) (fun q => q.2 = v ∧ (rI q.1 4 g 1 = if rI s1 4 g 1 = 0 ∧ ¬ (FARI < v ∨ v < -FARI) then 0 else 1) ∧ q.1.2 = s.2 ∧ (∀ k i c, ¬ (k = 4 ∧ i = g ∧ c = 1) → rI q.1 k i c = rI s k i c)) := by
    intro s1 v e0 e1
    have nw : ∀ (x : Int32) k i c, ¬ (k = 4 ∧ i = g ∧ c = 1) → rI (wI s1 4 g 1 x) k i c = rI s k i c := by
      intro x k i c h; rw [rI_wI, if_neg h]; exact e1 k i c h
    unfold x4_combine_b186 x4_combine_b186_G
    simp only [gdB0, gdB1, cmp_gt, cmp_lt]
    refine ok_gif (fun c => ?_) (fun c => ok_some ⟨rfl, by simp only []; rw [rI_eq rfl, if_neg (fun x => c x.1)], e0, nw 1⟩)
    refine ok_gif (fun d => ok_some ⟨rfl, by simp only []; rw [rI_eq rfl, if_neg (fun x => x.2 (.inl d))], e0, nw 1⟩) (fun d => ?_)
    refine ok_gif (fun e => ok_some ⟨rfl, by simp only []; rw [rI_eq rfl, if_neg (fun x => x.2 (.inr e))], e0, nw 1⟩) (fun e => ?_)
    exact ok_some ⟨rfl, by simp only []; rw [rI_eq rfl, if_pos ⟨c, fun x => x.elim d e⟩], e0, nw 0⟩
  have fin : ∀ (s1 : Sg) (v : Int64), s1.2 = s.2 → (∀ k i c, ¬ (k = 4 ∧ i = g ∧ c = 1) → rI s1 k i c = rI s k i c) → (rI s1 4 g 1 = 0 → v = opr o a b ∧ ¬ ((o = 10 ∨ o = 11) ∧ b = 0)) → (¬ rI s1 4 g 1 = 0 → (o = 10 ∨ o = 11) ∧ b = 0) →
      ok (x4_combine_b186 s1 g v) (fun q => (match opn o a b with | none => rI q.1 4 g 1 = 1 | some v => q.2 = v ∧ rI q.1 4 g 1 = 0) ∧ q.1.2 = s.2 ∧ (∀ k i c, ¬ (k = 4 ∧ i = g ∧ c = 1) → rI q.1 k i c = rI s k i c)) := by
    intro s1 v e0 e1 h0 h1
    refine ok_mono (t186 s1 v e0 e1) (fun q ⟨p1, p2, p3, p4⟩ => ⟨?_, p3, p4⟩)
    unfold opn
    by_cases c : rI s1 4 g 1 = 0
    · obtain ⟨ev, nb⟩ := h0 c
      subst ev
      rw [if_neg nb]
      by_cases d : FARI < opr o a b ∨ opr o a b < -FARI
      · rw [if_pos d]; rw [if_neg (fun x => x.2 d)] at p2; exact p2
      · rw [if_neg d]; rw [if_pos ⟨c, d⟩] at p2; exact ⟨p1, p2⟩
    · rw [if_pos (h1 c)]; rw [if_neg (fun x => c x.1)] at p2; exact p2
  have cmpv : ∀ v : Int64, v = opr o a b → (o = 12 ∨ o = 13 ∨ o = 14) → ok (some (s, v)) (fun q => (match opn o a b with | none => rI q.1 4 g 1 = 1 | some v => q.2 = v ∧ rI q.1 4 g 1 = 0) ∧ q.1.2 = s.2 ∧ (∀ k i c, ¬ (k = 4 ∧ i = g ∧ c = 1) → rI q.1 k i c = rI s k i c)) := by
    intro v ev h
    refine ok_some ⟨?_, rfl, fun _ _ _ _ => rfl⟩
    unfold opn
    rw [if_neg (fun x => by omega), if_neg (opr_cmp_le h)]
    exact ⟨ev, hb⟩
  have sg : s.2 = s.2 := rfl
  have self : ∀ k i c, ¬ (k = 4 ∧ i = g ∧ c = 1) → rI s k i c = rI s k i c := fun _ _ _ _ => rfl
  have nw : ∀ (x : Int32) k i c, ¬ (k = 4 ∧ i = g ∧ c = 1) → rI (wI s 4 g 1 x) k i c = rI s k i c := by
    intro x k i c h; rw [rI_wI, if_neg h]
  unfold x4_combine x4_combine_G
  simp only [gdB0, gdB1, cmp_gt, cmp_lt, cmp_eq]
  have n : ∀ m : Nat, m < 100 → ((nI o = nI m) ↔ o = m) := fun m hm => nIq (by omega) (by omega)
  rcases (by omega : o = 7 ∨ o = 8 ∨ o = 9 ∨ o = 10 ∨ o = 11 ∨ o = 12 ∨ o = 13 ∨ o = 14) with rfl | rfl | rfl | rfl | rfl | rfl | rfl | rfl
  · rw [gif_t (show nI 7 = 7 from rfl)]
    exact fin s _ sg self (fun _ => ⟨rfl, fun x => by omega⟩) (fun x => absurd hb x)
  · rw [gif_f (show ¬ nI 8 = 7 by decide), gif_t (show nI 8 = 8 from rfl)]
    exact fin s _ sg self (fun _ => ⟨rfl, fun x => by omega⟩) (fun x => absurd hb x)
  · rw [gif_f (show ¬ nI 9 = 7 by decide), gif_f (show ¬ nI 9 = 8 by decide), gif_t (show nI 9 = 9 from rfl)]
    exact fin s _ sg self (fun _ => ⟨rfl, fun x => by omega⟩) (fun x => absurd hb x)
  · rw [gif_f (show ¬ nI 10 = 7 by decide), gif_f (show ¬ nI 10 = 8 by decide), gif_f (show ¬ nI 10 = 9 by decide), gif_t (show nI 10 = 10 from rfl)]
    refine ok_gif (fun c => ?_) (fun c => ?_)
    · rw [gif_t c]
      exact fin _ _ sg (nw 1) (fun x => by rw [rI_eq rfl] at x; exact absurd x (by decide)) (fun _ => ⟨.inl rfl, c⟩)
    · rw [gif_f c, gd_t c]
      exact fin _ _ sg (nw 0) (fun _ => ⟨rfl, fun x => c x.2⟩) (fun x => absurd (rI_eq rfl) x)
  · rw [gif_f (show ¬ nI 11 = 7 by decide), gif_f (show ¬ nI 11 = 8 by decide), gif_f (show ¬ nI 11 = 9 by decide), gif_f (show ¬ nI 11 = 10 by decide), gif_t (show nI 11 = 11 from rfl)]
    refine ok_gif (fun c => ?_) (fun c => ?_)
    · rw [gif_t c]
      exact fin _ _ sg (nw 1) (fun x => by rw [rI_eq rfl] at x; exact absurd x (by decide)) (fun _ => ⟨.inr rfl, c⟩)
    · rw [gif_f c, gd_t c]
      exact fin _ _ sg (nw 0) (fun _ => ⟨rfl, fun x => c x.2⟩) (fun x => absurd (rI_eq rfl) x)
  · rw [gif_f (show ¬ nI 12 = 7 by decide), gif_f (show ¬ nI 12 = 8 by decide), gif_f (show ¬ nI 12 = 9 by decide), gif_f (show ¬ nI 12 = 10 by decide), gif_f (show ¬ nI 12 = 11 by decide), gif_t (show nI 12 = 12 from rfl)]
    refine ok_gif (fun c => cmpv 1 ?_ (.inl rfl)) (fun c => cmpv 0 ?_ (.inl rfl))
    · simp [opr, c]
    · simp [opr, c]
  · rw [gif_f (show ¬ nI 13 = 7 by decide), gif_f (show ¬ nI 13 = 8 by decide), gif_f (show ¬ nI 13 = 9 by decide), gif_f (show ¬ nI 13 = 10 by decide), gif_f (show ¬ nI 13 = 11 by decide), gif_f (show ¬ nI 13 = 12 by decide), gif_t (show nI 13 = 13 from rfl)]
    refine ok_gif (fun c => cmpv 1 ?_ (.inr (.inl rfl))) (fun c => cmpv 0 ?_ (.inr (.inl rfl)))
    · simp [opr, c]
    · simp [opr, c]
  · rw [gif_f (show ¬ nI 14 = 7 by decide), gif_f (show ¬ nI 14 = 8 by decide), gif_f (show ¬ nI 14 = 9 by decide), gif_f (show ¬ nI 14 = 10 by decide), gif_f (show ¬ nI 14 = 11 by decide), gif_f (show ¬ nI 14 = 12 by decide), gif_f (show ¬ nI 14 = 13 by decide)]
    refine ok_gif (fun c => cmpv 1 ?_ (.inr (.inr rfl))) (fun c => cmpv 0 ?_ (.inr (.inr rfl)))
    · simp [opr, c]
    · simp [opr, c]
/-- the stack in its cells -/
def stkX (s : Sg) (k g : Nat) (st : List Int64) : Prop := ∀ i (h : i < st.length), rL s k g (st.length - 1 - i) = st[i]
theorem stk_push {s : Sg} {k g : Nat} {st : List Int64} (h : stkX s k g st) (v : Int64) : stkX (wL s k g st.length v) k g (v :: st) := by
  intro i hi
  cases i with
  | zero => simp only [List.length_cons, List.getElem_cons_zero]; rw [rL_eq (by omega)]
  | succ i =>
    simp only [List.length_cons] at hi ⊢
    rw [rL_ne (by omega), List.getElem_cons_succ, show st.length + 1 - 1 - (i + 1) = st.length - 1 - i by omega]
    exact h i (by omega)
theorem stk_tail {s : Sg} {k g : Nat} {v : Int64} {st : List Int64} (h : stkX s k g (v :: st)) : stkX s k g st := by
  intro i hi
  have := h (i + 1) (by simp only [List.length_cons]; omega)
  simp only [List.length_cons, List.getElem_cons_succ] at this
  rw [show st.length + 1 - 1 - (i + 1) = st.length - 1 - i by omega] at this; exact this
theorem stk_top {s : Sg} {k g : Nat} {v : Int64} {st : List Int64} (h : stkX s k g (v :: st)) : rL s k g st.length = v := by
  have := h 0 (by simp)
  simpa using this
theorem stk_c {s s' : Sg} {k g : Nat} {st : List Int64} (e : s'.2.1 = s.2.1) (h : stkX s k g st) : stkX s' k g st := fun i hi => by
  have := h i hi; unfold rL at this ⊢; rw [e]; exact this
/-- what the machine answers -/
def outX (r : Option (Option (Nat × List Int64))) (g : Nat) (q : Sg × Int64) : Prop :=
  match r with
  | some none => q.2 = 0 ∧ rI q.1 4 g 1 = 1
  | some (some (_, v :: _)) => q.2 = v ∧ rI q.1 4 g 1 = 0
  | _ => True
def goodE (r : Option (Option (Nat × List Int64))) : Prop := r = some none ∨ ∃ v t, r = some (some (0, v :: t))
theorem valX {t mi kf fi len : Nat} {c : Nat → Int32} {F : Nat → Int32} {nf : Nat} (hlen : len ≤ 512) (ek : g_ety kf = 0) (ea : ∀ s : Sg, aln s kf fi = nf) (nf9 : nf ≤ 29) (kf23 : kf ≠ 4) :
    ∀ (m : Nat) (P : List Ins) (q : Nat) (st : List Int64) (s : Sg) (a h z : Int32) (fuel : Nat), P.length ≤ m → EncX c q P → (c (q + P.length)).toInt = 24576 → q + P.length < len → (∀ i ∈ P, okIns nf i) → skOK P → stkX s 23 mi st → st.length + pushes P ≤ 64 → goodE (evA F P 0 st) →
      rI s 4 mi 1 = 0 → rN s 36 t 0 = len → (∀ i, i < len → rI s 36 t i = c i) → (∀ i, i < nf → rI s kf fi i = F i) → a.toInt = q → h.toInt = st.length → 0 ≤ z.toInt → z.toInt ≤ q → m + 1 < fuel →
      ok (x4_valueOf_b20 fuel s mi kf fi t h a z) (outX (evA F P 0 st) mi) := by
  intro m
  induction m with
  | zero =>
    intro P q st s a h z fuel hm hE hF hq hI hS hk hp hg hb hl hc hf ha hh hz0 hz hfu
    have hP : P = [] := List.length_eq_zero_iff.mp (by omega)
    subst hP
    obtain ⟨fuel, rfl⟩ : ∃ j, fuel = j + 1 := ⟨fuel - 1, by omega⟩
    simp only [List.length_nil, Nat.add_zero] at hF hq
    have ia : ix a = q := by rw [ix_eq, ha]; omega
    have hsh := (dec12 (o := 6) (a := 0) (by rw [hF]; rfl) (by omega) (by omega)).1
    rcases hg with hg | ⟨v, u, hg⟩
    · cases hg
    · simp only [evA] at hg
      cases hg
      show ok (x4_valueOf_b20_G _ _ _ s mi kf fi t h a z) _
      unfold x4_valueOf_b20_G
      simp only [List.length_cons] at hh
      have h1 : (h - 1).toInt = u.length := by rw [ti_sub (by rw [hh, li_1]; omega) (by rw [hh, li_1]; have := hp; simp at this; omega), hh, li_1]; omega
      have hp' : u.length + 1 ≤ 64 := by simpa [pushes] using hp
      rw [hl, gif_t (by rw [ti_lt, ti_ofNat (by omega)]; omega), gif_f (by rw [ti_lt, ha, li_0]; omega), gif_t (by rw [ti_lt, ha, ti_ofNat (by omega)]; omega), gd_t (inb_iff.mpr (by rw [ha]; omega)), gd_t (inb_iff.mpr (by rw [ha]; omega)), ia, hc q hq, hsh]
      rw [gif_f (show ¬ nI 6 = 1 by decide), gif_f (show ¬ nI 6 = 2 by decide), gif_f (by rw [ti_lt, hh, li_1]; omega), gd_t (inb_iff.mpr (by rw [h1]; omega)), gif_t (show nI 6 = 6 from rfl)]
      refine ok_some ?_
      show (rL s 23 mi (ix (h - 1)) = v ∧ rI s 4 mi 1 = 0)
      rw [show ix (h - 1) = u.length by rw [ix_eq, h1]; omega]
      exact ⟨stk_top hk, hb⟩
  | succ m ih =>
    intro P q st s a h z fuel hm hE hF hq hI hS hk hp hg hb hl hc hf ha hh hz0 hz hfu
    cases P with
    | nil =>
      exact ih [] q st s a h z fuel (by simp) hE hF hq hI hS hk hp hg hb hl hc hf ha hh hz0 hz (by omega)
    | cons ins r =>
      obtain ⟨o, x⟩ := ins
      obtain ⟨fuel, rfl⟩ : ∃ j, fuel = j + 1 := ⟨fuel - 1, by omega⟩
      simp only [List.length_cons] at hm hF hq hfu
      have ia : ix a = q := by rw [ix_eq, ha]; omega
      have hI0 := hI (o, x) (by simp)
      have hIr : ∀ i ∈ r, okIns nf i := fun i hi => hI i (by simp [hi])
      have tz : (z + 1).toInt = z.toInt + 1 := by simp (disch := omega) only [Int32.toInt_add, Int32.toInt_sub, Int32.toInt_mul, Int32.toInt_neg, bm32, li_0, li_1, li_2, li_3, li_4, li_5, li_6, li_7, li_8, li_9, li_10, li_11, li_12, li_13, li_14, li_15, li_16, li_17, li_18, li_19, li_20, li_21, li_22, li_23, li_24, li_25, li_26, li_27, li_28, li_29, li_30, li_31, li_32, li_33, li_34, li_35, li_36, li_37, li_38, li_39, li_40, li_41, li_42, li_43, li_44, li_45, li_46, li_47, li_48, li_49, li_50, li_51, li_52, li_53, li_54, li_55, li_56, li_57, li_58, li_59, li_60, li_61, li_62, li_63, li_64, li_65, li_66, li_67, li_68, li_69, li_70, li_71, li_72, li_73, li_74, li_75, li_76, li_77, li_78, li_91, li_93, li_96, li_97, li_99, li_100, li_122, li_138, li_255, li_256, li_400, li_401, li_625, li_800, li_999, li_1000, li_1001, li_1103, li_2000, li_2037, li_2038, li_2039, li_2040, li_2041, li_2042, li_2043, li_2044, li_2045, li_2046, li_2047, li_2048, li_2049, li_2050, li_2051, li_2052, li_2053, li_2054, li_2055, li_2056, li_2057, li_2058, li_2059, li_2060, li_2061, li_2062, li_2091, li_2093, li_2400, li_2865, li_3000, li_3002, li_3003, li_3005, li_3006, li_3007, li_3008, li_3009, li_3010, li_3011, li_3012, li_3013, li_3020, li_3024, li_3025, li_3026, li_3999, li_4000, li_4095, li_4096, li_5665, li_11330, li_12345, li_15625, li_1000000, li_1000003, li_100000000, li_1000000000, ti_lt, ti_eq, inb_iff, ix_eq]
      have ta : (a + 1).toInt = q + 1 := by rw [ti_add (by rw [ha, li_1]; omega) (by rw [ha, li_1]; omega), ha, li_1]
      have hF' : (c (q + 1 + r.length)).toInt = 24576 := by rw [show q + 1 + r.length = q + (r.length + 1) by omega]; exact hF
      obtain ⟨hE0, hEr⟩ := hE
      obtain ⟨hS0, hSr⟩ := hS
      simp only at hS0
      have step : x4_valueOf_b20 (fuel + 1) s mi kf fi t h a z = x4_valueOf_b20_G (x4_valueOf_b20 fuel) (x4_valueOf_b77 (x4_valueOf_b20 fuel)) (x4_valueOf_b215 (x4_valueOf_b20 fuel)) s mi kf fi t h a z := rfl
      rw [step]
      unfold x4_valueOf_b20_G
      have hst : st.length ≤ 64 := by omega
      rw [hl, gif_t (by rw [ti_lt, ti_ofNat (by omega)]; omega), gif_f (by rw [ti_lt, ha, li_0]; omega), gif_t (by rw [ti_lt, ha, ti_ofNat (by omega)]; omega), gd_t (inb_iff.mpr (by rw [ha]; omega)), gd_t (inb_iff.mpr (by rw [ha]; omega)), ia, hc q (by omega)]
      -- the two numbers of it
      have dd : c q >>> ((12 : Int32) &&& 31) = nI o ∧ (o = 1 ∨ o = 2 → c q &&& 4095 = nI x ∧ x < 4096) ∧ (o = 4 ∨ o = 5 → c q &&& 4095 = nI (q + 1 + x)) := by
        unfold encx at hE0
        simp only at hE0
        unfold okIns at hI0
        simp only at hI0
        by_cases h12 : o = 1 ∨ o = 2
        · rw [if_pos h12] at hE0
          have hx : x < 4096 := by omega
          have := dec12 (o := o) (a := x) (by rw [hE0]) hx (by omega)
          exact ⟨this.1, fun _ => ⟨this.2, hx⟩, fun e => by omega⟩
        · rw [if_neg h12] at hE0
          by_cases h45 : o = 4 ∨ o = 5
          · rw [if_pos h45] at hE0
            have hx := hS0 h45
            have := dec12 (o := o) (a := q + 1 + x) (by rw [hE0]; omega) (by omega) (by omega)
            exact ⟨this.1, fun e => absurd e h12, fun _ => this.2⟩
          · rw [if_neg h45] at hE0
            have := dec12 (o := o) (a := 0) (by rw [hE0]; omega) (by omega) (by omega)
            exact ⟨this.1, fun e => absurd e h12, fun e => absurd e h45⟩
      obtain ⟨d1, d2, d3⟩ := dd
      rw [d1]
      by_cases o1 : o = 1 ∨ o = 2
      · -- a push
        obtain ⟨d2, hx4⟩ := d2 o1
        rw [d2]
        simp only [pushes, if_pos o1] at hp
        have th : (h + 1).toInt = st.length + 1 := by rw [ti_add (by rw [hh, li_1]; omega) (by rw [hh, li_1]; omega), hh, li_1]
        have ih' : ix h = st.length := by rw [ix_eq, hh]; omega
        have bh : inb h 64 := inb_iff.mpr (by rw [hh]; omega)
        have go : ∀ v : Int64, goodE (evA F r 0 (v :: st)) → ok (x4_valueOf_b20 fuel (wL s 23 mi (ix h) v) mi kf fi t (h + 1) (a + 1) (z + 1)) (outX (evA F r 0 (v :: st)) mi) := by
          intro v hgv
          rw [ih']
          refine ih r (q + 1) (v :: st) _ _ _ _ fuel (by omega) hEr hF' (by omega) hIr hSr (stk_push hk v) (by simp only [List.length_cons]; omega) hgv (by rw [rI_wL]; exact hb) (by rw [rN_wL]; exact hl) (fun i hi => by rw [rI_wL]; exact hc i hi) (fun i hi => by rw [rI_wL]; exact hf i hi) (by rw [ta]; omega) (by rw [th]; simp) (by omega) (by omega) (by omega)
        have e77 : ∀ l8 l9 : Int32, x4_valueOf_b77 (x4_valueOf_b20 fuel) s mi kf fi t h (a + 1) z l8 l9 = x4_valueOf_b77_G (x4_valueOf_b100 (x4_valueOf_b20 fuel)) s mi kf fi t h (a + 1) z l8 l9 := fun _ _ => rfl
        have e100 : ∀ l8 l9 : Int32, x4_valueOf_b100 (x4_valueOf_b20 fuel) s mi kf fi t h (a + 1) z l8 l9 = x4_valueOf_b100_G (x4_valueOf_b20 fuel) s mi kf fi t h (a + 1) z l8 l9 := fun _ _ => rfl
        rcases o1 with rfl | rfl
        · have hev : evA F ((1, x) :: r) 0 st = evA F r 0 (Int64.ofNat x :: st) := rfl
          rw [hev] at hg ⊢
          rw [gif_t (show nI 1 = 1 from rfl), e77]
          unfold x4_valueOf_b77_G
          rw [gif_t (by rw [ti_lt, hh, li_64]; omega), gif_f (show ¬ nI 1 = 2 by decide), e100]
          unfold x4_valueOf_b100_G
          rw [gif_t (show nI 1 = 1 from rfl), gd_t bh]
          have ex : Int32.toInt64 (nI x) = Int64.ofNat x := by
            apply Int64.toInt_inj.mp
            rw [Int32.toInt_toInt64, nI_ti (by omega), Int64.toInt_ofNat_of_lt (by omega)]
          rw [ex]; exact go _ hg
        · have hev : evA F ((2, x) :: r) 0 st = evA F r 0 ((F x).toInt64 :: st) := rfl
          rw [hev] at hg ⊢
          have hx : x < nf := by unfold okIns at hI0; simp only at hI0; omega
          rw [gif_f (show ¬ nI 2 = 1 by decide), gif_t (show nI 2 = 2 from rfl), e77]
          unfold x4_valueOf_b77_G
          rw [gif_t (by rw [ti_lt, hh, li_64]; omega), gif_t (show nI 2 = 2 from rfl), gd_t ek, ea, gif_t (by rw [ti_lt, nI_ti (by omega), ti_ofNat (by omega)]; omega), e100]
          unfold x4_valueOf_b100_G
          rw [gif_f (show ¬ nI 2 = 1 by decide), gd_t ek, ea, gd_t (inb_iff.mpr (by rw [nI_ti (by omega)]; omega)), gd_t bh, show ix (nI x) = x by rw [ix_eq, nI_ti (by omega)]; omega, hf x hx]
          exact go _ hg
      · -- others want one on the stack
        have n1 : ¬ nI o = 1 := by rw [show (1 : Int32) = nI 1 from rfl, nIq (by unfold okIns at hI0; simp only at hI0; omega) (by omega)]; omega
        have n2 : ¬ nI o = 2 := by rw [show (2 : Int32) = nI 2 from rfl, nIq (by unfold okIns at hI0; simp only at hI0; omega) (by omega)]; omega
        rw [gif_f n1, gif_f n2]
        have hpr : pushes ((o, x) :: r) = pushes r := by simp only [pushes, if_neg o1]; omega
        rw [hpr] at hp
        have nv : ∀ m : Nat, m < 100 → ((nI o = nI m) ↔ o = m) := fun m hm => nIq (by unfold okIns at hI0; simp only at hI0; omega) (by omega)
        cases st with
        | nil =>
          exfalso
          have : evA F ((o, x) :: r) 0 [] = none := by
            unfold evA; rw [if_neg (fun e => o1 (.inl e)), if_neg (fun e => o1 (.inr e))]
          rw [this] at hg
          rcases hg with hg | ⟨v, u, hg⟩ <;> cases hg
        | cons v u =>
          simp only [List.length_cons] at hh hp hst
          have h1 : (h - 1).toInt = u.length := by rw [ti_sub (by rw [hh, li_1]; omega) (by rw [hh, li_1]; omega), hh, li_1]; omega
          have ih1 : ix (h - 1) = u.length := by rw [ix_eq, h1]; omega
          have bh1 : inb (h - 1) 64 := inb_iff.mpr (by rw [h1]; omega)
          have top := stk_top hk
          rw [gif_f (by rw [ti_lt, hh, li_1]; omega), gd_t bh1, ih1, top]
          rw [gif_f (show ¬ nI o = 6 by rw [show (6 : Int32) = nI 6 from rfl, nv 6 (by omega)]; unfold okIns at hI0; simp only at hI0; omega)]
          by_cases o3 : o = 3
          · subst o3
            have hev : evA F ((3, x) :: r) 0 (v :: u) = evA F r 0 ((1 - v) :: u) := rfl
            rw [hev] at hg ⊢
            rw [gif_t (show nI 3 = 3 from rfl), gd_t bh1]
            have hk' : stkX (wL s 23 mi u.length (1 - v)) 23 mi ((1 - v) :: u) := stk_push (stk_tail hk) _
            exact ih r (q + 1) ((1 - v) :: u) _ _ _ _ fuel (by omega) hEr hF' (by omega) hIr hSr hk' (by simp only [List.length_cons]; omega) hg (by rw [rI_wL]; exact hb) (by rw [rN_wL]; exact hl) (fun i hi => by rw [rI_wL]; exact hc i hi) (fun i hi => by rw [rI_wL]; exact hf i hi) (by rw [ta]; omega) (by rw [hh]; simp) (by omega) (by omega) (by omega)
          · rw [gif_f (show ¬ nI o = 3 by rw [show (3 : Int32) = nI 3 from rfl, nv 3 (by omega)]; exact o3)]
            have e215 : ∀ l8 : Int32, ∀ w : Int64, x4_valueOf_b215 (x4_valueOf_b20 fuel) s mi kf fi t h (a + 1) z l8 w = x4_valueOf_b215_G (x4_valueOf_b20 fuel) x4_combine s mi kf fi t h (a + 1) z l8 w := fun _ _ => rfl
            -- a skip taken
            have jump : (o = 4 ∨ o = 5) → goodE (evA F r x (v :: u)) → ok (x4_valueOf_b20 fuel s mi kf fi t h (nI (q + 1 + x)) (z + 1)) (outX (evA F r x (v :: u)) mi) := by
              intro h45 hgx
              have hx := hS0 h45
              rw [evA_drop hx] at hgx ⊢
              have hd : (r.drop x).length = r.length - x := by simp
              refine ih (r.drop x) (q + 1 + x) (v :: u) s _ _ _ fuel (by omega) (EncX_drop hx hEr) ?_ (by omega) (ok_drop hIr) (skOK_drop hSr) hk (by have := pushes_drop (P := r) (n := x); simp only [List.length_cons]; omega) hgx hb hl hc hf (by rw [nI_ti (by omega)]) (by rw [hh]; simp) (by omega) (by omega) (by omega)
              rw [hd, show q + 1 + x + (r.length - x) = q + 1 + r.length by omega]; exact hF'
            -- one that isn't taken
            have pass : (o = 4 ∨ o = 5) → goodE (evA F r 0 u) → ok (x4_valueOf_b215 (x4_valueOf_b20 fuel) s mi kf fi t h (a + 1) z (nI o) v) (outX (evA F r 0 u) mi) := by
              intro h45 hgx
              rw [e215]
              unfold x4_valueOf_b215_G
              simp only [am1]
              have goP : ok (x4_valueOf_b20 fuel s mi kf fi t (h - 1) (a + 1) (z + 1)) (outX (evA F r 0 u) mi) :=
                ih r (q + 1) u s _ _ _ fuel (by omega) hEr hF' (by omega) hIr hSr (stk_tail hk) (by omega) hgx hb hl hc hf (by rw [ta]; omega) h1 (by omega) (by omega) (by omega)
              rcases h45 with rfl | rfl
              · rw [gif_t (show nI 4 = 4 from rfl)]; exact goP
              · rw [gif_f (show ¬ nI 5 = 4 by decide), gif_t (show nI 5 = 5 from rfl)]; exact goP
            by_cases o4 : o = 4
            · subst o4
              rw [d3 (.inl rfl), gif_t (show nI 4 = 4 from rfl), gif_f (show ¬ nI 4 = 5 by decide)]
              have hev : evA F ((4, x) :: r) 0 (v :: u) = if v = 0 then evA F r x (v :: u) else if v = 1 then evA F r 0 u else none := rfl
              rw [hev] at hg ⊢
              simp only [cmp_eq]
              refine ok_gif (fun c0 => ?_) (fun c0 => ?_)
              · rw [if_pos c0] at hg ⊢; exact jump (.inl rfl) hg
              · rw [if_neg c0] at hg ⊢
                by_cases c1 : v = 1
                · rw [if_pos c1] at hg ⊢; exact pass (.inl rfl) hg
                · rw [if_neg c1] at hg; rcases hg with hg | ⟨v, u, hg⟩ <;> cases hg
            · rw [gif_f (show ¬ nI o = 4 by rw [show (4 : Int32) = nI 4 from rfl, nv 4 (by omega)]; exact o4)]
              by_cases o5 : o = 5
              · subst o5
                rw [d3 (.inr rfl), gif_t (show nI 5 = 5 from rfl)]
                have hev : evA F ((5, x) :: r) 0 (v :: u) = if v = 1 then evA F r x (v :: u) else if v = 0 then evA F r 0 u else none := rfl
                rw [hev] at hg ⊢
                simp only [cmp_eq]
                refine ok_gif (fun c0 => ?_) (fun c0 => ?_)
                · have c1 : ¬ v = 1 := by rw [c0]; decide
                  rw [if_neg c1, if_pos c0] at hg ⊢; exact pass (.inr rfl) hg
                · by_cases c1 : v = 1
                  · rw [if_pos c1] at hg ⊢; exact jump (.inr rfl) hg
                  · rw [if_neg c1, if_neg c0] at hg; rcases hg with hg | ⟨v, u, hg⟩ <;> cases hg
              · rw [gif_f (show ¬ nI o = 5 by rw [show (5 : Int32) = nI 5 from rfl, nv 5 (by omega)]; exact o5)]
                -- a sign
                have o7 : 7 ≤ o ∧ o ≤ 14 := by unfold okIns at hI0; simp only at hI0; omega
                cases u with
                | nil =>
                  exfalso
                  have : evA F ((o, x) :: r) 0 [v] = none := by
                    unfold evA; simp only [if_neg (fun e => o1 (.inl e)), if_neg (fun e => o1 (.inr e)), if_neg o3, if_neg o4, if_neg o5]
                  rw [this] at hg
                  rcases hg with hg | ⟨v, u, hg⟩ <;> cases hg
                | cons b u =>
                  have hev : evA F ((o, x) :: r) 0 (v :: b :: u) = match opn o b v with | none => some none | some y => evA F r 0 (y :: u) := by
                    show (if o = 1 then _ else if o = 2 then _ else if o = 3 then _ else if o = 4 then _ else if o = 5 then _ else _) = _
                    rw [if_neg (fun e => o1 (.inl e)), if_neg (fun e => o1 (.inr e)), if_neg o3, if_neg o4, if_neg o5]
                    rfl
                  rw [hev] at hg ⊢
                  simp only [List.length_cons] at hh hp hst h1
                  rw [e215]
                  unfold x4_valueOf_b215_G
                  simp only [am1]
                  have h2 : (h - 1 - 1).toInt = u.length := by rw [ti_sub (by rw [h1, li_1]; omega) (by rw [h1, li_1]; omega), h1, li_1]; omega
                  have ih2 : ix (h - 1 - 1) = u.length := by rw [ix_eq, h2]; omega
                  have bh2 : inb (h - 1 - 1) 64 := inb_iff.mpr (by rw [h2]; omega)
                  have second := stk_top (stk_tail hk)
                  rw [gif_f (show ¬ nI o = 4 by rw [show (4 : Int32) = nI 4 from rfl, nv 4 (by omega)]; exact o4), gif_f (show ¬ nI o = 5 by rw [show (5 : Int32) = nI 5 from rfl, nv 5 (by omega)]; exact o5), gif_f (by rw [ti_lt, hh, li_2]; omega), gd_t bh2, ih2, second]
                  refine ok_bind (ok_mono (ok_combine hb o7 b v) (fun p ⟨p1, p2, p3⟩ => ?_))
                  obtain ⟨s1, y1⟩ := p
                  simp only at p1 p2 p3
                  rw [gd_t bh2]
                  have bz : rI (wL s1 23 mi u.length y1) 4 mi 1 = rI s1 4 mi 1 := rfl
                  rw [bz]
                  cases hop : opn o b v with
                  | none =>
                    rw [hop] at p1
                    simp only at p1
                    rw [gif_f (by rw [p1]; decide)]
                    exact ok_some ⟨rfl, p1⟩
                  | some y =>
                    rw [hop] at p1 hg
                    simp only at p1 hg
                    rw [gif_t p1.2, p1.1]
                    have hk1 : stkX (wL s1 23 mi u.length y) 23 mi (y :: u) := stk_push (stk_c (by rw [p2]) (stk_tail (stk_tail hk))) y
                    refine ih r (q + 1) (y :: u) _ _ _ _ fuel (by omega) hEr hF' (by omega) hIr hSr hk1 (by simp only [List.length_cons]; omega) hg (by rw [rI_wL]; exact p1.2) (by show s1.2.2 36 t 0 = len; rw [p2]; exact hl) (fun i hi => by rw [rI_wL, p3 _ _ _ (by omega)]; exact hc i hi) (fun i hi => by rw [rI_wL, p3 _ _ _ (fun e => kf23 e.1)]; exact hf i hi) (by rw [ta]; omega) (by rw [h1]; simp) (by omega) (by omega) (by omega)
