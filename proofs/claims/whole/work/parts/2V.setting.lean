/-! the SETTING: where its LINES end -/
def eB (f : Nat → Int32) (p : Nat) : Bool := if p % 2 = 0 then bt (f 1) (p / 2) else (decide ((p / 2 : Nat) + 1 = (f 54).toInt) || bt (f 0) (p / 2))
def EL (f : Nat → Int32) (m : Nat) : List Nat := (List.range m).filter (eB f)
theorem EL_s {f : Nat → Int32} {m : Nat} : EL f (m + 1) = EL f m ++ (if eB f m = true then [m] else []) := by
  unfold EL; rw [List.range_succ, List.filter_append]; congr 1
  by_cases h : eB f m = true
  · simp [h]
  · simp [h]
theorem EL_pre {f : Nat → Int32} {m k : Nat} : ∃ r, EL f (m + k) = EL f m ++ r := by
  induction k with
  | zero => exact ⟨[], by simp⟩
  | succ k ih => obtain ⟨r, hr⟩ := ih; exact ⟨r ++ (if eB f (m + k) = true then [m + k] else []), by rw [show m + (k + 1) = m + k + 1 by omega, EL_s, hr, List.append_assoc]⟩
theorem EL_len {f : Nat → Int32} {m : Nat} : (EL f m).length ≤ m := by
  unfold EL; have := List.length_filter_le (eB f) (List.range m); simp at this; exact this
theorem EL_at {f : Nat → Int32} {m M : Nat} (h : m < M) (e : eB f m = true) : (EL f m).length < (EL f M).length ∧ (EL f M).getD (EL f m).length 0 = m ∧ (EL f (m + 1)).length = (EL f m).length + 1 := by
  obtain ⟨r, hr⟩ := EL_pre (f := f) (m := m + 1) (k := M - (m + 1))
  rw [show m + 1 + (M - (m + 1)) = M by omega, EL_s, if_pos e] at hr
  rw [hr, EL_s, if_pos e]
  refine ⟨by simp, ?_, by simp⟩
  simp [List.getD]
theorem EL_no {f : Nat → Int32} {m : Nat} (e : ¬ eB f m = true) : EL f (m + 1) = EL f m := by rw [EL_s, if_neg e, List.append_nil]
theorem EL_lt {f : Nat → Int32} {M j : Nat} (h : j < (EL f M).length) : (EL f M).getD j 0 < M ∧ eB f ((EL f M).getD j 0) = true := by
  have e : (EL f M).getD j 0 = (EL f M)[j] := by simp [List.getD, h]
  have := List.getElem_mem h
  rw [← e] at this
  unfold EL at this
  rw [List.mem_filter, List.mem_range] at this
  exact this
theorem EL_inc {f : Nat → Int32} {M : Nat} : ∀ {j : Nat}, j + 1 < (EL f M).length → (EL f M).getD j 0 < (EL f M).getD (j + 1) 0 := by
  intro j h
  have s : List.Pairwise (· < ·) (EL f M) := List.Pairwise.filter _ List.pairwise_lt_range
  have := List.pairwise_iff_getElem.mp s j (j + 1) (by omega) h (by omega)
  have e1 : (EL f M).getD j 0 = (EL f M)[j] := by simp [List.getD, show j < (EL f M).length by omega]
  have e2 : (EL f M).getD (j + 1) 0 = (EL f M)[j + 1] := by simp [List.getD, h]
  rw [e1, e2]; exact this
/-- line j: from (one more than the place ahead), to -/
def frL (L : List Nat) (j : Nat) : Nat := if j = 0 then 0 else L.getD (j - 1) 0 + 1
def toL (L : List Nat) (j : Nat) : Nat := L.getD j 0
theorem fr_to {f : Nat → Int32} {M j : Nat} (h : j < (EL f M).length) : frL (EL f M) j ≤ toL (EL f M) j ∧ toL (EL f M) j < M := by
  refine ⟨?_, (EL_lt h).1⟩
  unfold frL toL
  by_cases c : j = 0
  · rw [if_pos c]; omega
  · rw [if_neg c]
    have := EL_inc (f := f) (M := M) (j := j - 1) (by omega)
    rw [show j - 1 + 1 = j by omega] at this; omega
/-! the words of a row -/
def wdF (f : Nat → Int32) : Nat → Int32 := fun w => f (2 + w)
def ftF (f : Nat → Int32) : Nat → Int32 := fun w => f (15 + w)
def kdF (f : Nat → Int32) : Nat → Int32 := fun w => f (27 + w)
theorem RD_of {f : Nat → Int32} (M : MW f) {n : Nat} (hn : (f 54).toInt = n) : RD n (wdF f) (ftF f) := fun w hw => by
  have := M.2.1 w (by omega); exact ⟨this.1, this.2.1⟩
theorem XD_of {s : Sg} {g n : Nat} {f : Nat → Int32} (M : MW f) (X : GX s g f) (hn : (f 54).toInt = n) : XD s g n (wdF f) (ftF f) (kdF f) :=
  ⟨by rw [X.1.1, hn], by have := M.1.2; omega, fun w hw => X.2.1 w (by omega)⟩
theorem MD_of {s : Sg} {n : Nat} (M : MW (s.1 43 0)) (hn : (rI s 43 0 54).toInt = n) (h1 : rI s 10 0 36 = rI s 43 0 54) (h2 : ∀ w : Nat, (w : Int) < (rI s 43 0 54).toInt → (rI s 57 0 w).toInt = w) : MD s n (wdF (s.1 43 0)) (ftF (s.1 43 0)) (kdF (s.1 43 0)) := by
  have n12 : (rI s 43 0 54).toInt ≤ 12 := M.1.2
  exact ⟨by rw [h1, hn], by omega, fun w hw => ⟨w, by omega, h2 w (by omega), rfl, rfl, rfl⟩⟩
def LWF (f : Nat → Int32) (C : List Cla) : Prop := ((f 57).toInt = -1 ∧ C = []) ∨ ∃ l : Nat, l < 6 ∧ (f 57).toInt = l ∧ lawM (f (58 + l)) (fun k => f (65 + 400 * l + k)) (fun k => f (2865 + 400 * l + k)) C ∧ ∀ c ∈ C, wfC c
/-- the law in force -/
theorem law_now {s : Sg} {g : Nat} {f : Nat → Int32} (A : GA s g f) : ∃ lw C, x1_lawInForce s g = some (s, lw) ∧ LWX s lw C ∧ LWF f C := by
  obtain ⟨M, X, L⟩ := A
  obtain ⟨m1, m2, m3⟩ := M.2.2.2.2.2
  have e12 : rI s 1 g 12 = f 57 := X.2.2.2.2.2
  have e11 : rI s 1 g 11 = f 56 := X.2.2.2.2.1
  by_cases c : (f 57).toInt = -1
  · refine ⟨0, [], ?_, .inl ⟨rfl, rfl⟩, .inl ⟨c, rfl⟩⟩
    unfold x1_lawInForce x1_lawInForce_G x1_lawOf x1_lawOf_G
    rw [e12, gif_t (by rw [ti_lt, c]; decide)]; rfl
  · obtain ⟨l, hl⟩ : ∃ l : Nat, (f 57).toInt = l := ⟨_, (Int.toNat_of_nonneg (by omega)).symm⟩
    obtain ⟨t, t1, t2, t3, C, wf, LC, LM⟩ := L l (by omega)
    refine ⟨t + 1, C, ?_, .inr ⟨t, rfl, LC, wf⟩, .inr ⟨l, by omega, hl, LM, wf⟩⟩
    unfold x1_lawInForce x1_lawInForce_G x1_lawOf x1_lawOf_G
    rw [e12, e11, gif_f (by rw [ti_lt, hl, li_0]; omega), gif_t (by rw [ti_lt]; omega), gif_t (by rw [ti_lt, hl, li_6]; omega), gd_t (inb_iff.mpr (by omega)), show ix (f 57) = l by rw [ix_eq, hl]; omega, t3]
    rfl
/-- what the sheet tells of line j -/
noncomputable def FL (f : Nat → Int32) (n j : Nat) : Nat → Int32 := LFV (nI j) (wdF f) (ftF f) (kdF f) n (frL (EL f (2 * n)) j) (toL (EL f (2 * n)) j) (f 53) (f 52) (f 14)
def ToldR (s : Sg) (f : Nat → Int32) (C : List Cla) (n j : Nat) : Prop :=
  (rI s 74 0 j).toInt = toL (EL f (2 * n)) j ∧ (rI s 74 1 j).toInt = lwid (wdF f) (ftF f) (frL (EL f (2 * n)) j) (toL (EL f (2 * n)) j) ∧ (rI s 74 2 j).toInt = lpcs (frL (EL f (2 * n)) j) (toL (EL f (2 * n)) j) ∧
  rI s 74 3 j = LCo (FL f n j) C n (toL (EL f (2 * n)) j) ∧ rI s 74 4 j = LPa (FL f n j) C ∧ rI s 74 5 j = bI (barr (FL f n j) C) ∧ rI s 74 6 j = bI (LFi (wdF f) (ftF f) (frL (EL f (2 * n)) j) (toL (EL f (2 * n)) j) (f 53) (FL f n j) C)
def Told (s : Sg) (f : Nat → Int32) (C : List Cla) (n : Nat) : Prop := (rI s 7 0 4).toInt = (EL f (2 * n)).length ∧ ∀ j, j < (EL f (2 * n)).length → ToldR s f C n j
theorem ok_writeDown {s : Sg} {a : Int32} {j : Nat} (ha : a.toInt = j) (hj : j < 24) (h7 : isB (rI s 2 0 7)) (h8 : isB (rI s 2 0 8)) : ok (x7_writeDown s a) (fun s' => (rI s' 74 0 j = rI s 2 0 2 ∧ rI s' 74 1 j = rI s 2 0 3 ∧ rI s' 74 2 j = rI s 2 0 4 ∧ rI s' 74 3 j = rI s 2 0 5 ∧ rI s' 74 4 j = rI s 2 0 6 ∧ rI s' 74 5 j = rI s 2 0 7 ∧ rI s' 74 6 j = rI s 2 0 8) ∧
    (∀ w i, i ≠ j → rI s' 74 w i = rI s 74 w i) ∧ ∀ k i c, k ≠ 74 → rI s' k i c = rI s k i c) := by
  have ia : ix a = j := by rw [ix_eq, ha]; omega
  have ba : inb a 24 := inb_iff.mpr (by omega)
  unfold x7_writeDown x7_writeDown_G x7_writeDown_b108 x7_writeDown_b108_G
  rw [gif_f (by rw [ti_lt, ha, li_0]; omega), gif_t (by rw [ti_lt, ha, li_24]; omega)]
  simp (disch := omega) only [gd_t ba, ia, rI_ne, show ix 0 = 0 from rfl, show ix 1 = 1 from rfl, show ix 2 = 2 from rfl, show ix 3 = 3 from rfl, show ix 4 = 4 from rfl, show ix 5 = 5 from rfl, show ix 6 = 6 from rfl]
  rw [gd_t (by rw [inb_iff]; decide), gd_t (by rw [inb_iff]; decide), gd_t (by rw [inb_iff]; decide), gd_t (by rw [inb_iff]; decide), gd_t (by rw [inb_iff]; decide), gd_t (by rw [inb_iff]; decide)]
  have fin : ∀ x y : Int32, x = rI s 2 0 7 → y = rI s 2 0 8 → ok (some (wI (wI (wI (wI (wI (wI (wI s 74 0 j (rI s 2 0 2)) 74 1 j (rI s 2 0 3)) 74 2 j (rI s 2 0 4)) 74 3 j (rI s 2 0 5)) 74 4 j (rI s 2 0 6)) 74 5 j x) 74 6 j y)) (fun s' => (rI s' 74 0 j = rI s 2 0 2 ∧ rI s' 74 1 j = rI s 2 0 3 ∧ rI s' 74 2 j = rI s 2 0 4 ∧ rI s' 74 3 j = rI s 2 0 5 ∧ rI s' 74 4 j = rI s 2 0 6 ∧ rI s' 74 5 j = rI s 2 0 7 ∧ rI s' 74 6 j = rI s 2 0 8) ∧
      (∀ w i, i ≠ j → rI s' 74 w i = rI s 74 w i) ∧ ∀ k i c, k ≠ 74 → rI s' k i c = rI s k i c) := by
    intro x y hx hy
    refine ok_some ⟨?_, fun w i hi => by simp (disch := omega) only [rI_ne], fun k i c hk => by simp (disch := omega) only [rI_ne]⟩
    simp (disch := omega) only [rI_ne, rI_eq]
    exact ⟨trivial, trivial, trivial, trivial, trivial, hx, hy⟩
  simp only [gd_t (show inb 6 7 by rw [inb_iff]; decide)]
  rcases h7 with h7 | h7 <;> rcases h8 with h8 | h8
  · rw [gif_t h7, gif_t h8]; exact fin 0 0 h7.symm h8.symm
  · rw [gif_t h7, gif_f (by rw [h8]; decide)]; exact fin 0 1 h7.symm h8.symm
  · rw [gif_f (by rw [h7]; decide), gif_t h8]; exact fin 1 0 h7.symm h8.symm
  · rw [gif_f (by rw [h7]; decide), gif_f (by rw [h8]; decide)]; exact fin 1 1 h7.symm h8.symm
theorem q_endsAt {s : Sg} {g n : Nat} {f : Nat → Int32} (M : MW f) (X : GX s g f) (hn : (f 54).toInt = n) {p : Nat} (hp : p < 2 * n) {a : Int32} (ha : a.toInt = p) : x1_endsAt s g a = some (s, bI (eB f p = true)) := by
  have n12 := M.1
  have e7 : rI s 1 g 7 = f 54 := X.1.1
  have td : (a / 2).toInt = p / 2 := by rw [ti_div2 (by omega), ha]
  unfold x1_endsAt x1_endsAt_G
  rw [gd_t (by decide), gd_t (by decide), gd_t (by decide), q_x1_isSplit (by rw [e7]; omega), q_x1_endsAfter (by rw [e7]; omega) (by rw [e7]; omega)]
  simp only [Option.bind_some, gdB0, gdB1, gdbI, gifbI]
  rw [ti_eq, ti_rem (by omega) (by decide), ha, li_0, li_2, td, e7, X.1.2.1, X.1.2.2]
  unfold eB
  refine gif_eq (fun c => pr (bI_congr ?_)) (fun c => pr (bI_congr ?_))
  · rw [if_pos (by omega), show ((p : Int) / 2).toNat = p / 2 by omega]; constructor
    · exact fun h => h.2
    · exact fun h => ⟨by omega, h⟩
  · rw [if_neg (by omega), show ((p : Int) / 2).toNat = p / 2 by omega, Bool.or_eq_true, decide_eq_true_iff]
    constructor
    · rintro ⟨-, h | h⟩
      · left; omega
      · exact .inr h
    · rintro (h | h)
      · exact ⟨by omega, .inl (by omega)⟩
      · exact ⟨by omega, .inr h⟩
theorem ok_readSetting {s : Sg} {g n : Nat} {f : Nat → Int32} (A : GA s g f) (hn : (f 54).toInt = n) {lw : Nat} {C : List Cla} (hlw : ∀ s', rI s' 1 g 11 = rI s 1 g 11 → rI s' 1 g 12 = rI s 1 g 12 → (∀ c, rN s' 18 g c = rN s 18 g c) → x1_lawInForce s' g = some (s', lw)) (hL : LWX s lw C) :
    ok (x7_readSetting s g) (fun s' => Told s' f C n) := by
  obtain ⟨M, X, -⟩ := A
  have n12 := M.1
  have R := RD_of M hn
  unfold x7_readSetting x7_readSetting_G
  -- what stays all along
  let Kp : Sg → Prop := fun s1 => (∀ k c, k = 1 ∨ (12 ≤ k ∧ k ≤ 17) → rI s1 k g c = rI s k g c) ∧ (∀ c, rN s1 18 g c = rN s 18 g c) ∧ (∀ t k c, k = 8 ∨ (31 ≤ k ∧ k ≤ 36) → rI s1 k t c = rI s k t c) ∧ ∀ t c, rN s1 36 t c = rN s 36 t c
  have KX : ∀ s1, Kp s1 → GX s1 g f := fun s1 h => GX_c ⟨n12.2, M.2.2.2.2.1.1.2⟩ (fun c _ => h.1 1 c (by omega)) (fun c => h.1 12 c (by omega)) (fun c => h.1 13 c (by omega)) (fun c => h.1 14 c (by omega)) (fun c => h.1 15 c (by omega)) (fun c => h.1 16 c (by omega)) (fun c => h.1 17 c (by omega)) (fun i _ => rfl) X
  have KL : ∀ s1, Kp s1 → LWX s1 lw C := fun s1 h => by
    rcases hL with h0 | ⟨t, h1, h2, h3⟩
    · exact .inl h0
    · exact .inr ⟨t, h1, lawC_c (funext fun c => h.2.2.1 t 8 c (by omega)) (funext fun c => h.2.2.1 t 31 c (by omega)) (funext fun c => h.2.2.1 t 33 c (by omega)) (funext fun c => h.2.2.1 t 35 c (by omega)) (funext fun c => h.2.2.1 t 36 c (by omega)) (h.2.2.2 t 0) h2, h3⟩
  have Kfr : ∀ {L : FPt} {a b : Sg}, Kp a → Fr L a b → clr L [1, 12, 13, 14, 15, 16, 17, 18] g = true → (∀ t, clr L [8, 31, 32, 33, 34, 35, 36] t = true) → Kp b := by
    intro L a b h F c1 c2
    refine ⟨fun k c hk => ?_, fun c => ?_, fun t k c hk => ?_, fun t c => ?_⟩
    · rw [F.i k g c (clr_no c1 (by rcases (by omega : k = 1 ∨ k = 12 ∨ k = 13 ∨ k = 14 ∨ k = 15 ∨ k = 16 ∨ k = 17) with rfl | rfl | rfl | rfl | rfl | rfl | rfl <;> rfl))]; exact h.1 k c hk
    · rw [F.n 18 g c (clr_no c1 rfl)]; exact h.2.1 c
    · rw [F.i k t c (clr_no (c2 t) (by rcases (by omega : k = 8 ∨ k = 31 ∨ k = 32 ∨ k = 33 ∨ k = 34 ∨ k = 35 ∨ k = 36) with rfl | rfl | rfl | rfl | rfl | rfl | rfl <;> rfl))]; exact h.2.2.1 t k c hk
    · rw [F.n 36 t c (clr_no (c2 t) rfl)]; exact h.2.2.2 t c
  have K0 : Kp (wI s 7 0 4 0) := ⟨fun k c hk => rI_ne (by omega), fun c => rfl, fun t k c hk => rI_ne (by omega), fun t c => rfl⟩
  refine ok_loop (K := fun k (p : Sg × Int32 × Int32) => x7_readSetting_b9 k p.1 g p.2.1 p.2.2) (I := fun p => ∃ m : Nat, m ≤ 2 * n ∧ p.2.2.toInt = m ∧ p.2.1.toInt = (frL (EL f (2 * n)) (EL f m).length : Int) - 1 ∧ Kp p.1 ∧ (rI p.1 7 0 4).toInt = (EL f m).length ∧ ∀ j, j < (EL f m).length → ToldR p.1 f C n j)
    (μ := fun p => 25 - p.2.2.toInt.toNat) ?_ FU (wI s 7 0 4 0, -1, 0) ⟨0, by omega, rfl, by simp [EL, frL], K0, by simp only [rI_eq]; rfl, fun j hj => absurd hj (by simp [EL])⟩ (by show _ < 20000; omega)
  rintro k ⟨s1, l2, l3⟩ ⟨m, m1, m2, m3, m4, m5, m6⟩ ih
  simp only at m1 m2 m3 m4 m5 m6 ih
  show ok (x7_readSetting_b9_G _ _ _ _ _ _ s1 g l2 l3) _
  unfold x7_readSetting_b9_G
  have X1 := KX s1 m4
  have t2 : (2 * rI s1 1 g 7).toInt = 2 * n := by rw [ti_mul (by rw [X1.1.1, hn, li_2]; omega) (by rw [X1.1.1, hn, li_2]; omega), X1.1.1, hn, li_2]
  have ml : (EL f m).length ≤ m := EL_len
  refine ok_gif (fun c => ?_) (fun c => ?_)
  · rw [ti_lt, m2, t2] at c
    rw [gif_t (by rw [ti_lt, m5, li_24]; omega), q_endsAt M X1 hn (by omega) m2]
    simp only [Option.bind_some, gdB0, gdB1, gdbI, gifbI]
    have tl : (l3 + 1).toInt = m + 1 := by rw [ti_add (by rw [m2, li_1]; omega) (by rw [m2, li_1]; omega), m2, li_1]
    refine ok_gif (fun e => ?_) (fun e => ?_)
    · obtain ⟨a1, a2, a3⟩ := EL_at (f := f) (show m < 2 * n by omega) e
      have hto : toL (EL f (2 * n)) (EL f m).length = m := a2
      have ft := fr_to a1
      rw [hto] at ft
      refine ok_bind (ok_fr (ok_measureUp (XD_of M X1 hn) R ft.1 (by omega) m3 m2) (fr_x2_measureUp _ _ _ _ _) (fun s2 ⟨p1, p2, p3⟩ F2 => ?_))
      have c74 : ∀ w i, rI s2 74 w i = rI s1 74 w i := fun w i => F2.i _ _ _ (nh rfl)
      have K2 : Kp s2 := Kfr m4 F2 rfl (fun t => by rfl)
      have X2 := KX s2 K2
      have e74 : rI s2 7 0 4 = rI s1 7 0 4 := F2.i _ _ _ (nh rfl)
      rw [hlw s2 (K2.1 1 11 (by omega)) (K2.1 1 12 (by omega)) K2.2.1]
      simp only [Option.bind_some]
      have go : ok (gd (inb 3 4) ((x2_judge s2 0 g lw (rI s2 15 g (ix 3)) (rI s2 7 0 4) 0).bind fun s5 => (x7_writeDown s5 (rI s5 7 0 4)).bind fun s6 => x7_readSetting_b9 k (wI s6 7 0 4 (rI s6 7 0 4 + 1)) g l3 (l3 + 1))) (fun s' => Told s' f C n) := by
        rw [gd_t (by rw [inb_iff]; decide), show ix 3 = 3 from rfl, X2.2.2.1.2.2.2]
        refine ok_bind (ok_fr (ok_judge (fr := frL (EL f (2 * n)) (EL f m).length) (to := m) (mea := f 53) (num := rI s2 7 0 4) (bars := 0) (XD_of M X2 hn) (KL s2 K2) (by omega) (by rw [p1]; exact m2) p2 p3) (fr_x2_judge _ _ _ _ _ _ _) (fun s5 ⟨j1, j2, j3, j4⟩ F5 => ?_))
        have K5 : Kp s5 := Kfr K2 F5 rfl (fun t => by rfl)
        have n74 : rI s5 7 0 4 = rI s1 7 0 4 := by rw [F5.i 7 0 4 (nh rfl), e74]
        have j0 := j1 rfl
        rw [n74]
        refine ok_bind (ok_fr (ok_writeDown (j := (EL f m).length) m5 (by omega) (by rw [j2]; exact bI_B) (by rw [j3]; exact bI_B)) (fr_x7_writeDown _ _) (fun s6 ⟨w1, w2, w3⟩ F6 => ?_))
        have K6 : Kp s6 := Kfr K5 F6 rfl (fun t => by rfl)
        have n76 : rI s6 7 0 4 = rI s1 7 0 4 := by rw [w3 _ _ _ (by omega), n74]
        have tn : (rI s1 7 0 4 + 1).toInt = (EL f m).length + 1 := by rw [ti_add (by rw [m5, li_1]; omega) (by rw [m5, li_1]; omega), m5, li_1]
        have eN : rI s2 7 0 4 = nI (EL f m).length := by rw [e74, ti_eq, m5, nI_ti (by omega)]
        have T15 := X2.2.2.1
        rw [eN, T15.2.2.1, T15.1] at j0 j2 j3
        have eF : LFV (nI (EL f m).length) (wdF f) (ftF f) (kdF f) n (frL (EL f (2 * n)) (EL f m).length) m (f 53) (f 52) (f 14) = FL f n (EL f m).length := by unfold FL; rw [hto]
        rw [eF] at j0 j2 j3
        rw [n76]
        refine ih (wI s6 7 0 4 (rI s1 7 0 4 + 1), l3, l3 + 1) ⟨m + 1, by omega, by rw [tl]; omega, ?_, ⟨fun k c hk => by rw [rI_ne (by omega)]; exact K6.1 k c hk, fun c => K6.2.1 c, fun t k c hk => by rw [rI_ne (by omega)]; exact K6.2.2.1 t k c hk, fun t c => K6.2.2.2 t c⟩, by simp only [rI_eq]; rw [tn, a3]; omega, fun j hj => ?_⟩ (by simp only [tl, m2]; omega)
        · simp only []
          rw [a3, m2]; unfold frL; rw [if_neg (by omega)]
          simp only [Nat.add_sub_cancel]
          rw [a2]; omega
        · rw [a3] at hj
          unfold ToldR
          simp (disch := omega) only [rI_ne]
          by_cases q : j = (EL f m).length
          · subst q
            rw [w1.1, w1.2.1, w1.2.2.1, w1.2.2.2.1, w1.2.2.2.2.1, w1.2.2.2.2.2.1, w1.2.2.2.2.2.2, j4 2 (by omega), j4 3 (by omega), j4 4 (by omega), p1, m2, p2, p3, j0.1, j0.2, j2, j3, hto, p2]
            exact ⟨rfl, rfl, rfl, rfl, rfl, rfl, rfl⟩
          · have u := m6 j (by omega)
            have cc : ∀ w, rI s6 74 w j = rI s1 74 w j := fun w => by rw [w2 w j q, F5.i 74 w j (nh rfl), c74]
            rw [cc, cc, cc, cc, cc, cc, cc]; exact u
      cases lw with
      | zero => exact go
      | succ t => exact go
    · refine ih (s1, l2, l3 + 1) ⟨m + 1, by omega, by rw [tl]; omega, by rw [EL_no e]; exact m3, m4, by rw [EL_no e]; exact m5, by rw [EL_no e]; exact m6⟩ (by simp only [tl, m2]; omega)
  · rw [ti_lt, m2, t2] at c
    have em : m = 2 * n := by omega
    subst em
    exact ok_some ⟨m5, m6⟩
/-! the model -/
def SetR (s : Sg) (f : Nat → Int32) (n : Nat) : Prop := (rI s 10 0 43).toInt = (EL f (2 * n)).length ∧ ∀ j, j < (EL f (2 * n)).length → (rI s 58 0 j).toInt = toL (EL f (2 * n)) j
theorem ok_laysSetting {s : Sg} {n : Nat} (M : MW (s.1 43 0)) (hn : (rI s 43 0 54).toInt = n) : ok (m_laysSetting s) (fun s' => SetR s' (s.1 43 0) n ∧ ∀ k i c, k ≠ 58 → ¬ (k = 10 ∧ i = 0 ∧ c = 43) → rI s' k i c = rI s k i c) := by
  have n12 : (rI s 43 0 54).toInt ≤ 12 := M.1.2
  have e : ∀ p, eB (s.1 43 0) p = if p % 2 = 0 then bt (rI s 43 0 1) (p / 2) else (decide ((p / 2 : Nat) + 1 = (rI s 43 0 54).toInt) || bt (rI s 43 0 0) (p / 2)) := fun p => rfl
  let Kp : Sg → Prop := fun s1 => ∀ k i c, k ≠ 58 → ¬ (k = 10 ∧ i = 0 ∧ c = 43) → rI s1 k i c = rI s k i c
  unfold m_laysSetting m_laysSetting_G
  refine ok_loop (K := fun k (p : Sg × Int32) => m_laysSetting_b7 k p.1 p.2) (I := fun p => ∃ w : Nat, w ≤ n ∧ p.2.toInt = w ∧ Kp p.1 ∧ (rI p.1 10 0 43).toInt = (EL (s.1 43 0) (2 * w)).length ∧ ∀ j, j < (EL (s.1 43 0) (2 * w)).length → (rI p.1 58 0 j).toInt = toL (EL (s.1 43 0) (2 * n)) j)
    (μ := fun p => 13 - p.2.toInt.toNat) ?_ FU (wI s 10 0 43 0, 0) ⟨0, by omega, rfl, fun k i c h1 h2 => by rw [rI_wI, if_neg h2], by simp only [rI_eq]; rfl, fun j hj => absurd hj (by simp [EL])⟩ (by show _ < 20000; omega)
  rintro k ⟨s1, l⟩ ⟨w, w1, w2, w3, w4, w5⟩ ih
  simp only at w1 w2 w3 w4 w5 ih
  show ok (m_laysSetting_b7_G _ _ _ s1 l) _
  unfold m_laysSetting_b7_G
  have e54 : rI s1 43 0 54 = rI s 43 0 54 := w3 _ _ _ (by omega) (by omega)
  simp only [q_m_wordMany, Option.bind_some, e54]
  refine ok_gif (fun c => ?_) (fun c => ?_)
  · rw [ti_lt, w2, hn] at c
    have ll : (EL (s.1 43 0) (2 * w)).length ≤ 2 * w := EL_len
    have tl : (l + 1).toInt = w + 1 := by rw [ti_add (by rw [w2, li_1]; omega) (by rw [w2, li_1]; omega), w2, li_1]
    -- behind the word's own split
    have b45 : ∀ s2 : Sg, Kp s2 → (rI s2 10 0 43).toInt = (EL (s.1 43 0) (2 * w + 1)).length → (∀ j, j < (EL (s.1 43 0) (2 * w + 1)).length → (rI s2 58 0 j).toInt = toL (EL (s.1 43 0) (2 * n)) j) → ok (m_laysSetting_b45 (m_laysSetting_b7 k) s2 l) (fun s' => SetR s' (s.1 43 0) n ∧ ∀ k i c, k ≠ 58 → ¬ (k = 10 ∧ i = 0 ∧ c = 43) → rI s' k i c = rI s k i c) := by
      intro s2 k2 h2 h3
      have ll2 : (EL (s.1 43 0) (2 * w + 1)).length ≤ 2 * w + 1 := EL_len
      have a54 : rI s2 43 0 54 = rI s 43 0 54 := k2 _ _ _ (by omega) (by omega)
      have a0 : rI s2 43 0 0 = rI s 43 0 0 := k2 _ _ _ (by omega) (by omega)
      unfold m_laysSetting_b45 m_laysSetting_b45_G
      rw [q_m_endsAfter (by rw [a54]; omega) (by omega) (by omega), a54, a0]
      simp only [Option.bind_some, gdB0, gdB1, gdbI, gifbI]
      have eq : (l.toInt = (rI s 43 0 54).toInt - 1 ∨ bt (rI s 43 0 0) l.toInt.toNat = true) ↔ eB (s.1 43 0) (2 * w + 1) = true := by
        rw [e, if_neg (by omega), show (2 * w + 1) / 2 = w by omega, Bool.or_eq_true, decide_eq_true_iff, show l.toInt.toNat = w by omega]
        constructor
        · rintro (h | h)
          · left; omega
          · exact .inr h
        · rintro (h | h)
          · left; omega
          · exact .inr h
      rw [eq]
      refine ok_gif (fun d => ?_) (fun d => ?_)
      · obtain ⟨a1, a2, a3⟩ := EL_at (f := s.1 43 0) (show 2 * w + 1 < 2 * n by omega) d
        rw [gd_t (inb_iff.mpr (by rw [h2]; omega))]
        have t1 : (2 * l + 1).toInt = 2 * w + 1 := by simp (disch := omega) only [Int32.toInt_add, Int32.toInt_sub, Int32.toInt_mul, Int32.toInt_neg, bm32, li_0, li_1, li_2, li_3, li_4, li_5, li_6, li_7, li_8, li_9, li_10, li_11, li_12, li_13, li_14, li_15, li_16, li_17, li_18, li_19, li_20, li_21, li_22, li_23, li_24, li_25, li_26, li_27, li_28, li_29, li_30, li_31, li_32, li_33, li_34, li_35, li_36, li_37, li_38, li_39, li_40, li_41, li_42, li_43, li_44, li_45, li_46, li_47, li_48, li_49, li_50, li_51, li_52, li_53, li_54, li_55, li_56, li_57, li_58, li_59, li_60, li_61, li_62, li_63, li_64, li_65, li_66, li_67, li_68, li_69, li_70, li_71, li_72, li_73, li_74, li_75, li_76, li_77, li_78, li_91, li_93, li_96, li_97, li_99, li_100, li_122, li_138, li_255, li_256, li_400, li_401, li_625, li_800, li_999, li_1000, li_1001, li_1103, li_2000, li_2037, li_2038, li_2039, li_2040, li_2041, li_2042, li_2043, li_2044, li_2045, li_2046, li_2047, li_2048, li_2049, li_2050, li_2051, li_2052, li_2053, li_2054, li_2055, li_2056, li_2057, li_2058, li_2059, li_2060, li_2061, li_2062, li_2091, li_2093, li_2400, li_2865, li_3000, li_3002, li_3003, li_3005, li_3006, li_3007, li_3008, li_3009, li_3010, li_3011, li_3012, li_3013, li_3020, li_3024, li_3025, li_3026, li_3999, li_4000, li_4095, li_4096, li_5665, li_11330, li_12345, li_15625, li_1000000, li_1000003, li_100000000, li_1000000000, ti_lt, ti_eq, inb_iff, ix_eq, w2]
        have ti : ix (rI s2 10 0 43) = (EL (s.1 43 0) (2 * w + 1)).length := by rw [ix_eq, h2]; omega
        have tn : (rI s2 10 0 43 + 1).toInt = (EL (s.1 43 0) (2 * w + 1)).length + 1 := by rw [ti_add (by rw [h2, li_1]; omega) (by rw [h2, li_1]; omega), h2, li_1]
        rw [ti]
        simp (disch := omega) only [rI_ne]
        refine ih (wI (wI s2 58 0 (EL (s.1 43 0) (2 * w + 1)).length (2 * l + 1)) 10 0 43 (rI s2 10 0 43 + 1), l + 1) ⟨w + 1, by omega, by rw [tl]; omega, fun k i c g1 g2 => by rw [rI_wI, if_neg g2, rI_ne (by omega)]; exact k2 k i c g1 g2, by simp only [rI_eq]; rw [tn, show 2 * (w + 1) = 2 * w + 1 + 1 by omega, a3]; omega, fun j hj => ?_⟩ (by simp only [tl, w2]; omega)
        simp (disch := omega) only [rI_ne]
        rw [show 2 * (w + 1) = 2 * w + 1 + 1 by omega, a3] at hj
        by_cases q : j = (EL (s.1 43 0) (2 * w + 1)).length
        · subst q; rw [rI_eq rfl, t1]; unfold toL; rw [a2]; omega
        · rw [rI_ne (by omega)]; exact h3 j (by omega)
      · have en := EL_no d
        refine ih (s2, l + 1) ⟨w + 1, by omega, by rw [tl]; omega, k2, by rw [show 2 * (w + 1) = 2 * w + 1 + 1 by omega, en]; exact h2, by rw [show 2 * (w + 1) = 2 * w + 1 + 1 by omega, en]; exact h3⟩ (by simp only [tl, w2]; omega)
    rw [q_m_isSplit (by omega) (by omega), w3 43 0 1 (by omega) (by omega)]
    simp only [Option.bind_some, gdB0, gdB1, gdbI, gifbI]
    have eq : (bt (rI s 43 0 1) l.toInt.toNat = true) ↔ eB (s.1 43 0) (2 * w) = true := by
      rw [e, if_pos (by omega), show 2 * w / 2 = w by omega, show l.toInt.toNat = w by omega]
    rw [eq]
    refine ok_gif (fun d => ?_) (fun d => ?_)
    · obtain ⟨a1, a2, a3⟩ := EL_at (f := s.1 43 0) (show 2 * w < 2 * n by omega) d
      rw [gd_t (inb_iff.mpr (by rw [w4]; omega))]
      have t1 : (2 * l).toInt = 2 * w := by simp (disch := omega) only [Int32.toInt_add, Int32.toInt_sub, Int32.toInt_mul, Int32.toInt_neg, bm32, li_0, li_1, li_2, li_3, li_4, li_5, li_6, li_7, li_8, li_9, li_10, li_11, li_12, li_13, li_14, li_15, li_16, li_17, li_18, li_19, li_20, li_21, li_22, li_23, li_24, li_25, li_26, li_27, li_28, li_29, li_30, li_31, li_32, li_33, li_34, li_35, li_36, li_37, li_38, li_39, li_40, li_41, li_42, li_43, li_44, li_45, li_46, li_47, li_48, li_49, li_50, li_51, li_52, li_53, li_54, li_55, li_56, li_57, li_58, li_59, li_60, li_61, li_62, li_63, li_64, li_65, li_66, li_67, li_68, li_69, li_70, li_71, li_72, li_73, li_74, li_75, li_76, li_77, li_78, li_91, li_93, li_96, li_97, li_99, li_100, li_122, li_138, li_255, li_256, li_400, li_401, li_625, li_800, li_999, li_1000, li_1001, li_1103, li_2000, li_2037, li_2038, li_2039, li_2040, li_2041, li_2042, li_2043, li_2044, li_2045, li_2046, li_2047, li_2048, li_2049, li_2050, li_2051, li_2052, li_2053, li_2054, li_2055, li_2056, li_2057, li_2058, li_2059, li_2060, li_2061, li_2062, li_2091, li_2093, li_2400, li_2865, li_3000, li_3002, li_3003, li_3005, li_3006, li_3007, li_3008, li_3009, li_3010, li_3011, li_3012, li_3013, li_3020, li_3024, li_3025, li_3026, li_3999, li_4000, li_4095, li_4096, li_5665, li_11330, li_12345, li_15625, li_1000000, li_1000003, li_100000000, li_1000000000, ti_lt, ti_eq, inb_iff, ix_eq, w2]
      have ti : ix (rI s1 10 0 43) = (EL (s.1 43 0) (2 * w)).length := by rw [ix_eq, w4]; omega
      have tn : (rI s1 10 0 43 + 1).toInt = (EL (s.1 43 0) (2 * w)).length + 1 := by rw [ti_add (by rw [w4, li_1]; omega) (by rw [w4, li_1]; omega), w4, li_1]
      rw [ti]
      simp (disch := omega) only [rI_ne]
      refine b45 _ (fun k i c g1 g2 => by rw [rI_wI, if_neg g2, rI_ne (by omega)]; exact w3 k i c g1 g2) (by rw [rI_eq rfl, tn, a3]; omega) (fun j hj => ?_)
      simp (disch := omega) only [rI_ne]
      rw [a3] at hj
      by_cases q : j = (EL (s.1 43 0) (2 * w)).length
      · subst q; rw [rI_eq rfl, t1]; unfold toL; rw [a2]; omega
      · rw [rI_ne (by omega)]; exact w5 j (by omega)
    · have en := EL_no d
      exact b45 s1 w3 (by rw [en]; exact w4) (by rw [en]; exact w5)
  · rw [ti_lt, w2, hn] at c
    have ew : w = n := by omega
    subst ew
    exact ok_some ⟨⟨w4, w5⟩, w3⟩
theorem ok_takesSet {s : Sg} {f : Nat → Int32} {n j : Nat} (D : MD s n (wdF f) (ftF f) (kdF f)) (R : RD n (wdF f) (ftF f)) (S : SetR s f n) (h53 : rI s 43 0 53 = f 53) (hj : j < (EL f (2 * n)).length) {a : Int32} (ha : a.toInt = j) :
    ok (m_takesSet s a) (fun s' => Lin s' (wdF f) (ftF f) (nI j) (frL (EL f (2 * n)) j) (toL (EL f (2 * n)) j) (f 53) ∧ ∀ k i c, ¬ (k = 10 ∧ i = 0 ∧ 37 ≤ c ∧ c ≤ 41) → rI s' k i c = rI s k i c) := by
  have ft := fr_to hj
  have n12 := D.2.1
  have jl : j < 24 := by have : (EL f (2 * n)).length ≤ 2 * n := EL_len; omega
  have ea : a = nI j := by rw [ti_eq, ha, nI_ti (by omega)]
  have ia : ix a = j := by rw [ix_eq, ha]; omega
  have ba : inb a 24 := inb_iff.mpr (by omega)
  have S1 := S.2 j hj
  have fin : ∀ F : Int32, F.toInt = (frL (EL f (2 * n)) j : Int) - 1 → ok (m_takesLine s a F (rI s 58 0 j) (f 53)) (fun s' => Lin s' (wdF f) (ftF f) (nI j) (frL (EL f (2 * n)) j) (toL (EL f (2 * n)) j) (f 53) ∧ ∀ k i c, ¬ (k = 10 ∧ i = 0 ∧ 37 ≤ c ∧ c ≤ 41) → rI s' k i c = rI s k i c) := by
    intro F hF
    refine ok_fr (ok_takesLine D R ft.1 (by omega) hF S1) (fr_m_takesLine _ _ _ _ _) (fun s' ⟨p1, p2, p3, p4, p5⟩ Fr' => ⟨⟨p1, p2, by rw [p3, ea], by rw [p4]; exact S1, p5⟩, fun k i c hk => Fr'.i k i c (by intro x; simp [hit] at x; omega)⟩)
  unfold m_takesSet m_takesSet_G
  simp only [bindv, gd_t ba, ia, gd_t k53.1, k53.2, h53]
  refine ok_gif (fun c => fin (-1) ?_) (fun c => ?_)
  · have j0 : j = 0 := by rw [ti_eq, ha, li_0] at c; omega
    subst j0; rfl
  · have j0 : j ≠ 0 := by rw [ti_eq, ha, li_0] at c; omega
    have t1 : (a - 1).toInt = ((j - 1 : Nat) : Int) := by rw [ti_sub (by rw [ha, li_1]; omega) (by rw [ha, li_1]; omega), ha, li_1]; omega
    rw [gd_t (inb_iff.mpr (by rw [t1]; omega)), show ix (a - 1) = j - 1 by rw [ix_eq, t1]; omega]
    refine fin _ ?_
    rw [S.2 (j - 1) (by omega)]
    unfold frL toL; rw [if_neg j0]; omega
