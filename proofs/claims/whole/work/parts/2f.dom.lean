/-! what does not ask the line's number does not change with it; a longer line is not narrower -/
theorem evA_c {F G : Nat → Int32} : ∀ {P : List Ins} {n : Nat} {k : List Int64}, (∀ i ∈ P, i.1 = 2 → F i.2 = G i.2) → evA F P n k = evA G P n k := by
  intro P
  induction P with
  | nil => intro n k _; cases n <;> rfl
  | cons i r ih =>
    intro n k h
    have ih' : ∀ n k, evA F r n k = evA G r n k := fun n k => ih (fun j hj => h j (List.mem_cons_of_mem _ hj))
    cases n with
    | succ n => exact ih' n k
    | zero =>
      have h0 := h i (List.mem_cons_self ..)
      unfold evA
      simp only [ih']
      by_cases c : i.1 = 2
      · rw [h0 c]
      · simp only [if_neg c]
def off0 (F G : Nat → Int32) : Prop := ∀ i, i ≠ 0 → F i = G i
theorem nl_ev {F G : Nat → Int32} (h : off0 F G) {P : List Ins} (hP : noLine P) {n : Nat} {k : List Int64} : evA F P n k = evA G P n k :=
  evA_c (fun i hi e => h _ (fun z => hP i hi ⟨e, z⟩))
theorem nl_clH {F G : Nat → Int32} (h : off0 F G) {c : Cla} (hc : noLineC c) : clH F c = clH G c := by
  unfold clH
  obtain ⟨a, b, o⟩ := c
  cases o with
  | none => rfl
  | some T => simp only []; unfold evT; rw [nl_ev h (hc.2 T rfl)]
theorem nl_val {F G : Nat → Int32} (h : off0 F G) {c : Cla} (hc : noLineC c) : valC F c = valC G c := by
  unfold valC evS; rw [nl_ev h hc.1]
theorem nl_barr {F G : Nat → Int32} (h : off0 F G) : ∀ {C : List Cla}, (∀ c ∈ C, noLineC c) → (barr F C ↔ barr G C) := by
  intro C
  induction C with
  | nil => intro _; exact Iff.rfl
  | cons c r ih =>
    intro hC
    unfold barr
    rw [nl_clH h (hC c (List.mem_cons_self ..)), ih (fun d hd => hC d (List.mem_cons_of_mem _ hd))]
theorem nl_tl {F G : Nat → Int32} (h : off0 F G) {vb : Nat} {top : Int64} : ∀ {C : List Cla} {a : Int64}, (∀ c ∈ C, noLineC c) → tl F vb top C a = tl G vb top C a := by
  intro C
  induction C with
  | nil => intro a _; rfl
  | cons c r ih =>
    intro a hC
    have hc := hC c (List.mem_cons_self ..)
    unfold tl
    have e : tlS F vb top c a = tlS G vb top c a := by unfold tlS; rw [nl_clH h hc, nl_val h hc]
    rw [e]; exact ih (fun d hd => hC d (List.mem_cons_of_mem _ hd))
theorem sumW_c {p q : Nat → Int} {w0 : Nat} : ∀ {k : Nat}, (∀ j, j < k → p (w0 + j) = q (w0 + j)) → sumW p w0 k = sumW q w0 k := by
  intro k
  induction k with
  | zero => intro _; rfl
  | succ k ih => intro h; rw [sumW_s, sumW_s, ih (fun j hj => h j (by omega)), h k (by omega)]
theorem lwid_step {n : Nat} {wd ft : Nat → Int32} (R : RD n wd ft) {fr to : Nat} (h1 : fr ≤ to) (h2 : to + 1 < 2 * n) : lwid wd ft fr to ≤ lwid wd ft fr (to + 1) := by
  unfold lwid
  by_cases c : to % 2 = 0
  · rw [if_pos c, if_neg (by omega)]
    obtain ⟨k, hk⟩ : ∃ k, lpcs fr to = k + 1 := ⟨to / 2 - fr / 2, by unfold lpcs; omega⟩
    have hk2 : lpcs fr (to + 1) = k + 1 := by unfold lpcs at hk ⊢; omega
    have hw : fr / 2 + k = to / 2 := by unfold lpcs at hk; omega
    rw [hk, hk2, sumW_s, sumW_s]
    have e := sumW_c (p := pc wd ft fr to) (q := pc wd ft fr (to + 1)) (w0 := fr / 2) (k := k) (fun j hj => by
      unfold pc; rw [if_neg (by omega), if_neg (show ¬ to + 1 = 2 * (fr / 2 + j) by omega)])
    rw [e, hw]
    have r := R (to / 2) (by omega)
    have e1 : pc wd ft fr to (to / 2) = (ft (to / 2)).toInt := by unfold pc; rw [if_pos (by omega)]
    have e2 : pc wd ft fr (to + 1) (to / 2) = (wd (to / 2)).toInt := by unfold pc; rw [if_neg (by omega), if_neg (by omega)]
    rw [e1, e2]; omega
  · rw [if_neg c, if_pos (by omega)]
    have hk2 : lpcs fr (to + 1) = lpcs fr to + 1 := by unfold lpcs; omega
    have hw : fr / 2 + lpcs fr to = (to + 1) / 2 := by unfold lpcs; omega
    rw [hk2, sumW_s]
    have e := sumW_c (p := pc wd ft fr to) (q := pc wd ft fr (to + 1)) (w0 := fr / 2) (k := lpcs fr to) (fun j hj => by
      unfold pc; rw [if_neg (by unfold lpcs at hj; omega), if_neg (show ¬ to + 1 = 2 * (fr / 2 + j) by unfold lpcs at hj; omega)])
    rw [e, hw]
    have r := pc_r R (fr := fr) (to := to + 1) (w := (to + 1) / 2) (by omega)
    split <;> omega
theorem lwid_mono {n : Nat} {wd ft : Nat → Int32} (R : RD n wd ft) {fr to : Nat} (h1 : fr ≤ to) : ∀ d, to + d < 2 * n → lwid wd ft fr to ≤ lwid wd ft fr (to + d) := by
  intro d
  induction d with
  | zero => intro _; exact Int.le_refl _
  | succ d ih => intro h; have := ih (by omega); have := lwid_step R (fr := fr) (to := to + d) (by omega) (by omega); rw [show to + (d + 1) = to + d + 1 by omega]; omega
/-! the paper: what a line may be, costs and pays -/
def Dom : Type := Nat × (Nat → Int32) × (Nat → Int32) × (Nat → Int32) × Int32 × Int32 × Int32 × List Cla
def Dom.n (D : Dom) : Nat := D.1
def Dom.wd (D : Dom) : Nat → Int32 := D.2.1
def Dom.ft (D : Dom) : Nat → Int32 := D.2.2.1
def Dom.kd (D : Dom) : Nat → Int32 := D.2.2.2.1
def Dom.mea (D : Dom) : Int32 := D.2.2.2.2.1
def Dom.mo (D : Dom) : Int32 := D.2.2.2.2.2.1
def Dom.pr (D : Dom) : Int32 := D.2.2.2.2.2.2.1
def Dom.C (D : Dom) : List Cla := D.2.2.2.2.2.2.2
noncomputable def LF (D : Dom) (j fr to : Nat) : Nat → Int32 := LFV (nI j) D.wd D.ft D.kd D.n fr to D.mea D.mo D.pr
def fiD (D : Dom) (j fr to : Nat) : Prop := LFi D.wd D.ft fr to D.mea (LF D j fr to) D.C
noncomputable def coD (D : Dom) (j fr to : Nat) : Int32 := LCo (LF D j fr to) D.C D.n to
noncomputable def paD (D : Dom) (j fr to : Nat) : Int32 := LPa (LF D j fr to) D.C
def plD (D : Dom) (p : Nat) : Prop := p < 2 * D.n ∧ (p % 2 = 1 ∨ 0 < (D.ft (p / 2)).toInt)
def edD (D : Dom) (j fr to : Nat) : Prop := fr ≤ to ∧ (fr = 0 ∨ plD D (fr - 1)) ∧ plD D to ∧ fiD D j fr to
theorem LF_off {D : Dom} {j j' fr to : Nat} : off0 (LF D j fr to) (LF D j' fr to) := fun i hi => by
  unfold LF LFV FV; rw [if_neg hi, if_neg hi]
theorem nl_D {D : Dom} (h : ∀ c ∈ D.C, noLineC c) (j j' fr to : Nat) : (fiD D j fr to ↔ fiD D j' fr to) ∧ coD D j fr to = coD D j' fr to ∧ paD D j fr to = paD D j' fr to := by
  have o := LF_off (D := D) (j := j) (j' := j') (fr := fr) (to := to)
  refine ⟨?_, ?_, ?_⟩
  · unfold fiD LFi; rw [nl_barr o h]
  · unfold coD LCo; rw [o 2 (by omega), nl_tl o h]
  · unfold paD LPa; rw [o 1 (by omega), nl_tl o h]
/-- the class's world -/
def XW (s : Sg) (g lw : Nat) (D : Dom) : Prop := XD s g D.n D.wd D.ft D.kd ∧ LWX s lw D.C ∧ rI s 15 g 2 = D.mo ∧ rI s 15 g 0 = D.pr ∧ (rI s 5 0 5).toInt = 2 * (D.n : Int) - 1
def KX (s s' : Sg) : Prop := ∀ k i c, k ≠ 2 → k ≠ 4 → k ≠ 19 → k ≠ 23 → k ≠ 24 → k ≠ 25 → k ≠ 26 → k ≠ 27 → rI s' k i c = rI s k i c ∧ rN s' k i c = rN s k i c
theorem KX.trans {a b c : Sg} (h : KX a b) (g : KX b c) : KX a c := fun k i x h1 h2 h3 h4 h5 h6 h7 h8 =>
  ⟨(g k i x h1 h2 h3 h4 h5 h6 h7 h8).1.trans (h k i x h1 h2 h3 h4 h5 h6 h7 h8).1, (g k i x h1 h2 h3 h4 h5 h6 h7 h8).2.trans (h k i x h1 h2 h3 h4 h5 h6 h7 h8).2⟩
theorem LWX_k {s s' : Sg} {lw : Nat} {C : List Cla} (K : KX s s') (h : LWX s lw C) : LWX s' lw C := by
  rcases h with h | ⟨t, h1, h2, h3⟩
  · exact .inl h
  · exact .inr ⟨t, h1, lawC_c (funext fun c => (K _ _ _ (by decide) (by decide) (by decide) (by decide) (by decide) (by decide) (by decide) (by decide)).1) (funext fun c => (K _ _ _ (by decide) (by decide) (by decide) (by decide) (by decide) (by decide) (by decide) (by decide)).1) (funext fun c => (K _ _ _ (by decide) (by decide) (by decide) (by decide) (by decide) (by decide) (by decide) (by decide)).1) (funext fun c => (K _ _ _ (by decide) (by decide) (by decide) (by decide) (by decide) (by decide) (by decide) (by decide)).1) (funext fun c => (K _ _ _ (by decide) (by decide) (by decide) (by decide) (by decide) (by decide) (by decide) (by decide)).1) (K _ _ _ (by decide) (by decide) (by decide) (by decide) (by decide) (by decide) (by decide) (by decide)).2 h2, h3⟩
theorem XW_k {s s' : Sg} {g lw : Nat} {D : Dom} (K : KX s s') (h : XW s g lw D) : XW s' g lw D := by
  obtain ⟨h1, h2, h3, h4, h5⟩ := h
  have k : ∀ k i c, (k = 1 ∨ k = 5 ∨ k = 12 ∨ k = 13 ∨ k = 14 ∨ k = 15) → rI s' k i c = rI s k i c := fun k i c hk => (K k i c (by omega) (by omega) (by omega) (by omega) (by omega) (by omega) (by omega) (by omega)).1
  exact ⟨XD_c h1 (k _ _ _ (by omega)) (fun a c h1 h2 => k _ _ _ (by omega)), LWX_k K h2, by rw [k _ _ _ (by omega)]; exact h3, by rw [k _ _ _ (by omega)]; exact h4, by rw [k _ _ _ (by omega)]; exact h5⟩
theorem q_canEndAt {s : Sg} {g : Nat} {D : Dom} (X : XD s g D.n D.wd D.ft D.kd) {a : Int32} {p : Nat} (ha : a.toInt = p) : x1_canEndAt s g a = some (s, bI (plD D p)) := by
  have n12 := X.2.1
  have td : (a / 2).toInt = p / 2 := by rw [ti_div2 (by omega), ha]
  unfold x1_canEndAt x1_canEndAt_G
  have e7 : (rI s 1 g 7).toInt = D.n := X.1
  simp only [q_x1_has (show (rI s 1 g 7).toInt ≤ 12 by omega), q_x1_canBeSplit (show (rI s 1 g 7).toInt ≤ 12 by omega), Option.bind_some, gdB0, gdB1, gdbI, gifbI]
  have er : (g_rem a 2 = 0) ↔ p % 2 = 0 := by rw [ti_eq, ti_rem (by omega) (by decide), ha, li_0, li_2]; omega
  rw [gd_t (by decide), gd_t (by decide), gd_t (by decide), td, e7]
  unfold plD
  refine gif_eq (fun c => pr (bI_congr ?_)) (fun c => pr (bI_congr ?_))
  · rw [er] at c
    rw [show ((p : Int) / 2).toNat = p / 2 by omega]
    by_cases hp : p / 2 < D.n
    · rw [(X.2.2 (p / 2) hp).2.1]
      constructor
      · exact fun x => ⟨by omega, .inr x.2⟩
      · exact fun x => ⟨⟨by omega, by omega⟩, x.2.elim (fun y => by omega) id⟩
    · constructor
      · exact fun x => by omega
      · exact fun x => by omega
  · rw [er] at c
    constructor
    · exact fun x => ⟨by omega, .inl (by omega)⟩
    · exact fun x => by omega
