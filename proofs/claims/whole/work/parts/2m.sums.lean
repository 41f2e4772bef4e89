/-! SUMS: what the cells cost and pay at most -/
theorem tl_r {F : Nat → Int32} {vb : Nat} {top : Int64} (ht : 0 ≤ top.toInt) : ∀ {C : List Cla} {a : Int64}, (0 ≤ a.toInt ∧ a.toInt ≤ top.toInt) → 0 ≤ (tl F vb top C a).toInt ∧ (tl F vb top C a).toInt ≤ top.toInt := by
  intro C
  induction C with
  | nil => intro a h; exact h
  | cons c r ih =>
    intro a h
    unfold tl
    apply ih
    unfold tlS
    by_cases e : c.1 = vb ∧ clH F c = true
    · rw [if_pos e]
      cases valC F c with
      | none => exact h
      | some v =>
        simp only []
        unfold clampL
        by_cases x : v < 0
        · rw [if_pos x]; show 0 ≤ (0 : Int64).toInt ∧ (0 : Int64).toInt ≤ _; rw [show (0 : Int64).toInt = 0 from rfl]; omega
        · rw [if_neg x]
          rw [Int64.lt_iff_toInt_lt, show (0 : Int64).toInt = 0 from rfl] at x
          by_cases y : top < v
          · rw [if_pos y]; omega
          · rw [if_neg y]; rw [Int64.lt_iff_toInt_lt] at y; omega
    · rw [if_neg e]; exact h
theorem t32_r {a : Int64} (h : 0 ≤ a.toInt ∧ a.toInt ≤ 100000) : (Int64.toInt32 a).toInt = a.toInt := by
  rw [Int64.toInt_toInt32]; exact Int.bmod_eq_of_le (by omega) (by omega)
def RDD (D : Dom) : Prop := RD D.n D.wd D.ft ∧ D.n ≤ 12 ∧ D.mea.toInt ≤ 60
theorem coD_r {D : Dom} (R : RDD D) {j fr to : Nat} (h : fiD D j fr to) (ht : to < 2 * D.n) : 0 ≤ (coD D j fr to).toInt ∧ (coD D j fr to).toInt ≤ 999 := by
  have lw := lwid_r R.1 R.2.1 (fr := fr) ht
  have hm := R.2.2
  have h1 := h.1
  have e2 : LF D j fr to 2 = D.mea - Int32.ofInt (lwid D.wd D.ft fr to) := rfl
  have ei : (Int32.ofInt (lwid D.wd D.ft fr to)).toInt = lwid D.wd D.ft fr to := by rw [Int32.toInt_ofInt]; show Int.bmod _ 4294967296 = _; exact Int.bmod_eq_of_le (by omega) (by omega)
  have e3 : (LF D j fr to 2).toInt = D.mea.toInt - lwid D.wd D.ft fr to := by rw [e2, ti_sub (by rw [ei]; omega) (by rw [ei]; omega), ei]
  have c0r : 0 ≤ (c0 D.n to (LF D j fr to 2)).toInt ∧ (c0 D.n to (LF D j fr to 2)).toInt ≤ 999 := by
    unfold c0
    by_cases x : to + 1 = 2 * D.n
    · rw [if_pos x, li_0]; omega
    · rw [if_neg x, ti_max, e3, li_0]; omega
  have t999 : (Int32.toInt64 999).toInt = 999 := by rw [Int32.toInt_toInt64]; rfl
  have r := tl_r (F := LF D j fr to) (vb := 0) (top := Int32.toInt64 999) (by rw [t999]; omega) (C := D.C) (a := Int32.toInt64 (c0 D.n to (LF D j fr to 2))) (by rw [t999, Int32.toInt_toInt64]; exact c0r)
  rw [t999] at r
  unfold coD LCo
  rw [t32_r (by omega)]; exact r
theorem paD_r {D : Dom} (R : RDD D) {j fr to : Nat} (ht : to < 2 * D.n) : 0 ≤ (paD D j fr to).toInt ∧ (paD D j fr to).toInt ≤ 99 := by
  have n12 := R.2.1
  have e2 : LF D j fr to 1 = Int32.ofInt (lpcs fr to) := rfl
  have lp : (lpcs fr to : Int) ≤ 12 := by unfold lpcs; omega
  have e3 : (LF D j fr to 1).toInt = lpcs fr to := by rw [e2, Int32.toInt_ofInt]; show Int.bmod _ 4294967296 = _; exact Int.bmod_eq_of_le (by omega) (by omega)
  have t99 : (Int32.toInt64 99).toInt = 99 := by rw [Int32.toInt_toInt64]; rfl
  have r := tl_r (F := LF D j fr to) (vb := 1) (top := Int32.toInt64 99) (by rw [t99]; omega) (C := D.C) (a := Int32.toInt64 (LF D j fr to 1)) (by rw [t99, Int32.toInt_toInt64, e3]; omega)
  rw [t99] at r
  unfold paD LPa
  rw [t32_r (by omega)]; exact r
def bnd (j : Nat) (c : Cl4) : Prop := (0 ≤ c.2.1.toInt ∧ c.2.1.toInt ≤ 999 * j) ∧ 0 ≤ c.2.2.2.toInt ∧ c.2.2.2.toInt ≤ 99 * j
theorem bnd_jn {j : Nat} (hj : j < 25) {a : Option Cl4} {c d : Cl4} {co pa T : Int32} (hc : bnd j c) (ha : ∀ x, a = some x → bnd (j + 1) x) (h1 : 0 ≤ co.toInt ∧ co.toInt ≤ 999) (h2 : 0 ≤ pa.toInt ∧ pa.toInt ≤ 99) (h : jn a c co pa T = some d) : bnd (j + 1) d := by
  unfold bnd at hc ⊢
  have e1 : (c.2.1 + co).toInt = c.2.1.toInt + co.toInt := ti_add (by omega) (by omega)
  have e2 : (c.2.2.2 + pa).toInt = c.2.2.2.toInt + pa.toInt := ti_add (by omega) (by omega)
  cases a with
  | none =>
    unfold jn at h
    simp only [Option.some.injEq] at h
    subst h
    simp only [e1, e2]; omega
  | some x =>
    have hx := ha x rfl
    unfold bnd at hx
    unfold jn at h
    simp only [Option.some.injEq] at h
    subst h
    refine ⟨?_, ?_⟩
    · simp only []
      split
      · rw [e1]; omega
      · omega
    · simp only [ti_max, e2]; omega
theorem foC_b {D : Dom} (R : RDD D) {j to : Nat} (hj : j < 25) (hs : ∀ f c, cD D j f = some c → bnd j c) : ∀ k d, foC (cD D j) (fun f => edD D j f to) (fun f => coD D j f to) (fun f => paD D j f to) (nI to) k = some d → bnd (j + 1) d := by
  intro k
  induction k with
  | zero => intro d h; exact absurd h (by simp [foC])
  | succ k ih =>
    intro d h
    rw [foC_s] at h
    cases hk : cD D j k with
    | none => rw [hk] at h; exact ih d h
    | some c =>
      rw [hk] at h
      simp only at h
      by_cases e : edD D j k to
      · rw [if_pos e] at h
        exact bnd_jn hj (hs k c hk) ih (coD_r R e.2.2.2 e.2.2.1.1) (paD_r R e.2.2.1.1) h
      · rw [if_neg e] at h; exact ih d h
theorem cD_b {D : Dom} (R : RDD D) : ∀ j, j < 25 → ∀ fr c, cD D j fr = some c → bnd j c := by
  intro j
  induction j with
  | zero =>
    intro _ fr c h
    unfold cD ceC at h
    by_cases e : fr = 0
    · rw [if_pos e] at h; simp only [Option.some.injEq] at h; subst h
      show (0 ≤ (0 : Int32).toInt ∧ (0 : Int32).toInt ≤ 999 * ((0 : Nat) : Int)) ∧ 0 ≤ (0 : Int32).toInt ∧ (0 : Int32).toInt ≤ 99 * ((0 : Nat) : Int)
      decide
    · rw [if_neg e] at h; exact absurd h (by simp)
  | succ j ih =>
    intro hj fr c h
    unfold cD ceC at h
    by_cases e : fr = 0
    · rw [if_pos e] at h; exact absurd h (by simp)
    · rw [if_neg e] at h
      exact foC_b R (by omega) (ih (by omega)) fr c h
theorem pcl_b {D : Dom} (R : RDD D) {m j fr : Nat} (hj : j < 25) {d : Cl4} (h : pcl D m j fr = some d) : bnd j d := by
  cases j with
  | zero => exact cD_b R 0 (by omega) fr d (by rw [← pcl_full (m := fr) (Nat.le_refl _), pcl_z (m' := m) (.inl rfl)]; exact h)
  | succ j =>
    unfold pcl at h
    rw [if_neg (by omega)] at h
    by_cases e : fr = 0
    · rw [if_pos e] at h; exact absurd h (by simp)
    · rw [if_neg e] at h
      exact foC_b R (by omega) (cD_b R j (by omega)) _ d h
/-- what the model keeps of a cell -/
def cs (w : Nat) : Option Cl4 → Int32
  | none => if w = 0 then 100000000 else -100000000
  | some c => if w = 0 then c.2.1 else c.2.2.2
theorem lss (a b : Int32) (s : Sg) : m_lesser s a b = some (s, if a < b then a else b) := by
  unfold m_lesser m_lesser_G
  by_cases c : a < b
  · rw [gif_t c, if_pos c]
  · rw [gif_f c, if_neg c]
theorem cs_step {D : Dom} (R : RDD D) {k t j w : Nat} (hw : w ≤ 1) (hj : j < 24) (h : k ≤ t) (e : edD D j k t) {c : Cl4} (hc : cD D j k = some c) : cs w (pcl D (k + 1) (j + 1) (t + 1)) = if w = 0 then (if cs 0 (pcl D k (j + 1) (t + 1)) < c.2.1 + coD D j k t then cs 0 (pcl D k (j + 1) (t + 1)) else c.2.1 + coD D j k t) else g_max (cs 1 (pcl D k (j + 1) (t + 1))) (c.2.2.2 + paD D j k t) := by
  have bc := cD_b R j (by omega) k c hc
  have b1 := coD_r R e.2.2.2 e.2.2.1.1
  have b2 := paD_r R (j := j) (fr := k) e.2.2.1.1
  unfold bnd at bc
  have e1 : (c.2.1 + coD D j k t).toInt = c.2.1.toInt + (coD D j k t).toInt := ti_add (by omega) (by omega)
  have e2 : (c.2.2.2 + paD D j k t).toInt = c.2.2.2.toInt + (paD D j k t).toInt := ti_add (by omega) (by omega)
  have kb : (100000000 : Int32).toInt = 100000000 := by decide
  have kc : (-100000000 : Int32).toInt = -100000000 := by decide
  have hp := pcl_step (D := D) (j := j) h
  rw [hc] at hp
  simp only at hp
  rw [if_pos e] at hp
  rw [hp]
  cases ho : pcl D k (j + 1) (t + 1) with
  | none =>
    rcases (by omega : w = 0 ∨ w = 1) with rfl | rfl
    · show c.2.1 + coD D j k t = if (100000000 : Int32) < c.2.1 + coD D j k t then (100000000 : Int32) else c.2.1 + coD D j k t
      rw [if_neg (by rw [ti_lt, kb, e1]; omega)]
    · show c.2.2.2 + paD D j k t = g_max (-100000000) (c.2.2.2 + paD D j k t)
      unfold g_max; rw [if_pos (by rw [ti_lt, kc, e2]; omega)]
  | some d =>
    have bd := pcl_b R (by omega) ho
    unfold bnd at bd
    rcases (by omega : w = 0 ∨ w = 1) with rfl | rfl
    · show (@ite Int32 (bet (c.2.1 + coD D j k t) (c.2.2.1 ||| (1 <<< (nI t &&& 31))) d.2.1 d.2.2.1) (Classical.propDecidable _) (c.2.1 + coD D j k t) d.2.1) = if d.2.1 < c.2.1 + coD D j k t then d.2.1 else c.2.1 + coD D j k t
      unfold bet
      by_cases x : c.2.1 + coD D j k t = d.2.1
      · rw [x, ite_self, ite_self]
      · rw [if_neg x]
        have x' := x
        rw [ti_eq] at x'
        by_cases y : c.2.1 + coD D j k t < d.2.1
        · rw [if_pos y, if_neg (by rw [ti_lt] at y ⊢; omega)]
        · rw [if_neg y, if_pos (by rw [ti_lt] at y ⊢; omega)]
    · show g_max (c.2.2.2 + paD D j k t) d.2.2.2 = g_max d.2.2.2 (c.2.2.2 + paD D j k t)
      rw [ti_eq, ti_max, ti_max]; omega
