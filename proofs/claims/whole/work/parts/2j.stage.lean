/-! THE MODEL'S TABLES, in step with the class's cells -/
theorem foC_none {src : Nat → Option Cl4} {ed : Nat → Prop} {co pa : Nat → Int32} {T : Int32} : ∀ k, (∀ f, f < k → src f = none) → foC src ed co pa T k = none := by
  intro k
  induction k with
  | zero => intro _; rfl
  | succ k ih => intro h; rw [foC_s, h k (by omega)]; exact ih (fun f hf => h f (by omega))
theorem cD_none {D : Dom} : ∀ j fr, fr < j → cD D j fr = none := by
  intro j
  induction j with
  | zero => intro fr h; omega
  | succ j ih =>
    intro fr h
    unfold cD ceC
    by_cases c : fr = 0
    · rw [if_pos c]
    · rw [if_neg c]; exact foC_none fr (fun f hf => ih f (by omega))
def stg2 (k jj t j fr : Nat) : Nat := if j - 1 < jj ∨ (j - 1 = jj ∧ fr - 1 < t) then k + 1 else k
def TM (P : Nat → Option Cl4 → Prop) (D : Dom) (k jj t : Nat) : Prop := ∀ fr j, fr ≤ 24 → j ≤ 24 → P (j * 25 + fr) (pcl D (stg2 k jj t j fr) j fr)
def TM0 (P : Nat → Option Cl4 → Prop) (D : Dom) (k : Nat) : Prop := ∀ fr j, fr ≤ 24 → j ≤ 24 → P (j * 25 + fr) (pcl D k j fr)
theorem pcl_z {D : Dom} {m m' j fr : Nat} (h : j = 0 ∨ fr = 0) : pcl D m j fr = pcl D m' j fr := by
  unfold pcl
  by_cases c : j = 0
  · rw [if_pos c, if_pos c]
  · rw [if_neg c, if_neg c, if_pos (by omega), if_pos (by omega)]
theorem TM_of {P : Nat → Option Cl4 → Prop} {D : Dom} {k : Nat} (h : TM0 P D k) : TM P D k 0 0 := by
  intro fr j hf hj
  unfold stg2; rw [if_neg (by omega)]; exact h fr j hf hj
theorem TM_row0 {P : Nat → Option Cl4 → Prop} {D : Dom} {k jj : Nat} (h : TM P D k jj 0) : TM P D k jj k := by
  intro fr j hf hj
  have a := h fr j hf hj
  unfold stg2 at a ⊢
  by_cases c : j - 1 < jj
  · rw [if_pos (.inl c)] at a; rw [if_pos (.inl c)]; exact a
  · rw [if_neg (by omega)] at a
    by_cases d : j - 1 = jj ∧ fr - 1 < k
    · rw [if_pos (.inr d), pcl_min (m' := k) (by omega)]; exact a
    · rw [if_neg (by omega)]; exact a
theorem TM_next {P P' : Nat → Option Cl4 → Prop} {D : Dom} {k jj t : Nat} (ht : t < 24) (hj : jj < 24) (h : TM P D k jj t) (h1 : ∀ i o, i ≠ (jj + 1) * 25 + (t + 1) → P i o → P' i o) (h2 : P ((jj + 1) * 25 + (t + 1)) (pcl D k (jj + 1) (t + 1)) → P' ((jj + 1) * 25 + (t + 1)) (pcl D (k + 1) (jj + 1) (t + 1))) : TM P' D k jj (t + 1) := by
  intro fr j hf hj'
  have a := h fr j hf hj'
  by_cases e : fr = t + 1 ∧ j = jj + 1
  · obtain ⟨rfl, rfl⟩ := e
    unfold stg2 at a ⊢
    rw [if_neg (by omega)] at a
    rw [if_pos (by omega)]; exact h2 a
  · have : pcl D (stg2 k jj (t + 1) j fr) j fr = pcl D (stg2 k jj t j fr) j fr := by
      by_cases z : j = 0 ∨ fr = 0
      · exact pcl_z z
      · congr 1
        unfold stg2
        by_cases y : j - 1 < jj ∨ (j - 1 = jj ∧ fr - 1 < t)
        · rw [if_pos y, if_pos (by omega)]
        · rw [if_neg y, if_neg (by omega)]
    rw [this]; exact h1 _ _ (by omega) a
theorem TM_rowend {P : Nat → Option Cl4 → Prop} {D : Dom} {k jj t : Nat} (h : TM P D k jj t) (g : ∀ t', t ≤ t' → ¬ edD D jj k t') : TM P D k (jj + 1) 0 := by
  intro fr j hf hj
  have a := h fr j hf hj
  unfold stg2 at a ⊢
  by_cases c : j - 1 < jj ∨ (j - 1 = jj ∧ fr - 1 < t)
  · rw [if_pos c] at a; rw [if_pos (by omega)]; exact a
  · rw [if_neg c] at a
    by_cases d : j - 1 < jj + 1
    · rw [if_pos (.inl d)]
      by_cases z : j = 0 ∨ fr = 0
      · rw [pcl_z (m' := k) z]; exact a
      · obtain ⟨t', rfl⟩ : ∃ t', fr = t' + 1 := ⟨fr - 1, by omega⟩
        obtain ⟨j', rfl⟩ : ∃ j', j = j' + 1 := ⟨j - 1, by omega⟩
        have ej : j' = jj := by omega
        subst ej
        by_cases kt : k ≤ t'
        · rw [pcl_step kt]
          cases cD D j' k with
          | none => exact a
          | some c => simp only []; rw [if_neg (g t' (by omega))]; exact a
        · rw [pcl_min (m' := k) (by omega)]; exact a
    · rw [if_neg (by omega)]; exact a
theorem TM_rownone {P : Nat → Option Cl4 → Prop} {D : Dom} {k jj t : Nat} (h : TM P D k jj t) (g : cD D jj k = none) : TM P D k (jj + 1) 0 := by
  intro fr j hf hj
  have a := h fr j hf hj
  unfold stg2 at a ⊢
  by_cases c : j - 1 < jj ∨ (j - 1 = jj ∧ fr - 1 < t)
  · rw [if_pos c] at a; rw [if_pos (by omega)]; exact a
  · rw [if_neg c] at a
    by_cases d : j - 1 < jj + 1
    · rw [if_pos (.inl d)]
      by_cases z : j = 0 ∨ fr = 0
      · rw [pcl_z (m' := k) z]; exact a
      · obtain ⟨t', rfl⟩ : ∃ t', fr = t' + 1 := ⟨fr - 1, by omega⟩
        obtain ⟨j', rfl⟩ : ∃ j', j = j' + 1 := ⟨j - 1, by omega⟩
        have ej : j' = jj := by omega
        subst ej
        by_cases kt : k ≤ t'
        · rw [pcl_step kt, g]; exact a
        · rw [pcl_min (m' := k) (by omega)]; exact a
    · rw [if_neg (by omega)]; exact a
theorem TM_done {P : Nat → Option Cl4 → Prop} {D : Dom} {k jj : Nat} (hk : k < jj) (h : TM P D k jj 0) : TM0 P D (k + 1) := by
  intro fr j hf hj
  have a := h fr j hf hj
  unfold stg2 at a
  by_cases c : j - 1 < jj ∨ (j - 1 = jj ∧ fr - 1 < 0)
  · rw [if_pos c] at a; exact a
  · rw [if_neg c] at a
    by_cases z : j = 0 ∨ fr = 0
    · rw [pcl_z (m' := k) z]; exact a
    · obtain ⟨t', rfl⟩ : ∃ t', fr = t' + 1 := ⟨fr - 1, by omega⟩
      obtain ⟨j', rfl⟩ : ∃ j', j = j' + 1 := ⟨j - 1, by omega⟩
      by_cases kt : k ≤ t'
      · rw [pcl_step kt, cD_none j' k (by omega)]; exact a
      · rw [pcl_min (m' := k) (by omega)]; exact a
theorem TM0_skip {P : Nat → Option Cl4 → Prop} {D : Dom} {k : Nat} (h : TM0 P D k) (g : ∀ j t, ¬ edD D j k t) : TM0 P D (k + 1) := by
  intro fr j hf hj
  have a := h fr j hf hj
  cases fr with
  | zero => rw [pcl_z (m' := k) (.inr rfl)]; exact a
  | succ t => rw [pcl_skip (fun j => g j t)]; exact a
theorem TM_cell {P : Nat → Option Cl4 → Prop} {D : Dom} {k jj t : Nat} (h : TM P D k jj t) (hk : k ≤ 24) (hj : jj ≤ 24) : P (jj * 25 + k) (cD D jj k) := by
  have := h k jj hk hj
  rw [pcl_full (by unfold stg2; split <;> omega)] at this; exact this
theorem pcl_0 {D : Dom} {j fr : Nat} : pcl D 0 j fr = if j = 0 ∧ fr = 0 then some (1, 0, 0, 0) else none := by
  unfold pcl
  by_cases c : j = 0
  · rw [if_pos c]
    by_cases d : fr = 0
    · rw [if_pos d, if_pos ⟨c, d⟩]
    · rw [if_neg d, if_neg (by omega)]
  · rw [if_neg c, if_neg (show ¬ (j = 0 ∧ fr = 0) by omega)]
    by_cases d : fr = 0
    · rw [if_pos d]
    · rw [if_neg d, show min 0 fr = 0 by omega]; rfl
/-- the model's questions -/
theorem q_canLine {s : Sg} {D : Dom} {ask J F T : Int32} {j fr to : Nat} (M : MD s D.n D.wd D.ft D.kd) (L : PL s D ask (2 * D.n) 0 0) (hJ : J.toInt = j) (hF : F.toInt = (fr : Int) - 1) (hT : T.toInt = to) (h0 : j ≤ fr) (h1 : fr ≤ to) (h2 : to < 2 * D.n) (hs : fr = 0 ∨ plD D (fr - 1)) : m_canLine s J F T = some (s, bI (edD D j fr to)) := by
  have n12 := M.2.1
  unfold m_canLine m_canLine_G
  rw [q_isPlace M hT h2]
  simp only [Option.bind_some, gdB0, gdB1, gdbI, gifbI]
  rw [show m_lineAt s J F T = some (s, ((J * 25 + F) + 1) * 25 + T) from rfl]
  simp only [Option.bind_some]
  have ti := ti_line hJ hF hT (by omega) (by omega) (by omega)
  refine gif_eq (fun c => ?_) (fun c => lf0 (fun e => c e.2.2.1))
  have := L j fr to h0 h1 hs c (by omega)
  rw [gd_t (inb_iff.mpr (by rw [ti]; omega)), show ix (((J * 25 + F) + 1) * 25 + T) = (j * 25 + fr) * 25 + to by rw [ix_eq, ti]; omega, this.1, gifbI]
  exact gif_eq (fun d => lf1 ⟨h1, hs, c, d⟩) (fun d => lf0 (fun e => d e.2.2.2))
theorem q_isStart {s : Sg} {D : Dom} {F : Int32} {fr : Nat} (M : MD s D.n D.wd D.ft D.kd) (hF : F.toInt = (fr : Int) - 1) (h : fr ≤ 2 * D.n) : m_isStart s F = some (s, bI (fr = 0 ∨ plD D (fr - 1))) := by
  have km : (-1 : Int32).toInt = -1 := by decide
  unfold m_isStart m_isStart_G
  simp only [gdB0, gdB1]
  refine gif_eq (fun c => ?_) (fun c => ?_)
  · rw [ti_eq, hF, km] at c; exact lf1 (.inl (by omega))
  · rw [ti_eq, hF, km] at c
    rw [q_isPlace (p := fr - 1) M (by rw [hF]; omega) (by omega)]
    simp only [Option.bind_some, gdB0, gdB1, gdbI, gifbI]
    exact gif_eq (fun d => lf1 (.inr d)) (fun d => lf0 (fun e => e.elim (fun y => by omega) d))
theorem q_stateAt (s : Sg) (J F : Int32) : m_stateAt s J F = some (s, J * 25 + F + 1) := rfl
theorem PL_c {s s' : Sg} {D : Dom} {ask : Int32} {k t jj : Nat} (h : PL s D ask k t jj) (e : ∀ k c, k = 61 ∨ k = 62 ∨ k = 63 → rI s' k 0 c = rI s k 0 c) : PL s' D ask k t jj := fun j fr to h1 h2 h3 h4 h5 => by
  have := h j fr to h1 h2 h3 h4 h5
  unfold EN at this ⊢
  rw [e 61 _ (by omega), e 62 _ (by omega), e 63 _ (by omega)]; exact this
