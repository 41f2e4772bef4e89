/-! PATHS: the least cost, forward in the class's cells, backward in the model's table -/
def Pth (D : Dom) : Nat → Nat → Int → Prop
  | 0 => fun fr c => fr = 0 ∧ c = 0
  | j + 1 => fun fr c => ∃ f c0, Pth D j f c0 ∧ 1 ≤ fr ∧ edD D j f (fr - 1) ∧ c = c0 + (coD D j f (fr - 1)).toInt
def Bth (D : Dom) : Nat → Nat → Nat → Int → Prop
  | 0 => fun _ fr c => fr = 2 * D.n ∧ c = 0
  | m + 1 => fun j fr c => ∃ to c1, edD D j fr to ∧ Bth D m (j + 1) (to + 1) c1 ∧ c = (coD D j fr to).toInt + c1
theorem Pth_s {D : Dom} {j fr : Nat} {c : Int} : Pth D (j + 1) fr c ↔ ∃ f c0, Pth D j f c0 ∧ 1 ≤ fr ∧ edD D j f (fr - 1) ∧ c = c0 + (coD D j f (fr - 1)).toInt := Iff.rfl
theorem Bth_s {D : Dom} {m j fr : Nat} {c : Int} : Bth D (m + 1) j fr c ↔ ∃ to c1, edD D j fr to ∧ Bth D m (j + 1) (to + 1) c1 ∧ c = (coD D j fr to).toInt + c1 := Iff.rfl
theorem Pth_le {D : Dom} : ∀ {j fr : Nat} {c : Int}, Pth D j fr c → j ≤ fr := by
  intro j
  induction j with
  | zero => intro fr c _; omega
  | succ j ih =>
    intro fr c h
    obtain ⟨f, c0, h1, h2, h3, h4⟩ := Pth_s.mp h
    have := ih h1
    have := h3.1
    omega
theorem PB {D : Dom} : ∀ {m j fr : Nat} {c0 c1 : Int}, Pth D j fr c0 → Bth D m j fr c1 → Pth D (j + m) (2 * D.n) (c0 + c1) := by
  intro m
  induction m with
  | zero =>
    intro j fr c0 c1 h g
    obtain ⟨e1, e2⟩ : fr = 2 * D.n ∧ c1 = 0 := g
    subst e1; subst e2
    rw [Int.add_zero]; exact h
  | succ m ih =>
    intro j fr c0 c1 h g
    obtain ⟨to, c2, e1, e2, e3⟩ := Bth_s.mp g
    have p : Pth D (j + 1) (to + 1) (c0 + (coD D j fr to).toInt) := ⟨fr, c0, h, by omega, e1, rfl⟩
    have := ih p e2
    rw [show j + (m + 1) = j + 1 + m by omega, e3, show c0 + ((coD D j fr to).toInt + c2) = c0 + (coD D j fr to).toInt + c2 by omega]
    exact this
theorem BP {D : Dom} : ∀ {m j : Nat} {c : Int}, Pth D (j + m) (2 * D.n) c → ∃ fr c0 c1, Pth D j fr c0 ∧ Bth D m j fr c1 ∧ c = c0 + c1 := by
  intro m
  induction m with
  | zero => intro j c h; exact ⟨2 * D.n, c, 0, h, ⟨rfl, rfl⟩, by omega⟩
  | succ m ih =>
    intro j c h
    rw [show j + (m + 1) = j + 1 + m by omega] at h
    obtain ⟨fr, c0, c1, h1, h2, h3⟩ := ih h
    obtain ⟨f, c2, g1, g2, g3, g4⟩ := Pth_s.mp h1
    refine ⟨f, c2, (coD D j f (fr - 1)).toInt + c1, g1, ⟨fr - 1, c1, g3, ?_, rfl⟩, by omega⟩
    rw [show fr - 1 + 1 = fr by omega]; exact h2
theorem B0 {D : Dom} {m : Nat} {c : Int} : Bth D m 0 0 c ↔ Pth D m (2 * D.n) c := by
  constructor
  · intro h
    have := PB (D := D) (j := 0) (fr := 0) (c0 := 0) ⟨rfl, rfl⟩ h
    rw [Nat.zero_add, Int.zero_add] at this; exact this
  · intro h
    obtain ⟨fr, c0, c1, ⟨h1, h1'⟩, h2, h3⟩ := BP (D := D) (j := 0) (m := m) (c := c) (by rw [Nat.zero_add]; exact h)
    subst h1; subst h1'; rw [h3, Int.zero_add]; exact h2
/-- the cells know the least cost -/
def LC (D : Dom) (j fr : Nat) (o : Option Cl4) : Prop := (∀ c, o = some c → Pth D j fr c.2.1.toInt ∧ ∀ c', Pth D j fr c' → c.2.1.toInt ≤ c') ∧ (o = none → ∀ c', ¬ Pth D j fr c')
theorem foC_lc {D : Dom} (R : RDD D) {j to : Nat} (hj : j < 24) (hs : ∀ f, LC D j f (cD D j f)) : ∀ k, (∀ d, foC (cD D j) (fun f => edD D j f to) (fun f => coD D j f to) (fun f => paD D j f to) (nI to) k = some d → (∃ f c0, f < k ∧ Pth D j f c0 ∧ edD D j f to ∧ d.2.1.toInt = c0 + (coD D j f to).toInt) ∧ ∀ f c0, f < k → Pth D j f c0 → edD D j f to → d.2.1.toInt ≤ c0 + (coD D j f to).toInt) ∧ (foC (cD D j) (fun f => edD D j f to) (fun f => coD D j f to) (fun f => paD D j f to) (nI to) k = none → ∀ f c0, f < k → Pth D j f c0 → ¬ edD D j f to) := by
  intro k
  induction k with
  | zero => exact ⟨fun d h => absurd h (by simp [foC]), fun _ f c0 h => by omega⟩
  | succ k ih =>
    obtain ⟨i1, i2⟩ := ih
    have hk := hs k
    rw [foC_s]
    -- a start that adds nothing
    have keep : (∀ c0, Pth D j k c0 → ¬ edD D j k to) → (∀ d, foC (cD D j) (fun f => edD D j f to) (fun f => coD D j f to) (fun f => paD D j f to) (nI to) k = some d → (∃ f c0, f < k + 1 ∧ Pth D j f c0 ∧ edD D j f to ∧ d.2.1.toInt = c0 + (coD D j f to).toInt) ∧ ∀ f c0, f < k + 1 → Pth D j f c0 → edD D j f to → d.2.1.toInt ≤ c0 + (coD D j f to).toInt) ∧ (foC (cD D j) (fun f => edD D j f to) (fun f => coD D j f to) (fun f => paD D j f to) (nI to) k = none → ∀ f c0, f < k + 1 → Pth D j f c0 → ¬ edD D j f to) := by
      intro hn
      refine ⟨fun d hd => ?_, fun hd f c0 hf hp he => ?_⟩
      · obtain ⟨⟨f, c0, a1, a2, a3, a4⟩, a5⟩ := i1 d hd
        refine ⟨⟨f, c0, by omega, a2, a3, a4⟩, fun f' c' h1 h2 h3 => ?_⟩
        by_cases e : f' = k
        · subst e; exact absurd h3 (hn c' h2)
        · exact a5 f' c' (by omega) h2 h3
      · by_cases e : f = k
        · subst e; exact hn c0 hp he
        · exact i2 hd f c0 (by omega) hp he
    cases hc : cD D j k with
    | none =>
      rw [hc] at hk
      exact keep (fun c0 h _ => hk.2 rfl c0 h)
    | some c =>
      rw [hc] at hk
      obtain ⟨p1, p2⟩ := hk.1 c rfl
      simp only []
      by_cases e : edD D j k to
      · rw [if_pos e]
        have bc := cD_b R j (by omega) k c hc
        have b1 := coD_r R e.2.2.2 e.2.2.1.1
        unfold bnd at bc
        have e1 : (c.2.1 + coD D j k to).toInt = c.2.1.toInt + (coD D j k to).toInt := ti_add (by omega) (by omega)
        refine ⟨fun d hd => ?_, fun hd => ?_⟩
        · cases ho : foC (cD D j) (fun f => edD D j f to) (fun f => coD D j f to) (fun f => paD D j f to) (nI to) k with
          | none =>
            rw [ho] at hd
            unfold jn at hd
            simp only [Option.some.injEq] at hd
            subst hd
            simp only [e1]
            refine ⟨⟨k, _, by omega, p1, e, rfl⟩, fun f c0 h1 h2 h3 => ?_⟩
            by_cases y : f = k
            · subst y; have := p2 c0 h2; omega
            · exact absurd h3 (i2 ho f c0 (by omega) h2)
          | some x =>
            rw [ho] at hd
            unfold jn at hd
            simp only [Option.some.injEq] at hd
            subst hd
            obtain ⟨⟨f, c0, a1, a2, a3, a4⟩, a5⟩ := i1 x ho
            simp only []
            by_cases bt' : bet (c.2.1 + coD D j k to) (c.2.2.1 ||| (1 <<< (nI to &&& 31))) x.2.1 x.2.2.1
            · rw [if_pos bt', e1]
              have le : c.2.1.toInt + (coD D j k to).toInt ≤ x.2.1.toInt := by
                unfold bet at bt'
                by_cases y : c.2.1 + coD D j k to = x.2.1
                · rw [← y, e1]; omega
                · rw [if_neg y, ti_lt, e1] at bt'; omega
              refine ⟨⟨k, _, by omega, p1, e, rfl⟩, fun f' c' h1 h2 h3 => ?_⟩
              by_cases y : f' = k
              · subst y; have := p2 c' h2; omega
              · have := a5 f' c' (by omega) h2 h3; omega
            · rw [if_neg bt']
              have le : x.2.1.toInt ≤ c.2.1.toInt + (coD D j k to).toInt := by
                unfold bet at bt'
                by_cases y : c.2.1 + coD D j k to = x.2.1
                · rw [← y, e1]; omega
                · rw [if_neg y, ti_lt, e1] at bt'; omega
              refine ⟨⟨f, c0, by omega, a2, a3, a4⟩, fun f' c' h1 h2 h3 => ?_⟩
              by_cases y : f' = k
              · subst y; have := p2 c' h2; omega
              · exact a5 f' c' (by omega) h2 h3
        · cases ho : foC (cD D j) (fun f => edD D j f to) (fun f => coD D j f to) (fun f => paD D j f to) (nI to) k with
          | none => rw [ho] at hd; unfold jn at hd; exact absurd hd (by simp)
          | some x => rw [ho] at hd; unfold jn at hd; exact absurd hd (by simp)
      · rw [if_neg e]
        exact keep (fun _ _ => e)
theorem cD_lc {D : Dom} (R : RDD D) : ∀ j, j ≤ 24 → ∀ fr, LC D j fr (cD D j fr) := by
  intro j
  induction j with
  | zero =>
    intro _ fr
    unfold cD ceC
    by_cases e : fr = 0
    · rw [if_pos e]
      refine ⟨fun c h => ?_, fun h => absurd h (by simp)⟩
      simp only [Option.some.injEq] at h
      subst h
      exact ⟨⟨e, rfl⟩, fun c' h' => by have := h'.2; show (0 : Int32).toInt ≤ c'; rw [li_0]; omega⟩
    · rw [if_neg e]
      exact ⟨fun c h => absurd h (by simp), fun _ c' h' => e h'.1⟩
  | succ j ih =>
    intro hj fr
    have key := foC_lc R (to := fr - 1) (by omega) (ih (by omega)) fr
    unfold cD ceC
    by_cases e : fr = 0
    · rw [if_pos e]
      refine ⟨fun c h => absurd h (by simp), fun _ c' h' => ?_⟩
      obtain ⟨f, c0, _, h2, _, _⟩ := Pth_s.mp h'
      omega
    · rw [if_neg e]
      refine ⟨fun c h => ?_, fun h c' h' => ?_⟩
      · obtain ⟨⟨f, c0, a1, a2, a3, a4⟩, a5⟩ := key.1 c h
        refine ⟨⟨f, c0, a2, by omega, a3, a4⟩, fun c' h' => ?_⟩
        obtain ⟨f', c0', h1, h2, h3, h4⟩ := Pth_s.mp h'
        have := a5 f' c0' (by have := h3.1; omega) h1 h3
        omega
      · obtain ⟨f', c0', h1, h2, h3, h4⟩ := Pth_s.mp h'
        exact key.2 h f' c0' (by have := h3.1; omega) h1 h3
