/-! THE TABLE of the class: a cell holds the ways, the least cost, its ends, the most paid -/
abbrev Cl4 : Type := Int64 × Int32 × Int32 × Int32
def bet (nc nb c b : Int32) : Prop := if nc = c then ¬ ((nb &&& (nb ^^^ b)) &&& (-(nb ^^^ b)) = 0) else nc < c
noncomputable def jn (a : Option Cl4) (c : Cl4) (co pa T : Int32) : Option Cl4 :=
  match a with
  | none => some (0 + c.1, c.2.1 + co, c.2.2.1 ||| (1 <<< (T &&& 31)), c.2.2.2 + pa)
  | some d => some (d.1 + c.1, @ite Int32 (bet (c.2.1 + co) (c.2.2.1 ||| (1 <<< (T &&& 31))) d.2.1 d.2.2.1) (Classical.propDecidable _) (c.2.1 + co) d.2.1, @ite Int32 (bet (c.2.1 + co) (c.2.2.1 ||| (1 <<< (T &&& 31))) d.2.1 d.2.2.1) (Classical.propDecidable _) (c.2.2.1 ||| (1 <<< (T &&& 31))) d.2.2.1, g_max (c.2.2.2 + pa) d.2.2.2)
/-- what a slot holds; with bars the ways alone are told -/
def CR (s : Sg) (bars : Int32) (i : Nat) : Option Cl4 → Prop
  | none => rL s 27 0 i = 0
  | some c => rL s 27 0 i = c.1 ∧ (bars = 0 → rI s 24 0 i = c.2.1 ∧ rI s 26 0 i = c.2.2.1 ∧ rI s 25 0 i = c.2.2.2)
theorem CR_c {s s' : Sg} {bars : Int32} {i : Nat} {c : Option Cl4} (h : CR s bars i c) (e1 : rL s' 27 0 i = rL s 27 0 i) (e2 : ∀ k, 24 ≤ k → k ≤ 26 → rI s' k 0 i = rI s k 0 i) : CR s' bars i c := by
  cases c with
  | none => unfold CR at h ⊢; rw [e1]; exact h
  | some c => unfold CR at h ⊢; rw [e1, e2 24 (by omega) (by omega), e2 25 (by omega) (by omega), e2 26 (by omega) (by omega)]; exact h
theorem q_isBetter {s : Sg} {nc nb l : Int32} {i : Nat} (hl : l.toInt = i) (hi : i < 625) : x5_isBetter s nc nb l = some (s, bI (bet nc nb (rI s 24 0 i) (rI s 26 0 i))) := by
  have il : ix l = i := by rw [ix_eq, hl]; omega
  unfold x5_isBetter x5_isBetter_G
  have bl : inb l 625 := inb_iff.mpr (by omega)
  simp only [gd_t bl, il, gdB0, gdB1]
  unfold bet
  refine gif_eq (fun c => ?_) (fun c => ?_)
  · rw [if_pos c]; exact gif_eq (fun d => lf0 (fun x => x d)) (fun d => lf1 d)
  · rw [if_neg c]; exact gif_eq (fun d => lf1 d) (fun d => lf0 d)
/-- all but the slot -/
def KC (s s' : Sg) (i : Nat) : Prop := (∀ k a b, ¬ (24 ≤ k ∧ k ≤ 26 ∧ a = 0 ∧ b = i) → rI s' k a b = rI s k a b) ∧ (∀ k a b, ¬ (k = 27 ∧ a = 0 ∧ b = i) → rL s' k a b = rL s k a b) ∧ ∀ k a b, rN s' k a b = rN s k a b
theorem ok_join {s : Sg} {bars l1 l2 co pa T : Int32} {i1 i2 : Nat} (h1 : l1.toInt = i1) (h2 : l2.toInt = i2) (r1 : i1 < 625) (r2 : i2 < 625) (ne : i1 ≠ i2) {c : Cl4} {a : Option Cl4} (c1 : CR s bars i1 (some c)) (c2 : CR s bars i2 a) (na : ∀ d, a = some d → d.1 ≠ 0) (hT : rI s 2 1 2 = T) (hc : bars = 0 → rI s 2 1 5 = co ∧ rI s 2 1 6 = pa) :
    ok (x5_join s l1 l2) (fun s' => CR s' bars i2 (jn a c co pa T) ∧ KC s s' i2) := by
  have b1 : inb l1 625 := inb_iff.mpr (by omega)
  have b2 : inb l2 625 := inb_iff.mpr (by omega)
  have e1 : ix l1 = i1 := by rw [ix_eq, h1]; omega
  have e2 : ix l2 = i2 := by rw [ix_eq, h2]; omega
  -- the end of the join
  have k82 : ∀ (s1 : Sg) (y : Int32), x5_join_b82 s1 l1 l2 y = some (wL (wI s1 25 0 i2 (if y = 0 then g_max (rI s1 25 0 i1 + rI s1 2 1 6) (rI s1 25 0 i2) else rI s1 25 0 i1 + rI s1 2 1 6)) 27 0 i2 (rL s1 27 0 i2 + rL s1 27 0 i1)) := by
    intro s1 y
    unfold x5_join_b82 x5_join_b82_G
    simp only [gd_t b1, gd_t b2, e1, e2, rL_wI]
    by_cases c : y = 0
    · rw [gif_t c, if_pos c]
    · rw [gif_f c, if_neg c]
  have kc : ∀ (s1 : Sg) (v : Int32) (w : Int64), KC s s1 i2 → KC s (wL (wI s1 25 0 i2 v) 27 0 i2 w) i2 := by
    intro s1 v w h
    refine ⟨fun k a b n => ?_, fun k a b n => ?_, fun k a b => ?_⟩
    · show rI (wI s1 25 0 i2 v) k a b = _
      rw [rI_ne (by omega)]; exact h.1 k a b n
    · rw [rL_wL, if_neg n, rL_wI]; exact h.2.1 k a b n
    · exact h.2.2 k a b
  have kc2 : ∀ (v u : Int32), KC s (wI (wI s 24 0 i2 v) 26 0 i2 u) i2 := by
    intro v u
    exact ⟨fun k a b n => by rw [rI_ne (by omega), rI_ne (by omega)], fun k a b n => by rw [rL_wI, rL_wI], fun k a b => rfl⟩
  unfold x5_join x5_join_G x5_join_b49 x5_join_b49_G
  simp only [gd_t b1, gd_t b2, e1, e2, q_isBetter h2 r2, k82, Option.bind_some, gdB0, gdB1, gdbI, gifbI]
  cases a with
  | none =>
    have z : rL s 27 0 i2 = 0 := c2
    rw [gif_t (by rw [cmp_eq]; exact z), gif_f (by decide)]
    refine ok_some ⟨?_, kc _ _ _ (kc2 _ _)⟩
    unfold jn
    refine ⟨?_, fun hb => ?_⟩
    · rw [rL_wL, if_pos ⟨rfl, rfl, rfl⟩]
      simp only [rL_wI]
      rw [z, c1.1]
    · obtain ⟨p1, p2, p3⟩ := c1.2 hb
      obtain ⟨q1, q2⟩ := hc hb
      refine ⟨?_, ?_, ?_⟩
      · rw [rI_wL]
        simp (disch := omega) only [rI_ne, rI_eq]
        rw [p1, q1]
      · rw [rI_wL]
        simp (disch := omega) only [rI_ne, rI_eq]
        rw [p2, hT]
      · rw [rI_wL]
        rw [rI_eq rfl, if_neg (by decide)]
        simp (disch := omega) only [rI_ne, rI_eq]
        rw [p3, q2]
  | some d =>
    have w0 : rL s 27 0 i2 ≠ 0 := by rw [c2.1]; exact na d rfl
    rw [gif_f (by rw [cmp_eq]; exact w0), gif_t trivial]
    unfold jn
    have wy : ∀ s1 : Sg, (∀ k a b, rL s1 k a b = rL s k a b) → rL s1 27 0 i2 + rL s1 27 0 i1 = d.1 + c.1 := fun s1 h => by rw [h, h, c2.1, c1.1]
    refine ok_gif (fun x => ok_some ⟨⟨?_, fun hb => ?_⟩, kc _ _ _ (kc2 _ _)⟩) (fun x => ok_some ⟨⟨?_, fun hb => ?_⟩, kc _ _ _ ⟨fun _ _ _ _ => rfl, fun _ _ _ _ => rfl, fun _ _ _ => rfl⟩⟩)
    · rw [rL_wL, if_pos ⟨rfl, rfl, rfl⟩]; exact wy _ (fun k a b => by rw [rL_wI, rL_wI])
    · obtain ⟨p1, p2, p3⟩ := c1.2 hb
      obtain ⟨q1, q2⟩ := hc hb
      obtain ⟨d1, d2, d3⟩ := c2.2 hb
      rw [p1, p2, q1, hT, d1, d2] at x
      refine ⟨?_, ?_, ?_⟩
      · rw [rI_wL]
        simp (disch := omega) only [rI_ne, rI_eq]
        rw [p1, q1, if_pos x]
      · rw [rI_wL]
        simp (disch := omega) only [rI_ne, rI_eq]
        rw [p2, hT, if_pos x]
      · rw [rI_wL]
        rw [rI_eq rfl, if_pos trivial]
        simp (disch := omega) only [rI_ne, rI_eq]
        rw [p3, q2, d3]
    · rw [rL_wL, if_pos ⟨rfl, rfl, rfl⟩]; exact wy _ (fun k a b => rfl)
    · obtain ⟨p1, p2, p3⟩ := c1.2 hb
      obtain ⟨q1, q2⟩ := hc hb
      obtain ⟨d1, d2, d3⟩ := c2.2 hb
      rw [p1, p2, q1, hT, d1, d2] at x
      refine ⟨?_, ?_, ?_⟩
      · rw [rI_wL]
        rw [rI_ne (by omega), d1, if_neg x]
      · rw [rI_wL]
        rw [rI_ne (by omega), d2]; exact (if_neg x).symm
      · rw [rI_wL]
        rw [rI_eq rfl, if_pos trivial, p3, q2, d3]
/-- the cells by the number of lines and the place behind -/
noncomputable def foC (src : Nat → Option Cl4) (ed : Nat → Prop) (co pa : Nat → Int32) (T : Int32) : Nat → Option Cl4
  | 0 => none
  | k + 1 => match src k with
    | none => foC src ed co pa T k
    | some c => @ite (Option Cl4) (ed k) (Classical.propDecidable _) (jn (foC src ed co pa T k) c (co k) (pa k) T) (foC src ed co pa T k)
noncomputable def ceC (ed : Nat → Nat → Nat → Prop) (co pa : Nat → Nat → Nat → Int32) : Nat → Nat → Option Cl4
  | 0 => fun fr => if fr = 0 then some (1, 0, 0, 0) else none
  | j + 1 => fun fr => if fr = 0 then none else foC (ceC ed co pa j) (fun f => ed j f (fr - 1)) (fun f => co j f (fr - 1)) (fun f => pa j f (fr - 1)) (nI (fr - 1)) fr
theorem foC_s {src : Nat → Option Cl4} {ed : Nat → Prop} {co pa : Nat → Int32} {T : Int32} {k : Nat} : foC src ed co pa T (k + 1) = match src k with
    | none => foC src ed co pa T k
    | some c => @ite (Option Cl4) (ed k) (Classical.propDecidable _) (jn (foC src ed co pa T k) c (co k) (pa k) T) (foC src ed co pa T k) := rfl
theorem ti64 {a b : Int64} {x y : Nat} (ha : 0 ≤ a.toInt ∧ a.toInt ≤ x) (hb : 0 ≤ b.toInt ∧ b.toInt ≤ y) (h : x + y ≤ 2 ^ 30) : (a + b).toInt = a.toInt + b.toInt := by
  rw [Int64.toInt_add]
  exact Int.bmod_eq_of_le (by omega) (by omega)
theorem foC_w {src : Nat → Option Cl4} {ed : Nat → Prop} {co pa : Nat → Int32} {T : Int32} (h : ∀ f c, src f = some c → f ≤ 24 → 1 ≤ c.1.toInt ∧ c.1.toInt ≤ (2 ^ f : Nat)) : ∀ k, k ≤ 25 → ∀ d, foC src ed co pa T k = some d → 1 ≤ d.1.toInt ∧ d.1.toInt + 1 ≤ (2 ^ k : Nat) := by
  intro k
  induction k with
  | zero => intro _ d hd; exact absurd hd (by simp [foC])
  | succ k ih =>
    intro hk d hd
    have i1 := ih (by omega)
    have p1 : (2 ^ k : Nat) ≤ 2 ^ 24 := Nat.pow_le_pow_right (by omega) (by omega)
    have p2 : (2 ^ (k + 1) : Nat) = 2 ^ k + 2 ^ k := by rw [Nat.pow_succ]; omega
    have p3 : 1 ≤ (2 ^ k : Nat) := Nat.one_le_two_pow
    rw [p2]
    rw [foC_s] at hd
    cases hs : src k with
    | none => rw [hs] at hd; have := i1 d hd; omega
    | some c =>
      rw [hs] at hd
      simp only at hd
      have hc := h k c hs (by omega)
      by_cases e : ed k
      · rw [if_pos e] at hd
        cases hf : foC src ed co pa T k with
        | none =>
          rw [hf] at hd
          unfold jn at hd
          simp only [Option.some.injEq] at hd
          subst hd
          simp only [Int64.zero_add]
          omega
        | some a =>
          rw [hf] at hd
          unfold jn at hd
          simp only [Option.some.injEq] at hd
          subst hd
          have ha := i1 a hf
          simp only []
          rw [ti64 (x := 2 ^ k) (y := 2 ^ k) (by omega) (by omega) (by omega)]
          omega
      · rw [if_neg e] at hd; have := i1 d hd; omega
theorem ceC_w {ed : Nat → Nat → Nat → Prop} {co pa : Nat → Nat → Nat → Int32} : ∀ j fr c, ceC ed co pa j fr = some c → fr ≤ 24 → 1 ≤ c.1.toInt ∧ c.1.toInt ≤ (2 ^ fr : Nat) := by
  intro j
  induction j with
  | zero =>
    intro fr c h _
    unfold ceC at h
    by_cases e : fr = 0
    · rw [if_pos e] at h; simp only [Option.some.injEq] at h; subst h; subst e
      show 1 ≤ (1 : Int64).toInt ∧ (1 : Int64).toInt ≤ ((2 ^ 0 : Nat) : Int)
      decide
    · rw [if_neg e] at h; exact absurd h (by simp)
  | succ j ih =>
    intro fr c h h24
    unfold ceC at h
    by_cases e : fr = 0
    · rw [if_pos e] at h; exact absurd h (by simp)
    · rw [if_neg e] at h
      have := foC_w (fun f c hf h4 => ih f c hf h4) fr (by omega) c h
      omega
