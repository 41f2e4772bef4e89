/-! PATHS as lists of ends -/
def BLs (D : Dom) : List Nat → Nat → Nat → Int → Prop
  | [] => fun _ fr c => fr = 2 * D.n ∧ c = 0
  | to :: r => fun j fr c => edD D j fr to ∧ ∃ c1, BLs D r (j + 1) (to + 1) c1 ∧ c = (coD D j fr to).toInt + c1
def Fl (D : Dom) : Nat → Nat → List Nat → Int → Prop
  | 0 => fun fr es c => fr = 0 ∧ es = [] ∧ c = 0
  | j + 1 => fun fr es c => ∃ f es0 c0, Fl D j f es0 c0 ∧ 1 ≤ fr ∧ edD D j f (fr - 1) ∧ es = es0 ++ [fr - 1] ∧ c = c0 + (coD D j f (fr - 1)).toInt
theorem BLs_s {D : Dom} {to : Nat} {r : List Nat} {j fr : Nat} {c : Int} : BLs D (to :: r) j fr c ↔ edD D j fr to ∧ ∃ c1, BLs D r (j + 1) (to + 1) c1 ∧ c = (coD D j fr to).toInt + c1 := Iff.rfl
theorem Fl_s {D : Dom} {j fr : Nat} {es : List Nat} {c : Int} : Fl D (j + 1) fr es c ↔ ∃ f es0 c0, Fl D j f es0 c0 ∧ 1 ≤ fr ∧ edD D j f (fr - 1) ∧ es = es0 ++ [fr - 1] ∧ c = c0 + (coD D j f (fr - 1)).toInt := Iff.rfl
theorem Bth_of {D : Dom} : ∀ {es : List Nat} {j fr : Nat} {c : Int}, BLs D es j fr c → Bth D es.length j fr c := by
  intro es
  induction es with
  | nil => intro j fr c h; exact h
  | cons to r ih =>
    intro j fr c h
    obtain ⟨h1, c1, h2, h3⟩ := BLs_s.mp h
    exact ⟨to, c1, h1, ih h2, h3⟩
theorem Bth_ls {D : Dom} : ∀ {m j fr : Nat} {c : Int}, Bth D m j fr c → ∃ es, BLs D es j fr c := by
  intro m
  induction m with
  | zero => intro j fr c h; exact ⟨[], h⟩
  | succ m ih =>
    intro j fr c h
    obtain ⟨to, c1, h1, h2, h3⟩ := Bth_s.mp h
    obtain ⟨r, hr⟩ := ih h2
    exact ⟨to :: r, h1, c1, hr, h3⟩
theorem BLs_inc {D : Dom} (n12 : D.n ≤ 12) : ∀ {es : List Nat} {j fr : Nat} {c : Int}, BLs D es j fr c → inc fr es ∧ ∀ x, x ∈ es → x < 2 * D.n := by
  intro es
  induction es with
  | nil => intro j fr c h; exact ⟨trivial, fun x hx => absurd hx (by simp)⟩
  | cons to r ih =>
    intro j fr c h
    obtain ⟨h1, c1, h2, h3⟩ := BLs_s.mp h
    obtain ⟨i1, i2⟩ := ih h2
    have := h1.1
    have hp := h1.2.2.1.1
    refine ⟨⟨h1.1, by omega, i1⟩, fun x hx => ?_⟩
    rcases List.mem_cons.mp hx with e | e
    · omega
    · exact i2 x e
theorem Fl_lt {D : Dom} : ∀ {j fr : Nat} {es : List Nat} {c : Int}, Fl D j fr es c → j ≤ fr ∧ ∀ x, x ∈ es → x < fr := by
  intro j
  induction j with
  | zero => rintro fr es c ⟨h1, h2, h3⟩; subst h2; exact ⟨by omega, fun x hx => absurd hx (by simp)⟩
  | succ j ih =>
    intro fr es c h
    obtain ⟨f, es0, c0, h1, h2, h3, h4, h5⟩ := Fl_s.mp h
    obtain ⟨i1, i2⟩ := ih h1
    have := h3.1
    refine ⟨by omega, fun x hx => ?_⟩
    rw [h4] at hx
    rcases List.mem_append.mp hx with e | e
    · have := i2 x e; omega
    · have : x = fr - 1 := by simpa using e
      omega
theorem FB {D : Dom} : ∀ {es : List Nat} {j fr : Nat} {es0 : List Nat} {c0 c1 : Int}, Fl D j fr es0 c0 → BLs D es j fr c1 → Fl D (j + es.length) (2 * D.n) (es0 ++ es) (c0 + c1) := by
  intro es
  induction es with
  | nil =>
    intro j fr es0 c0 c1 h g
    obtain ⟨e1, e2⟩ : fr = 2 * D.n ∧ c1 = 0 := g
    subst e1; subst e2
    rw [Int.add_zero, List.append_nil]; exact h
  | cons to r ih =>
    intro j fr es0 c0 c1 h g
    obtain ⟨e1, c2, e2, e3⟩ := BLs_s.mp g
    have p : Fl D (j + 1) (to + 1) (es0 ++ [to]) (c0 + (coD D j fr to).toInt) := ⟨fr, es0, c0, h, by omega, e1, rfl, rfl⟩
    have := ih p e2
    rw [show j + (to :: r).length = j + 1 + r.length by simp only [List.length_cons]; omega, e3, show c0 + ((coD D j fr to).toInt + c2) = c0 + (coD D j fr to).toInt + c2 by omega, show es0 ++ to :: r = es0 ++ [to] ++ r by simp]
    exact this
theorem BF {D : Dom} : ∀ {m j : Nat} {es : List Nat} {c : Int}, Fl D (j + m) (2 * D.n) es c → ∃ fr es0 c0 es1 c1, Fl D j fr es0 c0 ∧ BLs D es1 j fr c1 ∧ es = es0 ++ es1 ∧ c = c0 + c1 := by
  intro m
  induction m with
  | zero => intro j es c h; exact ⟨2 * D.n, es, c, [], 0, h, ⟨rfl, rfl⟩, by simp, by omega⟩
  | succ m ih =>
    intro j es c h
    rw [show j + (m + 1) = j + 1 + m by omega] at h
    obtain ⟨fr, es0, c0, es1, c1, h1, h2, h3, h4⟩ := ih h
    obtain ⟨f, es2, c2, g1, g2, g3, g4, g5⟩ := Fl_s.mp h1
    refine ⟨f, es2, c2, (fr - 1) :: es1, (coD D j f (fr - 1)).toInt + c1, g1, ⟨g3, c1, ?_, rfl⟩, by rw [h3, g4]; simp, by omega⟩
    rw [show fr - 1 + 1 = fr by omega]; exact h2
theorem FB0 {D : Dom} {es : List Nat} {c : Int} (h : BLs D es 0 0 c) : Fl D es.length (2 * D.n) es c := by
  have := FB (D := D) (j := 0) (fr := 0) (es0 := []) (c0 := 0) ⟨rfl, rfl, rfl⟩ h
  rw [Nat.zero_add, Int.zero_add, List.nil_append] at this; exact this
theorem BF0 {D : Dom} {m : Nat} {es : List Nat} {c : Int} (h : Fl D m (2 * D.n) es c) : BLs D es 0 0 c := by
  obtain ⟨fr, es0, c0, es1, c1, ⟨h1, h1', h1''⟩, h2, h3, h4⟩ := BF (D := D) (j := 0) (m := m) (c := c) (es := es) (by rw [Nat.zero_add]; exact h)
  subst h1; subst h1'; subst h1''; rw [h3, h4, Int.zero_add, List.nil_append]; exact h2
/-- the cells know the best setting -/
def kd (d : Cl4) : Int := key d.2.1.toInt d.2.2.1
def LK (D : Dom) (j fr : Nat) (o : Option Cl4) : Prop := (∀ d, o = some d → (∃ es, Fl D j fr es d.2.1.toInt ∧ (∀ i, bt d.2.2.1 i = true ↔ i ∈ es) ∧ wf (bt d.2.2.1) 32 = Wl es) ∧ ∀ es c, Fl D j fr es c → kd d ≤ c * 4294967296 - Wl es) ∧ (o = none → ∀ es c, ¬ Fl D j fr es c)
def LKf (D : Dom) (j to k : Nat) (o : Option Cl4) : Prop := (∀ d, o = some d → (∃ f es c, f < k ∧ Fl D j f es c ∧ edD D j f to ∧ d.2.1.toInt = c + (coD D j f to).toInt ∧ (∀ i, bt d.2.2.1 i = true ↔ i ∈ es ++ [to]) ∧ wf (bt d.2.2.1) 32 = Wl es + p2 to) ∧ ∀ f es c, f < k → Fl D j f es c → edD D j f to → kd d ≤ (c + (coD D j f to).toInt) * 4294967296 - (Wl es + p2 to)) ∧ (o = none → ∀ f es c, f < k → Fl D j f es c → ¬ edD D j f to)
theorem foC_lk {D : Dom} (R : RDD D) {j to : Nat} (hj : j < 24) (hs : ∀ f, LK D j f (cD D j f)) : ∀ k, LKf D j to k (foC (cD D j) (fun f => edD D j f to) (fun f => coD D j f to) (fun f => paD D j f to) (nI to) k) := by
  intro k
  induction k with
  | zero => exact ⟨fun d h => absurd h (by simp [foC]), fun _ f es c h => by omega⟩
  | succ k ih =>
    have n12 := R.2.1
    have hk := hs k
    rw [foC_s]
    generalize foC (cD D j) (fun f => edD D j f to) (fun f => coD D j f to) (fun f => paD D j f to) (nI to) k = o at ih ⊢
    obtain ⟨i1, i2⟩ := ih
    -- a start that adds nothing
    have keep : (∀ es c, Fl D j k es c → ¬ edD D j k to) → LKf D j to (k + 1) o := by
      intro hn
      refine ⟨fun d hd => ?_, fun hd f es c0 hf hp he => ?_⟩
      · obtain ⟨⟨f, es, c0, a1, a2⟩, a5⟩ := i1 d hd
        refine ⟨⟨f, es, c0, by omega, a2⟩, fun f' es' c' h1 h2 h3 => ?_⟩
        by_cases e : f' = k
        · subst e; exact absurd h3 (hn es' c' h2)
        · exact a5 f' es' c' (by omega) h2 h3
      · by_cases e : f = k
        · subst e; exact hn es c0 hp he
        · exact i2 hd f es c0 (by omega) hp he
    cases hc : cD D j k with
    | none =>
      rw [hc] at hk
      exact keep (fun es c0 h _ => hk.2 rfl es c0 h)
    | some c =>
      rw [hc] at hk
      obtain ⟨⟨es, p1, p2', p3⟩, p4⟩ := hk.1 c rfl
      simp only []
      by_cases e : edD D j k to
      · rw [if_pos e]
        have bc := cD_b R j (by omega) k c hc
        have b1 := coD_r R e.2.2.2 e.2.2.1.1
        unfold bnd at bc
        have e1 : (c.2.1 + coD D j k to).toInt = c.2.1.toInt + (coD D j k to).toInt := ti_add (by omega) (by omega)
        have ek := e.1
        have et := e.2.2.1.1
        have nb : bt c.2.2.1 to = false := by
          cases hb : bt c.2.2.1 to with
          | false => rfl
          | true => have := (Fl_lt p1).2 to ((p2' to).mp hb); omega
        obtain ⟨o1, o2⟩ := wf_or (t := to) (by omega) nb
        have o3 : ∀ i, bt (c.2.2.1 ||| (1 <<< (nI to &&& 31))) i = true ↔ i ∈ es ++ [to] := by
          intro i
          rw [o1, List.mem_append, List.mem_singleton, Bool.or_eq_true, p2' i, decide_eq_true_iff]
        generalize hnb : c.2.2.1 ||| (1 <<< (nI to &&& 31)) = b' at o1 o2 o3
        generalize hnc : c.2.1 + coD D j k to = c' at e1
        have ky : key c'.toInt b' = kd c + (coD D j k to).toInt * 4294967296 - p2 to := by
          unfold kd key; rw [o2, e1]; omega
        have mine : ∀ es2 c2, Fl D j k es2 c2 → key c'.toInt b' ≤ (c2 + (coD D j k to).toInt) * 4294967296 - (Wl es2 + p2 to) := by
          intro es2 c2 h2
          have := p4 es2 c2 h2
          rw [ky]; omega
        refine ⟨fun d hd => ?_, fun hd => ?_⟩
        · cases ho : o with
          | none =>
            rw [ho] at hd
            unfold jn at hd
            simp only [Option.some.injEq] at hd
            subst hd
            rw [hnb, hnc]
            refine ⟨⟨k, es, _, by omega, p1, e, e1, o3, by rw [o2, p3]⟩, fun f es2 c0 h1 h2 h3 => ?_⟩
            by_cases y : f = k
            · subst y; exact mine es2 c0 h2
            · exact absurd h3 (i2 ho f es2 c0 (by omega) h2)
          | some x =>
            rw [ho] at hd
            unfold jn at hd
            simp only [Option.some.injEq] at hd
            subst hd
            rw [hnb, hnc]
            obtain ⟨⟨f, es1, c0, a1, a2⟩, a5⟩ := i1 x ho
            by_cases bt' : bet c' b' x.2.1 x.2.2.1
            · rw [if_pos bt', if_pos bt']
              rw [bet_key] at bt'
              refine ⟨⟨k, es, _, by omega, p1, e, e1, o3, by rw [o2, p3]⟩, fun f' es2 c2 h1 h2 h3 => ?_⟩
              show key c'.toInt b' ≤ _
              by_cases y : f' = k
              · subst y; exact mine es2 c2 h2
              · have := a5 f' es2 c2 (by omega) h2 h3
                unfold kd at this; omega
            · rw [if_neg bt', if_neg bt']
              rw [bet_key] at bt'
              refine ⟨⟨f, es1, c0, by omega, a2⟩, fun f' es2 c2 h1 h2 h3 => ?_⟩
              show key x.2.1.toInt x.2.2.1 ≤ _
              by_cases y : f' = k
              · subst y; have := mine es2 c2 h2; omega
              · exact a5 f' es2 c2 (by omega) h2 h3
        · cases ho : o with
          | none => rw [ho] at hd; unfold jn at hd; exact absurd hd (by simp)
          | some x => rw [ho] at hd; unfold jn at hd; exact absurd hd (by simp)
      · rw [if_neg e]
        exact keep (fun _ _ _ => e)
theorem wf_zero : ∀ k, wf (bt 0) k = 0 := by
  intro k
  induction k with
  | zero => rfl
  | succ k ih => rw [wf_s, ih, b_0]; rfl
theorem cD_lk {D : Dom} (R : RDD D) : ∀ j, j ≤ 24 → ∀ fr, LK D j fr (cD D j fr) := by
  intro j
  induction j with
  | zero =>
    intro _ fr
    unfold cD ceC
    by_cases e : fr = 0
    · rw [if_pos e]
      refine ⟨fun d h => ?_, fun h => absurd h (by simp)⟩
      simp only [Option.some.injEq] at h
      subst h
      refine ⟨⟨[], ⟨e, rfl, rfl⟩, fun i => by show bt 0 i = true ↔ _; rw [b_0]; simp, wf_zero 32⟩, ?_⟩
      rintro es c ⟨h1, h2, h3⟩
      subst h2; subst h3
      unfold kd key
      show (0 : Int32).toInt * 4294967296 - wf (bt 0) 32 ≤ _
      rw [wf_zero, li_0]; unfold Wl; omega
    · rw [if_neg e]
      exact ⟨fun c h => absurd h (by simp), fun _ es c' h' => e h'.1⟩
  | succ j ih =>
    intro hj fr
    have kk := foC_lk R (to := fr - 1) (by omega) (ih (by omega)) fr
    unfold cD ceC
    by_cases e : fr = 0
    · rw [if_pos e]
      refine ⟨fun c h => absurd h (by simp), fun _ es c' h' => ?_⟩
      obtain ⟨f, es0, c0, _, h2, _, _⟩ := Fl_s.mp h'
      omega
    · rw [if_neg e]
      refine ⟨fun d h => ?_, fun h es c' h' => ?_⟩
      · obtain ⟨⟨f, es, c0, a1, a2, a3, a4, a5, a6⟩, a7⟩ := kk.1 d h
        refine ⟨⟨es ++ [fr - 1], ⟨f, es, c0, a2, by omega, a3, rfl, a4⟩, a5, by rw [a6, Wl_app]⟩, fun es' c' h' => ?_⟩
        obtain ⟨f', es0, c0', h1, h2, h3, h4, h5⟩ := Fl_s.mp h'
        have := a7 f' es0 c0' (by have := h3.1; omega) h1 h3
        rw [h4, Wl_app, h5]; exact this
      · obtain ⟨f', es0, c0', h1, h2, h3, h4, h5⟩ := Fl_s.mp h'
        exact kk.2 h f' es0 c0' (by have := h3.1; omega) h1 h3
