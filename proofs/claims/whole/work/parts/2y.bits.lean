/-! WHICH SETTING IS BEST: by its cost, then by the earliest ends; told in one number -/
theorem b_neg (x : Int32) {i : Nat} (hi : i < 32) : bt (-x) i = (bt x i ^^ decide (∃ j, j < i ∧ bt x j = true)) := by
  unfold bt
  rw [Int32.toBitVec_neg, BitVec.getLsbD_neg]
  simp [hi]
def wf (A : Nat → Bool) : Nat → Int
  | 0 => 0
  | k + 1 => 2 * wf A k + (if A k = true then 1 else 0)
theorem wf_s {A : Nat → Bool} {k : Nat} : wf A (k + 1) = 2 * wf A k + (if A k = true then 1 else 0) := rfl
theorem wf_eq {A B : Nat → Bool} : ∀ k, wf A k = wf B k ↔ ∀ m, m < k → A m = B m := by
  intro k
  induction k with
  | zero => exact ⟨fun _ m h => by omega, fun _ => rfl⟩
  | succ k ih =>
    rw [wf_s, wf_s]
    constructor
    · intro h m hm
      have e : wf A k = wf B k ∧ A k = B k := by
        cases ha : A k <;> cases hb : B k <;> simp [ha, hb] at h ⊢ <;> omega
      by_cases z : m = k
      · subst z; exact e.2
      · exact ih.mp e.1 m (by omega)
    · intro h
      rw [ih.mpr (fun m hm => h m (by omega)), h k (by omega)]
theorem wf_lt {A B : Nat → Bool} : ∀ k, wf B k < wf A k ↔ ∃ i, i < k ∧ A i = true ∧ B i = false ∧ ∀ m, m < i → A m = B m := by
  intro k
  induction k with
  | zero => exact ⟨fun h => absurd h (by simp [wf]), fun ⟨i, h, _⟩ => by omega⟩
  | succ k ih =>
    rw [wf_s, wf_s]
    have st : (2 * wf B k + (if B k = true then 1 else 0) < 2 * wf A k + (if A k = true then 1 else 0)) ↔ wf B k < wf A k ∨ (wf A k = wf B k ∧ A k = true ∧ B k = false) := by
      cases ha : A k <;> cases hb : B k <;> simp [ha, hb] <;> omega
    rw [st, ih, wf_eq]
    constructor
    · rintro (⟨i, h1, h2⟩ | ⟨h1, h2, h3⟩)
      · exact ⟨i, by omega, h2⟩
      · exact ⟨k, by omega, h2, h3, h1⟩
    · rintro ⟨i, h1, h2, h3, h4⟩
      by_cases z : i = k
      · subst z; exact .inr ⟨h4, h2, h3⟩
      · exact .inl ⟨i, by omega, h2, h3, h4⟩
theorem wf_r {A : Nat → Bool} : ∀ k, 0 ≤ wf A k ∧ wf A k < ((2 ^ k : Nat) : Int) := by
  intro k
  induction k with
  | zero => exact ⟨by simp [wf], by simp [wf]⟩
  | succ k ih =>
    rw [wf_s, Nat.pow_succ]
    by_cases c : A k = true
    · rw [if_pos c]; omega
    · rw [if_neg c]; omega
theorem low_iff {x y : Int32} : ¬ ((x &&& (x ^^^ y)) &&& (-(x ^^^ y)) = 0) ↔ wf (bt y) 32 < wf (bt x) 32 := by
  have bit : ∀ i, i < 32 → (bt ((x &&& (x ^^^ y)) &&& (-(x ^^^ y))) i = true ↔ bt x i = true ∧ bt y i = false ∧ ∀ m, m < i → bt x m = bt y m) := by
    intro i hi
    rw [b_and, b_and, b_neg _ hi, b_xor]
    have ex : (∃ j, j < i ∧ bt (x ^^^ y) j = true) ↔ ¬ ∀ m, m < i → bt x m = bt y m := by
      constructor
      · rintro ⟨j, h1, h2⟩ g
        rw [b_xor, g j h1] at h2
        simp at h2
      · intro g
        apply Classical.byContradiction
        intro n
        apply g
        intro m hm
        apply Classical.byContradiction
        intro d
        apply n
        refine ⟨m, hm, ?_⟩
        rw [b_xor]
        cases ha : bt x m <;> cases hb : bt y m <;> simp [ha, hb] at d ⊢
    by_cases g : ∀ m, m < i → bt x m = bt y m
    · have : decide (∃ j, j < i ∧ bt (x ^^^ y) j = true) = false := decide_eq_false (fun z => ex.mp z g)
      rw [this]
      cases ha : bt x i <;> cases hb : bt y i <;> simp [ha, hb, g] <;> exact fun m hm => g m hm
    · have : decide (∃ j, j < i ∧ bt (x ^^^ y) j = true) = true := decide_eq_true (ex.mpr g)
      rw [this]
      constructor
      · intro h
        exfalso
        cases ha : bt x i <;> cases hb : bt y i <;> simp [ha, hb] at h
      · intro h; exact absurd h.2.2 g
  rw [wf_lt]
  constructor
  · intro h
    apply Classical.byContradiction
    intro n
    apply h
    apply b_ext
    intro i hi
    rw [b_0]
    cases hb : bt ((x &&& (x ^^^ y)) &&& (-(x ^^^ y))) i with
    | false => rfl
    | true => exact absurd ⟨i, hi, (bit i hi).mp hb⟩ n
  · rintro ⟨i, hi, h⟩ z
    have := (bit i hi).mpr h
    rw [z, b_0] at this
    exact absurd this (by decide)
/-- a setting's number: less is better -/
def key (c : Int) (b : Int32) : Int := c * 4294967296 - wf (bt b) 32
theorem bet_key {nc nb c b : Int32} : bet nc nb c b ↔ key nc.toInt nb < key c.toInt b := by
  have r1 := wf_r (A := bt nb) 32
  have r2 := wf_r (A := bt b) 32
  rw [show (2 ^ 32 : Nat) = 4294967296 by decide] at r1 r2
  unfold bet key
  by_cases e : nc = c
  · rw [if_pos e, low_iff, e]; omega
  · rw [if_neg e, ti_lt]
    rw [ti_eq] at e
    omega
def p2 (x : Nat) : Int := ((2 ^ (31 - x) : Nat) : Int)
theorem p2_pos (x : Nat) : 1 ≤ p2 x := by
  have : 1 ≤ (2 ^ (31 - x) : Nat) := Nat.one_le_two_pow
  unfold p2; omega
theorem p2_s {x : Nat} (h : x < 31) : p2 x = 2 * p2 (x + 1) := by
  unfold p2
  rw [show 31 - x = (31 - (x + 1)) + 1 by omega, Nat.pow_succ]; omega
theorem p2_mono {x y : Nat} (h : x ≤ y) : p2 y ≤ p2 x := by
  have : (2 ^ (31 - y) : Nat) ≤ 2 ^ (31 - x) := Nat.pow_le_pow_right (by omega) (by omega)
  unfold p2; omega
theorem wf_set {A B : Nat → Bool} {t : Nat} (h : ∀ i, B i = (A i || decide (i = t))) (h0 : A t = false) : ∀ k, wf B k = wf A k + (if t < k then ((2 ^ (k - 1 - t) : Nat) : Int) else 0) := by
  intro k
  induction k with
  | zero => rw [if_neg (by omega)]; rfl
  | succ k ih =>
    rw [wf_s, wf_s, ih, h k]
    by_cases e : k = t
    · subst e
      rw [if_neg (by omega : ¬ k < k), if_pos (by omega : k < k + 1), h0]
      simp
    · have : (A k || decide (k = t)) = A k := by simp [e]
      rw [this]
      by_cases c : t < k
      · rw [if_pos c, if_pos (by omega : t < k + 1), show k + 1 - 1 - t = (k - 1 - t) + 1 by omega, Nat.pow_succ]; omega
      · rw [if_neg c, if_neg (by omega : ¬ t < k + 1)]; omega
theorem wf_or {b : Int32} {t : Nat} (ht : t < 32) (h0 : bt b t = false) : (∀ i, bt (b ||| (1 <<< (nI t &&& 31))) i = (bt b i || decide (i = t))) ∧ wf (bt (b ||| (1 <<< (nI t &&& 31)))) 32 = wf (bt b) 32 + p2 t := by
  have e : ∀ i, bt (b ||| (1 <<< (nI t &&& 31))) i = (bt b i || decide (i = t)) := by
    intro i
    rw [b_or]
    by_cases hi : i < 32
    · rw [b_shl t ht _ hi, b_1]
      congr 1
      by_cases c : i = t
      · subst c; simp
      · simp [c]; omega
    · rw [b_big (by omega), b_big (by omega)]
      have : ¬ i = t := by omega
      simp [this]
  refine ⟨e, ?_⟩
  rw [wf_set e h0 32, if_pos ht]; rfl
/-- what a list of ends weighs -/
def Wl : List Nat → Int
  | [] => 0
  | x :: r => p2 x + Wl r
def inc : Nat → List Nat → Prop
  | _, [] => True
  | lo, x :: r => lo ≤ x ∧ x < 24 ∧ inc (x + 1) r
theorem Wl_0 : ∀ es, 0 ≤ Wl es := by
  intro es
  induction es with
  | nil => exact Int.le_refl _
  | cons x r ih => have := p2_pos x; unfold Wl; omega
theorem Wl_lt : ∀ {es : List Nat} {lo : Nat}, lo ≤ 24 → inc lo es → Wl es < 2 * p2 lo := by
  intro es
  induction es with
  | nil => intro lo _ _; have := p2_pos lo; unfold Wl; omega
  | cons x r ih =>
    intro lo h1 h2
    have := ih (by have := h2.2.1; omega) h2.2.2
    have := p2_s (x := x) (by have := h2.2.1; omega)
    have := p2_mono h2.1
    unfold Wl; omega
theorem Wl_app : ∀ {es : List Nat} {x : Nat}, Wl (es ++ [x]) = Wl es + p2 x := by
  intro es x
  induction es with
  | nil => show p2 x + 0 = 0 + p2 x; omega
  | cons y r ih => show p2 y + Wl (r ++ [x]) = p2 y + Wl r + p2 x; omega
theorem p2_0 : p2 0 = 2147483648 := by unfold p2; decide
