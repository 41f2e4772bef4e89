/-! THE CLASS READS -/
def TK (σ pl : Nat → Nat) (T : Nat) : Prop := T ≤ 400 ∧ σ T = 4000 ∧ (∀ k, σ k ≤ 4000) ∧ ∀ k, pl k ≤ 400
def TokX (s : Sg) (σ pl : Nat → Nat) (T : Nat) : Prop := ∀ k, k ≤ T → rI s 28 0 k = nI (σ k) ∧ rI s 29 0 k = nI (pl k)
def oI (o : Bool) : Int32 := if o = true then 1 else 0
def XS (s : Sg) (σ pl : Nat → Nat) (T : Nat) (o : Bool) (p q z : Nat) : Prop :=
  TokX s σ pl T ∧ rI s 6 0 5 = oI o ∧ rI s 6 0 3 = nI p ∧ rI s 6 0 4 = nI q ∧ rI s 8 0 7 = nI z ∧ rN s 36 0 0 = 512 ∧ isB (rI s 8 0 8)
def RS (σ pl : Nat → Nat) (T : Nat) (o : Bool) (s0 s : Sg) (z : Nat) (P : List Ins) (p q : Nat) : Prop :=
  XS s σ pl T o p q (z + P.length) ∧ EncX (s.1 36 0) z P ∧ (∀ c, c < z → rI s 36 0 c = rI s0 36 0 c) ∧ rI s 6 0 6 = rI s0 6 0 6 ∧ (rI s 8 0 8 = 0 → rI s0 8 0 8 = 0 ∧ (o = false → noLine P))
def FX (pl : Nat → Nat) (s : Sg) (e : Nat) : Prop := rI s 6 0 6 = nI (pl e) ∧ rN s 36 0 0 = 512
def RX (σ pl : Nat → Nat) (T : Nat) (o : Bool) (s0 : Sg) (z : Nat) (r : PR) (x : Sg × Int32) : Prop :=
  match r with
  | .inr e => x.2 = 0 ∧ FX pl x.1 e
  | .inl y => x.2 = 1 ∧ RS σ pl T o s0 x.1 z y.1 y.2.1 y.2.2
variable {σ pl : Nat → Nat} {T : Nat} {o : Bool}
theorem RX_l {s0 : Sg} {z : Nat} {P : List Ins} {p q : Nat} {x : Sg × Int32} : RX σ pl T o s0 z (.inl (P, p, q)) x ↔ x.2 = 1 ∧ RS σ pl T o s0 x.1 z P p q := Iff.rfl
theorem RX_r {s0 : Sg} {z : Nat} {e : Nat} {x : Sg × Int32} : RX σ pl T o s0 z (.inr e) x ↔ x.2 = 0 ∧ FX pl x.1 e := Iff.rfl
theorem RX_B {s0 : Sg} {z : Nat} {r : PR} {x : Sg × Int32} (h : RX σ pl T o s0 z r x) : isB x.2 := by
  cases r with
  | inr e => exact .inl h.1
  | inl y => exact .inr h.1
theorem nI_s {p : Nat} (h : p < 1000000) : nI p + 1 = nI (p + 1) := by
  rw [ti_eq, ti_add (by rw [nI_ti (by omega), li_1]; omega) (by rw [nI_ti (by omega), li_1]; omega), nI_ti (by omega), nI_ti (by omega), li_1]; omega
theorem ix_nI {a : Nat} (ha : a < 1000000) : ix (nI a) = a := by rw [ix_eq, nI_ti (by omega)]; rfl
theorem inb_nI {a n : Nat} (ha : a < 1000000) (h : a < n) : inb (nI a) n := inb_iff.mpr (by rw [nI_ti (by omega)]; omega)
theorem XS_z {s : Sg} {p q z z' : Nat} (h : XS s σ pl T o p q z) (e : z = z') : XS s σ pl T o p q z' := by rw [← e]; exact h
theorem xs_sign (K : TK σ pl T) {s : Sg} {p q z : Nat} (h : XS s σ pl T o p q z) (hp : p ≤ T) : x6_sign s = some (s, nI (σ p)) := by
  have := K.1
  unfold x6_sign x6_sign_G
  rw [h.2.2.1, gif_f (by rw [ti_lt, nI_ti (by omega), li_0]; omega), gif_t (by rw [ti_lt, nI_ti (by omega), ti_ofNat (by omega)]; omega), gd_t (inb_nI (by omega) (by omega)), ix_nI (by omega), (h.1 p hp).1]
theorem xs_fail (K : TK σ pl T) {s : Sg} {p q z : Nat} (h : XS s σ pl T o p q z) (hp : p ≤ T) : x6_failHere s = some (wI s 6 0 6 (nI (pl p)), 0) := by
  have := K.1
  unfold x6_failHere x6_failHere_G
  simp only [gdB0]
  rw [h.2.2.1, gif_f (by rw [ti_lt, nI_ti (by omega), li_0]; omega), gif_t (by rw [ti_lt, nI_ti (by omega), ti_ofNat (by omega)]; omega), gd_t (inb_nI (by omega) (by omega)), ix_nI (by omega), (h.1 p hp).2]
theorem fx_fail {s : Sg} {p q z : Nat} (h : XS s σ pl T o p q z) : FX pl (wI s 6 0 6 (nI (pl p))) p := ⟨rI_eq rfl, h.2.2.2.2.2.1⟩
def adv (s : Sg) : Sg := wI s 6 0 3 (rI s 6 0 3 + 1)
theorem XS_adv {s : Sg} {p q z : Nat} (h : XS s σ pl T o p q z) (hp : p < 1000) : XS (adv s) σ pl T o (p + 1) q z := by
  obtain ⟨h1, h2, h3, h4, h5, h6, h7⟩ := h
  unfold adv
  refine ⟨fun k hk => ?_, ?_, ?_, ?_, ?_, h6, ?_⟩
  · rw [rI_ne (by omega), rI_ne (by omega)]; exact h1 k hk
  · rw [rI_ne (by omega)]; exact h2
  · rw [rI_eq rfl, h3, nI_s (by omega)]
  · rw [rI_ne (by omega)]; exact h4
  · rw [rI_ne (by omega)]; exact h5
  · rw [rI_ne (by omega)]; exact h7
theorem sg_eq (K : TK σ pl T) {p : Nat} {w : Int32} {m : Nat} (hm : w.toInt = m) : (nI (σ p) = w) ↔ σ p = m := by
  have := K.2.2.1 p
  rw [ti_eq, nI_ti (by omega), hm]; omega
theorem xs_take_y (K : TK σ pl T) {s : Sg} {p q z : Nat} (h : XS s σ pl T o p q z) (hp : p ≤ T) {w : Int32} {m : Nat} (hm : w.toInt = m) (c : σ p = m) : x6_take s w = some (adv s, 1) := by
  unfold x6_take x6_take_G
  rw [xs_sign K h hp]
  simp only [Option.bind_some, gdB0, gdB1]
  rw [gif_t ((sg_eq K hm).mpr c)]; rfl
theorem xs_take_n (K : TK σ pl T) {s : Sg} {p q z : Nat} (h : XS s σ pl T o p q z) (hp : p ≤ T) {w : Int32} {m : Nat} (hm : w.toInt = m) (c : σ p ≠ m) : x6_take s w = some (s, 0) := by
  unfold x6_take x6_take_G
  rw [xs_sign K h hp]
  simp only [Option.bind_some, gdB0, gdB1]
  rw [gif_f (fun x => c ((sg_eq K hm).mp x))]
theorem xs_tof_y (K : TK σ pl T) {s : Sg} {p q z : Nat} (h : XS s σ pl T o p q z) (hp : p ≤ T) {w : Int32} {m : Nat} (hm : w.toInt = m) (c : σ p = m) : x6_takeOrFail s w = some (adv s, 1) := by
  unfold x6_takeOrFail x6_takeOrFail_G
  rw [xs_take_y K h hp hm c]
  simp only [Option.bind_some, gdB0, gdB1]
  rw [gif_f (by decide)]
theorem xs_tof_n (K : TK σ pl T) {s : Sg} {p q z : Nat} (h : XS s σ pl T o p q z) (hp : p ≤ T) {w : Int32} {m : Nat} (hm : w.toInt = m) (c : σ p ≠ m) : x6_takeOrFail s w = some (wI s 6 0 6 (nI (pl p)), 0) := by
  unfold x6_takeOrFail x6_takeOrFail_G
  rw [xs_take_n K h hp hm c]
  simp only [Option.bind_some, gdB0, gdB1]
  rw [gif_t trivial, xs_fail K h hp]
  simp only [Option.bind_some]
  rw [gif_t trivial]
theorem xs_from_y (K : TK σ pl T) {s : Sg} {p q z : Nat} (h : XS s σ pl T o p q z) (hp : p ≤ T) {u w : Int32} {a b : Nat} (hu : u.toInt = a) (hw : w.toInt = b) (c : a ≤ σ p ∧ σ p ≤ b) : x6_takeFrom s u w = some (adv s, nI (σ p)) := by
  have := K.2.2.1 p
  unfold x6_takeFrom x6_takeFrom_G
  rw [xs_sign K h hp]
  simp only [Option.bind_some]
  rw [gif_f (by rw [ti_lt, nI_ti (by omega), hu]; omega), gif_f (by rw [ti_lt, nI_ti (by omega), hw]; omega)]; rfl
theorem xs_from_n (K : TK σ pl T) {s : Sg} {p q z : Nat} (h : XS s σ pl T o p q z) (hp : p ≤ T) {u w : Int32} {a b : Nat} (hu : u.toInt = a) (hw : w.toInt = b) (c : ¬ (a ≤ σ p ∧ σ p ≤ b)) : x6_takeFrom s u w = some (wI s 6 0 6 (nI (pl p)), -1) := by
  have := K.2.2.1 p
  unfold x6_takeFrom x6_takeFrom_G
  rw [xs_sign K h hp]
  simp only [Option.bind_some, xs_fail K h hp]
  refine gif_eq (fun _ => rfl) (fun d => gif_eq (fun _ => rfl) (fun e => ?_))
  rw [ti_lt, nI_ti (by omega), hu] at d
  rw [ti_lt, nI_ti (by omega), hw] at e
  exact absurd (by omega) c
/-! what is told the draft -/
theorem enc_v {a b : Nat} (ha : a ≤ 14) (hb : b < 4096) : (nI a <<< ((12 : Int32) &&& 31)) ||| (nI b &&& 4095) = nI (4096 * a + b) := by
  apply b_ext
  intro i hi
  rw [b_or, show ((12 : Int32)) = nI 12 from rfl, b_shl 12 (by omega) _ hi, b_and, b_4095, bt_nI _ hi, bt_nI _ hi]
  rw [show 4096 * a + b = 2 ^ 12 * a + b from rfl, Nat.testBit_two_pow_mul_add a (show b < 2 ^ 12 by omega)]
  by_cases c : i < 12
  · rw [if_pos c]
    have : decide (12 ≤ i) = false := by simp; omega
    rw [this]; simp [c]
  · rw [if_neg c, bt_nI _ (by omega)]
    have : decide (12 ≤ i) = true := by simp; omega
    rw [this]; simp [c]
theorem xs_emit {s : Sg} {p q z : Nat} (h : XS s σ pl T o p q z) (hz : z < 512) {a b : Nat} (ha : a ≤ 14) (hb : b < 4096) : x8_emit s 0 (nI a) (nI b) = some (wI (wI s 36 0 z (nI (4096 * a + b))) 8 0 7 (nI (z + 1))) := by
  unfold x8_emit x8_emit_G
  rw [h.2.2.2.2.1, h.2.2.2.2.2.1, gif_f (by rw [ti_lt, nI_ti (by omega), li_0]; omega), gif_t (by rw [ti_lt, nI_ti (by omega), ti_ofNat (by omega)]; omega), gd_t (inb_nI (by omega) hz), ix_nI (by omega), enc_v ha hb]
  simp only []
  rw [rI_ne (by omega), h.2.2.2.2.1, nI_s (by omega)]
theorem em_f {s : Sg} {e : Nat} (h : FX pl s e) (a b : Int32) : ∃ s', x8_emit s 0 a b = some s' ∧ FX pl s' e := by
  unfold x8_emit x8_emit_G
  rw [h.2]
  by_cases c : rI s 8 0 7 < 0
  · exact ⟨s, by rw [gif_t c], h⟩
  · rw [gif_f c]
    by_cases d : rI s 8 0 7 < Int32.ofNat 512
    · rw [gif_t d]
      rw [ti_lt, li_0] at c
      rw [ti_lt, ti_ofNat (by omega)] at d
      rw [gd_t (inb_iff.mpr (by omega))]
      exact ⟨_, rfl, by rw [rI_ne (by omega), rI_ne (by omega)]; exact h.1, h.2⟩
    · exact ⟨s, by rw [gif_f d], h⟩
theorem aim_f {s : Sg} {e : Nat} (h : FX pl s e) (a : Int32) : ∃ s', x8_aim s 0 a = some s' ∧ FX pl s' e := by
  unfold x8_aim x8_aim_G
  rw [h.2]
  by_cases c : a < 0
  · exact ⟨s, by rw [gif_t c], h⟩
  · rw [gif_f c]
    by_cases d : a < Int32.ofNat 512
    · rw [gif_t d]
      rw [ti_lt, li_0] at c
      rw [ti_lt, ti_ofNat (by omega)] at d
      rw [gd_t (inb_iff.mpr (by omega)), gd_t (inb_iff.mpr (by omega))]
      exact ⟨_, rfl, by rw [rI_ne (by omega)]; exact h.1, h.2⟩
    · exact ⟨s, by rw [gif_f d], h⟩
theorem EncX_c {c c' : Nat → Int32} : ∀ {P : List Ins} {q : Nat}, (∀ i, q ≤ i → i < q + P.length → c' i = c i) → EncX c q P → EncX c' q P := by
  intro P
  induction P with
  | nil => intro q _ _; trivial
  | cons i r ih =>
    intro q h g
    simp only [List.length_cons] at h
    exact ⟨by rw [h q (by omega) (by omega)]; exact g.1, ih (fun j h1 h2 => h j (by omega) (by omega)) g.2⟩
theorem EncX_app {c : Nat → Int32} : ∀ {P Q : List Ins} {q : Nat}, EncX c q P → EncX c (q + P.length) Q → EncX c q (P ++ Q) := by
  intro P
  induction P with
  | nil => intro Q q _ g; exact g
  | cons i r ih =>
    intro Q q h g
    simp only [List.length_cons] at g
    exact ⟨h.1, ih h.2 (by rw [show q + 1 + r.length = q + (r.length + 1) by omega]; exact g)⟩
theorem XS_w {s : Sg} {p q z : Nat} (h : XS s σ pl T o p q z) {c : Nat} {v : Int32} {z' : Nat} : XS (wI (wI s 36 0 c v) 8 0 7 (nI z')) σ pl T o p q z' := by
  obtain ⟨h1, h2, h3, h4, h5, h6, h7⟩ := h
  refine ⟨fun k hk => ?_, ?_, ?_, ?_, ?_, h6, ?_⟩
  · simp (disch := omega) only [rI_ne]; exact h1 k hk
  · simp (disch := omega) only [rI_ne]; exact h2
  · simp (disch := omega) only [rI_ne]; exact h3
  · simp (disch := omega) only [rI_ne]; exact h4
  · rw [rI_eq rfl]
  · simp (disch := omega) only [rI_ne]; exact h7
theorem RS_emit {s0 s : Sg} {z : Nat} {P : List Ins} {p q : Nat} (h : RS σ pl T o s0 s z P p q) (hz : z + P.length < 512) {a b : Nat} (ha : a ≤ 14) (hb : b < 4096) (hi : (a = 1 ∨ a = 2) ∨ (b = 0 ∧ a ≠ 4 ∧ a ≠ 5)) (hl : o = false → rI s 8 0 8 = 0 → ¬ (a = 2 ∧ b = 0)) : ∃ s', x8_emit s 0 (nI a) (nI b) = some s' ∧ RS σ pl T o s0 s' z (P ++ [(a, b)]) p q := by
  obtain ⟨h1, h2, h3, h4, h5⟩ := h
  refine ⟨_, xs_emit h1 hz ha hb, XS_z (XS_w h1) (by simp only [List.length_append, List.length_cons, List.length_nil]; omega), ?_, fun c hc => ?_, ?_, fun hf => ?_⟩
  · refine EncX_app (EncX_c (fun i _ hi' => ?_) h2) ⟨?_, trivial⟩
    · show rI (wI (wI s 36 0 (z + P.length) _) 8 0 7 _) 36 0 i = rI s 36 0 i
      rw [rI_ne (by omega), rI_ne (by omega)]
    · show (rI (wI (wI s 36 0 (z + P.length) _) 8 0 7 _) 36 0 (z + P.length)).toInt = _
      rw [rI_ne (by omega), rI_eq rfl, nI_ti (by omega)]
      unfold encx
      simp only []
      by_cases c : a = 1 ∨ a = 2
      · rw [if_pos c]; omega
      · rw [if_neg c, if_neg (by omega)]; omega
  · rw [rI_ne (by omega), rI_ne (by omega)]; exact h3 c hc
  · rw [rI_ne (by omega), rI_ne (by omega)]; exact h4
  · rw [rI_ne (by omega), rI_ne (by omega)] at hf
    obtain ⟨g1, g2⟩ := h5 hf
    refine ⟨g1, fun ho i hi' => ?_⟩
    rcases List.mem_append.mp hi' with e | e
    · exact g2 ho i e
    · have : i = (a, b) := by simpa using e
      subst this; exact hl ho hf
theorem RS_0 {s : Sg} {p q z : Nat} (h : XS s σ pl T o p q z) : RS σ pl T o s s z [] p q := ⟨h, trivial, fun _ _ => rfl, rfl, fun hf => ⟨hf, fun _ _ hi => absurd hi (by simp)⟩⟩
theorem RS_adv {s0 s : Sg} {z : Nat} {P : List Ins} {p q : Nat} (h : RS σ pl T o s0 s z P p q) (hp : p < 1000) : RS σ pl T o s0 (adv s) z P (p + 1) q := by
  obtain ⟨h1, h2, h3, h4, h5⟩ := h
  refine ⟨XS_adv h1 hp, EncX_c (fun i _ _ => ?_) h2, fun c hc => ?_, ?_, fun hf => ?_⟩
  · show rI (adv s) 36 0 i = rI s 36 0 i; unfold adv; rw [rI_ne (by omega)]
  · unfold adv; rw [rI_ne (by omega)]; exact h3 c hc
  · unfold adv; rw [rI_ne (by omega)]; exact h4
  · unfold adv at hf; rw [rI_ne (by omega)] at hf; exact h5 hf
theorem RS_app {s0 s s' : Sg} {z : Nat} {P Q : List Ins} {p q p' q' : Nat} (h : RS σ pl T o s0 s z P p q) (g : RS σ pl T o s s' (z + P.length) Q p' q') : RS σ pl T o s0 s' z (P ++ Q) p' q' := by
  obtain ⟨h1, h2, h3, h4, h5⟩ := h
  obtain ⟨g1, g2, g3, g4, g5⟩ := g
  refine ⟨XS_z g1 (by rw [List.length_append]; omega), EncX_app (EncX_c (fun i _ hi => ?_) h2) g2, fun c hc => ?_, g4.trans h4, fun hf => ?_⟩
  · exact g3 i hi
  · rw [g3 c (by omega)]; exact h3 c hc
  · obtain ⟨f1, f2⟩ := g5 hf
    obtain ⟨f3, f4⟩ := h5 f1
    exact ⟨f3, fun ho i hi => (List.mem_append.mp hi).elim (f4 ho i) (f2 ho i)⟩
/-- a part of the reader keeps to a reading -/
def SX (σ pl : Nat → Nat) (T : Nat) (o : Bool) (f : Sg → Option (Sg × Int32)) (pure : Nat → Nat → PR) : Prop :=
  ∀ s p q z, XS s σ pl T o p q z → p ≤ T → q ≤ 50 → z ≤ p + 30 → ok (f s) (RX σ pl T o s z (pure p q))
theorem x_lawFact_y (K : TK σ pl T) {s : Sg} {p q z : Nat} (h : XS s σ pl T o p q z) (hp : p ≤ T) (c : 3013 ≤ σ p ∧ σ p ≤ 3020) : ok (x6_takeLawFact s) (fun x => x.2 = nI (σ p - 3013) ∧ ∃ v, isB v ∧ x.1 = wI (adv s) 8 0 8 v ∧ (v = 0 → rI s 8 0 8 = 0 ∧ σ p ≠ 3013)) := by
  have sp := K.2.2.1 p
  have km : (-1 : Int32).toInt = -1 := by decide
  unfold x6_takeLawFact x6_takeLawFact_G
  rw [xs_from_y K h hp li_3013 li_3020 c]
  simp only [Option.bind_some, gdB0, gdB1]
  have n1 : ¬ (nI (σ p) = -1) := by rw [ti_eq, nI_ti (by omega), km]; omega
  have v1 : nI (σ p) - 3013 = nI (σ p - 3013) := by
    rw [ti_eq, ti_sub (by rw [nI_ti (by omega), li_3013]; omega) (by rw [nI_ti (by omega), li_3013]; omega), nI_ti (by omega), nI_ti (by omega), li_3013]; omega
  simp only [gif_f n1, v1]
  have e8 : rI (adv s) 8 0 8 = rI s 8 0 8 := by unfold adv; rw [rI_ne (by omega)]
  rw [e8]
  refine ok_gif (fun d => ?_) (fun d => ?_)
  · refine ok_gif (fun e => ?_) (fun e => ?_)
    · exact ok_some ⟨rfl, 1, .inr rfl, rfl, fun x => absurd x (by decide)⟩
    · exact ok_some ⟨rfl, 0, .inl rfl, rfl, fun _ => ⟨d, fun x => e ((sg_eq K li_3013).mpr x)⟩⟩
  · exact ok_some ⟨rfl, 1, .inr rfl, rfl, fun x => absurd x (by decide)⟩
theorem x_lawFact_n (K : TK σ pl T) {s : Sg} {p q z : Nat} (h : XS s σ pl T o p q z) (hp : p ≤ T) (c : ¬ (3013 ≤ σ p ∧ σ p ≤ 3020)) : ok (x6_takeLawFact s) (fun x => x.2 = -1 ∧ FX pl x.1 p) := by
  unfold x6_takeLawFact x6_takeLawFact_G
  rw [xs_from_n K h hp li_3013 li_3020 c]
  simp only [Option.bind_some, gdB0, gdB1]
  have fx := fx_fail h
  have f8 : ∀ v : Int32, FX pl (wI (wI s 6 0 6 (nI (pl p))) 8 0 8 v) p := fun v => ⟨by rw [rI_ne (by omega)]; exact fx.1, fx.2⟩
  refine ok_gif (fun d => ?_) (fun d => by rw [gif_t trivial]; exact ok_some ⟨rfl, f8 _⟩)
  exact ok_gif (fun e => by rw [gif_t trivial]; exact ok_some ⟨rfl, f8 _⟩) (fun e => by rw [gif_t trivial]; exact ok_some ⟨rfl, f8 _⟩)
theorem x_k36_y (K : TK σ pl T) {s : Sg} {p q z : Nat} (h : XS s σ pl T o p q z) (hp1 : p + 1 ≤ T) {y : Int32} {m : Nat} (hy : y.toInt = m) (hm : m ≤ 17) (c : σ (p + 1) ≤ 11) : x6_takeOrderFact_b36 s y = some (adv (adv s), nI (m + σ (p + 1))) := by
  have T4 := K.1
  have km : (-1 : Int32).toInt = -1 := by decide
  unfold x6_takeOrderFact_b36 x6_takeOrderFact_b36_G
  have h1 := XS_adv h (by omega)
  show ((x6_takeFrom (adv s) 0 11).bind _) = _
  rw [xs_from_y K h1 hp1 (a := 0) (b := 11) rfl li_11 ⟨by omega, c⟩]
  simp only [Option.bind_some]
  rw [gif_f (by rw [ti_eq, nI_ti (by omega), km]; omega)]
  have : y + nI (σ (p + 1)) = nI (m + σ (p + 1)) := by
    rw [ti_eq, ti_add (by rw [nI_ti (by omega), hy]; omega) (by rw [nI_ti (by omega), hy]; omega), nI_ti (by omega), nI_ti (by omega), hy]; omega
  rw [this]
theorem x_k36_n (K : TK σ pl T) {s : Sg} {p q z : Nat} (h : XS s σ pl T o p q z) (hp1 : p + 1 ≤ T) {y : Int32} (c : ¬ σ (p + 1) ≤ 11) : x6_takeOrderFact_b36 s y = some (wI (adv s) 6 0 6 (nI (pl (p + 1))), -1) := by
  have T4 := K.1
  unfold x6_takeOrderFact_b36 x6_takeOrderFact_b36_G
  have h1 := XS_adv h (by omega)
  show ((x6_takeFrom (adv s) 0 11).bind _) = _
  rw [xs_from_n K h1 hp1 (a := 0) (b := 11) rfl li_11 (by omega)]
  simp only [Option.bind_some]
  rw [gif_t trivial]
theorem x_of_w (K : TK σ pl T) {s : Sg} {p q z : Nat} (h : XS s σ pl T o p q z) (hp : p ≤ T) (c : σ p = 3025 ∨ σ p = 3026) : ∃ y : Int32, y.toInt = ((if σ p = 3025 then 5 else 17 : Nat) : Int) ∧ x6_takeOrderFact s = x6_takeOrderFact_b36 s y := by
  unfold x6_takeOrderFact x6_takeOrderFact_G
  simp only [xs_sign K h hp, Option.bind_some]
  by_cases c1 : σ p = 3025
  · rw [gif_t ((sg_eq K li_3025).mpr c1), gif_t ((sg_eq K li_3025).mpr c1), if_pos c1]
    exact ⟨5, li_5, rfl⟩
  · have c2 : σ p = 3026 := c.resolve_left c1
    rw [gif_f (fun x => c1 ((sg_eq K li_3025).mp x)), gif_t ((sg_eq K li_3026).mpr c2), gif_f (fun x => c1 ((sg_eq K li_3025).mp x)), if_neg c1]
    exact ⟨17, li_17, rfl⟩
theorem x_of_y (K : TK σ pl T) {s : Sg} {p q z : Nat} (h : XS s σ pl T o p q z) (hp : p ≤ T) (c : 3020 ≤ σ p ∧ σ p ≤ 3024) : x6_takeOrderFact s = some (adv s, nI (σ p - 3020)) := by
  have km : (-1 : Int32).toInt = -1 := by decide
  unfold x6_takeOrderFact x6_takeOrderFact_G
  simp only [xs_sign K h hp, Option.bind_some]
  rw [gif_f (fun x => by have : σ p = 3025 := (sg_eq K li_3025).mp x; omega), gif_f (fun x => by have : σ p = 3026 := (sg_eq K li_3026).mp x; omega), xs_from_y K h hp li_3020 li_3024 c]
  simp only [Option.bind_some]
  rw [gif_f (by rw [ti_eq, nI_ti (by omega), km]; omega)]
  have : nI (σ p) - 3020 = nI (σ p - 3020) := by
    rw [ti_eq, ti_sub (by rw [nI_ti (by omega), li_3020]; omega) (by rw [nI_ti (by omega), li_3020]; omega), nI_ti (by omega), nI_ti (by omega), li_3020]; omega
  rw [this]
theorem x_of_n (K : TK σ pl T) {s : Sg} {p q z : Nat} (h : XS s σ pl T o p q z) (hp : p ≤ T) (c : ¬ (σ p = 3025 ∨ σ p = 3026)) (c' : ¬ (3020 ≤ σ p ∧ σ p ≤ 3024)) : x6_takeOrderFact s = some (wI s 6 0 6 (nI (pl p)), -1) := by
  unfold x6_takeOrderFact x6_takeOrderFact_G
  simp only [xs_sign K h hp, Option.bind_some]
  rw [gif_f (fun x => c (.inl ((sg_eq K li_3025).mp x))), gif_f (fun x => c (.inr ((sg_eq K li_3026).mp x))), xs_from_n K h hp li_3020 li_3024 c']
  simp only [Option.bind_some]
  rw [gif_t trivial]
theorem pPart_leaf {k p q : Nat} (c : σ p ≠ 2091) : pPart σ o k p q = leaf σ o p q := by
  cases k with
  | zero => exact if_neg c
  | succ k => exact if_neg c
theorem XS_q {s : Sg} {p q z : Nat} (h : XS s σ pl T o p q z) {q' : Nat} : XS (wI s 6 0 4 (nI q')) σ pl T o p q' z := by
  obtain ⟨h1, h2, h3, h4, h5, h6, h7⟩ := h
  refine ⟨fun k hk => ?_, ?_, ?_, ?_, ?_, h6, ?_⟩
  · simp (disch := omega) only [rI_ne]; exact h1 k hk
  · simp (disch := omega) only [rI_ne]; exact h2
  · simp (disch := omega) only [rI_ne]; exact h3
  · rw [rI_eq rfl]
  · simp (disch := omega) only [rI_ne]; exact h5
  · simp (disch := omega) only [rI_ne]; exact h7
theorem RS_q {s : Sg} {p q z : Nat} (h : XS s σ pl T o p q z) {q' : Nat} : RS σ pl T o s (wI s 6 0 4 (nI q')) z [] p q' :=
  ⟨XS_q h, trivial, fun c _ => rI_ne (by omega), rI_ne (by omega), fun hf => ⟨by rw [rI_ne (by omega)] at hf; exact hf, fun _ _ hi => absurd hi (by simp)⟩⟩
theorem oI_0 : (oI o = 0) ↔ o = false := by cases o <;> decide
theorem x_part (K : TK σ pl T) {rb : Sg → Int32 → Option (Sg × Int32)} {D : Int32} {k : Nat} (hb : ∀ s p q z, XS s σ pl T o p q z → p ≤ T → q ≤ 50 → z ≤ p + 30 → σ p = 2091 → ok (rb s D) (RX σ pl T o s z (pPart σ o k p q))) : SX σ pl T o (fun s => x6_readPart rb s D) (pPart σ o k) := by
  intro s p q z h hp hq hz
  have T4 := K.1
  have sp := K.2.2.1 p
  have km : (-1 : Int32).toInt = -1 := by decide
  show ok (x6_readPart rb s D) _
  unfold x6_readPart x6_readPart_G
  rw [xs_sign K h hp]
  simp only [Option.bind_some]
  by_cases c : σ p = 2091
  · rw [gif_t ((sg_eq K li_2091).mpr c)]
    refine ok_bind (ok_mono (hb s p q z h hp hq hz c) (fun x hx => ?_))
    rw [gd_t (RX_B hx)]
    exact ok_some hx
  · rw [gif_f (fun x => c ((sg_eq K li_2091).mp x)), pPart_leaf c, h.2.2.2.1]
    unfold leaf
    by_cases c0 : 50 ≤ q
    · rw [if_pos c0, gif_f (by rw [ti_lt, nI_ti (by omega), li_50]; omega), xs_fail K h hp]
      simp only [Option.bind_some, gdB0]
      exact ok_some ⟨rfl, fx_fail h⟩
    · rw [if_neg c0, gif_t (by rw [ti_lt, nI_ti (by omega), li_50]; omega), nI_s (by omega)]
      have h3 := XS_q h (q' := q + 1)
      have r3 := RS_q h (q' := q + 1)
      rw [xs_sign K h3 hp]
      simp only [Option.bind_some]
      by_cases c1 : σ p ≤ 1000
      · rw [if_pos c1, gif_f (by rw [ti_lt, nI_ti (by omega), li_1000]; omega), xs_sign K h3 hp]
        simp only [Option.bind_some, gdB1]
        obtain ⟨s', e1, e2⟩ := RS_emit r3 (by simp only [List.length_nil]; omega) (a := 1) (b := σ p) (by omega) (by omega) (.inl (.inl rfl)) (fun _ _ => by omega)
        rw [show (1 : Int32) = nI 1 from rfl, e1]
        exact ok_some ⟨rfl, RS_adv e2 (by omega)⟩
      · rw [if_neg c1, gif_t (by rw [ti_lt, nI_ti (by omega), li_1000]; omega), show rI (wI s 6 0 4 (nI (q + 1))) 6 0 5 = oI o from by rw [rI_ne (by omega)]; exact h.2.1]
        by_cases ho : o = false
        · rw [if_pos ho, gif_t (oI_0.mpr ho)]
          by_cases c2 : 3013 ≤ σ p ∧ σ p ≤ 3020
          · rw [if_pos c2]
            refine ok_bind (ok_mono (x_lawFact_y K h3 hp c2) (fun x hx => ?_))
            obtain ⟨x1, v, vb, x2, x3⟩ := hx
            have r4 := RS_adv r3 (by omega)
            have r5 : RS σ pl T o s (wI (adv (wI s 6 0 4 (nI (q + 1)))) 8 0 8 v) z [] (p + 1) (q + 1) := by
              obtain ⟨g1, g2, g3, g4, g5⟩ := r4
              obtain ⟨t1, t2, t3, t4, t5, t6, t7⟩ := g1
              refine ⟨⟨fun k hk => ?_, ?_, ?_, ?_, ?_, t6, ?_⟩, trivial, fun c hc => ?_, ?_, fun hf => ?_⟩
              · simp (disch := omega) only [rI_ne]; exact t1 k hk
              · simp (disch := omega) only [rI_ne]; exact t2
              · simp (disch := omega) only [rI_ne]; exact t3
              · simp (disch := omega) only [rI_ne]; exact t4
              · simp (disch := omega) only [rI_ne]; exact t5
              · rw [rI_eq rfl]; exact vb
              · rw [rI_ne (by omega)]; exact g3 c hc
              · rw [rI_ne (by omega)]; exact g4
              · rw [rI_eq rfl] at hf
                refine ⟨?_, fun _ _ hi => absurd hi (by simp)⟩
                have := (x3 hf).1
                rw [rI_ne (by omega)] at this; exact this
            obtain ⟨s', e1, e2⟩ := RS_emit r5 (by simp only [List.length_nil]; omega) (a := 2) (b := σ p - 3013) (by omega) (by omega) (.inl (.inr rfl)) (fun _ hf => by rw [rI_eq rfl] at hf; have := (x3 hf).2; omega)
            rw [x1, x2, show (2 : Int32) = nI 2 from rfl, e1]
            simp only [Option.bind_some, gdB0, gdB1]
            rw [gif_f (by rw [ti_eq, nI_ti (by omega), km]; omega)]
            exact ok_some ⟨rfl, e2⟩
          · rw [if_neg c2]
            refine ok_bind (ok_mono (x_lawFact_n K h3 hp c2) (fun x hx => ?_))
            obtain ⟨s', e1, e2⟩ := em_f hx.2 2 x.2
            rw [e1]
            simp only [Option.bind_some, gdB0, gdB1]
            rw [gif_t hx.1]
            exact ok_some ⟨rfl, e2⟩
        · rw [if_neg ho, gif_f (fun x => ho (oI_0.mp x))]
          have nolaw : ∀ {P : Prop}, o = false → P := fun x => absurd x ho
          by_cases c2 : σ p = 3025 ∨ σ p = 3026
          · rw [if_pos c2]
            have hp1 := pT K.2.1 hp (by omega)
            obtain ⟨y, y1, y2⟩ := x_of_w K h3 hp c2
            rw [y2]
            have b17 : (if σ p = 3025 then 5 else 17) ≤ 17 := by by_cases y : σ p = 3025 <;> simp [y]
            generalize (if σ p = 3025 then 5 else 17) = b at y1 b17 ⊢
            by_cases c3 : σ (p + 1) ≤ 11
            · rw [if_pos c3, x_k36_y K h3 hp1 y1 b17 c3]
              have r4 := RS_adv (RS_adv r3 (by omega)) (by omega)
              obtain ⟨s', e1, e2⟩ := RS_emit r4 (by simp only [List.length_nil]; omega) (a := 2) (b := b + σ (p + 1)) (by omega) (by omega) (.inl (.inr rfl)) (fun y => nolaw y)
              simp only [Option.bind_some, gdB0, gdB1]
              rw [show (2 : Int32) = nI 2 from rfl, e1]
              simp only [Option.bind_some]
              rw [gif_f (by rw [ti_eq, nI_ti (by omega), km]; omega)]
              exact ok_some ⟨rfl, e2⟩
            · rw [if_neg c3, x_k36_n K h3 hp1 c3]
              simp only [Option.bind_some, gdB0, gdB1]
              obtain ⟨s', e1, e2⟩ := em_f (fx_fail (XS_adv h3 (by omega))) 2 (-1)
              rw [e1]
              simp only [Option.bind_some]
              rw [gif_t trivial]
              exact ok_some ⟨rfl, e2⟩
          · rw [if_neg c2]
            by_cases c3 : 3020 ≤ σ p ∧ σ p ≤ 3024
            · rw [if_pos c3, x_of_y K h3 hp c3]
              have r4 := RS_adv r3 (by omega)
              obtain ⟨s', e1, e2⟩ := RS_emit r4 (by simp only [List.length_nil]; omega) (a := 2) (b := σ p - 3020) (by omega) (by omega) (.inl (.inr rfl)) (fun y => nolaw y)
              simp only [Option.bind_some, gdB0, gdB1]
              rw [show (2 : Int32) = nI 2 from rfl, e1]
              simp only [Option.bind_some]
              rw [gif_f (by rw [ti_eq, nI_ti (by omega), km]; omega)]
              exact ok_some ⟨rfl, e2⟩
            · rw [if_neg c3, x_of_n K h3 hp c2 c3]
              simp only [Option.bind_some, gdB0, gdB1]
              obtain ⟨s', e1, e2⟩ := em_f (fx_fail h3) 2 (-1)
              rw [e1]
              simp only [Option.bind_some]
              rw [gif_t trivial]
              exact ok_some ⟨rfl, e2⟩
