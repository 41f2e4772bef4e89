/-! THE MODEL READS -/
def mc (x : Nat) : Nat :=
  if x ≤ 1001 then 50 else if 2000 ≤ x ∧ x < 2256 then x - 1900 else if 3000 ≤ x ∧ x ≤ 3002 then x - 2999
  else if 3003 ≤ x ∧ x ≤ 3005 then x - 2981 else if x = 3006 then 26 else if x = 3007 then 25 else if x = 3008 then 27
  else if 3009 ≤ x ∧ x ≤ 3026 then x - 3005 else 0
theorem mc_le (x : Nat) : mc x < 400 := by unfold mc; (repeat' split) <;> omega
theorem mc_b {x c : Nat} (h : 100 ≤ c ∧ c < 356) : mc x = c ↔ x = c + 1900 := by unfold mc; (repeat' split) <;> omega
theorem mc_n {x : Nat} : mc x = 50 ↔ x ≤ 1001 := by unfold mc; (repeat' split) <;> omega
theorem mc_w {x c : Nat} (h : 4 ≤ c ∧ c ≤ 21) : mc x = c ↔ x = c + 3005 := by unfold mc; (repeat' split) <;> omega
theorem mc_h {x c : Nat} (h : 1 ≤ c ∧ c ≤ 3) : mc x = c ↔ x = c + 2999 := by unfold mc; (repeat' split) <;> omega
theorem mc_o {x c : Nat} (h : 22 ≤ c ∧ c ≤ 24) : mc x = c ↔ x = c + 2981 := by unfold mc; (repeat' split) <;> omega
theorem mc_25 {x : Nat} : mc x = 25 ↔ x = 3007 := by unfold mc; (repeat' split) <;> omega
theorem mc_26 {x : Nat} : mc x = 26 ↔ x = 3006 := by unfold mc; (repeat' split) <;> omega
theorem mc_27 {x : Nat} : mc x = 27 ↔ x = 3008 := by unfold mc; (repeat' split) <;> omega
theorem mc_r {x a b : Nat} (h : 4 ≤ a ∧ b ≤ 21) : (a ≤ mc x ∧ mc x ≤ b) ↔ (a + 3005 ≤ x ∧ x ≤ b + 3005) := by unfold mc; (repeat' split) <;> omega
def TokM (s : Sg) (σ pl : Nat → Nat) (T : Nat) : Prop := ∀ k, k ≤ T → rI s 50 0 k = nI (mc (σ k)) ∧ (σ k ≤ 1000 → rI s 51 0 k = nI (σ k)) ∧ (σ k = 1001 → 1000 < (rI s 51 0 k).toInt) ∧ rI s 52 0 k = nI (pl k)
def lo (o : Bool) : Nat := if o = true then 15 else 8
def hi (o : Bool) : Nat := if o = true then 21 else 15
def MS (s : Sg) (σ pl : Nat → Nat) (T : Nat) (o : Bool) (p q n : Nat) : Prop :=
  TokM s σ pl T ∧ rI s 10 0 10 = oI o ∧ rI s 10 0 8 = nI (lo o) ∧ rI s 10 0 9 = nI (hi o) ∧ rI s 10 0 19 = nI p ∧ rI s 10 0 20 = nI q ∧ rI s 10 0 24 = nI n ∧ rI s 10 0 21 = -1
def BM (pl : Nat → Nat) (s : Sg) (e : Nat) : Prop := rI s 10 0 21 = nI (pl e) ∧ ∃ t, t ≤ 400 ∧ rI s 10 0 19 = nI t
def MR (σ pl : Nat → Nat) (T : Nat) (o : Bool) (s0 s : Sg) (n : Nat) (P : List Ins) (p q : Nat) : Prop :=
  MS s σ pl T o p q (n + P.length) ∧ (o = false → EncM (s.1 53 0) (s.1 54 0) n P) ∧ ∀ c, c < n → rI s 53 0 c = rI s0 53 0 c ∧ rI s 54 0 c = rI s0 54 0 c
def RM (σ pl : Nat → Nat) (T : Nat) (o : Bool) (s0 : Sg) (n : Nat) (r : PR) (s : Sg) : Prop :=
  match r with
  | .inr e => BM pl s e
  | .inl y => MR σ pl T o s0 s n y.1 y.2.1 y.2.2
def SM (σ pl : Nat → Nat) (T : Nat) (o : Bool) (f : Sg → Option Sg) (pure : Nat → Nat → PR) : Prop :=
  (∀ s p q n, MS s σ pl T o p q n → p ≤ T → q ≤ 50 → n ≤ p + 30 → ok (f s) (RM σ pl T o s n (pure p q))) ∧ ∀ s e, BM pl s e → f s = some s
variable {σ pl : Nat → Nat} {T : Nat} {o : Bool}
theorem RM_l {s0 : Sg} {n : Nat} {P : List Ins} {p q : Nat} {s : Sg} : RM σ pl T o s0 n (.inl (P, p, q)) s ↔ MR σ pl T o s0 s n P p q := Iff.rfl
theorem MS_n {s : Sg} {p q n n' : Nat} (h : MS s σ pl T o p q n) (e : n = n') : MS s σ pl T o p q n' := by rw [← e]; exact h
theorem ne_m1 (K : TK σ pl T) (e : Nat) : ¬ (nI (pl e) = -1) := by
  have := K.2.2.2 e
  rw [ti_eq, nI_ti (by omega), show (-1 : Int32).toInt = -1 by decide]; omega
theorem m_fine_y {s : Sg} (h : rI s 10 0 21 = -1) : m_fine s = some (s, 1) := by
  unfold m_fine m_fine_G
  rw [gif_t h, gd_t (.inr rfl)]
theorem m_fine_b (K : TK σ pl T) {s : Sg} {e : Nat} (h : BM pl s e) : m_fine s = some (s, 0) := by
  unfold m_fine m_fine_G
  rw [gif_f (by rw [h.1]; exact ne_m1 K e), gd_t (.inl rfl)]
theorem m_faults_y (K : TK σ pl T) {s : Sg} {p q n : Nat} (h : MS s σ pl T o p q n) (hp : p ≤ T) : m_faults s = some (wI s 10 0 21 (nI (pl p))) := by
  have := K.1
  unfold m_faults m_faults_G
  rw [m_fine_y h.2.2.2.2.2.2.2]
  simp only [Option.bind_some]
  rw [gif_f (by decide), h.2.2.2.2.1, gd_t (inb_nI (by omega) (by omega)), ix_nI (by omega), (h.1 p hp).2.2.2]
theorem m_faults_b (K : TK σ pl T) {s : Sg} {e : Nat} (h : BM pl s e) : m_faults s = some s := by
  unfold m_faults m_faults_G
  rw [m_fine_b K h]
  simp only [Option.bind_some]
  rw [gif_t trivial]
theorem bm_fault (K : TK σ pl T) {s : Sg} {p q n : Nat} (h : MS s σ pl T o p q n) (hp : p ≤ T) : BM pl (wI s 10 0 21 (nI (pl p))) p := ⟨rI_eq rfl, p, by have := K.1; omega, by rw [rI_ne (by omega)]; exact h.2.2.2.2.1⟩
def madv (s : Sg) : Sg := wI s 10 0 19 (rI s 10 0 19 + 1)
theorem MS_adv {s : Sg} {p q n : Nat} (h : MS s σ pl T o p q n) (hp : p < 1000) : MS (madv s) σ pl T o (p + 1) q n := by
  obtain ⟨h1, h2, h3, h4, h5, h6, h7, h8⟩ := h
  unfold madv
  refine ⟨fun k hk => ?_, ?_, ?_, ?_, ?_, ?_, ?_, ?_⟩
  · rw [rI_ne (by omega), rI_ne (by omega), rI_ne (by omega)]; exact h1 k hk
  · rw [rI_ne (by omega)]; exact h2
  · rw [rI_ne (by omega)]; exact h3
  · rw [rI_ne (by omega)]; exact h4
  · rw [rI_eq rfl, h5, nI_s (by omega)]
  · rw [rI_ne (by omega)]; exact h6
  · rw [rI_ne (by omega)]; exact h7
  · rw [rI_ne (by omega)]; exact h8
theorem m_code {s : Sg} {p q n : Nat} (h : MS s σ pl T o p q n) (hp : p ≤ T) : rI s 50 0 p = nI (mc (σ p)) := (h.1 p hp).1
theorem mq {a : Nat} {w : Int32} {m : Nat} (ha : a < 1000000) (hm : w.toInt = m) : (nI a = w) ↔ a = m := by
  rw [ti_eq, nI_ti (by omega), hm]; omega
theorem m_take_y (K : TK σ pl T) {s : Sg} {p q n : Nat} (h : MS s σ pl T o p q n) (hp : p ≤ T) {w : Int32} {m : Nat} (hm : w.toInt = m) (c : mc (σ p) = m) : m_takes0 s w = some (madv s, 1) := by
  have := K.1
  have := mc_le (σ p)
  unfold m_takes0 m_takes0_G
  rw [m_fine_y h.2.2.2.2.2.2.2]
  simp only [Option.bind_some, gdB0, gdB1]
  rw [gif_f (by decide), h.2.2.2.2.1, gd_t (inb_nI (by omega) (by omega)), ix_nI (by omega), m_code h hp, gif_t ((mq (by omega) hm).mpr c), gif_f (by decide)]
  unfold madv
  rw [h.2.2.2.2.1]
theorem m_take_n (K : TK σ pl T) {s : Sg} {p q n : Nat} (h : MS s σ pl T o p q n) (hp : p ≤ T) {w : Int32} {m : Nat} (hm : w.toInt = m) (c : mc (σ p) ≠ m) : m_takes0 s w = some (s, 0) := by
  have := K.1
  have := mc_le (σ p)
  unfold m_takes0 m_takes0_G
  rw [m_fine_y h.2.2.2.2.2.2.2]
  simp only [Option.bind_some, gdB0, gdB1]
  rw [gif_f (by decide), h.2.2.2.2.1, gd_t (inb_nI (by omega) (by omega)), ix_nI (by omega), m_code h hp, gif_f (fun x => c ((mq (by omega) hm).mp x)), gif_t trivial]
theorem m_take_b (K : TK σ pl T) {s : Sg} {e : Nat} (h : BM pl s e) (w : Int32) : m_takes0 s w = some (s, 0) := by
  unfold m_takes0 m_takes0_G
  rw [m_fine_b K h]
  simp only [Option.bind_some, gdB0, gdB1]
  rw [gif_t trivial, gif_t trivial]
theorem m_must_y (K : TK σ pl T) {s : Sg} {p q n : Nat} (h : MS s σ pl T o p q n) (hp : p ≤ T) {w : Int32} {m : Nat} (hm : w.toInt = m) (c : mc (σ p) = m) : m_must s w = some (madv s) := by
  unfold m_must m_must_G
  rw [m_take_y K h hp hm c]
  simp only [Option.bind_some]
  rw [gif_f (by decide)]
theorem m_must_n (K : TK σ pl T) {s : Sg} {p q n : Nat} (h : MS s σ pl T o p q n) (hp : p ≤ T) {w : Int32} {m : Nat} (hm : w.toInt = m) (c : mc (σ p) ≠ m) : m_must s w = some (wI s 10 0 21 (nI (pl p))) := by
  unfold m_must m_must_G
  rw [m_take_n K h hp hm c]
  simp only [Option.bind_some]
  rw [gif_t trivial, m_faults_y K h hp]
  rfl
theorem m_must_b (K : TK σ pl T) {s : Sg} {e : Nat} (h : BM pl s e) (w : Int32) : m_must s w = some s := by
  unfold m_must m_must_G
  rw [m_take_b K h w]
  simp only [Option.bind_some]
  rw [gif_t trivial, m_faults_b K h]
  rfl
def mop (s : Sg) (n : Nat) (c w : Int32) : Sg := wI (wI (wI s 53 0 n c) 54 0 n w) 10 0 24 (nI (n + 1))
theorem m_tell_y {s : Sg} {p q n : Nat} (h : MS s σ pl T o p q n) (hn : n < 800) (c w : Int32) : m_tellsOp s c w = some (mop s n c w, nI n) := by
  have e := h.2.2.2.2.2.2.1
  unfold m_tellsOp m_tellsOp_G
  rw [m_fine_y h.2.2.2.2.2.2.2]
  simp only [Option.bind_some]
  have e1 : rI (wI s 53 0 n c) 10 0 24 = nI n := by rw [rI_ne (by omega)]; exact e
  have e2 : rI (wI (wI s 53 0 n c) 54 0 n w) 10 0 24 = nI n := by rw [rI_ne (by omega), rI_ne (by omega)]; exact e
  rw [gif_f (by decide), e, gd_t (inb_nI (by omega) hn), ix_nI (by omega), e1, gd_t (inb_nI (by omega) hn), ix_nI (by omega), e2, rI_eq rfl]
  have : nI n + 1 - 1 = nI n := by
    rw [nI_s (by omega), ti_eq, ti_sub (by rw [nI_ti (by omega), li_1]; omega) (by rw [nI_ti (by omega), li_1]; omega), nI_ti (by omega), nI_ti (by omega), li_1]; omega
  rw [this, nI_s (by omega)]; rfl
theorem m_tell_b (K : TK σ pl T) {s : Sg} {e : Nat} (h : BM pl s e) (c w : Int32) : m_tellsOp s c w = some (s, 0) := by
  unfold m_tellsOp m_tellsOp_G
  rw [m_fine_b K h]
  simp only [Option.bind_some]
  rw [gif_t trivial]
theorem mop_r {s : Sg} {n : Nat} {c w : Int32} {k i x : Nat} (h : ¬ (k = 53 ∧ x = n) ∧ ¬ (k = 54 ∧ x = n) ∧ ¬ (k = 10 ∧ x = 24)) : rI (mop s n c w) k i x = rI s k i x := by
  unfold mop; rw [rI_ne (by omega), rI_ne (by omega), rI_ne (by omega)]
theorem mop_c {s : Sg} {n : Nat} {c w : Int32} : rI (mop s n c w) 53 0 n = c := by unfold mop; rw [rI_ne (by omega), rI_ne (by omega), rI_eq rfl]
theorem mop_w {s : Sg} {n : Nat} {c w : Int32} : rI (mop s n c w) 54 0 n = w := by unfold mop; rw [rI_ne (by omega), rI_eq rfl]
theorem MS_op {s : Sg} {p q n : Nat} {c w : Int32} (h : MS s σ pl T o p q n) : MS (mop s n c w) σ pl T o p q (n + 1) := by
  obtain ⟨h1, h2, h3, h4, h5, h6, h7, h8⟩ := h
  refine ⟨fun k hk => ?_, ?_, ?_, ?_, ?_, ?_, ?_, ?_⟩
  · rw [mop_r (by omega), mop_r (by omega), mop_r (by omega)]; exact h1 k hk
  · rw [mop_r (by omega)]; exact h2
  · rw [mop_r (by omega)]; exact h3
  · rw [mop_r (by omega)]; exact h4
  · rw [mop_r (by omega)]; exact h5
  · rw [mop_r (by omega)]; exact h6
  · unfold mop; rw [rI_eq rfl]
  · rw [mop_r (by omega)]; exact h8
theorem EncM_k {c v c' v' : Nat → Int32} : ∀ {P : List Ins} {q : Nat}, (∀ i, q ≤ i → i < q + P.length → c' i = c i ∧ v' i = v i) → EncM c v q P → EncM c' v' q P := by
  intro P
  induction P with
  | nil => intro q _ _; trivial
  | cons i r ih =>
    intro q h g
    simp only [List.length_cons] at h
    obtain ⟨e1, e2⟩ := h q (by omega) (by omega)
    exact ⟨by rw [e1]; exact g.1, fun x => by rw [e2]; exact g.2.1 x, fun x => by rw [e2]; exact g.2.2.1 x, ih (fun j h1 h2 => h j (by omega) (by omega)) g.2.2.2⟩
theorem EncM_app {c v : Nat → Int32} : ∀ {P Q : List Ins} {q : Nat}, EncM c v q P → EncM c v (q + P.length) Q → EncM c v q (P ++ Q) := by
  intro P
  induction P with
  | nil => intro Q q _ g; exact g
  | cons i r ih =>
    intro Q q h g
    simp only [List.length_cons] at g
    exact ⟨h.1, h.2.1, h.2.2.1, ih h.2.2.2 (by rw [show q + 1 + r.length = q + (r.length + 1) by omega]; exact g)⟩
theorem MR_0 {s : Sg} {p q n : Nat} (h : MS s σ pl T o p q n) : MR σ pl T o s s n [] p q := ⟨h, fun _ => trivial, fun _ _ => ⟨rfl, rfl⟩⟩
theorem MR_adv {s0 s : Sg} {n : Nat} {P : List Ins} {p q : Nat} (h : MR σ pl T o s0 s n P p q) (hp : p < 1000) : MR σ pl T o s0 (madv s) n P (p + 1) q := by
  obtain ⟨h1, h2, h3⟩ := h
  refine ⟨MS_adv h1 hp, fun ho => EncM_k (fun i _ _ => ?_) (h2 ho), fun c hc => ?_⟩
  · exact ⟨show rI (madv s) 53 0 i = rI s 53 0 i by unfold madv; rw [rI_ne (by omega)], show rI (madv s) 54 0 i = rI s 54 0 i by unfold madv; rw [rI_ne (by omega)]⟩
  · unfold madv; rw [rI_ne (by omega), rI_ne (by omega)]; exact h3 c hc
theorem MR_op {s0 s : Sg} {n : Nat} {P : List Ins} {p q : Nat} (h : MR σ pl T o s0 s n P p q) {a b : Nat} {c w : Int32} (hE : o = false → c.toInt = encm (a, b) ∧ (a = 1 → w.toInt = b) ∧ a ≠ 4 ∧ a ≠ 5) : MR σ pl T o s0 (mop s (n + P.length) c w) n (P ++ [(a, b)]) p q := by
  obtain ⟨h1, h2, h3⟩ := h
  refine ⟨MS_n (MS_op h1) (by simp only [List.length_append, List.length_cons, List.length_nil]; omega), fun ho => EncM_app (EncM_k (fun i _ hi => ?_) (h2 ho)) ⟨?_, fun x => ?_, fun x => ?_, trivial⟩, fun j hj => ?_⟩
  · exact ⟨show rI (mop s (n + P.length) c w) 53 0 i = rI s 53 0 i from mop_r (by omega), show rI (mop s (n + P.length) c w) 54 0 i = rI s 54 0 i from mop_r (by omega)⟩
  · show (rI (mop s (n + P.length) c w) 53 0 (n + P.length)).toInt = _
    rw [mop_c]; exact (hE ho).1
  · show (rI (mop s (n + P.length) c w) 54 0 (n + P.length)).toInt = _
    rw [mop_w]; exact (hE ho).2.1 x
  · have := (hE ho).2.2; simp only at x; omega
  · rw [mop_r (by omega), mop_r (by omega)]; exact h3 j hj
theorem MR_app {s0 s s' : Sg} {n : Nat} {P Q : List Ins} {p q p' q' : Nat} (h : MR σ pl T o s0 s n P p q) (g : MR σ pl T o s s' (n + P.length) Q p' q') : MR σ pl T o s0 s' n (P ++ Q) p' q' := by
  obtain ⟨h1, h2, h3⟩ := h
  obtain ⟨g1, g2, g3⟩ := g
  refine ⟨MS_n g1 (by rw [List.length_append]; omega), fun ho => EncM_app (EncM_k (fun i _ hi => g3 i hi) (h2 ho)) (g2 ho), fun c hc => ?_⟩
  rw [(g3 c (by omega)).1, (g3 c (by omega)).2]; exact h3 c hc
/-- a number that is no part by itself -/
theorem m_num_y (K : TK σ pl T) {s : Sg} {p q n : Nat} (h : MS s σ pl T o p q n) (hp : p ≤ T) {u w : Int32} {a b : Nat} (hu : u.toInt = a) (hw : w.toInt = b) (hb : b ≤ 1000) (c : a ≤ σ p ∧ σ p ≤ b) : m_mustNumber s u w = some (madv s) := by
  have := K.1
  have f := m_fine_y h.2.2.2.2.2.2.2
  unfold m_mustNumber m_mustNumber_G
  rw [f]
  simp only [Option.bind_some, q_m_lies, Option.bind_some, gdB0, gdB1, gdbI, gifbI]
  rw [gif_f (by decide), h.2.2.2.2.1, gd_t (inb_nI (by omega) (by omega)), ix_nI (by omega), m_code h hp, gif_t ((mq (by have := mc_le (σ p); omega) li_50).mpr (mc_n.mpr (by omega))), gd_t (inb_nI (by omega) (by omega)), (h.1 p hp).2.1 (by omega), gif_t (by rw [nI_ti (by omega), hu, hw]; omega), f]
  simp only [Option.bind_some]
  rw [gif_f (by decide)]
  unfold madv
  rw [h.2.2.2.2.1]
theorem m_num_n (K : TK σ pl T) {s : Sg} {p q n : Nat} (h : MS s σ pl T o p q n) (hp : p ≤ T) {u w : Int32} {a b : Nat} (hu : u.toInt = a) (hw : w.toInt = b) (hb : b ≤ 1000) (c : ¬ (a ≤ σ p ∧ σ p ≤ b)) : m_mustNumber s u w = some (wI s 10 0 21 (nI (pl p))) := by
  have := K.1
  have f := m_fine_y h.2.2.2.2.2.2.2
  have fb := m_fine_b K (bm_fault K h hp)
  unfold m_mustNumber m_mustNumber_G
  rw [f]
  simp only [Option.bind_some, q_m_lies, Option.bind_some, gdB0, gdB1, gdbI, gifbI]
  rw [gif_f (by decide), h.2.2.2.2.1, gd_t (inb_nI (by omega) (by omega)), ix_nI (by omega), m_code h hp]
  refine gif_eq (fun d => ?_) (fun d => ?_)
  · have le := mc_n.mp ((mq (by have := mc_le (σ p); omega) li_50).mp d)
    rw [gd_t (inb_nI (by omega) (by omega)), gif_f ?_, m_faults_y K h hp]
    · simp only [Option.bind_some]
      rw [fb]
      simp only [Option.bind_some]
      rw [gif_t trivial]
    · rw [hu, hw]
      by_cases e : σ p = 1001
      · have := (h.1 p hp).2.2.1 e; omega
      · rw [(h.1 p hp).2.1 (by omega), nI_ti (by omega)]; omega
  · rw [m_faults_y K h hp]
    simp only [Option.bind_some]
    rw [fb]
    simp only [Option.bind_some]
    rw [gif_t trivial]
theorem m_num_b (K : TK σ pl T) {s : Sg} {e : Nat} (h : BM pl s e) (u w : Int32) : m_mustNumber s u w = some s := by
  have fb := m_fine_b K h
  unfold m_mustNumber m_mustNumber_G
  rw [fb]
  simp only [Option.bind_some]
  rw [gif_t trivial, fb]
  simp only [Option.bind_some]
  rw [gif_t trivial]
