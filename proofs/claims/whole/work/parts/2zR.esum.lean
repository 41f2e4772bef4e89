/-! ORDERS' SUMS, as the model works them out along the tokens -/
def ES (F : Nat → Int32) (P : List Ins) (r : Option Int64) : Prop := ∀ k, evA F P 0 k = match r with | none => some none | some v => some (some (0, v :: k))
def cb (o : Nat) (r1 r2 : Option Int64) : Option Int64 := match r1, r2 with | some a, some b => opn o a b | _, _ => none
theorem ES_op {F : Nat → Int32} {P Q : List Ins} {r1 r2 : Option Int64} {o : Nat} (h1 : ES F P r1) (h2 : ES F Q r2) (ho : 7 ≤ o) : ES F (P ++ Q ++ [(o, 0)]) (cb o r1 r2) := by
  intro k
  rw [evA_app, evA_app, h1 k]
  cases r1 with
  | none => rfl
  | some a =>
    simp only [thn]
    rw [h2 (a :: k)]
    cases r2 with
    | none => rfl
    | some b =>
      simp only []
      rw [ev_op ho]
      show (match opn o a b with | none => some none | some v => some (some (0, v :: k))) = match opn o a b with | none => some none | some v => some (some (0, v :: k))
      rfl
def SVe (s s' : Sg) : Prop := (∀ k i c, ¬ (k = 10 ∧ (c = 25 ∨ c = 27)) → rI s' k i c = rI s k i c) ∧ s'.2 = s.2
theorem SVe.rf {s : Sg} : SVe s s := ⟨fun _ _ _ _ => rfl, rfl⟩
theorem SVe.tr {a b c : Sg} (h : SVe a b) (g : SVe b c) : SVe a c := ⟨fun k i x n => (g.1 k i x n).trans (h.1 k i x n), g.2.trans h.2⟩
theorem SVe.w {a b : Sg} {c : Nat} {v : Int32} (h : SVe a b) (hc : c = 25 ∨ c = 27) : SVe a (wI b 10 0 c v) := ⟨fun k i x n => by rw [rI_ne (by omega)]; exact h.1 k i x n, h.2⟩
def endV (s : Sg) (w : Nat) : Int32 := if (w : Int) + 1 = (rI s 43 0 54).toInt ∨ bt (rI s 43 0 0) w = true then (if bt (rI s 43 0 1) w = true then 3 else 1) else (if bt (rI s 43 0 1) w = true then 2 else 0)
def FO (s : Sg) (F : Nat → Int32) : Prop := (rI s 43 0 14 = F 0 ∧ rI s 10 0 29 = F 1 ∧ rI s 10 0 30 = F 2 ∧ rI s 10 0 31 = F 3 ∧ rI s 10 0 32 = F 4) ∧ ∀ w, w < 12 → F (5 + w) = (if (w : Int) < (rI s 43 0 54).toInt then rI s 43 0 (2 + w) else -1) ∧ F (17 + w) = (if (w : Int) < (rI s 43 0 54).toInt then endV s w else -1)
def IM (σ : Nat → Nat) (T : Nat) (F : Nat → Int32) (s : Sg) (p : Nat) : Prop :=
  (∀ k, k < T → rI s 43 0 (2465 + k) = nI (mc (σ k)) ∧ (σ k ≤ 1000 → rI s 43 0 (5265 + k) = nI (σ k))) ∧ rI s 10 0 26 = nI (2400 + T) ∧ rI s 10 0 25 = nI (2400 + p) ∧ isB (rI s 10 0 27) ∧ FO s F ∧ (0 ≤ (rI s 43 0 54).toInt ∧ (rI s 43 0 54).toInt ≤ 12)
theorem IM_c {σ : Nat → Nat} {T : Nat} {F : Nat → Int32} {s s' : Sg} {p p' : Nat} (h : IM σ T F s p) (g : SVe s s') (e : rI s' 10 0 25 = nI (2400 + p')) (b : isB (rI s' 10 0 27)) : IM σ T F s' p' := by
  obtain ⟨h1, h2, h3, h4, ⟨⟨f1, f2, f3, f4, f5⟩, f6⟩, h6⟩ := h
  have q : ∀ c, rI s' 43 0 c = rI s 43 0 c := fun c => g.1 _ _ _ (by omega)
  have ev : ∀ w, endV s' w = endV s w := fun w => by unfold endV; rw [q, q, q]
  refine ⟨fun k hk => ?_, by rw [g.1 _ _ _ (by omega)]; exact h2, e, b, ⟨⟨by rw [q]; exact f1, by rw [g.1 _ _ _ (by omega)]; exact f2, by rw [g.1 _ _ _ (by omega)]; exact f3, by rw [g.1 _ _ _ (by omega)]; exact f4, by rw [g.1 _ _ _ (by omega)]; exact f5⟩, fun w hw => ?_⟩, by rw [q]; exact h6⟩
  · rw [q, q]; exact h1 k hk
  · rw [q, q, ev]; exact f6 w hw
variable {σ : Nat → Nat} {T : Nat} {F : Nat → Int32}
def gadv (s : Sg) : Sg := wI s 10 0 25 (rI s 10 0 25 + 1)
theorem gadv_S {s : Sg} : SVe s (gadv s) := SVe.rf.w (.inl rfl)
theorem gadv_25 {s : Sg} {p : Nat} (h : rI s 10 0 25 = nI (2400 + p)) (hp : p < 1000) : rI (gadv s) 10 0 25 = nI (2400 + (p + 1)) := by unfold gadv; rw [rI_eq rfl, h, nI_s (by omega)]; rfl
theorem gadv_27 {s : Sg} : rI (gadv s) 10 0 27 = rI s 10 0 27 := by unfold gadv; rw [rI_ne (by omega)]
theorem IM_adv {s : Sg} {p : Nat} (h : IM σ T F s p) (hp : p < 1000) : IM σ T F (gadv s) (p + 1) := IM_c h gadv_S (gadv_25 h.2.2.1 hp) (by rw [gadv_27]; exact h.2.2.2.1)
theorem add65 {a : Nat} (h : a < 100000) : 65 + nI a = nI (65 + a) := by
  rw [ti_eq, ti_add (by rw [nI_ti (by omega), li_65]; omega) (by rw [nI_ti (by omega), li_65]; omega), nI_ti (by omega), nI_ti (by omega), li_65]; omega
theorem add28 {a : Nat} (h : a < 100000) : 2865 + nI a = nI (2865 + a) := by
  rw [ti_eq, ti_add (by rw [nI_ti (by omega), li_2865]; omega) (by rw [nI_ti (by omega), li_2865]; omega), nI_ti (by omega), nI_ti (by omega), li_2865]; omega
theorem e_code (hT : σ T = 4000) (T4 : T ≤ 400) {s : Sg} {p : Nat} (h : IM σ T F s p) (hp : p ≤ T) : m_codeAt s (rI s 10 0 25) = some (s, nI (mc (σ p))) := by
  unfold m_codeAt m_codeAt_G
  rw [h.2.1, h.2.2.1]
  by_cases c : p < T
  · rw [gif_t (by rw [ti_lt, nI_ti (by omega), nI_ti (by omega)]; omega), add65 (by omega), gd_t (inb_nI (by omega) (by omega)), ix_nI (by omega), show 65 + (2400 + p) = 2465 + p by omega, (h.1 p c).1]
  · have : p = T := by omega
    rw [gif_f (by rw [ti_lt, nI_ti (by omega), nI_ti (by omega)]; omega), this, hT]; rfl
theorem e_pass_y (hT : σ T = 4000) (T4 : T ≤ 400) {s : Sg} {p : Nat} (h : IM σ T F s p) (hp : p ≤ T) {w : Int32} {m : Nat} (hm : w.toInt = m) (c : mc (σ p) = m) : m_passes0 s w = some (gadv s, 1) := by
  unfold m_passes0 m_passes0_G
  rw [e_code hT T4 h hp]
  simp only [Option.bind_some, gdB0, gdB1]
  rw [gif_t ((mq (by have := mc_le (σ p); omega) hm).mpr c), gif_f (by decide)]; rfl
theorem e_pass_n (hT : σ T = 4000) (T4 : T ≤ 400) {s : Sg} {p : Nat} (h : IM σ T F s p) (hp : p ≤ T) {w : Int32} {m : Nat} (hm : w.toInt = m) (c : mc (σ p) ≠ m) : m_passes0 s w = some (s, 0) := by
  unfold m_passes0 m_passes0_G
  rw [e_code hT T4 h hp]
  simp only [Option.bind_some, gdB0, gdB1]
  rw [gif_f (fun x => c ((mq (by have := mc_le (σ p); omega) hm).mp x)), gif_t trivial]
/-- what a sum is worth, and whether all is BROKEN -/
def alv (s : Sg) (live : Int32) : Prop := live = 1 ∧ rI s 10 0 27 = 0
def ST (s0 s : Sg) (live : Int32) (v : Int64) (p : Nat) (r : Option Int64) : Prop :=
  SVe s0 s ∧ rI s 10 0 25 = nI (2400 + p) ∧ (alv s0 live → match r with | some x => rI s 10 0 27 = 0 ∧ v = x | none => rI s 10 0 27 = 1 ∧ v = 0) ∧ (¬ alv s0 live → rI s 10 0 27 = rI s0 10 0 27 ∧ v = 0)
theorem ST_B {s0 s : Sg} {live : Int32} {v : Int64} {p : Nat} {r : Option Int64} (h : ST s0 s live v p r) (b : isB (rI s0 10 0 27)) : isB (rI s 10 0 27) := by
  by_cases a : alv s0 live
  · have := h.2.2.1 a
    cases r with
    | none => exact .inr this.1
    | some x => exact .inl this.1
  · rw [(h.2.2.2 a).1]; exact b
def SE (σ : Nat → Nat) (T : Nat) (F : Nat → Int32) (f : Sg → Int32 → Option (Sg × Int64)) (pure : Nat → Nat → PR) : Prop :=
  ∀ s p q P p' q' live, IM σ T F s p → p ≤ T → q ≤ 50 → pure p q = .inl (P, p', q') → isB live → ∃ r, ES F P r ∧ ok (f s live) (fun y => ST s y.1 live y.2 p' r)
/-- bounded -/
theorem bd_al {s : Sg} {v : Int64} (h : rI s 10 0 27 = 0) : m_bounded s v 1 = if FARI < v ∨ v < -FARI then some (wI s 10 0 27 1, 0) else some (s, v) := by
  unfold m_bounded m_bounded_G
  simp only [cmp_gt, cmp_lt, gdB1]
  rw [gif_f (by decide), rI_eq rfl]
  show gif (FARI < v) (gif ((1 : Int32) = 0) _ _) (gif (v < -FARI) (gif ((1 : Int32) = 0) _ _) _) = _
  rw [gif_f (show ¬ (1 : Int32) = 0 by decide), gif_t h]
  by_cases c : FARI < v
  · rw [gif_t c, if_pos (.inl c)]
  · rw [gif_f c]
    by_cases d : v < -FARI
    · rw [gif_t d, if_pos (.inr d)]
    · rw [gif_f d, if_neg (fun x => x.elim c d)]
theorem bd_br {s : Sg} {v : Int64} (h : rI s 10 0 27 = 1) : ok (m_bounded s v 1) (fun y => SVe s y.1 ∧ rI y.1 10 0 25 = rI s 10 0 25 ∧ rI y.1 10 0 27 = 1 ∧ y.2 = 0) := by
  unfold m_bounded m_bounded_G
  simp only [gdB1]
  rw [gif_f (by decide), rI_eq rfl]
  have w : ok (some ((wI s 10 0 27 1, 0) : Sg × Int64)) (fun y => SVe s y.1 ∧ rI y.1 10 0 25 = rI s 10 0 25 ∧ rI y.1 10 0 27 = 1 ∧ y.2 = 0) := ok_some ⟨SVe.rf.w (.inr rfl), rI_ne (by omega), rI_eq rfl, rfl⟩
  refine ok_gif (fun _ => ?_) (fun _ => ok_gif (fun _ => ?_) (fun _ => ?_))
  · rw [gif_f (by decide)]; exact w
  · rw [gif_f (by decide)]; exact w
  · rw [gif_f (by rw [h]; decide)]; exact ok_some ⟨SVe.rf, rfl, h, rfl⟩
theorem bd_de {s : Sg} {v : Int64} (hv : v = 0) : m_bounded s v 0 = some (s, 0) := by
  unfold m_bounded m_bounded_G
  rw [gif_t rfl, hv]
  exact gif_eq (fun _ => rfl) (fun _ => rfl)
/-- a sign worked off behind both parts -/
theorem e_comb {s0 s y1 : Sg} {live : Int32} (hl : isB live) (hb : isB (rI s0 10 0 27)) {v w : Int64} {p p2 : Nat} {r r2 : Option Int64} {o : Nat} (h1 : ST s0 s live v p r) (h2 : ST (gadv s) y1 live w p2 r2) (o79 : o = 7 ∨ o = 8 ∨ o = 9) : ok (m_bounded y1 (opr o v w) live) (fun z => ST s0 z.1 live z.2 p2 (cb o r r2)) := by
  have sv : SVe s0 y1 := (h1.1.tr gadv_S).tr h2.1
  by_cases a0 : alv s0 live
  · obtain ⟨l1, b0⟩ := a0
    subst l1
    have q1 := h1.2.2.1 ⟨rfl, b0⟩
    cases r with
    | none =>
      have na : ¬ alv (gadv s) 1 := fun x => by have := x.2; rw [gadv_27, q1.1] at this; exact absurd this (by decide)
      obtain ⟨e1, e2⟩ := h2.2.2.2 na
      rw [gadv_27, q1.1] at e1
      refine ok_mono (bd_br e1) (fun z hz => ⟨sv.tr hz.1, by rw [hz.2.1]; exact h2.2.1, fun _ => ⟨hz.2.2.1, hz.2.2.2⟩, fun n => absurd ⟨rfl, b0⟩ n⟩)
    | some a =>
      obtain ⟨q2, q3⟩ := q1
      have al : alv (gadv s) 1 := ⟨rfl, by rw [gadv_27]; exact q2⟩
      have e := h2.2.2.1 al
      cases r2 with
      | none =>
        refine ok_mono (bd_br e.1) (fun z hz => ⟨sv.tr hz.1, by rw [hz.2.1]; exact h2.2.1, fun _ => ⟨hz.2.2.1, hz.2.2.2⟩, fun n => absurd ⟨rfl, b0⟩ n⟩)
      | some b =>
        obtain ⟨e1, e2⟩ := e
        subst q3; subst e2
        rw [bd_al e1]
        have cbv : cb o (some v) (some w) = if FARI < opr o v w ∨ opr o v w < -FARI then none else some (opr o v w) := by
          show opn o v w = _
          unfold opn
          rw [if_neg (by omega)]
        by_cases f : FARI < opr o v w ∨ opr o v w < -FARI
        · rw [if_pos f] at cbv ⊢
          rw [cbv]
          exact ok_some ⟨sv.w (.inr rfl), by rw [rI_ne (by omega)]; exact h2.2.1, fun _ => ⟨rI_eq rfl, rfl⟩, fun n => absurd ⟨rfl, b0⟩ n⟩
        · rw [if_neg f] at cbv ⊢
          rw [cbv]
          exact ok_some ⟨sv, h2.2.1, fun _ => ⟨e1, rfl⟩, fun n => absurd ⟨rfl, b0⟩ n⟩
  · obtain ⟨q1, q2⟩ := h1.2.2.2 a0
    have na : ¬ alv (gadv s) live := fun x => a0 ⟨x.1, by have := x.2; rw [gadv_27, q1] at this; exact this⟩
    obtain ⟨e1, e2⟩ := h2.2.2.2 na
    rw [gadv_27, q1] at e1
    have z0 : opr o v w = 0 := by
      rw [q2, e2]
      unfold opr
      rcases o79 with rfl | rfl | rfl <;> decide
    rcases hl with rfl | rfl
    · rw [bd_de z0]
      exact ok_some ⟨sv, h2.2.1, fun x => absurd x a0, fun _ => ⟨e1, rfl⟩⟩
    · have b1 : rI s0 10 0 27 = 1 := hb.resolve_left (fun x => a0 ⟨rfl, x⟩)
      rw [b1] at e1
      exact ok_mono (bd_br e1) (fun z hz => ⟨sv.tr hz.1, by rw [hz.2.1]; exact h2.2.1, fun x => absurd x a0, fun _ => ⟨by rw [hz.2.2.1, b1], hz.2.2.2⟩⟩)
/-- a division -/
theorem e_div {s0 s y1 : Sg} {live : Int32} (hl : isB live) (hb : isB (rI s0 10 0 27)) {v w : Int64} {p p2 : Nat} {r r2 : Option Int64} {o : Nat} (h1 : ST s0 s live v p r) (h2 : ST (gadv s) y1 live w p2 r2) (oo : o = 10 ∨ o = 11) :
    (w = 0 → ∀ x : Int32, (x = if rI y1 10 0 27 = 0 ∧ live = 0 then 0 else 1) → ok (m_bounded (wI y1 10 0 27 x) (opr o v 1) live) (fun z => ST s0 z.1 live z.2 p2 (cb o r r2))) ∧
    (¬ w = 0 → ok (m_bounded y1 (opr o v w) live) (fun z => ST s0 z.1 live z.2 p2 (cb o r r2))) := by
  have sv : SVe s0 y1 := (h1.1.tr gadv_S).tr h2.1
  by_cases a0 : alv s0 live
  · obtain ⟨l1, b0⟩ := a0
    subst l1
    have q1 := h1.2.2.1 ⟨rfl, b0⟩
    -- broken already
    have brk : rI y1 10 0 27 = 1 → cb o r r2 = none → w = 0 → (w = 0 → ∀ x : Int32, (x = if rI y1 10 0 27 = 0 ∧ (1 : Int32) = 0 then 0 else 1) → ok (m_bounded (wI y1 10 0 27 x) (opr o v 1) 1) (fun z => ST s0 z.1 1 z.2 p2 (cb o r r2))) ∧ (¬ w = 0 → ok (m_bounded y1 (opr o v w) 1) (fun z => ST s0 z.1 1 z.2 p2 (cb o r r2))) := by
      intro e1 ec w0
      refine ⟨fun _ x hx => ?_, fun n => absurd w0 n⟩
      rw [if_neg (fun y => absurd y.2 (by decide))] at hx
      subst hx
      rw [ec]
      exact ok_mono (bd_br (rI_eq rfl)) (fun z hz => ⟨(sv.w (.inr rfl)).tr hz.1, by rw [hz.2.1, rI_ne (by omega)]; exact h2.2.1, fun _ => ⟨hz.2.2.1, hz.2.2.2⟩, fun n => absurd ⟨rfl, b0⟩ n⟩)
    cases r with
    | none =>
      have na : ¬ alv (gadv s) 1 := fun x => by have := x.2; rw [gadv_27, q1.1] at this; exact absurd this (by decide)
      obtain ⟨e1, e2⟩ := h2.2.2.2 na
      rw [gadv_27, q1.1] at e1
      exact brk e1 rfl e2
    | some a =>
      obtain ⟨q2, q3⟩ := q1
      have al : alv (gadv s) 1 := ⟨rfl, by rw [gadv_27]; exact q2⟩
      have e := h2.2.2.1 al
      cases r2 with
      | none => exact brk e.1 rfl e.2
      | some b =>
        obtain ⟨e1, e2⟩ := e
        subst q3; subst e2
        refine ⟨fun w0 x hx => ?_, fun w0 => ?_⟩
        · rw [if_neg (fun y => absurd y.2 (by decide))] at hx
          subst hx
          have cbv : cb o (some v) (some w) = none := by
            show opn o v w = none
            unfold opn
            rw [if_pos ⟨oo, w0⟩]
          rw [cbv]
          exact ok_mono (bd_br (rI_eq rfl)) (fun z hz => ⟨(sv.w (.inr rfl)).tr hz.1, by rw [hz.2.1, rI_ne (by omega)]; exact h2.2.1, fun _ => ⟨hz.2.2.1, hz.2.2.2⟩, fun n => absurd ⟨rfl, b0⟩ n⟩)
        · rw [bd_al e1]
          have cbv : cb o (some v) (some w) = if FARI < opr o v w ∨ opr o v w < -FARI then none else some (opr o v w) := by
            show opn o v w = _
            unfold opn
            rw [if_neg (fun y => w0 y.2)]
          by_cases f : FARI < opr o v w ∨ opr o v w < -FARI
          · rw [if_pos f] at cbv ⊢
            rw [cbv]
            exact ok_some ⟨sv.w (.inr rfl), by rw [rI_ne (by omega)]; exact h2.2.1, fun _ => ⟨rI_eq rfl, rfl⟩, fun n => absurd ⟨rfl, b0⟩ n⟩
          · rw [if_neg f] at cbv ⊢
            rw [cbv]
            exact ok_some ⟨sv, h2.2.1, fun _ => ⟨e1, rfl⟩, fun n => absurd ⟨rfl, b0⟩ n⟩
  · obtain ⟨q1, q2⟩ := h1.2.2.2 a0
    have na : ¬ alv (gadv s) live := fun x => a0 ⟨x.1, by have := x.2; rw [gadv_27, q1] at this; exact this⟩
    obtain ⟨e1, e2⟩ := h2.2.2.2 na
    rw [gadv_27, q1] at e1
    refine ⟨fun _ x hx => ?_, fun n => absurd e2 n⟩
    have z0 : opr o v 1 = 0 := by
      rw [q2]
      unfold opr
      rcases oo with rfl | rfl <;> decide
    rcases hl with rfl | rfl
    · rw [bd_de z0]
      refine ok_some ⟨sv.w (.inr rfl), by rw [rI_ne (by omega)]; exact h2.2.1, fun x => absurd x a0, fun _ => ⟨?_, rfl⟩⟩
      rw [rI_eq rfl, hx, e1]
      rcases hb with b | b
      · rw [b, if_pos ⟨rfl, rfl⟩]
      · rw [b, if_neg (fun y => absurd y.1 (by decide))]
    · have b1 : rI s0 10 0 27 = 1 := hb.resolve_left (fun x => a0 ⟨rfl, x⟩)
      rw [if_neg (fun y => absurd y.2 (by decide))] at hx
      subst hx
      exact ok_mono (bd_br (rI_eq rfl)) (fun z hz => ⟨(sv.w (.inr rfl)).tr hz.1, by rw [hz.2.1, rI_ne (by omega)]; exact h2.2.1, fun x => absurd x a0, fun _ => ⟨by rw [hz.2.2.1, b1], hz.2.2.2⟩⟩)
