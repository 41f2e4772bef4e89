/-! ORDERS' TESTS, as the model works them out -/
variable {σ pl : Nat → Nat} {T : Nat} {F : Nat → Int32}
def b64 (b : Bool) : Int64 := if b = true then 1 else 0
def EB (F : Nat → Int32) (P : List Ins) (r : Option Bool) : Prop := ∀ k, evA F P 0 k = match r with | none => some none | some b => some (some (0, b64 b :: k))
def cmpb (o : Nat) (a b : Int64) : Bool := if o = 12 then decide (a < b) else if o = 13 then decide (b < a) else decide (a = b)
def cc (o : Nat) (r1 r2 : Option Int64) : Option Bool := match r1, r2 with | some a, some b => some (cmpb o a b) | _, _ => none
theorem opn_cmp {o : Nat} (ho : 12 ≤ o ∧ o ≤ 14) (a b : Int64) : opn o a b = some (b64 (cmpb o a b)) := by
  have e : opr o a b = b64 (cmpb o a b) := by
    unfold opr cmpb b64
    rw [if_neg (by omega), if_neg (by omega), if_neg (by omega), if_neg (by omega), if_neg (by omega)]
    by_cases c : o = 12
    · rw [if_pos c, if_pos c]; by_cases d : a < b <;> simp [d]
    · rw [if_neg c, if_neg c]
      by_cases c' : o = 13
      · rw [if_pos c', if_pos c']; by_cases d : b < a <;> simp [d]
      · rw [if_neg c', if_neg c']; by_cases d : a = b <;> simp [d]
  unfold opn
  rw [if_neg (by omega), if_neg (opr_cmp_le (by omega)), e]
theorem EB_c {P Q : List Ins} {r1 r2 : Option Int64} {o : Nat} (h1 : ES F P r1) (h2 : ES F Q r2) (ho : 12 ≤ o ∧ o ≤ 14) : EB F (P ++ Q ++ [(o, 0)]) (cc o r1 r2) := by
  intro k
  have := ES_op h1 h2 (o := o) (by omega) k
  rw [this]
  cases r1 with
  | none => rfl
  | some a =>
    cases r2 with
    | none => rfl
    | some b =>
      show (match opn o a b with | none => some none | some v => some (some (0, v :: k))) = _
      rw [opn_cmp ho]; rfl
theorem EB_tn {P : List Ins} {r : Option Bool} (h : EB F P r) (b : Bool) : EB F (P ++ tn b) (r.map (fun x => x ^^ b)) := by
  intro k
  cases b with
  | false =>
    show evA F (P ++ []) 0 k = _
    rw [List.append_nil, h k]
    cases r with
    | none => rfl
    | some x => cases x <;> rfl
  | true =>
    show evA F (P ++ [(3, 0)]) 0 k = _
    rw [evA_app, h k]
    cases r with
    | none => rfl
    | some x => cases x <;> rfl
def jA (r r2 : Option Bool) : Option Bool := match r with | none => none | some false => some false | some true => r2
def jO (r r2 : Option Bool) : Option Bool := match r with | none => none | some true => some true | some false => r2
theorem EB_A {P Q : List Ins} {r r2 : Option Bool} (h1 : EB F P r) (h2 : EB F Q r2) : EB F (P ++ (4, Q.length) :: Q) (jA r r2) := by
  intro k
  rw [evA_app, h1 k]
  cases r with
  | none => rfl
  | some x =>
    show evA F ((4, Q.length) :: Q) 0 (b64 x :: k) = _
    rw [evA_k, if_neg (show ¬ (4 : Nat) = 1 by decide), if_neg (show ¬ (4 : Nat) = 2 by decide)]
    simp only []
    rw [if_neg (by decide), if_pos trivial]
    cases x with
    | false => rw [if_pos (by decide), evA_all]; rfl
    | true => rw [if_neg (by decide), if_pos (by decide)]; exact h2 k
theorem EB_O {P Q : List Ins} {r r2 : Option Bool} (h1 : EB F P r) (h2 : EB F Q r2) : EB F (P ++ (5, Q.length) :: Q) (jO r r2) := by
  intro k
  rw [evA_app, h1 k]
  cases r with
  | none => rfl
  | some x =>
    show evA F ((5, Q.length) :: Q) 0 (b64 x :: k) = _
    rw [evA_k, if_neg (show ¬ (5 : Nat) = 1 by decide), if_neg (show ¬ (5 : Nat) = 2 by decide)]
    simp only []
    rw [if_neg (by decide), if_neg (by decide), if_pos trivial]
    cases x with
    | true => rw [if_pos (by decide), evA_all]; rfl
    | false => rw [if_neg (by decide), if_pos (by decide)]; exact h2 k
def TS (s0 s : Sg) (live b : Int32) (p : Nat) (r : Option Bool) : Prop :=
  SVe s0 s ∧ rI s 10 0 25 = nI (2400 + p) ∧ isB b ∧ (alv s0 live → match r with | some x => rI s 10 0 27 = 0 ∧ b = oI x | none => rI s 10 0 27 = 1) ∧ (¬ alv s0 live → rI s 10 0 27 = rI s0 10 0 27)
theorem TS_B {s0 s : Sg} {live b : Int32} {p : Nat} {r : Option Bool} (h : TS s0 s live b p r) (hb : isB (rI s0 10 0 27)) : isB (rI s 10 0 27) := by
  by_cases a : alv s0 live
  · have := h.2.2.2.1 a
    cases r with
    | none => exact .inr this
    | some x => exact .inl this.1
  · rw [h.2.2.2.2 a]; exact hb
def TE (σ : Nat → Nat) (T : Nat) (F : Nat → Int32) (f : Sg → Int32 → Option (Sg × Int32)) (pure : Nat → Nat → PR) : Prop :=
  ∀ s p q P p' q' live, IM σ T F s p → p ≤ T → q ≤ 50 → pure p q = .inl (P, p', q') → isB live → ∃ r, EB F P r ∧ ok (f s live) (fun y => TS s y.1 live y.2 p' r)
theorem e_pos (hT : σ T = 4000) (T4 : T ≤ 400) {rt : Sg → Int32 → Option (Sg × Int32)} {k : Nat} (k8 : k ≤ 8) (ht : ∀ j, k = j + 1 → TE σ T F rt (pTest σ true j)) : TE σ T F (m_positiveOf rt) (fun p q => if σ p = 2040 then brkP σ true k p q else pCmp σ true k p q) := by
  intro s p q P p' q' live h hp hq hr hl
  have k140 : (100 + 40 : Int32).toInt = ((140 : Nat) : Int) := by decide
  have k160 : (100 + 60 : Int32).toInt = ((160 : Nat) : Int) := by decide
  have k162 : (100 + 62 : Int32).toInt = ((162 : Nat) : Int) := by decide
  have hs : SE σ T F (m_sumOf DR) (pSum σ true k) := e_sum hT T4 DR k (by show _ ≤ 10; omega)
  have mle := mc_le (σ p)
  simp only at hr
  unfold m_positiveOf m_positiveOf_G
  rw [m_sgn]
  simp only [Option.bind_some]
  by_cases c : σ p = 2040
  · rw [if_pos c] at hr
    rw [e_pass_y hT T4 h hp k140 ((mc_b (by omega)).mpr (by omega))]
    simp only [Option.bind_some]
    rw [gif_f (by decide)]
    cases k with
    | zero => exact absurd hr (by simp [brkP])
    | succ j =>
      have e1 : brkP σ true (j + 1) p q = pb (pTest σ true j (p + 1) q) (fun P p' q' => if σ p' = 2041 then .inl (P, p' + 1, q') else .inr p') := rfl
      rw [e1] at hr
      have hp1 := pT hT hp (by omega)
      have gs := pTest_g (o := true) hT j hp1 hq
      cases hr2 : pTest σ true j (p + 1) q with
      | inr e => rw [hr2, pb_r] at hr; exact absurd hr (by simp)
      | inl y =>
        obtain ⟨P2, p2, q2⟩ := y
        rw [hr2, pb_l] at hr
        rw [hr2] at gs
        have g3 := (GR_l.mp gs).2.2.1
        by_cases c2 : σ p2 = 2041
        · rw [if_pos c2] at hr
          simp only [Sum.inl.injEq, Prod.mk.injEq] at hr
          obtain ⟨rfl, rfl, rfl⟩ := hr
          obtain ⟨r, h1, y, ey, h2⟩ := ht j rfl (gadv s) (p + 1) q P2 p2 q2 live (IM_adv h (by omega)) hp1 hq hr2 hl
          rw [ey]
          simp only [Option.bind_some, gd_t h2.2.2.1]
          refine ⟨r, h1, ok_some ?_⟩
          show TS s (gadv y.1) live y.2 (p2 + 1) r
          refine ⟨(gadv_S.tr h2.1).tr gadv_S, gadv_25 h2.2.1 (by omega), h2.2.2.1, fun a => ?_, fun a => ?_⟩
          · rw [gadv_27]; exact h2.2.2.2.1 ⟨a.1, by rw [gadv_27]; exact a.2⟩
          · rw [gadv_27, h2.2.2.2.2 (fun x => a ⟨x.1, by have := x.2; rw [gadv_27] at this; exact this⟩), gadv_27]
        · rw [if_neg c2] at hr; exact absurd hr (by simp)
  · rw [if_neg c] at hr
    rw [e_pass_n hT T4 h hp k140 (fun x => c (by have := (mc_b (by omega)).mp x; omega))]
    simp only [Option.bind_some]
    rw [gif_t trivial]
    unfold pCmp at hr
    have gs := pSum_g (o := true) hT k hp hq
    cases hr1 : pSum σ true k p q with
    | inr e => rw [hr1, pb_r] at hr; exact absurd hr (by simp)
    | inl y =>
      obtain ⟨P1, p1, q1⟩ := y
      rw [hr1, pb_l] at hr
      rw [hr1] at gs
      obtain ⟨g1, g2, g3, g4, g5, g6⟩ := GR_l.mp gs
      by_cases c0 : opC (σ p1) = 0
      · rw [if_pos c0] at hr; exact absurd hr (by simp)
      rw [if_neg c0] at hr
      have oo := (opC_ok (σ p1)).resolve_left c0
      have hp1 := pT hT g3 oo.2.2
      have gs2 := pSum_g (o := true) hT k hp1 g5
      cases hr2 : pSum σ true k (p1 + 1) q1 with
      | inr e => rw [hr2, pb_r] at hr; exact absurd hr (by simp)
      | inl y =>
        obtain ⟨P2, p2, q2⟩ := y
        rw [hr2, pb_l] at hr
        simp only [Sum.inl.injEq, Prod.mk.injEq] at hr
        obtain ⟨rfl, rfl, rfl⟩ := hr
        obtain ⟨r1, h1, ⟨y1, v1⟩, ey1, S1⟩ := hs s p q P1 p1 q1 live h hp hq hr1 hl
        simp only at S1
        have im1 : IM σ T F y1 p1 := IM_c h S1.1 S1.2.1 (ST_B S1 h.2.2.2.1)
        have im2 : IM σ T F (gadv y1) (p1 + 1) := IM_adv im1 (by omega)
        obtain ⟨r2, h2, ⟨y2, v2⟩, ey2, S2⟩ := hs (gadv y1) (p1 + 1) q1 P2 p2 q2 live im2 hp1 g5 hr2 hl
        simp only at S2
        refine ⟨cc (opC (σ p1)) r1 r2, EB_c h1 h2 ⟨oo.1, oo.2.1⟩, ?_⟩
        rw [ey1]
        simp only [Option.bind_some, e_code hT T4 im1 g3]
        show ok ((m_sumOf DR (gadv y1) live).bind _) _
        rw [ey2]
        simp only [Option.bind_some, gdB0, gdB1, m_sgn, cmp_lt, cmp_gt, cmp_eq]
        have sv : SVe s y2 := (S1.1.tr gadv_S).tr S2.1
        have mle1 := mc_le (σ p1)
        rcases hl with rfl | rfl
        · rw [gif_t rfl]
          refine ok_some ⟨sv, S2.2.1, .inl rfl, fun a => absurd a.1 (by decide), fun _ => ?_⟩
          rw [(S2.2.2.2 (fun x => absurd x.1 (by decide))).1, gadv_27, (S1.2.2.2 (fun x => absurd x.1 (by decide))).1]
        · rw [gif_f (by decide)]
          by_cases a0 : rI s 10 0 27 = 0
          · have q1' := S1.2.2.1 ⟨rfl, a0⟩
            have al0 : alv s 1 := ⟨rfl, a0⟩
            -- broken
            have brk : rI y2 10 0 27 = 1 → cc (opC (σ p1)) r1 r2 = none → ok (gif (rI y2 10 0 27 = 0) (gif ((nI (mc (σ p1)) : Int32) = 100 + 60) (gif (v1 < v2) (some (y2, (1 : Int32))) (some (y2, 0))) (gif ((nI (mc (σ p1)) : Int32) = 100 + 62) (gif (v2 < v1) (some (y2, 1)) (some (y2, 0))) (gif (v1 = v2) (some (y2, 1)) (some (y2, 0))))) (some (y2, 0))) (fun y => TS s y.1 1 y.2 p2 (cc (opC (σ p1)) r1 r2)) := by
              intro b1 e
              rw [e, gif_f (by rw [b1]; decide)]
              exact ok_some ⟨sv, S2.2.1, .inl rfl, fun _ => b1, fun n => absurd al0 n⟩
            cases r1 with
            | none =>
              have na : ¬ alv (gadv y1) 1 := fun x => by have := x.2; rw [gadv_27, q1'.1] at this; exact absurd this (by decide)
              refine brk ?_ rfl
              rw [(S2.2.2.2 na).1, gadv_27]; exact q1'.1
            | some a =>
              obtain ⟨z1, z2⟩ := q1'
              have al : alv (gadv y1) 1 := ⟨rfl, by rw [gadv_27]; exact z1⟩
              have e := S2.2.2.1 al
              cases r2 with
              | none => exact brk e.1 rfl
              | some b =>
                obtain ⟨e1, e2⟩ := e
                subst z2; subst e2
                rw [gif_t e1]
                have done : ∀ x : Bool, cmpb (opC (σ p1)) v1 v2 = x → TS s y2 1 (oI x) p2 (cc (opC (σ p1)) (some v1) (some v2)) := by
                  intro x hx
                  refine ⟨sv, S2.2.1, isB_oI x, fun _ => ?_, fun n => absurd al0 n⟩
                  show rI y2 10 0 27 = 0 ∧ oI x = oI (cmpb (opC (σ p1)) v1 v2)
                  rw [hx]; exact ⟨e1, rfl⟩
                have one : ∀ (q : Prop) [Decidable q], cmpb (opC (σ p1)) v1 v2 = decide q → ok (gif q (some (y2, (1 : Int32))) (some (y2, 0))) (fun y => TS s y.1 1 y.2 p2 (cc (opC (σ p1)) (some v1) (some v2))) := by
                  intro q _ hq'
                  by_cases d : q
                  · rw [gif_t d]; exact ok_some (done true (by rw [hq', decide_eq_true d]))
                  · rw [gif_f d]; exact ok_some (done false (by rw [hq', decide_eq_false d]))
                by_cases c1 : σ p1 = 2060
                · rw [gif_t ((mq (by omega) k160).mpr ((mc_b (by omega)).mpr (by omega)))]
                  have : opC (σ p1) = 12 := by rw [c1]; rfl
                  exact one (v1 < v2) (by rw [this]; rfl)
                · rw [gif_f (fun x => c1 (by have := (mc_b (by omega)).mp ((mq (by omega) k160).mp x); omega))]
                  by_cases c2 : σ p1 = 2062
                  · rw [gif_t ((mq (by omega) k162).mpr ((mc_b (by omega)).mpr (by omega)))]
                    have : opC (σ p1) = 13 := by rw [c2]; rfl
                    exact one (v2 < v1) (by rw [this]; rfl)
                  · rw [gif_f (fun x => c2 (by have := (mc_b (by omega)).mp ((mq (by omega) k162).mp x); omega))]
                    have : opC (σ p1) = 14 := by
                      unfold opC at c0 ⊢
                      rw [if_neg c1, if_neg c2] at c0 ⊢
                      by_cases e : σ p1 = 2061
                      · rw [if_pos e]
                      · rw [if_neg e] at c0; exact absurd rfl c0
                    exact one (v1 = v2) (by rw [this]; rfl)
          · have na : ¬ alv s 1 := fun x => a0 x.2
            have b1 : rI s 10 0 27 = 1 := h.2.2.2.1.resolve_left a0
            have e1 : rI y1 10 0 27 = 1 := by rw [(S1.2.2.2 na).1, b1]
            have e2 : rI y2 10 0 27 = 1 := by rw [(S2.2.2.2 (fun x => by have := x.2; rw [gadv_27, e1] at this; exact absurd this (by decide))).1, gadv_27, e1]
            rw [gif_f (by rw [e2]; decide)]
            exact ok_some ⟨sv, S2.2.1, .inl rfl, fun a => absurd a na, fun _ => by rw [e2, b1]⟩
theorem e_plain (hT : σ T = 4000) (T4 : T ≤ 400) {rt : Sg → Int32 → Option (Sg × Int32)} {k : Nat} (hp0 : TE σ T F (m_positiveOf rt) (fun p q => if σ p = 2040 then brkP σ true k p q else pCmp σ true k p q)) : TE σ T F (m_plainOf rt) (pPlain σ true k) := by
  intro s p q P0 p0 q0 live h hp hq hr hl
  rw [pPlain_b] at hr
  have hr' : pPos σ true (brkP σ true k) k (nots σ 402 p false).1 q (nots σ 402 p false).2 = .inl (P0, p0, q0) := hr
  generalize hN : nots σ 402 p false = N0 at hr'
  suffices H : ok (m_plainOf rt s live) (fun y => ∃ r, EB F P0 r ∧ TS s y.1 live y.2 p0 r) by
    obtain ⟨y, ey, r, h1, h2⟩ := H
    exact ⟨r, h1, y, ey, h2⟩
  unfold m_plainOf m_plainOf_G
  refine ok_loop (K := fun fu (y : Sg × Int32) => m_plainOf_b2 rt fu y.1 live y.2) (I := fun y => ∃ m p' b, nots σ m p' b = N0 ∧ SVe s y.1 ∧ rI y.1 10 0 25 = nI (2400 + p') ∧ rI y.1 10 0 27 = rI s 10 0 27 ∧ y.2 = oI b ∧ 402 ≤ m + p' ∧ p' ≤ T)
    (μ := fun y => mg y.1) ?_ FU (s, 0) ⟨402, p, false, hN, SVe.rf, h.2.2.1, rfl, rfl, by omega, hp⟩ (by have : mg s ≤ 2802 := Nat.sub_le _ _; show mg s < 20000; omega)
  rintro fu ⟨s2, l2⟩ ⟨m, p', b, hm, sv, h25, h27, hb, hn, hpT⟩ ih
  simp only at sv h25 h27 hb ih
  subst hb
  have im : IM σ T F s2 p' := IM_c h sv h25 (by rw [h27]; exact h.2.2.2.1)
  obtain ⟨m', rfl⟩ : ∃ m', m = m' + 1 := ⟨m - 1, by omega⟩
  show ok (m_plainOf_b2_G _ _ _ s2 live (oI b)) _
  unfold m_plainOf_b2_G
  by_cases c : σ p' = 3012
  · rw [nots_s, if_pos c] at hm
    have hp1 := pT hT hpT (by omega)
    rw [e_pass_y hT T4 im hpT (m := 7) li_7 ((mc_w (by omega)).mpr (by omega))]
    simp only [Option.bind_some]
    rw [gif_f (by decide)]
    have q25 := gadv_25 h25 (show p' < 1000 by omega)
    have dec : mg (gadv s2) < mg s2 := by rw [mg_v q25 (by omega), mg_v h25 (by omega)]; omega
    cases b with
    | false =>
      rw [gif_t (show oI false = 0 from rfl)]
      exact ih (gadv s2, 1) ⟨m', p' + 1, true, hm, sv.tr gadv_S, q25, by rw [gadv_27]; exact h27, rfl, by omega, hp1⟩ dec
    | true =>
      rw [gif_f (show ¬ oI true = 0 by decide)]
      exact ih (gadv s2, 0) ⟨m', p' + 1, false, hm, sv.tr gadv_S, q25, by rw [gadv_27]; exact h27, rfl, by omega, hp1⟩ dec
  · rw [nots_s, if_neg c] at hm
    subst hm
    rw [e_pass_n hT T4 im hpT (m := 7) li_7 (fun x => c (by have := (mc_w (by omega)).mp x; omega))]
    simp only [Option.bind_some]
    rw [gif_t trivial]
    unfold pPos at hr'
    simp only at hr'
    cases hr1 : (if σ p' = 2040 then brkP σ true k p' q else pCmp σ true k p' q) with
    | inr e => rw [hr1, pb_r] at hr'; exact absurd hr' (by simp)
    | inl y =>
      obtain ⟨P1, p1, q1⟩ := y
      rw [hr1, pb_l] at hr'
      simp only [Sum.inl.injEq, Prod.mk.injEq] at hr'
      obtain ⟨rfl, rfl, rfl⟩ := hr'
      obtain ⟨r, h1, ⟨y1, v⟩, ey, S⟩ := hp0 s2 p' q P1 p1 q1 live im hpT hq hr1 hl
      simp only at S
      rw [ey]
      simp only [Option.bind_some, gdB0, gdB1]
      have alq : alv s2 live ↔ alv s live := by unfold alv; rw [h27]
      have fin : ∀ w : Int32, isB w → (∀ x, v = oI x → w = oI (x ^^ b)) → TS s y1 live w p1 (r.map (fun x => x ^^ b)) := by
        intro w hw hx
        refine ⟨sv.tr S.1, S.2.1, hw, fun a => ?_, fun a => ?_⟩
        · have := S.2.2.2.1 (alq.mpr a)
          cases r with
          | none => exact this
          | some x => exact ⟨this.1, hx x this.2⟩
        · rw [S.2.2.2.2 (fun x => a (alq.mp x))]; exact h27
      refine ok_gif (fun e => ok_some ⟨_, EB_tn h1 b, fin 0 (.inl rfl) (fun x hx => ?_)⟩) (fun e => ok_some ⟨_, EB_tn h1 b, fin 1 (.inr rfl) (fun x hx => ?_)⟩)
      · rw [hx] at e
        cases x <;> cases b <;> first | rfl | exact absurd e (by decide)
      · rw [hx] at e
        cases x <;> cases b <;> first | rfl | exact absurd rfl e
def LF2 (σ : Nat → Nat) (T : Nat) (F : Nat → Int32) (s0 : Sg) (live : Int32) (P0 : List Ins) (p0 q0 : Nat) (L : Nat → List Ins → Nat → Nat → PR) (s : Sg) (v : Int32) : Prop :=
  ∃ m P p q r, L m P p q = .inl (P0, p0, q0) ∧ EB F P r ∧ TS s0 s live v p r ∧ p ≤ T ∧ q ≤ 50 ∧ 402 ≤ m + p
theorem e_stepj (hT : σ T = 4000) (T4 : T ≤ 400) {w k : Nat} (w4 : w ≠ 4000) {sub : Nat → Nat → PR} {f : Sg → Int32 → Option (Sg × Int32)} (hf : TE σ T F f sub) (hg : ∀ p q, p ≤ T → q ≤ 50 → GR (wfB 29) T p q (sub p q)) {s0 s : Sg} {live live2 : Int32} (hl2 : isB live2) (I0 : ∀ p s', SVe s0 s' → rI s' 10 0 25 = nI (2400 + p) → isB (rI s' 10 0 27) → IM σ T F s' p) (b0 : isB (rI s0 10 0 27)) {P0 : List Ins} {p0 q0 : Nat} {v : Int32}
    {m : Nat} {P : List Ins} {p q : Nat} {r : Option Bool} (hL : lj σ w k sub m P p q = .inl (P0, p0, q0)) (hS : TS s0 s live v p r) (hp : p ≤ T) (hq : q ≤ 50) (hm : 402 ≤ m + p) (w0 : σ p = w) :
    ∃ (m' : Nat) (Q : List Ins) (p2 q2 : Nat) (r2 : Option Bool), p + 1 ≤ p2 ∧ p2 ≤ T ∧ q2 ≤ 50 ∧ 402 ≤ m' + p2 ∧ lj σ w k sub m' (P ++ (k, Q.length) :: Q) p2 q2 = .inl (P0, p0, q0) ∧ EB F Q r2 ∧ ok (f (gadv s) live2) (fun y => TS (gadv s) y.1 live2 y.2 p2 r2) := by
  obtain ⟨m', rfl⟩ : ∃ m', m = m' + 1 := ⟨m - 1, by omega⟩
  rw [lj_s, if_pos w0] at hL
  have hp1 := pT hT hp (by omega)
  have gs := hg (p + 1) q hp1 hq
  cases hr : sub (p + 1) q with
  | inr e => rw [hr, pb_r] at hL; exact absurd hL (by simp)
  | inl y =>
    obtain ⟨Q, p2, q2⟩ := y
    rw [hr, pb_l] at hL
    rw [hr] at gs
    obtain ⟨g1, g2, g3, g4, g5, g6⟩ := GR_l.mp gs
    have im : IM σ T F (gadv s) (p + 1) := I0 (p + 1) (gadv s) (hS.1.tr gadv_S) (gadv_25 hS.2.1 (by omega)) (by rw [gadv_27]; exact TS_B hS b0)
    obtain ⟨r2, h1, h2⟩ := hf (gadv s) (p + 1) q Q p2 q2 live2 im hp1 hq hr hl2
    exact ⟨m', Q, p2, q2, r2, by omega, g3, g5, by omega, hL, h1, h2⟩
theorem e_both (hT : σ T = 4000) (T4 : T ≤ 400) {rt : Sg → Int32 → Option (Sg × Int32)} {plain : Nat → Nat → PR} (hf : TE σ T F (m_plainOf rt) plain) (hg : ∀ p q, p ≤ T → q ≤ 50 → GR (wfB 29) T p q (plain p q)) : TE σ T F (m_bothOf rt) (pBothW σ plain) := by
  intro s p q P0 p0 q0 live h hp hq hr hl
  have I0 : ∀ p s', SVe s s' → rI s' 10 0 25 = nI (2400 + p) → isB (rI s' 10 0 27) → IM σ T F s' p := fun p s' a b c => IM_c h a b c
  have b0 := h.2.2.2.1
  unfold pBothW at hr
  have gs := hg p q hp hq
  suffices H : ok (m_bothOf rt s live) (fun y => ∃ r, EB F P0 r ∧ TS s y.1 live y.2 p0 r) by
    obtain ⟨y, ey, r, h1, h2⟩ := H
    exact ⟨r, h1, y, ey, h2⟩
  unfold m_bothOf m_bothOf_G
  cases hr1 : plain p q with
  | inr e => rw [hr1, pb_r] at hr; exact absurd hr (by simp)
  | inl y =>
    obtain ⟨P1, p1, q1⟩ := y
    rw [hr1, pb_l] at hr
    rw [hr1] at gs
    obtain ⟨g1, g2, g3, g4, g5, g6⟩ := GR_l.mp gs
    obtain ⟨r1, h1, y, ey, h2⟩ := hf s p q P1 p1 q1 live h hp hq hr1 hl
    rw [ey]
    refine ok_loop (K := fun n (y : Sg × Int32) => m_bothOf_b6 rt n y.1 live y.2) (I := fun y => LF2 σ T F s live P0 p0 q0 (lj σ 3011 4 plain) y.1 y.2) (μ := fun y => mg y.1) ?_ FU (y.1, y.2) ⟨402, P1, p1, q1, r1, hr, h1, h2, g3, g5, by omega⟩ (by have : mg y.1 ≤ 2802 := Nat.sub_le _ _; show mg y.1 < 20000; omega)
    rintro fu ⟨s2, v⟩ ⟨m, P, p', q', r, hL, hE, hS, hpT, hq', hm⟩ ih
    simp only at hS ih
    have im := I0 p' s2 hS.1 hS.2.1 (TS_B hS b0)
    show ok (m_bothOf_b6_G _ _ s2 live v) _
    unfold m_bothOf_b6_G
    by_cases c : σ p' = 3011
    · rw [e_pass_y hT T4 im hpT (m := 6) li_6 ((mc_w (by omega)).mpr (by omega))]
      simp only [Option.bind_some]
      rw [gif_f (by decide)]
      have go : ∀ live2 : Int32, isB live2 → (live2 = 1 ↔ live = 1 ∧ v = 1) → ok (m_bothOf_b29 rt (m_bothOf_b6 rt fu) (gadv s2) live v live2) (fun y => ∃ r, EB F P0 r ∧ TS s y.1 live y.2 p0 r) := by
        intro live2 hl2 e2
        obtain ⟨m', Q, p2, q2, r2, a1, a2, a3, a4, a5, a6, ⟨⟨y1, w⟩, e1, S2⟩⟩ := e_stepj hT T4 (by omega) hf hg hl2 I0 b0 hL hS hpT hq' hm c
        simp only at S2
        unfold m_bothOf_b29 m_bothOf_b29_G
        rw [e1]
        simp only [Option.bind_some]
        have sv : SVe s y1 := (hS.1.tr gadv_S).tr S2.1
        have nx : ∀ u : Int32, isB u → (v = 0 → u = 0) → (v = 1 → u = w) → ok (m_bothOf_b6 rt fu y1 live u) (fun y => ∃ r, EB F P0 r ∧ TS s y.1 live y.2 p0 r) := by
          intro u hu u0 u1
          refine ih (y1, u) ⟨m', _, p2, q2, jA r r2, a5, EB_A hE a6, ⟨sv, S2.2.1, hu, fun a => ?_, fun a => ?_⟩, a2, a3, a4⟩ (by show mg y1 < mg s2; rw [mg_v S2.2.1 (by omega), mg_v hS.2.1 (by omega)]; omega)
          · have q1' := hS.2.2.2.1 a
            cases r with
            | none =>
              have na : ¬ alv (gadv s2) live2 := fun x => by have := x.2; rw [gadv_27, q1'] at this; exact absurd this (by decide)
              show rI y1 10 0 27 = 1
              rw [S2.2.2.2.2 na, gadv_27]; exact q1'
            | some x =>
              obtain ⟨z1, z2⟩ := q1'
              cases x with
              | false =>
                have v0 : v = 0 := z2
                have na : ¬ alv (gadv s2) live2 := fun x => by have := (e2.mp x.1).2; rw [v0] at this; exact absurd this (by decide)
                show rI y1 10 0 27 = 0 ∧ u = oI false
                exact ⟨by rw [S2.2.2.2.2 na, gadv_27]; exact z1, by rw [u0 v0]; rfl⟩
              | true =>
                have v1 : v = 1 := z2
                have al : alv (gadv s2) live2 := ⟨e2.mpr ⟨a.1, v1⟩, by rw [gadv_27]; exact z1⟩
                have := S2.2.2.2.1 al
                rw [u1 v1]
                exact this
          · have q1' := hS.2.2.2.2 a
            have na : ¬ alv (gadv s2) live2 := fun x => a ⟨(e2.mp x.1).1, by have := x.2; rw [gadv_27, q1'] at this; exact this⟩
            rw [S2.2.2.2.2 na, gadv_27]; exact q1'
        refine ok_gif (fun v0 => nx 0 (.inl rfl) (fun _ => rfl) (fun x => by rw [v0] at x; exact absurd x (by decide))) (fun v0 => ok_gif (fun w0 => nx 0 (.inl rfl) (fun _ => rfl) (fun _ => w0.symm)) (fun w0 => nx 1 (.inr rfl) (fun x => absurd x v0) (fun _ => (S2.2.2.1.resolve_left w0).symm)))
      rcases hl with rfl | rfl
      · rw [gif_t rfl]; exact go 0 (.inl rfl) ⟨fun x => absurd x (by decide), fun x => absurd x.1 (by decide)⟩
      · rw [gif_f (by decide)]
        refine ok_gif (fun v0 => go 0 (.inl rfl) ⟨fun x => absurd x (by decide), fun x => by rw [v0] at x; exact absurd x.2 (by decide)⟩) (fun v0 => go 1 (.inr rfl) ⟨fun _ => ⟨rfl, hS.2.2.1.resolve_left v0⟩, fun _ => rfl⟩)
    · rw [e_pass_n hT T4 im hpT (m := 6) li_6 (fun x => c (by have := (mc_w (by omega)).mp x; omega))]
      simp only [Option.bind_some]
      rw [gif_t trivial, gd_t hS.2.2.1]
      obtain ⟨m', rfl⟩ : ∃ m', m = m' + 1 := ⟨m - 1, by omega⟩
      rw [lj_s, if_neg c] at hL
      simp only [Sum.inl.injEq, Prod.mk.injEq] at hL
      obtain ⟨rfl, rfl, rfl⟩ := hL
      exact ok_some ⟨r, hE, hS⟩
theorem e_testW (hT : σ T = 4000) (T4 : T ≤ 400) {rt : Sg → Int32 → Option (Sg × Int32)} {both : Nat → Nat → PR} (hf : TE σ T F (m_bothOf rt) both) (hg : ∀ p q, p ≤ T → q ≤ 50 → GR (wfB 29) T p q (both p q)) : TE σ T F (m_testOf_G (m_testOf_b6 rt FU) (m_bothOf rt)) (fun p q => pb (both p q) (fun P p' q' => lj σ 3010 5 both 402 P p' q')) := by
  intro s p q P0 p0 q0 live h hp hq hr hl
  have I0 : ∀ p s', SVe s s' → rI s' 10 0 25 = nI (2400 + p) → isB (rI s' 10 0 27) → IM σ T F s' p := fun p s' a b c => IM_c h a b c
  have b0 := h.2.2.2.1
  simp only at hr
  have gs := hg p q hp hq
  suffices H : ok (m_testOf_G (m_testOf_b6 rt FU) (m_bothOf rt) s live) (fun y => ∃ r, EB F P0 r ∧ TS s y.1 live y.2 p0 r) by
    obtain ⟨y, ey, r, h1, h2⟩ := H
    exact ⟨r, h1, y, ey, h2⟩
  unfold m_testOf_G
  cases hr1 : both p q with
  | inr e => rw [hr1, pb_r] at hr; exact absurd hr (by simp)
  | inl y =>
    obtain ⟨P1, p1, q1⟩ := y
    rw [hr1, pb_l] at hr
    rw [hr1] at gs
    obtain ⟨g1, g2, g3, g4, g5, g6⟩ := GR_l.mp gs
    obtain ⟨r1, h1, y, ey, h2⟩ := hf s p q P1 p1 q1 live h hp hq hr1 hl
    rw [ey]
    refine ok_loop (K := fun n (y : Sg × Int32) => m_testOf_b6 rt n y.1 live y.2) (I := fun y => LF2 σ T F s live P0 p0 q0 (lj σ 3010 5 both) y.1 y.2) (μ := fun y => mg y.1) ?_ FU (y.1, y.2) ⟨402, P1, p1, q1, r1, hr, h1, h2, g3, g5, by omega⟩ (by have : mg y.1 ≤ 2802 := Nat.sub_le _ _; show mg y.1 < 20000; omega)
    rintro fu ⟨s2, v⟩ ⟨m, P, p', q', r, hL, hE, hS, hpT, hq', hm⟩ ih
    simp only at hS ih
    have im := I0 p' s2 hS.1 hS.2.1 (TS_B hS b0)
    show ok (m_testOf_b6_G _ _ s2 live v) _
    unfold m_testOf_b6_G
    by_cases c : σ p' = 3010
    · rw [e_pass_y hT T4 im hpT (m := 5) li_5 ((mc_w (by omega)).mpr (by omega))]
      simp only [Option.bind_some]
      rw [gif_f (by decide)]
      have go : ∀ live2 : Int32, isB live2 → (live2 = 1 ↔ live = 1 ∧ v = 0) → ok (m_testOf_b28 rt (m_testOf_b6 rt fu) (gadv s2) live v live2) (fun y => ∃ r, EB F P0 r ∧ TS s y.1 live y.2 p0 r) := by
        intro live2 hl2 e2
        obtain ⟨m', Q, p2, q2, r2, a1, a2, a3, a4, a5, a6, ⟨⟨y1, w⟩, e1, S2⟩⟩ := e_stepj hT T4 (by omega) hf hg hl2 I0 b0 hL hS hpT hq' hm c
        simp only at S2
        unfold m_testOf_b28 m_testOf_b28_G
        rw [e1]
        simp only [Option.bind_some]
        have sv : SVe s y1 := (hS.1.tr gadv_S).tr S2.1
        have nx : ∀ u : Int32, isB u → (v = 1 → u = 1) → (v = 0 → u = w) → ok (m_testOf_b6 rt fu y1 live u) (fun y => ∃ r, EB F P0 r ∧ TS s y.1 live y.2 p0 r) := by
          intro u hu u0 u1
          refine ih (y1, u) ⟨m', _, p2, q2, jO r r2, a5, EB_O hE a6, ⟨sv, S2.2.1, hu, fun a => ?_, fun a => ?_⟩, a2, a3, a4⟩ (by show mg y1 < mg s2; rw [mg_v S2.2.1 (by omega), mg_v hS.2.1 (by omega)]; omega)
          · have q1' := hS.2.2.2.1 a
            cases r with
            | none =>
              have na : ¬ alv (gadv s2) live2 := fun x => by have := x.2; rw [gadv_27, q1'] at this; exact absurd this (by decide)
              show rI y1 10 0 27 = 1
              rw [S2.2.2.2.2 na, gadv_27]; exact q1'
            | some x =>
              obtain ⟨z1, z2⟩ := q1'
              cases x with
              | true =>
                have v1 : v = 1 := z2
                have na : ¬ alv (gadv s2) live2 := fun x => by have := (e2.mp x.1).2; rw [v1] at this; exact absurd this (by decide)
                show rI y1 10 0 27 = 0 ∧ u = oI true
                exact ⟨by rw [S2.2.2.2.2 na, gadv_27]; exact z1, by rw [u0 v1]; rfl⟩
              | false =>
                have v0 : v = 0 := z2
                have al : alv (gadv s2) live2 := ⟨e2.mpr ⟨a.1, v0⟩, by rw [gadv_27]; exact z1⟩
                have := S2.2.2.2.1 al
                rw [u1 v0]
                exact this
          · have q1' := hS.2.2.2.2 a
            have na : ¬ alv (gadv s2) live2 := fun x => a ⟨(e2.mp x.1).1, by have := x.2; rw [gadv_27, q1'] at this; exact this⟩
            rw [S2.2.2.2.2 na, gadv_27]; exact q1'
        refine ok_gif (fun v0 => ok_gif (fun w0 => nx 0 (.inl rfl) (fun x => by rw [v0] at x; exact absurd x (by decide)) (fun _ => w0.symm)) (fun w0 => nx 1 (.inr rfl) (fun _ => rfl) (fun _ => (S2.2.2.1.resolve_left w0).symm))) (fun v0 => nx 1 (.inr rfl) (fun _ => rfl) (fun x => absurd x v0))
      rcases hl with rfl | rfl
      · rw [gif_t rfl]; exact go 0 (.inl rfl) ⟨fun x => absurd x (by decide), fun x => absurd x.1 (by decide)⟩
      · rw [gif_f (by decide)]
        refine ok_gif (fun v0 => go 1 (.inr rfl) ⟨fun _ => ⟨rfl, v0⟩, fun _ => rfl⟩) (fun v0 => go 0 (.inl rfl) ⟨fun x => absurd x (by decide), fun x => absurd x.2 v0⟩)
    · rw [e_pass_n hT T4 im hpT (m := 5) li_5 (fun x => c (by have := (mc_w (by omega)).mp x; omega))]
      simp only [Option.bind_some]
      rw [gif_t trivial, gd_t hS.2.2.1]
      obtain ⟨m', rfl⟩ : ∃ m', m = m' + 1 := ⟨m - 1, by omega⟩
      rw [lj_s, if_neg c] at hL
      simp only [Sum.inl.injEq, Prod.mk.injEq] at hL
      obtain ⟨rfl, rfl, rfl⟩ := hL
      exact ok_some ⟨r, hE, hS⟩
theorem e_test (hT : σ T = 4000) (T4 : T ≤ 400) : ∀ (d k : Nat), k ≤ 8 → k + 1 ≤ d → TE σ T F (m_testOf d) (pTest σ true k) := by
  intro d
  induction d with
  | zero => intro k _ h; omega
  | succ d ih =>
    intro k k8 hd
    have h1 := e_plain hT T4 (e_pos (F := F) (rt := m_testOf d) (k := k) hT T4 k8 (fun j hj => ih j (by omega) (by omega)))
    have g1 : ∀ p q, p ≤ T → q ≤ 50 → GR (wfB 29) T p q (pPlain σ true k p q) := pPlain_g (o := true) hT k
    have h2 := e_both hT T4 h1 g1
    exact e_testW hT T4 h2 (pBothW_g hT g1)
