variable {σ pl : Nat → Nat} {T : Nat} {F : Nat → Int32}
theorem toI64_nI {n : Nat} (h : n < 1000000) : Int32.toInt64 (nI n) = Int64.ofNat n := by
  apply Int64.toInt_inj.mp
  rw [Int32.toInt_toInt64, nI_ti (by omega), Int64.toInt_ofNat_of_lt (by omega)]
theorem FO_c {s s' : Sg} (h : FO s F) (g : SVe s s') : FO s' F := by
  obtain ⟨⟨f1, f2, f3, f4, f5⟩, f6⟩ := h
  have q : ∀ c, rI s' 43 0 c = rI s 43 0 c := fun c => g.1 _ _ _ (by omega)
  have ev : ∀ w, endV s' w = endV s w := fun w => by unfold endV; rw [q, q, q]
  refine ⟨⟨by rw [q]; exact f1, by rw [g.1 _ _ _ (by omega)]; exact f2, by rw [g.1 _ _ _ (by omega)]; exact f3, by rw [g.1 _ _ _ (by omega)]; exact f4, by rw [g.1 _ _ _ (by omega)]; exact f5⟩, fun w hw => ?_⟩
  rw [q, q, ev]; exact f6 w hw
theorem e_ov {s : Sg} (h : FO s F) (h54 : 0 ≤ (rI s 43 0 54).toInt ∧ (rI s 43 0 54).toInt ≤ 12) : (∀ i, i < 5 → ∀ x, m_orderValue s (nI (15 + i)) x = some (s, F i)) ∧ ∀ w, w < 12 → m_orderValue s 20 (nI w) = some (s, F (5 + w)) ∧ m_orderValue s 21 (nI w) = some (s, F (17 + w)) := by
  obtain ⟨⟨f1, f2, f3, f4, f5⟩, f6⟩ := h
  refine ⟨fun i hi x => ?_, fun w hw => ?_⟩
  · unfold m_orderValue m_orderValue_G
    rcases (by omega : i = 0 ∨ i = 1 ∨ i = 2 ∨ i = 3 ∨ i = 4) with rfl | rfl | rfl | rfl | rfl
    · rw [gif_t (by decide), gd_t k14.1, k14.2, f1]
    · rw [gif_f (by decide), gif_t (by decide), f2]
    · rw [gif_f (by decide), gif_f (by decide), gif_t (by decide), f3]
    · rw [gif_f (by decide), gif_f (by decide), gif_f (by decide), gif_t (by decide), f4]
    · rw [gif_f (by decide), gif_f (by decide), gif_f (by decide), gif_f (by decide), gif_t (by decide), f5]
  · obtain ⟨g1, g2⟩ := f6 w hw
    have tw : (nI w).toInt = w := nI_ti (by omega)
    refine ⟨?_, ?_⟩
    · unfold m_orderValue m_orderValue_G
      rw [gif_f (by decide), gif_f (by decide), gif_f (by decide), gif_f (by decide), gif_f (by decide), gif_t rfl, q_m_isWord h54.1]
      simp only [Option.bind_some, gdB0, gdB1, gdbI, gifbI]
      rw [tw]
      by_cases c : (w : Int) < (rI s 43 0 54).toInt
      · rw [if_pos c] at g1
        rw [gif_t ⟨by omega, c⟩, gd_t (inb_k (m := 2) li_2 (by omega) (by omega) (by rw [tw]; omega)), ix_k (m := 2) li_2 (by omega) (by rw [tw]; omega), tw, g1]
        rfl
      · rw [if_neg c] at g1
        rw [gif_f (fun x => c x.2), g1]
    · unfold m_orderValue m_orderValue_G
      rw [gif_f (by decide), gif_f (by decide), gif_f (by decide), gif_f (by decide), gif_f (by decide), gif_f (by decide), q_m_isWord h54.1]
      simp only [Option.bind_some, gdB0, gdB1, gdbI, gifbI]
      rw [tw]
      by_cases c : (w : Int) < (rI s 43 0 54).toInt
      · rw [if_pos c] at g2
        rw [gif_t ⟨by omega, c⟩, q_m_endsAfter h54.1 (by omega) (by omega)]
        simp only [Option.bind_some, gdB0, gdB1, gdbI, gifbI]
        rw [q_m_isSplit (by omega) (by omega)]
        simp only [Option.bind_some, gdB0, gdB1, gdbI, gifbI]
        rw [tw, Int.toNat_natCast, g2]
        unfold endV
        by_cases a : (w : Int) + 1 = (rI s 43 0 54).toInt ∨ bt (rI s 43 0 0) w = true
        · rw [if_pos a, gif_t (a.elim (fun x => .inl (by omega)) .inr)]
          by_cases b : bt (rI s 43 0 1) w = true
          · rw [if_pos b, gif_t b]; rfl
          · rw [if_neg b, gif_f b]; rfl
        · rw [if_neg a, gif_f (fun x => a (x.elim (fun y => .inl (by omega)) .inr))]
          by_cases b : bt (rI s 43 0 1) w = true
          · rw [if_pos b, gif_t b]; rfl
          · rw [if_neg b, gif_f b]; rfl
      · rw [if_neg c] at g2
        rw [gif_f (fun x => c x.2), g2]
/-- the end of a part -/
theorem e_87 {so : Sg → Int32 → Option (Sg × Int64)} {s0 s : Sg} {live c x : Int32} {p : Nat} {v : Int64} (hl : isB live) (hb : isB (rI s0 10 0 27)) (sv : SVe s0 s) (h27 : rI s 10 0 27 = rI s0 10 0 27) (h25 : rI s 10 0 25 = nI (2400 + p)) (hv : ok (gif (c = 50) (gd (inb ((2865 + rI s 10 0 25) - 1) 5665) (some (s, Int32.toInt64 (rI s 43 0 (ix ((2865 + rI s 10 0 25) - 1)))))) ((m_orderValue s c x).bind fun q1 => some (q1.1, Int32.toInt64 q1.2))) (fun y => y = (s, v))) : ok (m_partOf_b87 so s live c x) (fun y => ST s0 y.1 live y.2 p (some v)) := by
  unfold m_partOf_b87 m_partOf_b87_G
  rcases hl with rfl | rfl
  · rw [gif_t rfl]
    exact ok_some ⟨sv, h25, fun a => absurd a.1 (by decide), fun _ => ⟨h27, rfl⟩⟩
  · rw [gif_f (by decide)]
    rcases hb with b | b
    · rw [gif_t (by rw [h27]; exact b)]
      exact ok_mono hv (fun y hy => by subst hy; exact ⟨sv, h25, fun _ => ⟨by rw [h27]; exact b, rfl⟩, fun n => absurd ⟨rfl, b⟩ n⟩)
    · rw [gif_f (by rw [h27, b]; decide)]
      exact ok_some ⟨sv, h25, fun a => by have := a.2; rw [b] at this; exact absurd this (by decide), fun _ => ⟨h27, rfl⟩⟩
theorem ES_n (n : Nat) : ES F [(1, n)] (some (Int64.ofNat n)) := fun k => by rw [evA_k, if_pos rfl]; rfl
theorem ES_f (i : Nat) : ES F [(2, i)] (some ((F i).toInt64)) := fun k => by rw [evA_k, if_neg (show ¬ (2 : Nat) = 1 by decide), if_pos rfl]; rfl
theorem e_part (hT : σ T = 4000) (T4 : T ≤ 400) {so : Sg → Int32 → Option (Sg × Int64)} {k : Nat} (hs : ∀ j, k = j + 1 → SE σ T F so (pSum σ true j)) : SE σ T F (m_partOf so) (pPart σ true k) := by
  intro s p q P p' q' live h hp hq hr hl
  have k191 : (100 + 91 : Int32).toInt = ((191 : Nat) : Int) := by decide
  have mle := mc_le (σ p)
  unfold m_partOf m_partOf_G
  rw [m_sgn]
  simp only [Option.bind_some]
  by_cases c : σ p = 2091
  · rw [e_pass_y hT T4 h hp k191 ((mc_b (by omega)).mpr (by omega))]
    simp only [Option.bind_some]
    rw [gif_f (by decide)]
    cases k with
    | zero => rw [show pPart σ true 0 p q = .inr p from if_pos c] at hr; exact absurd hr (by simp)
    | succ j =>
      rw [show pPart σ true (j + 1) p q = pb (pSum σ true j (p + 1) q) (fun P p' q' => if σ p' = 2093 then .inl (P, p' + 1, q') else .inr p') from if_pos c] at hr
      have hp1 := pT hT hp (by omega)
      have gs := pSum_g (o := true) hT j hp1 hq
      cases hr2 : pSum σ true j (p + 1) q with
      | inr e => rw [hr2, pb_r] at hr; exact absurd hr (by simp)
      | inl y =>
        obtain ⟨P2, p2, q2⟩ := y
        rw [hr2, pb_l] at hr
        rw [hr2] at gs
        have g3 := (GR_l.mp gs).2.2.1
        by_cases c2 : σ p2 = 2093
        · rw [if_pos c2] at hr
          simp only [Sum.inl.injEq, Prod.mk.injEq] at hr
          obtain ⟨rfl, rfl, rfl⟩ := hr
          obtain ⟨r, h1, y, ey, h2⟩ := hs j rfl (gadv s) (p + 1) q P2 p2 q2 live (IM_adv h (by omega)) hp1 hq hr2 hl
          rw [ey]
          refine ⟨r, h1, ok_some ?_⟩
          show ST s (gadv y.1) live y.2 (p2 + 1) r
          refine ⟨(gadv_S.tr h2.1).tr gadv_S, gadv_25 h2.2.1 (by omega), fun a => ?_, fun a => ?_⟩
          · rw [gadv_27]; exact h2.2.2.1 ⟨a.1, by rw [gadv_27]; exact a.2⟩
          · rw [gadv_27]
            obtain ⟨e1, e2⟩ := h2.2.2.2 (fun x => a ⟨x.1, by have := x.2; rw [gadv_27] at this; exact this⟩)
            exact ⟨by rw [e1, gadv_27], e2⟩
        · rw [if_neg c2] at hr; exact absurd hr (by simp)
  · rw [e_pass_n hT T4 h hp k191 (fun x => c (by have := (mc_b (by omega)).mp x; omega))]
    simp only [Option.bind_some]
    rw [gif_t trivial, e_code hT T4 h hp]
    simp only [Option.bind_some]
    rw [pPart_leaf c] at hr
    have h4 : rI (gadv s) 10 0 25 = nI (2400 + (p + 1)) := by
      have := gadv_25 h.2.2.1 (show p < 1000 by omega); exact this
    have fo : ∀ s', SVe s s' → FO s' F ∧ (0 ≤ (rI s' 43 0 54).toInt ∧ (rI s' 43 0 54).toInt ≤ 12) := fun s' g => ⟨FO_c h.2.2.2.2.1 g, by rw [g.1 _ _ _ (by omega)]; exact h.2.2.2.2.2⟩
    have b27 : rI (gadv s) 10 0 27 = rI s 10 0 27 := gadv_27
    unfold leaf at hr
    by_cases c0 : 50 ≤ q
    · rw [if_pos c0] at hr; exact absurd hr (by simp)
    rw [if_neg c0] at hr
    by_cases c1 : σ p ≤ 1000
    · rw [if_pos c1] at hr
      simp only [Sum.inl.injEq, Prod.mk.injEq] at hr
      obtain ⟨rfl, rfl, rfl⟩ := hr
      have pT' := pT hT hp (by omega)
      have m50 : mc (σ p) = 50 := mc_n.mpr (by omega)
      rw [m50]
      refine ⟨_, ES_n (σ p), ?_⟩
      rw [gif_f (by decide), gif_f (by decide)]
      refine e_87 (s := gadv s) hl h.2.2.2.1 gadv_S b27 h4 ?_
      rw [gif_t (by decide), h4, add28 (by omega)]
      have e : nI (2865 + (2400 + (p + 1))) - 1 = nI (5265 + p) := by
        rw [ti_eq, ti_sub (by rw [nI_ti (by omega), li_1]; omega) (by rw [nI_ti (by omega), li_1]; omega), nI_ti (by omega), nI_ti (by omega), li_1]; omega
      rw [e, gd_t (inb_nI (by omega) (by omega)), ix_nI (by omega), gadv_S.1 _ _ _ (by omega), (h.1 p (by omega)).2 c1, toI64_nI (by omega)]
      exact ok_some rfl
    rw [if_neg c1, if_neg (by decide)] at hr
    have n50 : mc (σ p) ≠ 50 ∨ σ p = 1001 := by
      by_cases e : mc (σ p) = 50
      · exact .inr (by have := mc_n.mp e; omega)
      · exact .inl e
    by_cases c2 : σ p = 3025 ∨ σ p = 3026
    · rw [if_pos c2] at hr
      have hp1 := pT hT hp (by omega)
      by_cases c3 : σ (p + 1) ≤ 11
      · rw [if_pos c3] at hr
        have hp2 := pT hT hp1 (by omega)
        simp only [Sum.inl.injEq, Prod.mk.injEq] at hr
        obtain ⟨rfl, rfl, rfl⟩ := hr
        refine ⟨_, ES_f _, ?_⟩
        have v1 : rI (gadv s) 43 0 (ix (2865 + rI (gadv s) 10 0 25)) = nI (σ (p + 1)) := by
          rw [h4, add28 (by omega), ix_nI (by omega), show 2865 + (2400 + (p + 1)) = 5265 + (p + 1) by omega, gadv_S.1 _ _ _ (by omega)]
          exact (h.1 (p + 1) (by omega)).2 (by omega)
        have bb : inb (2865 + rI (gadv s) 10 0 25) 5665 := by rw [h4, add28 (by omega)]; exact inb_nI (by omega) (by omega)
        have sv2 : SVe s (gadv (gadv s)) := gadv_S.tr gadv_S
        have h5 : rI (gadv (gadv s)) 10 0 25 = nI (2400 + (p + 2)) := gadv_25 h4 (by omega)
        obtain ⟨-, ov⟩ := e_ov (fo _ sv2).1 (fo _ sv2).2
        rcases c2 with c2 | c2
        · have m20 : mc (σ p) = 20 := (mc_w (by omega)).mpr (by omega)
          rw [m20, gif_t (by decide), if_pos c2]
          show ok (gd (inb (2865 + rI (gadv s) 10 0 25) 5665) (m_partOf_b87 so (gadv (gadv s)) live (nI 20) (rI (gadv s) 43 0 (ix (2865 + rI (gadv s) 10 0 25))))) _
          rw [gd_t bb, v1]
          refine e_87 hl h.2.2.2.1 sv2 (by rw [gadv_27, gadv_27]) h5 ?_
          rw [gif_f (by decide), show nI 20 = 20 from rfl, (ov _ (by omega)).1]
          exact ok_some rfl
        · have m21 : mc (σ p) = 21 := (mc_w (by omega)).mpr (by omega)
          rw [m21, gif_f (by decide), gif_t (by decide), if_neg (by omega)]
          show ok (gd (inb (2865 + rI (gadv s) 10 0 25) 5665) (m_partOf_b87 so (gadv (gadv s)) live (nI 21) (rI (gadv s) 43 0 (ix (2865 + rI (gadv s) 10 0 25))))) _
          rw [gd_t bb, v1]
          refine e_87 hl h.2.2.2.1 sv2 (by rw [gadv_27, gadv_27]) h5 ?_
          rw [gif_f (by decide), show nI 21 = 21 from rfl, (ov _ (by omega)).2]
          exact ok_some rfl
      · rw [if_neg c3] at hr; exact absurd hr (by simp)
    · rw [if_neg c2] at hr
      by_cases c3 : 3020 ≤ σ p ∧ σ p ≤ 3024
      · rw [if_pos c3] at hr
        simp only [Sum.inl.injEq, Prod.mk.injEq] at hr
        obtain ⟨rfl, rfl, rfl⟩ := hr
        have mm : mc (σ p) = 15 + (σ p - 3020) := (mc_w (by omega)).mpr (by omega)
        refine ⟨_, ES_f _, ?_⟩
        obtain ⟨ov, -⟩ := e_ov (fo _ gadv_S).1 (fo _ gadv_S).2
        rw [mm, gif_f (by rw [ti_eq, nI_ti (by omega), li_20]; omega), gif_f (by rw [ti_eq, nI_ti (by omega), li_21]; omega)]
        refine e_87 (s := gadv s) hl h.2.2.2.1 gadv_S b27 h4 ?_
        rw [gif_f (by rw [ti_eq, nI_ti (by omega), li_50]; omega), ov _ (by omega)]
        exact ok_some rfl
      · rw [if_neg c3] at hr; exact absurd hr (by simp)
/-! loops -/
def LE (σ : Nat → Nat) (T : Nat) (F : Nat → Int32) (s0 : Sg) (live : Int32) (P0 : List Ins) (p0 q0 : Nat) (L : Nat → List Ins → Nat → Nat → PR) (s : Sg) (v : Int64) : Prop :=
  ∃ m P p q r, L m P p q = .inl (P0, p0, q0) ∧ ES F P r ∧ ST s0 s live v p r ∧ p ≤ T ∧ q ≤ 50 ∧ 402 ≤ m + p
def mg (s : Sg) : Nat := 2802 - (rI s 10 0 25).toInt.toNat
theorem mg_v {s : Sg} {p : Nat} (h : rI s 10 0 25 = nI (2400 + p)) (hp : p ≤ 400) : mg s = 402 - p := by
  unfold mg; rw [h, nI_ti (by omega)]; omega
/-- an operator, and the part behind it -/
theorem e_step (hT : σ T = 4000) (T4 : T ≤ 400) {op : Nat → Nat} (ho : opOK op) {sub : Nat → Nat → PR} {f : Sg → Int32 → Option (Sg × Int64)} (hf : SE σ T F f sub) (hg : ∀ p q, p ≤ T → q ≤ 50 → GR (wfS 29) T p q (sub p q)) {s0 s : Sg} {live : Int32} (hl : isB live) (I0 : ∀ p s', SVe s0 s' → rI s' 10 0 25 = nI (2400 + p) → isB (rI s' 10 0 27) → IM σ T F s' p) (b0 : isB (rI s0 10 0 27)) {P0 : List Ins} {p0 q0 : Nat} {v : Int64}
    {m : Nat} {P : List Ins} {p q : Nat} {r : Option Int64} (hL : lp σ op sub m P p q = .inl (P0, p0, q0)) (hE : ES F P r) (hS : ST s0 s live v p r) (hp : p ≤ T) (hq : q ≤ 50) (hm : 402 ≤ m + p) (w0 : op (σ p) ≠ 0) :
    ∃ (p2 q2 : Nat) (r2 : Option Int64), p + 1 ≤ p2 ∧ p2 ≤ T ∧ ok (f (gadv s) live) (fun y => ST (gadv s) y.1 live y.2 p2 r2) ∧ ∀ s' v', ST s0 s' live v' p2 (cb (op (σ p)) r r2) → LE σ T F s0 live P0 p0 q0 (lp σ op sub) s' v' := by
  obtain ⟨m', rfl⟩ : ∃ m', m = m' + 1 := ⟨m - 1, by omega⟩
  rw [lp_s, if_neg w0] at hL
  have oo := (ho (σ p)).resolve_left w0
  have hp1 := pT hT hp oo.2.2
  have gs := hg (p + 1) q hp1 hq
  cases hr : sub (p + 1) q with
  | inr e => rw [hr, pb_r] at hL; exact absurd hL (by simp)
  | inl y =>
    obtain ⟨Q, p2, q2⟩ := y
    rw [hr, pb_l] at hL
    rw [hr] at gs
    obtain ⟨g1, g2, g3, g4, g5, g6⟩ := GR_l.mp gs
    have im : IM σ T F (gadv s) (p + 1) := I0 (p + 1) (gadv s) (hS.1.tr gadv_S) (gadv_25 hS.2.1 (by omega)) (by rw [gadv_27]; exact ST_B hS b0)
    obtain ⟨r2, h1, h2⟩ := hf (gadv s) (p + 1) q Q p2 q2 live im hp1 hq hr hl
    exact ⟨p2, q2, r2, by omega, g3, h2, fun s' v' hS' => ⟨m', _, p2, q2, _, hL, ES_op hE h1 oo.1, hS', g3, g5, by omega⟩⟩
theorem e_term (hT : σ T = 4000) (T4 : T ≤ 400) {so : Sg → Int32 → Option (Sg × Int64)} {part : Nat → Nat → PR} (hf : SE σ T F (m_partOf so) part) (hg : ∀ p q, p ≤ T → q ≤ 50 → GR (wfS 29) T p q (part p q)) : SE σ T F (m_termOf so) (pTerm σ part) := by
  intro s p q P0 p0 q0 live h hp hq hr hl
  have k142 : (100 + 42 : Int32).toInt = ((142 : Nat) : Int) := by decide
  have k147 : (100 + 47 : Int32).toInt = ((147 : Nat) : Int) := by decide
  have k137 : (100 + 37 : Int32).toInt = ((137 : Nat) : Int) := by decide
  have I0 : ∀ p s', SVe s s' → rI s' 10 0 25 = nI (2400 + p) → isB (rI s' 10 0 27) → IM σ T F s' p := fun p s' a b c => IM_c h a b c
  have b0 := h.2.2.2.1
  unfold pTerm at hr
  have gs := hg p q hp hq
  suffices H : ok (m_termOf so s live) (fun y => ∃ r, ES F P0 r ∧ ST s y.1 live y.2 p0 r) by
    obtain ⟨y, ey, r, h1, h2⟩ := H
    exact ⟨r, h1, y, ey, h2⟩
  unfold m_termOf m_termOf_G
  cases hr1 : part p q with
  | inr e => rw [hr1, pb_r] at hr; exact absurd hr (by simp)
  | inl y =>
    obtain ⟨P1, p1, q1⟩ := y
    rw [hr1, pb_l] at hr
    rw [hr1] at gs
    obtain ⟨g1, g2, g3, g4, g5, g6⟩ := GR_l.mp gs
    obtain ⟨r1, h1, y, ey, h2⟩ := hf s p q P1 p1 q1 live h hp hq hr1 hl
    rw [ey]
    refine ok_loop (K := fun n (y : Sg × Int64) => m_termOf_b6 so n y.1 live y.2) (I := fun y => LE σ T F s live P0 p0 q0 (lp σ opT part) y.1 y.2) (μ := fun y => mg y.1) ?_ FU (y.1, y.2) ⟨402, P1, p1, q1, r1, hr, h1, h2, g3, g5, by omega⟩ (by have : mg y.1 ≤ 2802 := Nat.sub_le _ _; show mg y.1 < 20000; omega)
    rintro fu ⟨s2, v⟩ ⟨m, P, p', q', r, hL, hE, hS, hpT, hq', hm⟩ ih
    simp only at hS ih
    have im := I0 p' s2 hS.1 hS.2.1 (ST_B hS b0)
    have mle := mc_le (σ p')
    show ok (m_termOf_b6_G _ _ _ s2 live v) _
    unfold m_termOf_b6_G
    simp only [m_sgn, Option.bind_some, e_code hT T4 im hpT]
    -- an operator
    have k54 : opT (σ p') ≠ 0 → ok (m_termOf_b54 so (m_termOf_b6 so fu) s2 live v) (fun y => ∃ r, ES F P0 r ∧ ST s y.1 live y.2 p0 r) := by
      intro w0
      obtain ⟨p2, q2, r2, a1, a2, ⟨⟨y1, w⟩, e1, hS2⟩, next⟩ := e_step hT T4 opT_ok hf hg hl I0 b0 hL hE hS hpT hq' hm w0
      simp only at hS2
      have dec : ∀ s' v', ST s s' live v' p2 (cb (opT (σ p')) r r2) → ok (m_termOf_b6 so fu s' live v') (fun y => ∃ r, ES F P0 r ∧ ST s y.1 live y.2 p0 r) := fun s' v' hS' => ih (s', v') (next s' v' hS') (by show mg s' < mg s2; rw [mg_v hS'.2.1 (by omega), mg_v hS.2.1 (by omega)]; omega)
      unfold m_termOf_b54 m_termOf_b54_G
      simp only [e_code hT T4 im hpT, Option.bind_some]
      show ok ((m_partOf so (gadv s2) live).bind _) _
      rw [e1]
      simp only [m_sgn, Option.bind_some, cmp_eq, gdB0, gdB1]
      unfold m_termOf_b121 m_termOf_b121_G
      simp only [m_sgn, Option.bind_some]
      by_cases c1 : σ p' = 2042
      · have o9 : opT (σ p') = 9 := by rw [c1]; rfl
        rw [o9] at dec
        have e42 : (nI (mc (σ p')) : Int32) = 100 + 42 := (mq (by omega) k142).mpr ((mc_b (by omega)).mpr (by omega))
        rw [gif_t e42, gif_t e42]
        exact ok_bind (ok_mono (e_comb hl b0 hS hS2 (o := 9) (.inr (.inr rfl))) (fun z hz => dec z.1 z.2 hz))
      · have n42 : ¬ (nI (mc (σ p')) : Int32) = 100 + 42 := fun x => c1 (by have := (mc_b (by omega)).mp ((mq (by omega) k142).mp x); omega)
        simp only [gif_f n42]
        have fin : ∀ (o : Nat), opT (σ p') = o → (o = 10 ∨ o = 11) → (∀ (s3 : Sg) (u : Int64), ¬ u = 0 → ok (m_bounded s3 (opr o v u) live) (fun z => ST s z.1 live z.2 p2 (cb o r r2)) → ok (gif ((nI (mc (σ p')) : Int32) = 100 + 47) (gd (¬ u = 0) ((m_bounded s3 (v / u) live).bind fun q4 => m_termOf_b6 so fu q4.1 live q4.2)) (gd (¬ u = 0) ((m_bounded s3 (g_lrem v u) live).bind fun q5 => m_termOf_b6 so fu q5.1 live q5.2))) (fun y => ∃ r, ES F P0 r ∧ ST s y.1 live y.2 p0 r)) → ok (gif (w = 0) (gif (rI y1 10 0 27 = 0) (gif (live = 0) (gif ((nI (mc (σ p')) : Int32) = 100 + 47) (gd (¬ (1 : Int64) = 0) ((m_bounded (wI y1 10 0 27 0) (v / 1) live).bind fun q4 => m_termOf_b6 so fu q4.1 live q4.2)) (gd (¬ (1 : Int64) = 0) ((m_bounded (wI y1 10 0 27 0) (g_lrem v 1) live).bind fun q5 => m_termOf_b6 so fu q5.1 live q5.2))) (gif ((nI (mc (σ p')) : Int32) = 100 + 47) (gd (¬ (1 : Int64) = 0) ((m_bounded (wI y1 10 0 27 1) (v / 1) live).bind fun q4 => m_termOf_b6 so fu q4.1 live q4.2)) (gd (¬ (1 : Int64) = 0) ((m_bounded (wI y1 10 0 27 1) (g_lrem v 1) live).bind fun q5 => m_termOf_b6 so fu q5.1 live q5.2)))) (gif ((nI (mc (σ p')) : Int32) = 100 + 47) (gd (¬ (1 : Int64) = 0) ((m_bounded (wI y1 10 0 27 1) (v / 1) live).bind fun q4 => m_termOf_b6 so fu q4.1 live q4.2)) (gd (¬ (1 : Int64) = 0) ((m_bounded (wI y1 10 0 27 1) (g_lrem v 1) live).bind fun q5 => m_termOf_b6 so fu q5.1 live q5.2)))) (gif ((nI (mc (σ p')) : Int32) = 100 + 47) (gd (¬ w = 0) ((m_bounded y1 (v / w) live).bind fun q4 => m_termOf_b6 so fu q4.1 live q4.2)) (gd (¬ w = 0) ((m_bounded y1 (g_lrem v w) live).bind fun q5 => m_termOf_b6 so fu q5.1 live q5.2)))) (fun y => ∃ r, ES F P0 r ∧ ST s y.1 live y.2 p0 r) := by
          intro o eo oo un
          obtain ⟨d1, d2⟩ := e_div hl b0 hS hS2 oo
          refine ok_gif (fun w0' => ?_) (fun w0' => un y1 w w0' (d2 w0'))
          refine ok_gif (fun z0 => ok_gif (fun l0 => ?_) (fun l0 => ?_)) (fun z0 => ?_)
          · exact un _ 1 (by decide) (d1 w0' 0 (by rw [if_pos ⟨z0, l0⟩]))
          · exact un _ 1 (by decide) (d1 w0' 1 (by rw [if_neg (fun x => l0 x.2)]))
          · exact un _ 1 (by decide) (d1 w0' 1 (by rw [if_neg (fun x => z0 x.1)]))
        by_cases c2 : σ p' = 2047
        · have o10 : opT (σ p') = 10 := by rw [c2]; rfl
          refine fin 10 o10 (.inl rfl) (fun s3 u hu hb => ?_)
          rw [o10] at dec
          rw [gif_t ((mq (by omega) k147).mpr ((mc_b (by omega)).mpr (by omega))), gd_t hu]
          exact ok_bind (ok_mono hb (fun z hz => dec z.1 z.2 hz))
        · have o11 : opT (σ p') = 11 := by
            unfold opT at w0 ⊢
            rw [if_neg c1, if_neg c2] at w0 ⊢
            by_cases e : σ p' = 2037
            · rw [if_pos e]
            · rw [if_neg e] at w0; exact absurd rfl w0
          refine fin 11 o11 (.inr rfl) (fun s3 u hu hb => ?_)
          rw [o11] at dec
          rw [gif_f (fun x => c2 (by have := (mc_b (by omega)).mp ((mq (by omega) k147).mp x); omega)), gd_t hu]
          exact ok_bind (ok_mono hb (fun z hz => dec z.1 z.2 hz))
    by_cases c1 : σ p' = 2042
    · rw [gif_t ((mq (by omega) k142).mpr ((mc_b (by omega)).mpr (by omega)))]
      exact k54 (by rw [c1]; decide)
    · rw [gif_f (fun x => c1 (by have := (mc_b (by omega)).mp ((mq (by omega) k142).mp x); omega))]
      by_cases c2 : σ p' = 2047
      · rw [gif_t ((mq (by omega) k147).mpr ((mc_b (by omega)).mpr (by omega)))]
        exact k54 (by rw [c2]; decide)
      · rw [gif_f (fun x => c2 (by have := (mc_b (by omega)).mp ((mq (by omega) k147).mp x); omega))]
        by_cases c3 : σ p' = 2037
        · rw [gif_t ((mq (by omega) k137).mpr ((mc_b (by omega)).mpr (by omega)))]
          exact k54 (by rw [c3]; decide)
        · rw [gif_f (fun x => c3 (by have := (mc_b (by omega)).mp ((mq (by omega) k137).mp x); omega))]
          obtain ⟨m', rfl⟩ : ∃ m', m = m' + 1 := ⟨m - 1, by omega⟩
          have z0 : opT (σ p') = 0 := by unfold opT; rw [if_neg c1, if_neg c2, if_neg c3]
          rw [lp_s, if_pos z0] at hL
          simp only [Sum.inl.injEq, Prod.mk.injEq] at hL
          obtain ⟨rfl, rfl, rfl⟩ := hL
          exact ok_some ⟨r, hE, hS⟩
theorem e_sumW (hT : σ T = 4000) (T4 : T ≤ 400) {so : Sg → Int32 → Option (Sg × Int64)} {term : Nat → Nat → PR} (hf : SE σ T F (m_termOf so) term) (hg : ∀ p q, p ≤ T → q ≤ 50 → GR (wfS 29) T p q (term p q)) : SE σ T F (m_sumOf_G (m_sumOf_b6 so FU) (m_termOf so)) (fun p q => pb (term p q) (fun P p' q' => lp σ opS term 402 P p' q')) := by
  intro s p q P0 p0 q0 live h hp hq hr hl
  have k143 : (100 + 43 : Int32).toInt = ((143 : Nat) : Int) := by decide
  have k145 : (100 + 45 : Int32).toInt = ((145 : Nat) : Int) := by decide
  have I0 : ∀ p s', SVe s s' → rI s' 10 0 25 = nI (2400 + p) → isB (rI s' 10 0 27) → IM σ T F s' p := fun p s' a b c => IM_c h a b c
  have b0 := h.2.2.2.1
  simp only at hr
  have gs := hg p q hp hq
  suffices H : ok (m_sumOf_G (m_sumOf_b6 so FU) (m_termOf so) s live) (fun y => ∃ r, ES F P0 r ∧ ST s y.1 live y.2 p0 r) by
    obtain ⟨y, ey, r, h1, h2⟩ := H
    exact ⟨r, h1, y, ey, h2⟩
  unfold m_sumOf_G
  cases hr1 : term p q with
  | inr e => rw [hr1, pb_r] at hr; exact absurd hr (by simp)
  | inl y =>
    obtain ⟨P1, p1, q1⟩ := y
    rw [hr1, pb_l] at hr
    rw [hr1] at gs
    obtain ⟨g1, g2, g3, g4, g5, g6⟩ := GR_l.mp gs
    obtain ⟨r1, h1, y, ey, h2⟩ := hf s p q P1 p1 q1 live h hp hq hr1 hl
    rw [ey]
    refine ok_loop (K := fun n (y : Sg × Int64) => m_sumOf_b6 so n y.1 live y.2) (I := fun y => LE σ T F s live P0 p0 q0 (lp σ opS term) y.1 y.2) (μ := fun y => mg y.1) ?_ FU (y.1, y.2) ⟨402, P1, p1, q1, r1, hr, h1, h2, g3, g5, by omega⟩ (by have : mg y.1 ≤ 2802 := Nat.sub_le _ _; show mg y.1 < 20000; omega)
    rintro fu ⟨s2, v⟩ ⟨m, P, p', q', r, hL, hE, hS, hpT, hq', hm⟩ ih
    simp only at hS ih
    have im := I0 p' s2 hS.1 hS.2.1 (ST_B hS b0)
    have mle := mc_le (σ p')
    show ok (m_sumOf_b6_G _ _ _ s2 live v) _
    unfold m_sumOf_b6_G
    simp only [m_sgn, Option.bind_some, e_code hT T4 im hpT]
    by_cases c1 : σ p' = 2043
    · have e43 : (nI (mc (σ p')) : Int32) = 100 + 43 := (mq (by omega) k143).mpr ((mc_b (by omega)).mpr (by omega))
      have o7 : opS (σ p') = 7 := by rw [c1]; rfl
      rw [gif_t e43, gif_t e43]
      obtain ⟨p2, q2, r2, a1, a2, ⟨⟨y1, w⟩, e1, hS2⟩, next⟩ := e_step hT T4 opS_ok hf hg hl I0 b0 hL hE hS hpT hq' hm (by omega)
      simp only at hS2
      rw [o7] at next
      unfold m_sumOf_b59 m_sumOf_b59_G
      show ok ((m_termOf so (gadv s2) live).bind _) _
      rw [e1]
      simp only [Option.bind_some]
      rw [gif_f (by decide)]
      exact ok_bind (ok_mono (e_comb hl b0 hS hS2 (o := 7) (.inl rfl)) (fun z hz => ih (z.1, z.2) (next z.1 z.2 hz) (by show mg z.1 < mg s2; rw [mg_v hz.2.1 (by omega), mg_v hS.2.1 (by omega)]; omega)))
    · have n43 : ¬ (nI (mc (σ p')) : Int32) = 100 + 43 := fun x => c1 (by have := (mc_b (by omega)).mp ((mq (by omega) k143).mp x); omega)
      rw [gif_f n43]
      by_cases c2 : σ p' = 2045
      · have o8 : opS (σ p') = 8 := by rw [c2]; rfl
        rw [gif_t ((mq (by omega) k145).mpr ((mc_b (by omega)).mpr (by omega))), gif_f n43]
        obtain ⟨p2, q2, r2, a1, a2, ⟨⟨y1, w⟩, e1, hS2⟩, next⟩ := e_step hT T4 opS_ok hf hg hl I0 b0 hL hE hS hpT hq' hm (by omega)
        simp only at hS2
        rw [o8] at next
        unfold m_sumOf_b59 m_sumOf_b59_G
        show ok ((m_termOf so (gadv s2) live).bind _) _
        rw [e1]
        simp only [Option.bind_some]
        rw [gif_t trivial]
        exact ok_bind (ok_mono (e_comb hl b0 hS hS2 (o := 8) (.inr (.inl rfl))) (fun z hz => ih (z.1, z.2) (next z.1 z.2 hz) (by show mg z.1 < mg s2; rw [mg_v hz.2.1 (by omega), mg_v hS.2.1 (by omega)]; omega)))
      · rw [gif_f (fun x => c2 (by have := (mc_b (by omega)).mp ((mq (by omega) k145).mp x); omega))]
        obtain ⟨m', rfl⟩ : ∃ m', m = m' + 1 := ⟨m - 1, by omega⟩
        have z0 : opS (σ p') = 0 := by unfold opS; rw [if_neg c1, if_neg c2]
        rw [lp_s, if_pos z0] at hL
        simp only [Sum.inl.injEq, Prod.mk.injEq] at hL
        obtain ⟨rfl, rfl, rfl⟩ := hL
        exact ok_some ⟨r, hE, hS⟩
theorem e_sum (hT : σ T = 4000) (T4 : T ≤ 400) : ∀ (d k : Nat), k + 1 ≤ d → SE σ T F (m_sumOf d) (pSum σ true k) := by
  intro d
  induction d with
  | zero => intro k h; omega
  | succ d ih =>
    intro k hd
    have h1 := e_part (F := F) (so := m_sumOf d) (k := k) hT T4 (fun j hj => ih j (by omega))
    have g1 : ∀ p q, p ≤ T → q ≤ 50 → GR (wfS 29) T p q (pPart σ true k p q) := pPart_g (o := true) hT k
    have h2 := e_term hT T4 h1 g1
    exact e_sumW hT T4 h2 (fun p q hp hq => pTerm_g hT g1 hp hq)
