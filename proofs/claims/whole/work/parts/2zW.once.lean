/-! a clause of orders, once -/
variable {σ : Nat → Nat} {T : Nat}
theorem FO_k {F : Nat → Int32} {s s' : Sg} (h : FO s F) (q : ∀ c, rI s' 43 0 c = rI s 43 0 c) (g : ∀ c, 29 ≤ c → c ≤ 32 → rI s' 10 0 c = rI s 10 0 c) : FO s' F := by
  obtain ⟨⟨f1, f2, f3, f4, f5⟩, f6⟩ := h
  have ev : ∀ w, endV s' w = endV s w := fun w => by unfold endV; rw [q, q, q]
  refine ⟨⟨by rw [q]; exact f1, by rw [g _ (by omega) (by omega)]; exact f2, by rw [g _ (by omega) (by omega)]; exact f3, by rw [g _ (by omega) (by omega)]; exact f4, by rw [g _ (by omega) (by omega)]; exact f5⟩, fun w hw => ?_⟩
  rw [q, q, ev]; exact f6 w hw
/-- what a clause leaves as it was -/
def GP (s s' : Sg) : Prop := ∀ k i c, ¬ (k = 10 ∧ (c = 25 ∨ c = 26 ∨ c = 27 ∨ c = 31 ∨ (60 ≤ c ∧ c ≤ 63))) → rI s' k i c = rI s k i c
theorem ga_30 (hT : σ T = 4000) (T4 : T ≤ 400) {s : Sg} {p q : Nat} {y : Clz × Nat × Nat} (hk : TkL σ T s) (h54 : 0 ≤ (rI s 43 0 54).toInt ∧ (rI s 43 0 54).toInt ≤ 12) (h59 : rI s 10 0 59 = nI (2400 + p)) (hp : p ≤ T) (hq : q ≤ 50) {live y1 : Int32} (hl : isB live) (hr : pOne σ true p q = .inl y) :
    ok (m_goesAlong_b30 s (nI (2400 + T)) live y1) (fun s' => GP s s' ∧ GAr σ (FF (wI s 10 0 31 y1)) p y live s') := by
  unfold m_goesAlong_b30 m_goesAlong_b30_G
  simp only []
  have e59 : rI (wI (wI s 10 0 31 y1) 10 0 26 (nI (2400 + T))) 10 0 59 = nI (2400 + p) := by rw [rI_ne (by omega), rI_ne (by omega)]; exact h59
  rw [e59]
  generalize hs3 : wI (wI (wI s 10 0 31 y1) 10 0 26 (nI (2400 + T))) 10 0 25 (nI (2400 + p)) = s3
  have k3 : ∀ k i c, ¬ (k = 10 ∧ (c = 25 ∨ c = 26 ∨ c = 31)) → rI s3 k i c = rI s k i c := fun k i c hn => by rw [← hs3, rI_ne (by omega), rI_ne (by omega), rI_ne (by omega)]
  have e25 : rI s3 10 0 25 = nI (2400 + p) := by rw [← hs3, rI_eq rfl]
  have e26 : rI s3 10 0 26 = nI (2400 + T) := by rw [← hs3, rI_ne (by omega), rI_eq rfl]
  have mle := mc_le (σ p)
  have code : m_codeAt s3 (rI s3 10 0 25) = some (s3, nI (mc (σ p))) := by
    unfold m_codeAt m_codeAt_G
    rw [e26, e25]
    by_cases c : p < T
    · rw [gif_t (by rw [ti_lt, nI_ti (by omega), nI_ti (by omega)]; omega), add65 (by omega), gd_t (inb_nI (by omega) (by omega)), ix_nI (by omega), show 65 + (2400 + p) = 2465 + p by omega, k3 _ _ _ (by omega), (hk p c).1]
    · have : p = T := by omega
      rw [gif_f (by rw [ti_lt, nI_ti (by omega), nI_ti (by omega)]; omega), this, hT]; rfl
  rw [code]
  simp only [Option.bind_some, gdB1]
  have e25' : rI (wI s3 10 0 61 (nI (mc (σ p)))) 10 0 25 + 1 = nI (2400 + (p + 1)) := by rw [rI_ne (by omega), e25, nI_s (by omega)]; rfl
  rw [e25']
  generalize hs7 : wI (wI (wI s3 10 0 61 (nI (mc (σ p)))) 10 0 25 (nI (2400 + (p + 1)))) 10 0 62 1 = s7
  have k7 : ∀ k i c, ¬ (k = 10 ∧ (c = 25 ∨ c = 26 ∨ c = 31 ∨ c = 61 ∨ c = 62)) → rI s7 k i c = rI s k i c := fun k i c hn => by rw [← hs7, rI_ne (by omega), rI_ne (by omega), rI_ne (by omega)]; exact k3 k i c (by omega)
  have ig : IG σ T (FF (wI s 10 0 31 y1)) s7 := by
    refine ⟨fun k hk' => by rw [k7 _ _ _ (by omega), k7 _ _ _ (by omega)]; exact hk k hk', by rw [← hs7, rI_ne (by omega), rI_ne (by omega), rI_ne (by omega)]; exact e26, FO_k (FF_o (wI s 10 0 31 y1)) (fun c => by rw [k7 _ _ _ (by omega), rI_ne (by omega)]) (fun c h1 h2 => ?_), by rw [k7 _ _ _ (by omega)]; exact h54⟩
    by_cases e : c = 31
    · subst e; rw [← hs7, rI_ne (by omega), rI_ne (by omega), rI_ne (by omega), ← hs3, rI_ne (by omega), rI_ne (by omega)]
    · rw [k7 _ _ _ (by omega), rI_ne (by omega)]
  have := ga_clause hT T4 ig (p := p) (q := q) (y := y) (by rw [← hs7, rI_ne (by omega), rI_eq rfl]) hp hq hl (by rw [← hs7, rI_eq rfl]) (by rw [← hs7, rI_ne (by omega), rI_ne (by omega), rI_eq rfl]) hr
  refine ok_mono this (fun s' h' => ⟨fun k i c hn => ?_, h'.2⟩)
  rw [h'.1 k i c (by omega), k7 k i c (by omega)]
/-! the class's facts -/
theorem x_endsOf {s : Sg} {sm : Sg} (M : MW (sm.1 43 0)) (X : GX s 0 (sm.1 43 0)) {a : Int32} {w : Nat} (ha : a.toInt = w) (hw : w < 12) : x0_endsOf s a = some (s, if (w : Int) < (rI sm 43 0 54).toInt then endV sm w else -1) := by
  have e7 : rI s 1 0 7 = rI sm 43 0 54 := X.1.1
  have e8 : rI s 1 0 8 = rI sm 43 0 0 := X.1.2.1
  have e9 : rI s 1 0 9 = rI sm 43 0 1 := X.1.2.2
  have m12 : 0 ≤ (rI sm 43 0 54).toInt ∧ (rI sm 43 0 54).toInt ≤ 12 := M.1
  unfold x0_endsOf x0_endsOf_G
  rw [q_x1_has (by rw [e7]; exact m12.2), e7]
  simp only [Option.bind_some, gdB0, gdB1, gdbI, gifbI]
  rw [ha]
  by_cases c : (w : Int) < (rI sm 43 0 54).toInt
  · rw [gif_t ⟨by omega, c⟩, if_pos c, q_x1_endsAfter (by rw [e7]; exact m12.1) (by rw [e7]; exact m12.2), e7, e8]
    simp only [Option.bind_some, gdB0, gdB1, gdbI, gifbI]
    rw [q_x1_isSplit (by rw [e7]; exact m12.2), e7, e9]
    simp only [Option.bind_some, gdB0, gdB1, gdbI, gifbI]
    rw [ha, Int.toNat_natCast]
    unfold endV
    by_cases a' : (w : Int) + 1 = (rI sm 43 0 54).toInt ∨ bt (rI sm 43 0 0) w = true
    · rw [if_pos a', gif_t ⟨⟨by omega, c⟩, a'.elim (fun x => .inl (by omega)) .inr⟩]
      by_cases b : bt (rI sm 43 0 1) w = true
      · rw [if_pos b, gif_t ⟨⟨by omega, c⟩, b⟩]; rfl
      · rw [if_neg b, gif_f (fun x => b x.2)]; rfl
    · rw [if_neg a', gif_f (fun x => a' (x.2.elim (fun y => .inl (by omega)) .inr))]
      by_cases b : bt (rI sm 43 0 1) w = true
      · rw [if_pos b, gif_t ⟨⟨by omega, c⟩, b⟩]; rfl
      · rw [if_neg b, gif_f (fun x => b x.2)]; rfl
  · rw [gif_f (fun x => c x.2), if_neg c]
theorem x_gather {s sm : Sg} (M : MW (sm.1 43 0)) (X : GX s 0 (sm.1 43 0)) {t : Int32} (ht : ∀ s', (∀ k i c, k ≠ 11 → rI s' k i c = rI s k i c) → x7_together s' 6 = some (s', t)) : ok (x0_gatherOrderFacts s) (fun s' => (rI s' 11 0 0 = rI sm 43 0 14 ∧ rI s' 11 0 1 = rI s 0 0 8 ∧ rI s' 11 0 2 = rI s 0 0 7 ∧ rI s' 11 0 3 = rI s 7 0 4 ∧ rI s' 11 0 4 = t) ∧ ∀ w, w < 12 → rI s' 11 0 (5 + w) = (if (w : Int) < (rI sm 43 0 54).toInt then rI sm 43 0 (2 + w) else -1) ∧ rI s' 11 0 (17 + w) = (if (w : Int) < (rI sm 43 0 54).toInt then endV sm w else -1)) := by
  have b29 : ∀ n : Nat, n < 29 → inb (nI n) 29 ∧ ix (nI n) = n := fun n h => ⟨inb_nI (by omega) h, ix_nI (by omega)⟩
  have m12 : 0 ≤ (rI sm 43 0 54).toInt ∧ (rI sm 43 0 54).toInt ≤ 12 := M.1
  have e15 : rI s 15 0 0 = rI sm 43 0 14 := X.2.2.1.1
  unfold x0_gatherOrderFacts x0_gatherOrderFacts_G
  simp only []
  rw [gd_t (show inb 0 4 from inb_nI (a := 0) (by omega) (by omega)), gd_t (show inb 0 29 from (b29 0 (by omega)).1), gd_t (show inb 1 29 from (b29 1 (by omega)).1), gd_t (show inb 2 29 from (b29 2 (by omega)).1), gd_t (show inb 3 29 from (b29 3 (by omega)).1), show ix 0 = 0 from (b29 0 (by omega)).2, show ix 1 = 1 from (b29 1 (by omega)).2, show ix 2 = 2 from (b29 2 (by omega)).2, show ix 3 = 3 from (b29 3 (by omega)).2]
  simp (disch := omega) only [rI_ne]
  rw [ht _ (fun k i c hk => by rw [rI_ne (by omega), rI_ne (by omega), rI_ne (by omega), rI_ne (by omega)])]
  simp only [Option.bind_some]
  rw [gd_t (show inb 4 29 from (b29 4 (by omega)).1), show ix 4 = 4 from (b29 4 (by omega)).2]
  generalize hs6 : wI (wI (wI (wI (wI s 11 0 0 (rI s 15 0 0)) 11 0 1 (rI s 0 0 8)) 11 0 2 (rI s 0 0 7)) 11 0 3 (rI s 7 0 4)) 11 0 4 t = s6
  have k6 : ∀ k i c, k ≠ 11 → rI s6 k i c = rI s k i c := fun k i c hk => by rw [← hs6]; simp (disch := omega) only [rI_ne]
  have v6 : rI s6 11 0 0 = rI sm 43 0 14 ∧ rI s6 11 0 1 = rI s 0 0 8 ∧ rI s6 11 0 2 = rI s 0 0 7 ∧ rI s6 11 0 3 = rI s 7 0 4 ∧ rI s6 11 0 4 = t := by
    rw [← hs6]
    simp (disch := omega) only [rI_ne, rI_eq]
    exact ⟨e15, trivial, trivial, trivial, trivial⟩
  refine ok_loop (K := fun n (y : Sg × Int32) => x0_gatherOrderFacts_b65 n y.1 y.2) (I := fun y => ∃ j, y.2 = nI j ∧ j ≤ 12 ∧ (∀ k i c, k ≠ 11 → rI y.1 k i c = rI s k i c) ∧ (∀ i, i < 5 → rI y.1 11 0 i = rI s6 11 0 i) ∧ ∀ w, w < j → rI y.1 11 0 (5 + w) = (if (w : Int) < (rI sm 43 0 54).toInt then rI sm 43 0 (2 + w) else -1) ∧ rI y.1 11 0 (17 + w) = (if (w : Int) < (rI sm 43 0 54).toInt then endV sm w else -1))
    (μ := fun y => 20 - y.2.toInt.toNat) ?_ FU (s6, 0) ⟨0, rfl, by omega, k6, fun _ _ => rfl, fun w hw => by omega⟩ (by show _ < 20000; simp only []; omega)
  rintro fu ⟨s2, l⟩ ⟨j, hj, j12, kk, k5, kw⟩ ih
  simp only at hj kk k5 kw ih
  subst hj
  show ok (x0_gatherOrderFacts_b65_G _ _ _ s2 (nI j)) _
  unfold x0_gatherOrderFacts_b65_G
  have tj : (nI j).toInt = j := nI_ti (by omega)
  by_cases c : j < 12
  · have X2 : GX s2 0 (sm.1 43 0) := GX_c ⟨m12.2, M.2.2.2.2.1.1.2⟩ (fun c _ => kk _ _ _ (by omega)) (fun c => kk _ _ _ (by omega)) (fun c => kk _ _ _ (by omega)) (fun c => kk _ _ _ (by omega)) (fun c => kk _ _ _ (by omega)) (fun c => kk _ _ _ (by omega)) (fun c => kk _ _ _ (by omega)) (fun i _ => rfl) X
    have e7 : rI s2 1 0 7 = rI sm 43 0 54 := X2.1.1
    have wide : x1_wideOf s2 0 (nI j) = some (s2, if (j : Int) < (rI sm 43 0 54).toInt then rI sm 43 0 (2 + j) else -1) := by
      rw [q_x1_wideOf (by rw [e7]; exact m12.2), e7, tj, Int.toNat_natCast]
      by_cases d : (j : Int) < (rI sm 43 0 54).toInt
      · rw [gif_t ⟨by omega, d⟩, if_pos d, (X2.2.1 j d).1]; rfl
      · rw [gif_f (fun x => d x.2), if_neg d]
    have a5 : 5 + nI j = nI (5 + j) := by
      rw [ti_eq, ti_add (by rw [tj, li_5]; omega) (by rw [tj, li_5]; omega), tj, li_5, nI_ti (by omega)]; omega
    have a17 : 17 + nI j = nI (17 + j) := by
      rw [ti_eq, ti_add (by rw [tj, li_17]; omega) (by rw [tj, li_17]; omega), tj, li_17, nI_ti (by omega)]; omega
    rw [gif_t (by rw [ti_lt, tj, li_12]; omega), wide]
    simp only [Option.bind_some]
    rw [a5, gd_t (b29 _ (by omega)).1, (b29 _ (by omega)).2]
    generalize hv : (if (j : Int) < (rI sm 43 0 54).toInt then rI sm 43 0 (2 + j) else -1) = v1
    have X3 : GX (wI s2 11 0 (5 + j) v1) 0 (sm.1 43 0) := GX_c ⟨m12.2, M.2.2.2.2.1.1.2⟩ (fun c _ => rI_ne (by omega)) (fun c => rI_ne (by omega)) (fun c => rI_ne (by omega)) (fun c => rI_ne (by omega)) (fun c => rI_ne (by omega)) (fun c => rI_ne (by omega)) (fun c => rI_ne (by omega)) (fun i _ => rfl) X2
    rw [x_endsOf M X3 tj c]
    simp only [Option.bind_some]
    rw [a17, gd_t (b29 _ (by omega)).1, (b29 _ (by omega)).2, nI_s (by omega)]
    generalize hv2 : (if (j : Int) < (rI sm 43 0 54).toInt then endV sm j else -1) = v2
    refine ih (wI (wI s2 11 0 (5 + j) v1) 11 0 (17 + j) v2, nI (j + 1)) ⟨j + 1, rfl, by omega, fun k i c' hk => by rw [rI_ne (by omega), rI_ne (by omega)]; exact kk k i c' hk, fun i hi => by rw [rI_ne (by omega), rI_ne (by omega)]; exact k5 i hi, fun w hw => ?_⟩ (by simp only []; rw [tj, nI_ti (by omega)]; omega)
    simp only []
    by_cases e : w = j
    · subst e
      rw [rI_ne (by omega), rI_eq rfl, rI_eq rfl]
      exact ⟨hv.symm, hv2.symm⟩
    · rw [rI_ne (by omega), rI_ne (by omega), rI_ne (by omega), rI_ne (by omega)]; exact kw w (by omega)
  · rw [gif_f (by rw [ti_lt, tj, li_12]; omega)]
    refine ok_some ⟨?_, fun w hw => kw w (by omega)⟩
    rw [k5 0 (by omega), k5 1 (by omega), k5 2 (by omega), k5 3 (by omega), k5 4 (by omega)]; exact v6
/-- the desk's machine -/
theorem x_val {s : Sg} {p z : Nat} {F : Nat → Int32} {P : List Ins} (h36 : rN s 36 0 0 = 512) (hs : sgx s p P z) (z4 : z ≤ 400) (hI : ∀ i ∈ P, okIns 29 i) (hS : skOK P) (hp : pushes P ≤ 50) (hg : goodE (evA F P 0 [])) (hf : ∀ i, i < 29 → rI s 11 0 i = F i) {a : Int32} (ha : a = nI p) :
    ok (x4_valueOf s 2 0 a 11 0) (outX (evA F P 0 []) 2) := by
  obtain ⟨h1, h2, h3⟩ := hs
  unfold x4_valueOf x4_valueOf_G
  rw [gdB0]
  have ea : ∀ s : Sg, aln s 11 0 = 29 := fun s => rfl
  refine valX (c := s.1 36 0) (F := F) (len := 512) (by omega) rfl ea (by omega) (by omega) P.length P p [] (wI s 4 2 1 0) a 0 0 FU (Nat.le_refl _) h1 (by show (rI s 36 0 (p + P.length)).toInt = 24576; rw [h2]; exact nI24) (by omega) hI hS (fun i hi => absurd hi (by simp)) (by simp; omega) hg (rI_eq rfl) (by rw [rN_wI]; exact h36) (fun i hi => by rw [rI_ne (by omega)]; rfl) (fun i hi => by rw [rI_ne (by omega)]; exact hf i hi) (by rw [ha, nI_ti (by omega)]) (by simp) (by decide) (by rw [li_0]; omega) (by show _ < 20000; omega)
