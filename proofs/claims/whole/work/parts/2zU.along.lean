/-! a sum's worth lies within a word -/
def rng (v : Int64) : Prop := -2147483648 ≤ v.toInt ∧ v.toInt ≤ 2147483647
def EP (F : Nat → Int32) (P : List Ins) : Prop := ∃ r, ES F P r ∧ ∀ v, r = some v → rng v
theorem EP_n {F : Nat → Int32} {n : Nat} (h : n ≤ 1000) : EP F [(1, n)] := ⟨_, ES_n n, fun v e => by
  simp only [Option.some.injEq] at e
  subst e
  unfold rng
  rw [Int64.toInt_ofNat_of_lt (by omega)]; omega⟩
theorem EP_f {F : Nat → Int32} (i : Nat) : EP F [(2, i)] := ⟨_, ES_f i, fun v e => by
  simp only [Option.some.injEq] at e
  subst e
  unfold rng
  rw [Int32.toInt_toInt64]
  have a := Int32.le_toInt (F i)
  have b := Int32.toInt_lt (F i)
  omega⟩
theorem opn_r {o : Nat} {a b v : Int64} (h : opn o a b = some v) : rng v := by
  unfold opn at h
  by_cases c : (o = 10 ∨ o = 11) ∧ b = 0
  · rw [if_pos c] at h; exact absurd h (by simp)
  · rw [if_neg c] at h
    by_cases d : FARI < opr o a b ∨ opr o a b < -FARI
    · rw [if_pos d] at h; exact absurd h (by simp)
    · rw [if_neg d] at h
      simp only [Option.some.injEq] at h
      rw [h] at d
      rw [Int64.lt_iff_toInt_lt, Int64.lt_iff_toInt_lt, show (-FARI).toInt = -1000000000 by decide, show FARI.toInt = 1000000000 by decide] at d
      unfold rng
      omega
theorem EP_op {F : Nat → Int32} {P Q : List Ins} {o : Nat} (h1 : EP F P) (h2 : EP F Q) (ho : 7 ≤ o) : EP F (P ++ Q ++ [(o, 0)]) := by
  obtain ⟨r1, a1, -⟩ := h1
  obtain ⟨r2, a2, -⟩ := h2
  refine ⟨_, ES_op a1 a2 ho, fun v e => ?_⟩
  cases r1 with
  | none => exact absurd e (by simp [cb])
  | some a =>
    cases r2 with
    | none => exact absurd e (by simp [cb])
    | some b => exact opn_r e
theorem leaf_e {F : Nat → Int32} {σ : Nat → Nat} {o : Bool} {p q : Nat} {P : List Ins} {p' q' : Nat} (h : leaf σ o p q = .inl (P, p', q')) : EP F P := by
  unfold leaf at h
  by_cases c0 : 50 ≤ q
  · rw [if_pos c0] at h; exact absurd h (by simp)
  rw [if_neg c0] at h
  by_cases c1 : σ p ≤ 1000
  · rw [if_pos c1] at h
    simp only [Sum.inl.injEq, Prod.mk.injEq] at h
    rw [← h.1]; exact EP_n c1
  rw [if_neg c1] at h
  by_cases c2 : o = false
  · rw [if_pos c2] at h
    by_cases c3 : 3013 ≤ σ p ∧ σ p ≤ 3020
    · rw [if_pos c3] at h
      simp only [Sum.inl.injEq, Prod.mk.injEq] at h
      rw [← h.1]; exact EP_f _
    · rw [if_neg c3] at h; exact absurd h (by simp)
  rw [if_neg c2] at h
  by_cases c3 : σ p = 3025 ∨ σ p = 3026
  · rw [if_pos c3] at h
    by_cases c4 : σ (p + 1) ≤ 11
    · rw [if_pos c4] at h
      simp only [Sum.inl.injEq, Prod.mk.injEq] at h
      rw [← h.1]; exact EP_f _
    · rw [if_neg c4] at h; exact absurd h (by simp)
  · rw [if_neg c3] at h
    by_cases c4 : 3020 ≤ σ p ∧ σ p ≤ 3024
    · rw [if_pos c4] at h
      simp only [Sum.inl.injEq, Prod.mk.injEq] at h
      rw [← h.1]; exact EP_f _
    · rw [if_neg c4] at h; exact absurd h (by simp)
def okE (F : Nat → Int32) (f : Nat → Nat → PR) : Prop := ∀ p q P p' q', f p q = .inl (P, p', q') → EP F P
theorem lp_e {F : Nat → Int32} {σ : Nat → Nat} {op : Nat → Nat} (ho : opOK op) {sub : Nat → Nat → PR} (hs : okE F sub) : ∀ (n : Nat) {P : List Ins} {p q : Nat} {P' : List Ins} {p' q' : Nat}, EP F P → lp σ op sub n P p q = .inl (P', p', q') → EP F P' := by
  intro n
  induction n with
  | zero =>
    intro P p q P' p' q' h e
    have e : (Sum.inl (P, p, q) : PR) = .inl (P', p', q') := e
    simp only [Sum.inl.injEq, Prod.mk.injEq] at e
    rw [← e.1]; exact h
  | succ n ih =>
    intro P p q P' p' q' h e
    rw [lp_s] at e
    by_cases c : op (σ p) = 0
    · rw [if_pos c] at e
      simp only [Sum.inl.injEq, Prod.mk.injEq] at e
      rw [← e.1]; exact h
    · rw [if_neg c] at e
      have oo := (ho (σ p)).resolve_left c
      cases hr : sub (p + 1) q with
      | inr x => rw [hr, pb_r] at e; exact absurd e (by simp)
      | inl y =>
        obtain ⟨Q, p2, q2⟩ := y
        rw [hr, pb_l] at e
        exact ih (EP_op h (hs _ _ _ _ _ hr) oo.1) e
theorem pTerm_e {F : Nat → Int32} {σ : Nat → Nat} {part : Nat → Nat → PR} (hs : okE F part) : okE F (pTerm σ part) := by
  intro p q P p' q' h
  unfold pTerm at h
  cases hr : part p q with
  | inr x => rw [hr, pb_r] at h; exact absurd h (by simp)
  | inl y =>
    obtain ⟨P1, p1, q1⟩ := y
    rw [hr, pb_l] at h
    exact lp_e opT_ok hs _ (hs _ _ _ _ _ hr) h
theorem pSumW_e {F : Nat → Int32} {σ : Nat → Nat} {part : Nat → Nat → PR} (hs : okE F part) : okE F (pSumW σ part) := by
  intro p q P p' q' h
  unfold pSumW at h
  cases hr : pTerm σ part p q with
  | inr x => rw [hr, pb_r] at h; exact absurd h (by simp)
  | inl y =>
    obtain ⟨P1, p1, q1⟩ := y
    rw [hr, pb_l] at h
    exact lp_e opS_ok (pTerm_e hs) _ (pTerm_e hs _ _ _ _ _ hr) h
theorem pPart_e {F : Nat → Int32} {σ : Nat → Nat} {o : Bool} : ∀ (d : Nat), okE F (pPart σ o d) := by
  intro d
  induction d with
  | zero =>
    intro p q P p' q' h
    by_cases c : σ p = 2091
    · rw [show pPart σ o 0 p q = .inr p from if_pos c] at h; exact absurd h (by simp)
    · rw [pPart_leaf c] at h; exact leaf_e h
  | succ d ih =>
    intro p q P p' q' h
    by_cases c : σ p = 2091
    · rw [show pPart σ o (d + 1) p q = pb (pSumW σ (pPart σ o d) (p + 1) q) (fun P p' q' => if σ p' = 2093 then .inl (P, p' + 1, q') else .inr p') from if_pos c] at h
      cases hr : pSumW σ (pPart σ o d) (p + 1) q with
      | inr x => rw [hr, pb_r] at h; exact absurd h (by simp)
      | inl y =>
        obtain ⟨P1, p1, q1⟩ := y
        rw [hr, pb_l] at h
        by_cases c2 : σ p1 = 2093
        · rw [if_pos c2] at h
          simp only [Sum.inl.injEq, Prod.mk.injEq] at h
          rw [← h.1]; exact pSumW_e ih _ _ _ _ _ hr
        · rw [if_neg c2] at h; exact absurd h (by simp)
    · rw [pPart_leaf c] at h; exact leaf_e h
theorem pSum_e {F : Nat → Int32} {σ : Nat → Nat} {o : Bool} {d p q : Nat} {P : List Ins} {p' q' : Nat} (h : pSum σ o d p q = .inl (P, p', q')) : EP F P := pSumW_e (pPart_e d) _ _ _ _ _ h
theorem ES_u {F : Nat → Int32} {P : List Ins} {r r' : Option Int64} (h : ES F P r) (g : ES F P r') : r = r' := by
  have e := (h []).symm.trans (g [])
  cases r <;> cases r' <;> simp at e <;> first | rfl | rw [e]
theorem ES_r {F : Nat → Int32} {P : List Ins} {v : Int64} (h : EP F P) (e : ES F P (some v)) : rng v := by
  obtain ⟨r, h1, h2⟩ := h
  exact h2 v (ES_u h1 e)
/-! a clause is gone along -/
variable {σ : Nat → Nat} {T : Nat} {F : Nat → Int32}
/-- the tokens as they are laid -/
def TkL (σ : Nat → Nat) (T : Nat) (s : Sg) : Prop := ∀ k, k < T → rI s 43 0 (2465 + k) = nI (mc (σ k)) ∧ (σ k ≤ 1000 → rI s 43 0 (5265 + k) = nI (σ k))
def FF (s : Sg) : Nat → Int32 := fun i => if i = 0 then rI s 43 0 14 else if i = 1 then rI s 10 0 29 else if i = 2 then rI s 10 0 30 else if i = 3 then rI s 10 0 31 else if i = 4 then rI s 10 0 32
  else if i < 17 then (if ((i - 5 : Nat) : Int) < (rI s 43 0 54).toInt then rI s 43 0 (2 + (i - 5)) else -1) else (if ((i - 17 : Nat) : Int) < (rI s 43 0 54).toInt then endV s (i - 17) else -1)
theorem FF_o (s : Sg) : FO s (FF s) := by
  refine ⟨⟨rfl, rfl, rfl, rfl, rfl⟩, fun w hw => ⟨?_, ?_⟩⟩
  · unfold FF
    rw [if_neg (by omega), if_neg (by omega), if_neg (by omega), if_neg (by omega), if_neg (by omega), if_pos (by omega), show 5 + w - 5 = w by omega]
  · unfold FF
    rw [if_neg (by omega), if_neg (by omega), if_neg (by omega), if_neg (by omega), if_neg (by omega), if_neg (by omega), show 17 + w - 17 = w by omega]
def GO (s s' : Sg) : Prop := (∀ k i c, ¬ (k = 10 ∧ (c = 25 ∨ c = 27 ∨ (60 ≤ c ∧ c ≤ 63))) → rI s' k i c = rI s k i c)
theorem GO.rf {s : Sg} : GO s s := fun _ _ _ _ => rfl
theorem GO.tr {a b c : Sg} (h : GO a b) (g : GO b c) : GO a c := fun k i x n => (g k i x n).trans (h k i x n)
theorem GO.w {a b : Sg} {c : Nat} {v : Int32} (h : GO a b) (hc : c = 25 ∨ c = 27 ∨ (60 ≤ c ∧ c ≤ 63)) : GO a (wI b 10 0 c v) := fun k i x n => by rw [rI_ne (by omega)]; exact h k i x n
theorem GO.l {a b : Sg} {c : Nat} {v : Int64} (h : GO a b) : GO a (wL b 72 0 c v) := fun k i x n => by rw [rI_wL]; exact h k i x n
theorem GO_S {s s' : Sg} (h : SVe s s') : GO s s' := fun k i c n => h.1 k i c (by omega)
/-- what is needed to go on -/
def IG (σ : Nat → Nat) (T : Nat) (F : Nat → Int32) (s : Sg) : Prop := TkL σ T s ∧ rI s 10 0 26 = nI (2400 + T) ∧ FO s F ∧ (0 ≤ (rI s 43 0 54).toInt ∧ (rI s 43 0 54).toInt ≤ 12)
theorem IG_c {s s' : Sg} (h : IG σ T F s) (g : GO s s') : IG σ T F s' := by
  obtain ⟨h1, h2, ⟨⟨f1, f2, f3, f4, f5⟩, f6⟩, h6⟩ := h
  have q : ∀ c, rI s' 43 0 c = rI s 43 0 c := fun c => g _ _ _ (by omega)
  have ev : ∀ w, endV s' w = endV s w := fun w => by unfold endV; rw [q, q, q]
  refine ⟨fun k hk => ?_, by rw [g _ _ _ (by omega)]; exact h2, ⟨⟨by rw [q]; exact f1, by rw [g _ _ _ (by omega)]; exact f2, by rw [g _ _ _ (by omega)]; exact f3, by rw [g _ _ _ (by omega)]; exact f4, by rw [g _ _ _ (by omega)]; exact f5⟩, fun w hw => ?_⟩, by rw [q]; exact h6⟩
  · rw [q, q]; exact h1 k hk
  · rw [q, q, ev]; exact f6 w hw
theorem IG_M {s : Sg} {p : Nat} (h : IG σ T F s) (e : rI s 10 0 25 = nI (2400 + p)) (b : isB (rI s 10 0 27)) : IM σ T F s p := ⟨h.1, h.2.1, e, b, h.2.2.1, h.2.2.2⟩
/-- the end: the test -/
def tstR (U : Option (List Ins)) (F : Nat → Int32) (b : Bool) : Prop := match U with | none => b = true | some U => ∃ r, EB F U r ∧ b = r.getD false
theorem ga_test (hT : σ T = 4000) (T4 : T ≤ 400) {s : Sg} {p q : Nat} {y : Clz × Nat × Nat} {v : Nat} {A B : List Ins} {t : Nat} (h : IG σ T F s) (h25 : rI s 10 0 25 = nI (2400 + p)) (hp : p ≤ T) (hq : q ≤ 50) {live : Int32} (hl : isB live) (hr : pTail σ true (hd v A B t p q) = .inl y) : y.1.1 = v ∧ y.1.2.1 = A ∧ y.1.2.2.1 = B ∧ y.1.2.2.2.1 = t ∧ ok (m_goesAlong_b212 s live) (fun s' => GO s s' ∧ rI s' 10 0 25 = nI (2400 + (y.2.1 + 1)) ∧ rI s' 10 0 60 = rI s 10 0 60 ∧ rI s' 10 0 61 = rI s 10 0 61 ∧ rI s' 10 0 62 = rI s 10 0 62 ∧ s'.2.1 = s.2.1 ∧ (live = 1 → ∃ b, tstR y.1.2.2.2.2 F b ∧ rI s' 10 0 63 = oI b)) := by
  unfold m_goesAlong_b212 m_goesAlong_b212_G
  simp only [gdB0]
  have g1 : GO s (wI s 10 0 27 0) := GO.rf.w (.inr (.inl rfl))
  have im : IM σ T F (wI s 10 0 27 0) p := IG_M (IG_c h g1) (by rw [rI_ne (by omega)]; exact h25) (by rw [rI_eq rfl]; exact .inl rfl)
  -- the very end
  have fin : ∀ (s1 : Sg) (u : Int32) (p' : Nat), isB u → GO s s1 → rI s1 10 0 25 = nI (2400 + p') → p' ≤ T → rI s1 10 0 60 = rI s 10 0 60 → rI s1 10 0 61 = rI s 10 0 61 → rI s1 10 0 62 = rI s 10 0 62 → s1.2.1 = s.2.1 → isB (rI s1 10 0 27) → ok (m_goesAlong_b239 s1 u) (fun s' => GO s s' ∧ rI s' 10 0 25 = nI (2400 + (p' + 1)) ∧ rI s' 10 0 60 = rI s 10 0 60 ∧ rI s' 10 0 61 = rI s 10 0 61 ∧ rI s' 10 0 62 = rI s 10 0 62 ∧ s'.2.1 = s.2.1 ∧ rI s' 10 0 63 = (if u = 1 ∧ rI s1 10 0 27 = 0 then 1 else 0)) := by
    intro s1 u p' hu g e25 pT' e60 e61 e62 eL b27
    unfold m_goesAlong_b239 m_goesAlong_b239_G
    rw [gd_t hu]
    have done : ∀ x : Int32, (x = if u = 1 ∧ rI s1 10 0 27 = 0 then 1 else 0) → ok (some (wI (wI (wI s1 10 0 63 u) 10 0 63 x) 10 0 25 (rI (wI (wI s1 10 0 63 u) 10 0 63 x) 10 0 25 + 1))) (fun s' => GO s s' ∧ rI s' 10 0 25 = nI (2400 + (p' + 1)) ∧ rI s' 10 0 60 = rI s 10 0 60 ∧ rI s' 10 0 61 = rI s 10 0 61 ∧ rI s' 10 0 62 = rI s 10 0 62 ∧ s'.2.1 = s.2.1 ∧ rI s' 10 0 63 = (if u = 1 ∧ rI s1 10 0 27 = 0 then 1 else 0)) := by
      intro x hx
      refine ok_some ⟨((g.w (.inr (.inr (by omega)))).w (.inr (.inr (by omega)))).w (.inl rfl), ?_, ?_, ?_, ?_, eL, ?_⟩
      · rw [rI_eq rfl, rI_ne (by omega), rI_ne (by omega), e25, nI_s (by omega)]; rfl
      · rw [rI_ne (by omega), rI_ne (by omega), rI_ne (by omega)]; exact e60
      · rw [rI_ne (by omega), rI_ne (by omega), rI_ne (by omega)]; exact e61
      · rw [rI_ne (by omega), rI_ne (by omega), rI_ne (by omega)]; exact e62
      · rw [rI_ne (by omega), rI_eq rfl]; exact hx
    simp only [gdB0, gdB1]
    rw [rI_eq rfl, rI_ne (by omega)]
    refine ok_gif (fun c => done 0 (by rw [if_neg (fun x => by rw [x.1] at c; exact absurd c (by decide))])) (fun c => ok_gif (fun d => done 1 (by rw [if_pos ⟨hu.resolve_left c, d⟩])) (fun d => done 0 (by rw [if_neg (fun x => d x.2)])))
  unfold pTail hd at hr
  simp only at hr
  by_cases c : σ p = 3009
  · rw [if_pos c] at hr
    have hp1 := pT hT hp (by omega)
    have gs := pTest_g (o := true) hT 8 hp1 hq
    cases hr2 : pTest σ true 8 (p + 1) q with
    | inr e => rw [hr2, pb_r] at hr; exact absurd hr (by simp)
    | inl z =>
      obtain ⟨U, p2, q2⟩ := z
      rw [hr2, pb_l] at hr
      rw [hr2] at gs
      have g3 := (GR_l.mp gs).2.2.1
      simp only [Sum.inl.injEq] at hr
      subst hr
      refine ⟨rfl, rfl, rfl, rfl, ?_⟩
      rw [e_pass_y hT T4 im hp (m := 4) li_4 ((mc_w (by omega)).mpr (by omega))]
      simp only [Option.bind_some]
      rw [gif_f (by decide)]
      obtain ⟨r, hE, ⟨s3, w⟩, e3, S3⟩ := e_test (F := F) hT T4 DR 8 (by omega) (by show _ ≤ 10; omega) (gadv (wI s 10 0 27 0)) (p + 1) q U p2 q2 live (IM_adv im (by omega)) hp1 hq hr2 hl
      simp only at S3
      rw [e3]
      simp only [Option.bind_some]
      have sv : SVe (wI s 10 0 27 0) s3 := gadv_S.tr S3.1
      have b3 : isB (rI s3 10 0 27) := TS_B S3 (by rw [gadv_27, rI_eq rfl]; exact .inl rfl)
      have eq : ∀ c', c' = 60 ∨ c' = 61 ∨ c' = 62 → rI s3 10 0 c' = rI s 10 0 c' := fun c' hc => by rw [sv.1 _ _ _ (by omega), rI_ne (by omega)]
      have eL : s3.2.1 = s.2.1 := by rw [sv.2]; rfl
      have go : ∀ u : Int32, isB u → (u = 1 ↔ w = 1) → ok (m_goesAlong_b239 s3 u) (fun s' => GO s s' ∧ rI s' 10 0 25 = nI (2400 + (p2 + 1)) ∧ rI s' 10 0 60 = rI s 10 0 60 ∧ rI s' 10 0 61 = rI s 10 0 61 ∧ rI s' 10 0 62 = rI s 10 0 62 ∧ s'.2.1 = s.2.1 ∧ (live = 1 → ∃ b, tstR (some U) F b ∧ rI s' 10 0 63 = oI b)) := by
        intro u hu hw
        refine ok_mono (fin s3 u p2 hu (g1.tr (GO_S sv)) S3.2.1 g3 (eq _ (.inl rfl)) (eq _ (.inr (.inl rfl))) (eq _ (.inr (.inr rfl))) eL b3) (fun s' h' => ⟨h'.1, h'.2.1, h'.2.2.1, h'.2.2.2.1, h'.2.2.2.2.1, h'.2.2.2.2.2.1, fun l1 => ?_⟩)
        have al : alv (gadv (wI s 10 0 27 0)) live := ⟨l1, by rw [gadv_27, rI_eq rfl]⟩
        have q1 := S3.2.2.2.1 al
        refine ⟨r.getD false, ⟨r, hE, rfl⟩, ?_⟩
        rw [h'.2.2.2.2.2.2]
        cases r with
        | none => rw [if_neg (fun x => by rw [q1] at x; exact absurd x.2 (by decide))]; rfl
        | some x =>
          obtain ⟨z1, z2⟩ := q1
          cases x with
          | true => rw [if_pos ⟨hw.mpr z2, z1⟩]; rfl
          | false => rw [if_neg (fun x => by have := hw.mp x.1; rw [z2] at this; exact absurd this (by decide))]; rfl
      refine ok_gif (fun w0 => go 0 (.inl rfl) ⟨fun x => absurd x (by decide), fun x => by rw [w0] at x; exact absurd x (by decide)⟩) (fun w0 => go 1 (.inr rfl) ⟨fun _ => S3.2.2.1.resolve_left w0, fun _ => rfl⟩)
  · rw [if_neg c] at hr
    simp only [Sum.inl.injEq] at hr
    subst hr
    refine ⟨rfl, rfl, rfl, rfl, ?_⟩
    rw [e_pass_n hT T4 im hp (m := 4) li_4 (fun x => c (by have := (mc_w (by omega)).mp x; omega))]
    simp only [Option.bind_some]
    rw [gif_t trivial]
    refine ok_mono (fin (wI s 10 0 27 0) 1 p (.inr rfl) g1 (by rw [rI_ne (by omega)]; exact h25) hp (rI_ne (by omega)) (rI_ne (by omega)) (rI_ne (by omega)) rfl (by rw [rI_eq rfl]; exact .inl rfl)) (fun s' h' => ⟨h'.1, h'.2.1, h'.2.2.1, h'.2.2.2.1, h'.2.2.2.2.1, h'.2.2.2.2.2.1, fun _ => ⟨true, rfl, ?_⟩⟩)
    rw [h'.2.2.2.2.2.2, rI_eq rfl, if_pos ⟨rfl, rfl⟩]; rfl
