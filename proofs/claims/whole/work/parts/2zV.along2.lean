variable {σ : Nat → Nat} {T : Nat} {F : Nat → Int32}
/-- how often, then the test -/
theorem ga_times (hT : σ T = 4000) (T4 : T ≤ 400) {s : Sg} {p q : Nat} {y : Clz × Nat × Nat} {v : Nat} {A B : List Ins} {n : Nat} {l3 l4 : Int32} (hll : ¬ l4 < l3) (h : IG σ T F s) (h25 : rI s 10 0 25 = nI (2400 + p)) (hp : p ≤ T) (hq : q ≤ 50) {live : Int32} (hl : isB live) (hr : pTail σ true (pTimes σ v A B p q) = .inl y) : y.1.1 = v ∧ y.1.2.1 = A ∧ y.1.2.2.1 = B ∧ ok (m_goesAlong_b104 (n + 1) s live l3 l4) (fun s' => GO s s' ∧ rI s' 10 0 25 = nI (2400 + (y.2.1 + 1)) ∧ rI s' 10 0 60 = nI y.1.2.2.2.1 ∧ rI s' 10 0 61 = rI s 10 0 61 ∧ rI s' 10 0 62 = rI s 10 0 62 ∧ s'.2.1 = s.2.1 ∧ (live = 1 → ∃ b, tstR y.1.2.2.2.2 F b ∧ rI s' 10 0 63 = oI b)) := by
  have tail : ∀ (s1 : Sg) (p1 t : Nat), GO s s1 → rI s1 10 0 25 = nI (2400 + p1) → p1 ≤ T → rI s1 10 0 60 = nI t → rI s1 10 0 61 = rI s 10 0 61 → rI s1 10 0 62 = rI s 10 0 62 → s1.2.1 = s.2.1 → pTail σ true (hd v A B t p1 q) = .inl y → y.1.1 = v ∧ y.1.2.1 = A ∧ y.1.2.2.1 = B ∧ ok (m_goesAlong_b212 s1 live) (fun s' => GO s s' ∧ rI s' 10 0 25 = nI (2400 + (y.2.1 + 1)) ∧ rI s' 10 0 60 = nI y.1.2.2.2.1 ∧ rI s' 10 0 61 = rI s 10 0 61 ∧ rI s' 10 0 62 = rI s 10 0 62 ∧ s'.2.1 = s.2.1 ∧ (live = 1 → ∃ b, tstR y.1.2.2.2.2 F b ∧ rI s' 10 0 63 = oI b)) := by
    intro s1 p1 t g e25 hp1 e60 e61 e62 eL hr1
    obtain ⟨a1, a2, a3, a4, a5⟩ := ga_test hT T4 (IG_c h g) e25 hp1 hq hl hr1
    exact ⟨a1, a2, a3, ok_mono a5 (fun s' h' => ⟨g.tr h'.1, h'.2.1, by rw [h'.2.2.1, e60, a4], by rw [h'.2.2.2.1, e61], by rw [h'.2.2.2.2.1, e62], by rw [h'.2.2.2.2.2.1, eL], h'.2.2.2.2.2.2⟩)⟩
  have g60 : GO s (wI s 10 0 60 1) := GO.rf.w (.inr (.inr (by omega)))
  have key : y.1.1 = v ∧ y.1.2.1 = A ∧ y.1.2.2.1 = B ∧ ok (m_goesAlong_b104_G (m_goesAlong_b125 (m_goesAlong_b104 n)) m_goesAlong_b212 m_passes0 s live l3 l4) (fun s' => GO s s' ∧ rI s' 10 0 25 = nI (2400 + (y.2.1 + 1)) ∧ rI s' 10 0 60 = nI y.1.2.2.2.1 ∧ rI s' 10 0 61 = rI s 10 0 61 ∧ rI s' 10 0 62 = rI s 10 0 62 ∧ s'.2.1 = s.2.1 ∧ (live = 1 → ∃ b, tstR y.1.2.2.2.2 F b ∧ rI s' 10 0 63 = oI b)) := by
    unfold m_goesAlong_b104_G
    rw [gif_f hll]
    simp only []
    have q25 : rI (wI s 10 0 60 1) 10 0 25 = nI (2400 + p) := by rw [rI_ne (by omega)]; exact h25
    -- the flag of what broke may be anything here
    have code : m_codeAt (wI s 10 0 60 1) (rI (wI s 10 0 60 1) 10 0 25) = some (wI s 10 0 60 1, nI (mc (σ p))) := by
      have r26 : rI (wI s 10 0 60 1) 10 0 26 = nI (2400 + T) := by rw [rI_ne (by omega)]; exact h.2.1
      unfold m_codeAt m_codeAt_G
      rw [r26, q25]
      by_cases c : p < T
      · rw [gif_t (by rw [ti_lt, nI_ti (by omega), nI_ti (by omega)]; omega), add65 (by omega), gd_t (inb_nI (by omega) (by omega)), ix_nI (by omega), show 65 + (2400 + p) = 2465 + p by omega, rI_ne (by omega), (h.1 p c).1]
      · have : p = T := by omega
        rw [gif_f (by rw [ti_lt, nI_ti (by omega), nI_ti (by omega)]; omega), this, hT]; rfl
    have mle := mc_le (σ p)
    have pass : ∀ (w : Int32) (m : Nat), w.toInt = m → m_passes0 (wI s 10 0 60 1) w = if mc (σ p) = m then some (gadv (wI s 10 0 60 1), 1) else some (wI s 10 0 60 1, 0) := by
      intro w m hw
      unfold m_passes0 m_passes0_G
      rw [code]
      simp only [Option.bind_some, gdB0, gdB1]
      by_cases c : mc (σ p) = m
      · rw [if_pos c, gif_t ((mq (by omega) hw).mpr c), gif_f (by decide)]; rfl
      · rw [if_neg c, gif_f (fun x => c ((mq (by omega) hw).mp x)), gif_t trivial]
    rw [pass 27 27 li_27]
    unfold pTimes at hr
    by_cases c : σ p = 3008
    · rw [if_pos c] at hr
      have hp1 := pT hT hp (by omega)
      by_cases c2 : 1 ≤ σ (p + 1) ∧ σ (p + 1) ≤ 20
      · rw [if_pos c2] at hr
        have hp2 := pT hT hp1 (by omega)
        rw [if_pos (mc_27.mpr c)]
        simp only [Option.bind_some]
        rw [gif_f (by decide)]
        have a25 : rI (gadv (wI s 10 0 60 1)) 10 0 25 = nI (2400 + (p + 1)) := gadv_25 q25 (by omega)
        rw [a25, add28 (by omega), gd_t (inb_nI (by omega) (by omega)), ix_nI (by omega)]
        have v60 : rI (gadv (wI s 10 0 60 1)) 43 0 (2865 + (2400 + (p + 1))) = nI (σ (p + 1)) := by
          rw [gadv_S.1 _ _ _ (by omega), rI_ne (by omega), show 2865 + (2400 + (p + 1)) = 5265 + (p + 1) by omega]
          exact (h.1 (p + 1) (by omega)).2 (by omega)
        rw [v60]
        show _ ∧ _ ∧ _ ∧ ok (m_goesAlong_b212 (gadv (wI (gadv (wI s 10 0 60 1)) 10 0 60 (nI (σ (p + 1))))) live) _
        refine tail (gadv (wI (gadv (wI s 10 0 60 1)) 10 0 60 (nI (σ (p + 1))))) (p + 2) (σ (p + 1)) (((g60.tr (GO_S gadv_S)).w (.inr (.inr (by omega)))).tr (GO_S gadv_S)) (gadv_25 (by rw [rI_ne (by omega)]; exact a25) (by omega)) hp2 ?_ ?_ ?_ rfl hr
        · rw [gadv_S.1 _ _ _ (by omega), rI_eq rfl]
        · rw [gadv_S.1 _ _ _ (by omega), rI_ne (by omega), gadv_S.1 _ _ _ (by omega), rI_ne (by omega)]
        · rw [gadv_S.1 _ _ _ (by omega), rI_ne (by omega), gadv_S.1 _ _ _ (by omega), rI_ne (by omega)]
      · rw [if_neg c2] at hr; exact absurd hr (by simp [pTail])
    · rw [if_neg c] at hr
      rw [if_neg (fun x => c (mc_27.mp x))]
      simp only [Option.bind_some]
      rw [gif_t trivial]
      exact tail (wI s 10 0 60 1) p 1 g60 q25 hp (by rw [rI_eq rfl]; rfl) (rI_ne (by omega)) (rI_ne (by omega)) rfl hr
  exact key
/-- a sum of a clause -/
theorem ga_sum (hT : σ T = 4000) (T4 : T ≤ 400) {s : Sg} {p q : Nat} {P : List Ins} {p' q' : Nat} (h : IG σ T F s) (h25 : rI s 10 0 25 = nI (2400 + p)) (hp : p ≤ T) (hq : q ≤ 50) {live : Int32} (hl : isB live) (hr : pSum σ true 8 p q = .inl (P, p', q')) {i : Nat} (hi : i < 2) (b62 : isB (rI s 10 0 62)) {l3 : Int32} {K : Sg → Int32 → Int32 → Int32 → Option Sg} {Q : Sg → Prop} :
    ∃ r, ES F P r ∧ ((∀ s', GO s s' → rI s' 10 0 25 = nI (2400 + p') → rI s' 10 0 61 = rI s 10 0 61 → isB (rI s' 10 0 62) → (live = 1 → rI s' 10 0 62 = (if r = none then 0 else rI s 10 0 62) ∧ ∀ v, r = some v → rL s' 72 0 i = v) → (∀ k j c, ¬ (k = 72 ∧ j = 0 ∧ c = i) → rL s' k j c = rL s k j c) → ok (K s' live l3 (nI i + 1)) Q) → ok (m_goesAlong_b125 K s live l3 (nI i)) Q) := by
  have g1 : GO s (wI s 10 0 27 0) := GO.rf.w (.inr (.inl rfl))
  have im : IM σ T F (wI s 10 0 27 0) p := IG_M (IG_c h g1) (by rw [rI_ne (by omega)]; exact h25) (by rw [rI_eq rfl]; exact .inl rfl)
  obtain ⟨r, hE, ⟨y, v⟩, ey, S⟩ := e_sum (F := F) hT T4 DR 8 (by show _ ≤ 10; omega) (wI s 10 0 27 0) p q P p' q' live im hp hq hr hl
  simp only at S
  refine ⟨r, hE, fun hK => ?_⟩
  unfold m_goesAlong_b125 m_goesAlong_b125_G
  simp only [gdB0, gdB1]
  rw [ey]
  simp only [Option.bind_some]
  rw [gd_t (inb_nI (by omega) hi), ix_nI (by omega)]
  have e62 : rI (wL y 72 0 i v) 10 0 62 = rI s 10 0 62 := by rw [rI_wL, S.1.1 _ _ _ (by omega), rI_ne (by omega)]
  have e27 : rI (wL y 72 0 i v) 10 0 27 = rI y 10 0 27 := by rw [rI_wL]
  rw [e62, e27]
  have go : ∀ x : Int32, isB x → (live = 1 → x = if r = none then 0 else rI s 10 0 62) → ok (K (wI (wL y 72 0 i v) 10 0 62 x) live l3 (nI i + 1)) Q := by
    intro x hx hxv
    refine hK _ (((g1.tr (GO_S S.1)).l).w (.inr (.inr (by omega)))) ?_ ?_ (by rw [rI_eq rfl]; exact hx) (fun l1 => ⟨by rw [rI_eq rfl]; exact hxv l1, fun u hu => ?_⟩) (fun k j c hn => ?_)
    · rw [rI_ne (by omega), rI_wL]; exact S.2.1
    · rw [rI_ne (by omega), rI_wL, S.1.1 _ _ _ (by omega), rI_ne (by omega)]
    · have al : alv (wI s 10 0 27 0) live := ⟨l1, rI_eq rfl⟩
      have q1 := S.2.2.1 al
      subst hu
      rw [rL_wI, rL_eq rfl]; exact q1.2
    · rw [rL_wI, rL_ne (by omega)]
      have : y.2.1 = s.2.1 := by rw [S.1.2]; rfl
      show y.2.1 k j c = s.2.1 k j c
      rw [this]
  have alv' : live = 1 → (rI y 10 0 27 = 0 ↔ r ≠ none) := by
    intro l1
    have al : alv (wI s 10 0 27 0) live := ⟨l1, rI_eq rfl⟩
    have q1 := S.2.2.1 al
    cases r with
    | none => exact ⟨fun x => by rw [q1.1] at x; exact absurd x (by decide), fun x => absurd rfl x⟩
    | some u => exact ⟨fun _ => by simp, fun _ => q1.1⟩
  refine ok_gif (fun c => go 0 (.inl rfl) (fun l1 => ?_)) (fun c => ok_gif (fun d => go 1 (.inr rfl) (fun l1 => ?_)) (fun d => go 0 (.inl rfl) (fun l1 => ?_)))
  · by_cases e : r = none
    · rw [if_pos e]
    · rw [if_neg e]; exact c.symm
  · rw [if_neg ((alv' l1).mp d)]; exact (b62.resolve_left c).symm
  · have : r = none := Classical.byContradiction (fun n => d ((alv' l1).mpr n))
    rw [if_pos this]
def sumsR (v : Nat) (A B : List Ins) (F : Nat → Int32) (s : Sg) : Prop :=
  (v = 3 → rI s 10 0 62 = 1) ∧ (v = 0 ∨ v = 1 → ∃ rA, ES F A rA ∧ EP F A ∧ rI s 10 0 62 = (if rA = none then 0 else 1) ∧ ∀ x, rA = some x → rL s 72 0 0 = x) ∧
  (v = 2 → ∃ rA rB, ES F A rA ∧ EP F A ∧ ES F B rB ∧ EP F B ∧ rI s 10 0 62 = (if rA = none ∨ rB = none then 0 else 1) ∧ (∀ x, rA = some x → rL s 72 0 0 = x) ∧ ∀ x, rB = some x → rL s 72 0 1 = x)
def GAr (σ : Nat → Nat) (F : Nat → Int32) (p : Nat) (y : Clz × Nat × Nat) (live : Int32) (s' : Sg) : Prop :=
  rI s' 10 0 25 = nI (2400 + (y.2.1 + 1)) ∧ rI s' 10 0 60 = nI y.1.2.2.2.1 ∧ rI s' 10 0 61 = nI (mc (σ p)) ∧ (live = 1 → (∃ b, tstR y.1.2.2.2.2 F b ∧ rI s' 10 0 63 = oI b) ∧ sumsR y.1.1 y.1.2.1 y.1.2.2.1 F s')
theorem ga_clause (hT : σ T = 4000) (T4 : T ≤ 400) {s7 : Sg} {p q : Nat} {y : Clz × Nat × Nat} (h : IG σ T F s7) (h25 : rI s7 10 0 25 = nI (2400 + (p + 1))) (hp : p ≤ T) (hq : q ≤ 50) {live : Int32} (hl : isB live) (h62 : rI s7 10 0 62 = 1) (h61 : rI s7 10 0 61 = nI (mc (σ p))) (hr : pOne σ true p q = .inl y) :
    ok (gif (rI s7 10 0 61 = 26) (m_goesAlong_b104 FU s7 live 0 0) (gif (rI s7 10 0 61 = 24) (m_goesAlong_b104 FU s7 live 2 0) (m_goesAlong_b104 FU s7 live 1 0))) (fun s' => GO s7 s' ∧ GAr σ F p y live s') := by
  have mle := mc_le (σ p)
  rw [h61]
  have F3 : FU = 19997 + 1 + 1 + 1 := rfl
  unfold pOne pOrderH at hr
  rw [if_pos rfl] at hr
  by_cases c : 3003 ≤ σ p ∧ σ p ≤ 3006
  · rw [if_pos c] at hr
    have hp1 := pT hT hp (by omega)
    by_cases c6 : σ p = 3006
    · rw [if_pos c6] at hr
      rw [gif_t ((mq (m := 26) (by omega) li_26).mpr (mc_26.mpr c6)), F3]
      obtain ⟨a1, a2, a3, a4⟩ := ga_times hT T4 (l3 := 0) (l4 := 0) (n := 19997 + 1 + 1) (by decide) h h25 hp1 hq hl hr
      refine ok_mono a4 (fun s' h' => ⟨h'.1, h'.2.1, h'.2.2.1, by rw [h'.2.2.2.1, h61], fun l1 => ⟨h'.2.2.2.2.2.2 l1, ?_⟩⟩)
      rw [a1]
      exact ⟨fun _ => by rw [h'.2.2.2.2.1, h62], fun x => by omega, fun x => by omega⟩
    · rw [if_neg c6] at hr
      rw [gif_f (fun x => c6 (mc_26.mp ((mq (m := 26) (by omega) li_26).mp x)))]
      have gs := pSum_g (o := true) hT 8 hp1 hq
      cases hr1 : pSum σ true 8 (p + 1) q with
      | inr e => rw [hr1, pb_r] at hr; exact absurd hr (by simp [pTail])
      | inl z =>
        obtain ⟨A, p1, q1⟩ := z
        rw [hr1, pb_l] at hr
        rw [hr1] at gs
        obtain ⟨g1, g2, g3, g4, g5, g6⟩ := GR_l.mp gs
        -- the first sum, then what is behind it
        have first : ∀ (l3 : Int32), (0 : Int32) < l3 → ∀ Q : Sg → Prop, (∃ r, ES F A r ∧ ((∀ s', GO s7 s' → rI s' 10 0 25 = nI (2400 + p1) → rI s' 10 0 61 = rI s7 10 0 61 → isB (rI s' 10 0 62) → (live = 1 → rI s' 10 0 62 = (if r = none then 0 else 1) ∧ ∀ v, r = some v → rL s' 72 0 0 = v) → ok (m_goesAlong_b104 (19997 + 1 + 1) s' live l3 1) Q) → ok (m_goesAlong_b104 (19997 + 1 + 1 + 1) s7 live l3 0) Q)) := by
          intro l3 h3 Q
          obtain ⟨r, hE, hK⟩ := ga_sum (F := F) hT T4 h h25 hp1 hq hl hr1 (i := 0) (by omega) (by rw [h62]; exact .inr rfl) (l3 := l3) (K := m_goesAlong_b104 (19997 + 1 + 1)) (Q := Q)
          refine ⟨r, hE, fun hN => ?_⟩
          show ok (m_goesAlong_b104_G (m_goesAlong_b125 (m_goesAlong_b104 (19997 + 1 + 1))) m_goesAlong_b212 m_passes0 s7 live l3 0) Q
          unfold m_goesAlong_b104_G
          rw [gif_t h3, gif_f (by decide)]
          refine hK (fun s' k1 k2 k3 k4 k5 k6 => ?_)
          rw [h62] at k5
          exact hN s' k1 k2 k3 k4 k5
        by_cases c5 : σ p = 3005
        · rw [if_pos c5] at hr
          rw [gif_t ((mq (m := 24) (by omega) li_24).mpr ((mc_o (by omega)).mpr (by omega))), F3]
          by_cases c7 : σ p1 = 3007
          · rw [if_pos c7] at hr
            have hp2 := pT hT g3 (by omega)
            have gs2 := pSum_g (o := true) hT 8 hp2 g5
            cases hr2 : pSum σ true 8 (p1 + 1) q1 with
            | inr e => rw [hr2, pb_r] at hr; exact absurd hr (by simp [pTail])
            | inl z =>
              obtain ⟨B, p2, q2⟩ := z
              rw [hr2, pb_l] at hr
              rw [hr2] at gs2
              obtain ⟨f1, f2, f3, f4, f5, f6⟩ := GR_l.mp gs2
              obtain ⟨rA, hA, nA⟩ := first 2 (by decide) (fun s' => GO s7 s' ∧ GAr σ F p y live s')
              refine nA (fun s1 k1 k2 k3 k4 k5 => ?_)
              show ok (m_goesAlong_b104_G (m_goesAlong_b125 (m_goesAlong_b104 (19997 + 1))) m_goesAlong_b212 m_passes0 s1 live 2 1) _
              unfold m_goesAlong_b104_G
              rw [gif_t (by decide), gif_t (by decide)]
              simp only []
              have k25 : rI (gadv s1) 10 0 25 = nI (2400 + (p1 + 1)) := gadv_25 k2 (by omega)
              have a62 : rI (gadv s1) 10 0 62 = rI s1 10 0 62 := gadv_S.1 _ _ _ (by omega)
              have a61 : rI (gadv s1) 10 0 61 = rI s1 10 0 61 := gadv_S.1 _ _ _ (by omega)
              have gg : GO s7 (gadv s1) := k1.tr (GO_S gadv_S)
              obtain ⟨rB, hB, nB⟩ := ga_sum (F := F) hT T4 (IG_c h gg) k25 hp2 g5 hl hr2 (i := 1) (by omega) (by rw [a62]; exact k4) (l3 := 2) (K := m_goesAlong_b104 (19997 + 1)) (Q := fun s' => GO s7 s' ∧ GAr σ F p y live s')
              show ok (m_goesAlong_b125 (m_goesAlong_b104 (19997 + 1)) (gadv s1) live 2 (nI 1)) _
              refine nB (fun s2 j1 j2 j3 j4 j5 j6 => ?_)
              obtain ⟨a1, a2, a3, a4⟩ := ga_times hT T4 (l3 := 2) (l4 := nI 1 + 1) (n := 19997) (by decide) (IG_c h (gg.tr j1)) j2 f3 f5 hl hr
              refine ok_mono a4 (fun s' h' => ⟨(gg.tr j1).tr h'.1, h'.2.1, h'.2.2.1, by rw [h'.2.2.2.1, j3, a61, k3, h61], fun l1 => ⟨h'.2.2.2.2.2.2 l1, ?_⟩⟩)
              rw [a1, a2, a3]
              obtain ⟨u1, u2⟩ := k5 l1
              obtain ⟨w1, w2⟩ := j5 l1
              have eL : ∀ c, rL s' 72 0 c = rL s2 72 0 c := fun c => by show s'.2.1 72 0 c = s2.2.1 72 0 c; rw [h'.2.2.2.2.2.1]
              refine ⟨fun x => by omega, fun x => by omega, fun _ => ⟨rA, rB, hA, pSum_e hr1, hB, pSum_e hr2, ?_, fun x hx => ?_, fun x hx => by rw [eL]; exact w2 x hx⟩⟩
              · rw [h'.2.2.2.2.1, w1, a62, u1]
                by_cases e1 : rB = none
                · rw [if_pos e1, if_pos (.inr e1)]
                · rw [if_neg e1]
                  by_cases e2 : rA = none
                  · rw [if_pos e2, if_pos (.inl e2)]
                  · rw [if_neg e2, if_neg (fun x => x.elim e2 e1)]
              · rw [eL, j6 72 0 0 (by omega)]
                exact u2 x hx
          · rw [if_neg c7] at hr; exact absurd hr (by simp [pTail])
        · rw [if_neg c5] at hr
          rw [gif_f (fun x => c5 (by have := (mc_o (by omega)).mp ((mq (m := 24) (by omega) li_24).mp x); omega)), F3]
          obtain ⟨rA, hA, nA⟩ := first 1 (by decide) (fun s' => GO s7 s' ∧ GAr σ F p y live s')
          refine nA (fun s1 k1 k2 k3 k4 k5 => ?_)
          obtain ⟨a1, a2, a3, a4⟩ := ga_times hT T4 (l3 := 1) (l4 := 1) (n := 19997 + 1) (by decide) (IG_c h k1) k2 g3 g5 hl hr
          refine ok_mono a4 (fun s' h' => ⟨k1.tr h'.1, h'.2.1, h'.2.2.1, by rw [h'.2.2.2.1, k3, h61], fun l1 => ⟨h'.2.2.2.2.2.2 l1, ?_⟩⟩)
          rw [a1, a2]
          obtain ⟨u1, u2⟩ := k5 l1
          refine ⟨fun x => by omega, fun _ => ⟨rA, hA, pSum_e hr1, by rw [h'.2.2.2.2.1, u1], fun x hx => ?_⟩, fun x => by omega⟩
          show s'.2.1 72 0 0 = x
          rw [h'.2.2.2.2.2.1]; exact u2 x hx
  · rw [if_neg c] at hr; exact absurd hr (by simp [pTail])
