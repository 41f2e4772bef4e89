/-! the model works off the same code -/
theorem EncM_drop {c v : Nat → Int32} {P : List Ins} : ∀ {q n : Nat}, n ≤ P.length → EncM c v q P → EncM c v (q + n) (P.drop n) := by
  induction P with
  | nil => intro q n h g; have : n = 0 := by simpa using h
           subst this; exact g
  | cons i r ih =>
    intro q n h g
    cases n with
    | zero => exact g
    | succ n => have := ih (q := q + 1) (n := n) (by simpa using h) g.2.2.2
                rw [show q + (n + 1) = q + 1 + n by omega]; exact this
def SameM (s s' : Sg) : Prop := (∀ k i c, ¬ (k = 10 ∧ i = 0 ∧ c = 27) → rI s' k i c = rI s k i c) ∧ rL s' 10 0 34 = rL s 10 0 34
theorem SameM.rfl' {s : Sg} : SameM s s := ⟨fun _ _ _ _ => rfl, rfl⟩
theorem SameM.tr {a b c : Sg} (h : SameM a b) (g : SameM b c) : SameM a c := ⟨fun k i x n => (g.1 k i x n).trans (h.1 k i x n), g.2.trans h.2⟩
theorem SameM.wL {s s' : Sg} (h : SameM s s') {i : Nat} {v : Int64} : SameM s (wL s' 56 0 i v) := ⟨fun k i x n => by rw [rI_wL]; exact h.1 k i x n, by rw [rL_ne (by omega)]; exact h.2⟩
theorem encm_v {o x : Nat} (h : okIns 8 (o, x)) : encm (o, x) = (if o = 1 then 50 else if o = 2 then 8 + x else if o = 3 then 7 else if o = 4 then 6 else if o = 5 then 5
  else if o = 7 then 143 else if o = 8 then 145 else if o = 9 then 142 else if o = 10 then 147 else if o = 11 then 137
  else if o = 12 then 160 else if o = 13 then 162 else 161 : Int) := rfl
theorem enc_f {o x : Nat} (h : okIns 8 (o, x)) : (o ≠ 1 → encm (o, x) ≠ 50) ∧ (o ≠ 1 → o ≠ 2 → ¬ (8 ≤ encm (o, x) ∧ encm (o, x) < 16)) ∧ encm (o, x) ≠ 4 ∧ (o ≠ 3 → encm (o, x) ≠ 7) ∧ (o ≠ 5 → encm (o, x) ≠ 5) ∧ (o ≠ 4 → encm (o, x) ≠ 6) := by
  unfold okIns at h
  simp only at h
  by_cases o2 : o = 2
  · subst o2
    have e : encm (2, x) = 8 + x := rfl
    rw [e]; omega
  · rcases (by omega : o = 1 ∨ o = 3 ∨ o = 4 ∨ o = 5 ∨ o = 7 ∨ o = 8 ∨ o = 9 ∨ o = 10 ∨ o = 11 ∨ o = 12 ∨ o = 13 ∨ o = 14) with rfl | rfl | rfl | rfl | rfl | rfl | rfl | rfl | rfl | rfl | rfl | rfl <;> simp [encm]
/-- a sign worked off by the model: the number, and whether it is broken -/
theorem ok_work {s : Sg} (hb : rI s 10 0 27 = 0) {o x : Nat} (ho : 7 ≤ o ∧ o ≤ 14) {l : Int32} (hl : l.toInt = encm (o, x)) (a b : Int64) :
    ok ((m_workedOff s l a b).bind fun q4 => m_bounded q4.1 q4.2 1) (fun q => (match opn o a b with | none => rI q.1 10 0 27 = 1 | some v => q.2 = v ∧ rI q.1 10 0 27 = 0) ∧ q.1.2 = s.2 ∧ (∀ k i c, ¬ (k = 10 ∧ i = 0 ∧ c = 27) → rI q.1 k i c = rI s k i c)) := by
  have nw : ∀ (s1 : Sg) (x : Int32), (∀ k i c, ¬ (k = 10 ∧ i = 0 ∧ c = 27) → rI s1 k i c = rI s k i c) → ∀ k i c, ¬ (k = 10 ∧ i = 0 ∧ c = 27) → rI (wI s1 10 0 27 x) k i c = rI s k i c := by
    intro s1 x e k i c h; rw [rI_wI, if_neg h]; exact e k i c h
  have bd : ∀ (s1 : Sg) (v : Int64), s1.2 = s.2 → (∀ k i c, ¬ (k = 10 ∧ i = 0 ∧ c = 27) → rI s1 k i c = rI s k i c) → ok (m_bounded s1 v 1) (fun q => (rI q.1 10 0 27 = (if rI s1 10 0 27 = 0 ∧ ¬ (FARI < v ∨ v < -FARI) then 0 else if FARI < v ∨ v < -FARI then 1 else rI s1 10 0 27)) ∧ (rI s1 10 0 27 = 0 ∧ ¬ (FARI < v ∨ v < -FARI) → q.2 = v) ∧ q.1.2 = s.2 ∧ (∀ k i c, ¬ (k = 10 ∧ i = 0 ∧ c = 27) → rI q.1 k i c = rI s k i c)) := by
    intro s1 v e0 e1
    unfold m_bounded m_bounded_G
    simp only [gdB0, gdB1, cmp_gt, cmp_lt]
    rw [gif_f (by decide)]
    refine ok_gif (fun c => ?_) (fun c => ?_)
    · rw [rI_eq rfl, gif_f (by decide)]
      exact ok_some ⟨by simp only []; rw [rI_eq rfl, if_neg (fun x => x.2 (.inl c)), if_pos (.inl c)], fun x => absurd (.inl c) x.2, e0, nw s1 1 e1⟩
    · refine ok_gif (fun d => ?_) (fun d => ?_)
      · rw [rI_eq rfl, gif_f (by decide)]
        exact ok_some ⟨by simp only []; rw [rI_eq rfl, if_neg (fun x => x.2 (.inr d)), if_pos (.inr d)], fun x => absurd (.inr d) x.2, e0, nw s1 1 e1⟩
      · have nn : ¬ (FARI < v ∨ v < -FARI) := fun x => x.elim c d
        refine ok_gif (fun e => ok_some ⟨by simp only []; rw [if_pos ⟨e, nn⟩]; exact e, fun _ => rfl, e0, e1⟩) (fun e => ok_some ⟨by simp only []; rw [if_neg (fun x => e x.1), if_neg nn], fun x => absurd x.1 e, e0, e1⟩)
  have fin : ∀ (s1 : Sg) (v : Int64), s1.2 = s.2 → (∀ k i c, ¬ (k = 10 ∧ i = 0 ∧ c = 27) → rI s1 k i c = rI s k i c) → ((rI s1 10 0 27 = 0 ∧ v = opr o a b ∧ ¬ ((o = 10 ∨ o = 11) ∧ b = 0)) ∨ (rI s1 10 0 27 = 1 ∧ (o = 10 ∨ o = 11) ∧ b = 0)) →
      ok (m_bounded s1 v 1) (fun q => (match opn o a b with | none => rI q.1 10 0 27 = 1 | some v => q.2 = v ∧ rI q.1 10 0 27 = 0) ∧ q.1.2 = s.2 ∧ (∀ k i c, ¬ (k = 10 ∧ i = 0 ∧ c = 27) → rI q.1 k i c = rI s k i c)) := by
    intro s1 v e0 e1 h
    refine ok_mono (bd s1 v e0 e1) (fun q ⟨p1, p2, p3, p4⟩ => ⟨?_, p3, p4⟩)
    unfold opn
    rcases h with ⟨c, ev, nb⟩ | ⟨c, h1⟩
    · subst ev
      rw [if_neg nb]
      by_cases d : FARI < opr o a b ∨ opr o a b < -FARI
      · rw [if_pos d]; rw [if_neg (fun x => x.2 d), if_pos d] at p1; exact p1
      · rw [if_neg d]; rw [if_pos ⟨c, d⟩] at p1; exact ⟨p2 ⟨c, d⟩, p1⟩
    · rw [if_pos h1]
      rw [if_neg (fun x => by rw [c] at x; exact absurd x.1 (by decide))] at p1
      show rI q.1 10 0 27 = 1
      rw [p1]
      by_cases d : FARI < v ∨ v < -FARI
      · rw [if_pos d]
      · rw [if_neg d]; exact c
  have self : ∀ k i c, ¬ (k = 10 ∧ i = 0 ∧ c = 27) → rI s k i c = rI s k i c := fun _ _ _ _ => rfl
  have sg : ∀ (s1 : Sg) (l0 : Int32), m_sign s1 l0 = some (s1, 100 + l0) := fun _ _ => rfl
  unfold m_workedOff m_workedOff_G
  simp only [sg, Option.bind_some, gdB1, cmp_gt, cmp_lt, cmp_eq]
  have ee : ∀ (m : Int32) (n : Int), m.toInt = n → ((l = m) ↔ encm (o, x) = n) := fun m n h => by rw [ti_eq, hl, h]
  have e43 := ee (100 + 43) 143 rfl
  have e45 := ee (100 + 45) 145 rfl
  have e42 := ee (100 + 42) 142 rfl
  have e60 := ee (100 + 60) 160 rfl
  have e62 := ee (100 + 62) 162 rfl
  have e61 := ee (100 + 61) 161 rfl
  have e47 := ee (100 + 47) 147 rfl
  rcases (by omega : o = 7 ∨ o = 8 ∨ o = 9 ∨ o = 10 ∨ o = 11 ∨ o = 12 ∨ o = 13 ∨ o = 14) with rfl | rfl | rfl | rfl | rfl | rfl | rfl | rfl
  · rw [gif_t (e43.mpr rfl)]
    exact fin s _ rfl self (.inl ⟨hb, rfl, fun x => by omega⟩)
  · rw [gif_f (fun e => absurd (e43.mp e) (by simp [encm])), gif_t (e45.mpr rfl)]
    exact fin s _ rfl self (.inl ⟨hb, rfl, fun x => by omega⟩)
  · rw [gif_f (fun e => absurd (e43.mp e) (by simp [encm])), gif_f (fun e => absurd (e45.mp e) (by simp [encm])), gif_t (e42.mpr rfl)]
    exact fin s _ rfl self (.inl ⟨hb, rfl, fun x => by omega⟩)
  · rw [gif_f (fun e => absurd (e43.mp e) (by simp [encm])), gif_f (fun e => absurd (e45.mp e) (by simp [encm])), gif_f (fun e => absurd (e42.mp e) (by simp [encm])), gif_f (fun e => absurd (e60.mp e) (by simp [encm])), gif_f (fun e => absurd (e62.mp e) (by simp [encm])), gif_f (fun e => absurd (e61.mp e) (by simp [encm]))]
    by_cases c : b = 0
    · rw [gif_t c]
      exact fin _ _ rfl (nw s 1 self) (.inr ⟨rI_eq rfl, .inl rfl, c⟩)
    · rw [gif_f c, gif_t (e47.mpr rfl), gd_t c]
      exact fin s _ rfl self (.inl ⟨hb, rfl, fun x => c x.2⟩)
  · rw [gif_f (fun e => absurd (e43.mp e) (by simp [encm])), gif_f (fun e => absurd (e45.mp e) (by simp [encm])), gif_f (fun e => absurd (e42.mp e) (by simp [encm])), gif_f (fun e => absurd (e60.mp e) (by simp [encm])), gif_f (fun e => absurd (e62.mp e) (by simp [encm])), gif_f (fun e => absurd (e61.mp e) (by simp [encm]))]
    by_cases c : b = 0
    · rw [gif_t c]
      exact fin _ _ rfl (nw s 1 self) (.inr ⟨rI_eq rfl, .inr rfl, c⟩)
    · rw [gif_f c, gif_f (fun e => absurd (e47.mp e) (by simp [encm])), gd_t c]
      exact fin s _ rfl self (.inl ⟨hb, rfl, fun x => c x.2⟩)
  · rw [gif_f (fun e => absurd (e43.mp e) (by simp [encm])), gif_f (fun e => absurd (e45.mp e) (by simp [encm])), gif_f (fun e => absurd (e42.mp e) (by simp [encm])), gif_t (e60.mpr rfl)]
    by_cases c : a < b
    · rw [gif_t c]; exact fin s _ rfl self (.inl ⟨hb, by simp [opr, c], fun x => by omega⟩)
    · rw [gif_f c]; exact fin s _ rfl self (.inl ⟨hb, by simp [opr, c], fun x => by omega⟩)
  · rw [gif_f (fun e => absurd (e43.mp e) (by simp [encm])), gif_f (fun e => absurd (e45.mp e) (by simp [encm])), gif_f (fun e => absurd (e42.mp e) (by simp [encm])), gif_f (fun e => absurd (e60.mp e) (by simp [encm])), gif_t (e62.mpr rfl)]
    by_cases c : b < a
    · rw [gif_t c]; exact fin s _ rfl self (.inl ⟨hb, by simp [opr, c], fun x => by omega⟩)
    · rw [gif_f c]; exact fin s _ rfl self (.inl ⟨hb, by simp [opr, c], fun x => by omega⟩)
  · rw [gif_f (fun e => absurd (e43.mp e) (by simp [encm])), gif_f (fun e => absurd (e45.mp e) (by simp [encm])), gif_f (fun e => absurd (e42.mp e) (by simp [encm])), gif_f (fun e => absurd (e60.mp e) (by simp [encm])), gif_f (fun e => absurd (e62.mp e) (by simp [encm])), gif_t (e61.mpr rfl)]
    by_cases c : a = b
    · rw [gif_t c]; exact fin s _ rfl self (.inl ⟨hb, by simp [opr, c], fun x => by omega⟩)
    · rw [gif_f c]; exact fin s _ rfl self (.inl ⟨hb, by simp [opr, c], fun x => by omega⟩)
theorem valM {base e : Nat} {cd vl F : Nat → Int32} (hbase : base ≤ 2000) (he : e ≤ 400) {B E iT : Int32} (hB : B.toInt = base) (hE : E.toInt = base + e) {Q : Sg × Int32 → Prop} :
    ∀ (m : Nat) (P : List Ins) (k : Nat) (st : List Int64) (s : Sg) (h l : Int32) (fuel : Nat), P.length ≤ m → EncM cd vl k P → k + P.length ≤ e → (∀ i ∈ P, okIns 8 i) → skOK P → stkX s 56 0 st → st.length + pushes P ≤ 400 → goodE (evA F P 0 st) → rI s 10 0 27 = 0 →
      (∀ i, i < 400 → rI s 43 0 (65 + base + i) = cd i ∧ rI s 43 0 (2865 + base + i) = vl i) → (∀ i, i < 8 → rI s 55 0 i = F i) → h.toInt = st.length → l.toInt = base + k → m + 1 < fuel →
      (evA F P 0 st = some none → ∀ s', SameM s s' → rI s' 10 0 27 = 1 → Q (s', 0)) →
      (∀ v t, evA F P 0 st = some (some (0, v :: t)) → ∀ (s' : Sg) (fuel' : Nat) (h' l' : Int32), SameM s s' → stkX s' 56 0 (v :: t) → rI s' 10 0 27 = 0 → fuel ≤ fuel' + P.length → h'.toInt = t.length + 1 → l'.toInt = base + (k + P.length) → ok (m_holds_b19 fuel' s' B E h' iT l') Q) →
      ok (m_holds_b19 fuel s B E h iT l) Q := by
  intro m
  induction m with
  | zero =>
    intro P k st s h l fuel hm hEn hke hI hS hk hp hg hb hc hf hh hl hfu _ hV
    have hP : P = [] := List.length_eq_zero_iff.mp (by omega)
    subst hP
    rcases hg with hg | ⟨v, u, hg⟩
    · cases hg
    · have := hg
      simp only [evA] at this
      cases this
      exact hV v u hg s fuel h l SameM.rfl' hk hb (by simp) (by rw [hh]; simp) (by rw [hl]; simp)
  | succ m ih =>
    intro P k st s h l fuel hm hEn hke hI hS hk hp hg hb hc hf hh hl hfu hN hV
    cases P with
    | nil =>
      exact ih [] k st s h l fuel (by simp) hEn hke hI hS hk hp hg hb hc hf hh hl (by omega) hN hV
    | cons ins r =>
      obtain ⟨o, x⟩ := ins
      obtain ⟨fuel, rfl⟩ : ∃ j, fuel = j + 1 := ⟨fuel - 1, by omega⟩
      simp only [List.length_cons] at hm hke hfu hV
      have hI0 := hI (o, x) (by simp)
      have hIr : ∀ i ∈ r, okIns 8 i := fun i hi => hI i (by simp [hi])
      obtain ⟨hE0, hE1, hE2, hEr⟩ := hEn
      obtain ⟨hS0, hSr⟩ := hS
      simp only at hS0 hE1 hE2
      have C0 := hc k (by omega)
      have j1 : ix (65 + l) = 65 + base + k := by rw [ix_k (m := 65) rfl (by omega) (by omega), hl]; omega
      have j2 : ix (2865 + l) = 2865 + base + k := by rw [ix_k (m := 2865) rfl (by omega) (by omega), hl]; omega
      have g1 : inb (65 + l) 5665 := inb_k (m := 65) rfl (by omega) (by omega) (by omega)
      have g2 : inb (2865 + l) 5665 := inb_k (m := 2865) rfl (by omega) (by omega) (by omega)
      have tl : (l + 1).toInt = base + (k + 1) := by rw [ti_add (by rw [hl, li_1]; omega) (by rw [hl, li_1]; omega), hl, li_1]; omega
      have step : m_holds_b19 (fuel + 1) s B E h iT l = m_holds_b19_G (m_holds_b19 fuel) (m_holds_b114 (m_holds_b19 fuel)) (m_holds_b294) s B E h iT l := rfl
      rw [step]
      unfold m_holds_b19_G
      rw [gif_t (by rw [ti_lt, hl, hE]; omega), gif_t hb, gd_t g1, j1, C0.1]
      have hst : st.length ≤ 400 := by omega
      -- what goes on behind this instruction
      have cont : ∀ (st' : List Int64) (s1 : Sg) (h1 : Int32), evA F ((o, x) :: r) 0 st = evA F r 0 st' → SameM s s1 → stkX s1 56 0 st' → rI s1 10 0 27 = 0 → st'.length + pushes r ≤ 400 → h1.toInt = st'.length → ok (m_holds_b19 fuel s1 B E h1 iT (l + 1)) Q := by
        intro st' s1 h1 hev hs1 hk1 hb1 hp1 hh1
        rw [hev] at hg hN hV
        refine ih r (k + 1) st' s1 h1 (l + 1) fuel (by omega) hEr (by omega) hIr hSr hk1 hp1 hg hb1 (fun i hi => ?_) (fun i hi => ?_) hh1 tl (by omega) (fun h0 s' h2 h3 => hN h0 s' (hs1.tr h2) h3) (fun v t h0 s' f' h' l' h2 h3 h4 h5 h6 h7 => hV v t h0 s' f' h' l' (hs1.tr h2) h3 h4 (by omega) h6 (by rw [h7]; omega))
        · rw [hs1.1 _ _ _ (by omega), hs1.1 _ _ _ (by omega)]; exact hc i hi
        · rw [hs1.1 _ _ _ (by omega)]; exact hf i hi
      by_cases o1 : o = 1
      · subst o1
        have hp : st.length + (1 + pushes r) ≤ 400 := by simpa [pushes] using hp
        rw [gif_t (by rw [ti_eq, hE0]; rfl), gd_t g2, gd_t (inb_iff.mpr (by rw [hh]; omega)), j2, C0.2]
        have th : (h + 1).toInt = st.length + 1 := by rw [ti_add (by rw [hh, li_1]; omega) (by rw [hh, li_1]; omega), hh, li_1]
        have hx : x ≤ 1000 := by unfold okIns at hI0; simp only at hI0; omega
        have ex : Int32.toInt64 (vl k) = Int64.ofNat x := by
          apply Int64.toInt_inj.mp
          rw [Int32.toInt_toInt64, hE1 rfl, Int64.toInt_ofNat_of_lt (by omega)]
        rw [ex, show ix h = st.length by rw [ix_eq, hh]; omega]
        exact cont (Int64.ofNat x :: st) _ _ rfl SameM.rfl'.wL (stk_push hk _) (by rw [rI_wL]; exact hb) (by simp only [List.length_cons]; omega) (by rw [th]; simp)
      · have en := hE0
        rw [encm_v hI0, if_neg o1] at en
        rw [gif_f (by rw [ti_eq, hE0, li_50]; exact (enc_f hI0).1 o1)]
        by_cases o2 : o = 2
        · subst o2
          rw [if_pos rfl] at en
          have hx : x < 8 := by unfold okIns at hI0; simp only at hI0; omega
          have hp : st.length + (1 + pushes r) ≤ 400 := by simpa [pushes] using hp
          have t8 : (cd k - 8).toInt = x := by rw [ti_sub (by rw [en, li_8]; omega) (by rw [en, li_8]; omega), en, li_8]; omega
          have th : (h + 1).toInt = st.length + 1 := by rw [ti_add (by rw [hh, li_1]; omega) (by rw [hh, li_1]; omega), hh, li_1]
          rw [gif_f (by rw [ti_lt, en, li_8]; omega), gif_t (by rw [ti_lt, en, li_16]; omega), gd_t (inb_iff.mpr (by rw [t8]; omega)), gd_t (inb_iff.mpr (by rw [hh]; omega)), show ix (cd k - 8) = x by rw [ix_eq, t8]; omega, hf x hx, show ix h = st.length by rw [ix_eq, hh]; omega]
          exact cont ((F x).toInt64 :: st) _ _ rfl SameM.rfl'.wL (stk_push hk _) (by rw [rI_wL]; exact hb) (by simp only [List.length_cons]; omega) (by rw [th]; simp)
        · have o12 : ¬ (o = 1 ∨ o = 2) := by omega
          rw [if_neg o2] at en
          have hpr : pushes ((o, x) :: r) = pushes r := by simp only [pushes, if_neg o12]; omega
          rw [hpr] at hp
          -- all others go by b114
          have e114 : ∀ l7 : Int32, m_holds_b114 (m_holds_b19 fuel) s B E h iT l l7 = m_holds_b114_G (m_holds_b19 fuel) (m_holds_b192 (m_holds_b19 fuel)) m_workedOff m_bounded s B E h iT l l7 := fun _ => rfl
          have red : ∀ (X : Option (Sg × Int32)), gif (cd k < 8) (m_holds_b114 (m_holds_b19 fuel) s B E h iT l (cd k)) (gif (cd k < 16) X (m_holds_b114 (m_holds_b19 fuel) s B E h iT l (cd k))) = m_holds_b114 (m_holds_b19 fuel) s B E h iT l (cd k) := by
            intro X
            refine gif_eq (fun _ => rfl) (fun c => gif_eq (fun d => ?_) (fun _ => rfl))
            exfalso
            rw [ti_lt, li_8, hE0] at c; rw [ti_lt, li_16, hE0] at d
            exact (enc_f hI0).2.1 o1 o2 ⟨by omega, d⟩
          rw [red, e114]
          unfold m_holds_b114_G
          cases st with
          | nil =>
            exfalso
            have : evA F ((o, x) :: r) 0 [] = none := by
              unfold evA; rw [if_neg o1, if_neg o2]
            rw [this] at hg
            rcases hg with hg | ⟨v, u, hg⟩ <;> cases hg
          | cons v u =>
            simp only [List.length_cons] at hh hp hst
            have h1 : (h - 1).toInt = u.length := by rw [ti_sub (by rw [hh, li_1]; omega) (by rw [hh, li_1]; omega), hh, li_1]; omega
            have ih1 : ix (h - 1) = u.length := by rw [ix_eq, h1]; omega
            have bh1 : inb (h - 1) 400 := inb_iff.mpr (by rw [h1]; omega)
            have top := stk_top hk
            simp only [am1]
            have n4 : ¬ cd k = 4 := by rw [ti_eq, hE0, li_4]; exact (enc_f hI0).2.2.1
            rw [gif_f n4]
            by_cases o3 : o = 3
            · subst o3
              rw [if_pos rfl] at en
              rw [gif_t (by rw [ti_eq, en]; rfl), gd_t bh1, gd_t bh1, ih1, top]
              exact cont ((1 - v) :: u) _ _ rfl SameM.rfl'.wL (stk_push (stk_tail hk) _) (by rw [rI_wL]; exact hb) (by simp only [List.length_cons]; omega) (by rw [hh]; simp)
            · rw [if_neg o3] at en
              have n7 : ¬ cd k = 7 := by rw [ti_eq, hE0, li_7]; exact (enc_f hI0).2.2.2.1 o3
              rw [gif_f n7]
              have e192 : ∀ l7 : Int32, m_holds_b192 (m_holds_b19 fuel) s B E h iT l l7 = m_holds_b192_G (m_holds_b222 (m_holds_b19 fuel)) s B E h iT l l7 := fun _ => rfl
              have e222 : ∀ y0 y1 : Int32, m_holds_b222 (m_holds_b19 fuel) s B E h iT l y0 y1 = m_holds_b222_G (m_holds_b19 fuel) s B E h iT l y0 y1 := fun _ _ => rfl
              -- a skip taken
              have jump : (o = 4 ∨ o = 5) → evA F ((o, x) :: r) 0 (v :: u) = evA F r x (v :: u) → ∀ y : Int32, ok (m_holds_b222 (m_holds_b19 fuel) s B E h iT l y y) Q := by
                intro h45 hev y
                have hx := hS0 h45
                rw [hev, evA_drop hx] at hg hN hV
                have hd : (r.drop x).length = r.length - x := by simp
                have tv : (B + vl k).toInt = base + (k + 1 + x) := by rw [ti_add (by rw [hB, hE2 h45]; omega) (by rw [hB, hE2 h45]; omega), hB, hE2 h45]
                rw [e222]
                unfold m_holds_b222_G
                rw [gif_t rfl, gd_t g2, j2, C0.2]
                refine ih (r.drop x) (k + 1 + x) (v :: u) s _ _ fuel (by omega) (EncM_drop hx hEr) (by omega) (ok_drop hIr) (skOK_drop hSr) hk (by have := pushes_drop (P := r) (n := x); simp only [List.length_cons]; omega) hg hb hc hf (by rw [hh]; simp) (by rw [tv]; omega) (by omega) hN (fun v t h0 s' f' h' l' h2 h3 h4 h5 h6 h7 => hV v t h0 s' f' h' l' h2 h3 h4 (by omega) h6 (by rw [h7]; omega))
              have pass : (o = 4 ∨ o = 5) → evA F ((o, x) :: r) 0 (v :: u) = evA F r 0 u → ∀ y0 y1 : Int32, ¬ y0 = y1 → ok (m_holds_b222 (m_holds_b19 fuel) s B E h iT l y0 y1) Q := by
                intro h45 hev y0 y1 hy
                rw [e222]
                unfold m_holds_b222_G
                rw [gif_f hy, am1]
                exact cont u s (h - 1) hev SameM.rfl' (stk_tail hk) hb (by omega) h1
              by_cases o4 : o = 4
              · subst o4
                rw [if_pos rfl] at en
                rw [gif_f (by rw [ti_eq, en]; decide), gif_t (by rw [ti_eq, en]; rfl), e192]
                unfold m_holds_b192_G
                have hev : evA F ((4, x) :: r) 0 (v :: u) = if v = 0 then evA F r x (v :: u) else if v = 1 then evA F r 0 u else none := rfl
                simp only [cmp_eq]
                rw [gd_t bh1, ih1, top, gif_f (show ¬ cd k = 5 by rw [ti_eq, en]; decide), gif_f (show ¬ cd k = 5 by rw [ti_eq, en]; decide)]
                by_cases c1 : v = 1
                · rw [gif_t c1]
                  exact pass (.inl rfl) (by rw [hev, if_neg (by rw [c1]; decide), if_pos c1]) 1 0 (by decide)
                · rw [gif_f c1]
                  by_cases c0 : v = 0
                  · exact jump (.inl rfl) (by rw [hev, if_pos c0]) 0
                  · rw [hev, if_neg c0, if_neg c1] at hg; rcases hg with hg | ⟨v, u, hg⟩ <;> cases hg
              · rw [if_neg o4] at en
                by_cases o5 : o = 5
                · subst o5
                  rw [if_pos rfl] at en
                  rw [gif_t (show cd k = 5 by rw [ti_eq, en]; rfl), e192]
                  unfold m_holds_b192_G
                  have hev : evA F ((5, x) :: r) 0 (v :: u) = if v = 1 then evA F r x (v :: u) else if v = 0 then evA F r 0 u else none := rfl
                  simp only [cmp_eq]
                  rw [gd_t bh1, ih1, top, gif_t (show cd k = 5 by rw [ti_eq, en]; rfl), gif_t (show cd k = 5 by rw [ti_eq, en]; rfl)]
                  by_cases c1 : v = 1
                  · rw [gif_t c1]
                    exact jump (.inr rfl) (by rw [hev, if_pos c1]) 1
                  · rw [gif_f c1]
                    by_cases c0 : v = 0
                    · exact pass (.inr rfl) (by rw [hev, if_neg c1, if_pos c0]) 0 1 (by decide)
                    · rw [hev, if_neg c1, if_neg c0] at hg; rcases hg with hg | ⟨v, u, hg⟩ <;> cases hg
                · rw [if_neg o5] at en
                  have o7 : 7 ≤ o ∧ o ≤ 14 := by unfold okIns at hI0; simp only at hI0; omega
                  have n5 : ¬ cd k = 5 := by rw [ti_eq, hE0, li_5]; exact (enc_f hI0).2.2.2.2.1 o5
                  have n6 : ¬ cd k = 6 := by rw [ti_eq, hE0, li_6]; exact (enc_f hI0).2.2.2.2.2 o4
                  rw [gif_f n5, gif_f n6]
                  cases u with
                  | nil =>
                    exfalso
                    have : evA F ((o, x) :: r) 0 [v] = none := by
                      unfold evA; simp only [if_neg o1, if_neg o2, if_neg o3, if_neg o4, if_neg o5]
                    rw [this] at hg
                    rcases hg with hg | ⟨v, u, hg⟩ <;> cases hg
                  | cons b u =>
                    have hev : evA F ((o, x) :: r) 0 (v :: b :: u) = match opn o b v with | none => some none | some y => evA F r 0 (y :: u) := by
                      show (if o = 1 then _ else if o = 2 then _ else if o = 3 then _ else if o = 4 then _ else if o = 5 then _ else _) = _
                      rw [if_neg o1, if_neg o2, if_neg o3, if_neg o4, if_neg o5]
                      rfl
                    simp only [List.length_cons] at hh hp hst h1 ih1 top
                    have h2 : (h - 1 - 1).toInt = u.length := by rw [ti_sub (by rw [h1, li_1]; omega) (by rw [h1, li_1]; omega), h1, li_1]; omega
                    have ih2 : ix (h - 1 - 1) = u.length := by rw [ix_eq, h2]; omega
                    have bh2 : inb (h - 1 - 1) 400 := inb_iff.mpr (by rw [h2]; omega)
                    have second := stk_top (stk_tail hk)
                    rw [gd_t bh2, gd_t bh1, ih1, ih2, top, second]
                    have W := ok_work hb o7 hE0 b v
                    have asc : ∀ (Y : Sg × Int64 → Option (Sg × Int32)), ((m_workedOff s (cd k) b v).bind fun q4 => (m_bounded q4.1 q4.2 1).bind fun q5 => Y q5) = (((m_workedOff s (cd k) b v).bind fun q4 => m_bounded q4.1 q4.2 1).bind fun q5 => Y q5) := by
                      intro Y; cases m_workedOff s (cd k) b v <;> rfl
                    rw [asc]
                    refine ok_bind (ok_mono W (fun p ⟨p1, p2, p3⟩ => ?_))
                    obtain ⟨s1, y1⟩ := p
                    simp only at p1 p2 p3
                    rw [gd_t bh2]
                    have sm1 : SameM s (wL s1 56 0 u.length y1) := ⟨fun k i c n => by rw [rI_wL]; exact p3 k i c n, by rw [rL_ne (by omega)]; show s1.2.1 10 0 34 = _; rw [p2]; rfl⟩
                    cases hop : opn o b v with
                    | none =>
                      rw [hop] at p1
                      simp only at p1
                      rw [hop] at hev
                      -- the loop sees that it is broken
                      obtain ⟨fuel, rfl⟩ : ∃ j, fuel = j + 1 := ⟨fuel - 1, by omega⟩
                      show ok (m_holds_b19_G _ _ _ _ B E (h - 1) iT (l + 1)) Q
                      unfold m_holds_b19_G
                      have p1' : ¬ rI (wL s1 56 0 u.length y1) 10 0 27 = 0 := by rw [rI_wL, p1]; decide
                      have e294 : m_holds_b294 (wL s1 56 0 u.length y1) (h - 1) iT = some (wL s1 56 0 u.length y1, 0) := by
                        unfold m_holds_b294 m_holds_b294_G
                        rw [gif_f p1', gdB0]
                      have fin : ok (some (wL s1 56 0 u.length y1, (0 : Int32))) Q := ok_some (hN hev _ sm1 (by rw [rI_wL]; exact p1))
                      refine ok_gif (fun _ => ?_) (fun _ => ?_)
                      · rw [gif_f p1', e294]; exact fin
                      · rw [e294]; exact fin
                    | some y =>
                      rw [hop] at p1
                      simp only at p1
                      rw [hop] at hev
                      have ey : y1 = y := p1.1
                      subst ey
                      exact cont (y1 :: u) _ _ hev sm1 (stk_push (stk_c (by rw [p2]) (stk_tail (stk_tail hk))) _) (by rw [rI_wL]; exact p1.2) (by simp only [List.length_cons]; omega) (by rw [h1]; simp)
