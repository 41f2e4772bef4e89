/-! what a LAW says of a LINE -/
def evS (F : Nat → Int32) (P : List Ins) : Option Int64 := match evA F P 0 [] with | some (some (_, v :: _)) => some v | _ => none
def evT (F : Nat → Int32) (P : List Ins) : Bool := match evA F P 0 [] with | some (some (_, v :: _)) => decide (v = 1) | _ => false
def clH (F : Nat → Int32) (c : Cla) : Bool := match c.2.2 with | none => true | some T => evT F T
def valC (F : Nat → Int32) (c : Cla) : Option Int64 := if c.1 = 2 then some 1 else evS F c.2.1
def clampL (v top : Int64) : Int64 := if v < 0 then 0 else if top < v then top else v
def tlS (F : Nat → Int32) (vb : Nat) (top : Int64) (c : Cla) (a : Int64) : Int64 := if c.1 = vb ∧ clH F c = true then (match valC F c with | some v => clampL v top | none => a) else a
def tl (F : Nat → Int32) (vb : Nat) (top : Int64) : List Cla → Int64 → Int64
  | [], a => a
  | c :: r, a => tl F vb top r (tlS F vb top c a)
def barr (F : Nat → Int32) : List Cla → Prop
  | [] => False
  | c :: r => (c.1 = 2 ∧ clH F c = true) ∨ barr F r
theorem tl_bar {F : Nat → Int32} : ∀ {C : List Cla} {a : Int64}, (tl F 2 1 C a = 1 ↔ a = 1 ∨ barr F C) := by
  intro C
  induction C with
  | nil => intro a; simp [tl, barr]
  | cons c r ih =>
    intro a
    simp only [tl, barr, ih]
    unfold tlS
    by_cases h : c.1 = 2 ∧ clH F c = true
    · rw [if_pos h]
      have : valC F c = some 1 := by unfold valC; rw [if_pos h.1]
      rw [this]
      have e : clampL 1 1 = 1 := by decide
      simp only [e]
      exact ⟨fun _ => .inr (.inl h), fun _ => .inl trivial⟩
    · rw [if_neg h]
      constructor
      · rintro (g | g)
        · exact .inl g
        · exact .inr (.inr g)
      · rintro (g | g | g)
        · exact .inl g
        · exact absurd g h
        · exact .inr g
def SameH (s s' : Sg) : Prop := ∀ k i c, ¬ (k = 10 ∧ i = 0 ∧ c = 27) → rI s' k i c = rI s k i c
theorem evS_some {F : Nat → Int32} {P : List Ins} {n : Nat} {v : Int64} {t : List Int64} (h : evA F P 0 [] = some (some (n, v :: t))) : evS F P = some v := by unfold evS; rw [h]
theorem evS_none {F : Nat → Int32} {P : List Ins} (h : evA F P 0 [] = some none) : evS F P = none := by unfold evS; rw [h]
theorem evT_some {F : Nat → Int32} {P : List Ins} {n : Nat} {v : Int64} {t : List Int64} (h : evA F P 0 [] = some (some (n, v :: t))) : evT F P = decide (v = 1) := by unfold evT; rw [h]
theorem evT_none {F : Nat → Int32} {P : List Ins} (h : evA F P 0 [] = some none) : evT F P = false := by unfold evT; rw [h]
theorem ok_holds {s : Sg} {base k : Nat} {cd vl F : Nat → Int32} {c : Cla} (hbase : base ≤ 2000) (wf : wfC c) (hM : claM cd vl k c) (he : k + claLen c ≤ 400) (hc : ∀ i, i < 400 → rI s 43 0 (65 + base + i) = cd i ∧ rI s 43 0 (2865 + base + i) = vl i) (hf : ∀ i, i < 8 → rI s 55 0 i = F i)
    {B L E : Int32} (hB : B.toInt = base) (hL : L.toInt = base + (k + 1)) (hE : E.toInt = base + (k + claLen c)) :
    ok (m_holds s B L E) (fun q => SameH s q.1 ∧ q.2 = bI (clH F c = true ∧ ∃ v, valC F c = some v) ∧ ∀ v, valC F c = some v → clH F c = true → rL q.1 10 0 34 = v) := by
  obtain ⟨vb, P, T⟩ := c
  obtain ⟨w1, w2, w3, w4, w5⟩ := wf
  simp only at w1 w2 w3 w4 w5
  obtain ⟨m1, m2, m3, m4⟩ := hM
  simp only at m1 m2 m3 m4
  unfold m_holds m_holds_G
  rw [gdB0]
  show ok (m_holds_b19 FU (wL (wI s 10 0 27 0) 10 0 34 1) B E 0 0 L) _
  have s2f : ∀ k i c, ¬ (k = 10 ∧ i = 0 ∧ c = 27) → rI (wL (wI s 10 0 27 0) 10 0 34 1) k i c = rI s k i c := by
    intro k i c h; rw [rI_wL, rI_wI, if_neg h]
  have s2b : rI (wL (wI s 10 0 27 0) 10 0 34 1) 10 0 27 = 0 := by rw [rI_wL, rI_eq rfl]
  have s2c : ∀ i, i < 400 → rI (wL (wI s 10 0 27 0) 10 0 34 1) 43 0 (65 + base + i) = cd i ∧ rI (wL (wI s 10 0 27 0) 10 0 34 1) 43 0 (2865 + base + i) = vl i := fun i hi => by rw [s2f _ _ _ (by omega), s2f _ _ _ (by omega)]; exact hc i hi
  have s2a : ∀ i, i < 8 → rI (wL (wI s 10 0 27 0) 10 0 34 1) 55 0 i = F i := fun i hi => by rw [s2f _ _ _ (by omega)]; exact hf i hi
  have s2l : rL (wL (wI s 10 0 27 0) 10 0 34 1) 10 0 34 = 1 := rL_eq rfl
  generalize wL (wI s 10 0 27 0) 10 0 34 1 = s2 at s2f s2b s2c s2a s2l ⊢
  -- the test, when the sum is done with
  have tst : ∀ (T : List Ins) (s3 : Sg) (f : Nat) (l : Int32) (sm : Int64), wfT 8 T → pushes T ≤ 50 → EncM cd vl (k + 1 + P.length + 1) T → k + 1 + P.length + 1 + T.length = k + claLen (vb, P, some T) → k + claLen (vb, P, some T) ≤ 400 → E.toInt = base + (k + claLen (vb, P, some T)) → (∀ k i c, ¬ (k = 10 ∧ i = 0 ∧ c = 27) → rI s3 k i c = rI s2 k i c) → rI s3 10 0 27 = 0 → rL s3 10 0 34 = sm → l.toInt = base + (k + 1 + P.length + 1) → T.length + 2 < f → 
      ok (m_holds_b19 f s3 B E 0 1 l) (fun q => SameH s q.1 ∧ q.2 = bI (evT F T = true) ∧ (evT F T = true → rL q.1 10 0 34 = sm)) := by
    intro T s3 f l sm wt pt eT len1 len2 hE' h3 hb3 hs3 hl hfu
    have g : goodE (evA F T 0 []) := by
      rcases wt.2.2 F with h | ⟨v, -, h⟩
      · exact .inl h
      · exact .inr ⟨v, [], h⟩
    refine valM (F := F) hbase len2 hB hE' T.length T (k + 1 + P.length + 1) [] s3 0 l f (Nat.le_refl _) eT (by omega) wt.1 wt.2.1 (fun i hi => absurd hi (by simp)) (by simp; omega) g hb3 (fun i hi => by rw [h3 _ _ _ (by omega), h3 _ _ _ (by omega)]; exact s2c i hi) (fun i hi => by rw [h3 _ _ _ (by omega)]; exact s2a i hi) (by simp) (by rw [hl]; omega) (by omega) ?_ ?_
    · intro h0 s' hs' hb'
      refine ⟨fun k i c n => by rw [hs'.1 k i c n, h3 k i c n, s2f k i c n], ?_, fun h => by rw [evT_none h0] at h; cases h⟩
      rw [bI_f]; rw [evT_none h0]; decide
    · intro v t h0 s' f' h' l' hs' hk' hb' hf' hh' hl'
      obtain ⟨f', rfl⟩ : ∃ j, f' = j + 1 := ⟨f' - 1, by omega⟩
      have ht : t = [] := by
        rcases wt.2.2 F with h | ⟨v', -, h⟩
        · rw [h] at h0; cases h0
        · rw [h] at h0; cases h0; rfl
      subst ht
      show ok (m_holds_b19_G _ _ _ s' B E h' 1 l') _
      unfold m_holds_b19_G
      rw [gif_f (by rw [ti_lt, hl', hE']; omega)]
      unfold m_holds_b294 m_holds_b294_G
      have top : rL s' 56 0 0 = v := stk_top hk'
      rw [gif_t hb', gif_f (by decide), gd_t (by rw [inb_iff]; decide), show ix 0 = 0 from rfl, top, gdB0, gdB1, cmp_eq]
      have fr : SameH s s' := fun k i c n => by rw [hs'.1 k i c n, h3 k i c n, s2f k i c n]
      have sl : rL s' 10 0 34 = sm := by rw [hs'.2, hs3]
      refine ok_gif (fun c1 => ok_some ⟨fr, ?_, fun _ => sl⟩) (fun c1 => ok_some ⟨fr, ?_, fun _ => sl⟩)
      · rw [bI_t]; rw [evT_some h0]; simpa using c1
      · rw [bI_f]; rw [evT_some h0]; simpa using c1
  by_cases v2 : vb = 2
  · -- it bars: no sum
    subst v2
    have hP : P = [] := w2 rfl
    subst hP
    have hv : ∀ T, valC F (2, ([] : List Ins), T) = some 1 := fun T => rfl
    cases T with
    | none =>
      simp only [claLen] at hE
      have hE' : E.toInt = base + (k + 1) := by rw [hE]; simp
      show ok (m_holds_b19_G _ _ _ s2 B E 0 0 L) _
      unfold m_holds_b19_G
      rw [gif_f (by rw [ti_lt, hL, hE']; omega)]
      unfold m_holds_b294 m_holds_b294_G
      rw [gif_t s2b, gif_t rfl, gif_f (by decide), gdB1]
      refine ok_some ⟨fun k i c n => by rw [rI_wL]; exact s2f k i c n, ?_, fun v hv' _ => ?_⟩
      · rw [bI_t]; exact ⟨rfl, 1, rfl⟩
      · rw [hv] at hv'; cases hv'; exact rL_eq rfl
    | some T =>
      obtain ⟨n1, n2⟩ := m4
      simp only [List.length_nil, Nat.add_zero] at n1 n2
      have len1 : claLen (2, ([] : List Ins), some T) = 1 + 0 + (1 + T.length) := rfl
      rw [len1] at hE he
      have C0 := s2c (k + 1) (by omega)
      have j1 : ix (65 + L) = 65 + base + (k + 1) := by rw [ix_k (m := 65) rfl (by omega) (by omega), hL]; omega
      have g1 : inb (65 + L) 5665 := inb_k (m := 65) rfl (by omega) (by omega) (by omega)
      have tL : (L + 1).toInt = base + (k + 1 + 1) := by rw [ti_add (by rw [hL, li_1]; omega) (by rw [hL, li_1]; omega), hL, li_1]; omega
      show ok (m_holds_b19_G (m_holds_b19 19999) (m_holds_b114 (m_holds_b19 19999)) (m_holds_b294) s2 B E 0 0 L) _
      unfold m_holds_b19_G
      rw [gif_t (by rw [ti_lt, hL, hE]; omega), gif_t s2b, gd_t g1, j1, C0.1, gif_f (by rw [ti_eq, n1]; decide), gif_t (by rw [ti_lt, n1]; decide)]
      unfold m_holds_b114 m_holds_b114_G
      rw [gif_t (by rw [ti_eq, n1]; rfl), gif_f (by decide)]
      refine ok_mono (tst T (wL s2 10 0 34 1) 19999 (L + 1) 1 (w5 T rfl).1 (w5 T rfl).2 (by simpa using n2) (by rw [len1]; simp; omega) (by rw [len1]; omega) (by rw [len1, hE]) (fun _ _ _ _ => rfl) s2b (rL_eq rfl) (by rw [tL]; simp) (by omega)) (fun q ⟨p1, p2, p3⟩ => ⟨p1, ?_, fun v hv' hT => ?_⟩)
      · rw [p2]; refine bI_congr ⟨fun h => ⟨h, 1, rfl⟩, fun h => h.1⟩
      · rw [hv] at hv'; cases hv'; exact p3 hT
  · have ws := w3 v2
    have hv : ∀ T, valC F (vb, P, T) = evS F P := fun T => if_neg v2
    have g : goodE (evA F P 0 []) := by
      rcases ws.2.2 F [] with h | ⟨v, h⟩
      · exact .inl h
      · exact .inr ⟨v, [], h⟩
    have lenP : k + 1 + P.length ≤ k + claLen (vb, P, T) := by unfold claLen; simp only; omega
    refine valM (F := F) hbase he hB hE P.length P (k + 1) [] s2 0 L FU (Nat.le_refl _) m3 lenP ws.1 ws.2.1 (fun i hi => absurd hi (by simp)) (by simp; omega) g s2b s2c s2a (by simp) (by rw [hL]; omega) (by show _ < 20000; omega) ?_ ?_
    · intro h0 s' hs' hb'
      refine ⟨fun k i c n => by rw [hs'.1 k i c n, s2f k i c n], ?_, fun v h => by rw [hv, evS_none h0] at h; cases h⟩
      rw [bI_f]; rintro ⟨-, v, h⟩; rw [hv, evS_none h0] at h; cases h
    · intro v t h0 s' f' h' l' hs' hk' hb' hf' hh' hl'
      have hf2 : 19000 < f' := by have : (20000 : Nat) ≤ f' + P.length := hf'; omega
      obtain ⟨f', rfl⟩ : ∃ j, f' = j + 1 := ⟨f' - 1, by omega⟩
      have ht : t = [] := by
        rcases ws.2.2 F [] with h | ⟨v', h⟩
        · rw [h] at h0; cases h0
        · rw [h] at h0; cases h0; rfl
      subst ht
      have top : rL s' 56 0 0 = v := stk_top hk'
      have h1 : h' = 1 := by rw [ti_eq, hh', li_1]; rfl
      subst h1
      have fr : ∀ k i c, ¬ (k = 10 ∧ i = 0 ∧ c = 27) → rI s' k i c = rI s2 k i c := hs'.1
      cases T with
      | none =>
        simp only [claLen] at hE
        have hE' : E.toInt = base + (k + 1 + P.length) := by rw [hE]; omega
        show ok (m_holds_b19_G _ _ _ s' B E 1 0 l') _
        unfold m_holds_b19_G
        rw [gif_f (by rw [ti_lt, hl', hE']; omega)]
        unfold m_holds_b294 m_holds_b294_G
        rw [gif_t hb', gif_t rfl, gif_t rfl, gd_t (by rw [inb_iff]; decide), gdB1, show ix 0 = 0 from rfl, top]
        refine ok_some ⟨fun k i c n => by rw [rI_wL, fr k i c n]; exact s2f k i c n, ?_, fun v' hv' _ => ?_⟩
        · rw [bI_t]; exact ⟨rfl, v, by rw [hv, evS_some h0]⟩
        · rw [hv, evS_some h0] at hv'; cases hv'; exact rL_eq rfl
      | some T =>
        obtain ⟨n1, n2⟩ := m4
        have len1 : claLen (vb, P, some T) = 1 + P.length + (1 + T.length) := rfl
        rw [len1] at hE he
        have C0 := s2c (k + 1 + P.length) (by omega)
        have j1 : ix (65 + l') = 65 + base + (k + 1 + P.length) := by rw [ix_k (m := 65) rfl (by omega) (by omega), hl']; omega
        have g1 : inb (65 + l') 5665 := inb_k (m := 65) rfl (by omega) (by omega) (by omega)
        have tL : (l' + 1).toInt = base + (k + 1 + P.length + 1) := by rw [ti_add (by rw [hl', li_1]; omega) (by rw [hl', li_1]; omega), hl', li_1]; omega
        show ok (m_holds_b19_G (m_holds_b19 f') (m_holds_b114 (m_holds_b19 f')) (m_holds_b294) s' B E 1 0 l') _
        unfold m_holds_b19_G
        rw [gif_t (by rw [ti_lt, hl', hE]; omega), gif_t hb', gd_t g1, j1, fr _ _ _ (by omega), C0.1, gif_f (by rw [ti_eq, n1]; decide), gif_t (by rw [ti_lt, n1]; decide)]
        unfold m_holds_b114 m_holds_b114_G
        rw [gif_t (by rw [ti_eq, n1]; rfl), gif_t rfl, gd_t (by rw [inb_iff]; decide), show ix 0 = 0 from rfl, top]
        refine ok_mono (tst T (wL s' 10 0 34 v) f' (l' + 1) v (w5 T rfl).1 (w5 T rfl).2 n2 (by rw [len1]; omega) (by rw [len1]; omega) (by rw [len1, hE]) (fun k i c n => by rw [rI_wL]; exact fr k i c n) (by rw [rI_wL]; exact hb') (rL_eq rfl) (by rw [tL]) (by omega)) (fun q ⟨p1, p2, p3⟩ => ⟨p1, ?_, fun v' hv' hT => ?_⟩)
        · rw [p2]; refine bI_congr ⟨fun h => ⟨h, v, by rw [hv, evS_some h0]⟩, fun h => h.1⟩
        · rw [hv, evS_some h0] at hv'; cases hv'; exact p3 hT
/-- all its clauses -/
theorem ok_tells_loop {base l tot : Nat} {cd vl F : Nat → Int32} (hl6 : l < 6) (hb : base = 400 * l) (ht : tot ≤ 400) {vb : Nat} {head top B : Int32} (hh : head.toInt = vb + 1) (hvb : vb ≤ 2) (hB : B.toInt = base) :
    ∀ (C : List Cla) (s : Sg) (k : Nat) (a : Int64) (L : Int32) (fuel : Nat), (∀ c ∈ C, wfC c) → clasM cd vl k C → k + clasLen C = tot → (∀ i, i < 400 → rI s 43 0 (65 + base + i) = cd i ∧ rI s 43 0 (2865 + base + i) = vl i) → (∀ i, i < 8 → rI s 55 0 i = F i) →
      (rI s 43 0 57).toInt = l → (rI s 43 0 (58 + l)).toInt = tot → L.toInt = base + k → C.length < fuel →
      ok (m_tells_b34 fuel s head top a B L) (fun q => SameH s q.1 ∧ q.2 = Int64.toInt32 (tl F vb (Int32.toInt64 top) C a)) := by
  intro C
  induction C with
  | nil =>
    intro s k a L fuel _ _ hk hc hf h57 h58 hL hfu
    obtain ⟨fuel, rfl⟩ : ∃ j, fuel = j + 1 := ⟨fuel - 1, by omega⟩
    simp only [clasLen, Nat.add_zero] at hk
    show ok (m_tells_b34_G _ _ s head top a B L) _
    unfold m_tells_b34_G
    have i58 : ix (58 + rI s 43 0 57) = 58 + l := by rw [ix_k (m := 58) rfl (by omega) (by omega), h57]; omega
    rw [gd_t k57.1, k57.2, gd_t (inb_k (m := 58) rfl (by omega) (by omega) (by omega)), i58, gif_f (by rw [ti_lt, hL, ti_add (by rw [hB, h58]; omega) (by rw [hB, h58]; omega), hB, h58]; omega)]
    exact ok_some ⟨fun _ _ _ _ => rfl, rfl⟩
  | cons c r ih =>
    intro s k a L fuel hwf hM hk hc hf h57 h58 hL hfu
    obtain ⟨fuel, rfl⟩ : ∃ j, fuel = j + 1 := ⟨fuel - 1, by omega⟩
    simp only [clasLen] at hk
    simp only [List.length_cons] at hfu
    obtain ⟨hM0, hMr⟩ := hM
    have wf0 := hwf c (by simp)
    have cl1 : 1 ≤ claLen c := by unfold claLen; omega
    show ok (m_tells_b34_G _ _ s head top a B L) _
    unfold m_tells_b34_G
    have i58 : ix (58 + rI s 43 0 57) = 58 + l := by rw [ix_k (m := 58) rfl (by omega) (by omega), h57]; omega
    have j1 : ix (65 + L) = 65 + base + k := by rw [ix_k (m := 65) rfl (by omega) (by omega), hL]; omega
    have j2 : ix (2865 + L) = 2865 + base + k := by rw [ix_k (m := 2865) rfl (by omega) (by omega), hL]; omega
    have g1 : inb (65 + L) 5665 := inb_k (m := 65) rfl (by omega) (by omega) (by omega)
    have g2 : inb (2865 + L) 5665 := inb_k (m := 2865) rfl (by omega) (by omega) (by omega)
    have C0 := hc k (by omega)
    have tn : (B + vl k).toInt = base + (k + claLen c) := by rw [ti_add (by rw [hB, hM0.2.1]; omega) (by rw [hB, hM0.2.1]; omega), hB, hM0.2.1]
    have tL : (L + 1).toInt = base + (k + 1) := by rw [ti_add (by rw [hL, li_1]; omega) (by rw [hL, li_1]; omega), hL, li_1]; omega
    rw [gd_t k57.1, k57.2, gd_t (inb_k (m := 58) rfl (by omega) (by omega) (by omega)), i58, gif_t (by rw [ti_lt, hL, ti_add (by rw [hB, h58]; omega) (by rw [hB, h58]; omega), hB, h58]; omega), gd_t g2, gd_t g1, j1, j2, C0.1, C0.2]
    have go : ∀ (s1 : Sg) (a' : Int64), SameH s s1 → a' = tlS F vb (Int32.toInt64 top) c a → ok (m_tells_b34 fuel s1 head top a' B (B + vl k)) (fun q => SameH s q.1 ∧ q.2 = Int64.toInt32 (tl F vb (Int32.toInt64 top) (c :: r) a)) := by
      intro s1 a' hs1 ea
      refine ok_mono (ih s1 (k + claLen c) a' (B + vl k) fuel (fun c hc => hwf c (by simp [hc])) hMr (by omega) (fun i hi => by rw [hs1 _ _ _ (by omega), hs1 _ _ _ (by omega)]; exact hc i hi) (fun i hi => by rw [hs1 _ _ _ (by omega)]; exact hf i hi) (by rw [hs1 _ _ _ (by omega)]; exact h57) (by rw [hs1 _ _ _ (by omega)]; exact h58) (by rw [tn]; omega) (by omega)) (fun q ⟨p1, p2⟩ => ⟨fun k i c n => by rw [p1 k i c n, hs1 k i c n], by rw [p2, ea]; rfl⟩)
    by_cases hv : c.1 = vb
    · rw [gif_t (by rw [ti_eq, hM0.1, hh, hv])]
      refine ok_bind (ok_mono (ok_holds (by omega) wf0 hM0 (by omega) hc hf hB tL (by rw [tn])) (fun q ⟨p1, p2, p3⟩ => ?_))
      obtain ⟨s1, y⟩ := q
      simp only at p1 p2 p3
      rw [p2, gifbI]
      by_cases hH : clH F c = true ∧ ∃ v, valC F c = some v
      · rw [gif_t hH]
        obtain ⟨hT, v, hval⟩ := hH
        have sv : rL s1 10 0 34 = v := p3 v hval hT
        have etl : tlS F vb (Int32.toInt64 top) c a = clampL v (Int32.toInt64 top) := by unfold tlS; rw [if_pos ⟨hv, hT⟩, hval]
        rw [sv, cmp_lt, cmp_gt]
        unfold clampL at etl
        refine ok_gif (fun d => go s1 0 p1 ?_) (fun d => ok_gif (fun e => go s1 _ p1 ?_) (fun e => go s1 _ p1 ?_))
        · rw [etl, if_pos d]
        · rw [etl, if_neg d, if_pos e]
        · rw [etl, if_neg d, if_neg e]
      · rw [gif_f hH]
        refine go s1 a p1 ?_
        unfold tlS
        by_cases hT : c.1 = vb ∧ clH F c = true
        · rw [if_pos hT]
          cases hval : valC F c with
          | none => rfl
          | some v => exact absurd ⟨hT.2, v, hval⟩ hH
        · rw [if_neg hT]
    · rw [gif_f (by rw [ti_eq, hM0.1, hh]; omega)]
      refine go s a (fun _ _ _ _ => rfl) ?_
      unfold tlS; rw [if_neg (fun x => hv x.1)]
