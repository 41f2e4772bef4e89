/-! CLAUSES: verb, first sum, second sum, times, test -/
abbrev Clz : Type := Nat × List Ins × List Ins × Nat × Option (List Ins)
abbrev CZ : Type := (Clz × Nat × Nat) ⊕ Nat
def hd (v : Nat) (A B : List Ins) (t p q : Nat) : CZ := .inl ((v, A, B, t, none), p, q)
def pRuleH (σ : Nat → Nat) (p q : Nat) : CZ :=
  if 3000 ≤ σ p ∧ σ p ≤ 3002 then (if σ p = 3002 then hd 2 [] [] 1 (p + 1) q else pb (pSum σ false 8 (p + 1) q) (fun A p' q' => hd (σ p - 3000) A [] 1 p' q')) else .inr p
def pTimes (σ : Nat → Nat) (v : Nat) (A B : List Ins) (p q : Nat) : CZ :=
  if σ p = 3008 then (if 1 ≤ σ (p + 1) ∧ σ (p + 1) ≤ 20 then hd v A B (σ (p + 1)) (p + 2) q else .inr (p + 1)) else hd v A B 1 p q
def pOrderH (σ : Nat → Nat) (p q : Nat) : CZ :=
  if 3003 ≤ σ p ∧ σ p ≤ 3006 then (if σ p = 3006 then pTimes σ 3 [] [] (p + 1) q
    else pb (pSum σ true 8 (p + 1) q) (fun A p' q' => if σ p = 3005 then (if σ p' = 3007 then pb (pSum σ true 8 (p' + 1) q') (fun B p2 q2 => pTimes σ 2 A B p2 q2) else .inr p')
      else pTimes σ (σ p - 3003) A [] p' q'))
  else .inr p
def pTail (σ : Nat → Nat) (o : Bool) (r : CZ) : CZ :=
  match r with
  | .inr e => .inr e
  | .inl y => if σ y.2.1 = 3009 then pb (pTest σ o 8 (y.2.1 + 1) y.2.2) (fun U p' q' => .inl ((y.1.1, y.1.2.1, y.1.2.2.1, y.1.2.2.2.1, some U), p', q')) else .inl y
def pOne (σ : Nat → Nat) (o : Bool) (p q : Nat) : CZ := pTail σ o (if o = true then pOrderH σ p q else pRuleH σ p q)
def pTxt (σ : Nat → Nat) (o : Bool) : Nat → Nat → List Clz → Nat → Nat → List Clz ⊕ Nat
  | 0 => fun _ _ p _ => .inr p
  | n + 1 => fun c L p q => if 12 ≤ c then .inr p else match pOne σ o p q with
    | .inr e => .inr e
    | .inl y => if σ y.2.1 = 4000 then .inl (L ++ [y.1]) else if σ y.2.1 = 2059 then pTxt σ o n (c + 1) (L ++ [y.1]) (y.2.1 + 1) y.2.2 else .inr y.2.1
theorem pTxt_s {σ : Nat → Nat} {o : Bool} {n c : Nat} {L : List Clz} {p q : Nat} : pTxt σ o (n + 1) c L p q = if 12 ≤ c then .inr p else match pOne σ o p q with
    | .inr e => .inr e
    | .inl y => if σ y.2.1 = 4000 then .inl (L ++ [y.1]) else if σ y.2.1 = 2059 then pTxt σ o n (c + 1) (L ++ [y.1]) (y.2.1 + 1) y.2.2 else .inr y.2.1 := rfl
def hasA (o : Bool) (v : Nat) : Prop := if o = true then v ≠ 3 else v ≠ 2
def hasB (o : Bool) (v : Nat) : Prop := o = true ∧ v = 2
def bl : List Ins → Nat
  | [] => 0
  | i :: r => 1 + (i :: r).length
def tll : Option (List Ins) → Nat
  | none => 0
  | some U => 1 + U.length
theorem bl_le (B : List Ins) : B.length ≤ bl B ∧ bl B ≤ B.length + 1 := by cases B <;> simp [bl] <;> omega
def GCl (o : Bool) (T p q : Nat) (x : Clz) (p' q' : Nat) : Prop :=
  (x.1 ≤ 3 ∧ (o = false → x.1 ≤ 2)) ∧ ((hasA o x.1 → wfS (nfo o) x.2.1 ∧ 1 ≤ x.2.1.length) ∧ (¬ hasA o x.1 → x.2.1 = [])) ∧ ((hasB o x.1 → wfS (nfo o) x.2.2.1 ∧ 1 ≤ x.2.2.1.length) ∧ (¬ hasB o x.1 → x.2.2.1 = [])) ∧ (1 ≤ x.2.2.2.1 ∧ x.2.2.2.1 ≤ 20) ∧ (∀ U, x.2.2.2.2 = some U → wfB (nfo o) U ∧ pushes U ≤ 50) ∧
  pushes x.2.1 ≤ 50 ∧ pushes x.2.2.1 ≤ 50 ∧ 1 + x.2.1.length + bl x.2.2.1 + tll x.2.2.2.2 + p ≤ p' ∧ p' ≤ T ∧ q' ≤ 50
def GC (o : Bool) (T p q : Nat) (r : CZ) : Prop := match r with | .inr e => e ≤ T | .inl y => GCl o T p q y.1 y.2.1 y.2.2
theorem pRuleH_g {σ : Nat → Nat} {T p q : Nat} (hT : σ T = 4000) (hp : p ≤ T) (hq : q ≤ 50) : GC false T p q (pRuleH σ p q) ∧ ∀ y, pRuleH σ p q = .inl y → y.1.2.2.2.2 = none := by
  unfold pRuleH
  by_cases c : 3000 ≤ σ p ∧ σ p ≤ 3002
  · rw [if_pos c]
    have hp1 := pT hT hp (by omega)
    by_cases c2 : σ p = 3002
    · rw [if_pos c2]
      refine ⟨?_, fun y hy => by unfold hd at hy; simp only [Sum.inl.injEq] at hy; subst hy; rfl⟩
      refine ⟨⟨by show 2 ≤ 3; omega, fun _ => Nat.le_refl 2⟩, ⟨fun h => absurd rfl h, fun _ => rfl⟩, ⟨fun h => absurd h.1 (by decide), fun _ => rfl⟩, ⟨Nat.le_refl 1, by show 1 ≤ 20; omega⟩, fun U h => absurd h (by simp), by show 0 ≤ 50; omega, by show 0 ≤ 50; omega, ?_, hp1, hq⟩
      show 1 + 0 + 0 + 0 + p ≤ p + 1; omega
    · rw [if_neg c2]
      have g := pSum_g (o := false) hT 8 hp1 hq
      cases hr : pSum σ false 8 (p + 1) q with
      | inr e => rw [hr] at g; exact ⟨g, fun y hy => by rw [pb_r] at hy; exact absurd hy (by simp)⟩
      | inl y =>
        obtain ⟨A, p', q'⟩ := y
        rw [hr] at g
        obtain ⟨g1, g2, g3, g4, g5, g6⟩ := GR_l.mp g
        rw [pb_l]
        refine ⟨?_, fun y hy => by unfold hd at hy; simp only [Sum.inl.injEq] at hy; subst hy; rfl⟩
        refine ⟨⟨by show σ p - 3000 ≤ 3; omega, fun _ => by show σ p - 3000 ≤ 2; omega⟩, ⟨fun _ => ⟨g1, g6⟩, fun h => absurd (by show (σ p - 3000) ≠ 2; omega) h⟩, ⟨fun h => absurd h.1 (by decide), fun _ => rfl⟩, ⟨Nat.le_refl 1, by show 1 ≤ 20; omega⟩, fun U h => absurd h (by simp), by show pushes A ≤ 50; omega, by show 0 ≤ 50; omega, ?_, g3, g5⟩
        show 1 + A.length + 0 + 0 + p ≤ p'; omega
  · rw [if_neg c]; exact ⟨hp, fun y hy => absurd hy (by simp)⟩
theorem pTimes_g {σ : Nat → Nat} {T p0 p q v : Nat} {A B : List Ins} (hT : σ T = 4000) (hp : p ≤ T) (hq : q ≤ 50) (hv : v ≤ 3) (hA : (hasA true v → wfS (nfo true) A ∧ 1 ≤ A.length) ∧ (¬ hasA true v → A = [])) (hB : (hasB true v → wfS (nfo true) B ∧ 1 ≤ B.length) ∧ (¬ hasB true v → B = [])) (pA : pushes A ≤ 50) (pB : pushes B ≤ 50) (hl : 1 + A.length + bl B + p0 ≤ p) : GC true T p0 q (pTimes σ v A B p q) ∧ ∀ y, pTimes σ v A B p q = .inl y → y.1.2.2.2.2 = none := by
  unfold pTimes
  by_cases c : σ p = 3008
  · rw [if_pos c]
    have hp1 := pT hT hp (by omega)
    by_cases c2 : 1 ≤ σ (p + 1) ∧ σ (p + 1) ≤ 20
    · rw [if_pos c2]
      have hp2 := pT hT hp1 (by omega)
      refine ⟨⟨⟨hv, fun h => absurd h (by decide)⟩, hA, hB, c2, fun U h => absurd h (by simp), pA, pB, ?_, hp2, hq⟩, fun y hy => by unfold hd at hy; simp only [Sum.inl.injEq] at hy; subst hy; rfl⟩
      show 1 + A.length + bl B + 0 + p0 ≤ p + 2; omega
    · rw [if_neg c2]; exact ⟨hp1, fun y hy => absurd hy (by simp)⟩
  · rw [if_neg c]
    refine ⟨⟨⟨hv, fun h => absurd h (by decide)⟩, hA, hB, ⟨Nat.le_refl 1, by show 1 ≤ 20; omega⟩, fun U h => absurd h (by simp), pA, pB, ?_, hp, hq⟩, fun y hy => by unfold hd at hy; simp only [Sum.inl.injEq] at hy; subst hy; rfl⟩
    show 1 + A.length + bl B + 0 + p0 ≤ p; omega
theorem GC_q {o : Bool} {T p q q' : Nat} {r : CZ} (h : GC o T p q r) : GC o T p q' r := h
theorem pOrderH_g {σ : Nat → Nat} {T p q : Nat} (hT : σ T = 4000) (hp : p ≤ T) (hq : q ≤ 50) : GC true T p q (pOrderH σ p q) ∧ ∀ y, pOrderH σ p q = .inl y → y.1.2.2.2.2 = none := by
  unfold pOrderH
  by_cases c : 3003 ≤ σ p ∧ σ p ≤ 3006
  · rw [if_pos c]
    have hp1 := pT hT hp (by omega)
    by_cases c2 : σ p = 3006
    · rw [if_pos c2]
      exact pTimes_g hT hp1 hq (Nat.le_refl 3) ⟨fun h => absurd rfl h, fun _ => rfl⟩ ⟨fun h => absurd h.2 (by decide), fun _ => rfl⟩ (by show 0 ≤ 50; omega) (by show 0 ≤ 50; omega) (by show 1 + 0 + 0 + p ≤ p + 1; omega)
    · rw [if_neg c2]
      have g := pSum_g (o := true) hT 8 hp1 hq
      cases hr : pSum σ true 8 (p + 1) q with
      | inr e => rw [hr] at g; exact ⟨g, fun y hy => by rw [pb_r] at hy; exact absurd hy (by simp)⟩
      | inl y =>
        obtain ⟨A, p', q'⟩ := y
        rw [hr] at g
        obtain ⟨g1, g2, g3, g4, g5, g6⟩ := GR_l.mp g
        rw [pb_l]
        by_cases c3 : σ p = 3005
        · rw [if_pos c3]
          by_cases c4 : σ p' = 3007
          · rw [if_pos c4]
            have hp2 := pT hT g3 (by omega)
            have k := pSum_g (o := true) hT 8 hp2 g5
            cases hr2 : pSum σ true 8 (p' + 1) q' with
            | inr e => rw [hr2] at k; exact ⟨k, fun y hy => by rw [pb_r] at hy; exact absurd hy (by simp)⟩
            | inl y =>
              obtain ⟨B, p2, q2⟩ := y
              rw [hr2] at k
              obtain ⟨k1, k2, k3, k4, k5, k6⟩ := GR_l.mp k
              rw [pb_l]
              have := (bl_le B).2
              have r := pTimes_g (q := q2) (p0 := p) (v := 2) (A := A) (B := B) hT k3 k5 (by omega) ⟨fun _ => ⟨g1, g6⟩, fun h => absurd (by show 2 ≠ 3; omega) h⟩ ⟨fun _ => ⟨k1, k6⟩, fun h => absurd ⟨rfl, rfl⟩ h⟩ (by omega) (by omega) (by omega)
              exact ⟨GC_q r.1, r.2⟩
          · rw [if_neg c4]; exact ⟨g3, fun y hy => absurd hy (by simp)⟩
        · rw [if_neg c3]
          have r := pTimes_g (q := q') (p0 := p) (v := σ p - 3003) (A := A) (B := []) hT g3 g5 (by omega) ⟨fun _ => ⟨g1, g6⟩, fun h => absurd (by show σ p - 3003 ≠ 3; omega) h⟩ ⟨fun h => absurd h.2 (by omega), fun _ => rfl⟩ (by omega) (by show 0 ≤ 50; omega) (by show 1 + A.length + 0 + p ≤ p'; omega)
          exact ⟨GC_q r.1, r.2⟩
  · rw [if_neg c]; exact ⟨hp, fun y hy => absurd hy (by simp)⟩
theorem pTail_g {σ : Nat → Nat} {o : Bool} {T p q : Nat} (hT : σ T = 4000) {r : CZ} (h : GC o T p q r) (hn : ∀ y, r = .inl y → y.1.2.2.2.2 = none) : GC o T p q (pTail σ o r) := by
  cases r with
  | inr e => exact h
  | inl y =>
    obtain ⟨⟨v, A, B, t, U⟩, p', q'⟩ := y
    have hU : U = none := hn _ rfl
    subst hU
    obtain ⟨h1, h2, h3, h4, h5, h6, h7, h8, h9, h10⟩ := h
    simp only at h1 h2 h3 h4 h5 h6 h7 h8 h9 h10
    unfold pTail
    simp only []
    by_cases c : σ p' = 3009
    · rw [if_pos c]
      have hp1 := pT hT h9 (by omega)
      have g := pTest_g (o := o) hT 8 hp1 h10
      cases hr : pTest σ o 8 (p' + 1) q' with
      | inr e => rw [hr] at g; exact g
      | inl z =>
        obtain ⟨V, p2, q2⟩ := z
        rw [hr] at g
        obtain ⟨g1, g2, g3, g4, g5, g6⟩ := GR_l.mp g
        rw [pb_l]
        refine ⟨h1, h2, h3, h4, fun W hW => ?_, h6, h7, ?_, g3, g5⟩
        · simp only [Option.some.injEq] at hW; subst hW; exact ⟨g1, by omega⟩
        · have e : 1 + A.length + bl B + 0 + p ≤ p' := h8
          show 1 + A.length + bl B + (1 + V.length) + p ≤ p2; omega
    · rw [if_neg c]
      exact ⟨h1, h2, h3, h4, h5, h6, h7, h8, h9, h10⟩
theorem pOne_g {σ : Nat → Nat} {o : Bool} {T p q : Nat} (hT : σ T = 4000) (hp : p ≤ T) (hq : q ≤ 50) : GC o T p q (pOne σ o p q) := by
  unfold pOne
  cases o with
  | true => rw [if_pos rfl]; exact pTail_g hT (pOrderH_g hT hp hq).1 (pOrderH_g hT hp hq).2
  | false => rw [if_neg (by decide)]; exact pTail_g hT (pRuleH_g hT hp hq).1 (pRuleH_g hT hp hq).2
/-! the class's clause -/
variable {σ pl : Nat → Nat} {T : Nat} {o : Bool}
def sgx (s : Sg) (a : Nat) (P : List Ins) (z : Nat) : Prop := EncX (s.1 36 0) a P ∧ rI s 36 0 (a + P.length) = nI 24576 ∧ a + P.length < z
def PlC (o : Bool) (s : Sg) (c : Nat) (x : Clz) (z : Nat) : Prop :=
  rI s 31 0 c = nI x.1 ∧ rI s 32 0 c = nI x.2.2.2.1 ∧ ((hasA o x.1 → ∃ a, rI s 33 0 c = nI a ∧ sgx s a x.2.1 z) ∧ (¬ hasA o x.1 → rI s 33 0 c = -1)) ∧ ((hasB o x.1 → ∃ a, rI s 34 0 c = nI a ∧ sgx s a x.2.2.1 z) ∧ (¬ hasB o x.1 → rI s 34 0 c = -1)) ∧
  (match x.2.2.2.2 with | none => rI s 35 0 c = -1 | some U => ∃ a, rI s 35 0 c = nI a ∧ sgx s a U z)
def KP (s s' : Sg) (z c : Nat) : Prop := (∀ i, i < z → rI s' 36 0 i = rI s 36 0 i) ∧ (∀ k i, 31 ≤ k → k ≤ 35 → i ≠ c → rI s' k 0 i = rI s k 0 i) ∧ rI s' 6 0 6 = rI s 6 0 6 ∧ (rI s' 8 0 8 = 0 → rI s 8 0 8 = 0)
def nlC (o : Bool) (s : Sg) (x : Clz) : Prop := rI s 8 0 8 = 0 → o = false → noLine x.2.1 ∧ ∀ U, x.2.2.2.2 = some U → noLine U
def CP (σ pl : Nat → Nat) (T : Nat) (o : Bool) (s s' : Sg) (c z : Nat) (x : Clz) (p' q' : Nat) : Prop :=
  ∃ z', XS s' σ pl T o p' q' z' ∧ z ≤ z' ∧ z' ≤ p' ∧ KP s s' z c ∧ PlC o s' c x z' ∧ nlC o s' x
def RC (σ pl : Nat → Nat) (T : Nat) (o : Bool) (s : Sg) (c z : Nat) (r : CZ) (x : Sg × Int32) : Prop :=
  match r with
  | .inr e => x.2 = 0 ∧ FX pl x.1 e
  | .inl y => x.2 = 1 ∧ CP σ pl T o s x.1 c z y.1 y.2.1 y.2.2
def SG (σ pl : Nat → Nat) (T : Nat) (o : Bool) (s s' : Sg) (z : Nat) (P : List Ins) (p q : Nat) : Prop :=
  XS s' σ pl T o p q (z + P.length + 1) ∧ sgx s' z P (z + P.length + 1) ∧ (∀ i, i < z → rI s' 36 0 i = rI s 36 0 i) ∧ (∀ k i, 31 ≤ k → k ≤ 35 → rI s' k 0 i = rI s k 0 i) ∧ rI s' 6 0 6 = rI s 6 0 6 ∧ (rI s' 8 0 8 = 0 → rI s 8 0 8 = 0 ∧ (o = false → noLine P))
def RG (σ pl : Nat → Nat) (T : Nat) (o : Bool) (s : Sg) (z : Nat) (r : PR) (x : Sg × Int32) : Prop :=
  match r with
  | .inr e => x.2 = 0 ∧ FX pl x.1 e
  | .inl y => x.2 = 1 ∧ SG σ pl T o s x.1 z y.1 y.2.1 y.2.2
def keepA (f : Sg → Option (Sg × Int32)) : Prop := ∀ s y, f s = some y → ∀ k i, 31 ≤ k → k ≤ 35 → rI y.1 k 0 i = rI s k 0 i
theorem keep_sum : keepA (fun s => x6_readSum (x6_readBracketed DR) s 0) := by
  intro s y h k i h1 h2
  have F := fr_x6_readSum _ (fr_x6_readBracketed DR) s 0 y h
  exact F.i k 0 i (by intro x; simp [hit] at x; omega)
theorem keep_test : keepA (fun s => x6_readTest (x6_readBracketed DR) s 0) := by
  intro s y h k i h1 h2
  have F := fr_x6_readTest _ (fr_x6_readBracketed DR) s 0 y h
  exact F.i k 0 i (by intro x; simp [hit] at x; omega)
theorem x_seg {W : List Ins → Prop} (K : TK σ pl T) {f : Sg → Option (Sg × Int32)} {pure : Nat → Nat → PR} (hf : SX σ pl T o f pure) (hk : keepA f) {s : Sg} {p q z : Nat} (h : XS s σ pl T o p q z) (hp : p ≤ T) (hq : q ≤ 50) (hz : z ≤ p + 20) (hg : GR W T p q (pure p q)) : ok ((f s).bind fun x => (x8_emit x.1 0 6 0).bind fun s' => some (s', x.2)) (RG σ pl T o s z (pure p q)) := by
  have T4 := K.1
  obtain ⟨x, ex, hx⟩ := hf s p q z h hp hq (by omega)
  have kk := hk s x ex
  rw [ex]
  simp only [Option.bind_some]
  cases hr : pure p q with
  | inr e =>
    rw [hr] at hx
    obtain ⟨s', e1, e2⟩ := em_f hx.2 6 0
    rw [e1]
    exact ok_some ⟨hx.1, e2⟩
  | inl y =>
    obtain ⟨P, p', q'⟩ := y
    rw [hr] at hx hg
    obtain ⟨x1, r1, r2, r3, r4, r5⟩ := RX_l.mp hx
    obtain ⟨g1, g2, g3, g4, g5, g6⟩ := GR_l.mp hg
    rw [show (6 : Int32) = nI 6 from rfl, show (0 : Int32) = nI 0 from rfl, xs_emit r1 (by omega) (by omega) (by omega)]
    simp only [Option.bind_some]
    refine ok_some ⟨x1, XS_w r1, ⟨EncX_c (fun i _ hi => ?_) r2, ?_, by omega⟩, fun i hi => ?_, fun k i h1 h2 => ?_, ?_, fun hf' => ?_⟩
    · have hi : i < z + P.length := hi
      show rI (wI (wI x.1 36 0 (z + P.length) _) 8 0 7 _) 36 0 i = rI x.1 36 0 i
      rw [rI_ne (by omega), rI_ne (by omega)]
    · rw [rI_ne (by omega), rI_eq rfl]
    · rw [rI_ne (by omega), rI_ne (by omega)]; exact r3 i hi
    · rw [rI_ne (by omega), rI_ne (by omega)]; exact kk k i h1 h2
    · rw [rI_ne (by omega), rI_ne (by omega)]; exact r4
    · rw [rI_ne (by omega), rI_ne (by omega)] at hf'; exact r5 hf'
theorem XS_arr {s : Sg} {p q z k c : Nat} {v : Int32} (h : XS s σ pl T o p q z) (hk : 31 ≤ k ∧ k ≤ 35) : XS (wI s k 0 c v) σ pl T o p q z := by
  obtain ⟨h1, h2, h3, h4, h5, h6, h7⟩ := h
  refine ⟨fun j hj => ?_, ?_, ?_, ?_, ?_, h6, ?_⟩
  · rw [rI_ne (by omega), rI_ne (by omega)]; exact h1 j hj
  · rw [rI_ne (by omega)]; exact h2
  · rw [rI_ne (by omega)]; exact h3
  · rw [rI_ne (by omega)]; exact h4
  · rw [rI_ne (by omega)]; exact h5
  · rw [rI_ne (by omega)]; exact h7
theorem sgx_c {s s' : Sg} {a z z' : Nat} {P : List Ins} (h : sgx s a P z) (g : ∀ i, i < z → rI s' 36 0 i = rI s 36 0 i) (hz : z ≤ z') : sgx s' a P z' := by
  obtain ⟨h1, h2, h3⟩ := h
  exact ⟨EncX_c (fun i _ hi => g i (by omega)) h1, by rw [g _ h3]; exact h2, by omega⟩
theorem FX_arr {s : Sg} {e k c : Nat} {v : Int32} (h : FX pl s e) (hk : 31 ≤ k ∧ k ≤ 35) : FX pl (wI s k 0 c v) e := ⟨by rw [rI_ne (by omega)]; exact h.1, h.2⟩
theorem sub_c {a b : Nat} {w : Int32} (hw : w.toInt = b) (h : b ≤ a) (ha : a ≤ 4000) : nI a - w = nI (a - b) := by
  rw [ti_eq, ti_sub (by rw [nI_ti (by omega), hw]; omega) (by rw [nI_ti (by omega), hw]; omega), nI_ti (by omega), nI_ti (by omega), hw]; omega
theorem x_rule (K : TK σ pl T) {s : Sg} {p q z c : Nat} (h : XS s σ pl T false p q z) (hp : p ≤ T) (hq : q ≤ 50) (hz : z ≤ p) (hc : c < 12) (a2 : rI s 32 0 c = nI 1) (a3 : rI s 33 0 c = -1) (a4 : rI s 34 0 c = -1) (a5 : rI s 35 0 c = -1) : ok (x6_readRule s (nI c)) (RC σ pl T false s c z (pRuleH σ p q)) := by
  have T4 := K.1
  have sp := K.2.2.1 p
  have km : (-1 : Int32).toInt = -1 := by decide
  have bc : inb (nI c) 12 := inb_nI (by omega) hc
  have ic : ix (nI c) = c := ix_nI (by omega)
  unfold x6_readRule x6_readRule_G pRuleH
  by_cases c1 : 3000 ≤ σ p ∧ σ p ≤ 3002
  · rw [if_pos c1, xs_from_y K h hp li_3000 li_3002 c1]
    have hp1 := pT K.2.1 hp (by omega)
    simp only [Option.bind_some, gdB0, gdB1, gd_t bc, ic]
    rw [gif_f (by rw [ti_eq, nI_ti (by omega), km]; omega), sub_c (b := 3000) li_3000 (by omega) (by omega)]
    have h1 := XS_adv h (by omega)
    have av : ∀ k i x, ¬ (k = 6 ∧ x = 3) → rI (adv s) k i x = rI s k i x := fun k i x hn => by unfold adv; rw [rI_ne (by omega)]
    by_cases c2 : σ p = 3002
    · rw [if_pos c2, gif_t ((sg_eq K li_3002).mpr c2)]
      refine ok_some ⟨rfl, z, XS_arr h1 (by omega), Nat.le_refl _, by show z ≤ p + 1; omega, ⟨fun i _ => ?_, fun k i k1 k2 hi => ?_, ?_, fun hf => ?_⟩, ⟨?_, ?_, ⟨fun hA => absurd rfl hA, fun _ => ?_⟩, ⟨fun hB => absurd hB.1 (by decide), fun _ => ?_⟩, ?_⟩, fun _ _ => ⟨fun i hi => absurd hi (by simp), fun U hU => absurd hU (by simp)⟩⟩
      · rw [rI_ne (by omega), av _ _ _ (by omega)]
      · rw [rI_ne (by omega), av _ _ _ (by omega)]
      · rw [rI_ne (by omega), av _ _ _ (by omega)]
      · rw [rI_ne (by omega), av _ _ _ (by omega)] at hf; exact hf
      · rw [rI_eq rfl, c2]
      · rw [rI_ne (by omega), av _ _ _ (by omega)]; exact a2
      · rw [rI_ne (by omega), av _ _ _ (by omega)]; exact a3
      · rw [rI_ne (by omega), av _ _ _ (by omega)]; exact a4
      · show rI (wI (adv s) 31 0 c _) 35 0 c = -1
        rw [rI_ne (by omega), av _ _ _ (by omega)]; exact a5
    · rw [if_neg c2, gif_f (fun x => c2 ((sg_eq K li_3002).mp x))]
      have h2 := XS_arr (k := 31) (c := c) (v := nI (σ p - 3000)) h1 (by omega)
      have e7 : rI (wI (adv s) 31 0 c (nI (σ p - 3000))) 8 0 7 = nI z := h2.2.2.2.2.1
      rw [e7]
      have h3 := XS_arr (k := 33) (c := c) (v := nI z) h2 (by omega)
      have g := pSum_g (o := false) K.2.1 8 hp1 hq
      obtain ⟨y, hy, hG⟩ := x_seg K (x_sum0 K) keep_sum h3 hp1 hq (by omega) g
      obtain ⟨x, hx, hy2⟩ := Option.bind_eq_some_iff.mp hy
      obtain ⟨s5, hs5, hy3⟩ := Option.bind_eq_some_iff.mp hy2
      simp only [Option.some.injEq] at hy3
      subst hy3
      rw [hx]
      simp only [Option.bind_some]
      rw [hs5]
      simp only [Option.bind_some]
      cases hr : pSum σ false 8 (p + 1) q with
      | inr e =>
        rw [hr] at hG
        rw [gd_t (.inl hG.1), pb_r]
        exact ok_some ⟨hG.1, hG.2⟩
      | inl w =>
        obtain ⟨A, p', q'⟩ := w
        rw [hr] at hG g
        obtain ⟨g1, g2, g3, g4, g5, g6⟩ := GR_l.mp g
        obtain ⟨y1, G1, G2, G3, G4, G5, G6⟩ := hG
        simp only at y1 G1 G2 G3 G4 G5 G6
        rw [gd_t (.inr y1), pb_l]
        refine ok_some ⟨y1, z + A.length + 1, G1, by omega, by show z + A.length + 1 ≤ p'; omega, ⟨fun i hi => ?_, fun k i k1 k2 hi => ?_, ?_, fun hf => ?_⟩, ⟨?_, ?_, ⟨fun _ => ⟨z, ?_, G2⟩, fun hA => absurd (by show σ p - 3000 ≠ 2; omega) hA⟩, ⟨fun hB => absurd hB.1 (by decide), fun _ => ?_⟩, ?_⟩, fun hf _ => ⟨(G6 hf).2 trivial, fun U hU => absurd hU (by simp)⟩⟩
        · simp only []; rw [G3 i hi, rI_ne (by omega), rI_ne (by omega), av _ _ _ (by omega)]
        · simp only []; rw [G4 k i k1 k2, rI_ne (by omega), rI_ne (by omega), av _ _ _ (by omega)]
        · simp only []; rw [G5, rI_ne (by omega), rI_ne (by omega), av _ _ _ (by omega)]
        · have := (G6 hf).1
          rw [rI_ne (by omega), rI_ne (by omega), av _ _ _ (by omega)] at this; exact this
        · simp only []; rw [G4 31 c (by omega) (by omega), rI_ne (by omega), rI_eq rfl]
        · simp only []; rw [G4 32 c (by omega) (by omega), rI_ne (by omega), rI_ne (by omega), av _ _ _ (by omega)]; exact a2
        · simp only []; rw [G4 33 c (by omega) (by omega), rI_eq rfl]
        · simp only []; rw [G4 34 c (by omega) (by omega), rI_ne (by omega), rI_ne (by omega), av _ _ _ (by omega)]; exact a4
        · show rI s5 35 0 c = -1
          rw [G4 35 c (by omega) (by omega), rI_ne (by omega), rI_ne (by omega), av _ _ _ (by omega)]; exact a5
  · rw [if_neg c1, xs_from_n K h hp li_3000 li_3002 c1]
    simp only [Option.bind_some, gdB0]
    rw [gif_t trivial]
    exact ok_some ⟨rfl, fx_fail h⟩
