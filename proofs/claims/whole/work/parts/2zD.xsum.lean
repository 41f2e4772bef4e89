/-! the class's sums -/
variable {σ pl : Nat → Nat} {T : Nat} {o : Bool}
theorem x_instr (s : Sg) {a : Nat} (ha : a ≤ 4000) : x6_instructionOf s (nI a) = some (s, if opS a ≠ 0 then nI (opS a) else if opT a ≠ 0 then nI (opT a) else if opC a ≠ 0 then nI (opC a) else -1) := by
  have e : ∀ (w : Int32) (m : Nat), w.toInt = m → ((nI a = w) ↔ a = m) := fun w m hm => by rw [ti_eq, nI_ti (by omega), hm]; omega
  unfold x6_instructionOf x6_instructionOf_G
  have r : ∀ (w : Int32) (m : Nat) (v r : Int32) (x : Option (Sg × Int32)), w.toInt = m → (a = m → v = r) → (a ≠ m → x = some (s, r)) → gif (nI a = w) (some (s, v)) x = some (s, r) := by
    intro w m v r x hm h1 h2
    by_cases c : a = m
    · rw [gif_t ((e w m hm).mpr c), h1 c]
    · rw [gif_f (fun y => c ((e w m hm).mp y)), h2 c]
  unfold opS opT opC
  refine r _ 2037 _ _ _ li_2037 (fun c => by subst c; rfl) (fun n1 => ?_)
  refine r _ 2038 _ _ _ li_2038 (fun c => by subst c; rfl) (fun n2 => ?_)
  refine r _ 2039 _ _ _ li_2039 (fun c => by subst c; rfl) (fun n3 => ?_)
  refine r _ 2040 _ _ _ li_2040 (fun c => by subst c; rfl) (fun n4 => ?_)
  refine r _ 2041 _ _ _ li_2041 (fun c => by subst c; rfl) (fun n5 => ?_)
  refine r _ 2042 _ _ _ li_2042 (fun c => by subst c; rfl) (fun n6 => ?_)
  refine r _ 2043 _ _ _ li_2043 (fun c => by subst c; rfl) (fun n7 => ?_)
  refine r _ 2044 _ _ _ li_2044 (fun c => by subst c; rfl) (fun n8 => ?_)
  refine r _ 2045 _ _ _ li_2045 (fun c => by subst c; rfl) (fun n9 => ?_)
  refine r _ 2046 _ _ _ li_2046 (fun c => by subst c; rfl) (fun n10 => ?_)
  refine r _ 2047 _ _ _ li_2047 (fun c => by subst c; rfl) (fun n11 => ?_)
  refine r _ 2048 _ _ _ li_2048 (fun c => by subst c; rfl) (fun n12 => ?_)
  refine r _ 2049 _ _ _ li_2049 (fun c => by subst c; rfl) (fun n13 => ?_)
  refine r _ 2050 _ _ _ li_2050 (fun c => by subst c; rfl) (fun n14 => ?_)
  refine r _ 2051 _ _ _ li_2051 (fun c => by subst c; rfl) (fun n15 => ?_)
  refine r _ 2052 _ _ _ li_2052 (fun c => by subst c; rfl) (fun n16 => ?_)
  refine r _ 2053 _ _ _ li_2053 (fun c => by subst c; rfl) (fun n17 => ?_)
  refine r _ 2054 _ _ _ li_2054 (fun c => by subst c; rfl) (fun n18 => ?_)
  refine r _ 2055 _ _ _ li_2055 (fun c => by subst c; rfl) (fun n19 => ?_)
  refine r _ 2056 _ _ _ li_2056 (fun c => by subst c; rfl) (fun n20 => ?_)
  refine r _ 2057 _ _ _ li_2057 (fun c => by subst c; rfl) (fun n21 => ?_)
  refine r _ 2058 _ _ _ li_2058 (fun c => by subst c; rfl) (fun n22 => ?_)
  refine r _ 2059 _ _ _ li_2059 (fun c => by subst c; rfl) (fun n23 => ?_)
  refine r _ 2060 _ _ _ li_2060 (fun c => by subst c; rfl) (fun n24 => ?_)
  refine r _ 2061 _ _ _ li_2061 (fun c => by subst c; rfl) (fun n25 => ?_)
  refine r _ 2062 _ _ _ li_2062 (fun c => by subst c; rfl) (fun n26 => ?_)
  rw [if_neg n7, if_neg n9, if_neg n6, if_neg n11, if_neg n1, if_neg n24, if_neg n26, if_neg n25]
  rfl
/-- what the sign asks for: by the three readings -/
theorem x_ins_S {a : Nat} (h : opS a ≠ 0) : (if opS a ≠ 0 then nI (opS a) else if opT a ≠ 0 then nI (opT a) else if opC a ≠ 0 then nI (opC a) else (-1 : Int32)) = nI (opS a) := if_pos h
theorem x_ins_T {a : Nat} (h : opT a ≠ 0) : (if opS a ≠ 0 then nI (opS a) else if opT a ≠ 0 then nI (opT a) else if opC a ≠ 0 then nI (opC a) else (-1 : Int32)) = nI (opT a) := by
  have : opS a = 0 := by
    unfold opT at h; unfold opS
    by_cases c : a = 2043
    · subst c; exact absurd rfl h
    · by_cases d : a = 2045
      · subst d; exact absurd rfl h
      · rw [if_neg c, if_neg d]
  rw [if_neg (by omega), if_pos h]
theorem x_ins_C {a : Nat} (h : opC a ≠ 0) : (if opS a ≠ 0 then nI (opS a) else if opT a ≠ 0 then nI (opT a) else if opC a ≠ 0 then nI (opC a) else (-1 : Int32)) = nI (opC a) := by
  have h1 : opS a = 0 := by
    unfold opC at h; unfold opS
    by_cases c : a = 2043
    · subst c; exact absurd rfl h
    · by_cases d : a = 2045
      · subst d; exact absurd rfl h
      · rw [if_neg c, if_neg d]
  have h2 : opT a = 0 := by
    unfold opC at h; unfold opT
    by_cases c : a = 2042
    · subst c; exact absurd rfl h
    · by_cases d : a = 2047
      · subst d; exact absurd rfl h
      · by_cases e : a = 2037
        · subst e; exact absurd rfl h
        · rw [if_neg c, if_neg d, if_neg e]
  rw [if_neg (by omega), if_neg (by omega), if_pos h]
theorem opS_c (a : Nat) : opS a = 0 ∨ opS a = 7 ∨ opS a = 8 := by
  unfold opS
  by_cases c : a = 2043
  · rw [if_pos c]; omega
  · rw [if_neg c]; by_cases d : a = 2045
    · rw [if_pos d]; omega
    · rw [if_neg d]; omega
theorem opT_c (a : Nat) : opT a = 0 ∨ (9 ≤ opT a ∧ opT a ≤ 11) := by
  unfold opT
  by_cases c : a = 2042
  · rw [if_pos c]; omega
  · rw [if_neg c]; by_cases d : a = 2047
    · rw [if_pos d]; omega
    · rw [if_neg d]; by_cases e : a = 2037
      · rw [if_pos e]; omega
      · rw [if_neg e]; omega
/-- the value in numbers: in none of the loop's range if the reading has none -/
def ins (a : Nat) : Int32 := if opS a ≠ 0 then nI (opS a) else if opT a ≠ 0 then nI (opT a) else if opC a ≠ 0 then nI (opC a) else -1
theorem ins_T {a : Nat} (h : opT a = 0) : ¬ (9 ≤ (ins a).toInt ∧ (ins a).toInt ≤ 11) := by
  unfold ins
  by_cases c : opS a ≠ 0
  · rw [if_pos c]; have := opS_c a; rw [nI_ti (by omega)]; omega
  · rw [if_neg c, if_neg (by omega)]
    by_cases d : opC a ≠ 0
    · rw [if_pos d]; have := opC_ok a; rw [nI_ti (by omega)]; omega
    · rw [if_neg d, show (-1 : Int32).toInt = -1 by decide]; omega
theorem ins_S {a : Nat} (h : opS a = 0) : ¬ ((ins a).toInt = 7 ∨ (ins a).toInt = 8) := by
  unfold ins
  rw [if_neg (by omega)]
  by_cases c : opT a ≠ 0
  · rw [if_pos c]; have := opT_c a; rw [nI_ti (by omega)]; omega
  · rw [if_neg c]
    by_cases d : opC a ≠ 0
    · rw [if_pos d]; have := opC_ok a; rw [nI_ti (by omega)]; omega
    · rw [if_neg d, show (-1 : Int32).toInt = -1 by decide]; omega
theorem ins_C {a : Nat} (h : opC a = 0) : (ins a).toInt < 12 := by
  unfold ins
  by_cases c : opS a ≠ 0
  · rw [if_pos c]; have := opS_c a; rw [nI_ti (by omega)]; omega
  · rw [if_neg c]
    by_cases d : opT a ≠ 0
    · rw [if_pos d]; have := opT_c a; rw [nI_ti (by omega)]; omega
    · rw [if_neg d, if_neg (by omega), show (-1 : Int32).toInt = -1 by decide]; omega
/-- the loop's states -/
def LI (σ pl : Nat → Nat) (T : Nat) (o : Bool) (W : List Ins → Prop) (s0 : Sg) (p0 q0 z : Nat) (R0 : PR) (L : Nat → List Ins → Nat → Nat → PR) (s : Sg) (l2 l3 : Int32) : Prop :=
  ∃ i : Nat, l3.toInt = i ∧ i ≤ 400 ∧ ((l2 = 0 ∧ ∃ e, R0 = .inr e ∧ FX pl s e) ∨ (l2 = 1 ∧ ∃ n P p q, R0 = L n P p q ∧ RS σ pl T o s0 s z P p q ∧ GR W T p0 q0 (.inl (P, p, q)) ∧ 402 ≤ n + p ∧ 2 * i ≤ p))
/-- after an operator: the next part, its sign told behind it -/
theorem x_next {W : List Ins → Prop} {s0 s : Sg} {p0 q0 z i : Nat} {R0 : PR} {op : Nat → Nat} {sub : Nat → Nat → PR} {f : Sg → Option (Sg × Int32)} (K : TK σ pl T) (hf : SX σ pl T o f sub) (hg : ∀ p q, p ≤ T → q ≤ 50 → GR (wfS (nfo o)) T p q (sub p q)) (hz0 : z ≤ p0 + 30)
    {n : Nat} {P : List Ins} {p q : Nat} (hR : R0 = lp σ op sub n P p q) (hS : RS σ pl T o s0 s z P p q) (hG : GR (wfS (nfo o)) T p0 q0 (.inl (P, p, q))) (hn : 402 ≤ n + p) (hi : 2 * i ≤ p) {w : Nat} (hw : op (σ p) = w) (w7 : 7 ≤ w ∧ w ≤ 14) (ho : opOK op) :
    ok ((f (adv s)).bind fun x => (x8_emit x.1 0 (nI w) 0).bind fun s' => some (s', x.2)) (fun y => ∀ l3 : Int32, l3.toInt = (i + 1 : Nat) → i + 1 ≤ 400 → LI σ pl T o (wfS (nfo o)) s0 p0 q0 z R0 (lp σ op sub) y.1 y.2 l3) := by
  have T4 := K.1
  obtain ⟨g1, g2, g3, g4, g5, g6⟩ := GR_l.mp hG
  have hp1 := pT K.2.1 g3 ((ho (σ p)).resolve_left (by omega)).2.2
  have hS1 := RS_adv hS (by omega)
  obtain ⟨m, rfl⟩ : ∃ m, n = m + 1 := ⟨n - 1, by omega⟩
  rw [lp_s, if_neg (by omega)] at hR
  have gs := hg (p + 1) q hp1 g5
  refine ok_bind (ok_mono (hf (adv s) (p + 1) q (z + P.length) hS1.1 hp1 g5 (by omega)) (fun x hx => ?_))
  cases hr : sub (p + 1) q with
  | inr e =>
    rw [hr] at hx hR
    obtain ⟨x1, x2⟩ := RX_r.mp hx
    obtain ⟨s', e1, e2⟩ := em_f x2 (nI w) 0
    rw [e1]
    refine ok_some (fun l3 h3 h4 => ⟨i + 1, h3, h4, .inl ⟨x1, e, hR, e2⟩⟩)
  | inl y =>
    obtain ⟨Q, p', q'⟩ := y
    rw [hr] at hx hR gs
    obtain ⟨x1, x2⟩ := RX_l.mp hx
    obtain ⟨k1, k2, k3, k4, k5, k6⟩ := GR_l.mp gs
    have ra := RS_app hS1 x2
    obtain ⟨s', e1, e2⟩ := RS_emit ra (by rw [List.length_append]; omega) (a := w) (b := 0) (by omega) (by omega) (.inr ⟨rfl, by omega, by omega⟩) (fun _ _ => by omega)
    rw [show (0 : Int32) = nI 0 from rfl, e1]
    have hw' : P ++ Q ++ [(op (σ p), 0)] = P ++ Q ++ [(w, 0)] := by rw [hw]
    refine ok_some (fun l3 h3 h4 => ⟨i + 1, h3, h4, .inr ⟨x1, m, P ++ Q ++ [(w, 0)], p', q', by rw [hR, pb_l, hw'], e2, GR_l.mpr ⟨wfS_op g1 k1 (by omega), ?_, k3, ?_, k5, ?_⟩, by omega, by omega⟩⟩)
    · simp only [List.length_append, List.length_cons, List.length_nil]; omega
    · rw [pushes_app, pushes_app]; have : pushes [((w, 0) : Ins)] = 0 := by
        show (if w = 1 ∨ w = 2 then 1 else 0) + 0 = 0
        rw [if_neg (by omega)]
      omega
    · simp only [List.length_append]; omega
theorem x_term (K : TK σ pl T) {rb : Sg → Int32 → Option (Sg × Int32)} {D : Int32} {part : Nat → Nat → PR} (hf : SX σ pl T o (fun s => x6_readPart rb s D) part) (hg : ∀ p q, p ≤ T → q ≤ 50 → GR (wfS (nfo o)) T p q (part p q)) : SX σ pl T o (fun s => x6_readTerm rb s D) (pTerm σ part) := by
  intro s p q z h hp hq hz
  have T4 := K.1
  show ok (x6_readTerm rb s D) _
  unfold x6_readTerm x6_readTerm_G
  refine ok_bind (ok_mono (hf s p q z h hp hq hz) (fun x hx => ?_))
  have gs := hg p q hp hq
  have st : LI σ pl T o (wfS (nfo o)) s p q z (pTerm σ part p q) (lp σ opT part) x.1 x.2 0 := by
    refine ⟨0, rfl, by omega, ?_⟩
    unfold pTerm
    cases hr : part p q with
    | inr e => rw [hr] at hx; exact .inl ⟨hx.1, e, rfl, hx.2⟩
    | inl y =>
      obtain ⟨P, p', q'⟩ := y
      rw [hr] at hx gs
      exact .inr ⟨hx.1, 402, P, p', q', rfl, hx.2, gs, by omega, by omega⟩
  refine ok_loop (K := fun n (y : Sg × Int32 × Int32) => x6_readTerm_b8 rb n y.1 D y.2.1 y.2.2) (I := fun y => LI σ pl T o (wfS (nfo o)) s p q z (pTerm σ part p q) (lp σ opT part) y.1 y.2.1 y.2.2)
    (μ := fun y => 401 - y.2.2.toInt.toNat) ?_ FU (x.1, x.2, 0) st (by show _ < 20000; omega)
  rintro n ⟨s2, l2, l3⟩ ⟨i, i1, i2, hI⟩ ih
  simp only at i1 hI ih
  show ok (x6_readTerm_b8_G _ _ _ _ _ s2 D l2 l3) _
  unfold x6_readTerm_b8_G
  rcases hI with ⟨rfl, e, hR, hF⟩ | ⟨rfl, m, P, p', q', hR, hS, hG, hn, h2i⟩
  · simp only [gdB0, gif_t]
    have fin : ok (some (s2, (0 : Int32))) (RX σ pl T o s z (pTerm σ part p q)) := ok_some (by rw [hR]; exact ⟨rfl, hF⟩)
    exact ok_gif (fun _ => fin) (fun _ => fin)
  · have p'T := (GR_l.mp hG).2.2.1
    rw [gif_t (by rw [ti_lt, i1, li_400]; omega), gif_f (by decide), xs_sign K hS.1 p'T]
    simp only [Option.bind_some, gdB1]
    rw [x_instr _ (K.2.2.1 p')]
    simp only [Option.bind_some]
    have fin : opT (σ p') = 0 → ok (some (s2, (1 : Int32))) (RX σ pl T o s z (pTerm σ part p q)) := by
      intro c
      obtain ⟨m', rfl⟩ : ∃ m', m = m' + 1 := ⟨m - 1, by omega⟩
      rw [lp_s, if_pos c] at hR
      exact ok_some (by rw [hR]; exact ⟨rfl, hS⟩)
    by_cases c : opT (σ p') = 0
    · have ni := ins_T c
      show ok (gif (ins (σ p') < 9) _ (gif (11 < ins (σ p')) _ _)) _
      refine ok_gif (fun _ => fin c) (fun d1 => ok_gif (fun _ => fin c) (fun d2 => ?_))
      rw [ti_lt, li_9] at d1
      rw [ti_lt, li_11] at d2
      exact absurd (by omega) ni
    · have w := (opT_c (σ p')).resolve_left c
      rw [x_ins_T c, gif_f (by rw [ti_lt, nI_ti (by omega), li_9]; omega), gif_f (by rw [ti_lt, nI_ti (by omega), li_11]; omega)]
      have nx := x_next (W := wfS (nfo o)) K hf hg hz hR hS hG hn h2i (w := opT (σ p')) rfl (by omega) opT_ok
      obtain ⟨⟨s4, l4⟩, h4, hI4⟩ := nx
      have t1 : (l3 + 1).toInt = (i + 1 : Nat) := by rw [ti_add (by rw [i1, li_1]; omega) (by rw [i1, li_1]; omega), i1, li_1]; omega
      have go := ih (s4, l4, l3 + 1) (hI4 (l3 + 1) t1 (by omega)) (by simp only [t1, i1]; omega)
      simp only [] at go
      show ok ((x6_readPart rb (adv s2) D).bind fun q4 => (x8_emit q4.1 0 (nI (opT (σ p'))) 0).bind fun s5 => x6_readTerm_b8 rb n s5 D q4.2 (l3 + 1)) _
      obtain ⟨y, hy, hy2⟩ := Option.bind_eq_some_iff.mp h4
      obtain ⟨s5, hs5, hs6⟩ := Option.bind_eq_some_iff.mp hy2
      simp only [Option.some.injEq, Prod.mk.injEq] at hs6
      rw [hy]
      simp only [Option.bind_some]
      rw [hs5]
      simp only [Option.bind_some]
      rw [hs6.1, hs6.2]
      exact go
theorem x_sum (K : TK σ pl T) {rb : Sg → Int32 → Option (Sg × Int32)} {D : Int32} {term : Nat → Nat → PR} (hf : SX σ pl T o (fun s => x6_readTerm rb s D) term) (hg : ∀ p q, p ≤ T → q ≤ 50 → GR (wfS (nfo o)) T p q (term p q)) : SX σ pl T o (fun s => x6_readSum rb s D) (fun p q => pb (term p q) (fun P p' q' => lp σ opS term 402 P p' q')) := by
  intro s p q z h hp hq hz
  have T4 := K.1
  show ok (x6_readSum rb s D) (RX σ pl T o s z (pb (term p q) (fun P p' q' => lp σ opS term 402 P p' q')))
  unfold x6_readSum x6_readSum_G
  refine ok_bind (ok_mono (hf s p q z h hp hq hz) (fun x hx => ?_))
  have gs := hg p q hp hq
  have st : LI σ pl T o (wfS (nfo o)) s p q z (pb (term p q) (fun P p' q' => lp σ opS term 402 P p' q')) (lp σ opS term) x.1 x.2 0 := by
    refine ⟨0, rfl, by omega, ?_⟩
    cases hr : term p q with
    | inr e => rw [hr] at hx; exact .inl ⟨hx.1, e, rfl, hx.2⟩
    | inl y =>
      obtain ⟨P, p', q'⟩ := y
      rw [hr] at hx gs
      exact .inr ⟨hx.1, 402, P, p', q', rfl, hx.2, gs, by omega, by omega⟩
  generalize pb (term p q) (fun P p' q' => lp σ opS term 402 P p' q') = R0 at st ⊢
  refine ok_loop (K := fun n (y : Sg × Int32 × Int32) => x6_readSum_b8 rb n y.1 D y.2.1 y.2.2) (I := fun y => LI σ pl T o (wfS (nfo o)) s p q z R0 (lp σ opS term) y.1 y.2.1 y.2.2)
    (μ := fun y => 401 - y.2.2.toInt.toNat) ?_ FU (x.1, x.2, 0) st (by show _ < 20000; omega)
  rintro n ⟨s2, l2, l3⟩ ⟨i, i1, i2, hI⟩ ih
  simp only at i1 hI ih
  show ok (x6_readSum_b8_G _ _ _ s2 D l2 l3) _
  unfold x6_readSum_b8_G
  rcases hI with ⟨rfl, e, hR, hF⟩ | ⟨rfl, m, P, p', q', hR, hS, hG, hn, h2i⟩
  · simp only [gdB0, gif_t]
    have fin : ok (some (s2, (0 : Int32))) (RX σ pl T o s z R0) := ok_some (by rw [hR]; exact ⟨rfl, hF⟩)
    exact ok_gif (fun _ => fin) (fun _ => fin)
  · have p'T := (GR_l.mp hG).2.2.1
    rw [gif_t (by rw [ti_lt, i1, li_400]; omega), gif_f (by decide), xs_sign K hS.1 p'T]
    simp only [Option.bind_some, gdB1]
    rw [x_instr _ (K.2.2.1 p')]
    simp only [Option.bind_some]
    by_cases c : opS (σ p') = 0
    · have ni := ins_S c
      show ok (gif (ins (σ p') = 7) _ (gif (ins (σ p') = 8) _ _)) _
      refine ok_gif (fun d => ?_) (fun _ => ok_gif (fun d => ?_) (fun _ => ?_))
      · rw [d] at ni; exact absurd (.inl li_7) ni
      · rw [d] at ni; exact absurd (.inr li_8) ni
      · obtain ⟨m', rfl⟩ : ∃ m', m = m' + 1 := ⟨m - 1, by omega⟩
        rw [lp_s, if_pos c] at hR
        exact ok_some (by rw [hR]; exact ⟨rfl, hS⟩)
    · have w := (opS_c (σ p')).resolve_left c
      rw [x_ins_S c]
      have nx := x_next (W := wfS (nfo o)) K hf hg hz hR hS hG hn h2i (w := opS (σ p')) rfl (by omega) opS_ok
      obtain ⟨⟨s4, l4⟩, h4, hI4⟩ := nx
      have t1 : (l3 + 1).toInt = (i + 1 : Nat) := by rw [ti_add (by rw [i1, li_1]; omega) (by rw [i1, li_1]; omega), i1, li_1]; omega
      have go := ih (s4, l4, l3 + 1) (hI4 (l3 + 1) t1 (by omega)) (by simp only [t1, i1]; omega)
      simp only [] at go
      have k44 : ok (x6_readSum_b44 rb (x6_readSum_b8 rb n) s2 D l3 (nI (opS (σ p')))) (RX σ pl T o s z R0) := by
        show ok ((x6_readTerm rb (adv s2) D).bind fun q4 => (x8_emit q4.1 0 (nI (opS (σ p'))) 0).bind fun s5 => x6_readSum_b8 rb n s5 D q4.2 (l3 + 1)) _
        obtain ⟨y, hy, hy2⟩ := Option.bind_eq_some_iff.mp h4
        obtain ⟨s5, hs5, hs6⟩ := Option.bind_eq_some_iff.mp hy2
        simp only [Option.some.injEq, Prod.mk.injEq] at hs6
        rw [hy]
        simp only [Option.bind_some]
        rw [hs5]
        simp only [Option.bind_some]
        rw [hs6.1, hs6.2]
        exact go
      refine ok_gif (fun d => ?_) (fun d => ok_gif (fun d2 => k44) (fun d2 => ?_))
      · exact k44
      · rw [ti_eq, nI_ti (by omega), li_7] at d
        rw [ti_eq, nI_ti (by omega), li_8] at d2
        omega
