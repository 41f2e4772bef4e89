variable {σ : Nat → Nat} {T : Nat}
theorem Told_c {s s' : Sg} {f : Nat → Int32} {C : List Cla} {n : Nat} (h : Told s f C n) (e7 : rI s' 7 0 4 = rI s 7 0 4) (e74 : ∀ w j, rI s' 74 w j = rI s 74 w j) : Told s' f C n := by
  refine ⟨by rw [e7]; exact h.1, fun j hj => ?_⟩
  have := h.2 j hj
  unfold ToldR at this ⊢
  rw [e74, e74, e74, e74, e74, e74, e74]; exact this
theorem fit_0 {f : Nat → Int32} {C : List Cla} {n : Nat} : ∀ k : Nat, k ≤ 24 → 0 ≤ (tsum (aval f C n 2) k).toInt ∧ (tsum (aval f C n 2) k).toInt ≤ k := by
  intro k
  induction k with
  | zero => intro _; show 0 ≤ (0 : Int32).toInt ∧ (0 : Int32).toInt ≤ ((0 : Nat) : Int); decide
  | succ k ih =>
    intro hk
    have i1 := ih (by omega)
    have b : 0 ≤ (aval f C n 2 k).toInt ∧ (aval f C n 2 k).toInt ≤ 1 := by
      have : ∀ p : Prop, 0 ≤ (bI p).toInt ∧ (bI p).toInt ≤ 1 := fun p => by
        by_cases hp : p
        · rw [bI_t hp]; decide
        · rw [bI_f hp]; decide
      exact this _
    unfold tsum
    rw [ti_add (by omega) (by omega)]; omega
theorem once_both (hT : σ T = 4000) (T4 : T ≤ 400) {sx sm : Sg} (I : Inv sx sm) {c z p q : Nat} {y : Clz × Nat × Nat} (hc : c < 12) (z4 : z ≤ 400) (hP : PlC true sx c y.1 z) (hk : TkL σ T sm) (h59 : rI sm 10 0 59 = nI (2400 + p)) (hp : p ≤ T) (hq : q ≤ 50) (hr : pOne σ true p q = .inl y) (d8 : rI sx 0 0 8 = rI sm 10 0 29) (d7 : rI sx 0 0 7 = rI sm 10 0 30) :
    ∃ s1, m_goesAlong sm (nI (2400 + T)) 1 = some s1 ∧ (∀ i, rI s1 43 0 i = rI sm 43 0 i) ∧ rI s1 10 0 59 = rI sm 10 0 59 ∧ ok (x0_runOnce sx 0 (nI c)) (ONC s1) := by
  have A := I.2.1.1
  have M := A.1
  have m12 : 0 ≤ (rI sm 43 0 54).toInt ∧ (rI sm 43 0 54).toInt ≤ 12 := M.1
  obtain ⟨v1, v2, v3⟩ := pOne_v hr
  have gc := pOne_g (o := true) hT hp hq
  rw [hr] at gc
  -- the model's
  obtain ⟨n, C, hn, n12, W, ⟨x1, hx1, Tl⟩, hA⟩ := both_all A I.2.1.2.1 I.2.1.2.2
  obtain ⟨⟨m1, t⟩, hm1, ht⟩ := hA 2 2 rfl (by omega)
  simp only at ht
  have ll : (EL (sm.1 43 0) (2 * n)).length ≤ 24 := by have : (EL (sm.1 43 0) (2 * n)).length ≤ 2 * n := EL_len; omega
  have t0 : 0 ≤ t.toInt := by rw [ht]; exact (fit_0 _ ll).1
  have G1 := fr_m_allOf _ _ _ hm1
  have g43 : ∀ i, rI (wI m1 10 0 32 t) 43 0 i = rI sm 43 0 i := fun i => by rw [rI_ne (by omega)]; exact G1.i _ _ _ (nh rfl)
  have f43 : (wI m1 10 0 32 t).1 43 0 = sm.1 43 0 := funext g43
  obtain ⟨m2, hm2, S2, k2⟩ := ok_laysSetting (s := wI m1 10 0 32 t) (n := n) (by rw [f43]; exact M) (by rw [g43]; exact hn)
  rw [f43] at S2
  have q43 : ∀ i, rI m2 43 0 i = rI sm 43 0 i := fun i => by rw [k2 _ _ _ (by omega) (by omega)]; exact g43 i
  have q59 : rI m2 10 0 59 = nI (2400 + p) := by rw [k2 _ _ _ (by omega) (by omega), rI_ne (by omega), G1.i 10 0 59 (nh rfl)]; exact h59
  obtain ⟨s1, e1, GP1, r25, r60, r61, rl⟩ := ga_30 hT T4 (s := m2) (p := p) (q := q) (y := y) (live := 1) (y1 := rI m2 10 0 43) (fun k hk' => by rw [q43, q43]; exact hk k hk') (by rw [q43]; exact m12) q59 hp hq (.inr rfl) hr
  have ego : m_goesAlong sm (nI (2400 + T)) 1 = some s1 := by
    unfold m_goesAlong m_goesAlong_G m_settingLines m_settingLines_G
    rw [gif_f (by decide), hm1]
    simp only [Option.bind_some]
    rw [gif_f (by decide), hm2]
    exact e1
  obtain ⟨⟨b, tb, e63⟩, sr⟩ := rl rfl
  have G := fr_m_goesAlong _ _ _ _ ego
  have s43 : ∀ i, rI s1 43 0 i = rI sm 43 0 i := fun i => by rw [GP1 _ _ _ (by omega)]; exact q43 i
  generalize hF : FF (wI m2 10 0 31 (rI m2 10 0 43)) = F at tb sr
  -- the class's facts
  have F1 := fr_x7_readSetting _ _ _ hx1
  have X1 : GX x1 0 (sm.1 43 0) := GX_c ⟨m12.2, M.2.2.2.2.1.1.2⟩ (fun c _ => F1.i _ _ _ (nh rfl)) (fun c => F1.i _ _ _ (nh rfl)) (fun c => F1.i _ _ _ (nh rfl)) (fun c => F1.i _ _ _ (nh rfl)) (fun c => F1.i _ _ _ (nh rfl)) (fun c => F1.i _ _ _ (nh rfl)) (fun c => F1.i _ _ _ (nh rfl)) (fun i _ => rfl) A.2.1
  obtain ⟨x2, hx2, ⟨y0, y1, y2, y3, y4⟩, yw⟩ := x_gather (s := x1) (sm := sm) M X1 (t := t) (fun s' hs' => by
    rw [told_sum (w := 2) (Told_c Tl (hs' _ _ _ (by omega)) (fun w j => hs' _ _ _ (by omega))) n12 rfl (by omega), ht])
  have a8 : rI x1 0 0 8 = rI sx 0 0 8 := F1.i 0 0 8 (nh rfl)
  have a7 : rI x1 0 0 7 = rI sx 0 0 7 := F1.i 0 0 7 (nh rfl)
  have b29 : rI m2 10 0 29 = rI sm 10 0 29 := by rw [k2 _ _ _ (by omega) (by omega), rI_ne (by omega)]; exact G1.i 10 0 29 (nh rfl)
  have b30 : rI m2 10 0 30 = rI sm 10 0 30 := by rw [k2 _ _ _ (by omega) (by omega), rI_ne (by omega)]; exact G1.i 10 0 30 (nh rfl)
  have b32 : rI m2 10 0 32 = t := by rw [k2 _ _ _ (by omega) (by omega), rI_eq rfl]
  have ln : rI x1 7 0 4 = rI m2 10 0 43 := by rw [ti_eq, Tl.1, S2.1]
  have ev : ∀ w, endV (wI m2 10 0 31 (rI m2 10 0 43)) w = endV sm w := fun w => by
    unfold endV
    rw [rI_ne (by omega), rI_ne (by omega), rI_ne (by omega), q43, q43, q43]
  have facts : ∀ i, i < 29 → rI x2 11 0 i = F i := by
    intro i hi
    rw [← hF]
    obtain ⟨⟨f1, f2, f3, f4, f5⟩, f6⟩ := FF_o (wI m2 10 0 31 (rI m2 10 0 43))
    rcases (by omega : i = 0 ∨ i = 1 ∨ i = 2 ∨ i = 3 ∨ i = 4 ∨ (5 ≤ i ∧ i < 17) ∨ 17 ≤ i) with rfl | rfl | rfl | rfl | rfl | h5 | h17
    · rw [← f1, rI_ne (by omega), q43]; exact y0
    · rw [← f2, rI_ne (by omega), b29, y1, a8, d8]
    · rw [← f3, rI_ne (by omega), b30, y2, a7, d7]
    · rw [← f4, rI_eq rfl, y3, ln]
    · rw [← f5, rI_ne (by omega), b32, y4]
    · obtain ⟨g1, -⟩ := f6 (i - 5) (by omega)
      obtain ⟨g2, -⟩ := yw (i - 5) (by omega)
      rw [show 5 + (i - 5) = i by omega] at g1 g2
      rw [g1, g2, rI_ne (by omega), rI_ne (by omega), q43, q43]
    · obtain ⟨-, g1⟩ := f6 (i - 17) (by omega)
      obtain ⟨-, g2⟩ := yw (i - 17) (by omega)
      rw [show 17 + (i - 17) = i by omega] at g1 g2
      rw [g1, g2, rI_ne (by omega), q43, ev]
  -- both at once
  have h36 : rN sx 36 0 0 = 512 := I.2.2.2.2.2.2.2.2.1.1
  have ht1 : ok (m_allOf s1 2) (fun q => q.2 = t) := by
    have fs : s1.1 43 0 = sm.1 43 0 := funext s43
    have := ok_allOf (s := s1) (n := n) (C := C) (by rw [fs]; exact M) (by rw [s43]; exact hn) (by rw [G.i 10 0 36 (nh rfl), s43]; exact I.2.1.2.1) (fun w hw => by rw [s43] at hw; rw [G.i 57 0 w (nh rfl)]; exact I.2.1.2.2 w hw) (by rw [fs]; exact W) (a := 2) (w := 2) rfl (by omega)
    rw [fs] at this
    exact ok_mono this (fun q hq => by rw [hq, ht])
  have c29 : rI s1 10 0 29 = rI sm 10 0 29 := G.i 10 0 29 (nh rfl)
  have c30 : rI s1 10 0 30 = rI sm 10 0 30 := G.i 10 0 30 (nh rfl)
  have scr : ∀ s', Fr LX0 sx s' → Inv s' s1 ∧ rI s' 0 0 8 = rI s1 10 0 29 ∧ rI s' 0 0 7 = rI s1 10 0 30 ∧ rI s' 31 0 c = rI sx 31 0 c := by
    intro s' f
    refine ⟨Inv_scr f G rfl rfl I, ?_, ?_, f.i 31 0 c (no36 (by omega) (by omega))⟩
    · rw [f.i 0 0 8 (nh rfl), c29]; exact d8
    · rw [f.i 0 0 7 (nh rfl), c30]; exact d7
  have F4 : F 4 = t := by rw [← facts 4 (by omega), y4]
  have e31 : rI sx 31 0 c = nI y.1.1 := hP.1
  have hd61 : rI s1 10 0 61 = nI (if y.1.1 = 0 then 22 else if y.1.1 = 1 then 23 else if y.1.1 = 2 then 24 else 26) := by
    rw [r61]
    congr 1
    rcases (by omega : σ p = 3003 ∨ σ p = 3004 ∨ σ p = 3005 ∨ σ p = 3006) with e | e | e | e <;> rw [v3, e] <;> rfl
  have v3' : y.1.1 ≤ 3 := by omega
  obtain ⟨S3, S01, S2'⟩ := sr
  refine ⟨s1, ego, s43, by rw [GP1 _ _ _ (by omega), q59, h59], ?_⟩
  have n1 : ∀ x : Bool, x = true → ¬ (oI x = 0) := fun x hx => by rw [hx]; decide
  -- the sums by the verb
  have fin : ∀ (rA rB : Option Int64), (hasA true y.1.1 → ES F y.1.2.1 rA ∧ EP F y.1.2.1) → (hasB true y.1.1 → ES F y.1.2.2.1 rB ∧ EP F y.1.2.2.1) → (((hasA true y.1.1 ∧ rA = none) ∨ (hasB true y.1.1 ∧ rB = none)) → rI s1 10 0 62 = 0) → (¬ ((hasA true y.1.1 ∧ rA = none) ∨ (hasB true y.1.1 ∧ rB = none)) → rI s1 10 0 62 = 1) → (hasA true y.1.1 → ∀ x, rA = some x → rL s1 72 0 0 = x) → (hasB true y.1.1 → ∀ x, rB = some x → rL s1 72 0 1 = x) → ok (x0_runOnce sx 0 (nI c)) (ONC s1) := by
    intro rA rB hA' hB' h0 h1 l0 l1
    refine x_once (T := T) (b0 := q) hc h36 z4 hP gc hx1 hx2 facts tb (rA := rA) (rB := rB) (fun h => (hA' h).1) (fun h => (hB' h).1) (fun hb s' f => ?_) (fun hb hf s' f => ?_) (fun hb u w u1 u2 w1 w2 s' f f4 => ?_)
    · obtain ⟨q1, q2, q3, -⟩ := scr s' f
      exact .inl ⟨rfl, by rw [e63, hb]; rfl, q1, q2, q3⟩
    · exact .inr (.inl ⟨rfl, by rw [e63]; exact n1 b hb, .inl (h0 hf)⟩)
    · obtain ⟨q1, q2, q3, q4⟩ := scr s' f
      have nf : ¬ ((hasA true y.1.1 ∧ rA = none) ∨ (hasB true y.1.1 ∧ rB = none)) := by
        rintro (⟨a, e⟩ | ⟨a, e⟩)
        · rw [u1 a] at e; exact absurd e (by simp)
        · rw [w1 a] at e; exact absurd e (by simp)
      have n62 : ¬ rI s1 10 0 62 = 0 := by rw [h1 nf]; decide
      refine once_150 q1 hc v3' (by rw [q4]; exact e31) hd61 q2 q3 (fun hv => ?_) (fun hv => ?_) (fun hv => ?_) (fun hv => ?_) ht1 t0 (by rw [f4, F4]) (by rw [e63]; exact n1 b hb) n62
      · have a : hasA true y.1.1 := hv
        refine ⟨l0 a u (u1 a), ?_⟩
        have := (hA' a).1
        rw [u1 a] at this
        exact ES_r (hA' a).2 this
      · have a : hasB true y.1.1 := ⟨rfl, hv⟩
        refine ⟨l1 a w (w1 a), ?_⟩
        have := (hB' a).1
        rw [w1 a] at this
        exact ES_r (hB' a).2 this
      · exact u2 (fun a => a hv)
      · exact w2 (fun a => hv a.2)
  rcases (by omega : y.1.1 = 3 ∨ (y.1.1 = 0 ∨ y.1.1 = 1) ∨ y.1.1 = 2) with e | e | e
  · have nA : ¬ hasA true y.1.1 := fun a => a e
    have nB : ¬ hasB true y.1.1 := fun a => by have := a.2; omega
    exact fin none none (fun a => absurd a nA) (fun a => absurd a nB) (fun x => x.elim (fun x => absurd x.1 nA) (fun x => absurd x.1 nB)) (fun _ => S3 e) (fun a => absurd a nA) (fun a => absurd a nB)
  · obtain ⟨rA, h1, h2, h3, h4⟩ := S01 e
    have yA : hasA true y.1.1 := show y.1.1 ≠ 3 by omega
    have nB : ¬ hasB true y.1.1 := fun a => by have := a.2; omega
    refine fin rA none (fun _ => ⟨h1, h2⟩) (fun a => absurd a nB) (fun x => ?_) (fun x => ?_) (fun _ => h4) (fun a => absurd a nB)
    · rcases x with x | x
      · rw [h3, if_pos x.2]
      · exact absurd x.1 nB
    · rw [h3, if_neg (fun e => x (.inl ⟨yA, e⟩))]
  · obtain ⟨rA, rB, h1, h2, h3, h4, h5, h6, h7⟩ := S2' e
    have yA : hasA true y.1.1 := show y.1.1 ≠ 3 by omega
    have yB : hasB true y.1.1 := ⟨rfl, e⟩
    refine fin rA rB (fun _ => ⟨h1, h2⟩) (fun _ => ⟨h3, h4⟩) (fun x => ?_) (fun x => ?_) (fun _ => h6) (fun _ => h7)
    · rw [h5, if_pos (x.elim (fun x => .inl x.2) (fun x => .inr x.2))]
    · rw [h5, if_neg (fun e => x (e.elim (fun e => .inl ⟨yA, e⟩) (fun e => .inr ⟨yB, e⟩)))]
