/-! THE TABLE, laid out by the class -/
noncomputable def cD (D : Dom) : Nat → Nat → Option Cl4 := ceC (edD D) (coD D) (paD D)
/-- a cell when the lines from fewer than m starts are in it -/
noncomputable def pcl (D : Dom) (m j fr : Nat) : Option Cl4 :=
  if j = 0 then (if fr = 0 then some (1, 0, 0, 0) else none)
  else if fr = 0 then none
  else foC (cD D (j - 1)) (fun f => edD D (j - 1) f (fr - 1)) (fun f => coD D (j - 1) f (fr - 1)) (fun f => paD D (j - 1) f (fr - 1)) (nI (fr - 1)) (min m fr)
theorem pcl_full {D : Dom} {m j fr : Nat} (h : fr ≤ m) : pcl D m j fr = cD D j fr := by
  unfold pcl
  cases j with
  | zero => rfl
  | succ j =>
    rw [if_neg (by omega), show min m fr = fr by omega]
    rfl
theorem pcl_min {D : Dom} {m m' j fr : Nat} (h : min m fr = min m' fr) : pcl D m j fr = pcl D m' j fr := by
  unfold pcl; rw [h]
theorem pcl_step {D : Dom} {k t j : Nat} (h : k ≤ t) : pcl D (k + 1) (j + 1) (t + 1) = match cD D j k with
    | none => pcl D k (j + 1) (t + 1)
    | some c => @ite (Option Cl4) (edD D j k t) (Classical.propDecidable _) (jn (pcl D k (j + 1) (t + 1)) c (coD D j k t) (paD D j k t) (nI t)) (pcl D k (j + 1) (t + 1)) := by
  unfold pcl
  simp only [if_neg (Nat.succ_ne_zero _), Nat.add_sub_cancel, show min (k + 1) (t + 1) = k + 1 by omega, show min k (t + 1) = k by omega]
  rw [foC_s]
  cases cD D j k <;> rfl
theorem pcl_skip {D : Dom} {k t j : Nat} (h : ∀ j, ¬ edD D j k t) : pcl D (k + 1) j (t + 1) = pcl D k j (t + 1) := by
  by_cases c : k ≤ t
  · cases j with
    | zero => rfl
    | succ j =>
      rw [pcl_step c]
      cases cD D j k with
      | none => rfl
      | some d => simp only []; rw [if_neg (h j)]
  · exact pcl_min (by omega)
theorem pcl_w {D : Dom} {m j fr : Nat} (h : fr ≤ 24) {d : Cl4} (e : pcl D m j fr = some d) : d.1 ≠ 0 := by
  have key : 1 ≤ d.1.toInt := by
    unfold pcl at e
    by_cases c : j = 0
    · rw [if_pos c] at e
      by_cases c2 : fr = 0
      · rw [if_pos c2] at e; simp only [Option.some.injEq] at e; subst e; show 1 ≤ (1 : Int64).toInt; decide
      · rw [if_neg c2] at e; exact absurd e (by simp)
    · rw [if_neg c] at e
      by_cases c2 : fr = 0
      · rw [if_pos c2] at e; exact absurd e (by simp)
      · rw [if_neg c2] at e
        exact (foC_w (fun f c hf h4 => ceC_w (j - 1) f c hf h4) (min m fr) (by omega) d e).1
  intro z
  rw [z] at key
  exact absurd key (by decide)
def stg (k t jj j fr : Nat) : Nat := if fr - 1 < t ∨ (fr - 1 = t ∧ j - 1 < jj) then k + 1 else k
def TB (s : Sg) (bars : Int32) (D : Dom) (k t jj : Nat) : Prop := ∀ fr j, fr ≤ 24 → j ≤ 24 → CR s bars (fr * 25 + j) (pcl D (stg k t jj j fr) j fr)
def TB0 (s : Sg) (bars : Int32) (D : Dom) (k : Nat) : Prop := ∀ fr j, fr ≤ 24 → j ≤ 24 → CR s bars (fr * 25 + j) (pcl D k j fr)
theorem q_slot {s : Sg} {a b : Int32} {fr j : Nat} (ha : a.toInt = (fr : Int) - 1) (hf : fr ≤ 24) (hb : b.toInt = j) (hj : j ≤ 24) : ∃ v, x5_slot s a b = some (s, v) ∧ v.toInt = (fr * 25 + j : Nat) := by
  unfold x5_slot x5_slot_G
  have km : (-1 : Int32).toInt = -1 := by decide
  have k25 : (25 : Int32).toInt = 25 := by decide
  rw [gif_f (by rw [ti_lt, km]; omega), gif_t (by rw [ti_lt, li_24]; omega), gif_f (by rw [ti_lt, li_0]; omega), gif_t (by rw [ti_lt, k25]; omega)]
  refine ⟨_, rfl, ?_⟩
  have t1 : (a + 1).toInt = fr := by rw [ti_add (by rw [ha, li_1]; omega) (by rw [ha, li_1]; omega), ha, li_1]; omega
  have t2 : ((a + 1) * 25).toInt = fr * 25 := by rw [ti_mul (by rw [t1, k25]; omega) (by rw [t1, k25]; omega), t1, k25]
  rw [ti_add (by rw [t2, hb]; omega) (by rw [t2, hb]; omega), t2, hb]; omega
/-- judged for the line that is the jj-th -/
def JJ (s : Sg) (bars : Int32) (D : Dom) (k t jj : Nat) : Prop := (bars = 0 → rI s 2 1 5 = coD D jj k t ∧ rI s 2 1 6 = paD D jj k t) ∧ rI s 2 1 8 = bI (fiD D jj k t)
def MU (s : Sg) (D : Dom) (k t : Nat) : Prop := rI s 2 1 2 = nI t ∧ (rI s 2 1 3).toInt = lwid D.wd D.ft k t ∧ (rI s 2 1 4).toInt = lpcs k t
theorem KX_judge {s s' : Sg} (F : Fr (FP_x2_judge 1) s s') : KX s s' := fun k i c h1 h2 h3 h4 h5 h6 h7 h8 => by
  have n : ¬ hit (FP_x2_judge 1) k i c := by intro x; simp [hit] at x; omega
  exact ⟨F.i k i c n, F.n k i c n⟩
theorem KX_measure {s s' : Sg} (F : Fr (FP_x2_measureUp 1) s s') : KX s s' := fun k i c h1 h2 h3 h4 h5 h6 h7 h8 => by
  have n : ¬ hit (FP_x2_measureUp 1) k i c := by intro x; simp [hit] at x; omega
  exact ⟨F.i k i c n, F.n k i c n⟩
theorem KX_KC {s s' : Sg} {i : Nat} (h : KC s s' i) : KX s s' := fun k a c h1 h2 h3 h4 h5 h6 h7 h8 => ⟨h.1 k a c (by omega), h.2.2 k a c⟩
theorem ok_judge1 {s : Sg} {g lw : Nat} {D : Dom} {k t jj : Nat} {bars num : Int32} (X : XW s g lw D) (hM : MU s D k t) (ht : t < 2 * D.n) (hj : num = nI jj) :
    ok (x2_judge s 1 g lw D.mea num bars) (fun s' => JJ s' bars D k t jj ∧ MU s' D k t ∧ KX s s' ∧ (∀ a b, rL s' 27 a b = rL s 27 a b) ∧ ∀ c a b, 24 ≤ c → c ≤ 26 → rI s' c a b = rI s c a b) := by
  have n12 := X.1.2.1
  have t2 : (rI s 2 1 2).toInt = t := by rw [hM.1, nI_ti (by omega)]
  refine ok_fr (ok_judge (mea := D.mea) (num := num) (bars := bars) X.1 X.2.1 ht t2 hM.2.1 hM.2.2) (fr_x2_judge _ _ _ _ _ _ _) (fun s' ⟨p1, p2, p3, p4⟩ F => ?_)
  refine ⟨⟨fun hb => ?_, ?_⟩, ⟨by rw [p4 2 (by omega)]; exact hM.1, by rw [p4 3 (by omega)]; exact hM.2.1, by rw [p4 4 (by omega)]; exact hM.2.2⟩, KX_judge F, fun a b => F.l _ _ _ (by intro x; simp [hit] at x), fun c a b h1 h2 => F.i _ _ _ (by intro x; simp [hit] at x; omega)⟩
  · obtain ⟨q1, q2⟩ := p1 hb
    rw [q1, q2, X.2.2.1, X.2.2.2.1, hj]; exact ⟨rfl, rfl⟩
  · rw [p3, X.2.2.1, X.2.2.2.1, hj, hM.2.1]; rfl
def asks (s : Sg) : Nat → Prop
  | 0 => False
  | t + 1 => rI s 8 t 8 ≠ 0
theorem asks_no {s : Sg} {lw : Nat} {C : List Cla} (L : LWX s lw C) (h : ¬ asks s lw) : ∀ c ∈ C, noLineC c := by
  rcases L with ⟨e1, e2⟩ | ⟨t, e1, e2, e3⟩
  · subst e2; intro c hc; exact absurd hc (by simp)
  · subst e1
    exact e2.2.2.2.2.1 (by unfold asks at h; exact Decidable.of_not_not h)
theorem ll_step (n : Nat) (s : Sg) (g lw : Nat) (mea F bars l6 l7 : Int32) : x5_layLine_b6 (n + 1) s g lw mea F bars l6 l7 =
    gif (l7 < 24) ((x5_slot s F l7).bind fun q1 => (x5_slot q1.1 (rI q1.1 2 1 2) (l7 + 1)).bind fun q2 =>
      gif (q1.2 = -1) (x5_layLine_b6 n q2.1 g lw mea F bars l6 (l7 + 1)) (gif (q2.2 = -1) (x5_layLine_b6 n q2.1 g lw mea F bars l6 (l7 + 1)) (gd (inb q1.2 625) (gif (lg_cmp (rL q2.1 27 0 (ix q1.2)) 0 = 0) (x5_layLine_b6 n q2.1 g lw mea F bars l6 (l7 + 1))
        (gif (l6 = 0 ∨ asks q2.1 lw) ((x2_judge q2.1 1 g lw mea l7 bars).bind fun s1 => gif (rI s1 2 1 8 = 0) (x5_layLine_b6 n s1 g lw mea F bars 1 (l7 + 1)) ((x5_join s1 q1.2 q2.2).bind fun s2 => x5_layLine_b6 n s2 g lw mea F bars 1 (l7 + 1)))
          (gif (rI q2.1 2 1 8 = 0) (x5_layLine_b6 n q2.1 g lw mea F bars l6 (l7 + 1)) ((x5_join q2.1 q1.2 q2.2).bind fun s3 => x5_layLine_b6 n s3 g lw mea F bars l6 (l7 + 1)))))))) (some s) := by
  show x5_layLine_b6_G _ _ _ _ s g lw mea F bars l6 l7 = _
  unfold x5_layLine_b6_G x5_layLine_b81 x5_layLine_b81_G
  cases lw with
  | zero =>
    simp only []
    have e : ∀ (q : Sg) (p : Prop), (p ∨ asks q 0) = p := fun q p => propext ⟨fun x => x.elim id False.elim, .inl⟩
    simp only [e]
  | succ t =>
    simp only []
    have e : ∀ (q : Sg) (p : Prop) (x y : Option Sg), gif (p ∨ asks q (t + 1)) x y = gif p x (gif (rI q 8 t 8 = 0) y x) := by
      intro q p x y
      by_cases c : p
      · rw [gif_t (.inl c), gif_t c]
      · rw [gif_f c]
        by_cases d : rI q 8 t 8 = 0
        · rw [gif_t d, gif_f (fun z => z.elim c (fun w => w d))]
        · rw [gif_f d, gif_t (.inr d)]
    simp only [e]
theorem ok_layLine {s : Sg} {g lw : Nat} {D : Dom} {k t : Nat} {bars F : Int32} (X : XW s g lw D) (hM : MU s D k t) (kt : k ≤ t) (hs : k = 0 ∨ plD D (k - 1)) (ht : plD D t) (hF : F.toInt = (k : Int) - 1) (B : TB s bars D k t 0) :
    ok (x5_layLine s g lw D.mea F bars) (fun s' => XW s' g lw D ∧ TB s' bars D k (t + 1) 0 ∧ KX s s') := by
  have n12 := X.1.2.1
  have ht2 := ht.1
  have e0 : x5_layLine s g lw D.mea F bars = x5_layLine_b6 FU s g lw D.mea F bars 0 0 := by
    unfold x5_layLine x5_layLine_G; cases lw <;> rfl
  rw [e0]
  refine ok_loop (K := fun n (p : Sg × Int32 × Int32) => x5_layLine_b6 n p.1 g lw D.mea F bars p.2.1 p.2.2) (I := fun p => ∃ jj : Nat, jj ≤ 24 ∧ p.2.2 = nI jj ∧ XW p.1 g lw D ∧ MU p.1 D k t ∧ TB p.1 bars D k t jj ∧ KX s p.1 ∧ (p.2.1 = 0 ∨ (p.2.1 = 1 ∧ (¬ asks p.1 lw → ∀ j', JJ p.1 bars D k t j'))))
    (μ := fun p => 25 - p.2.2.toInt.toNat) ?_ FU (s, 0, 0) ⟨0, by omega, rfl, X, hM, B, fun _ _ _ _ _ _ _ _ _ _ _ => ⟨rfl, rfl⟩, .inl rfl⟩ (by show _ < 20000; omega)
  rintro n ⟨s2, l6, l7⟩ ⟨jj, j1, j2, j3, j4, j5, j6, j7⟩ ih
  simp only at j1 j2 j3 j4 j5 j6 j7 ih
  have tj : l7.toInt = jj := by rw [j2, nI_ti (by omega)]
  show ok (x5_layLine_b6 (n + 1) s2 g lw D.mea F bars l6 l7) _
  rw [ll_step]
  refine ok_gif (fun c => ?_) (fun c => ?_)
  · rw [ti_lt, tj, li_24] at c
    have t1 : (l7 + 1).toInt = (jj + 1 : Nat) := by rw [ti_add (by rw [tj, li_1]; omega) (by rw [tj, li_1]; omega), tj, li_1]; omega
    have e1 : l7 + 1 = nI (jj + 1) := by rw [ti_eq, t1, nI_ti (by omega)]
    obtain ⟨v1, hv1, w1⟩ := q_slot (s := s2) hF (by omega) tj (by omega)
    obtain ⟨v2, hv2, w2⟩ := q_slot (s := s2) (a := rI s2 2 1 2) (fr := t + 1) (by rw [j4.1, nI_ti (by omega)]; omega) (by omega) t1 (by omega)
    rw [hv1]
    simp only [Option.bind_some]
    rw [hv2]
    simp only [Option.bind_some]
    have km : (-1 : Int32).toInt = -1 := by decide
    have i1 : ix v1 = k * 25 + jj := by rw [ix_eq, w1]; omega
    rw [gif_f (by rw [ti_eq, w1, km]; omega), gif_f (by rw [ti_eq, w2, km]; omega), gd_t (inb_iff.mpr (by rw [w1]; omega)), i1]
    -- the two cells
    have c1 : CR s2 bars (k * 25 + jj) (cD D jj k) := by
      have := j5 k jj (by omega) (by omega)
      rw [pcl_full (by unfold stg; split <;> omega)] at this; exact this
    have c2 : CR s2 bars ((t + 1) * 25 + (jj + 1)) (pcl D k (jj + 1) (t + 1)) := by
      have := j5 (t + 1) (jj + 1) (by omega) (by omega)
      rw [show stg k t jj (jj + 1) (t + 1) = k by unfold stg; rw [if_neg (by omega)]] at this; exact this
    -- on to the next
    have next : ∀ s3 : Sg, CR s3 bars ((t + 1) * 25 + (jj + 1)) (pcl D (k + 1) (jj + 1) (t + 1)) → (∀ i, i ≠ (t + 1) * 25 + (jj + 1) → rL s3 27 0 i = rL s2 27 0 i ∧ ∀ q, 24 ≤ q → q ≤ 26 → rI s3 q 0 i = rI s2 q 0 i) → TB s3 bars D k t (jj + 1) := by
      intro s3 h1 h2 fr j hf hj
      by_cases e : fr * 25 + j = (t + 1) * 25 + (jj + 1)
      · have ef : fr = t + 1 := by omega
        have ej : j = jj + 1 := by omega
        subst ef; subst ej
        rw [show stg k t (jj + 1) (jj + 1) (t + 1) = k + 1 by unfold stg; rw [if_pos (by omega)]]; exact h1
      · have := j5 fr j hf hj
        have ep : pcl D (stg k t (jj + 1) j fr) j fr = pcl D (stg k t jj j fr) j fr := by
          by_cases z : fr = 0 ∨ j = 0
          · unfold pcl
            rcases z with z | z
            · subst z; by_cases z2 : j = 0
              · rw [if_pos z2, if_pos z2]
              · rw [if_neg z2, if_neg z2, if_pos rfl, if_pos rfl]
            · rw [if_pos z, if_pos z]
          · congr 1
            unfold stg
            by_cases y : fr - 1 < t ∨ (fr - 1 = t ∧ j - 1 < jj)
            · rw [if_pos y, if_pos (by omega)]
            · rw [if_neg y, if_neg (by omega)]
        rw [ep]
        exact CR_c this (h2 _ e).1 (h2 _ e).2
    have hc : cD D jj k = none ∨ ∃ d, cD D jj k = some d := by
      cases h : cD D jj k with
      | none => exact .inl rfl
      | some d => exact .inr ⟨d, rfl⟩
    rcases hc with hc | ⟨d, hc⟩
    · rw [hc] at c1
      rw [gif_t (by rw [cmp_eq]; exact c1)]
      refine ih (s2, l6, l7 + 1) ⟨jj + 1, by omega, e1, j3, j4, next s2 ?_ (fun _ _ => ⟨rfl, fun _ _ _ => rfl⟩), j6, j7⟩ (by simp only [t1, tj]; omega)
      rw [pcl_step kt, hc]; exact c2
    · rw [hc] at c1
      have dw : d.1 ≠ 0 := pcl_w (m := k) (j := jj) (fr := k) (by omega) (by rw [pcl_full (Nat.le_refl _)]; exact hc)
      rw [gif_f (by rw [cmp_eq, c1.1]; exact dw)]
      have ps := pcl_step (D := D) (j := jj) kt
      rw [hc] at ps
      simp only at ps
      -- judged: skip or join
      have fin : ∀ (s3 : Sg) (f6 : Int32), XW s3 g lw D → MU s3 D k t → KX s s3 → JJ s3 bars D k t jj → (∀ a b, rL s3 27 a b = rL s2 27 a b) → (∀ c a b, 24 ≤ c → c ≤ 26 → rI s3 c a b = rI s2 c a b) → (f6 = 1 ∧ (¬ asks s3 lw → ∀ j', JJ s3 bars D k t j')) →
          ok (gif (rI s3 2 1 8 = 0) (x5_layLine_b6 n s3 g lw D.mea F bars f6 (l7 + 1)) ((x5_join s3 v1 v2).bind fun s4 => x5_layLine_b6 n s4 g lw D.mea F bars f6 (l7 + 1))) (fun s' => XW s' g lw D ∧ TB s' bars D k (t + 1) 0 ∧ KX s s') := by
        intro s3 f6 X3 M3 K3 J3 r3 i3 h6
        rw [J3.2, gifbI]
        by_cases hf : fiD D jj k t
        · rw [gif_t hf]
          have hed : edD D jj k t := ⟨kt, hs, ht, hf⟩
          rw [if_pos hed] at ps
          refine ok_bind (ok_mono (ok_join (T := nI t) (co := coD D jj k t) (pa := paD D jj k t) w1 w2 (by omega) (by omega) (by omega) (CR_c c1 (r3 _ _) (fun q h1 h2 => i3 _ _ _ h1 h2)) (CR_c c2 (r3 _ _) (fun q h1 h2 => i3 _ _ _ h1 h2)) (fun d' hd' => pcl_w (by omega) hd') M3.1 J3.1) (fun s4 ⟨p1, p2⟩ => ?_))
          have K4 := KX_KC p2
          have k2 : ∀ c, rI s4 2 1 c = rI s3 2 1 c := fun c => p2.1 _ _ _ (by omega)
          have J4 : ∀ j', JJ s3 bars D k t j' → JJ s4 bars D k t j' := fun j' h => by unfold JJ; rw [k2, k2, k2]; exact h
          have a4 : asks s4 lw ↔ asks s3 lw := by
            cases lw with
            | zero => exact Iff.rfl
            | succ t' => show rI s4 8 t' 8 ≠ 0 ↔ rI s3 8 t' 8 ≠ 0; rw [p2.1 8 t' 8 (by omega)]
          refine ih (s4, f6, l7 + 1) ⟨jj + 1, by omega, e1, XW_k K4 X3, by unfold MU; rw [k2, k2, k2]; exact M3, next s4 (by rw [ps]; exact p1) (fun i hi => ⟨by rw [p2.2.1 _ _ _ (by omega), r3], fun q h1 h2 => by rw [p2.1 _ _ _ (by omega), i3 _ _ _ h1 h2]⟩), K3.trans K4, .inr ⟨h6.1, fun na j' => J4 j' (h6.2 (fun x => na (a4.mpr x)) j')⟩⟩ (by simp only [t1, tj]; omega)
        · rw [gif_f hf]
          rw [if_neg (fun x => hf x.2.2.2)] at ps
          refine ih (s3, f6, l7 + 1) ⟨jj + 1, by omega, e1, X3, M3, next s3 (by rw [ps]; exact CR_c c2 (r3 _ _) (fun q h1 h2 => i3 _ _ _ h1 h2)) (fun i hi => ⟨r3 _ _, fun q h1 h2 => i3 _ _ _ h1 h2⟩), K3, .inr h6⟩ (by simp only [t1, tj]; omega)
      refine ok_gif (fun a => ?_) (fun a => ?_)
      · refine ok_bind (ok_mono (ok_judge1 (num := l7) (jj := jj) (bars := bars) j3 j4 ht2 j2) (fun s3 ⟨p1, p2, p3, p4, p5⟩ => ?_))
        refine fin s3 1 (XW_k p3 j3) p2 (j6.trans p3) p1 p4 p5 ⟨rfl, fun na j' => ?_⟩
        obtain ⟨q1, q2, q3⟩ := nl_D (asks_no (XW_k p3 j3).2.1 na) j' jj k t
        unfold JJ; rw [q2, q3, propext q1]; exact p1
      · have h7 : l6 = 1 ∧ (¬ asks s2 lw → ∀ j', JJ s2 bars D k t j') := by
          rcases j7 with j7 | j7
          · exact absurd (.inl j7) a
          · exact j7
        exact fin s2 l6 j3 j4 j6 (h7.2 (fun x => a (.inr x)) jj) (fun _ _ => rfl) (fun _ _ _ _ _ => rfl) h7
  · rw [ti_lt, tj, li_24] at c
    refine ok_some ⟨j3, fun fr j hf hj => ?_, j6⟩
    have := j5 fr j hf hj
    have e : stg k t jj j fr = stg k (t + 1) 0 j fr := by
      unfold stg
      by_cases y : fr - 1 < t ∨ (fr - 1 = t ∧ j - 1 < jj)
      · rw [if_pos y, if_pos (by omega)]
      · rw [if_neg y, if_neg (by omega)]
    rw [← e]; exact this
