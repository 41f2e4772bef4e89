abbrev LX0 : FPt := FP_x7_readSetting ++ [(11, 1, 0), (4, 3, 2), (23, 3, 0)]
theorem hit_k {L : FPt} {k i c : Nat} : hit L k i c → ∃ e, e ∈ L ∧ e.1 = k := by
  induction L with
  | nil => intro h; exact h.elim
  | cons e t ih =>
    intro h
    rcases h with h | h
    · exact ⟨e, by simp, h.1⟩
    · obtain ⟨e', h1, h2⟩ := ih h
      exact ⟨e', by simp [h1], h2⟩
theorem hit_al {L M : FPt} {k i c : Nat} : hit L k i c → hit (L ++ M) k i c := by
  induction L with
  | nil => intro h; exact h.elim
  | cons e t ih => intro h; exact h.elim .inl (fun x => .inr (ih x))
theorem hit_ar {L M : FPt} {k i c : Nat} (h : hit M k i c) : hit (L ++ M) k i c := by
  induction L with
  | nil => exact h
  | cons e t ih => exact .inr ih
theorem no36 {k i c : Nat} (h1 : 31 ≤ k) (h2 : k ≤ 36) : ¬ hit LX0 k i c := fun h => by
  obtain ⟨e, m, q⟩ := hit_k h
  have : ∀ e, e ∈ LX0 → ¬ (31 ≤ e.1 ∧ e.1 ≤ 36) := by decide
  exact this e m (by omega)
theorem no36v {k i c : Nat} (h1 : 11 = k ∨ 31 ≤ k) : ¬ hit (FP_x4_valueOf 2) k i c := fun h => by
  obtain ⟨e, m, q⟩ := hit_k h
  have : ∀ e, e ∈ FP_x4_valueOf 2 → ¬ (11 = e.1 ∨ 31 ≤ e.1) := by decide
  exact this e m (by omega)
theorem good_S {F : Nat → Int32} {P : List Ins} {r : Option Int64} (h : ES F P r) : goodE (evA F P 0 []) := by
  rw [h []]
  cases r with
  | none => exact .inl rfl
  | some v => exact .inr ⟨v, [], rfl⟩
theorem good_B {F : Nat → Int32} {P : List Ins} {r : Option Bool} (h : EB F P r) : goodE (evA F P 0 []) := by
  rw [h []]
  cases r with
  | none => exact .inl rfl
  | some v => exact .inr ⟨_, [], rfl⟩
theorem x_once {T a0 b0 d0 e0 : Nat} {sx : Sg} {c z : Nat} {x : Clz} {F : Nat → Int32} (hc : c < 12) (h36 : rN sx 36 0 0 = 512) (z4 : z ≤ 400) (hP : PlC true sx c x z) (g : GCl true T a0 b0 x d0 e0) {s1 s2 : Sg} (e1 : x7_readSetting sx 0 = some s1) (e2 : x0_gatherOrderFacts s1 = some s2) (hf : ∀ i, i < 29 → rI s2 11 0 i = F i) {b : Bool} (ht : tstR x.2.2.2.2 F b) {rA rB : Option Int64} (hA : hasA true x.1 → ES F x.2.1 rA) (hB : hasB true x.1 → ES F x.2.2.1 rB) {Q : Sg × Int32 → Prop}
    (H1 : b = false → ∀ s', Fr LX0 sx s' → Q (s', 1)) (H2 : b = true → ((hasA true x.1 ∧ rA = none) ∨ (hasB true x.1 ∧ rB = none)) → ∀ s', Fr LX0 sx s' → Q (s', 0))
    (H3 : b = true → ∀ u w, (hasA true x.1 → rA = some u) → (¬ hasA true x.1 → u = 0) → (hasB true x.1 → rB = some w) → (¬ hasB true x.1 → w = 0) → ∀ s', Fr LX0 sx s' → rI s' 11 0 4 = F 4 → ok (x0_runOnce_b150 s' 0 (nI c) u w) Q) : ok (x0_runOnce sx 0 (nI c)) Q := by
  have km : ∀ n : Nat, n < 1000000 → ¬ (nI n = (-1 : Int32)) := fun n hn => by rw [ti_eq, nI_ti (by omega), show (-1 : Int32).toInt = -1 by decide]; omega
  have bc : inb (nI c) 12 := inb_nI (by omega) hc
  have ic : ix (nI c) = c := ix_nI (by omega)
  have F1 := fr_x7_readSetting _ _ _ e1
  have F2 := fr_x0_gatherOrderFacts _ _ e2
  have fr2 : Fr LX0 sx s2 := (F1.mono (fun k i c x => hit_al x)).trans (F2.mono (fun k i c x => hit_ar (x.elim .inl (fun y => y.elim))))
  have k2 : ∀ k i, 31 ≤ k → k ≤ 36 → rI s2 k 0 i = rI sx k 0 i := fun k i h1 h2 => fr2.i k 0 i (no36 h1 h2)
  have n2 : rN s2 36 0 0 = 512 := by
    have : rN s2 36 0 0 = rN sx 36 0 0 := fr2.n 36 0 0 (no36 (by omega) (by omega))
    rw [this]; exact h36
  obtain ⟨P1, P2, ⟨P3, P3'⟩, ⟨P4, P4'⟩, P5⟩ := hP
  obtain ⟨g1, g2, g3, g4, g5, g6, g7, g8⟩ := g
  -- states behind
  have st : ∀ s, Fr (FP_x4_valueOf 2) s2 s → Fr LX0 sx s ∧ (∀ k i, 31 ≤ k → k ≤ 36 → rI s k 0 i = rI sx k 0 i) ∧ rN s 36 0 0 = 512 ∧ (∀ i, i < 29 → rI s 11 0 i = F i) := by
    intro s fs
    refine ⟨fr2.trans (fs.mono (fun k i c x => hit_ar (.inr x))), fun k i h1 h2 => ?_, ?_, fun i hi => ?_⟩
    · rw [fs.i k 0 i (no36v (.inr h1))]; exact k2 k i h1 h2
    · have : rN s 36 0 0 = rN s2 36 0 0 := fs.n 36 0 0 (no36v (.inr (by omega)))
      rw [this]; exact n2
    · rw [fs.i 11 0 i (no36v (.inl rfl))]; exact hf i hi
  -- the second sum
  have k108 : b = true → ∀ s, Fr (FP_x4_valueOf 2) s2 s → ∀ u : Int64, (hasA true x.1 → rA = some u) → (¬ hasA true x.1 → u = 0) → ok (x0_runOnce_b108 s 0 (nI c) u 0) Q := by
    intro hb s fs u u1 u2
    obtain ⟨q1, q2, q3, q4⟩ := st s fs
    unfold x0_runOnce_b108 x0_runOnce_b108_G
    simp only [gd_t bc, ic]
    rw [q2 34 c (by omega) (by omega)]
    by_cases hb2 : hasB true x.1
    · obtain ⟨a, p1, p2⟩ := P4 hb2
      have wf := (g3.1 hb2).1
      have ev := hB hb2
      rw [p1, gif_f (km a (by have := p2.2.2; omega))]
      obtain ⟨⟨s3, v⟩, e3, o3⟩ := x_val q3 (sgx_c p2 (fun i _ => q2 36 i (by omega) (by omega)) (Nat.le_refl _)) z4 wf.1 wf.2.1 g7 (good_S ev) q4 rfl
      have fs3 := fs.trans (fr_x4_valueOf _ _ _ _ _ _ _ e3)
      rw [e3]
      simp only [Option.bind_some]
      rw [ev []] at o3
      cases hr : rB with
      | none =>
        rw [hr] at o3
        rw [gif_f (by have : rI s3 4 2 1 = 1 := o3.2; rw [this]; decide), gdB0]
        exact ok_some (H2 hb (.inr ⟨hb2, hr⟩) s3 (st s3 fs3).1)
      | some w =>
        rw [hr] at o3
        have hv : v = w := o3.1
        rw [gif_t (show rI s3 4 2 1 = 0 from o3.2), hv]
        exact H3 hb u w u1 u2 (fun _ => hr) (fun n => absurd hb2 n) s3 (st s3 fs3).1 ((st s3 fs3).2.2.2 4 (by omega))
    · rw [P4' hb2, gif_t rfl]
      exact H3 hb u 0 u1 u2 (fun y => absurd y hb2) (fun _ => rfl) s q1 (q4 4 (by omega))
  -- the first sum
  have k62 : b = true → ∀ s, Fr (FP_x4_valueOf 2) s2 s → ok (x0_runOnce_b62 s 0 (nI c)) Q := by
    intro hb s fs
    obtain ⟨q1, q2, q3, q4⟩ := st s fs
    unfold x0_runOnce_b62 x0_runOnce_b62_G
    simp only [gd_t bc, ic]
    rw [q2 33 c (by omega) (by omega)]
    by_cases ha : hasA true x.1
    · obtain ⟨a, p1, p2⟩ := P3 ha
      have wf := (g2.1 ha).1
      have ev := hA ha
      rw [p1, gif_f (km a (by have := p2.2.2; omega))]
      obtain ⟨⟨s3, v⟩, e3, o3⟩ := x_val q3 (sgx_c p2 (fun i _ => q2 36 i (by omega) (by omega)) (Nat.le_refl _)) z4 wf.1 wf.2.1 g6 (good_S ev) q4 rfl
      have fs3 := fs.trans (fr_x4_valueOf _ _ _ _ _ _ _ e3)
      rw [e3]
      simp only [Option.bind_some]
      rw [ev []] at o3
      cases hr : rA with
      | none =>
        rw [hr] at o3
        rw [gif_f (by have : rI s3 4 2 1 = 1 := o3.2; rw [this]; decide), gdB0]
        exact ok_some (H2 hb (.inl ⟨ha, hr⟩) s3 (st s3 fs3).1)
      | some u =>
        rw [hr] at o3
        have hv : v = u := o3.1
        rw [gif_t (show rI s3 4 2 1 = 0 from o3.2), hv]
        exact k108 hb s3 fs3 u (fun _ => hr) (fun n => absurd ha n)
    · rw [P3' ha, gif_t rfl]
      exact k108 hb s fs 0 (fun y => absurd y ha) (fun _ => rfl)
  unfold x0_runOnce x0_runOnce_G
  rw [gif_f (by rw [ti_lt, nI_ti (by omega), li_0]; omega), gif_t (by rw [ti_lt, nI_ti (by omega), li_12]; omega), e1]
  simp only [Option.bind_some]
  rw [e2]
  simp only [Option.bind_some, gd_t bc, ic]
  rw [k2 35 c (by omega) (by omega)]
  cases hU : x.2.2.2.2 with
  | none =>
    rw [hU] at P5 ht
    have hb : b = true := ht
    simp only at P5
    rw [P5, gif_t rfl]
    exact k62 hb s2 fr_rfl
  | some U =>
    rw [hU] at P5 ht
    obtain ⟨a, p1, p2⟩ := P5
    obtain ⟨r, hE, hb⟩ := ht
    obtain ⟨wf, pu⟩ := g5 U hU
    obtain ⟨q1, q2, q3, q4⟩ := st s2 fr_rfl
    rw [p1, gif_f (km a (by have := p2.2.2; omega))]
    obtain ⟨⟨s3, v⟩, e3, o3⟩ := x_val q3 (sgx_c p2 (fun i _ => q2 36 i (by omega) (by omega)) (Nat.le_refl _)) z4 wf.1 wf.2.1 pu (good_B hE) q4 rfl
    have fs3 : Fr (FP_x4_valueOf 2) s2 s3 := fr_x4_valueOf _ _ _ _ _ _ _ e3
    rw [e3]
    simp only [Option.bind_some, cmp_eq, gdB1]
    rw [hE []] at o3
    cases r with
    | none =>
      have hv : v = 0 := o3.1
      rw [gif_t hv]
      exact ok_some (H1 hb s3 (st s3 fs3).1)
    | some y =>
      have hv : v = b64 y := o3.1
      cases y with
      | false =>
        rw [gif_t (by rw [hv]; rfl)]
        exact ok_some (H1 hb s3 (st s3 fs3).1)
      | true =>
        rw [gif_f (by rw [hv]; decide)]
        exact k62 hb s3 fs3
