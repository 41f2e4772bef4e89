/-! calls that change scratch cells alone -/
def okX (L : FPt) : Bool := clr L [9, 39, 41] 0 && (!(hitb L 6 0 6) && (clr L [1, 12, 13, 14, 15, 16, 17, 18] 0 && (clrT L && (!(hitb L 79 0 0) && (!(hitb L 3 0 3) && (clr L [20, 21, 22] 0 && (clr L [38] 0 && (clr L [1, 12, 13, 14, 15, 16, 17, 18] 3 && (clr L [1, 12, 13, 14, 15, 16, 17, 18] 4 && (clr L [1, 12] 2 && (clr L [76, 77, 78] 0 && (clr L [36] 0 && (!(hitb L 7 0 1) && !(hitb L 7 0 2))))))))))))))
def okM (M : FPt) : Bool := clr M [42, 48] 0 && (clr M [43, 57] 0 && (clr M [43, 59] 0 && (clr M [44, 45] 0 && (clr M [73] 0 && (clr M [47] 0 && (!(hitb M 10 0 13) && (!(hitb M 10 0 6) && (!(hitb M 10 0 58) && (!(hitb M 10 0 0) && (!(hitb M 10 0 14) && (!(hitb M 10 0 36) && (!(hitb M 10 0 46) && !(hitb M 10 0 66)))))))))))))
theorem Inv_scr {L M : FPt} {sx sx' sm sm' : Sg} (F : Fr L sx sx') (G : Fr M sm sm') (hx : okX L = true) (hm : okM M = true) (h : Inv sx sm) : Inv sx' sm' := by
  unfold okX at hx
  unfold okM at hm
  simp only [Bool.and_eq_true, Bool.not_eq_true'] at hx hm
  obtain ⟨x1, x2, x3, x4, x5, x6, x7, x8, x9, x10, x11, x12, x13, x14, x15⟩ := hx
  obtain ⟨m1, m2, m3, m4, m5, m6, m7, m8, m9, m10, m11, m12, m13, m14⟩ := hm
  exact ⟨InvA_fr F G x1 x2 m1 m7 m8 m9 m10 m11 h.1, InvB_fr F G x3 x4 x5 m2 m12 h.2.1, LogR_fr F G h.log12 x6 x7 m13 m3 h.2.2.1, InvC_fr F G x8 x9 x10 x4 x5 m4 h.2.2.2.1, InvE_fr F G x11 m5 m14 h.2.2.2.2.1, InvF_fr F G x12 (.inl x13) (.inl ⟨x14, x15⟩) (.inl x5) m6 h.2.2.2.2.2⟩
theorem call_scr {α : Type} {L M : FPt} {sx sx' sm sm' : Sg} {x m : Option (Sg × α)} {r : α} (ex : x = some (sx', r)) (em : m = some (sm', r)) (F : Fr L sx sx') (G : Fr M sm sm') (hx : okX L = true) (hm : okM M = true) (h : Inv sx sm) : Call sx sm x m :=
  ⟨sx', sm', r, ex, em, Inv_scr F G hx hm h, by
    unfold okX at hx; simp only [Bool.and_eq_true, Bool.not_eq_true'] at hx
    rw [F.n 79 0 0 (nh hx.2.2.2.2.1)]; omega⟩
/-- the law in force, whatever else changes -/
theorem law_now' {s : Sg} {g : Nat} {f : Nat → Int32} (A : GA s g f) : ∃ lw C, (∀ s', rI s' 1 g 11 = rI s 1 g 11 → rI s' 1 g 12 = rI s 1 g 12 → (∀ c, rN s' 18 g c = rN s 18 g c) → x1_lawInForce s' g = some (s', lw)) ∧ LWX s lw C ∧ LWF f C := by
  obtain ⟨M, X, L⟩ := A
  obtain ⟨m1, m2, m3⟩ := M.2.2.2.2.2
  have e12 : rI s 1 g 12 = f 57 := X.2.2.2.2.2
  have e11 : rI s 1 g 11 = f 56 := X.2.2.2.2.1
  by_cases c : (f 57).toInt = -1
  · refine ⟨0, [], fun s' h1 h2 h3 => ?_, .inl ⟨rfl, rfl⟩, .inl ⟨c, rfl⟩⟩
    unfold x1_lawInForce x1_lawInForce_G x1_lawOf x1_lawOf_G
    rw [h2, e12, gif_t (by rw [ti_lt, c]; decide)]; rfl
  · obtain ⟨l, hl⟩ : ∃ l : Nat, (f 57).toInt = l := ⟨_, (Int.toNat_of_nonneg (by omega)).symm⟩
    obtain ⟨t, t1, t2, t3, C, wf, LC, LM⟩ := L l (by omega)
    refine ⟨t + 1, C, fun s' h1 h2 h3 => ?_, .inr ⟨t, rfl, LC, wf⟩, .inr ⟨l, by omega, hl, LM, wf⟩⟩
    unfold x1_lawInForce x1_lawInForce_G x1_lawOf x1_lawOf_G
    rw [h1, h2, e12, e11, gif_f (by rw [ti_lt, hl, li_0]; omega), gif_t (by rw [ti_lt]; omega), gif_t (by rw [ti_lt, hl, li_6]; omega), gd_t (inb_iff.mpr (by omega)), show ix (f 57) = l by rw [ix_eq, hl]; omega, h3, t3]
    rfl
theorem rs_of {s : Sg} {g : Nat} {f : Nat → Int32} (A : GA s g f) : ∃ n C, (f 54).toInt = (n : Nat) ∧ n ≤ 12 ∧ LWF f C ∧ ok (x7_readSetting s g) (fun s' => Told s' f C n) := by
  obtain ⟨lw, C, h1, h2, h3⟩ := law_now' A
  obtain ⟨n, hn⟩ : ∃ n : Nat, (f 54).toInt = n := ⟨_, (Int.toNat_of_nonneg A.1.1.1).symm⟩
  exact ⟨n, C, hn, by have := A.1.1.2; omega, h3, ok_readSetting A hn h1 h2⟩
/-! the sheet's answers -/
theorem q_tellOf {s : Sg} {len : Nat} (hl : (rI s 7 0 4).toInt = len) (l24 : len ≤ 24) {a b : Int32} {w j : Nat} (ha : a.toInt = w) (hw : w < 7) (hb : b.toInt = j) (hj : j < len) : x7_tellOf s a b = some (s, rI s 74 w j) := by
  unfold x7_tellOf x7_tellOf_G
  rw [gif_f (by rw [ti_lt, ha, li_0]; omega), gif_t (by rw [ti_lt, ha, li_7]; omega), gif_f (by rw [ti_lt, hb, li_0]; omega), gif_t (by rw [ti_lt, hb, hl]; omega), gif_t (by rw [ti_lt, hb, li_24]; omega), gd_t (inb_iff.mpr (by omega)), gd_t (inb_iff.mpr (by omega)), show ix a = w by rw [ix_eq, ha]; omega, show ix b = j by rw [ix_eq, hb]; omega]
def tsum (v : Nat → Int32) : Nat → Int32
  | 0 => 0
  | k + 1 => tsum v k + v k
theorem q_together {s : Sg} {len : Nat} (hl : (rI s 7 0 4).toInt = len) (l24 : len ≤ 24) {a : Int32} {w : Nat} (ha : a.toInt = w) (hw : w < 7) : x7_together s a = some (s, tsum (fun j => rI s 74 w j) len) := by
  have key : ∀ (d j : Nat) (b : Int32) (fuel : Nat), j + d = len → b.toInt = j → d < fuel → x7_together_b4 fuel s a (tsum (fun j => rI s 74 w j) j) b = some (s, tsum (fun j => rI s 74 w j) len) := by
    intro d
    induction d with
    | zero =>
      intro j b fuel h1 h2 h3
      obtain ⟨fuel, rfl⟩ : ∃ x, fuel = x + 1 := ⟨fuel - 1, by omega⟩
      show x7_together_b4_G _ _ s a _ b = _
      unfold x7_together_b4_G
      rw [gif_f (by rw [ti_lt, h2, hl]; omega), show j = len by omega]
    | succ d ih =>
      intro j b fuel h1 h2 h3
      obtain ⟨fuel, rfl⟩ : ∃ x, fuel = x + 1 := ⟨fuel - 1, by omega⟩
      show x7_together_b4_G _ _ s a _ b = _
      unfold x7_together_b4_G
      rw [gif_t (by rw [ti_lt, h2, hl]; omega), q_tellOf hl l24 ha hw h2 (by omega)]
      simp only [Option.bind_some]
      exact ih (j + 1) (b + 1) fuel (by omega) (by rw [ti_add (by rw [h2, li_1]; omega) (by rw [h2, li_1]; omega), h2, li_1]; omega) (by omega)
  unfold x7_together x7_together_G
  exact key len 0 0 FU (by omega) rfl (by show _ < 20000; omega)
theorem tsum_c {v u : Nat → Int32} : ∀ {k : Nat}, (∀ j, j < k → v j = u j) → tsum v k = tsum u k := by
  intro k
  induction k with
  | zero => intro _; rfl
  | succ k ih => intro h; unfold tsum; rw [ih (fun j hj => h j (by omega)), h k (by omega)]
/-! the model in a setting -/
def MC (s : Sg) (f : Nat → Int32) (C : List Cla) (n : Nat) : Prop := (∀ c, rI s 43 0 c = f c) ∧ MD s n (wdF f) (ftF f) (kdF f) ∧ SetR s f n ∧ LWM s C
theorem MC_c {s s' : Sg} {f : Nat → Int32} {C : List Cla} {n : Nat} (h : MC s f C n) (e1 : ∀ c, rI s' 43 0 c = rI s 43 0 c) (e2 : ∀ c, rI s' 57 0 c = rI s 57 0 c) (e3 : ∀ c, rI s' 58 0 c = rI s 58 0 c) (e4 : rI s' 10 0 36 = rI s 10 0 36) (e5 : rI s' 10 0 43 = rI s 10 0 43) : MC s' f C n :=
  ⟨fun c => by rw [e1]; exact h.1 c, MD_c h.2.1 e4 e2 e1, ⟨by rw [e5]; exact h.2.2.1.1, fun j hj => by rw [e3]; exact h.2.2.1.2 j hj⟩, LWM_c h.2.2.2 e1⟩
theorem ok_setting {s : Sg} {n : Nat} {C : List Cla} (M : MW (s.1 43 0)) (hn : (rI s 43 0 54).toInt = n) (h1 : rI s 10 0 36 = rI s 43 0 54) (h2 : ∀ w : Nat, (w : Int) < (rI s 43 0 54).toInt → (rI s 57 0 w).toInt = w) (W : LWF (s.1 43 0) C) : ok (m_laysSetting s) (fun s' => MC s' (s.1 43 0) C n) := by
  refine ok_mono (ok_laysSetting M hn) (fun s' ⟨p1, p2⟩ => ⟨fun c => p2 _ _ _ (by omega) (by omega), MD_c (MD_of M hn h1 h2) (p2 _ _ _ (by omega) (by omega)) (fun c => p2 _ _ _ (by omega) (by omega)) (fun c => p2 _ _ _ (by omega) (by omega)), p1, LWM_c (s := s) W (fun c => p2 _ _ _ (by omega) (by omega))⟩)
theorem ok_set {s : Sg} {f : Nat → Int32} {n j : Nat} {C : List Cla} (R : RD n (wdF f) (ftF f)) (h : MC s f C n) (hj : j < (EL f (2 * n)).length) {a : Int32} (ha : a.toInt = j) :
    ok (m_takesSet s a) (fun s' => MC s' f C n ∧ Lin s' (wdF f) (ftF f) (nI j) (frL (EL f (2 * n)) j) (toL (EL f (2 * n)) j) (f 53)) :=
  ok_mono (ok_takesSet h.2.1 R h.2.2.1 (h.1 53) hj ha) (fun s' ⟨p1, p2⟩ => ⟨MC_c h (fun c => p2 _ _ _ (by omega)) (fun c => p2 _ _ _ (by omega)) (fun c => p2 _ _ _ (by omega)) (p2 _ _ _ (by omega)) (p2 _ _ _ (by omega)), p1⟩)
theorem MC_N {s s' : Sg} {f : Nat → Int32} {C : List Cla} {n : Nat} (h : MC s f C n) (e : SameN s s') : MC s' f C n :=
  MC_c h (fun c => e _ _ _ (by omega) (by omega)) (fun c => e _ _ _ (by omega) (by omega)) (fun c => e _ _ _ (by omega) (by omega)) (e _ _ _ (by omega) (by omega)) (e _ _ _ (by omega) (by omega))
theorem to_lt {f : Nat → Int32} {n j : Nat} (hj : j < (EL f (2 * n)).length) : toL (EL f (2 * n)) j < 2 * n := (fr_to hj).2
theorem ok_costs {s : Sg} {f : Nat → Int32} {n j : Nat} {C : List Cla} (h : MC s f C n) (hj : j < (EL f (2 * n)).length) (L : Lin s (wdF f) (ftF f) (nI j) (frL (EL f (2 * n)) j) (toL (EL f (2 * n)) j) (f 53)) : ok (m_costsNow s) (fun q => MC q.1 f C n ∧ q.2 = LCo (FL f n j) C n (toL (EL f (2 * n)) j) ∧ SameN s q.1) := by
  refine ok_mono (ok_costsNow h.2.1 h.2.2.2 L (to_lt hj)) (fun q ⟨p1, p2⟩ => ⟨MC_N h p1, ?_, p1⟩)
  rw [p2, h.1, h.1]; rfl
theorem ok_pays {s : Sg} {f : Nat → Int32} {n j : Nat} {C : List Cla} (h : MC s f C n) (hj : j < (EL f (2 * n)).length) (L : Lin s (wdF f) (ftF f) (nI j) (frL (EL f (2 * n)) j) (toL (EL f (2 * n)) j) (f 53)) : ok (m_paysNow s) (fun q => MC q.1 f C n ∧ q.2 = LPa (FL f n j) C ∧ SameN s q.1) := by
  refine ok_mono (ok_paysNow h.2.1 h.2.2.2 L (to_lt hj)) (fun q ⟨p1, p2⟩ => ⟨MC_N h p1, ?_, p1⟩)
  rw [p2, h.1, h.1]; rfl
theorem ok_fits {s : Sg} {f : Nat → Int32} {n j : Nat} {C : List Cla} (h : MC s f C n) (hj : j < (EL f (2 * n)).length) (L : Lin s (wdF f) (ftF f) (nI j) (frL (EL f (2 * n)) j) (toL (EL f (2 * n)) j) (f 53)) : ok (m_fitsNow s) (fun q => MC q.1 f C n ∧ q.2 = bI (LFi (wdF f) (ftF f) (frL (EL f (2 * n)) j) (toL (EL f (2 * n)) j) (f 53) (FL f n j) C)) := by
  refine ok_mono (ok_fitsNow h.2.1 h.2.2.2 L (to_lt hj)) (fun q ⟨p1, p2⟩ => ⟨MC_N h p1, ?_⟩)
  rw [p2, h.1, h.1]; rfl
theorem ok_barred {s : Sg} {f : Nat → Int32} {n j : Nat} {C : List Cla} (h : MC s f C n) (hj : j < (EL f (2 * n)).length) (L : Lin s (wdF f) (ftF f) (nI j) (frL (EL f (2 * n)) j) (toL (EL f (2 * n)) j) (f 53)) : ok (m_isBarred s) (fun q => MC q.1 f C n ∧ q.2 = bI (barr (FL f n j) C)) := by
  refine ok_mono (ok_isBarred h.2.1 h.2.2.2 L (to_lt hj)) (fun q ⟨p1, p2⟩ => ⟨MC_N h p1, ?_⟩)
  rw [p2, h.1, h.1]; rfl
/-- costs, pays, fits, as the model's allOf takes them -/
noncomputable def aval (f : Nat → Int32) (C : List Cla) (n : Nat) (w : Nat) (j : Nat) : Int32 :=
  if w = 0 then LCo (FL f n j) C n (toL (EL f (2 * n)) j) else if w = 1 then LPa (FL f n j) C else bI (LFi (wdF f) (ftF f) (frL (EL f (2 * n)) j) (toL (EL f (2 * n)) j) (f 53) (FL f n j) C)
theorem ok_allOf {s : Sg} {n : Nat} {C : List Cla} (M : MW (s.1 43 0)) (hn : (rI s 43 0 54).toInt = n) (h1 : rI s 10 0 36 = rI s 43 0 54) (h2 : ∀ w : Nat, (w : Int) < (rI s 43 0 54).toInt → (rI s 57 0 w).toInt = w) (W : LWF (s.1 43 0) C) {a : Int32} {w : Nat} (ha : a.toInt = w) (hw : w ≤ 2) :
    ok (m_allOf s a) (fun q => q.2 = tsum (aval (s.1 43 0) C n w) (EL (s.1 43 0) (2 * n)).length) := by
  have R : RD n (wdF (s.1 43 0)) (ftF (s.1 43 0)) := RD_of M hn
  have n12 : (rI s 43 0 54).toInt ≤ 12 := M.1.2
  have ll : (EL (s.1 43 0) (2 * n)).length ≤ 2 * n := EL_len
  unfold m_allOf m_allOf_G
  refine ok_bind (ok_mono (ok_setting M hn h1 h2 W) (fun s1 h => ?_))
  refine ok_loop (K := fun k (p : Sg × Int32 × Int32) => m_allOf_b8 k p.1 a p.2.1 p.2.2) (I := fun p => ∃ j : Nat, j ≤ (EL (s.1 43 0) (2 * n)).length ∧ p.2.2.toInt = j ∧ p.2.1 = tsum (aval (s.1 43 0) C n w) j ∧ MC p.1 (s.1 43 0) C n)
    (μ := fun p => 25 - p.2.2.toInt.toNat) ?_ FU (s1, 0, 0) ⟨0, by omega, rfl, rfl, h⟩ (by show _ < 20000; omega)
  rintro k ⟨s2, l2, l3⟩ ⟨j, j1, j2, j3, j4⟩ ih
  simp only at j1 j2 j3 j4 ih
  show ok (m_allOf_b8_G _ _ _ _ _ s2 a l2 l3) _
  unfold m_allOf_b8_G
  have t1 : (l3 + 1).toInt = j + 1 := by rw [ti_add (by rw [j2, li_1]; omega) (by rw [j2, li_1]; omega), j2, li_1]
  refine ok_gif (fun c => ?_) (fun c => ?_)
  · rw [ti_lt, j2, j4.2.2.1.1] at c
    have hj : j < (EL (s.1 43 0) (2 * n)).length := by omega
    refine ok_bind (ok_mono (ok_set R j4 hj j2) (fun s3 ⟨p1, p2⟩ => ?_))
    have go : ∀ (s4 : Sg) (v : Int32), MC s4 (s.1 43 0) C n → v = aval (s.1 43 0) C n w j → ok (m_allOf_b8 k s4 a (l2 + v) (l3 + 1)) (fun q => q.2 = tsum (aval (s.1 43 0) C n w) (EL (s.1 43 0) (2 * n)).length) := by
      intro s4 v h4 hv
      exact ih (s4, l2 + v, l3 + 1) ⟨j + 1, by omega, by rw [t1]; omega, by simp only []; rw [j3, hv]; rfl, h4⟩ (by simp only [t1, j2]; omega)
    refine ok_gif (fun d => ?_) (fun d => ok_gif (fun e => ?_) (fun e => ?_))
    · have w0 : w = 0 := by rw [ti_eq, ha, li_0] at d; omega
      exact ok_bind (ok_mono (ok_costs p1 hj p2) (fun q ⟨q1, q2, _⟩ => go q.1 q.2 q1 (by rw [q2]; unfold aval; rw [if_pos w0])))
    · have w1 : w = 1 := by rw [ti_eq, ha, li_1] at e; omega
      exact ok_bind (ok_mono (ok_pays p1 hj p2) (fun q ⟨q1, q2, _⟩ => go q.1 q.2 q1 (by rw [q2]; unfold aval; rw [if_neg (by omega), if_pos w1])))
    · have w2 : w = 2 := by rw [ti_eq, ha, li_0] at d; rw [ti_eq, ha, li_1] at e; omega
      refine ok_bind (ok_mono (ok_fits p1 hj p2) (fun q ⟨q1, q2⟩ => ?_))
      rw [q2, gifbI]
      refine ok_gif (fun x => go q.1 1 q1 ?_) (fun x => go q.1 0 q1 ?_)
      · unfold aval; rw [if_neg (by omega), if_neg (by omega), bI_t x]
      · unfold aval; rw [if_neg (by omega), if_neg (by omega), bI_f x]
  · rw [ti_lt, j2, j4.2.2.1.1] at c
    exact ok_some (by simp only []; rw [j3, show j = (EL (s.1 43 0) (2 * n)).length by omega])
theorem told_sum {s : Sg} {f : Nat → Int32} {C : List Cla} {n : Nat} (T : Told s f C n) (n12 : n ≤ 12) {a : Int32} {w : Nat} (ha : a.toInt = (if w = 0 then 3 else if w = 1 then 4 else 6 : Nat)) (hw : w ≤ 2) : x7_together s a = some (s, tsum (aval f C n w) (EL f (2 * n)).length) := by
  have ll : (EL f (2 * n)).length ≤ 2 * n := EL_len
  rw [q_together T.1 (by omega) ha (by split <;> (try omega); split <;> omega)]
  refine pr (tsum_c (fun j hj => ?_))
  obtain ⟨t1, t2, t3, t4, t5, t6, t7⟩ := T.2 j hj
  unfold aval
  rcases (by omega : w = 0 ∨ w = 1 ∨ w = 2) with rfl | rfl | rfl
  · exact t4
  · exact t5
  · exact t7
/-- what both tell of a galley that stands in the model's row -/
theorem both_all {sx sm : Sg} {g : Nat} (A : GA sx g (sm.1 43 0)) (h1 : rI sm 10 0 36 = rI sm 43 0 54) (h2 : ∀ w : Nat, (w : Int) < (rI sm 43 0 54).toInt → (rI sm 57 0 w).toInt = w) :
    ∃ n C, (rI sm 43 0 54).toInt = (n : Nat) ∧ n ≤ 12 ∧ LWF (sm.1 43 0) C ∧ ok (x7_readSetting sx g) (fun s' => Told s' (sm.1 43 0) C n) ∧ (∀ (a : Int32) (w : Nat), a.toInt = w → w ≤ 2 → ok (m_allOf sm a) (fun q => q.2 = tsum (aval (sm.1 43 0) C n w) (EL (sm.1 43 0) (2 * n)).length)) := by
  obtain ⟨n, C, hn, n12, W, T⟩ := rs_of A
  exact ⟨n, C, hn, n12, W, T, fun a w ha hw => ok_allOf A.1 hn h1 h2 W ha hw⟩
theorem c_all {sx sm : Sg} (h : Inv sx sm) (a : Int32) : Call sx sm (x9_all sx a) (m_all sm a) := by
  obtain ⟨n, C, hn, n12, W, ⟨s1, hs1, T⟩, hA⟩ := both_all h.2.1.1 h.2.1.2.1 h.2.1.2.2
  have F := fr_x7_readSetting _ _ _ hs1
  by_cases c : 0 ≤ a.toInt ∧ a.toInt ≤ 2
  · obtain ⟨w, hw⟩ : ∃ w : Nat, a.toInt = w := ⟨_, (Int.toNat_of_nonneg c.1).symm⟩
    obtain ⟨⟨sm', r⟩, hm, hr⟩ := hA a w hw (by omega)
    simp only at hr
    have em : m_all sm a = some (sm', r) := by
      unfold m_all m_all_G
      simp only [q_m_lies, Option.bind_some, gdB0, gdB1, gdbI, gifbI, li_0, li_2, bindp]
      rw [gif_t c, hm]
    have G := fr_m_all _ _ _ em
    have ex : x9_all sx a = some (s1, r) := by
      unfold x9_all x9_all_G
      rw [hs1]
      simp only [Option.bind_some, bindp]
      rcases (by omega : w = 0 ∨ w = 1 ∨ w = 2) with rfl | rfl | rfl
      · rw [gif_t (by rw [ti_eq, hw]; rfl), told_sum (w := 0) T n12 rfl (by omega), hr]
      · rw [gif_f (by rw [ti_eq, hw]; decide), gif_t (by rw [ti_eq, hw]; rfl), told_sum (w := 1) T n12 rfl (by omega), hr]
      · rw [gif_f (by rw [ti_eq, hw]; decide), gif_f (by rw [ti_eq, hw]; decide), gif_t (by rw [ti_eq, hw]; rfl), told_sum (w := 2) T n12 rfl (by omega), hr]
    exact call_scr ex em F G rfl rfl h
  · have em : m_all sm a = some (sm, -1) := by
      unfold m_all m_all_G
      simp only [q_m_lies, Option.bind_some, gdB0, gdB1, gdbI, gifbI, li_0, li_2]
      rw [gif_f c]
    have ex : x9_all sx a = some (s1, -1) := by
      unfold x9_all x9_all_G
      rw [hs1]
      simp only [Option.bind_some]
      rw [gif_f (by rw [ti_eq, li_0]; omega), gif_f (by rw [ti_eq, li_1]; omega), gif_f (by rw [ti_eq, li_2]; omega)]
    exact call_scr (M := []) ex em F fr_rfl rfl rfl h
theorem c_line {sx sm : Sg} (h : Inv sx sm) (a b : Int32) : Call sx sm (x9_line sx a b) (m_line sm a b) := by
  obtain ⟨n, C, hn, n12, W, ⟨s1, hs1, T⟩, -⟩ := both_all h.2.1.1 h.2.1.2.1 h.2.1.2.2
  have F := fr_x7_readSetting _ _ _ hs1
  have M := h.2.1.1.1
  have R : RD n (wdF (sm.1 43 0)) (ftF (sm.1 43 0)) := RD_of M hn
  have ll : (EL (sm.1 43 0) (2 * n)).length ≤ 2 * n := EL_len
  obtain ⟨m1, hm1, hMC⟩ := ok_setting M hn h.2.1.2.1 h.2.1.2.2 W
  have tS := hMC.2.2.1.1
  have t1 : (rI m1 10 0 43 - 1).toInt = (EL (sm.1 43 0) (2 * n)).length - 1 := by rw [ti_sub (by rw [tS, li_1]; omega) (by rw [tS, li_1]; omega), tS, li_1]
  by_cases cj : 0 ≤ a.toInt ∧ a.toInt < (EL (sm.1 43 0) (2 * n)).length
  · obtain ⟨j, hj⟩ : ∃ w : Nat, a.toInt = w := ⟨_, (Int.toNat_of_nonneg cj.1).symm⟩
    have hj2 : j < (EL (sm.1 43 0) (2 * n)).length := by omega
    obtain ⟨m3, hm3, p1, p2⟩ := ok_set R hMC hj2 hj
    obtain ⟨t0, tw, tp, tc, ty, tb, tf⟩ := T.2 j hj2
    -- the model's answer by what is asked
    have em0 : ∀ o, (gif (b = 0) (gd (inb a 24) (some (m3, rI m3 58 0 (ix a)))) (gif (b = 1) (some (m3, rI m3 10 0 38)) (gif (b = 2) (some (m3, rI m3 10 0 37)) (gif (b = 3) (m_costsNow m3) (gif (b = 4) (m_paysNow m3) (gif (b = 5) ((m_isBarred m3).bind fun q6 => gif (q6.2 = 0) (some (q6.1, 0)) (some (q6.1, 1))) (gif (b = 6) ((m_fitsNow m3).bind fun q7 => gif (q7.2 = 0) (some (q7.1, 0)) (some (q7.1, 1))) (some (m3, -1)))))))) = o) → m_line sm a b = o := by
      intro o ho
      unfold m_line m_line_G
      rw [hm1]
      simp only [Option.bind_some, q_m_lies, Option.bind_some, gdB0, gdB1, gdbI, gifbI, li_0, t1, bindp]
      rw [gif_t (by omega), hm3]
      simp only [Option.bind_some]
      exact ho
    have ex0 : ∀ (w : Nat), b.toInt = w → w < 7 → x9_line sx a b = some (s1, rI s1 74 w j) := by
      intro w hw h7
      unfold x9_line x9_line_G
      rw [gif_f (by rw [ti_lt, hw, li_0]; omega), gif_t (by rw [ti_lt, hw, li_7]; omega), hs1]
      simp only [Option.bind_some, bindp]
      rw [gif_f (by rw [ti_lt, hj, li_0]; omega), gif_t (by rw [ti_lt, hj, T.1]; omega), q_tellOf T.1 (by omega) hw h7 hj hj2]
    by_cases cb : 0 ≤ b.toInt ∧ b.toInt < 7
    · obtain ⟨w, hw⟩ : ∃ w : Nat, b.toInt = w := ⟨_, (Int.toNat_of_nonneg cb.1).symm⟩
      have nb : ∀ (k : Nat) (x : Int32), x.toInt = k → w ≠ k → ¬ b = x := fun k x hx hk e => by rw [e, hx] at hw; omega
      have yb : ∀ (x : Int32), x.toInt = w → b = x := fun x hx => by rw [ti_eq, hw, hx]
      have ex := ex0 w hw (by omega)
      -- an answer of the model at some state
      have fin : ∀ (m4 : Sg) (r : Int32), m_line sm a b = some (m4, r) → r = rI s1 74 w j → Call sx sm (x9_line sx a b) (m_line sm a b) := by
        intro m4 r e1 e2
        exact call_scr ex (by rw [e1, e2]) F (fr_m_line _ _ _ _ e1) rfl rfl h
      rcases (by omega : w = 0 ∨ w = 1 ∨ w = 2 ∨ w = 3 ∨ w = 4 ∨ w = 5 ∨ w = 6) with rfl | rfl | rfl | rfl | rfl | rfl | rfl
      · have b0' := yb 0 rfl
        refine fin m3 (rI m3 58 0 (ix a)) (em0 _ (by rw [gif_t b0', gd_t (inb_iff.mpr (by omega))])) ?_
        rw [show ix a = j by rw [ix_eq, hj]; omega, ti_eq, t0, p1.2.2.1.2 j hj2]
      · refine fin m3 (rI m3 10 0 38) (em0 _ (by rw [gif_f (nb 0 0 rfl (by omega)), gif_t (yb 1 rfl)])) ?_
        rw [ti_eq, tw, p2.2.1]
      · refine fin m3 (rI m3 10 0 37) (em0 _ (by rw [gif_f (nb 0 0 rfl (by omega)), gif_f (nb 1 1 rfl (by omega)), gif_t (yb 2 rfl)])) ?_
        rw [ti_eq, tp, p2.1]
      · obtain ⟨⟨m4, r⟩, e4, q1, q2, -⟩ := ok_costs p1 hj2 p2
        refine fin m4 r (em0 _ (by rw [gif_f (nb 0 0 rfl (by omega)), gif_f (nb 1 1 rfl (by omega)), gif_f (nb 2 2 rfl (by omega)), gif_t (yb 3 rfl), e4])) ?_
        rw [tc]; exact q2
      · obtain ⟨⟨m4, r⟩, e4, q1, q2, -⟩ := ok_pays p1 hj2 p2
        refine fin m4 r (em0 _ (by rw [gif_f (nb 0 0 rfl (by omega)), gif_f (nb 1 1 rfl (by omega)), gif_f (nb 2 2 rfl (by omega)), gif_f (nb 3 3 rfl (by omega)), gif_t (yb 4 rfl), e4])) ?_
        rw [ty]; exact q2
      · obtain ⟨⟨m4, r⟩, e4, q1, q2⟩ := ok_barred p1 hj2 p2
        simp only at q2
        refine fin m4 r (em0 _ ?_) (by rw [tb]; exact q2)
        rw [gif_f (nb 0 0 rfl (by omega)), gif_f (nb 1 1 rfl (by omega)), gif_f (nb 2 2 rfl (by omega)), gif_f (nb 3 3 rfl (by omega)), gif_f (nb 4 4 rfl (by omega)), gif_t (yb 5 rfl), e4]
        simp only [Option.bind_some]
        rw [q2, gifbI, gif_bI]
      · obtain ⟨⟨m4, r⟩, e4, q1, q2⟩ := ok_fits p1 hj2 p2
        simp only at q2
        refine fin m4 r (em0 _ ?_) (by rw [tf]; exact q2)
        rw [gif_f (nb 0 0 rfl (by omega)), gif_f (nb 1 1 rfl (by omega)), gif_f (nb 2 2 rfl (by omega)), gif_f (nb 3 3 rfl (by omega)), gif_f (nb 4 4 rfl (by omega)), gif_f (nb 5 5 rfl (by omega)), gif_t (yb 6 rfl), e4]
        simp only [Option.bind_some]
        rw [q2, gifbI, gif_bI]
    · have nb : ∀ (k : Nat) (x : Int32), x.toInt = k → k < 7 → ¬ b = x := fun k x hx hk e => by rw [e, hx] at cb; omega
      have em : m_line sm a b = some (m3, -1) := em0 _ (by rw [gif_f (nb 0 0 rfl (by omega)), gif_f (nb 1 1 rfl (by omega)), gif_f (nb 2 2 rfl (by omega)), gif_f (nb 3 3 rfl (by omega)), gif_f (nb 4 4 rfl (by omega)), gif_f (nb 5 5 rfl (by omega)), gif_f (nb 6 6 rfl (by omega))])
      have ex : x9_line sx a b = some (sx, -1) := by
        unfold x9_line x9_line_G
        rw [ti_lt, ti_lt, li_0, li_7]
        exact gif_eq (fun _ => rfl) (fun d => gif_eq (fun e => absurd ⟨by omega, e⟩ cb) (fun _ => rfl))
      exact call_scr (L := []) ex em fr_rfl (fr_m_line _ _ _ _ em) rfl rfl h
  · have em : m_line sm a b = some (m1, -1) := by
      unfold m_line m_line_G
      rw [hm1]
      simp only [Option.bind_some, q_m_lies, Option.bind_some, gdB0, gdB1, gdbI, gifbI, li_0, t1]
      rw [gif_f (by omega)]
    have G := fr_m_line _ _ _ _ em
    by_cases cb : 0 ≤ b.toInt ∧ b.toInt < 7
    · have ex : x9_line sx a b = some (s1, -1) := by
        unfold x9_line x9_line_G
        rw [gif_f (by rw [ti_lt, li_0]; omega), gif_t (by rw [ti_lt, li_7]; omega), hs1]
        simp only [Option.bind_some, bindp]
        rw [ti_lt, ti_lt, li_0, T.1]
        exact gif_eq (fun _ => rfl) (fun d => gif_eq (fun e => absurd ⟨by omega, e⟩ cj) (fun _ => rfl))
      exact call_scr ex em F G rfl rfl h
    · have ex : x9_line sx a b = some (sx, -1) := by
        unfold x9_line x9_line_G
        rw [ti_lt, ti_lt, li_0, li_7]
        exact gif_eq (fun _ => rfl) (fun d => gif_eq (fun e => absurd ⟨by omega, e⟩ cb) (fun _ => rfl))
      exact call_scr (L := []) ex em fr_rfl G rfl rfl h
/-! how many fit; proofs -/
theorem fit_both {sx sm : Sg} {g : Nat} (A : GA sx g (sm.1 43 0)) (h1 : rI sm 10 0 36 = rI sm 43 0 54) (h2 : ∀ w : Nat, (w : Int) < (rI sm 43 0 54).toInt → (rI sm 57 0 w).toInt = w) :
    ∃ sx' sm' r, x7_howManyFit sx g = some (sx', r) ∧ m_allOf sm 2 = some (sm', r) ∧ 0 ≤ r.toInt := by
  obtain ⟨n, C, hn, n12, W, ⟨s1, hs1, T⟩, hA⟩ := both_all A h1 h2
  obtain ⟨⟨sm', r⟩, hm, hr⟩ := hA 2 2 rfl (by omega)
  simp only at hr
  refine ⟨s1, sm', r, ?_, hm, ?_⟩
  · unfold x7_howManyFit x7_howManyFit_G
    rw [hs1]
    simp only [Option.bind_some, bindp]
    rw [told_sum (w := 2) T n12 rfl (by omega), hr]
  · rw [hr]
    have ll : (EL (sm.1 43 0) (2 * n)).length ≤ 2 * n := EL_len
    have key : ∀ k : Nat, k ≤ 24 → 0 ≤ (tsum (aval (sm.1 43 0) C n 2) k).toInt ∧ (tsum (aval (sm.1 43 0) C n 2) k).toInt ≤ k := by
      intro k
      induction k with
      | zero => intro _; show 0 ≤ (0 : Int32).toInt ∧ (0 : Int32).toInt ≤ ((0 : Nat) : Int); decide
      | succ k ih =>
        intro hk
        have i1 := ih (by omega)
        have b : 0 ≤ (aval (sm.1 43 0) C n 2 k).toInt ∧ (aval (sm.1 43 0) C n 2 k).toInt ≤ 1 := by
          have : ∀ p : Prop, 0 ≤ (bI p).toInt ∧ (bI p).toInt ≤ 1 := fun p => by
            by_cases hp : p
            · rw [bI_t hp]; decide
            · rw [bI_f hp]; decide
          exact this _
        unfold tsum
        rw [ti_add (by omega) (by omega)]; omega
    exact (key _ (by omega)).1
theorem c_pass {sx sm : Sg} (h : Inv sx sm) : Call sx sm (x9_pass sx) (m_pass sm) := by
  obtain ⟨s1, m1, r, hx1, hm1, r0⟩ := fit_both h.2.1.1 h.2.1.2.1 h.2.1.2.2
  have F1 := fr_x7_howManyFit _ _ _ hx1
  have G1 := fr_m_allOf _ _ _ hm1
  have h1 : Inv s1 m1 := Inv_scr F1 G1 rfl rfl h
  have M := h1.2.1.1.1
  have e14 : rI m1 43 0 14 = rI sm 43 0 14 := G1.i _ _ _ (nh rfl)
  have r14 : 0 ≤ (rI m1 43 0 14).toInt ∧ (rI m1 43 0 14).toInt ≤ 999 := M.2.2.2.1.1
  unfold x9_pass x9_pass_G m_pass m_pass_G m_passesKept m_passesKept_G
  rw [hx1]
  simp only [Option.bind_some, bindp, gd_t k14.1, k14.2]
  by_cases c : (rI m1 43 0 14).toInt < 999
  · have hy : Why (m1.1 43 0) 3 0 0 = 0 := by unfold Why; rw [if_pos rfl, if_pos (show (m1.1 43 0 14).toInt < 999 from c)]
    rw [gif_f (by rw [← e14, ti_eq, li_999]; omega), hm1]
    simp only [Option.bind_some]
    obtain ⟨hh, g1, g2, g3, -⟩ := id h1.2.2.1
    obtain ⟨s2, hk, p⟩ := ok_keeps g3 g1 3
    have Gk := fr_m_keeps _ _ _ hk
    have e43 : ∀ i, rI s2 43 0 i = rI m1 43 0 i := fun i => Gk.i _ _ _ (nh rfl)
    have m : MV m1 (wI s2 43 0 14 (rI m1 43 0 14 + 1)) 3 0 0 hh := MV_of p e43 (by unfold Act; rw [if_neg (by decide), if_neg (by decide), if_neg (by decide)]; rfl)
    have G : Fr ((43, 1, 0) :: FP_m_keeps) m1 (wI s2 43 0 14 (rI m1 43 0 14 + 1)) := fr_wI (Gk.mono (fun k i c h => .inr h)) (hit_ie (.head _))
    obtain ⟨s2', hx, hB, hL, F⟩ := both_moved h1.2.1 h1.2.2.1 (.inr (.inr (.inr rfl))) hy G rfl rfl (fun h' e1 e2 => (show h' = hh by omega) ▸ m)
    have I := Inv_moved h1 F G hB hL rfl rfl rfl rfl rfl rfl rfl
    rw [hk, hx]
    simp only [Option.bind_some, e43]
    rw [gif_t trivial, q_goodOr_yes r0]
    exact (answer_both I r).re (by rw [F.n _ _ _ (nh rfl), F1.n _ _ _ (nh rfl)])
  · have hy : Why (m1.1 43 0) 3 0 0 = -3 := by unfold Why; rw [if_pos rfl, if_neg (show ¬ (m1.1 43 0 14).toInt < 999 from c)]
    rw [gif_t (by rw [← e14, ti_eq, li_999]; omega), q_attempt_no h1.2.1 (by rw [hy]; decide), hy]
    simp only [Option.bind_some]
    rw [gif_f (by decide), q_goodOr_no (.inr (.inr (.inl rfl)))]
    have h2 : Inv s1 sm := Inv_scr F1 (M := []) fr_rfl rfl rfl h
    exact (refuse_both h2 (.inr (.inr (.inl rfl)))).re (F1.n _ _ _ (nh rfl))
