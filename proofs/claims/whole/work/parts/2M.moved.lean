/-- the model's row behind one thing done, what was laid down ahead of it -/
def MV (sm sm' : Sg) (v w ww : Int32) (h : Nat) : Prop :=
  (∀ i, rI sm' 43 0 i = Act (sm.1 43 0) v w ww i) ∧ (rI sm' 10 0 46).toInt = nxh h ∧ (∀ i, i < 15 → rI sm' 59 0 (16 * (nxh h - 1) + i) = rI sm 43 0 i) ∧ rI sm' 59 0 (16 * (nxh h - 1) + 15) = v ∧
    ∀ j i, j + 1 < nxh h → i < 16 → rI sm' 59 0 (16 * j + i) = rI sm 59 0 (16 * old h j + i)
theorem moved {sx sm sx' sm' : Sg} (hB : InvB sx sm) (hL : LogR sx sm) {v w ww w0 : Int32} (hv : isVb v) (hy : Why (sm.1 43 0) v w ww = 0) (h0 : v = 2 → w0 = rI sm 43 0 (2 + w.toInt.toNat))
    {h : Nat} (h16 : h ≤ 16) (hx : (rI sx 3 0 3).toInt = h) (X' : GX sx' 0 (Act (sm.1 43 0) v w ww)) (x18 : ∀ c, rN sx' 18 0 c = rN sx 18 0 c) (xT : ∀ t k c, 1 ≤ t → [8, 31, 32, 33, 34, 35, 36].elem k = true → rI sx' k t c = rI sx k t c) (x36 : ∀ t, 1 ≤ t → rN sx' 36 t 0 = rN sx 36 t 0) (x79 : rN sx' 79 0 0 = rN sx 79 0 0)
    (n1 : (rI sx' 3 0 3).toInt = nxh h) (n2 : rI sx' 20 0 (nxh h - 1) = v ∧ rI sx' 21 0 (nxh h - 1) = w ∧ rI sx' 22 0 (nxh h - 1) = w0)
    (n3 : ∀ j, j + 1 < nxh h → rI sx' 20 0 j = rI sx 20 0 (old h j) ∧ rI sx' 21 0 j = rI sx 21 0 (old h j) ∧ rI sx' 22 0 j = rI sx 22 0 (old h j))
    (m : MV sm sm' v w ww h) (m57 : ∀ c, rI sm' 57 0 c = rI sm 57 0 c) (m36 : rI sm' 10 0 36 = rI sm 10 0 36) : InvB sx' sm' ∧ LogR sx' sm' := by
  obtain ⟨k1, k2, k3, k4, k5⟩ := m
  have M := hB.1.1
  have n12 := M.1
  have e15 : ∀ i, 15 ≤ i → rI sm' 43 0 i = rI sm 43 0 i := fun i hi => by
    rw [k1]; exact Act_hi (fun h2 => by subst h2; obtain ⟨c0, c1, -⟩ := Why_2 hy; unfold wNum at c1; omega) hi
  have eK : sm'.1 43 0 = Act (sm.1 43 0) v w ww := funext k1
  have hn : 1 ≤ nxh h ∧ nxh h ≤ 16 := by unfold nxh; split <;> omega
  refine ⟨⟨⟨?_, ?_, ?_⟩, ?_, ?_⟩, ?_⟩
  · rw [eK]; exact MW_Act M hv hy
  · rw [eK]; exact X'
  · exact LX_c (sx := sx) M.2.2.2.2.2.1.2 x18 (by omega) (fun t k c h1 _ hk => xT t k c h1 hk) (fun t h1 _ => x36 t h1) (fun i hi => e15 i (by omega)) hB.1.2.2
  · rw [m36, e15 54 (by omega)]; exact hB.2.1
  · intro j hj; rw [m57]; rw [e15 54 (by omega)] at hj; exact hB.2.2 j hj
  · obtain ⟨h', g1, g2, g3, g4⟩ := hL
    have : h' = h := by omega
    subst this
    refine ⟨nxh h', hn.2, n1, k2, fun j hj => ?_⟩
    by_cases c : j + 1 = nxh h'
    · have ej : j = nxh h' - 1 := by omega
      subst ej
      rw [n2.1, n2.2.1, n2.2.2, k4]
      refine ⟨rfl, ?_⟩
      have S := Step_new M hv hy w0 (fun h2 => h0 h2)
      refine Step_c (f := Act (sm.1 43 0) v w ww) ?_ ?_ ?_ ?_ ?_ S
      · rw [← k1]; rw [e15 54 (by omega)]; exact n12.2
      · exact k1 54
      · intro i _ _; exact k1 i
      · intro i hi; unfold Sv; rw [if_pos (by omega)]; exact k3 i hi
      · intro i hi; unfold Sv; rw [if_neg (by omega)]; exact k1 i
    · have hj1 : j + 1 < nxh h' := by omega
      have N := n3 j hj1
      have ho : old h' j < h' ∧ old h' (j + 1) = old h' j + 1 := by unfold old nxh at *; split at hj1 <;> split <;> omega
      obtain ⟨q1, q2⟩ := g4 (old h' j) ho.1
      rw [N.1, N.2.1, N.2.2, k5 j 15 hj1 (by omega)]
      refine ⟨q1, ?_⟩
      refine Step_c (f := sm.1 43 0) n12.2 (e15 54 (by omega)) (fun i h1 _ => e15 i h1) ?_ ?_ q2
      · intro i hi; unfold Sv; rw [if_pos hj, if_pos ho.1]; exact k5 j i hj1 (by omega)
      · intro i hi; unfold Sv
        rw [if_pos hj1]
        by_cases c2 : j + 2 < nxh h'
        · rw [k5 (j + 1) i (by omega) (by omega), if_pos (by unfold old nxh at *; split at c2 <;> split <;> omega), ho.2]
        · have ej : j + 1 = nxh h' - 1 := by omega
          rw [ej, k3 i hi, if_neg (by unfold old nxh at *; split at c2 <;> split <;> omega)]
theorem ok_attempt {sx sm : Sg} (hB : InvB sx sm) {h : Nat} (h16 : h ≤ 16) (hx : (rI sx 3 0 3).toInt = h) {v w ww : Int32} (hv : isVb v) (hy : Why (sm.1 43 0) v w ww = 0) :
    ok (x0_attempt sx v w ww) (fun q => q.2 = 0 ∧ GX q.1 0 (Act (sm.1 43 0) v w ww) ∧ (rI q.1 3 0 3).toInt = nxh h ∧ (∃ w0 : Int32, (v = 2 → w0 = rI sm 43 0 (2 + w.toInt.toNat)) ∧ rI q.1 20 0 (nxh h - 1) = v ∧ rI q.1 21 0 (nxh h - 1) = w ∧ rI q.1 22 0 (nxh h - 1) = w0) ∧
      ∀ j, j + 1 < nxh h → rI q.1 20 0 j = rI sx 20 0 (old h j) ∧ rI q.1 21 0 j = rI sx 21 0 (old h j) ∧ rI q.1 22 0 j = rI sx 22 0 (old h j)) := by
  have M := hB.1.1
  have X := hB.1.2.1
  have n12 := M.1
  have e7 : rI sx 1 0 7 = sm.1 43 0 54 := X.1.1
  unfold x0_attempt x0_attempt_G
  simp only [q_x1_whyNot M X, Option.bind_some, hy]
  rw [gif_t trivial, q_x1_wideOf (by rw [e7]; exact n12.2)]
  have key : ∀ w0 : Int32, (v = 2 → w0 = rI sm 43 0 (2 + w.toInt.toNat)) → ok ((x3_note sx 0 v w w0).bind fun s3 => (x1_carryOutIfItCanBe s3 0 v w ww).bind fun s4 => some (s4, (0 : Int32))) (fun q => q.2 = 0 ∧ GX q.1 0 (Act (sm.1 43 0) v w ww) ∧ (rI q.1 3 0 3).toInt = nxh h ∧ (∃ w0 : Int32, (v = 2 → w0 = rI sm 43 0 (2 + w.toInt.toNat)) ∧ rI q.1 20 0 (nxh h - 1) = v ∧ rI q.1 21 0 (nxh h - 1) = w ∧ rI q.1 22 0 (nxh h - 1) = w0) ∧
      ∀ j, j + 1 < nxh h → rI q.1 20 0 j = rI sx 20 0 (old h j) ∧ rI q.1 21 0 j = rI sx 21 0 (old h j) ∧ rI q.1 22 0 j = rI sx 22 0 (old h j)) := by
    intro w0 hw0
    refine ok_bind (ok_fr (ok_note hx h16 v w w0) (fr_x3_note _ _ _ _ _) (fun s3 p F => ?_))
    have X3 : GX s3 0 (sm.1 43 0) := GX_c ⟨n12.2, M.2.2.2.2.1.1.2⟩ (fun c _ => F.i _ _ _ (nh rfl)) (fun c => F.i _ _ _ (nh rfl)) (fun c => F.i _ _ _ (nh rfl)) (fun c => F.i _ _ _ (nh rfl)) (fun c => F.i _ _ _ (nh rfl)) (fun c => F.i _ _ _ (nh rfl)) (fun c => F.i _ _ _ (nh rfl)) (fun i _ => rfl) X
    refine ok_bind (ok_fr (ok_carry M X3 hv hy) (fr_x1_carryOutIfItCanBe _ _ _ _ _) (fun s4 X4 G => ok_some ?_))
    have a1 : ∀ c, rI s4 3 0 c = rI s3 3 0 c := fun c => G.i _ _ _ (nh rfl)
    have a2 : ∀ c, rI s4 20 0 c = rI s3 20 0 c := fun c => G.i _ _ _ (nh rfl)
    have a3 : ∀ c, rI s4 21 0 c = rI s3 21 0 c := fun c => G.i _ _ _ (nh rfl)
    have a4 : ∀ c, rI s4 22 0 c = rI s3 22 0 c := fun c => G.i _ _ _ (nh rfl)
    simp only [a1, a2, a3, a4]
    exact ⟨trivial, X4, p.1, ⟨w0, hw0, p.2.1⟩, p.2.2⟩
  by_cases c : 0 ≤ w.toInt ∧ w.toInt < (rI sx 1 0 7).toInt
  · rw [gif_t c]
    simp only [Option.bind_some]
    refine key _ (fun h2 => ?_)
    rw [e7] at c
    exact (X.2.1 w.toInt.toNat (by omega)).1
  · rw [gif_f c]
    simp only [Option.bind_some]
    refine key _ (fun h2 => ?_)
    subst h2
    have := (Why_2 hy).2.1
    unfold wNum at this
    rw [e7] at c; exact absurd this c
theorem q_attempt_no {sx sm : Sg} (hB : InvB sx sm) {v w ww : Int32} (hy : ¬ Why (sm.1 43 0) v w ww = 0) : x0_attempt sx v w ww = some (sx, Why (sm.1 43 0) v w ww) := by
  unfold x0_attempt x0_attempt_G
  simp only [q_x1_whyNot hB.1.1 hB.1.2.1, Option.bind_some]
  rw [gif_f hy]
/-- both do one thing, ahead of the answer -/
theorem both_moved {sx sm : Sg} (hB : InvB sx sm) (hL : LogR sx sm) {v w ww : Int32} (hv : isVb v) (hy : Why (sm.1 43 0) v w ww = 0) {L : FPt} {sm' : Sg} (G : Fr L sm sm') (c1 : clr L [57] 0 = true) (c2 : hitb L 10 0 36 = false) (m : ∀ h : Nat, h ≤ 16 → (rI sm 10 0 46).toInt = h → MV sm sm' v w ww h) :
    ∃ sx', x0_attempt sx v w ww = some (sx', 0) ∧ InvB sx' sm' ∧ LogR sx' sm' ∧ Fr FP_x0_attempt sx sx' := by
  obtain ⟨h, g1, g2, g3, -⟩ := id hL
  obtain ⟨⟨sx', r⟩, he, p1, p2, p3, ⟨w0, p4, p5⟩, p6⟩ := ok_attempt hB g1 g2 hv hy
  simp only at p1 p2 p3 p4 p5 p6
  have F := fr_x0_attempt _ _ _ _ _ he
  subst p1
  have := moved hB hL hv hy p4 g1 g2 p2 (fun c => F.n _ _ _ (nh rfl)) (fun t k c ht hk => F.i _ _ _ (clrT_no rfl hk ht)) (fun t ht => F.n _ _ _ (clrT_no rfl rfl ht)) (F.n _ _ _ (nh rfl)) p3 p5 p6 (m h g1 g3) (fun c => G.i _ _ _ (clr_no c1 rfl)) (G.i _ _ _ (nh c2))
  exact ⟨sx', he, this.1, this.2, F⟩
/-! the model's hands -/
theorem MV_of {sm s2 : Sg} {v w ww : Int32} {h : Nat} {j : Nat} {x : Int32} (p : (rI s2 10 0 46).toInt = nxh h ∧ (∀ i, i < 15 → rI s2 59 0 (16 * (nxh h - 1) + i) = rI sm 43 0 i) ∧ rI s2 59 0 (16 * (nxh h - 1) + 15) = v ∧ ∀ j i, j + 1 < nxh h → i < 16 → rI s2 59 0 (16 * j + i) = rI sm 59 0 (16 * old h j + i))
    (e : ∀ i, rI s2 43 0 i = rI sm 43 0 i) (ha : Act (sm.1 43 0) v w ww = ud (sm.1 43 0) j x) : MV sm (wI s2 43 0 j x) v w ww h := by
  unfold MV
  rw [ha]
  simp (disch := omega) only [rI_ne]
  refine ⟨fun i => ?_, p⟩
  by_cases c : i = j
  · subst c; rw [rI_eq rfl, ud_eq rfl]
  · rw [rI_ne (by omega), ud_ne c]; exact e i
theorem m_stops_no {sm : Sg} (M : MW (sm.1 43 0)) {w ww : Int32} (hy : ¬ Why (sm.1 43 0) 0 w ww = 0) : m_stopsKept sm w = some (sm, Why (sm.1 43 0) 0 w ww) := by
  have n0 : 0 ≤ (rI sm 43 0 54).toInt := M.1.1
  unfold m_stopsKept m_stopsKept_G
  simp only [q_m_isWord n0, q_m_isLast n0, Option.bind_some, gdB0, gdB1, gdbI, gifbI]
  unfold Why at hy ⊢
  rw [if_neg (by decide), if_neg (fun x => absurd x.1 (by decide))] at hy ⊢
  by_cases c : wNum (sm.1 43 0) w
  · rw [if_neg (fun x => x c), if_pos rfl] at hy ⊢
    rw [gif_t (show 0 ≤ w.toInt ∧ w.toInt < (rI sm 43 0 54).toInt from c)]
    by_cases d : w.toInt = (sm.1 43 0 54).toInt - 1
    · rw [if_pos d, gif_t (show w.toInt = (rI sm 43 0 54).toInt - 1 from d)]
    · rw [if_neg d] at hy; exact absurd rfl hy
  · rw [if_pos c, gif_f (show ¬ (0 ≤ w.toInt ∧ w.toInt < (rI sm 43 0 54).toInt) from c)]
theorem ok_stops {sm : Sg} (M : MW (sm.1 43 0)) {w ww : Int32} (hy : Why (sm.1 43 0) 0 w ww = 0) {h : Nat} (h16 : h ≤ 16) (hh : (rI sm 10 0 46).toInt = h) :
    ok (m_stopsKept sm w) (fun q => MV sm q.1 0 w ww h ∧ q.2 = bI (w.toInt = (rI q.1 43 0 54).toInt - 1 ∨ bt (rI q.1 43 0 0) w.toInt.toNat = true)) := by
  have n0 : 0 ≤ (rI sm 43 0 54).toInt := M.1.1
  have n12 : (rI sm 43 0 54).toInt ≤ 12 := M.1.2
  obtain ⟨c1, c2⟩ := Why_0 hy
  unfold wNum at c1
  unfold m_stopsKept m_stopsKept_G
  simp only [q_m_isWord n0, q_m_isLast n0, Option.bind_some, gdB0, gdB1, gdbI, gifbI]
  rw [gif_t (show 0 ≤ w.toInt ∧ w.toInt < (rI sm 43 0 54).toInt from c1), gif_f (by show ¬ w.toInt = (sm.1 43 0 54).toInt - 1; omega)]
  refine ok_bind (ok_fr (ok_keeps hh h16 0) (fr_m_keeps _ _) (fun s2 p F => ?_))
  have e : ∀ i, rI s2 43 0 i = rI sm 43 0 i := fun i => F.i _ _ _ (nh rfl)
  rw [gd_t b0, gd_t b0, i0, e 0]
  have m := MV_of (w := w) (ww := ww) (j := 0) (x := rI sm 43 0 0 ^^^ (1 <<< (w &&& 31))) p e (by unfold Act; rw [if_pos rfl]; rfl)
  have e54 : rI (wI s2 43 0 0 (rI sm 43 0 0 ^^^ (1 <<< (w &&& 31)))) 43 0 54 = rI sm 43 0 54 := by rw [rI_ne (by omega), e]
  rw [q_m_endsAfter (by rw [e54]; exact n0) c1.1 (by have := c1.2; show w.toInt < 32; have : (sm.1 43 0 54).toInt ≤ 12 := n12; omega)]
  simp only [Option.bind_some, gdB0, gdB1, gdbI, gifbI]
  refine ok_gif (fun c => ok_some ⟨m, ?_⟩) (fun c => ok_some ⟨m, ?_⟩)
  · exact (bI_t c).symm
  · exact (bI_f c).symm
theorem m_splits_no {sm : Sg} (M : MW (sm.1 43 0)) {w ww : Int32} (hy : ¬ Why (sm.1 43 0) 1 w ww = 0) : m_splitsKept sm w = some (sm, Why (sm.1 43 0) 1 w ww) := by
  have n0 : 0 ≤ (rI sm 43 0 54).toInt := M.1.1
  have n12 : (rI sm 43 0 54).toInt ≤ 12 := M.1.2
  unfold m_splitsKept m_splitsKept_G
  simp only [q_m_isWord n0, Option.bind_some, gdB0, gdB1, gdbI, gifbI]
  unfold Why at hy ⊢
  rw [if_neg (by decide), if_neg (fun x => absurd x.1 (by decide))] at hy ⊢
  by_cases c : wNum (sm.1 43 0) w
  · have c' : 0 ≤ w.toInt ∧ w.toInt < (rI sm 43 0 54).toInt := c
    rw [if_neg (fun x => x c), if_neg (by decide), if_pos rfl] at hy ⊢
    rw [gif_t c', gd_t (inb_k (m := 15) rfl c'.1 (by omega) (by omega)), ix_k (m := 15) rfl c'.1 (by omega)]
    by_cases d : sm.1 43 0 (15 + w.toInt.toNat) = 0
    · rw [if_pos d, gif_t (show rI sm 43 0 (15 + w.toInt.toNat) = 0 from d)]
    · rw [if_neg d] at hy; exact absurd rfl hy
  · rw [if_pos c, gif_f (show ¬ (0 ≤ w.toInt ∧ w.toInt < (rI sm 43 0 54).toInt) from c)]
theorem ok_splits {sm : Sg} (M : MW (sm.1 43 0)) {w ww : Int32} (hy : Why (sm.1 43 0) 1 w ww = 0) {h : Nat} (h16 : h ≤ 16) (hh : (rI sm 10 0 46).toInt = h) :
    ok (m_splitsKept sm w) (fun q => MV sm q.1 1 w ww h ∧ q.2 = bI (bt (rI q.1 43 0 1) w.toInt.toNat = true)) := by
  have n0 : 0 ≤ (rI sm 43 0 54).toInt := M.1.1
  have n12 : (rI sm 43 0 54).toInt ≤ 12 := M.1.2
  obtain ⟨c1, c2⟩ := Why_1 hy
  have c' : 0 ≤ w.toInt ∧ w.toInt < (rI sm 43 0 54).toInt := c1
  unfold m_splitsKept m_splitsKept_G
  simp only [q_m_isWord n0, Option.bind_some, gdB0, gdB1, gdbI, gifbI]
  rw [gif_t c', gd_t (inb_k (m := 15) rfl c'.1 (by omega) (by omega)), ix_k (m := 15) rfl c'.1 (by omega), gif_f (show ¬ rI sm 43 0 (15 + w.toInt.toNat) = 0 from c2)]
  refine ok_bind (ok_fr (ok_keeps hh h16 1) (fr_m_keeps _ _) (fun s2 p F => ?_))
  have e : ∀ i, rI s2 43 0 i = rI sm 43 0 i := fun i => F.i _ _ _ (nh rfl)
  rw [gd_t b1, gd_t b1, i1, e 1]
  have m := MV_of (w := w) (ww := ww) (j := 1) (x := rI sm 43 0 1 ^^^ (1 <<< (w &&& 31))) p e (by unfold Act; rw [if_neg (by decide), if_pos rfl]; rfl)
  rw [q_m_isSplit c'.1 (by omega)]
  simp only [Option.bind_some, gdB0, gdB1, gdbI, gifbI]
  refine ok_gif (fun c => ok_some ⟨m, ?_⟩) (fun c => ok_some ⟨m, ?_⟩)
  · exact (bI_t c).symm
  · exact (bI_f c).symm
theorem q_m_canSwell {sm : Sg} {w ww : Int32} (c' : 0 ≤ w.toInt ∧ w.toInt < 12) : m_canSwell sm w ww = some (sm, bI (¬ ww = rI sm 43 0 (2 + w.toInt.toNat) ∧ (rI sm 43 0 (15 + w.toInt.toNat)).toInt < ww.toInt)) := by
  unfold m_canSwell m_canSwell_G
  rw [gd_t (inb_k (m := 2) rfl c'.1 (by omega) (by omega)), gd_t (inb_k (m := 15) rfl c'.1 (by omega) (by omega)), ix_k (m := 2) rfl c'.1 (by omega), ix_k (m := 15) rfl c'.1 (by omega), gdB0, gdB1, ti_lt]
  refine gif_eq (fun c => lf0 (fun x => x.1 c)) (fun c => ?_)
  exact gif_eq (fun d => lf1 ⟨c, d⟩) (fun d => lf0 (fun x => d x.2))
theorem m_swells_no {sm : Sg} (M : MW (sm.1 43 0)) {w ww : Int32} (hy : ¬ Why (sm.1 43 0) 2 w ww = 0) : m_swellsKept sm w ww = some (sm, Why (sm.1 43 0) 2 w ww) := by
  have n0 : 0 ≤ (rI sm 43 0 54).toInt := M.1.1
  have n12 : (rI sm 43 0 54).toInt ≤ 12 := M.1.2
  unfold m_swellsKept m_swellsKept_G
  simp only [q_m_isWord n0, q_m_lies, Option.bind_some, gdB0, gdB1, gdbI, gifbI, li_1, li_20]
  unfold Why at hy ⊢
  rw [if_neg (by decide)] at hy ⊢
  by_cases b : 1 ≤ ww.toInt ∧ ww.toInt ≤ 20
  · rw [gif_t b]
    rw [if_neg (fun x => x.2 b)] at hy ⊢
    by_cases c : wNum (sm.1 43 0) w
    · have c' : 0 ≤ w.toInt ∧ w.toInt < (rI sm 43 0 54).toInt := c
      rw [if_neg (fun x => x c), if_neg (by decide), if_neg (by decide)] at hy ⊢
      rw [gif_t c', gd_t (inb_k (m := 2) rfl c'.1 (by omega) (by omega)), q_m_canSwell ⟨c'.1, by omega⟩]
      simp only [Option.bind_some, gdB0, gdB1, gdbI, gifbI]
      by_cases d : ww = sm.1 43 0 (2 + w.toInt.toNat) ∨ ¬ (sm.1 43 0 (15 + w.toInt.toNat)).toInt < ww.toInt
      · rw [if_pos d, gif_f (fun x => d.elim (fun y => x.1 y) (fun y => y x.2))]
      · rw [if_neg d] at hy; exact absurd rfl hy
    · rw [if_pos c, gif_f (show ¬ (0 ≤ w.toInt ∧ w.toInt < (rI sm 43 0 54).toInt) from c)]
  · rw [gif_f b, if_pos ⟨rfl, b⟩]
theorem ok_swells {sm : Sg} (M : MW (sm.1 43 0)) {w ww : Int32} (hy : Why (sm.1 43 0) 2 w ww = 0) {h : Nat} (h16 : h ≤ 16) (hh : (rI sm 10 0 46).toInt = h) :
    ok (m_swellsKept sm w ww) (fun q => MV sm q.1 2 w ww h ∧ q.2 = rI sm 43 0 (2 + w.toInt.toNat)) := by
  have n0 : 0 ≤ (rI sm 43 0 54).toInt := M.1.1
  have n12 : (rI sm 43 0 54).toInt ≤ 12 := M.1.2
  obtain ⟨c0, c1, c2, c3⟩ := Why_2 hy
  have c' : 0 ≤ w.toInt ∧ w.toInt < (rI sm 43 0 54).toInt := c1
  unfold m_swellsKept m_swellsKept_G
  simp only [q_m_isWord n0, q_m_lies, Option.bind_some, gdB0, gdB1, gdbI, gifbI, li_1, li_20]
  rw [gif_t c0, gif_t c', gd_t (inb_k (m := 2) rfl c'.1 (by omega) (by omega)), q_m_canSwell ⟨c'.1, by omega⟩]
  simp only [Option.bind_some, gdB0, gdB1, gdbI, gifbI]
  rw [gif_t (show ¬ ww = rI sm 43 0 (2 + w.toInt.toNat) ∧ (rI sm 43 0 (15 + w.toInt.toNat)).toInt < ww.toInt from ⟨c2, c3⟩)]
  refine ok_bind (ok_fr (ok_keeps hh h16 2) (fr_m_keeps _ _) (fun s2 p F => ?_))
  have e : ∀ i, rI s2 43 0 i = rI sm 43 0 i := fun i => F.i _ _ _ (nh rfl)
  rw [gd_t (inb_k (m := 2) rfl c'.1 (by omega) (by omega)), ix_k (m := 2) rfl c'.1 (by omega)]
  exact ok_some ⟨MV_of p e (by unfold Act; rw [if_neg (by decide), if_neg (by decide), if_pos rfl]), rfl⟩
theorem q_goodOr_no {s : Sg} {k : Int32} (h : isRf k) : m_goodOr s k = m_refuses s k := by
  unfold m_goodOr m_goodOr_G
  rw [gif_t (by rcases h with rfl | rfl | rfl | rfl | rfl <;> decide), bindp]
theorem q_goodOr_yes {s : Sg} {k : Int32} (h : 0 ≤ k.toInt) : m_goodOr s k = m_good s k := by
  unfold m_goodOr m_goodOr_G
  rw [gif_f (by rw [ti_lt, li_0]; omega), bindp]
theorem bI_nn {p : Prop} : 0 ≤ (bI p).toInt := by
  by_cases h : p
  · rw [bI_t h]; decide
  · rw [bI_f h]; decide
/-- what else stays, behind one thing done -/
theorem Inv_moved {sx sm sx' sm' : Sg} (h : Inv sx sm) (F : Fr FP_x0_attempt sx sx') {L : FPt} (G : Fr L sm sm') (hB : InvB sx' sm') (hL : LogR sx' sm') (c1 : clr L [42, 44, 45, 47, 48, 73] 0 = true) (c2 : hitb L 10 0 66 = false) (c3 : hitb L 10 0 13 = false) (c4 : hitb L 10 0 6 = false) (c5 : hitb L 10 0 58 = false) (c6 : hitb L 10 0 0 = false) (c7 : hitb L 10 0 14 = false) : Inv sx' sm' := by
  have cc : ∀ ks : List Nat, (∀ k, ks.elem k = true → [42, 44, 45, 47, 48, 73].elem k = true) → clr L ks 0 = true := by
    intro ks hk
    clear G
    induction L with
    | nil => rfl
    | cons e t ih =>
      unfold clr at c1 ⊢
      rw [Bool.and_eq_true] at c1 ⊢
      refine ⟨?_, ih c1.2 ?_ ?_ ?_ ?_ ?_ ?_⟩
      · by_cases q : ks.elem e.1 = true
        · have := c1.1; rw [hk _ q] at this; rw [q]; exact this
        · rw [Bool.not_eq_true] at q; rw [q]; rfl
      all_goals (unfold hitb at c2 c3 c4 c5 c6 c7; rw [Bool.or_eq_false_iff] at c2 c3 c4 c5 c6 c7; first | exact c2.2 | exact c3.2 | exact c4.2 | exact c5.2 | exact c6.2 | exact c7.2)
  refine ⟨InvA_fr F G rfl rfl (cc _ ?_) c3 c4 c5 c6 c7 h.1, hB, hL, InvC_fr F G rfl rfl rfl rfl rfl (cc _ ?_) h.2.2.2.1, InvE_fr F G rfl (cc _ ?_) c2 h.2.2.2.2.1, InvF_fr F G rfl (.inl rfl) (.inl ⟨rfl, rfl⟩) (.inl rfl) (cc _ ?_) h.2.2.2.2.2⟩
  all_goals (intro k hk; simp at hk ⊢; omega)
theorem c_stop {sx sm : Sg} (h : Inv sx sm) (w : Int32) : Call sx sm (x9_stop sx w) (m_stop sm w) := by
  have M := h.2.1.1.1
  unfold x9_stop x9_stop_G m_stop m_stop_G
  simp only [bindp]
  by_cases hy : Why (sm.1 43 0) 0 w 0 = 0
  · obtain ⟨hh, g1, g2, g3, -⟩ := id h.2.2.1
    obtain ⟨⟨sm', r⟩, hm, m, hr⟩ := ok_stops (ww := 0) M hy g1 g3
    have G := fr_m_stopsKept _ _ _ hm
    obtain ⟨sx', hx, hB, hL, F⟩ := both_moved h.2.1 h.2.2.1 (.inl rfl) hy G rfl rfl (fun h' e1 e2 => (show h' = hh by omega) ▸ m)
    have I := Inv_moved h F G hB hL rfl rfl rfl rfl rfl rfl rfl
    have X' := hB.1.2.1
    have e7 : rI sx' 1 0 7 = rI sm' 43 0 54 := X'.1.1
    have e8 : rI sx' 1 0 8 = rI sm' 43 0 0 := X'.1.2.1
    simp only at hr
    have n12 := hB.n12
    rw [hx, hm]
    simp only [Option.bind_some]
    rw [gif_t trivial, q_x1_endsAfter (by rw [e7]; exact n12.1) (by rw [e7]; exact n12.2), hr, q_goodOr_yes bI_nn, e7, e8]
    simp only [Option.bind_some, gdB0, gdB1, gdbI, gifbI]
    have c1 := (Why_0 hy).1
    have e54 : rI sm' 43 0 54 = rI sm 43 0 54 := by rw [m.1 54]; exact Act_hi (fun h2 => absurd h2 (by decide)) (by omega)
    have c2 : 0 ≤ w.toInt ∧ w.toInt < (rI sm' 43 0 54).toInt := by rw [e54]; exact c1
    by_cases d : w.toInt = (rI sm' 43 0 54).toInt - 1 ∨ bt (rI sm' 43 0 0) w.toInt.toNat = true
    · rw [gif_t ⟨c2, d⟩, bI_t d]; exact (answer_both I 1).re (F.n _ _ _ (nh rfl))
    · rw [gif_f (fun x => d x.2), bI_f d]; exact (answer_both I 0).re (F.n _ _ _ (nh rfl))
  · rw [q_attempt_no h.2.1 hy, m_stops_no M hy]
    simp only [Option.bind_some]
    rw [gif_f hy, q_goodOr_no (Why_rf hy)]
    exact refuse_both h (Why_rf hy)
theorem c_split {sx sm : Sg} (h : Inv sx sm) (w : Int32) : Call sx sm (x9_split sx w) (m_split sm w) := by
  have M := h.2.1.1.1
  unfold x9_split x9_split_G m_split m_split_G
  simp only [bindp]
  by_cases hy : Why (sm.1 43 0) 1 w 0 = 0
  · obtain ⟨hh, g1, g2, g3, -⟩ := id h.2.2.1
    obtain ⟨⟨sm', r⟩, hm, m, hr⟩ := ok_splits (ww := 0) M hy g1 g3
    have G := fr_m_splitsKept _ _ _ hm
    obtain ⟨sx', hx, hB, hL, F⟩ := both_moved h.2.1 h.2.2.1 (.inr (.inl rfl)) hy G rfl rfl (fun h' e1 e2 => (show h' = hh by omega) ▸ m)
    have I := Inv_moved h F G hB hL rfl rfl rfl rfl rfl rfl rfl
    have X' := hB.1.2.1
    have e7 : rI sx' 1 0 7 = rI sm' 43 0 54 := X'.1.1
    have e9 : rI sx' 1 0 9 = rI sm' 43 0 1 := X'.1.2.2
    simp only at hr
    have n12 := hB.n12
    rw [hx, hm]
    simp only [Option.bind_some]
    rw [gif_t trivial, q_x1_isSplit (by rw [e7]; exact n12.2), hr, q_goodOr_yes bI_nn, e7, e9]
    simp only [Option.bind_some, gdB0, gdB1, gdbI, gifbI]
    have c1 := (Why_1 hy).1
    have e54 : rI sm' 43 0 54 = rI sm 43 0 54 := by rw [m.1 54]; exact Act_hi (fun h2 => absurd h2 (by decide)) (by omega)
    have c2 : 0 ≤ w.toInt ∧ w.toInt < (rI sm' 43 0 54).toInt := by rw [e54]; exact c1
    by_cases d : bt (rI sm' 43 0 1) w.toInt.toNat = true
    · rw [gif_t ⟨c2, d⟩, bI_t d]; exact (answer_both I 1).re (F.n _ _ _ (nh rfl))
    · rw [gif_f (fun x => d x.2), bI_f d]; exact (answer_both I 0).re (F.n _ _ _ (nh rfl))
  · rw [q_attempt_no h.2.1 hy, m_splits_no M hy]
    simp only [Option.bind_some]
    rw [gif_f hy, q_goodOr_no (Why_rf hy)]
    exact refuse_both h (Why_rf hy)
theorem c_swell {sx sm : Sg} (h : Inv sx sm) (w ww : Int32) : Call sx sm (x9_swell sx w ww) (m_swell sm w ww) := by
  have M := h.2.1.1.1
  have X := h.2.1.1.2.1
  have e7 : rI sx 1 0 7 = rI sm 43 0 54 := X.1.1
  have n12 := h.2.1.n12
  unfold x9_swell x9_swell_G m_swell m_swell_G
  simp only [bindp, q_x1_wideOf (show (rI sx 1 0 7).toInt ≤ 12 by rw [e7]; exact n12.2)]
  by_cases hy : Why (sm.1 43 0) 2 w ww = 0
  · obtain ⟨hh, g1, g2, g3, -⟩ := id h.2.2.1
    obtain ⟨⟨sm', r⟩, hm, m, hr⟩ := ok_swells M hy g1 g3
    have G := fr_m_swellsKept _ _ _ _ hm
    obtain ⟨sx', hx, hB, hL, F⟩ := both_moved h.2.1 h.2.2.1 (.inr (.inr (.inl rfl))) hy G rfl rfl (fun h' e1 e2 => (show h' = hh by omega) ▸ m)
    have I := Inv_moved h F G hB hL rfl rfl rfl rfl rfl rfl rfl
    simp only at hr
    obtain ⟨c0, c1, c2, c3⟩ := Why_2 hy
    have c' : 0 ≤ w.toInt ∧ w.toInt < (rI sx 1 0 7).toInt := by rw [e7]; exact c1
    have W := X.2.1 w.toInt.toNat (show _ < (rI sm 43 0 54).toInt by rw [e7] at c'; omega)
    rw [gif_t c']
    simp only [Option.bind_some, hx, hm]
    rw [gif_t trivial, hr, q_goodOr_yes (by have := M.2.1 w.toInt.toNat (show _ < (rI sm 43 0 54).toInt by rw [e7] at c'; omega); show 0 ≤ (sm.1 43 0 _).toInt; omega), show rI sx 12 0 w.toInt.toNat = rI sm 43 0 (2 + w.toInt.toNat) from W.1]
    exact (answer_both I _).re (F.n _ _ _ (nh rfl))
  · have key : ∀ r : Int32, Call sx sm ((some (sx, r)).bind fun q1 => (x0_attempt q1.1 2 w ww).bind fun q2 => gif (q2.2 = 0) (x9_answer q2.1 q1.2) (x9_refuse q2.1 q2.2)) ((m_swellsKept sm w ww).bind fun q1 => m_goodOr q1.1 q1.2) := by
      intro r
      simp only [Option.bind_some]
      rw [q_attempt_no h.2.1 hy, m_swells_no M hy]
      simp only [Option.bind_some]
      rw [gif_f hy, q_goodOr_no (Why_rf hy)]
      exact refuse_both h (Why_rf hy)
    by_cases c : 0 ≤ w.toInt ∧ w.toInt < (rI sx 1 0 7).toInt
    · rw [gif_t c]; exact key _
    · rw [gif_f c]; exact key _
