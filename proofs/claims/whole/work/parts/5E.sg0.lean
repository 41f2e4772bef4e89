/-! THE FIRST STATE -/
def g_t0 : Nat → Int32 := upd (upd (upd (upd (fun _ => 0) (0 : Int32).toNatClampNeg 0) (1 : Int32).toNatClampNeg 1) (2 : Int32).toNatClampNeg 0) (3 : Int32).toNatClampNeg 30
def g_k0 : Nat → Int32 := upd (upd (upd (fun _ => 0) (51 : Int32).toNatClampNeg 1) (53 : Int32).toNatClampNeg 30) (57 : Int32).toNatClampNeg (-1)
def sg0 : Sg := (fun k _ s =>
  bif Nat.beq k 0 then (bif Nat.beq s 7 then -1 else 0) else bif Nat.beq k 1 then (bif Nat.beq s 12 then -1 else 0) else bif Nat.beq k 5 then (bif Nat.beq s 5 then -1 else 0) else
  bif Nat.beq k 6 then (bif Nat.beq s 6 then -1 else 0) else bif Nat.beq k 9 then (bif Nat.beq s 15 then -1 else 0) else
  bif Nat.beq k 10 then (bif Nat.beq s 14 then -1 else bif Nat.beq s 58 then -1 else bif Nat.beq s 66 then -1 else 0) else
  bif Nat.beq k 15 then g_t0 s else bif Nat.beq k 43 then g_k0 s else bif Nat.beq k 47 then nth mwords s 0 else
  bif Nat.beq k 76 then nth [0, 0, 0, 10] s 0 else bif Nat.beq k 77 then nth [999, 10, 9, 60] s 0 else bif Nat.beq k 78 then nth [1, 3, 4, 2] s 0 else 0,
  (fun _ _ _ => 0, fun k _ s => bif Nat.beq k 36 then 512 else bif Nat.beq k 7 then (bif Nat.beq s 2 then 1 else 0) else bif Nat.beq k 79 then 1 else 0))
theorem sg0_wf {w : g_W} : g_wf w sg0 := by
  refine ⟨fun _ => Nat.le_refl 1, fun g i _ _ => Nat.zero_le _, fun s => ?_⟩
  show (bif Nat.beq s 2 then 1 else 0) < 2
  cases Nat.beq s 2 <;> decide
theorem law0_b (n : Nat) {s : Sg} (h : ¬ (0 : Int32) < rI s 10 0 36) : m_laysAllWords_b10 (n + 1) s 0 = some s := by
  show m_laysAllWords_b10_G (m_laysAllWords_b10 n) s 0 = some s
  unfold m_laysAllWords_b10_G
  exact gif_f h
theorem law0_w : wI sg0 10 0 36 (rI sg0 43 0 (ix 54)) = sg0 := by
  have e : rI sg0 43 0 (ix 54) = rI sg0 10 0 36 := by decide +kernel
  refine Prod.ext (funext fun k => funext fun i => funext fun s => ?_) rfl
  show (if k = 10 ∧ i = 0 ∧ s = 36 then rI sg0 43 0 (ix 54) else rI sg0 k i s) = rI sg0 k i s
  by_cases h : k = 10 ∧ i = 0 ∧ s = 36
  · rw [if_pos h, e]
    obtain ⟨rfl, rfl, rfl⟩ := h
    rfl
  · rw [if_neg h]
theorem law0 : m_laysAllWords sg0 = some sg0 := by
  unfold m_laysAllWords m_laysAllWords_G m_wordMany m_wordMany_G
  rw [gd_t (by unfold inb vp_in; decide)]
  simp only [Option.bind_some]
  rw [law0_w]
  have e : FU = 19999 + 1 := rfl
  rw [e]
  exact law0_b 19999 (by decide +kernel)
/-- the model's own world: its cells lie from a on -/
def wM (w : g_W) (a : Nat) : g_W := (wD w, (wC w, (wr w, (fun q => a ≤ q, (fun k => Nat.beq (nth grpTbl k 9) 1, fun _ => a + 33)))))
def mkj (j : Nat) : Nat := bif Nat.beq j 0 then 10 else 41 + j
theorem grp_lt {k : Nat} (h : Nat.beq (nth grpTbl k 9) 1 = true) : k = 10 ∨ (42 ≤ k ∧ k ≤ 73) := by
  have hl : k < grpTbl.length := nth_lt (d := 9) (fun e => by rw [e] at h; cases h)
  have hk : k < 80 := hl
  have : ∀ k, k < 80 → Nat.beq (nth grpTbl k 9) 1 = true → k = 10 ∨ (42 ≤ k ∧ k ≤ 73) := by decide +kernel
  exact this k hk h
theorem grp_eq {k k' : Nat} (h : nth grpTbl k 9 = nth grpTbl k' 8) : k < 80 ∧ k' < 80 := by
  have v9 : ∀ k : Nat, nth grpTbl k 8 ≠ 9 := fun k => by
    by_cases hk : k < 80
    · have : ∀ k, k < 80 → nth grpTbl k 8 ≠ 9 := by decide +kernel
      exact this k hk
    · have e : nth grpTbl k 8 = 8 := Classical.byContradiction fun q => hk (nth_lt (l := grpTbl) q)
      rw [e]; decide
  have v8 : ∀ k : Nat, nth grpTbl k 9 ≠ 8 := fun k => by
    by_cases hk : k < 80
    · have : ∀ k, k < 80 → nth grpTbl k 9 ≠ 8 := by decide +kernel
      exact this k hk
    · have e : nth grpTbl k 9 = 9 := Classical.byContradiction fun q => hk (nth_lt (l := grpTbl) q)
      rw [e]; decide
  constructor
  · exact nth_lt (l := grpTbl) (d := 9) (fun e => v9 k' (by rw [← h]; exact e))
  · exact nth_lt (l := grpTbl) (d := 8) (fun e => v8 k (by rw [h]; exact e))
theorem grp_ok {k k' : Nat} (h : nth grpTbl k 9 = nth grpTbl k' 8) : Nat.beq (nth grpTbl k 9) 1 = Nat.beq (nth grpTbl k' 9) 1 := by
  have h2 := (grp_eq h).2
  have : ∀ k, k < 80 → nth grpTbl k 8 = nth grpTbl k 9 := by decide +kernel
  rw [h, this k' h2]
theorem wM_vo {w : g_W} {a k i : Nat} {σ : Sg} (h : g_vo (wM w a) σ k i) : ∃ j, j < 33 ∧ k = mkj j ∧ i = 0 := by
  have hk := grp_lt (show Nat.beq (nth grpTbl k 9) 1 = true from h.1)
  have h2 : i < g_cnt σ k := h.2
  rcases hk with rfl | hk
  · exact ⟨0, by decide, rfl, by have : i < 1 := h2; omega⟩
  · refine ⟨k - 41, by omega, ?_, ?_⟩
    · unfold mkj
      have : Nat.beq (k - 41) 0 = false := by
        cases e : Nat.beq (k - 41) 0 with
        | true => have := Nat.eq_of_beq_eq_true e; omega
        | false => rfl
      rw [this]
      show k = 41 + (k - 41)
      omega
    · have : ∀ k, k < 74 → 42 ≤ k → g_tx k = false ∧ nth cntTbl k 0 = 1 := by decide +kernel
      obtain ⟨t1, t2⟩ := this k (by omega) hk.1
      unfold g_cnt at h2
      rw [t1, t2] at h2
      have : i < 1 := h2
      omega
theorem wM_vo' {w : g_W} {a j : Nat} (h : j < 33) : g_vo (wM w a) sg0 (mkj j) 0 ∧ mkj j < 76 := by
  have : ∀ j, j < 33 → Nat.beq (nth grpTbl (mkj j) 9) 1 = true ∧ 0 < g_cnt sg0 (mkj j) ∧ mkj j < 76 := by decide +kernel
  obtain ⟨h1, h2, h3⟩ := this j h
  exact ⟨⟨h1, h2⟩, h3⟩
theorem wM_Wk {w : g_W} {a : Nat} (hw : g_Wk w) (hk : ∀ k, wk w k = true) (hr : ∀ j, j < 33 → wr w (mkj j) 0 = a + j) : g_Wk (wM w a) := by
  have hsv : ∀ k i, g_sv (wM w a) k i → ∃ j, j < 33 ∧ k = mkj j ∧ i = 0 := fun k i h => by
    have hk := grp_lt (show Nat.beq (nth grpTbl k 9) 1 = true from h.1)
    have hx : g_tx k = false := by
      rcases hk with rfl | hk
      · rfl
      · have : ∀ k, k < 74 → 42 ≤ k → g_tx k = false := by decide +kernel
        exact this k (by omega) hk.1
    have h2 : i < nth cntTbl k 0 := by
      rcases h.2 with q | q
      · rw [hx] at q; cases q
      · exact q
    refine wM_vo (w := w) (a := a) (σ := sg0) ⟨h.1, ?_⟩
    unfold g_cnt
    rw [hx]
    exact h2
  refine ⟨⟨fun k i k' i' a1 a2 h h' e => ?_, fun h => by cases h⟩, fun k i h _ => ?_, fun k k' h => grp_ok h⟩
  · exact hw.1.1 k i k' i' a1 a2 ⟨hk k, h.2⟩ ⟨hk k', h'.2⟩ e
  · obtain ⟨j, h1, rfl, rfl⟩ := hsv k i h
    show a ≤ wr w (mkj j) 0
    rw [hr j h1]
    exact Nat.le_add_right _ _
theorem wM_Zs {w : g_W} {a : Nat} {U : State} {H : Heap} (hA : ∀ q, a ≤ q → wA w q) (h : g_Zs w U H) : g_Zs (wM w a) U H := by
  refine ⟨fun k hk i hi => ?_, ?_⟩
  · have := grp_lt (show Nat.beq (nth grpTbl k 9) 1 = true from hi.1)
    omega
  · obtain ⟨h1, h2, h3, h4, ⟨adV, h5⟩, h6, n1, n2, v, hc7, h7⟩ := h.2
    exact ⟨h1.narrow hA, h2.narrow hA, h3.narrow hA, h4, ⟨adV, h5.narrow hA⟩, h6.narrow hA, n1, n2, v, hc7, h7.narrow hA⟩
theorem bst_next {f : Nat → Int32} {i : Nat} {iv x : Int32} (hf : ∀ z, z < i → f z = nth mwords z 0) (hi : iv.toNatClampNeg = i) (hx : vp_nar .byte x = nth mwords i 0) : ∀ z, z < i + 1 → upd f iv.toNatClampNeg (vp_nar .byte x) z = nth mwords z 0 := by
  intro z hz
  unfold upd
  by_cases e : z = iv.toNatClampNeg
  · rw [if_pos e, hx, e, hi]
  · rw [if_neg e]
    exact hf z (by omega)
