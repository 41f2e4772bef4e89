/-! LEAVE OUT a word -/
def skp (i : Nat) (w : Nat) : Nat := if w < i then w else w + 1
theorem ok_dropWord {s : Sg} {g n i : Nat} {wd ft kd : Nat → Int32} (X : XD s g n wd ft kd) (hi : i < n) {I : Int32} (hI : I.toInt = i) :
    ok (x1_dropWord s g I) (fun s' => XD s' g (n - 1) (fun w => wd (skp i w)) (fun w => ft (skp i w)) (fun w => kd (skp i w))) := by
  obtain ⟨x1, x2, x3⟩ := X
  unfold x1_dropWord x1_dropWord_G
  rw [q_x1_has (show (rI s 1 g 7).toInt ≤ 12 by omega)]
  simp only [Option.bind_some, gdB0, gdB1, gdbI, gifbI]
  rw [gif_t (by omega)]
  refine ok_loop (K := fun m (p : Sg × Int32) => x1_dropWord_b11 m p.1 g p.2) (I := fun p => ∃ k : Nat, i ≤ k ∧ k < n ∧ p.2.toInt = k ∧ (rI p.1 1 g 7).toInt = n ∧ (∀ w, w < k → rI p.1 12 g w = wd (skp i w) ∧ rI p.1 13 g w = ft (skp i w) ∧ rI p.1 14 g w = kd (skp i w)) ∧ ∀ w, k ≤ w → w < n → rI p.1 12 g w = wd w ∧ rI p.1 13 g w = ft w ∧ rI p.1 14 g w = kd w)
    (μ := fun p => 13 - p.2.toInt.toNat) ?_ FU (s, I) ⟨i, Nat.le_refl _, hi, hI, x1, fun w hw => by unfold skp; rw [if_pos hw]; exact x3 w (by omega), fun w _ hw => x3 w hw⟩ (by show _ < 20000; omega)
  rintro m ⟨s2, K⟩ ⟨k, a1, a2, a3, a4, a5, a6⟩ ih
  simp only at a1 a2 a3 a4 a5 a6 ih
  show ok (x1_dropWord_b11_G _ s2 g K) _
  unfold x1_dropWord_b11_G
  have t1 : (K + 1).toInt = (k + 1 : Nat) := by rw [ti_add (by rw [a3, li_1]; omega) (by rw [a3, li_1]; omega), a3, li_1]; omega
  have fin : k + 1 = n → ok (some (wI s2 1 g 7 (rI s2 1 g 7 - 1))) (fun s' => XD s' g (n - 1) (fun w => wd (skp i w)) (fun w => ft (skp i w)) (fun w => kd (skp i w))) := by
    intro hk
    refine ok_some ⟨?_, by omega, fun w hw => ?_⟩
    · rw [rI_eq rfl, ti_sub (by rw [a4, li_1]; omega) (by rw [a4, li_1]; omega), a4, li_1]; omega
    · rw [rI_ne (by omega), rI_ne (by omega), rI_ne (by omega)]; exact a5 w (by omega)
  refine ok_gif (fun c => ?_) (fun c => ?_)
  · rw [ti_lt, t1, a4] at c
    rw [gif_t (by rw [ti_lt, t1, li_12]; omega)]
    have b1 : inb (K + 1) 12 := inb_iff.mpr (by rw [t1]; omega)
    have b0 : inb K 12 := inb_iff.mpr (by rw [a3]; omega)
    have e1 : ix (K + 1) = k + 1 := by rw [ix_eq, t1]; omega
    have e0 : ix K = k := by rw [ix_eq, a3]; omega
    simp only [gd_t b1, gd_t b0, e1, e0]
    simp (disch := omega) only [rI_ne]
    obtain ⟨y1, y2, y3⟩ := a6 (k + 1) (by omega) (by omega)
    rw [y1, y2, y3]
    refine ih (wI (wI (wI s2 12 g k (wd (k + 1))) 13 g k (ft (k + 1))) 14 g k (kd (k + 1)), K + 1) ⟨k + 1, by omega, by omega, t1, ?_, fun w hw => ?_, fun w h1 h2 => ?_⟩ (by simp only [t1, a3]; omega)
    · simp only []; rw [rI_ne (by omega), rI_ne (by omega), rI_ne (by omega)]; exact a4
    · simp only []
      by_cases e : w = k
      · subst e
        have sk : skp i w = w + 1 := by unfold skp; rw [if_neg (by omega)]
        rw [sk]
        refine ⟨?_, ?_, ?_⟩
        · rw [rI_ne (by omega), rI_ne (by omega), rI_eq rfl]
        · rw [rI_ne (by omega), rI_eq rfl]
        · rw [rI_eq rfl]
      · have := a5 w (by omega)
        refine ⟨?_, ?_, ?_⟩
        · rw [rI_ne (by omega), rI_ne (by omega), rI_ne (by omega)]; exact this.1
        · rw [rI_ne (by omega), rI_ne (by omega), rI_ne (by omega)]; exact this.2.1
        · rw [rI_ne (by omega), rI_ne (by omega), rI_ne (by omega)]; exact this.2.2
    · simp only []
      have := a6 w (by omega) h2
      refine ⟨?_, ?_, ?_⟩
      · rw [rI_ne (by omega), rI_ne (by omega), rI_ne (by omega)]; exact this.1
      · rw [rI_ne (by omega), rI_ne (by omega), rI_ne (by omega)]; exact this.2.1
      · rw [rI_ne (by omega), rI_ne (by omega), rI_ne (by omega)]; exact this.2.2
  · rw [ti_lt, t1, a4] at c
    exact fin (by omega)
theorem ok_leavesOut {s : Sg} {n i : Nat} (hn : (rI s 43 0 54).toInt = n) (n12 : n ≤ 12) (hi : i < n) {I : Int32} (hI : I.toInt = i) :
    ok (m_leavesOut s I) (fun s' => (rI s' 10 0 36).toInt = (n - 1 : Nat) ∧ (∀ w, w < n - 1 → (rI s' 57 0 w).toInt = skp i w) ∧ ∀ c, rI s' 43 0 c = rI s 43 0 c) := by
  unfold m_leavesOut m_leavesOut_G
  refine ok_loop (K := fun m (p : Sg × Int32) => m_leavesOut_b7 m p.1 I p.2) (I := fun p => ∃ k c : Nat, k ≤ n ∧ c = (if k ≤ i then k else k - 1) ∧ p.2.toInt = k ∧ (rI p.1 10 0 36).toInt = c ∧ (∀ w, w < c → (rI p.1 57 0 w).toInt = skp i w) ∧ ∀ c, rI p.1 43 0 c = rI s 43 0 c)
    (μ := fun p => 13 - p.2.toInt.toNat) ?_ FU (wI s 10 0 36 0, 0) ⟨0, 0, by omega, by rw [if_pos (by omega)], rfl, by simp only []; rw [rI_eq rfl]; rfl, fun w hw => by omega, fun c => rI_ne (by omega)⟩ (by show _ < 20000; omega)
  rintro m ⟨s2, K⟩ ⟨k, c, a1, a2, a3, a4, a5, a6⟩ ih
  simp only at a1 a2 a3 a4 a5 a6 ih
  show ok (m_leavesOut_b7_G _ _ s2 I K) _
  unfold m_leavesOut_b7_G
  rw [q_m_wordMany]
  simp only [Option.bind_some]
  have e54 : (rI s2 43 0 54).toInt = n := by rw [a6]; exact hn
  have t1 : (K + 1).toInt = (k + 1 : Nat) := by rw [ti_add (by rw [a3, li_1]; omega) (by rw [a3, li_1]; omega), a3, li_1]; omega
  refine ok_gif (fun x => ?_) (fun x => ?_)
  · rw [ti_lt, a3, e54] at x
    have c12 : c < 12 := by rw [a2]; split <;> omega
    refine ok_gif (fun y => ?_) (fun y => ?_)
    · rw [ti_eq, a3, hI] at y
      exact ih (s2, K + 1) ⟨k + 1, c, by omega, by rw [a2, if_pos (by omega), if_neg (by omega)]; omega, t1, a4, a5, a6⟩ (by simp only [t1, a3]; omega)
    · rw [ti_eq, a3, hI] at y
      rw [gd_t (inb_iff.mpr (by rw [a4]; omega)), show ix (rI s2 10 0 36) = c by rw [ix_eq, a4]; omega]
      simp (disch := omega) only [rI_ne]
      have t2 : (rI s2 10 0 36 + 1).toInt = (c + 1 : Nat) := by rw [ti_add (by rw [a4, li_1]; omega) (by rw [a4, li_1]; omega), a4, li_1]; omega
      refine ih (wI (wI s2 57 0 c K) 10 0 36 (rI s2 10 0 36 + 1), K + 1) ⟨k + 1, c + 1, by omega, ?_, t1, by simp only []; rw [rI_eq rfl, t2], fun w hw => ?_, fun c' => by simp only []; rw [rI_ne (by omega), rI_ne (by omega)]; exact a6 c'⟩ (by simp only [t1, a3]; omega)
      · rw [a2]; by_cases z : k ≤ i
        · rw [if_pos z, if_pos (by omega)]
        · rw [if_neg z, if_neg (by omega)]; omega
      · simp only []
        rw [rI_ne (by omega)]
        by_cases z : w = c
        · subst z
          rw [rI_eq rfl, a3]
          unfold skp
          by_cases z2 : k ≤ i
          · rw [if_pos z2] at a2; rw [if_pos (by omega)]; omega
          · rw [if_neg z2] at a2; rw [if_neg (by omega)]; omega
        · rw [rI_ne (by omega)]; exact a5 w (by omega)
  · rw [ti_lt, a3, e54] at x
    have ek : k = n := by omega
    have ec : c = n - 1 := by rw [a2, if_neg (by omega), ek]
    exact ok_some ⟨by rw [a4, ec], fun w hw => a5 w (by omega), a6⟩
