/-! the paper of both sides -/
noncomputable def DF (f : Nat → Int32) (n : Nat) (mea : Int32) (C : List Cla) : Dom := (n, wdF f, ftF f, kdF f, mea, f 52, f 14, C)
theorem q_layPaper {s : Sg} {g lw : Nat} : x9_layPaper s g lw = x5_layOut s g lw (rI s 15 g 3) 0 := by
  unfold x9_layPaper x9_layPaper_G
  have b : inb 3 4 := inb_iff.mpr (by rw [li_3]; omega)
  have i : ix 3 = 3 := by rw [ix_eq, li_3]; rfl
  cases lw <;> (simp only [gd_t b, i, bindv])
theorem paper_x {s : Sg} {g lw : Nat} {f : Nat → Int32} {n : Nat} {C : List Cla} (A : GA s g f) (hn : (f 54).toInt = n) (L : LWX s lw C) (mea bars : Int32) : ok (x5_layOut s g lw mea bars) (fun s' => TF s' bars (DF f n mea C)) := by
  obtain ⟨M, X, -⟩ := A
  exact ok_layOut (D := DF f n mea C) (XD_of M X hn) L X.2.2.1.2.2.1 X.2.2.1.1 (RD_of M hn)
theorem paper_m {s : Sg} {n : Nat} {C : List Cla} (M : MW (s.1 43 0)) (hn : (rI s 43 0 54).toInt = n) (h1 : rI s 10 0 36 = rI s 43 0 54) (h2 : ∀ w : Nat, (w : Int) < (rI s 43 0 54).toInt → (rI s 57 0 w).toInt = w) (W : LWF (s.1 43 0) C) (mea ask : Int32) : ok (m_laysLines s mea ask) (fun s' => MWd s' (DF (s.1 43 0) n mea C) ∧ PL s' (DF (s.1 43 0) n mea C) ask (2 * n) 0 0) :=
  ok_laysLines (D := DF (s.1 43 0) n mea C) ⟨MD_of M hn h1 h2, W, rfl, rfl⟩ (RD_of M hn)
/-- from the relation: the law in force, the paper of the class and the lines of the model -/
theorem paper_both {sx sm : Sg} (h : Inv sx sm) : ∃ lw n C, x1_lawInForce sx 0 = some (sx, lw) ∧ (rI sm 43 0 54).toInt = (n : Nat) ∧ n ≤ 12 ∧ (∀ mea bars, ok (x5_layOut sx 0 lw mea bars) (fun s' => TF s' bars (DF (sm.1 43 0) n mea C))) ∧ ok (x9_layPaper sx 0 lw) (fun s' => TF s' 0 (DF (sm.1 43 0) n (rI sm 43 0 53) C)) ∧ (∀ mea ask, ok (m_laysLines sm mea ask) (fun s' => MWd s' (DF (sm.1 43 0) n mea C) ∧ PL s' (DF (sm.1 43 0) n mea C) ask (2 * n) 0 0)) := by
  have A := h.2.1.1
  obtain ⟨lw, C, h1, h2, h3⟩ := law_now' A
  obtain ⟨n, hn⟩ : ∃ n : Nat, (rI sm 43 0 54).toInt = n := ⟨_, (Int.toNat_of_nonneg A.1.1.1).symm⟩
  have n12 : (rI sm 43 0 54).toInt ≤ 12 := A.1.1.2
  refine ⟨lw, n, C, h1 sx rfl rfl (fun _ => rfl), hn, by omega, fun mea bars => paper_x A hn h2 mea bars, ?_, fun mea ask => paper_m A.1 hn h.2.1.2.1 h.2.1.2.2 h3 mea ask⟩
  rw [q_layPaper, A.2.1.2.2.1.2.2.2]
  exact paper_x A hn h2 _ _
theorem k53' : inb 53 5665 ∧ ix 53 = 53 := ik (n := 53) (by omega)
theorem c_ways {sx sm : Sg} (h : Inv sx sm) : Call sx sm (x9_ways sx) (m_ways sm) := by
  obtain ⟨lw, n, C, hl, hn, n12, -, ⟨s3, hs3, T⟩, hM⟩ := paper_both h
  obtain ⟨⟨s4, v⟩, hv, e4, ev⟩ := ok_waysInAll T n12
  obtain ⟨m1, hm1, W1, L1⟩ := hM (rI sm 43 0 53) 0
  obtain ⟨⟨m2, u⟩, hu, eu⟩ := ok_mways W1 L1
  simp only at e4 ev eu
  have ex : x9_ways sx = some (s4, v) := by
    unfold x9_ways x9_ways_G
    rw [hl]
    simp only [Option.bind_some, bindp]
    cases lw <;> (simp only []; rw [hs3]; exact hv)
  have em : m_ways sm = some (m2, u) := by
    unfold m_ways m_ways_G
    rw [gd_t k53'.1, k53'.2, hm1]; exact hu
  have e : u = v := by rw [eu, ev]
  subst e
  exact call_scr ex em (fr_x9_ways _ _ ex) (fr_m_ways _ _ em) rfl rfl h
