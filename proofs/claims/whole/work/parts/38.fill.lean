/-! ARRAYS.FILL: the JDK's own code -/
theorem akf_75 : g_Ak 75 256 0 := ⟨rfl, rfl, rfl, rfl, by decide⟩
theorem akf_27 : g_Ak 27 625 3 := ⟨rfl, rfl, rfl, rfl, by decide⟩
theorem akf_40 : g_Ak 40 20 3 := ⟨rfl, rfl, rfl, rfl, by decide⟩
theorem icf_0 : Int32.ofInt 0 = (0 : Int32) := by decide +kernel
theorem icf_1 : Int32.ofInt 1 = (1 : Int32) := by decide +kernel
def M_flI : g_M := ("java/util/Arrays", prog_18_method_103_code, 4, none, 1, 0)
def M_flL : g_M := ("java/util/Arrays", prog_18_method_101_code, 5, none, 1, 0)
def L_flI : List Nat := [3, 61, 42, 190, 62, 28, 29, 162, 0, 13, 42, 28, 27, 79, 132, 2, 1, 167, 255, 244, 177]
theorem bs_flI : g_bs prog_18_method_103_code L_flI := by unfold g_bs; decide +kernel
def L_flL : List Nat := [3, 62, 42, 190, 54, 4, 29, 21, 4, 162, 0, 13, 42, 29, 31, 80, 132, 3, 1, 167, 255, 243, 177]
theorem bs_flL : g_bs prog_18_method_101_code L_flL := by unfold g_bs; decide +kernel
def g_flI (σ : Sg) (k g n : Nat) (v : Int32) : Sg := (fun a b c => if a = k ∧ b = g ∧ c < n then v else σ.1 a b c, σ.2)
def g_flL (σ : Sg) (k g n : Nat) (v : Int64) : Sg := (σ.1, (fun a b c => if a = k ∧ b = g ∧ c < n then v else σ.2.1 a b c, σ.2.2))
theorem g_flI_up (σ : Sg) (k g n : Nat) (v : Int32) : wI (g_flI σ k g n v) k g n v = g_flI σ k g (n + 1) v := by
  unfold wI g_flI u3
  refine Prod.ext ?_ rfl
  funext a b c
  show (if a = k ∧ b = g ∧ c = n then v else if a = k ∧ b = g ∧ c < n then v else σ.1 a b c) = if a = k ∧ b = g ∧ c < n + 1 then v else σ.1 a b c
  by_cases h1 : a = k ∧ b = g
  · obtain ⟨rfl, rfl⟩ := h1
    by_cases h2 : c = n
    · rw [if_pos ⟨rfl, rfl, h2⟩, if_pos ⟨rfl, rfl, by omega⟩]
    · rw [if_neg (fun q => h2 q.2.2)]
      by_cases h3 : c < n
      · rw [if_pos ⟨rfl, rfl, h3⟩, if_pos ⟨rfl, rfl, by omega⟩]
      · rw [if_neg (fun q => h3 q.2.2), if_neg (fun q => by have := q.2.2; omega)]
  · rw [if_neg (fun q => h1 ⟨q.1, q.2.1⟩), if_neg (fun q => h1 ⟨q.1, q.2.1⟩), if_neg (fun q => h1 ⟨q.1, q.2.1⟩)]
theorem g_flL_up (σ : Sg) (k g n : Nat) (v : Int64) : wL (g_flL σ k g n v) k g n v = g_flL σ k g (n + 1) v := by
  unfold wL g_flL u3
  refine Prod.ext rfl (Prod.ext ?_ rfl)
  funext a b c
  show (if a = k ∧ b = g ∧ c = n then v else if a = k ∧ b = g ∧ c < n then v else σ.2.1 a b c) = if a = k ∧ b = g ∧ c < n + 1 then v else σ.2.1 a b c
  by_cases h1 : a = k ∧ b = g
  · obtain ⟨rfl, rfl⟩ := h1
    by_cases h2 : c = n
    · rw [if_pos ⟨rfl, rfl, h2⟩, if_pos ⟨rfl, rfl, by omega⟩]
    · rw [if_neg (fun q => h2 q.2.2)]
      by_cases h3 : c < n
      · rw [if_pos ⟨rfl, rfl, h3⟩, if_pos ⟨rfl, rfl, by omega⟩]
      · rw [if_neg (fun q => h3 q.2.2), if_neg (fun q => by have := q.2.2; omega)]
  · rw [if_neg (fun q => h1 ⟨q.1, q.2.1⟩), if_neg (fun q => h1 ⟨q.1, q.2.1⟩), if_neg (fun q => h1 ⟨q.1, q.2.1⟩)]
noncomputable def flI75_G (K : Sg → Nat → Int32 → Int32 → Int32 → Option Sg) (s : Sg) (g0 : Nat) (v : Int32) (a c : Int32) : Option Sg :=
  gif (a < c) (gd (inb a 256) (K (wI s 75 g0 (ix a) v) g0 v (a + 1) c)) (some s)
noncomputable def flI75_b : Nat → Sg → Nat → Int32 → Int32 → Int32 → Option Sg
  | 0 => fun _ _ _ _ _ => none
  | f + 1 => flI75_G (flI75_b f)
noncomputable def t_flI75_b (K : Sg → Nat → Int32 → Int32 → Int32 → Option Sg) : Bk Sg := s_ldI 2 (s_ldI 3 (s_clt (s_ldA 0 (s_ldI 2 (s_ldI 1 (s_iast 75 256 (s_inc 2 1 (s_goto (p_R 0 75 fun a0 => p_I 1 fun a1 => p_I 2 fun a2 => p_I 3 fun a3 => p_E fun s => K s a0 a1 a2 a3))))))) (s_vret retV)))
theorem e_flI75_b (K : Sg → Nat → Int32 → Int32 → Int32 → Option Sg) (s : Sg) (g0 : Nat) (v : Int32) (a c : Int32) : flI75_G K s g0 v a c = t_flI75_b K [some (.inr (.inr (some (75, g0)))), some (.inl v), some (.inl a), some (.inl c)] [] s := rfl
noncomputable def t_flI75 (K : Sg → Nat → Int32 → Int32 → Int32 → Option Sg) : Bk Sg := s_ic 0 (s_stI 2 (s_ldA 0 (s_alen 75 256 (s_stI 3 (p_R 0 75 fun a0 => p_I 1 fun a1 => p_I 2 fun a2 => p_I 3 fun a3 => p_E fun s => K s a0 a1 a2 a3)))))
theorem e_flI75 (K : Sg → Nat → Int32 → Int32 → Int32 → Option Sg) (s : Sg) (g0 : Nat) (v : Int32) : K s g0 v 0 (Int32.ofNat 256) = t_flI75 K [some (.inr (.inr (some (75, g0)))), some (.inl v), none, none] [] s := rfl
set_option maxRecDepth 100000 in
theorem B_flI75 : ∀ (f : Nat) (s : Sg) (g0 : Nat) (v : Int32) (a c : Int32) (r : Sg), flI75_b f s g0 v a c = some r → g_Go M_flI retV 0 5 [some (.inr (.inr (some (75, g0)))), some (.inl v), some (.inl a), some (.inl c)] [] s r := by
  intro f
  induction f with
  | zero => intro s g0 v a c r h; cases h
  | succ f hK =>
    intro s g0 v a c r h
    have ht : g_Gd M_flI retV 0 5 (t_flI75_b (flI75_b f)) := (G_ldIn (n := 2) (nx := 6) (dc28 bs_flI (by decide +kernel)) rfl rfl (G_ldIn (n := 3) (nx := 7) (dc29 bs_flI (by decide +kernel)) rfl rfl (G_icmpge (off := 13) (tg := 20) (nf := 10) (dc162 (x := 0) (y := 13) bs_flI (by decide +kernel) (by decide +kernel)) (by decide +kernel) rfl
    (G_ldAn (n := 0) (nx := 11) (dc42 bs_flI (by decide +kernel)) rfl rfl (G_ldIn (n := 2) (nx := 12) (dc28 bs_flI (by decide +kernel)) rfl rfl (G_ldIn (n := 1) (nx := 13) (dc27 bs_flI (by decide +kernel)) rfl rfl (G_iast (nx := 14) akf_75 (by decide) (dc79 bs_flI (by decide +kernel)) rfl (G_inc (n := 1) (nx := 17) (by show 2 < 4; decide) (dc132 (x := 2) (y := 1) bs_flI (by decide +kernel) (by decide +kernel)) icf_1 rfl (G_goto (off := -12) (nx := 5) (dc167 (x := 255) (y := 244) bs_flI (by decide +kernel) (by decide +kernel)) (by decide +kernel) (G_lbl (Gp_R fun a0 => Gp_I fun a1 => Gp_I fun a2 => Gp_I fun a3 => Gp_E fun s r h => hK s a0 a1 a2 a3 r h))))))))
    (G_vret rfl (dc177 bs_flI (by decide +kernel))))))
    exact ht _ _ s r ((e_flI75_b (flI75_b f) s g0 v a c).symm.trans h)
theorem E_flI75 (s : Sg) (g0 : Nat) (v : Int32) (r : Sg) (h : flI75_b FU s g0 v 0 (Int32.ofNat 256) = some r) : g_Go M_flI retV 0 0 [some (.inr (.inr (some (75, g0)))), some (.inl v), none, none] [] s r := by
  have ht : g_Gd M_flI retV 0 0 (t_flI75 (flI75_b FU)) := (G_ic (n := 0) (nx := 1) (dc3 bs_flI (by decide +kernel)) icf_0 rfl (G_stIn (n := 2) (nx := 2) (by show 2 < 4; decide) (dc61 bs_flI (by decide +kernel)) rfl rfl (G_ldAn (n := 0) (nx := 3) (dc42 bs_flI (by decide +kernel)) rfl rfl (G_alen (nx := 4) akf_75 (by decide) (dc190 bs_flI (by decide +kernel)) rfl (G_stIn (n := 3) (nx := 5) (by show 3 < 4; decide) (dc62 bs_flI (by decide +kernel)) rfl rfl (G_lbl (Gp_R fun a0 => Gp_I fun a1 => Gp_I fun a2 => Gp_I fun a3 => Gp_E fun s r h => B_flI75 FU s a0 a1 a2 a3 r h)))))))
  exact ht _ _ s r ((e_flI75 (flI75_b FU) s g0 v).symm.trans h)
theorem l_flI75 (σ : Sg) (g0 : Nat) (v : Int32) : ∀ (f j : Nat), j ≤ 256 → 256 - j < f → flI75_b f (g_flI σ 75 g0 j v) g0 v (nI j) (nI 256) = some (g_flI σ 75 g0 256 v) := by
  intro f
  induction f with
  | zero => intro j h1 h2; omega
  | succ f ih =>
    intro j h1 h2
    show gif (nI j < nI 256) (gd (inb (nI j) 256) (flI75_b f (wI (g_flI σ 75 g0 j v) 75 g0 (ix (nI j)) v) g0 v (nI j + 1) (nI 256))) (some (g_flI σ 75 g0 j v)) = _
    by_cases hj : j < 256
    · have hlt : nI j < nI 256 := (nI_ltI (by omega) (by decide)).mpr hj
      have hin : inb (nI j) 256 := vp_in_nI hj (by decide)
      unfold gif gd
      rw [if_pos hlt, if_pos hin, show ix (nI j) = j from nI_clamp (by omega), g_flI_up, nI_1]
      exact ih (j + 1) (by omega) (by omega)
    · have hlt : ¬ nI j < nI 256 := fun q => hj ((nI_ltI (by omega) (by decide)).mp q)
      have e : j = 256 := by omega
      unfold gif
      rw [if_neg hlt, e]
noncomputable def flL27_G (K : Sg → Nat → Int64 → Int32 → Int32 → Option Sg) (s : Sg) (g0 : Nat) (v : Int64) (a c : Int32) : Option Sg :=
  gif (a < c) (gd (inb a 625) (K (wL s 27 g0 (ix a) v) g0 v (a + 1) c)) (some s)
noncomputable def flL27_b : Nat → Sg → Nat → Int64 → Int32 → Int32 → Option Sg
  | 0 => fun _ _ _ _ _ => none
  | f + 1 => flL27_G (flL27_b f)
noncomputable def t_flL27_b (K : Sg → Nat → Int64 → Int32 → Int32 → Option Sg) : Bk Sg := s_ldI 3 (s_ldI 4 (s_clt (s_ldA 0 (s_ldI 3 (s_ldL 1 (s_last 27 625 (s_inc 3 1 (s_goto (p_R 0 27 fun a0 => p_L 1 fun a1 => p_I 3 fun a2 => p_I 4 fun a3 => p_E fun s => K s a0 a1 a2 a3))))))) (s_vret retV)))
theorem e_flL27_b (K : Sg → Nat → Int64 → Int32 → Int32 → Option Sg) (s : Sg) (g0 : Nat) (v : Int64) (a c : Int32) : flL27_G K s g0 v a c = t_flL27_b K [some (.inr (.inr (some (27, g0)))), some (.inr (.inl v)), none, some (.inl a), some (.inl c)] [] s := rfl
noncomputable def t_flL27 (K : Sg → Nat → Int64 → Int32 → Int32 → Option Sg) : Bk Sg := s_ic 0 (s_stI 3 (s_ldA 0 (s_alen 27 625 (s_stI 4 (p_R 0 27 fun a0 => p_L 1 fun a1 => p_I 3 fun a2 => p_I 4 fun a3 => p_E fun s => K s a0 a1 a2 a3)))))
theorem e_flL27 (K : Sg → Nat → Int64 → Int32 → Int32 → Option Sg) (s : Sg) (g0 : Nat) (v : Int64) : K s g0 v 0 (Int32.ofNat 625) = t_flL27 K [some (.inr (.inr (some (27, g0)))), some (.inr (.inl v)), none, none, none] [] s := rfl
set_option maxRecDepth 100000 in
theorem B_flL27 : ∀ (f : Nat) (s : Sg) (g0 : Nat) (v : Int64) (a c : Int32) (r : Sg), flL27_b f s g0 v a c = some r → g_Go M_flL retV 0 6 [some (.inr (.inr (some (27, g0)))), some (.inr (.inl v)), none, some (.inl a), some (.inl c)] [] s r := by
  intro f
  induction f with
  | zero => intro s g0 v a c r h; cases h
  | succ f hK =>
    intro s g0 v a c r h
    have ht : g_Gd M_flL retV 0 6 (t_flL27_b (flL27_b f)) := (G_ldIn (n := 3) (nx := 7) (dc29 bs_flL (by decide +kernel)) rfl rfl (G_ldI (nx := 9) (dc21 (x := 4) bs_flL (by decide +kernel)) rfl (G_icmpge (off := 13) (tg := 22) (nf := 12) (dc162 (x := 0) (y := 13) bs_flL (by decide +kernel) (by decide +kernel)) (by decide +kernel) rfl
    (G_ldAn (n := 0) (nx := 13) (dc42 bs_flL (by decide +kernel)) rfl rfl (G_ldIn (n := 3) (nx := 14) (dc29 bs_flL (by decide +kernel)) rfl rfl (G_ldLn (n := 1) (nx := 15) (dc31 bs_flL (by decide +kernel)) rfl rfl (G_last (nx := 16) akf_27 (by decide) (dc80 bs_flL (by decide +kernel)) rfl (G_inc (n := 1) (nx := 19) (by show 3 < 5; decide) (dc132 (x := 3) (y := 1) bs_flL (by decide +kernel) (by decide +kernel)) icf_1 rfl (G_goto (off := -13) (nx := 6) (dc167 (x := 255) (y := 243) bs_flL (by decide +kernel) (by decide +kernel)) (by decide +kernel) (G_lbl (Gp_R fun a0 => Gp_L fun a1 => Gp_I fun a2 => Gp_I fun a3 => Gp_E fun s r h => hK s a0 a1 a2 a3 r h))))))))
    (G_vret rfl (dc177 bs_flL (by decide +kernel))))))
    exact ht _ _ s r ((e_flL27_b (flL27_b f) s g0 v a c).symm.trans h)
theorem E_flL27 (s : Sg) (g0 : Nat) (v : Int64) (r : Sg) (h : flL27_b FU s g0 v 0 (Int32.ofNat 625) = some r) : g_Go M_flL retV 0 0 [some (.inr (.inr (some (27, g0)))), some (.inr (.inl v)), none, none, none] [] s r := by
  have ht : g_Gd M_flL retV 0 0 (t_flL27 (flL27_b FU)) := (G_ic (n := 0) (nx := 1) (dc3 bs_flL (by decide +kernel)) icf_0 rfl (G_stIn (n := 3) (nx := 2) (by show 3 < 5; decide) (dc62 bs_flL (by decide +kernel)) rfl rfl (G_ldAn (n := 0) (nx := 3) (dc42 bs_flL (by decide +kernel)) rfl rfl (G_alen (nx := 4) akf_27 (by decide) (dc190 bs_flL (by decide +kernel)) rfl (G_stI (nx := 6) (by show 4 < 5; decide) (dc54 (x := 4) bs_flL (by decide +kernel)) rfl (G_lbl (Gp_R fun a0 => Gp_L fun a1 => Gp_I fun a2 => Gp_I fun a3 => Gp_E fun s r h => B_flL27 FU s a0 a1 a2 a3 r h)))))))
  exact ht _ _ s r ((e_flL27 (flL27_b FU) s g0 v).symm.trans h)
theorem l_flL27 (σ : Sg) (g0 : Nat) (v : Int64) : ∀ (f j : Nat), j ≤ 625 → 625 - j < f → flL27_b f (g_flL σ 27 g0 j v) g0 v (nI j) (nI 625) = some (g_flL σ 27 g0 625 v) := by
  intro f
  induction f with
  | zero => intro j h1 h2; omega
  | succ f ih =>
    intro j h1 h2
    show gif (nI j < nI 625) (gd (inb (nI j) 625) (flL27_b f (wL (g_flL σ 27 g0 j v) 27 g0 (ix (nI j)) v) g0 v (nI j + 1) (nI 625))) (some (g_flL σ 27 g0 j v)) = _
    by_cases hj : j < 625
    · have hlt : nI j < nI 625 := (nI_ltI (by omega) (by decide)).mpr hj
      have hin : inb (nI j) 625 := vp_in_nI hj (by decide)
      unfold gif gd
      rw [if_pos hlt, if_pos hin, show ix (nI j) = j from nI_clamp (by omega), g_flL_up, nI_1]
      exact ih (j + 1) (by omega) (by omega)
    · have hlt : ¬ nI j < nI 625 := fun q => hj ((nI_ltI (by omega) (by decide)).mp q)
      have e : j = 625 := by omega
      unfold gif
      rw [if_neg hlt, e]
noncomputable def flL40_G (K : Sg → Nat → Int64 → Int32 → Int32 → Option Sg) (s : Sg) (g0 : Nat) (v : Int64) (a c : Int32) : Option Sg :=
  gif (a < c) (gd (inb a 20) (K (wL s 40 g0 (ix a) v) g0 v (a + 1) c)) (some s)
noncomputable def flL40_b : Nat → Sg → Nat → Int64 → Int32 → Int32 → Option Sg
  | 0 => fun _ _ _ _ _ => none
  | f + 1 => flL40_G (flL40_b f)
noncomputable def t_flL40_b (K : Sg → Nat → Int64 → Int32 → Int32 → Option Sg) : Bk Sg := s_ldI 3 (s_ldI 4 (s_clt (s_ldA 0 (s_ldI 3 (s_ldL 1 (s_last 40 20 (s_inc 3 1 (s_goto (p_R 0 40 fun a0 => p_L 1 fun a1 => p_I 3 fun a2 => p_I 4 fun a3 => p_E fun s => K s a0 a1 a2 a3))))))) (s_vret retV)))
theorem e_flL40_b (K : Sg → Nat → Int64 → Int32 → Int32 → Option Sg) (s : Sg) (g0 : Nat) (v : Int64) (a c : Int32) : flL40_G K s g0 v a c = t_flL40_b K [some (.inr (.inr (some (40, g0)))), some (.inr (.inl v)), none, some (.inl a), some (.inl c)] [] s := rfl
noncomputable def t_flL40 (K : Sg → Nat → Int64 → Int32 → Int32 → Option Sg) : Bk Sg := s_ic 0 (s_stI 3 (s_ldA 0 (s_alen 40 20 (s_stI 4 (p_R 0 40 fun a0 => p_L 1 fun a1 => p_I 3 fun a2 => p_I 4 fun a3 => p_E fun s => K s a0 a1 a2 a3)))))
theorem e_flL40 (K : Sg → Nat → Int64 → Int32 → Int32 → Option Sg) (s : Sg) (g0 : Nat) (v : Int64) : K s g0 v 0 (Int32.ofNat 20) = t_flL40 K [some (.inr (.inr (some (40, g0)))), some (.inr (.inl v)), none, none, none] [] s := rfl
set_option maxRecDepth 100000 in
theorem B_flL40 : ∀ (f : Nat) (s : Sg) (g0 : Nat) (v : Int64) (a c : Int32) (r : Sg), flL40_b f s g0 v a c = some r → g_Go M_flL retV 0 6 [some (.inr (.inr (some (40, g0)))), some (.inr (.inl v)), none, some (.inl a), some (.inl c)] [] s r := by
  intro f
  induction f with
  | zero => intro s g0 v a c r h; cases h
  | succ f hK =>
    intro s g0 v a c r h
    have ht : g_Gd M_flL retV 0 6 (t_flL40_b (flL40_b f)) := (G_ldIn (n := 3) (nx := 7) (dc29 bs_flL (by decide +kernel)) rfl rfl (G_ldI (nx := 9) (dc21 (x := 4) bs_flL (by decide +kernel)) rfl (G_icmpge (off := 13) (tg := 22) (nf := 12) (dc162 (x := 0) (y := 13) bs_flL (by decide +kernel) (by decide +kernel)) (by decide +kernel) rfl
    (G_ldAn (n := 0) (nx := 13) (dc42 bs_flL (by decide +kernel)) rfl rfl (G_ldIn (n := 3) (nx := 14) (dc29 bs_flL (by decide +kernel)) rfl rfl (G_ldLn (n := 1) (nx := 15) (dc31 bs_flL (by decide +kernel)) rfl rfl (G_last (nx := 16) akf_40 (by decide) (dc80 bs_flL (by decide +kernel)) rfl (G_inc (n := 1) (nx := 19) (by show 3 < 5; decide) (dc132 (x := 3) (y := 1) bs_flL (by decide +kernel) (by decide +kernel)) icf_1 rfl (G_goto (off := -13) (nx := 6) (dc167 (x := 255) (y := 243) bs_flL (by decide +kernel) (by decide +kernel)) (by decide +kernel) (G_lbl (Gp_R fun a0 => Gp_L fun a1 => Gp_I fun a2 => Gp_I fun a3 => Gp_E fun s r h => hK s a0 a1 a2 a3 r h))))))))
    (G_vret rfl (dc177 bs_flL (by decide +kernel))))))
    exact ht _ _ s r ((e_flL40_b (flL40_b f) s g0 v a c).symm.trans h)
theorem E_flL40 (s : Sg) (g0 : Nat) (v : Int64) (r : Sg) (h : flL40_b FU s g0 v 0 (Int32.ofNat 20) = some r) : g_Go M_flL retV 0 0 [some (.inr (.inr (some (40, g0)))), some (.inr (.inl v)), none, none, none] [] s r := by
  have ht : g_Gd M_flL retV 0 0 (t_flL40 (flL40_b FU)) := (G_ic (n := 0) (nx := 1) (dc3 bs_flL (by decide +kernel)) icf_0 rfl (G_stIn (n := 3) (nx := 2) (by show 3 < 5; decide) (dc62 bs_flL (by decide +kernel)) rfl rfl (G_ldAn (n := 0) (nx := 3) (dc42 bs_flL (by decide +kernel)) rfl rfl (G_alen (nx := 4) akf_40 (by decide) (dc190 bs_flL (by decide +kernel)) rfl (G_stI (nx := 6) (by show 4 < 5; decide) (dc54 (x := 4) bs_flL (by decide +kernel)) rfl (G_lbl (Gp_R fun a0 => Gp_L fun a1 => Gp_I fun a2 => Gp_I fun a3 => Gp_E fun s r h => B_flL40 FU s a0 a1 a2 a3 r h)))))))
  exact ht _ _ s r ((e_flL40 (flL40_b FU) s g0 v).symm.trans h)
theorem l_flL40 (σ : Sg) (g0 : Nat) (v : Int64) : ∀ (f j : Nat), j ≤ 20 → 20 - j < f → flL40_b f (g_flL σ 40 g0 j v) g0 v (nI j) (nI 20) = some (g_flL σ 40 g0 20 v) := by
  intro f
  induction f with
  | zero => intro j h1 h2; omega
  | succ f ih =>
    intro j h1 h2
    show gif (nI j < nI 20) (gd (inb (nI j) 20) (flL40_b f (wL (g_flL σ 40 g0 j v) 40 g0 (ix (nI j)) v) g0 v (nI j + 1) (nI 20))) (some (g_flL σ 40 g0 j v)) = _
    by_cases hj : j < 20
    · have hlt : nI j < nI 20 := (nI_ltI (by omega) (by decide)).mpr hj
      have hin : inb (nI j) 20 := vp_in_nI hj (by decide)
      unfold gif gd
      rw [if_pos hlt, if_pos hin, show ix (nI j) = j from nI_clamp (by omega), g_flL_up, nI_1]
      exact ih (j + 1) (by omega) (by omega)
    · have hlt : ¬ nI j < nI 20 := fun q => hj ((nI_ltI (by omega) (by decide)).mp q)
      have e : j = 20 := by omega
      unfold gif
      rw [if_neg hlt, e]
