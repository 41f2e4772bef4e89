set_option maxRecDepth 100000 in
set_option maxHeartbeats 4000000 in
theorem h_m_lies : g_Ft M_m_lies yX10_lies 3 (FW_m_lies m_lies) := by
  intro l w hw σ as hlen hwf hok ρ k r e
  unfold FW_m_lies at e
  obtain ⟨l0, hh0, e⟩ := p_I_inv e
  obtain ⟨l1, hh1, e⟩ := p_I_inv e
  obtain ⟨l2, hh2, e⟩ := p_I_inv e
  have e := p_E_inv e
  obtain ⟨q, e1, e2⟩ := Option.bind_eq_some_iff.mp e
  have has : as = [.inl l0, .inl l1, .inl l2] := g_as3 hlen hh0 hh1 hh2
  subst has
  have hGo : g_Go M_m_lies retI (me M_m_lies) 0 (g_loc [.inl l0, .inl l1, .inl l2] (ml M_m_lies)) [] σ q := by
    have ht : g_Gd M_m_lies retI (me M_m_lies) 0 (t_m_lies) := (G_ldIn (n := 0) (nx := 1) (dc26 bs_m_lies (by decide +kernel)) rfl rfl (G_ldIn (n := 1) (nx := 2) (dc27 bs_m_lies (by decide +kernel)) rfl rfl (G_icmplt (off := 12) (tg := 14) (nf := 5) (dc161 (x := 0) (y := 12) bs_m_lies (by decide +kernel) (by decide +kernel)) (by decide +kernel) rfl
  (G_ic (n := 0) (nx := 15) (dc3 bs_m_lies (by decide +kernel)) icv_0 rfl (G_zret rfl (dc172 bs_m_lies (by decide +kernel))))
  (G_ldIn (n := 0) (nx := 6) (dc26 bs_m_lies (by decide +kernel)) rfl rfl (G_ldIn (n := 2) (nx := 7) (dc28 bs_m_lies (by decide +kernel)) rfl rfl (G_icmpgt (off := 7) (tg := 14) (nf := 10) (dc163 (x := 0) (y := 7) bs_m_lies (by decide +kernel) (by decide +kernel)) (by decide +kernel) rfl
    (G_ic (n := 0) (nx := 15) (dc3 bs_m_lies (by decide +kernel)) icv_0 rfl (G_zret rfl (dc172 bs_m_lies (by decide +kernel))))
    (G_ic (n := 1) (nx := 11) (dc4 bs_m_lies (by decide +kernel)) icv_1 rfl (G_goto (off := 4) (nx := 15) (dc167 (x := 0) (y := 4) bs_m_lies (by decide +kernel) (by decide +kernel)) (by decide +kernel) (G_zret rfl (dc172 bs_m_lies (by decide +kernel)))))))))))
    exact ht _ _ σ q ((e_m_lies  σ l0 l1 l2).symm.trans e1)
  exact g_meth (σ' := q.1) (v := some (.inl q.2)) (by decide) rfl hw hwf hok (Nat.le_of_ble_eq_true rfl) hGo (fun σ2 v2 h => retI_inv h) (by exact e2)

set_option maxRecDepth 100000 in
set_option maxHeartbeats 4000000 in
theorem h_m_lesser : g_Ft M_m_lesser yX10_lesser 2 (FW_m_lesser m_lesser) := by
  intro l w hw σ as hlen hwf hok ρ k r e
  unfold FW_m_lesser at e
  obtain ⟨l0, hh0, e⟩ := p_I_inv e
  obtain ⟨l1, hh1, e⟩ := p_I_inv e
  have e := p_E_inv e
  obtain ⟨q, e1, e2⟩ := Option.bind_eq_some_iff.mp e
  have has : as = [.inl l0, .inl l1] := g_as2 hlen hh0 hh1
  subst has
  have hGo : g_Go M_m_lesser retI (me M_m_lesser) 0 (g_loc [.inl l0, .inl l1] (ml M_m_lesser)) [] σ q := by
    have ht : g_Gd M_m_lesser retI (me M_m_lesser) 0 (t_m_lesser) := (G_ldIn (n := 0) (nx := 1) (dc26 bs_m_lesser (by decide +kernel)) rfl rfl (G_ldIn (n := 1) (nx := 2) (dc27 bs_m_lesser (by decide +kernel)) rfl rfl (G_icmpge (off := 7) (tg := 9) (nf := 5) (dc162 (x := 0) (y := 7) bs_m_lesser (by decide +kernel) (by decide +kernel)) (by decide +kernel) rfl
  (G_ldIn (n := 0) (nx := 6) (dc26 bs_m_lesser (by decide +kernel)) rfl rfl (G_goto (off := 4) (nx := 10) (dc167 (x := 0) (y := 4) bs_m_lesser (by decide +kernel) (by decide +kernel)) (by decide +kernel) (G_iret rfl (dc172 bs_m_lesser (by decide +kernel)))))
  (G_ldIn (n := 1) (nx := 10) (dc27 bs_m_lesser (by decide +kernel)) rfl rfl (G_iret rfl (dc172 bs_m_lesser (by decide +kernel)))))))
    exact ht _ _ σ q ((e_m_lesser  σ l0 l1).symm.trans e1)
  exact g_meth (σ' := q.1) (v := some (.inl q.2)) (by decide) rfl hw hwf hok (Nat.le_of_ble_eq_true rfl) hGo (fun σ2 v2 h => retI_inv h) (by exact e2)

set_option maxRecDepth 100000 in
set_option maxHeartbeats 4000000 in
theorem h_m_greater : g_Ft M_m_greater yX10_greater 2 (FW_m_greater m_greater) := by
  intro l w hw σ as hlen hwf hok ρ k r e
  unfold FW_m_greater at e
  obtain ⟨l0, hh0, e⟩ := p_I_inv e
  obtain ⟨l1, hh1, e⟩ := p_I_inv e
  have e := p_E_inv e
  obtain ⟨q, e1, e2⟩ := Option.bind_eq_some_iff.mp e
  have has : as = [.inl l0, .inl l1] := g_as2 hlen hh0 hh1
  subst has
  have hGo : g_Go M_m_greater retI (me M_m_greater) 0 (g_loc [.inl l0, .inl l1] (ml M_m_greater)) [] σ q := by
    have ht : g_Gd M_m_greater retI (me M_m_greater) 0 (t_m_greater) := (G_ldIn (n := 0) (nx := 1) (dc26 bs_m_greater (by decide +kernel)) rfl rfl (G_ldIn (n := 1) (nx := 2) (dc27 bs_m_greater (by decide +kernel)) rfl rfl (G_icmple (off := 7) (tg := 9) (nf := 5) (dc164 (x := 0) (y := 7) bs_m_greater (by decide +kernel) (by decide +kernel)) (by decide +kernel) rfl
  (G_ldIn (n := 0) (nx := 6) (dc26 bs_m_greater (by decide +kernel)) rfl rfl (G_goto (off := 4) (nx := 10) (dc167 (x := 0) (y := 4) bs_m_greater (by decide +kernel) (by decide +kernel)) (by decide +kernel) (G_iret rfl (dc172 bs_m_greater (by decide +kernel)))))
  (G_ldIn (n := 1) (nx := 10) (dc27 bs_m_greater (by decide +kernel)) rfl rfl (G_iret rfl (dc172 bs_m_greater (by decide +kernel)))))))
    exact ht _ _ σ q ((e_m_greater  σ l0 l1).symm.trans e1)
  exact g_meth (σ' := q.1) (v := some (.inl q.2)) (by decide) rfl hw hwf hok (Nat.le_of_ble_eq_true rfl) hGo (fun σ2 v2 h => retI_inv h) (by exact e2)

set_option maxRecDepth 100000 in
set_option maxHeartbeats 4000000 in
theorem h_m_refuses : g_Ft M_m_refuses yX10_refuses 2 (FW_m_refuses m_refuses) := by
  intro l w hw σ as hlen hwf hok ρ k r e
  unfold FW_m_refuses at e
  obtain ⟨hh0, e⟩ := p_C_inv e
  obtain ⟨l1, hh1, e⟩ := p_I_inv e
  have e := p_E_inv e
  obtain ⟨q, e1, e2⟩ := Option.bind_eq_some_iff.mp e
  have has : as = [.inr (.inr (some (10, 0))), .inl l1] := g_as2 hlen hh0 hh1
  subst has
  have hGo : g_Go M_m_refuses retI (me M_m_refuses) 0 (g_loc [.inr (.inr (some (10, 0))), .inl l1] (ml M_m_refuses)) [] σ q := by
    have ht : g_Gd M_m_refuses retI (me M_m_refuses) 0 (t_m_refuses) := (G_ldAn (n := 0) (nx := 1) (dc42 bs_m_refuses (by decide +kernel)) rfl rfl (G_ldIn (n := 1) (nx := 2) (dc27 bs_m_refuses (by decide +kernel)) rfl rfl (G_putI (nx := 5) fp_10_3 rfl (dc181 (x := 0) (y := 3) bs_m_refuses (by decide +kernel) rfl) rfl (G_ldAn (n := 0) (nx := 6) (dc42 bs_m_refuses (by decide +kernel)) rfl rfl (G_getRc (nx := 9) fl_10_7 rf_10_1 (dc180 (x := 0) (y := 7) bs_m_refuses (by decide +kernel) rfl) rfl (G_ldIn (n := 1) (nx := 10) (dc27 bs_m_refuses (by decide +kernel)) rfl rfl (G_neg (nx := 11) (dc116 bs_m_refuses (by decide +kernel)) rfl (G_dup2 (nx := 12) (dc92 bs_m_refuses (by decide +kernel)) rfl (G_iald (nx := 13) ak_42 (dc46 bs_m_refuses (by decide +kernel)) rfl (G_ic (n := 1) (nx := 14) (dc4 bs_m_refuses (by decide +kernel)) icv_1 rfl (G_iadd (nx := 15) (dc96 bs_m_refuses (by decide +kernel)) rfl (G_iast (nx := 16) ak_42 (by decide) (dc79 bs_m_refuses (by decide +kernel)) rfl (G_ldIn (n := 1) (nx := 17) (dc27 bs_m_refuses (by decide +kernel)) rfl rfl (G_iret rfl (dc172 bs_m_refuses (by decide +kernel))))))))))))))))
    exact ht _ _ σ q ((e_m_refuses  σ l1).symm.trans e1)
  exact g_meth (σ' := q.1) (v := some (.inl q.2)) (by decide) rfl hw hwf hok (Nat.le_of_ble_eq_true rfl) hGo (fun σ2 v2 h => retI_inv h) (by exact e2)

set_option maxRecDepth 100000 in
set_option maxHeartbeats 4000000 in
theorem h_m_good : g_Ft M_m_good yX10_good 2 (FW_m_good m_good) := by
  intro l w hw σ as hlen hwf hok ρ k r e
  unfold FW_m_good at e
  obtain ⟨hh0, e⟩ := p_C_inv e
  obtain ⟨l1, hh1, e⟩ := p_I_inv e
  have e := p_E_inv e
  obtain ⟨q, e1, e2⟩ := Option.bind_eq_some_iff.mp e
  have has : as = [.inr (.inr (some (10, 0))), .inl l1] := g_as2 hlen hh0 hh1
  subst has
  have hGo : g_Go M_m_good retI (me M_m_good) 0 (g_loc [.inr (.inr (some (10, 0))), .inl l1] (ml M_m_good)) [] σ q := by
    have ht : g_Gd M_m_good retI (me M_m_good) 0 (t_m_good) := (G_ldAn (n := 0) (nx := 1) (dc42 bs_m_good (by decide +kernel)) rfl rfl (G_ic (n := 0) (nx := 2) (dc3 bs_m_good (by decide +kernel)) icv_0 rfl (G_putI (nx := 5) fp_10_3 rfl (dc181 (x := 0) (y := 3) bs_m_good (by decide +kernel) rfl) rfl (G_ldIn (n := 1) (nx := 6) (dc27 bs_m_good (by decide +kernel)) rfl rfl (G_iret rfl (dc172 bs_m_good (by decide +kernel)))))))
    exact ht _ _ σ q ((e_m_good  σ l1).symm.trans e1)
  exact g_meth (σ' := q.1) (v := some (.inl q.2)) (by decide) rfl hw hwf hok (Nat.le_of_ble_eq_true rfl) hGo (fun σ2 v2 h => retI_inv h) (by exact e2)

set_option maxRecDepth 100000 in
set_option maxHeartbeats 4000000 in
theorem h_m_settled : g_Ft M_m_settled yX10_settled 2 (FW_m_settled m_settled) := by
  intro l w hw σ as hlen hwf hok ρ k r e
  unfold FW_m_settled at e
  obtain ⟨hh0, e⟩ := p_C_inv e
  obtain ⟨l1, hh1, e⟩ := p_I_inv e
  have e := p_E_inv e
  obtain ⟨q, e1, e2⟩ := Option.bind_eq_some_iff.mp e
  have has : as = [.inr (.inr (some (10, 0))), .inl l1] := g_as2 hlen hh0 hh1
  subst has
  have hGo : g_Go M_m_settled retI (me M_m_settled) 0 (g_loc [.inr (.inr (some (10, 0))), .inl l1] (ml M_m_settled)) [] σ q := by
    have ht : g_Gd M_m_settled retI (me M_m_settled) 0 (t_m_settled m_good) := (G_ldAn (n := 0) (nx := 1) (dc42 bs_m_settled (by decide +kernel)) rfl rfl (G_ic (n := 0) (nx := 2) (dc3 bs_m_settled (by decide +kernel)) icv_0 rfl (G_putI (nx := 5) fp_10_11 rfl (dc181 (x := 0) (y := 11) bs_m_settled (by decide +kernel) rfl) rfl (G_ldAn (n := 0) (nx := 6) (dc42 bs_m_settled (by decide +kernel)) rfl rfl (G_ldIn (n := 1) (nx := 7) (dc27 bs_m_settled (by decide +kernel)) rfl rfl (G_callV (b0 := 0) (nx := 10) (T := TX10) (ci := 10) (g_Fn_of rfl h_m_good) (cw_10_14) ⟨wd6_82, sel_GalleyRoomModel_good__I_I⟩ ⟨rfl, rfl⟩ ⟨by decide, by show 2 ≤ 21; decide⟩ (Nat.zero_le _) (rec_m_good _) (dc182 (x := 0) (y := 14) bs_m_settled (by decide +kernel) rfl) rfl (G_iret rfl (dc172 bs_m_settled (by decide +kernel)))))))))
    exact ht _ _ σ q ((e_m_settled m_good σ l1).symm.trans e1)
  exact g_meth (σ' := q.1) (v := some (.inl q.2)) (by decide) rfl hw hwf hok (Nat.le_of_ble_eq_true rfl) hGo (fun σ2 v2 h => retI_inv h) (by exact e2)

set_option maxRecDepth 100000 in
set_option maxHeartbeats 4000000 in
theorem h_m_isIn : g_Ft M_m_isIn yX10_isIn 2 (FW_m_isIn m_isIn) := by
  intro l w hw σ as hlen hwf hok ρ k r e
  unfold FW_m_isIn at e
  obtain ⟨l0, hh0, e⟩ := p_I_inv e
  obtain ⟨l1, hh1, e⟩ := p_I_inv e
  have e := p_E_inv e
  obtain ⟨q, e1, e2⟩ := Option.bind_eq_some_iff.mp e
  have has : as = [.inl l0, .inl l1] := g_as2 hlen hh0 hh1
  subst has
  have hGo : g_Go M_m_isIn retI (me M_m_isIn) 0 (g_loc [.inl l0, .inl l1] (ml M_m_isIn)) [] σ q := by
    have ht : g_Gd M_m_isIn retI (me M_m_isIn) 0 (t_m_isIn) := (G_ldIn (n := 0) (nx := 1) (dc26 bs_m_isIn (by decide +kernel)) rfl rfl (G_ldIn (n := 1) (nx := 2) (dc27 bs_m_isIn (by decide +kernel)) rfl rfl (G_ishr (nx := 3) (dc122 bs_m_isIn (by decide +kernel)) rfl (G_ic (n := 1) (nx := 4) (dc4 bs_m_isIn (by decide +kernel)) icv_1 rfl (G_iand (nx := 5) (dc126 bs_m_isIn (by decide +kernel)) rfl (G_ic (n := 1) (nx := 6) (dc4 bs_m_isIn (by decide +kernel)) icv_1 rfl (G_icmpne (off := 7) (tg := 13) (nf := 9) (dc160 (x := 0) (y := 7) bs_m_isIn (by decide +kernel) (by decide +kernel)) (by decide +kernel) rfl
  (G_ic (n := 1) (nx := 10) (dc4 bs_m_isIn (by decide +kernel)) icv_1 rfl (G_goto (off := 4) (nx := 14) (dc167 (x := 0) (y := 4) bs_m_isIn (by decide +kernel) (by decide +kernel)) (by decide +kernel) (G_zret rfl (dc172 bs_m_isIn (by decide +kernel)))))
  (G_ic (n := 0) (nx := 14) (dc3 bs_m_isIn (by decide +kernel)) icv_0 rfl (G_zret rfl (dc172 bs_m_isIn (by decide +kernel)))))))))))
    exact ht _ _ σ q ((e_m_isIn  σ l0 l1).symm.trans e1)
  exact g_meth (σ' := q.1) (v := some (.inl q.2)) (by decide) rfl hw hwf hok (Nat.le_of_ble_eq_true rfl) hGo (fun σ2 v2 h => retI_inv h) (by exact e2)

set_option maxRecDepth 100000 in
set_option maxHeartbeats 4000000 in
theorem B_m_laysAside_b2 : ∀ (n : Nat) (s : Sg) (l1 : Int32) (l2 : Int32) (r : Sg), m_laysAside_b2 n s l1 l2 = some r → g_Go M_m_laysAside retV 0 2 [some (.inr (.inr (some (10, 0)))), some (.inl l1), some (.inl l2)] [] s r := by
  intro n
  induction n with
  | zero => intro s l1 l2 r h; cases h
  | succ n hK2 =>
    intro s l1 l2 r h
    have ht : g_Gd M_m_laysAside retV 0 2 (t_m_laysAside_b2 (m_laysAside_b2 n)) := (G_ldIn (n := 2) (nx := 3) (dc28 bs_m_laysAside (by decide +kernel)) rfl rfl (G_bi (n := 15) (nx := 5) (dc16 (x := 15) bs_m_laysAside (by decide +kernel) (by decide +kernel)) biv_15 rfl (G_icmpge (off := 26) (tg := 31) (nf := 8) (dc162 (x := 0) (y := 26) bs_m_laysAside (by decide +kernel) (by decide +kernel)) (by decide +kernel) rfl
    (G_ldAn (n := 0) (nx := 9) (dc42 bs_m_laysAside (by decide +kernel)) rfl rfl (G_getRc (nx := 12) fl_10_34 rf_10_5 (dc180 (x := 0) (y := 34) bs_m_laysAside (by decide +kernel) rfl) rfl (G_bi (n := 15) (nx := 14) (dc16 (x := 15) bs_m_laysAside (by decide +kernel) (by decide +kernel)) biv_15 rfl (G_ldIn (n := 1) (nx := 15) (dc27 bs_m_laysAside (by decide +kernel)) rfl rfl (G_imul (nx := 16) (dc104 bs_m_laysAside (by decide +kernel)) rfl (G_ldIn (n := 2) (nx := 17) (dc28 bs_m_laysAside (by decide +kernel)) rfl rfl (G_iadd (nx := 18) (dc96 bs_m_laysAside (by decide +kernel)) rfl (G_ldAn (n := 0) (nx := 19) (dc42 bs_m_laysAside (by decide +kernel)) rfl rfl (G_getRc (nx := 22) fl_10_24 rf_10_2 (dc180 (x := 0) (y := 24) bs_m_laysAside (by decide +kernel) rfl) rfl (G_ldIn (n := 2) (nx := 23) (dc28 bs_m_laysAside (by decide +kernel)) rfl rfl (G_iald (nx := 24) ak_43 (dc46 bs_m_laysAside (by decide +kernel)) rfl (G_iast (nx := 25) ak_46 (by decide) (dc79 bs_m_laysAside (by decide +kernel)) rfl (G_inc (n := 1) (nx := 28) (by show 2 < 3; decide) (dc132 (x := 2) (y := 1) bs_m_laysAside (by decide +kernel) (by decide +kernel)) icv_1 rfl (G_goto (off := -26) (nx := 2) (dc167 (x := 255) (y := 230) bs_m_laysAside (by decide +kernel) (by decide +kernel)) (by decide +kernel) (G_lbl (Gp_C <| Gp_I fun a1 => Gp_I fun a2 => Gp_E fun s r h => hK2 s a1 a2 r h))))))))))))))))
    (G_vret rfl (dc177 bs_m_laysAside (by decide +kernel))))))
    exact ht _ _ s r ((e_m_laysAside_b2 (m_laysAside_b2 n) s l1 l2).symm.trans h)

set_option maxRecDepth 100000 in
set_option maxHeartbeats 4000000 in
theorem h_m_laysAside : g_Ft M_m_laysAside yX10_laysAside 2 (FW_m_laysAside m_laysAside) := by
  intro l w hw σ as hlen hwf hok ρ k r e
  unfold FW_m_laysAside at e
  obtain ⟨hh0, e⟩ := p_C_inv e
  obtain ⟨l1, hh1, e⟩ := p_I_inv e
  have e := p_E_inv e
  obtain ⟨q, e1, e2⟩ := Option.bind_eq_some_iff.mp e
  have has : as = [.inr (.inr (some (10, 0))), .inl l1] := g_as2 hlen hh0 hh1
  subst has
  have hGo : g_Go M_m_laysAside retV (me M_m_laysAside) 0 (g_loc [.inr (.inr (some (10, 0))), .inl l1] (ml M_m_laysAside)) [] σ q := by
    have ht : g_Gd M_m_laysAside retV (me M_m_laysAside) 0 (t_m_laysAside (m_laysAside_b2 FU)) := (G_ic (n := 0) (nx := 1) (dc3 bs_m_laysAside (by decide +kernel)) icv_0 rfl (G_stIn (n := 2) (nx := 2) (by show 2 < 3; decide) (dc61 bs_m_laysAside (by decide +kernel)) rfl rfl (G_lbl (Gp_C <| Gp_I fun a1 => Gp_I fun a2 => Gp_E fun s r h => B_m_laysAside_b2 FU s a1 a2 r h))))
    exact ht _ _ σ q ((e_m_laysAside (m_laysAside_b2 FU) σ l1).symm.trans e1)
  exact g_meth (σ' := q) (v := none) (by decide) rfl hw hwf hok (Nat.le_of_ble_eq_true rfl) hGo (fun σ2 v2 h => retV_inv h) (by exact e2)

set_option maxRecDepth 100000 in
set_option maxHeartbeats 4000000 in
theorem B_m_takesBack_b2 : ∀ (n : Nat) (s : Sg) (l1 : Int32) (l2 : Int32) (r : Sg), m_takesBack_b2 n s l1 l2 = some r → g_Go M_m_takesBack retV 0 2 [some (.inr (.inr (some (10, 0)))), some (.inl l1), some (.inl l2)] [] s r := by
  intro n
  induction n with
  | zero => intro s l1 l2 r h; cases h
  | succ n hK2 =>
    intro s l1 l2 r h
    have ht : g_Gd M_m_takesBack retV 0 2 (t_m_takesBack_b2 (m_takesBack_b2 n)) := (G_ldIn (n := 2) (nx := 3) (dc28 bs_m_takesBack (by decide +kernel)) rfl rfl (G_bi (n := 15) (nx := 5) (dc16 (x := 15) bs_m_takesBack (by decide +kernel) (by decide +kernel)) biv_15 rfl (G_icmpge (off := 26) (tg := 31) (nf := 8) (dc162 (x := 0) (y := 26) bs_m_takesBack (by decide +kernel) (by decide +kernel)) (by decide +kernel) rfl
    (G_ldAn (n := 0) (nx := 9) (dc42 bs_m_takesBack (by decide +kernel)) rfl rfl (G_getRc (nx := 12) fl_10_24 rf_10_2 (dc180 (x := 0) (y := 24) bs_m_takesBack (by decide +kernel) rfl) rfl (G_ldIn (n := 2) (nx := 13) (dc28 bs_m_takesBack (by decide +kernel)) rfl rfl (G_ldAn (n := 0) (nx := 14) (dc42 bs_m_takesBack (by decide +kernel)) rfl rfl (G_getRc (nx := 17) fl_10_34 rf_10_5 (dc180 (x := 0) (y := 34) bs_m_takesBack (by decide +kernel) rfl) rfl (G_bi (n := 15) (nx := 19) (dc16 (x := 15) bs_m_takesBack (by decide +kernel) (by decide +kernel)) biv_15 rfl (G_ldIn (n := 1) (nx := 20) (dc27 bs_m_takesBack (by decide +kernel)) rfl rfl (G_imul (nx := 21) (dc104 bs_m_takesBack (by decide +kernel)) rfl (G_ldIn (n := 2) (nx := 22) (dc28 bs_m_takesBack (by decide +kernel)) rfl rfl (G_iadd (nx := 23) (dc96 bs_m_takesBack (by decide +kernel)) rfl (G_iald (nx := 24) ak_46 (dc46 bs_m_takesBack (by decide +kernel)) rfl (G_iast (nx := 25) ak_43 (by decide) (dc79 bs_m_takesBack (by decide +kernel)) rfl (G_inc (n := 1) (nx := 28) (by show 2 < 3; decide) (dc132 (x := 2) (y := 1) bs_m_takesBack (by decide +kernel) (by decide +kernel)) icv_1 rfl (G_goto (off := -26) (nx := 2) (dc167 (x := 255) (y := 230) bs_m_takesBack (by decide +kernel) (by decide +kernel)) (by decide +kernel) (G_lbl (Gp_C <| Gp_I fun a1 => Gp_I fun a2 => Gp_E fun s r h => hK2 s a1 a2 r h))))))))))))))))
    (G_vret rfl (dc177 bs_m_takesBack (by decide +kernel))))))
    exact ht _ _ s r ((e_m_takesBack_b2 (m_takesBack_b2 n) s l1 l2).symm.trans h)

set_option maxRecDepth 100000 in
set_option maxHeartbeats 4000000 in
theorem h_m_takesBack : g_Ft M_m_takesBack yX10_takesBack 2 (FW_m_takesBack m_takesBack) := by
  intro l w hw σ as hlen hwf hok ρ k r e
  unfold FW_m_takesBack at e
  obtain ⟨hh0, e⟩ := p_C_inv e
  obtain ⟨l1, hh1, e⟩ := p_I_inv e
  have e := p_E_inv e
  obtain ⟨q, e1, e2⟩ := Option.bind_eq_some_iff.mp e
  have has : as = [.inr (.inr (some (10, 0))), .inl l1] := g_as2 hlen hh0 hh1
  subst has
  have hGo : g_Go M_m_takesBack retV (me M_m_takesBack) 0 (g_loc [.inr (.inr (some (10, 0))), .inl l1] (ml M_m_takesBack)) [] σ q := by
    have ht : g_Gd M_m_takesBack retV (me M_m_takesBack) 0 (t_m_takesBack (m_takesBack_b2 FU)) := (G_ic (n := 0) (nx := 1) (dc3 bs_m_takesBack (by decide +kernel)) icv_0 rfl (G_stIn (n := 2) (nx := 2) (by show 2 < 3; decide) (dc61 bs_m_takesBack (by decide +kernel)) rfl rfl (G_lbl (Gp_C <| Gp_I fun a1 => Gp_I fun a2 => Gp_E fun s r h => B_m_takesBack_b2 FU s a1 a2 r h))))
    exact ht _ _ σ q ((e_m_takesBack (m_takesBack_b2 FU) σ l1).symm.trans e1)
  exact g_meth (σ' := q) (v := none) (by decide) rfl hw hwf hok (Nat.le_of_ble_eq_true rfl) hGo (fun σ2 v2 h => retV_inv h) (by exact e2)

set_option maxRecDepth 100000 in
set_option maxHeartbeats 4000000 in
theorem B_m_image_b17 : ∀ (n : Nat) (s : Sg) (l1 : Int32) (l2 : Int32) (r : (Sg × Int32)), m_image_b17 n s l1 l2 = some r → g_Go M_m_image retI 0 17 [some (.inr (.inr (some (10, 0)))), some (.inl l1), some (.inl l2)] [] s r := by
  intro n
  induction n with
  | zero => intro s l1 l2 r h; cases h
  | succ n hK17 =>
    intro s l1 l2 r h
    have ht : g_Gd M_m_image retI 0 17 (t_m_image_b17 (m_image_b17 n) m_good) := (G_ldIn (n := 2) (nx := 18) (dc28 bs_m_image (by decide +kernel)) rfl rfl (G_si (n := 5665) (nx := 21) (dc17 (x := 22) (y := 33) bs_m_image (by decide +kernel) (by decide +kernel)) siv_5665 rfl (G_icmpge (off := 27) (tg := 48) (nf := 24) (dc162 (x := 0) (y := 27) bs_m_image (by decide +kernel) (by decide +kernel)) (by decide +kernel) rfl
    (G_ldAn (n := 0) (nx := 25) (dc42 bs_m_image (by decide +kernel)) rfl rfl (G_getRc (nx := 28) fl_10_27 rf_10_3 (dc180 (x := 0) (y := 27) bs_m_image (by decide +kernel) rfl) rfl (G_si (n := 5665) (nx := 31) (dc17 (x := 22) (y := 33) bs_m_image (by decide +kernel) (by decide +kernel)) siv_5665 rfl (G_ldIn (n := 1) (nx := 32) (dc27 bs_m_image (by decide +kernel)) rfl rfl (G_imul (nx := 33) (dc104 bs_m_image (by decide +kernel)) rfl (G_ldIn (n := 2) (nx := 34) (dc28 bs_m_image (by decide +kernel)) rfl rfl (G_iadd (nx := 35) (dc96 bs_m_image (by decide +kernel)) rfl (G_ldAn (n := 0) (nx := 36) (dc42 bs_m_image (by decide +kernel)) rfl rfl (G_getRc (nx := 39) fl_10_24 rf_10_2 (dc180 (x := 0) (y := 24) bs_m_image (by decide +kernel) rfl) rfl (G_ldIn (n := 2) (nx := 40) (dc28 bs_m_image (by decide +kernel)) rfl rfl (G_iald (nx := 41) ak_43 (dc46 bs_m_image (by decide +kernel)) rfl (G_iast (nx := 42) ak_44 (by decide) (dc79 bs_m_image (by decide +kernel)) rfl (G_inc (n := 1) (nx := 45) (by show 2 < 3; decide) (dc132 (x := 2) (y := 1) bs_m_image (by decide +kernel) (by decide +kernel)) icv_1 rfl (G_goto (off := -28) (nx := 17) (dc167 (x := 255) (y := 228) bs_m_image (by decide +kernel) (by decide +kernel)) (by decide +kernel) (G_lbl (Gp_C <| Gp_I fun a1 => Gp_I fun a2 => Gp_E fun s r h => hK17 s a1 a2 r h))))))))))))))))
    (G_ldAn (n := 0) (nx := 49) (dc42 bs_m_image (by decide +kernel)) rfl rfl (G_getRc (nx := 52) fl_10_30 rf_10_4 (dc180 (x := 0) (y := 30) bs_m_image (by decide +kernel) rfl) rfl (G_ldIn (n := 1) (nx := 53) (dc27 bs_m_image (by decide +kernel)) rfl rfl (G_ic (n := 1) (nx := 54) (dc4 bs_m_image (by decide +kernel)) icv_1 rfl (G_zast (nx := 55) ak_45 (by decide) (dc84 bs_m_image (by decide +kernel)) rfl (G_ldAn (n := 0) (nx := 56) (dc42 bs_m_image (by decide +kernel)) rfl rfl (G_ic (n := 0) (nx := 57) (dc3 bs_m_image (by decide +kernel)) icv_0 rfl (G_callV (b0 := 0) (nx := 60) (T := TX10) (ci := 10) (g_Fn_of rfl h_m_good) (cw_10_14) ⟨wd6_82, sel_GalleyRoomModel_good__I_I⟩ ⟨rfl, rfl⟩ ⟨by decide, by show 2 ≤ 21; decide⟩ (Nat.zero_le _) (rec_m_good _) (dc182 (x := 0) (y := 14) bs_m_image (by decide +kernel) rfl) rfl (G_iret rfl (dc172 bs_m_image (by decide +kernel))))))))))))))
    exact ht _ _ s r ((e_m_image_b17 (m_image_b17 n) m_good s l1 l2).symm.trans h)

set_option maxRecDepth 100000 in
set_option maxHeartbeats 4000000 in
theorem h_m_image : g_Ft M_m_image yX10_image 2 (FW_m_image m_image) := by
  intro l w hw σ as hlen hwf hok ρ k r e
  unfold FW_m_image at e
  obtain ⟨hh0, e⟩ := p_C_inv e
  obtain ⟨l1, hh1, e⟩ := p_I_inv e
  have e := p_E_inv e
  obtain ⟨q, e1, e2⟩ := Option.bind_eq_some_iff.mp e
  have has : as = [.inr (.inr (some (10, 0))), .inl l1] := g_as2 hlen hh0 hh1
  subst has
  have hGo : g_Go M_m_image retI (me M_m_image) 0 (g_loc [.inr (.inr (some (10, 0))), .inl l1] (ml M_m_image)) [] σ q := by
    have ht : g_Gd M_m_image retI (me M_m_image) 0 (t_m_image (m_image_b17 FU) m_lies m_refuses) := (G_ldIn (n := 1) (nx := 1) (dc27 bs_m_image (by decide +kernel)) rfl rfl (G_ic (n := 0) (nx := 2) (dc3 bs_m_image (by decide +kernel)) icv_0 rfl (G_ic (n := 1) (nx := 3) (dc4 bs_m_image (by decide +kernel)) icv_1 rfl (G_callS (b0 := 0) (nx := 6) (g_Fn_of rfl h_m_lies) (cw_10_132) wd6_74 rfl ⟨by decide, by show 3 ≤ 21; decide⟩ (Nat.zero_le _) (dc184 (x := 0) (y := 132) bs_m_image (by decide +kernel) rfl) rfl (G_ifne (off := 9) (tg := 15) (nf := 9) (dc154 (x := 0) (y := 9) bs_m_image (by decide +kernel) (by decide +kernel)) (by decide +kernel) rfl
  (G_ldAn (n := 0) (nx := 10) (dc42 bs_m_image (by decide +kernel)) rfl rfl (G_ic (n := -1) (nx := 11) (dc2 bs_m_image (by decide +kernel)) icv_m1 rfl (G_callV (b0 := 0) (nx := 14) (T := TX10) (ci := 10) (g_Fn_of rfl h_m_refuses) (cw_10_136) ⟨wd6_78, sel_GalleyRoomModel_refuses__I_I⟩ ⟨rfl, rfl⟩ ⟨by decide, by show 2 ≤ 21; decide⟩ (Nat.zero_le _) (rec_m_refuses _) (dc182 (x := 0) (y := 136) bs_m_image (by decide +kernel) rfl) rfl (G_iret rfl (dc172 bs_m_image (by decide +kernel))))))
  (G_ic (n := 0) (nx := 16) (dc3 bs_m_image (by decide +kernel)) icv_0 rfl (G_stIn (n := 2) (nx := 17) (by show 2 < 3; decide) (dc61 bs_m_image (by decide +kernel)) rfl rfl (G_lbl (Gp_C <| Gp_I fun a1 => Gp_I fun a2 => Gp_E fun s r h => B_m_image_b17 FU s a1 a2 r h)))))))))
    exact ht _ _ σ q ((e_m_image (m_image_b17 FU) m_lies m_refuses σ l1).symm.trans e1)
  exact g_meth (σ' := q.1) (v := some (.inl q.2)) (by decide) rfl hw hwf hok (Nat.le_of_ble_eq_true rfl) hGo (fun σ2 v2 h => retI_inv h) (by exact e2)

set_option maxRecDepth 100000 in
set_option maxHeartbeats 4000000 in
theorem h_m_wordMany : g_Ft M_m_wordMany yX10_wordMany 1 (FW_m_wordMany m_wordMany) := by
  intro l w hw σ as hlen hwf hok ρ k r e
  unfold FW_m_wordMany at e
  obtain ⟨hh0, e⟩ := p_C_inv e
  have e := p_E_inv e
  obtain ⟨q, e1, e2⟩ := Option.bind_eq_some_iff.mp e
  have has : as = [.inr (.inr (some (10, 0)))] := g_as1 hlen hh0
  subst has
  have hGo : g_Go M_m_wordMany retI (me M_m_wordMany) 0 (g_loc [.inr (.inr (some (10, 0)))] (ml M_m_wordMany)) [] σ q := by
    have ht : g_Gd M_m_wordMany retI (me M_m_wordMany) 0 (t_m_wordMany) := (G_ldAn (n := 0) (nx := 1) (dc42 bs_m_wordMany (by decide +kernel)) rfl rfl (G_getRc (nx := 4) fl_10_24 rf_10_2 (dc180 (x := 0) (y := 24) bs_m_wordMany (by decide +kernel) rfl) rfl (G_bi (n := 54) (nx := 6) (dc16 (x := 54) bs_m_wordMany (by decide +kernel) (by decide +kernel)) biv_54 rfl (G_iald (nx := 7) ak_43 (dc46 bs_m_wordMany (by decide +kernel)) rfl (G_iret rfl (dc172 bs_m_wordMany (by decide +kernel)))))))
    exact ht _ _ σ q ((e_m_wordMany  σ ).symm.trans e1)
  exact g_meth (σ' := q.1) (v := some (.inl q.2)) (by decide) rfl hw hwf hok (Nat.le_of_ble_eq_true rfl) hGo (fun σ2 v2 h => retI_inv h) (by exact e2)

set_option maxRecDepth 100000 in
set_option maxHeartbeats 4000000 in
theorem B_m_laysAllWords_b10 : ∀ (n : Nat) (s : Sg) (l1 : Int32) (r : Sg), m_laysAllWords_b10 n s l1 = some r → g_Go M_m_laysAllWords retV 0 10 [some (.inr (.inr (some (10, 0)))), some (.inl l1)] [] s r := by
  intro n
  induction n with
  | zero => intro s l1 r h; cases h
  | succ n hK10 =>
    intro s l1 r h
    have ht : g_Gd M_m_laysAllWords retV 0 10 (t_m_laysAllWords_b10 (m_laysAllWords_b10 n)) := (G_ldIn (n := 1) (nx := 11) (dc27 bs_m_laysAllWords (by decide +kernel)) rfl rfl (G_ldAn (n := 0) (nx := 12) (dc42 bs_m_laysAllWords (by decide +kernel)) rfl rfl (G_getI (nx := 15) fl_10_360 (Or.inl rfl) (dc180 (x := 1) (y := 104) bs_m_laysAllWords (by decide +kernel) rfl) rfl (G_icmpge (off := 16) (tg := 31) (nf := 18) (dc162 (x := 0) (y := 16) bs_m_laysAllWords (by decide +kernel) (by decide +kernel)) (by decide +kernel) rfl
    (G_ldAn (n := 0) (nx := 19) (dc42 bs_m_laysAllWords (by decide +kernel)) rfl rfl (G_getRc (nx := 22) fl_10_72 rf_10_35 (dc180 (x := 0) (y := 72) bs_m_laysAllWords (by decide +kernel) rfl) rfl (G_ldIn (n := 1) (nx := 23) (dc27 bs_m_laysAllWords (by decide +kernel)) rfl rfl (G_ldIn (n := 1) (nx := 24) (dc27 bs_m_laysAllWords (by decide +kernel)) rfl rfl (G_iast (nx := 25) ak_57 (by decide) (dc79 bs_m_laysAllWords (by decide +kernel)) rfl (G_inc (n := 1) (nx := 28) (by show 1 < 2; decide) (dc132 (x := 1) (y := 1) bs_m_laysAllWords (by decide +kernel) (by decide +kernel)) icv_1 rfl (G_goto (off := -18) (nx := 10) (dc167 (x := 255) (y := 238) bs_m_laysAllWords (by decide +kernel) (by decide +kernel)) (by decide +kernel) (G_lbl (Gp_C <| Gp_I fun a1 => Gp_E fun s r h => hK10 s a1 r h)))))))))
    (G_vret rfl (dc177 bs_m_laysAllWords (by decide +kernel)))))))
    exact ht _ _ s r ((e_m_laysAllWords_b10 (m_laysAllWords_b10 n) s l1).symm.trans h)

set_option maxRecDepth 100000 in
set_option maxHeartbeats 4000000 in
theorem h_m_laysAllWords : g_Ft M_m_laysAllWords yX10_laysAllWords 1 (FW_m_laysAllWords m_laysAllWords) := by
  intro l w hw σ as hlen hwf hok ρ k r e
  unfold FW_m_laysAllWords at e
  obtain ⟨hh0, e⟩ := p_C_inv e
  have e := p_E_inv e
  obtain ⟨q, e1, e2⟩ := Option.bind_eq_some_iff.mp e
  have has : as = [.inr (.inr (some (10, 0)))] := g_as1 hlen hh0
  subst has
  have hGo : g_Go M_m_laysAllWords retV (me M_m_laysAllWords) 0 (g_loc [.inr (.inr (some (10, 0)))] (ml M_m_laysAllWords)) [] σ q := by
    have ht : g_Gd M_m_laysAllWords retV (me M_m_laysAllWords) 0 (t_m_laysAllWords (m_laysAllWords_b10 FU) m_wordMany) := (G_ldAn (n := 0) (nx := 1) (dc42 bs_m_laysAllWords (by decide +kernel)) rfl rfl (G_ldAn (n := 0) (nx := 2) (dc42 bs_m_laysAllWords (by decide +kernel)) rfl rfl (G_callV (b0 := 0) (nx := 5) (T := TX10) (ci := 10) (g_Fn_of rfl h_m_wordMany) (cw_10_142) ⟨wd5_102, sel_GalleyRoomModel_wordMany___I⟩ ⟨rfl, rfl⟩ ⟨by decide, by show 1 ≤ 21; decide⟩ (Nat.zero_le _) (rec_m_wordMany _) (dc182 (x := 0) (y := 142) bs_m_laysAllWords (by decide +kernel) rfl) rfl (G_putI (nx := 8) fp_10_360 rfl (dc181 (x := 1) (y := 104) bs_m_laysAllWords (by decide +kernel) rfl) rfl (G_ic (n := 0) (nx := 9) (dc3 bs_m_laysAllWords (by decide +kernel)) icv_0 rfl (G_stIn (n := 1) (nx := 10) (by show 1 < 2; decide) (dc60 bs_m_laysAllWords (by decide +kernel)) rfl rfl (G_lbl (Gp_C <| Gp_I fun a1 => Gp_E fun s r h => B_m_laysAllWords_b10 FU s a1 r h))))))))
    exact ht _ _ σ q ((e_m_laysAllWords (m_laysAllWords_b10 FU) m_wordMany σ ).symm.trans e1)
  exact g_meth (σ' := q) (v := none) (by decide) rfl hw hwf hok (Nat.le_of_ble_eq_true rfl) hGo (fun σ2 v2 h => retV_inv h) (by exact e2)

set_option maxRecDepth 100000 in
set_option maxHeartbeats 4000000 in
theorem B_m_back_b33 : ∀ (n : Nat) (s : Sg) (l1 : Int32) (l2 : Int32) (r : (Sg × Int32)), m_back_b33 n s l1 l2 = some r → g_Go M_m_back retI 0 33 [some (.inr (.inr (some (10, 0)))), some (.inl l1), some (.inl l2)] [] s r := by
  intro n
  induction n with
  | zero => intro s l1 l2 r h; cases h
  | succ n hK33 =>
    intro s l1 l2 r h
    have ht : g_Gd M_m_back retI 0 33 (t_m_back_b33 (m_back_b33 n) m_laysAllWords m_settled) := (G_ldIn (n := 2) (nx := 34) (dc28 bs_m_back (by decide +kernel)) rfl rfl (G_si (n := 5665) (nx := 37) (dc17 (x := 22) (y := 33) bs_m_back (by decide +kernel) (by decide +kernel)) siv_5665 rfl (G_icmpge (off := 27) (tg := 64) (nf := 40) (dc162 (x := 0) (y := 27) bs_m_back (by decide +kernel) (by decide +kernel)) (by decide +kernel) rfl
    (G_ldAn (n := 0) (nx := 41) (dc42 bs_m_back (by decide +kernel)) rfl rfl (G_getRc (nx := 44) fl_10_24 rf_10_2 (dc180 (x := 0) (y := 24) bs_m_back (by decide +kernel) rfl) rfl (G_ldIn (n := 2) (nx := 45) (dc28 bs_m_back (by decide +kernel)) rfl rfl (G_ldAn (n := 0) (nx := 46) (dc42 bs_m_back (by decide +kernel)) rfl rfl (G_getRc (nx := 49) fl_10_27 rf_10_3 (dc180 (x := 0) (y := 27) bs_m_back (by decide +kernel) rfl) rfl (G_si (n := 5665) (nx := 52) (dc17 (x := 22) (y := 33) bs_m_back (by decide +kernel) (by decide +kernel)) siv_5665 rfl (G_ldIn (n := 1) (nx := 53) (dc27 bs_m_back (by decide +kernel)) rfl rfl (G_imul (nx := 54) (dc104 bs_m_back (by decide +kernel)) rfl (G_ldIn (n := 2) (nx := 55) (dc28 bs_m_back (by decide +kernel)) rfl rfl (G_iadd (nx := 56) (dc96 bs_m_back (by decide +kernel)) rfl (G_iald (nx := 57) ak_44 (dc46 bs_m_back (by decide +kernel)) rfl (G_iast (nx := 58) ak_43 (by decide) (dc79 bs_m_back (by decide +kernel)) rfl (G_inc (n := 1) (nx := 61) (by show 2 < 3; decide) (dc132 (x := 2) (y := 1) bs_m_back (by decide +kernel) (by decide +kernel)) icv_1 rfl (G_goto (off := -28) (nx := 33) (dc167 (x := 255) (y := 228) bs_m_back (by decide +kernel) (by decide +kernel)) (by decide +kernel) (G_lbl (Gp_C <| Gp_I fun a1 => Gp_I fun a2 => Gp_E fun s r h => hK33 s a1 a2 r h))))))))))))))))
    (G_ldAn (n := 0) (nx := 65) (dc42 bs_m_back (by decide +kernel)) rfl rfl (G_callV (b0 := 0) (nx := 68) (T := TX10) (ci := 10) (g_Fn_of rfl h_m_laysAllWords) (cw_10_129) ⟨wd5_98, sel_GalleyRoomModel_laysAllWords___V⟩ ⟨rfl, rfl⟩ ⟨by decide, by show 2 ≤ 21; decide⟩ (Nat.zero_le _) (rec_m_laysAllWords _) (dc182 (x := 0) (y := 129) bs_m_back (by decide +kernel) rfl) rfl (G_ldAn (n := 0) (nx := 69) (dc42 bs_m_back (by decide +kernel)) rfl rfl (G_ic (n := 0) (nx := 70) (dc3 bs_m_back (by decide +kernel)) icv_0 rfl (G_callV (b0 := 0) (nx := 73) (T := TX10) (ci := 10) (g_Fn_of rfl h_m_settled) (cw_10_139) ⟨wd6_90, sel_GalleyRoomModel_settled__I_I⟩ ⟨rfl, rfl⟩ ⟨by decide, by show 2 ≤ 21; decide⟩ (Nat.zero_le _) (rec_m_settled _) (dc182 (x := 0) (y := 139) bs_m_back (by decide +kernel) rfl) rfl (G_iret rfl (dc172 bs_m_back (by decide +kernel)))))))))))
    exact ht _ _ s r ((e_m_back_b33 (m_back_b33 n) m_laysAllWords m_settled s l1 l2).symm.trans h)

set_option maxRecDepth 100000 in
set_option maxHeartbeats 4000000 in
theorem h_m_back : g_Ft M_m_back yX10_back 2 (FW_m_back m_back) := by
  intro l w hw σ as hlen hwf hok ρ k r e
  unfold FW_m_back at e
  obtain ⟨hh0, e⟩ := p_C_inv e
  obtain ⟨l1, hh1, e⟩ := p_I_inv e
  have e := p_E_inv e
  obtain ⟨q, e1, e2⟩ := Option.bind_eq_some_iff.mp e
  have has : as = [.inr (.inr (some (10, 0))), .inl l1] := g_as2 hlen hh0 hh1
  subst has
  have hGo : g_Go M_m_back retI (me M_m_back) 0 (g_loc [.inr (.inr (some (10, 0))), .inl l1] (ml M_m_back)) [] σ q := by
    have ht : g_Gd M_m_back retI (me M_m_back) 0 (t_m_back (m_back_b33 FU) m_lies m_refuses) := (G_ldIn (n := 1) (nx := 1) (dc27 bs_m_back (by decide +kernel)) rfl rfl (G_ic (n := 0) (nx := 2) (dc3 bs_m_back (by decide +kernel)) icv_0 rfl (G_ic (n := 1) (nx := 3) (dc4 bs_m_back (by decide +kernel)) icv_1 rfl (G_callS (b0 := 0) (nx := 6) (g_Fn_of rfl h_m_lies) (cw_10_132) wd6_74 rfl ⟨by decide, by show 3 ≤ 21; decide⟩ (Nat.zero_le _) (dc184 (x := 0) (y := 132) bs_m_back (by decide +kernel) rfl) rfl (G_ifne (off := 9) (tg := 15) (nf := 9) (dc154 (x := 0) (y := 9) bs_m_back (by decide +kernel) (by decide +kernel)) (by decide +kernel) rfl
  (G_ldAn (n := 0) (nx := 10) (dc42 bs_m_back (by decide +kernel)) rfl rfl (G_ic (n := -1) (nx := 11) (dc2 bs_m_back (by decide +kernel)) icv_m1 rfl (G_callV (b0 := 0) (nx := 14) (T := TX10) (ci := 10) (g_Fn_of rfl h_m_refuses) (cw_10_136) ⟨wd6_78, sel_GalleyRoomModel_refuses__I_I⟩ ⟨rfl, rfl⟩ ⟨by decide, by show 2 ≤ 21; decide⟩ (Nat.zero_le _) (rec_m_refuses _) (dc182 (x := 0) (y := 136) bs_m_back (by decide +kernel) rfl) rfl (G_iret rfl (dc172 bs_m_back (by decide +kernel))))))
  (G_ldAn (n := 0) (nx := 16) (dc42 bs_m_back (by decide +kernel)) rfl rfl (G_getRc (nx := 19) fl_10_30 rf_10_4 (dc180 (x := 0) (y := 30) bs_m_back (by decide +kernel) rfl) rfl (G_ldIn (n := 1) (nx := 20) (dc27 bs_m_back (by decide +kernel)) rfl rfl (G_zald (nx := 21) ak_45 (dc51 bs_m_back (by decide +kernel)) rfl (G_ifne (off := 10) (tg := 31) (nf := 24) (dc154 (x := 0) (y := 10) bs_m_back (by decide +kernel) (by decide +kernel)) (by decide +kernel) rfl
    (G_ldAn (n := 0) (nx := 25) (dc42 bs_m_back (by decide +kernel)) rfl rfl (G_bi (n := -2) (nx := 27) (dc16 (x := 254) bs_m_back (by decide +kernel) (by decide +kernel)) biv_m2 rfl (G_callV (b0 := 0) (nx := 30) (T := TX10) (ci := 10) (g_Fn_of rfl h_m_refuses) (cw_10_136) ⟨wd6_78, sel_GalleyRoomModel_refuses__I_I⟩ ⟨rfl, rfl⟩ ⟨by decide, by show 2 ≤ 21; decide⟩ (Nat.zero_le _) (rec_m_refuses _) (dc182 (x := 0) (y := 136) bs_m_back (by decide +kernel) rfl) rfl (G_iret rfl (dc172 bs_m_back (by decide +kernel))))))
    (G_ic (n := 0) (nx := 32) (dc3 bs_m_back (by decide +kernel)) icv_0 rfl (G_stIn (n := 2) (nx := 33) (by show 2 < 3; decide) (dc61 bs_m_back (by decide +kernel)) rfl rfl (G_lbl (Gp_C <| Gp_I fun a1 => Gp_I fun a2 => Gp_E fun s r h => B_m_back_b33 FU s a1 a2 r h))))))))))))))
    exact ht _ _ σ q ((e_m_back (m_back_b33 FU) m_lies m_refuses σ l1).symm.trans e1)
  exact g_meth (σ' := q.1) (v := some (.inl q.2)) (by decide) rfl hw hwf hok (Nat.le_of_ble_eq_true rfl) hGo (fun σ2 v2 h => retI_inv h) (by exact e2)

set_option maxRecDepth 100000 in
set_option maxHeartbeats 4000000 in
theorem h_m_isWord : g_Ft M_m_isWord yX10_isWord 2 (FW_m_isWord m_isWord) := by
  intro l w hw σ as hlen hwf hok ρ k r e
  unfold FW_m_isWord at e
  obtain ⟨hh0, e⟩ := p_C_inv e
  obtain ⟨l1, hh1, e⟩ := p_I_inv e
  have e := p_E_inv e
  obtain ⟨q, e1, e2⟩ := Option.bind_eq_some_iff.mp e
  have has : as = [.inr (.inr (some (10, 0))), .inl l1] := g_as2 hlen hh0 hh1
  subst has
  have hGo : g_Go M_m_isWord retI (me M_m_isWord) 0 (g_loc [.inr (.inr (some (10, 0))), .inl l1] (ml M_m_isWord)) [] σ q := by
    have ht : g_Gd M_m_isWord retI (me M_m_isWord) 0 (t_m_isWord m_wordMany m_lies) := (G_ldIn (n := 1) (nx := 1) (dc27 bs_m_isWord (by decide +kernel)) rfl rfl (G_ic (n := 0) (nx := 2) (dc3 bs_m_isWord (by decide +kernel)) icv_0 rfl (G_ldAn (n := 0) (nx := 3) (dc42 bs_m_isWord (by decide +kernel)) rfl rfl (G_callV (b0 := 0) (nx := 6) (T := TX10) (ci := 10) (g_Fn_of rfl h_m_wordMany) (cw_10_142) ⟨wd5_102, sel_GalleyRoomModel_wordMany___I⟩ ⟨rfl, rfl⟩ ⟨by decide, by show 1 ≤ 21; decide⟩ (Nat.zero_le _) (rec_m_wordMany _) (dc182 (x := 0) (y := 142) bs_m_isWord (by decide +kernel) rfl) rfl (G_ic (n := 1) (nx := 7) (dc4 bs_m_isWord (by decide +kernel)) icv_1 rfl (G_isub (nx := 8) (dc100 bs_m_isWord (by decide +kernel)) rfl (G_callS (b0 := 0) (nx := 11) (g_Fn_of rfl h_m_lies) (cw_10_132) wd6_74 rfl ⟨by decide, by show 3 ≤ 21; decide⟩ (Nat.zero_le _) (dc184 (x := 0) (y := 132) bs_m_isWord (by decide +kernel) rfl) rfl (G_zret rfl (dc172 bs_m_isWord (by decide +kernel))))))))))
    exact ht _ _ σ q ((e_m_isWord m_wordMany m_lies σ l1).symm.trans e1)
  exact g_meth (σ' := q.1) (v := some (.inl q.2)) (by decide) rfl hw hwf hok (Nat.le_of_ble_eq_true rfl) hGo (fun σ2 v2 h => retI_inv h) (by exact e2)

set_option maxRecDepth 100000 in
set_option maxHeartbeats 4000000 in
theorem h_m_isLast : g_Ft M_m_isLast yX10_isLast 2 (FW_m_isLast m_isLast) := by
  intro l w hw σ as hlen hwf hok ρ k r e
  unfold FW_m_isLast at e
  obtain ⟨hh0, e⟩ := p_C_inv e
  obtain ⟨l1, hh1, e⟩ := p_I_inv e
  have e := p_E_inv e
  obtain ⟨q, e1, e2⟩ := Option.bind_eq_some_iff.mp e
  have has : as = [.inr (.inr (some (10, 0))), .inl l1] := g_as2 hlen hh0 hh1
  subst has
  have hGo : g_Go M_m_isLast retI (me M_m_isLast) 0 (g_loc [.inr (.inr (some (10, 0))), .inl l1] (ml M_m_isLast)) [] σ q := by
    have ht : g_Gd M_m_isLast retI (me M_m_isLast) 0 (t_m_isLast m_wordMany) := (G_ldIn (n := 1) (nx := 1) (dc27 bs_m_isLast (by decide +kernel)) rfl rfl (G_ldAn (n := 0) (nx := 2) (dc42 bs_m_isLast (by decide +kernel)) rfl rfl (G_callV (b0 := 0) (nx := 5) (T := TX10) (ci := 10) (g_Fn_of rfl h_m_wordMany) (cw_10_142) ⟨wd5_102, sel_GalleyRoomModel_wordMany___I⟩ ⟨rfl, rfl⟩ ⟨by decide, by show 1 ≤ 21; decide⟩ (Nat.zero_le _) (rec_m_wordMany _) (dc182 (x := 0) (y := 142) bs_m_isLast (by decide +kernel) rfl) rfl (G_ic (n := 1) (nx := 6) (dc4 bs_m_isLast (by decide +kernel)) icv_1 rfl (G_isub (nx := 7) (dc100 bs_m_isLast (by decide +kernel)) rfl (G_icmpne (off := 7) (tg := 14) (nf := 10) (dc160 (x := 0) (y := 7) bs_m_isLast (by decide +kernel) (by decide +kernel)) (by decide +kernel) rfl
  (G_ic (n := 1) (nx := 11) (dc4 bs_m_isLast (by decide +kernel)) icv_1 rfl (G_goto (off := 4) (nx := 15) (dc167 (x := 0) (y := 4) bs_m_isLast (by decide +kernel) (by decide +kernel)) (by decide +kernel) (G_zret rfl (dc172 bs_m_isLast (by decide +kernel)))))
  (G_ic (n := 0) (nx := 15) (dc3 bs_m_isLast (by decide +kernel)) icv_0 rfl (G_zret rfl (dc172 bs_m_isLast (by decide +kernel))))))))))
    exact ht _ _ σ q ((e_m_isLast m_wordMany σ l1).symm.trans e1)
  exact g_meth (σ' := q.1) (v := some (.inl q.2)) (by decide) rfl hw hwf hok (Nat.le_of_ble_eq_true rfl) hGo (fun σ2 v2 h => retI_inv h) (by exact e2)

set_option maxRecDepth 100000 in
set_option maxHeartbeats 4000000 in
theorem h_m_endsAfter : g_Ft M_m_endsAfter yX10_endsAfter 2 (FW_m_endsAfter m_endsAfter) := by
  intro l w hw σ as hlen hwf hok ρ k r e
  unfold FW_m_endsAfter at e
  obtain ⟨hh0, e⟩ := p_C_inv e
  obtain ⟨l1, hh1, e⟩ := p_I_inv e
  have e := p_E_inv e
  obtain ⟨q, e1, e2⟩ := Option.bind_eq_some_iff.mp e
  have has : as = [.inr (.inr (some (10, 0))), .inl l1] := g_as2 hlen hh0 hh1
  subst has
  have hGo : g_Go M_m_endsAfter retI (me M_m_endsAfter) 0 (g_loc [.inr (.inr (some (10, 0))), .inl l1] (ml M_m_endsAfter)) [] σ q := by
    have ht : g_Gd M_m_endsAfter retI (me M_m_endsAfter) 0 (t_m_endsAfter m_isLast m_isIn) := (G_ldAn (n := 0) (nx := 1) (dc42 bs_m_endsAfter (by decide +kernel)) rfl rfl (G_ldIn (n := 1) (nx := 2) (dc27 bs_m_endsAfter (by decide +kernel)) rfl rfl (G_callV (b0 := 0) (nx := 5) (T := TX10) (ci := 10) (g_Fn_of rfl h_m_isLast) (cw_10_146) ⟨wd6_117, sel_GalleyRoomModel_isLast__I_Z⟩ ⟨rfl, rfl⟩ ⟨by decide, by show 2 ≤ 21; decide⟩ (Nat.zero_le _) (rec_m_isLast _) (dc182 (x := 0) (y := 146) bs_m_endsAfter (by decide +kernel) rfl) rfl (G_ifne (off := 16) (tg := 21) (nf := 8) (dc154 (x := 0) (y := 16) bs_m_endsAfter (by decide +kernel) (by decide +kernel)) (by decide +kernel) rfl
  (G_ldAn (n := 0) (nx := 9) (dc42 bs_m_endsAfter (by decide +kernel)) rfl rfl (G_getRc (nx := 12) fl_10_24 rf_10_2 (dc180 (x := 0) (y := 24) bs_m_endsAfter (by decide +kernel) rfl) rfl (G_ic (n := 0) (nx := 13) (dc3 bs_m_endsAfter (by decide +kernel)) icv_0 rfl (G_iald (nx := 14) ak_43 (dc46 bs_m_endsAfter (by decide +kernel)) rfl (G_ldIn (n := 1) (nx := 15) (dc27 bs_m_endsAfter (by decide +kernel)) rfl rfl (G_callS (b0 := 0) (nx := 18) (g_Fn_of rfl h_m_isIn) (cw_10_150) wd6_120 rfl ⟨by decide, by show 2 ≤ 21; decide⟩ (Nat.zero_le _) (dc184 (x := 0) (y := 150) bs_m_endsAfter (by decide +kernel) rfl) rfl (G_ifeq (off := 7) (tg := 25) (nf := 21) (dc153 (x := 0) (y := 7) bs_m_endsAfter (by decide +kernel) (by decide +kernel)) (by decide +kernel) rfl
    (G_ic (n := 0) (nx := 26) (dc3 bs_m_endsAfter (by decide +kernel)) icv_0 rfl (G_zret rfl (dc172 bs_m_endsAfter (by decide +kernel))))
    (G_ic (n := 1) (nx := 22) (dc4 bs_m_endsAfter (by decide +kernel)) icv_1 rfl (G_goto (off := 4) (nx := 26) (dc167 (x := 0) (y := 4) bs_m_endsAfter (by decide +kernel) (by decide +kernel)) (by decide +kernel) (G_zret rfl (dc172 bs_m_endsAfter (by decide +kernel))))))))))))
  (G_ic (n := 1) (nx := 22) (dc4 bs_m_endsAfter (by decide +kernel)) icv_1 rfl (G_goto (off := 4) (nx := 26) (dc167 (x := 0) (y := 4) bs_m_endsAfter (by decide +kernel) (by decide +kernel)) (by decide +kernel) (G_zret rfl (dc172 bs_m_endsAfter (by decide +kernel)))))))))
    exact ht _ _ σ q ((e_m_endsAfter m_isLast m_isIn σ l1).symm.trans e1)
  exact g_meth (σ' := q.1) (v := some (.inl q.2)) (by decide) rfl hw hwf hok (Nat.le_of_ble_eq_true rfl) hGo (fun σ2 v2 h => retI_inv h) (by exact e2)

set_option maxRecDepth 100000 in
set_option maxHeartbeats 4000000 in
theorem h_m_isSplit : g_Ft M_m_isSplit yX10_isSplit 2 (FW_m_isSplit m_isSplit) := by
  intro l w hw σ as hlen hwf hok ρ k r e
  unfold FW_m_isSplit at e
  obtain ⟨hh0, e⟩ := p_C_inv e
  obtain ⟨l1, hh1, e⟩ := p_I_inv e
  have e := p_E_inv e
  obtain ⟨q, e1, e2⟩ := Option.bind_eq_some_iff.mp e
  have has : as = [.inr (.inr (some (10, 0))), .inl l1] := g_as2 hlen hh0 hh1
  subst has
  have hGo : g_Go M_m_isSplit retI (me M_m_isSplit) 0 (g_loc [.inr (.inr (some (10, 0))), .inl l1] (ml M_m_isSplit)) [] σ q := by
    have ht : g_Gd M_m_isSplit retI (me M_m_isSplit) 0 (t_m_isSplit m_isIn) := (G_ldAn (n := 0) (nx := 1) (dc42 bs_m_isSplit (by decide +kernel)) rfl rfl (G_getRc (nx := 4) fl_10_24 rf_10_2 (dc180 (x := 0) (y := 24) bs_m_isSplit (by decide +kernel) rfl) rfl (G_ic (n := 1) (nx := 5) (dc4 bs_m_isSplit (by decide +kernel)) icv_1 rfl (G_iald (nx := 6) ak_43 (dc46 bs_m_isSplit (by decide +kernel)) rfl (G_ldIn (n := 1) (nx := 7) (dc27 bs_m_isSplit (by decide +kernel)) rfl rfl (G_callS (b0 := 0) (nx := 10) (g_Fn_of rfl h_m_isIn) (cw_10_150) wd6_120 rfl ⟨by decide, by show 2 ≤ 21; decide⟩ (Nat.zero_le _) (dc184 (x := 0) (y := 150) bs_m_isSplit (by decide +kernel) rfl) rfl (G_zret rfl (dc172 bs_m_isSplit (by decide +kernel)))))))))
    exact ht _ _ σ q ((e_m_isSplit m_isIn σ l1).symm.trans e1)
  exact g_meth (σ' := q.1) (v := some (.inl q.2)) (by decide) rfl hw hwf hok (Nat.le_of_ble_eq_true rfl) hGo (fun σ2 v2 h => retI_inv h) (by exact e2)

set_option maxRecDepth 100000 in
set_option maxHeartbeats 4000000 in
theorem h_m_canWord : g_Ft M_m_canWord yX10_canWord 3 (FW_m_canWord m_canWord) := by
  intro l w hw σ as hlen hwf hok ρ k r e
  unfold FW_m_canWord at e
  obtain ⟨l0, hh0, e⟩ := p_I_inv e
  obtain ⟨l1, hh1, e⟩ := p_I_inv e
  obtain ⟨l2, hh2, e⟩ := p_I_inv e
  have e := p_E_inv e
  obtain ⟨q, e1, e2⟩ := Option.bind_eq_some_iff.mp e
  have has : as = [.inl l0, .inl l1, .inl l2] := g_as3 hlen hh0 hh1 hh2
  subst has
  have hGo : g_Go M_m_canWord retI (me M_m_canWord) 0 (g_loc [.inl l0, .inl l1, .inl l2] (ml M_m_canWord)) [] σ q := by
    have ht : g_Gd M_m_canWord retI (me M_m_canWord) 0 (t_m_canWord m_lies) := (G_ldIn (n := 0) (nx := 1) (dc26 bs_m_canWord (by decide +kernel)) rfl rfl (G_ic (n := 1) (nx := 2) (dc4 bs_m_canWord (by decide +kernel)) icv_1 rfl (G_bi (n := 20) (nx := 4) (dc16 (x := 20) bs_m_canWord (by decide +kernel) (by decide +kernel)) biv_20 rfl (G_callS (b0 := 0) (nx := 7) (g_Fn_of rfl h_m_lies) (cw_10_132) wd6_74 rfl ⟨by decide, by show 3 ≤ 21; decide⟩ (Nat.zero_le _) (dc184 (x := 0) (y := 132) bs_m_canWord (by decide +kernel) rfl) rfl (G_ifeq (off := 27) (tg := 34) (nf := 10) (dc153 (x := 0) (y := 27) bs_m_canWord (by decide +kernel) (by decide +kernel)) (by decide +kernel) rfl
  (G_ic (n := 0) (nx := 35) (dc3 bs_m_canWord (by decide +kernel)) icv_0 rfl (G_zret rfl (dc172 bs_m_canWord (by decide +kernel))))
  (G_ldIn (n := 1) (nx := 11) (dc27 bs_m_canWord (by decide +kernel)) rfl rfl (G_ic (n := 0) (nx := 12) (dc3 bs_m_canWord (by decide +kernel)) icv_0 rfl (G_ldIn (n := 0) (nx := 13) (dc26 bs_m_canWord (by decide +kernel)) rfl rfl (G_ic (n := 1) (nx := 14) (dc4 bs_m_canWord (by decide +kernel)) icv_1 rfl (G_isub (nx := 15) (dc100 bs_m_canWord (by decide +kernel)) rfl (G_callS (b0 := 0) (nx := 18) (g_Fn_of rfl h_m_lies) (cw_10_132) wd6_74 rfl ⟨by decide, by show 3 ≤ 21; decide⟩ (Nat.zero_le _) (dc184 (x := 0) (y := 132) bs_m_canWord (by decide +kernel) rfl) rfl (G_ifeq (off := 16) (tg := 34) (nf := 21) (dc153 (x := 0) (y := 16) bs_m_canWord (by decide +kernel) (by decide +kernel)) (by decide +kernel) rfl
    (G_ic (n := 0) (nx := 35) (dc3 bs_m_canWord (by decide +kernel)) icv_0 rfl (G_zret rfl (dc172 bs_m_canWord (by decide +kernel))))
    (G_ldIn (n := 2) (nx := 22) (dc28 bs_m_canWord (by decide +kernel)) rfl rfl (G_ic (n := 0) (nx := 23) (dc3 bs_m_canWord (by decide +kernel)) icv_0 rfl (G_ic (n := 3) (nx := 24) (dc6 bs_m_canWord (by decide +kernel)) icv_3 rfl (G_callS (b0 := 0) (nx := 27) (g_Fn_of rfl h_m_lies) (cw_10_132) wd6_74 rfl ⟨by decide, by show 3 ≤ 21; decide⟩ (Nat.zero_le _) (dc184 (x := 0) (y := 132) bs_m_canWord (by decide +kernel) rfl) rfl (G_ifeq (off := 7) (tg := 34) (nf := 30) (dc153 (x := 0) (y := 7) bs_m_canWord (by decide +kernel) (by decide +kernel)) (by decide +kernel) rfl
      (G_ic (n := 0) (nx := 35) (dc3 bs_m_canWord (by decide +kernel)) icv_0 rfl (G_zret rfl (dc172 bs_m_canWord (by decide +kernel))))
      (G_ic (n := 1) (nx := 31) (dc4 bs_m_canWord (by decide +kernel)) icv_1 rfl (G_goto (off := 4) (nx := 35) (dc167 (x := 0) (y := 4) bs_m_canWord (by decide +kernel) (by decide +kernel)) (by decide +kernel) (G_zret rfl (dc172 bs_m_canWord (by decide +kernel))))))))))))))))))))))
    exact ht _ _ σ q ((e_m_canWord m_lies σ l0 l1 l2).symm.trans e1)
  exact g_meth (σ' := q.1) (v := some (.inl q.2)) (by decide) rfl hw hwf hok (Nat.le_of_ble_eq_true rfl) hGo (fun σ2 v2 h => retI_inv h) (by exact e2)

set_option maxRecDepth 100000 in
set_option maxHeartbeats 4000000 in
theorem h_m_adds : g_Ft M_m_adds yX10_adds 4 (FW_m_adds m_adds) := by
  intro l w hw σ as hlen hwf hok ρ k r e
  unfold FW_m_adds at e
  obtain ⟨hh0, e⟩ := p_C_inv e
  obtain ⟨l1, hh1, e⟩ := p_I_inv e
  obtain ⟨l2, hh2, e⟩ := p_I_inv e
  obtain ⟨l3, hh3, e⟩ := p_I_inv e
  have e := p_E_inv e
  obtain ⟨q, e1, e2⟩ := Option.bind_eq_some_iff.mp e
  have has : as = [.inr (.inr (some (10, 0))), .inl l1, .inl l2, .inl l3] := g_as4 hlen hh0 hh1 hh2 hh3
  subst has
  have hGo : g_Go M_m_adds retV (me M_m_adds) 0 (g_loc [.inr (.inr (some (10, 0))), .inl l1, .inl l2, .inl l3] (ml M_m_adds)) [] σ q := by
    have ht : g_Gd M_m_adds retV (me M_m_adds) 0 (t_m_adds m_wordMany m_laysAllWords) := (G_ldAn (n := 0) (nx := 1) (dc42 bs_m_adds (by decide +kernel)) rfl rfl (G_callV (b0 := 0) (nx := 4) (T := TX10) (ci := 10) (g_Fn_of rfl h_m_wordMany) (cw_10_142) ⟨wd5_102, sel_GalleyRoomModel_wordMany___I⟩ ⟨rfl, rfl⟩ ⟨by decide, by show 1 ≤ 21; decide⟩ (Nat.zero_le _) (rec_m_wordMany _) (dc182 (x := 0) (y := 142) bs_m_adds (by decide +kernel) rfl) rfl (G_stI (nx := 6) (by show 4 < 5; decide) (dc54 (x := 4) bs_m_adds (by decide +kernel)) rfl (G_ldAn (n := 0) (nx := 7) (dc42 bs_m_adds (by decide +kernel)) rfl rfl (G_getRc (nx := 10) fl_10_24 rf_10_2 (dc180 (x := 0) (y := 24) bs_m_adds (by decide +kernel) rfl) rfl (G_ic (n := 2) (nx := 11) (dc5 bs_m_adds (by decide +kernel)) icv_2 rfl (G_ldI (nx := 13) (dc21 (x := 4) bs_m_adds (by decide +kernel)) rfl (G_iadd (nx := 14) (dc96 bs_m_adds (by decide +kernel)) rfl (G_ldIn (n := 1) (nx := 15) (dc27 bs_m_adds (by decide +kernel)) rfl rfl (G_iast (nx := 16) ak_43 (by decide) (dc79 bs_m_adds (by decide +kernel)) rfl (G_ldAn (n := 0) (nx := 17) (dc42 bs_m_adds (by decide +kernel)) rfl rfl (G_getRc (nx := 20) fl_10_24 rf_10_2 (dc180 (x := 0) (y := 24) bs_m_adds (by decide +kernel) rfl) rfl (G_bi (n := 15) (nx := 22) (dc16 (x := 15) bs_m_adds (by decide +kernel) (by decide +kernel)) biv_15 rfl (G_ldI (nx := 24) (dc21 (x := 4) bs_m_adds (by decide +kernel)) rfl (G_iadd (nx := 25) (dc96 bs_m_adds (by decide +kernel)) rfl (G_ldIn (n := 2) (nx := 26) (dc28 bs_m_adds (by decide +kernel)) rfl rfl (G_iast (nx := 27) ak_43 (by decide) (dc79 bs_m_adds (by decide +kernel)) rfl (G_ldAn (n := 0) (nx := 28) (dc42 bs_m_adds (by decide +kernel)) rfl rfl (G_getRc (nx := 31) fl_10_24 rf_10_2 (dc180 (x := 0) (y := 24) bs_m_adds (by decide +kernel) rfl) rfl (G_bi (n := 27) (nx := 33) (dc16 (x := 27) bs_m_adds (by decide +kernel) (by decide +kernel)) biv_27 rfl (G_ldI (nx := 35) (dc21 (x := 4) bs_m_adds (by decide +kernel)) rfl (G_iadd (nx := 36) (dc96 bs_m_adds (by decide +kernel)) rfl (G_ldIn (n := 3) (nx := 37) (dc29 bs_m_adds (by decide +kernel)) rfl rfl (G_iast (nx := 38) ak_43 (by decide) (dc79 bs_m_adds (by decide +kernel)) rfl (G_ldAn (n := 0) (nx := 39) (dc42 bs_m_adds (by decide +kernel)) rfl rfl (G_getRc (nx := 42) fl_10_24 rf_10_2 (dc180 (x := 0) (y := 24) bs_m_adds (by decide +kernel) rfl) rfl (G_ic (n := 0) (nx := 43) (dc3 bs_m_adds (by decide +kernel)) icv_0 rfl (G_dup2 (nx := 44) (dc92 bs_m_adds (by decide +kernel)) rfl (G_iald (nx := 45) ak_43 (dc46 bs_m_adds (by decide +kernel)) rfl (G_ic (n := 1) (nx := 46) (dc4 bs_m_adds (by decide +kernel)) icv_1 rfl (G_ldI (nx := 48) (dc21 (x := 4) bs_m_adds (by decide +kernel)) rfl (G_ishl (nx := 49) (dc120 bs_m_adds (by decide +kernel)) rfl (G_ic (n := -1) (nx := 50) (dc2 bs_m_adds (by decide +kernel)) icv_m1 rfl (G_ixor (nx := 51) (dc130 bs_m_adds (by decide +kernel)) rfl (G_iand (nx := 52) (dc126 bs_m_adds (by decide +kernel)) rfl (G_iast (nx := 53) ak_43 (by decide) (dc79 bs_m_adds (by decide +kernel)) rfl (G_ldAn (n := 0) (nx := 54) (dc42 bs_m_adds (by decide +kernel)) rfl rfl (G_getRc (nx := 57) fl_10_24 rf_10_2 (dc180 (x := 0) (y := 24) bs_m_adds (by decide +kernel) rfl) rfl (G_ic (n := 1) (nx := 58) (dc4 bs_m_adds (by decide +kernel)) icv_1 rfl (G_dup2 (nx := 59) (dc92 bs_m_adds (by decide +kernel)) rfl (G_iald (nx := 60) ak_43 (dc46 bs_m_adds (by decide +kernel)) rfl (G_ic (n := 1) (nx := 61) (dc4 bs_m_adds (by decide +kernel)) icv_1 rfl (G_ldI (nx := 63) (dc21 (x := 4) bs_m_adds (by decide +kernel)) rfl (G_ishl (nx := 64) (dc120 bs_m_adds (by decide +kernel)) rfl (G_ic (n := -1) (nx := 65) (dc2 bs_m_adds (by decide +kernel)) icv_m1 rfl (G_ixor (nx := 66) (dc130 bs_m_adds (by decide +kernel)) rfl (G_iand (nx := 67) (dc126 bs_m_adds (by decide +kernel)) rfl (G_iast (nx := 68) ak_43 (by decide) (dc79 bs_m_adds (by decide +kernel)) rfl (G_ldAn (n := 0) (nx := 69) (dc42 bs_m_adds (by decide +kernel)) rfl rfl (G_getRc (nx := 72) fl_10_24 rf_10_2 (dc180 (x := 0) (y := 24) bs_m_adds (by decide +kernel) rfl) rfl (G_bi (n := 54) (nx := 74) (dc16 (x := 54) bs_m_adds (by decide +kernel) (by decide +kernel)) biv_54 rfl (G_dup2 (nx := 75) (dc92 bs_m_adds (by decide +kernel)) rfl (G_iald (nx := 76) ak_43 (dc46 bs_m_adds (by decide +kernel)) rfl (G_ic (n := 1) (nx := 77) (dc4 bs_m_adds (by decide +kernel)) icv_1 rfl (G_iadd (nx := 78) (dc96 bs_m_adds (by decide +kernel)) rfl (G_iast (nx := 79) ak_43 (by decide) (dc79 bs_m_adds (by decide +kernel)) rfl (G_ldAn (n := 0) (nx := 80) (dc42 bs_m_adds (by decide +kernel)) rfl rfl (G_callV (b0 := 0) (nx := 83) (T := TX10) (ci := 10) (g_Fn_of rfl h_m_laysAllWords) (cw_10_129) ⟨wd5_98, sel_GalleyRoomModel_laysAllWords___V⟩ ⟨rfl, rfl⟩ ⟨by decide, by show 2 ≤ 21; decide⟩ (Nat.zero_le _) (rec_m_laysAllWords _) (dc182 (x := 0) (y := 129) bs_m_adds (by decide +kernel) rfl) rfl (G_vret rfl (dc177 bs_m_adds (by decide +kernel)))))))))))))))))))))))))))))))))))))))))))))))))))))))))))))
    exact ht _ _ σ q ((e_m_adds m_wordMany m_laysAllWords σ l1 l2 l3).symm.trans e1)
  exact g_meth (σ' := q) (v := none) (by decide) rfl hw hwf hok (Nat.le_of_ble_eq_true rfl) hGo (fun σ2 v2 h => retV_inv h) (by exact e2)

set_option maxRecDepth 100000 in
set_option maxHeartbeats 4000000 in
theorem h_m_word : g_Ft M_m_word yX10_word 4 (FW_m_word m_word) := by
  intro l w hw σ as hlen hwf hok ρ k r e
  unfold FW_m_word at e
  obtain ⟨hh0, e⟩ := p_C_inv e
  obtain ⟨l1, hh1, e⟩ := p_I_inv e
  obtain ⟨l2, hh2, e⟩ := p_I_inv e
  obtain ⟨l3, hh3, e⟩ := p_I_inv e
  have e := p_E_inv e
  obtain ⟨q, e1, e2⟩ := Option.bind_eq_some_iff.mp e
  have has : as = [.inr (.inr (some (10, 0))), .inl l1, .inl l2, .inl l3] := g_as4 hlen hh0 hh1 hh2 hh3
  subst has
  have hGo : g_Go M_m_word retI (me M_m_word) 0 (g_loc [.inr (.inr (some (10, 0))), .inl l1, .inl l2, .inl l3] (ml M_m_word)) [] σ q := by
    have ht : g_Gd M_m_word retI (me M_m_word) 0 (t_m_word m_canWord m_refuses m_wordMany m_adds m_settled) := (G_ldIn (n := 1) (nx := 1) (dc27 bs_m_word (by decide +kernel)) rfl rfl (G_ldIn (n := 2) (nx := 2) (dc28 bs_m_word (by decide +kernel)) rfl rfl (G_ldIn (n := 3) (nx := 3) (dc29 bs_m_word (by decide +kernel)) rfl rfl (G_callS (b0 := 0) (nx := 6) (g_Fn_of rfl h_m_canWord) (cw_10_154) wd6_97 rfl ⟨by decide, by show 3 ≤ 21; decide⟩ (Nat.zero_le _) (dc184 (x := 0) (y := 154) bs_m_word (by decide +kernel) rfl) rfl (G_ifne (off := 9) (tg := 15) (nf := 9) (dc154 (x := 0) (y := 9) bs_m_word (by decide +kernel) (by decide +kernel)) (by decide +kernel) rfl
  (G_ldAn (n := 0) (nx := 10) (dc42 bs_m_word (by decide +kernel)) rfl rfl (G_ic (n := -1) (nx := 11) (dc2 bs_m_word (by decide +kernel)) icv_m1 rfl (G_callV (b0 := 0) (nx := 14) (T := TX10) (ci := 10) (g_Fn_of rfl h_m_refuses) (cw_10_136) ⟨wd6_78, sel_GalleyRoomModel_refuses__I_I⟩ ⟨rfl, rfl⟩ ⟨by decide, by show 2 ≤ 21; decide⟩ (Nat.zero_le _) (rec_m_refuses _) (dc182 (x := 0) (y := 136) bs_m_word (by decide +kernel) rfl) rfl (G_iret rfl (dc172 bs_m_word (by decide +kernel))))))
  (G_ldAn (n := 0) (nx := 16) (dc42 bs_m_word (by decide +kernel)) rfl rfl (G_callV (b0 := 0) (nx := 19) (T := TX10) (ci := 10) (g_Fn_of rfl h_m_wordMany) (cw_10_142) ⟨wd5_102, sel_GalleyRoomModel_wordMany___I⟩ ⟨rfl, rfl⟩ ⟨by decide, by show 1 ≤ 21; decide⟩ (Nat.zero_le _) (rec_m_wordMany _) (dc182 (x := 0) (y := 142) bs_m_word (by decide +kernel) rfl) rfl (G_bi (n := 12) (nx := 21) (dc16 (x := 12) bs_m_word (by decide +kernel) (by decide +kernel)) biv_12 rfl (G_icmpne (off := 10) (tg := 31) (nf := 24) (dc160 (x := 0) (y := 10) bs_m_word (by decide +kernel) (by decide +kernel)) (by decide +kernel) rfl
    (G_ldAn (n := 0) (nx := 25) (dc42 bs_m_word (by decide +kernel)) rfl rfl (G_bi (n := -5) (nx := 27) (dc16 (x := 251) bs_m_word (by decide +kernel) (by decide +kernel)) biv_m5 rfl (G_callV (b0 := 0) (nx := 30) (T := TX10) (ci := 10) (g_Fn_of rfl h_m_refuses) (cw_10_136) ⟨wd6_78, sel_GalleyRoomModel_refuses__I_I⟩ ⟨rfl, rfl⟩ ⟨by decide, by show 2 ≤ 21; decide⟩ (Nat.zero_le _) (rec_m_refuses _) (dc182 (x := 0) (y := 136) bs_m_word (by decide +kernel) rfl) rfl (G_iret rfl (dc172 bs_m_word (by decide +kernel))))))
    (G_ldAn (n := 0) (nx := 32) (dc42 bs_m_word (by decide +kernel)) rfl rfl (G_ldIn (n := 1) (nx := 33) (dc27 bs_m_word (by decide +kernel)) rfl rfl (G_ldIn (n := 2) (nx := 34) (dc28 bs_m_word (by decide +kernel)) rfl rfl (G_ldIn (n := 3) (nx := 35) (dc29 bs_m_word (by decide +kernel)) rfl rfl (G_callV (b0 := 0) (nx := 38) (T := TX10) (ci := 10) (g_Fn_of rfl h_m_adds) (cw_10_157) ⟨wd6_101, sel_GalleyRoomModel_adds__III_V⟩ ⟨rfl, rfl⟩ ⟨by decide, by show 5 ≤ 21; decide⟩ (Nat.zero_le _) (rec_m_adds _) (dc182 (x := 0) (y := 157) bs_m_word (by decide +kernel) rfl) rfl (G_ldAn (n := 0) (nx := 39) (dc42 bs_m_word (by decide +kernel)) rfl rfl (G_ldAn (n := 0) (nx := 40) (dc42 bs_m_word (by decide +kernel)) rfl rfl (G_callV (b0 := 0) (nx := 43) (T := TX10) (ci := 10) (g_Fn_of rfl h_m_wordMany) (cw_10_142) ⟨wd5_102, sel_GalleyRoomModel_wordMany___I⟩ ⟨rfl, rfl⟩ ⟨by decide, by show 1 ≤ 21; decide⟩ (Nat.zero_le _) (rec_m_wordMany _) (dc182 (x := 0) (y := 142) bs_m_word (by decide +kernel) rfl) rfl (G_ic (n := 1) (nx := 44) (dc4 bs_m_word (by decide +kernel)) icv_1 rfl (G_isub (nx := 45) (dc100 bs_m_word (by decide +kernel)) rfl (G_callV (b0 := 0) (nx := 48) (T := TX10) (ci := 10) (g_Fn_of rfl h_m_settled) (cw_10_139) ⟨wd6_90, sel_GalleyRoomModel_settled__I_I⟩ ⟨rfl, rfl⟩ ⟨by decide, by show 2 ≤ 21; decide⟩ (Nat.zero_le _) (rec_m_settled _) (dc182 (x := 0) (y := 139) bs_m_word (by decide +kernel) rfl) rfl (G_iret rfl (dc172 bs_m_word (by decide +kernel)))))))))))))))))))))))
    exact ht _ _ σ q ((e_m_word m_canWord m_refuses m_wordMany m_adds m_settled σ l1 l2 l3).symm.trans e1)
  exact g_meth (σ' := q.1) (v := some (.inl q.2)) (by decide) rfl hw hwf hok (Nat.le_of_ble_eq_true rfl) hGo (fun σ2 v2 h => retI_inv h) (by exact e2)

set_option maxRecDepth 100000 in
set_option maxHeartbeats 4000000 in
theorem h_m_of : g_Ft M_m_of yX10_of 3 (FW_m_of m_of) := by
  intro l w hw σ as hlen hwf hok ρ k r e
  unfold FW_m_of at e
  obtain ⟨hh0, e⟩ := p_C_inv e
  obtain ⟨l1, hh1, e⟩ := p_I_inv e
  obtain ⟨l2, hh2, e⟩ := p_I_inv e
  have e := p_E_inv e
  obtain ⟨q, e1, e2⟩ := Option.bind_eq_some_iff.mp e
  have has : as = [.inr (.inr (some (10, 0))), .inl l1, .inl l2] := g_as3 hlen hh0 hh1 hh2
  subst has
  have hGo : g_Go M_m_of retI (me M_m_of) 0 (g_loc [.inr (.inr (some (10, 0))), .inl l1, .inl l2] (ml M_m_of)) [] σ q := by
    have ht : g_Gd M_m_of retI (me M_m_of) 0 (t_m_of m_isWord m_endsAfter m_isSplit) := (G_ldAn (n := 0) (nx := 1) (dc42 bs_m_of (by decide +kernel)) rfl rfl (G_ldIn (n := 1) (nx := 2) (dc27 bs_m_of (by decide +kernel)) rfl rfl (G_callV (b0 := 0) (nx := 5) (T := TX10) (ci := 10) (g_Fn_of rfl h_m_isWord) (cw_10_161) ⟨wd6_109, sel_GalleyRoomModel_isWord__I_Z⟩ ⟨rfl, rfl⟩ ⟨by decide, by show 2 ≤ 21; decide⟩ (Nat.zero_le _) (rec_m_isWord _) (dc182 (x := 0) (y := 161) bs_m_of (by decide +kernel) rfl) rfl (G_ifne (off := 5) (tg := 10) (nf := 8) (dc154 (x := 0) (y := 5) bs_m_of (by decide +kernel) (by decide +kernel)) (by decide +kernel) rfl
  (G_ic (n := -1) (nx := 9) (dc2 bs_m_of (by decide +kernel)) icv_m1 rfl (G_iret rfl (dc172 bs_m_of (by decide +kernel))))
  (G_ldIn (n := 2) (nx := 11) (dc28 bs_m_of (by decide +kernel)) rfl rfl (G_sw (dflt := 90) (lo := 0) (hi := 4) (offs := #[33, 42, 52, 62, 76]) (len := 33) (td := 101) (by decide +kernel) (by decide +kernel)
    (List.forall_mem_cons.mpr ⟨⟨33, 44, by decide +kernel, by decide +kernel, by decide +kernel, by decide +kernel,
    (G_ldAn (n := 0) (nx := 45) (dc42 bs_m_of (by decide +kernel)) rfl rfl (G_getRc (nx := 48) fl_10_24 rf_10_2 (dc180 (x := 0) (y := 24) bs_m_of (by decide +kernel) rfl) rfl (G_ic (n := 2) (nx := 49) (dc5 bs_m_of (by decide +kernel)) icv_2 rfl (G_ldIn (n := 1) (nx := 50) (dc27 bs_m_of (by decide +kernel)) rfl rfl (G_iadd (nx := 51) (dc96 bs_m_of (by decide +kernel)) rfl (G_iald (nx := 52) ak_43 (dc46 bs_m_of (by decide +kernel)) rfl (G_iret rfl (dc172 bs_m_of (by decide +kernel)))))))))⟩, List.forall_mem_cons.mpr ⟨⟨42, 53, by decide +kernel, by decide +kernel, by decide +kernel, by decide +kernel,
    (G_ldAn (n := 0) (nx := 54) (dc42 bs_m_of (by decide +kernel)) rfl rfl (G_getRc (nx := 57) fl_10_24 rf_10_2 (dc180 (x := 0) (y := 24) bs_m_of (by decide +kernel) rfl) rfl (G_bi (n := 15) (nx := 59) (dc16 (x := 15) bs_m_of (by decide +kernel) (by decide +kernel)) biv_15 rfl (G_ldIn (n := 1) (nx := 60) (dc27 bs_m_of (by decide +kernel)) rfl rfl (G_iadd (nx := 61) (dc96 bs_m_of (by decide +kernel)) rfl (G_iald (nx := 62) ak_43 (dc46 bs_m_of (by decide +kernel)) rfl (G_iret rfl (dc172 bs_m_of (by decide +kernel)))))))))⟩, List.forall_mem_cons.mpr ⟨⟨52, 63, by decide +kernel, by decide +kernel, by decide +kernel, by decide +kernel,
    (G_ldAn (n := 0) (nx := 64) (dc42 bs_m_of (by decide +kernel)) rfl rfl (G_getRc (nx := 67) fl_10_24 rf_10_2 (dc180 (x := 0) (y := 24) bs_m_of (by decide +kernel) rfl) rfl (G_bi (n := 27) (nx := 69) (dc16 (x := 27) bs_m_of (by decide +kernel) (by decide +kernel)) biv_27 rfl (G_ldIn (n := 1) (nx := 70) (dc27 bs_m_of (by decide +kernel)) rfl rfl (G_iadd (nx := 71) (dc96 bs_m_of (by decide +kernel)) rfl (G_iald (nx := 72) ak_43 (dc46 bs_m_of (by decide +kernel)) rfl (G_iret rfl (dc172 bs_m_of (by decide +kernel)))))))))⟩, List.forall_mem_cons.mpr ⟨⟨62, 73, by decide +kernel, by decide +kernel, by decide +kernel, by decide +kernel,
    (G_ldAn (n := 0) (nx := 74) (dc42 bs_m_of (by decide +kernel)) rfl rfl (G_ldIn (n := 1) (nx := 75) (dc27 bs_m_of (by decide +kernel)) rfl rfl (G_callV (b0 := 0) (nx := 78) (T := TX10) (ci := 10) (g_Fn_of rfl h_m_endsAfter) (cw_10_164) ⟨wd6_113, sel_GalleyRoomModel_endsAfter__I_Z⟩ ⟨rfl, rfl⟩ ⟨by decide, by show 2 ≤ 21; decide⟩ (Nat.zero_le _) (rec_m_endsAfter _) (dc182 (x := 0) (y := 164) bs_m_of (by decide +kernel) rfl) rfl (G_ifeq (off := 7) (tg := 85) (nf := 81) (dc153 (x := 0) (y := 7) bs_m_of (by decide +kernel) (by decide +kernel)) (by decide +kernel) rfl
      (G_ic (n := 0) (nx := 86) (dc3 bs_m_of (by decide +kernel)) icv_0 rfl (G_iret rfl (dc172 bs_m_of (by decide +kernel))))
      (G_ic (n := 1) (nx := 82) (dc4 bs_m_of (by decide +kernel)) icv_1 rfl (G_goto (off := 4) (nx := 86) (dc167 (x := 0) (y := 4) bs_m_of (by decide +kernel) (by decide +kernel)) (by decide +kernel) (G_iret rfl (dc172 bs_m_of (by decide +kernel)))))))))⟩, List.forall_mem_cons.mpr ⟨⟨76, 87, by decide +kernel, by decide +kernel, by decide +kernel, by decide +kernel,
    (G_ldAn (n := 0) (nx := 88) (dc42 bs_m_of (by decide +kernel)) rfl rfl (G_ldIn (n := 1) (nx := 89) (dc27 bs_m_of (by decide +kernel)) rfl rfl (G_callV (b0 := 0) (nx := 92) (T := TX10) (ci := 10) (g_Fn_of rfl h_m_isSplit) (cw_10_167) ⟨wd6_124, sel_GalleyRoomModel_isSplit__I_Z⟩ ⟨rfl, rfl⟩ ⟨by decide, by show 2 ≤ 21; decide⟩ (Nat.zero_le _) (rec_m_isSplit _) (dc182 (x := 0) (y := 167) bs_m_of (by decide +kernel) rfl) rfl (G_ifeq (off := 7) (tg := 99) (nf := 95) (dc153 (x := 0) (y := 7) bs_m_of (by decide +kernel) (by decide +kernel)) (by decide +kernel) rfl
      (G_ic (n := 0) (nx := 100) (dc3 bs_m_of (by decide +kernel)) icv_0 rfl (G_iret rfl (dc172 bs_m_of (by decide +kernel))))
      (G_ic (n := 1) (nx := 96) (dc4 bs_m_of (by decide +kernel)) icv_1 rfl (G_goto (off := 4) (nx := 100) (dc167 (x := 0) (y := 4) bs_m_of (by decide +kernel) (by decide +kernel)) (by decide +kernel) (G_iret rfl (dc172 bs_m_of (by decide +kernel)))))))))⟩, fun _ h => absurd h List.not_mem_nil⟩⟩⟩⟩⟩)
    (g_swall _ (by decide +kernel) rfl)
    (G_ic (n := -1) (nx := 102) (dc2 bs_m_of (by decide +kernel)) icv_m1 rfl (G_iret rfl (dc172 bs_m_of (by decide +kernel))))))))))
    exact ht _ _ σ q ((e_m_of m_isWord m_endsAfter m_isSplit σ l1 l2).symm.trans e1)
  exact g_meth (σ' := q.1) (v := some (.inl q.2)) (by decide) rfl hw hwf hok (Nat.le_of_ble_eq_true rfl) hGo (fun σ2 v2 h => retI_inv h) (by exact e2)

set_option maxRecDepth 100000 in
set_option maxHeartbeats 4000000 in
theorem h_m_isTerm : g_Ft M_m_isTerm yX10_isTerm 2 (FW_m_isTerm m_isTerm) := by
  intro l w hw σ as hlen hwf hok ρ k r e
  unfold FW_m_isTerm at e
  obtain ⟨l0, hh0, e⟩ := p_I_inv e
  obtain ⟨l1, hh1, e⟩ := p_I_inv e
  have e := p_E_inv e
  obtain ⟨q, e1, e2⟩ := Option.bind_eq_some_iff.mp e
  have has : as = [.inl l0, .inl l1] := g_as2 hlen hh0 hh1
  subst has
  have hGo : g_Go M_m_isTerm retI (me M_m_isTerm) 0 (g_loc [.inl l0, .inl l1] (ml M_m_isTerm)) [] σ q := by
    have ht : g_Gd M_m_isTerm retI (me M_m_isTerm) 0 (t_m_isTerm m_lies) := (G_ldIn (n := 0) (nx := 1) (dc26 bs_m_isTerm (by decide +kernel)) rfl rfl (G_sw (dflt := 65) (lo := 0) (hi := 3) (offs := #[31, 40, 48, 56]) (len := 31) (td := 66) (by decide +kernel) (by decide +kernel)
  (List.forall_mem_cons.mpr ⟨⟨31, 32, by decide +kernel, by decide +kernel, by decide +kernel, by decide +kernel,
  (G_ldIn (n := 1) (nx := 33) (dc27 bs_m_isTerm (by decide +kernel)) rfl rfl (G_ic (n := 0) (nx := 34) (dc3 bs_m_isTerm (by decide +kernel)) icv_0 rfl (G_si (n := 999) (nx := 37) (dc17 (x := 3) (y := 231) bs_m_isTerm (by decide +kernel) (by decide +kernel)) siv_999 rfl (G_callS (b0 := 0) (nx := 40) (g_Fn_of rfl h_m_lies) (cw_10_132) wd6_74 rfl ⟨by decide, by show 3 ≤ 21; decide⟩ (Nat.zero_le _) (dc184 (x := 0) (y := 132) bs_m_isTerm (by decide +kernel) rfl) rfl (G_zret rfl (dc172 bs_m_isTerm (by decide +kernel)))))))⟩, List.forall_mem_cons.mpr ⟨⟨40, 41, by decide +kernel, by decide +kernel, by decide +kernel, by decide +kernel,
  (G_ldIn (n := 1) (nx := 42) (dc27 bs_m_isTerm (by decide +kernel)) rfl rfl (G_ic (n := 0) (nx := 43) (dc3 bs_m_isTerm (by decide +kernel)) icv_0 rfl (G_bi (n := 10) (nx := 45) (dc16 (x := 10) bs_m_isTerm (by decide +kernel) (by decide +kernel)) biv_10 rfl (G_callS (b0 := 0) (nx := 48) (g_Fn_of rfl h_m_lies) (cw_10_132) wd6_74 rfl ⟨by decide, by show 3 ≤ 21; decide⟩ (Nat.zero_le _) (dc184 (x := 0) (y := 132) bs_m_isTerm (by decide +kernel) rfl) rfl (G_zret rfl (dc172 bs_m_isTerm (by decide +kernel)))))))⟩, List.forall_mem_cons.mpr ⟨⟨48, 49, by decide +kernel, by decide +kernel, by decide +kernel, by decide +kernel,
  (G_ldIn (n := 1) (nx := 50) (dc27 bs_m_isTerm (by decide +kernel)) rfl rfl (G_ic (n := 0) (nx := 51) (dc3 bs_m_isTerm (by decide +kernel)) icv_0 rfl (G_bi (n := 9) (nx := 53) (dc16 (x := 9) bs_m_isTerm (by decide +kernel) (by decide +kernel)) biv_9 rfl (G_callS (b0 := 0) (nx := 56) (g_Fn_of rfl h_m_lies) (cw_10_132) wd6_74 rfl ⟨by decide, by show 3 ≤ 21; decide⟩ (Nat.zero_le _) (dc184 (x := 0) (y := 132) bs_m_isTerm (by decide +kernel) rfl) rfl (G_zret rfl (dc172 bs_m_isTerm (by decide +kernel)))))))⟩, List.forall_mem_cons.mpr ⟨⟨56, 57, by decide +kernel, by decide +kernel, by decide +kernel, by decide +kernel,
  (G_ldIn (n := 1) (nx := 58) (dc27 bs_m_isTerm (by decide +kernel)) rfl rfl (G_bi (n := 10) (nx := 60) (dc16 (x := 10) bs_m_isTerm (by decide +kernel) (by decide +kernel)) biv_10 rfl (G_bi (n := 60) (nx := 62) (dc16 (x := 60) bs_m_isTerm (by decide +kernel) (by decide +kernel)) biv_60 rfl (G_callS (b0 := 0) (nx := 65) (g_Fn_of rfl h_m_lies) (cw_10_132) wd6_74 rfl ⟨by decide, by show 3 ≤ 21; decide⟩ (Nat.zero_le _) (dc184 (x := 0) (y := 132) bs_m_isTerm (by decide +kernel) rfl) rfl (G_zret rfl (dc172 bs_m_isTerm (by decide +kernel)))))))⟩, fun _ h => absurd h List.not_mem_nil⟩⟩⟩⟩)
  (g_swall _ (by decide +kernel) rfl)
  (G_ic (n := 0) (nx := 67) (dc3 bs_m_isTerm (by decide +kernel)) icv_0 rfl (G_zret rfl (dc172 bs_m_isTerm (by decide +kernel))))))
    exact ht _ _ σ q ((e_m_isTerm m_lies σ l0 l1).symm.trans e1)
  exact g_meth (σ' := q.1) (v := some (.inl q.2)) (by decide) rfl hw hwf hok (Nat.le_of_ble_eq_true rfl) hGo (fun σ2 v2 h => retI_inv h) (by exact e2)

set_option maxRecDepth 100000 in
set_option maxHeartbeats 4000000 in
theorem h_m_termAt : g_Ft M_m_termAt yX10_termAt 1 (FW_m_termAt m_termAt) := by
  intro l w hw σ as hlen hwf hok ρ k r e
  unfold FW_m_termAt at e
  obtain ⟨l0, hh0, e⟩ := p_I_inv e
  have e := p_E_inv e
  obtain ⟨q, e1, e2⟩ := Option.bind_eq_some_iff.mp e
  have has : as = [.inl l0] := g_as1 hlen hh0
  subst has
  have hGo : g_Go M_m_termAt retI (me M_m_termAt) 0 (g_loc [.inl l0] (ml M_m_termAt)) [] σ q := by
    have ht : g_Gd M_m_termAt retI (me M_m_termAt) 0 (t_m_termAt) := (G_ldIn (n := 0) (nx := 1) (dc26 bs_m_termAt (by decide +kernel)) rfl rfl (G_ifne (off := 8) (tg := 9) (nf := 4) (dc154 (x := 0) (y := 8) bs_m_termAt (by decide +kernel) (by decide +kernel)) (by decide +kernel) rfl
  (G_bi (n := 14) (nx := 6) (dc16 (x := 14) bs_m_termAt (by decide +kernel) (by decide +kernel)) biv_14 rfl (G_goto (off := 25) (nx := 31) (dc167 (x := 0) (y := 25) bs_m_termAt (by decide +kernel) (by decide +kernel)) (by decide +kernel) (G_iret rfl (dc172 bs_m_termAt (by decide +kernel)))))
  (G_ldIn (n := 0) (nx := 10) (dc26 bs_m_termAt (by decide +kernel)) rfl rfl (G_ic (n := 1) (nx := 11) (dc4 bs_m_termAt (by decide +kernel)) icv_1 rfl (G_icmpne (off := 8) (tg := 19) (nf := 14) (dc160 (x := 0) (y := 8) bs_m_termAt (by decide +kernel) (by decide +kernel)) (by decide +kernel) rfl
    (G_bi (n := 51) (nx := 16) (dc16 (x := 51) bs_m_termAt (by decide +kernel) (by decide +kernel)) biv_51 rfl (G_goto (off := 15) (nx := 31) (dc167 (x := 0) (y := 15) bs_m_termAt (by decide +kernel) (by decide +kernel)) (by decide +kernel) (G_iret rfl (dc172 bs_m_termAt (by decide +kernel)))))
    (G_ldIn (n := 0) (nx := 20) (dc26 bs_m_termAt (by decide +kernel)) rfl rfl (G_ic (n := 2) (nx := 21) (dc5 bs_m_termAt (by decide +kernel)) icv_2 rfl (G_icmpne (off := 8) (tg := 29) (nf := 24) (dc160 (x := 0) (y := 8) bs_m_termAt (by decide +kernel) (by decide +kernel)) (by decide +kernel) rfl
      (G_bi (n := 52) (nx := 26) (dc16 (x := 52) bs_m_termAt (by decide +kernel) (by decide +kernel)) biv_52 rfl (G_goto (off := 5) (nx := 31) (dc167 (x := 0) (y := 5) bs_m_termAt (by decide +kernel) (by decide +kernel)) (by decide +kernel) (G_iret rfl (dc172 bs_m_termAt (by decide +kernel)))))
      (G_bi (n := 53) (nx := 31) (dc16 (x := 53) bs_m_termAt (by decide +kernel) (by decide +kernel)) biv_53 rfl (G_iret rfl (dc172 bs_m_termAt (by decide +kernel))))))))))))
    exact ht _ _ σ q ((e_m_termAt  σ l0).symm.trans e1)
  exact g_meth (σ' := q.1) (v := some (.inl q.2)) (by decide) rfl hw hwf hok (Nat.le_of_ble_eq_true rfl) hGo (fun σ2 v2 h => retI_inv h) (by exact e2)

set_option maxRecDepth 100000 in
set_option maxHeartbeats 4000000 in
theorem h_m_terms : g_Ft M_m_terms yX10_terms 3 (FW_m_terms m_terms) := by
  intro l w hw σ as hlen hwf hok ρ k r e
  unfold FW_m_terms at e
  obtain ⟨hh0, e⟩ := p_C_inv e
  obtain ⟨l1, hh1, e⟩ := p_I_inv e
  obtain ⟨l2, hh2, e⟩ := p_I_inv e
  have e := p_E_inv e
  obtain ⟨q, e1, e2⟩ := Option.bind_eq_some_iff.mp e
  have has : as = [.inr (.inr (some (10, 0))), .inl l1, .inl l2] := g_as3 hlen hh0 hh1 hh2
  subst has
  have hGo : g_Go M_m_terms retI (me M_m_terms) 0 (g_loc [.inr (.inr (some (10, 0))), .inl l1, .inl l2] (ml M_m_terms)) [] σ q := by
    have ht : g_Gd M_m_terms retI (me M_m_terms) 0 (t_m_terms m_isTerm m_refuses m_termAt m_settled) := (G_ldIn (n := 1) (nx := 1) (dc27 bs_m_terms (by decide +kernel)) rfl rfl (G_ldIn (n := 2) (nx := 2) (dc28 bs_m_terms (by decide +kernel)) rfl rfl (G_callS (b0 := 0) (nx := 5) (g_Fn_of rfl h_m_isTerm) (cw_10_170) wd6_131 rfl ⟨by decide, by show 2 ≤ 21; decide⟩ (Nat.zero_le _) (dc184 (x := 0) (y := 170) bs_m_terms (by decide +kernel) rfl) rfl (G_ifne (off := 9) (tg := 14) (nf := 8) (dc154 (x := 0) (y := 9) bs_m_terms (by decide +kernel) (by decide +kernel)) (by decide +kernel) rfl
  (G_ldAn (n := 0) (nx := 9) (dc42 bs_m_terms (by decide +kernel)) rfl rfl (G_ic (n := -1) (nx := 10) (dc2 bs_m_terms (by decide +kernel)) icv_m1 rfl (G_callV (b0 := 0) (nx := 13) (T := TX10) (ci := 10) (g_Fn_of rfl h_m_refuses) (cw_10_136) ⟨wd6_78, sel_GalleyRoomModel_refuses__I_I⟩ ⟨rfl, rfl⟩ ⟨by decide, by show 2 ≤ 21; decide⟩ (Nat.zero_le _) (rec_m_refuses _) (dc182 (x := 0) (y := 136) bs_m_terms (by decide +kernel) rfl) rfl (G_iret rfl (dc172 bs_m_terms (by decide +kernel))))))
  (G_ldAn (n := 0) (nx := 15) (dc42 bs_m_terms (by decide +kernel)) rfl rfl (G_getRc (nx := 18) fl_10_24 rf_10_2 (dc180 (x := 0) (y := 24) bs_m_terms (by decide +kernel) rfl) rfl (G_ldIn (n := 1) (nx := 19) (dc27 bs_m_terms (by decide +kernel)) rfl rfl (G_callS (b0 := 0) (nx := 22) (g_Fn_of rfl h_m_termAt) (cw_10_173) wd6_134 rfl ⟨by decide, by show 1 ≤ 21; decide⟩ (Nat.zero_le _) (dc184 (x := 0) (y := 173) bs_m_terms (by decide +kernel) rfl) rfl (G_iald (nx := 23) ak_43 (dc46 bs_m_terms (by decide +kernel)) rfl (G_stIn (n := 3) (nx := 24) (by show 3 < 4; decide) (dc62 bs_m_terms (by decide +kernel)) rfl rfl (G_ldAn (n := 0) (nx := 25) (dc42 bs_m_terms (by decide +kernel)) rfl rfl (G_getRc (nx := 28) fl_10_24 rf_10_2 (dc180 (x := 0) (y := 24) bs_m_terms (by decide +kernel) rfl) rfl (G_ldIn (n := 1) (nx := 29) (dc27 bs_m_terms (by decide +kernel)) rfl rfl (G_callS (b0 := 0) (nx := 32) (g_Fn_of rfl h_m_termAt) (cw_10_173) wd6_134 rfl ⟨by decide, by show 1 ≤ 21; decide⟩ (Nat.zero_le _) (dc184 (x := 0) (y := 173) bs_m_terms (by decide +kernel) rfl) rfl (G_ldIn (n := 2) (nx := 33) (dc28 bs_m_terms (by decide +kernel)) rfl rfl (G_iast (nx := 34) ak_43 (by decide) (dc79 bs_m_terms (by decide +kernel)) rfl (G_ldAn (n := 0) (nx := 35) (dc42 bs_m_terms (by decide +kernel)) rfl rfl (G_ldIn (n := 3) (nx := 36) (dc29 bs_m_terms (by decide +kernel)) rfl rfl (G_callV (b0 := 0) (nx := 39) (T := TX10) (ci := 10) (g_Fn_of rfl h_m_settled) (cw_10_139) ⟨wd6_90, sel_GalleyRoomModel_settled__I_I⟩ ⟨rfl, rfl⟩ ⟨by decide, by show 2 ≤ 21; decide⟩ (Nat.zero_le _) (rec_m_settled _) (dc182 (x := 0) (y := 139) bs_m_terms (by decide +kernel) rfl) rfl (G_iret rfl (dc172 bs_m_terms (by decide +kernel))))))))))))))))))))))
    exact ht _ _ σ q ((e_m_terms m_isTerm m_refuses m_termAt m_settled σ l1 l2).symm.trans e1)
  exact g_meth (σ' := q.1) (v := some (.inl q.2)) (by decide) rfl hw hwf hok (Nat.le_of_ble_eq_true rfl) hGo (fun σ2 v2 h => retI_inv h) (by exact e2)

set_option maxRecDepth 100000 in
set_option maxHeartbeats 4000000 in
theorem B_m_row_b133 (K40 : Sg → Int32 → Int32 → Int32 → Option (Sg × Int32)) (hK40 : ∀ (s : Sg) (l1 : Int32) (l2 : Int32) (l3 : Int32) (r : (Sg × Int32)), K40 s l1 l2 l3 = some r → g_Go M_m_row retI 0 40 [some (.inr (.inr (some (10, 0)))), some (.inl l1), some (.inl l2), some (.inl l3), none] [] s r) (s : Sg) (l1 : Int32) (l3 : Int32) (l4 : Int32) (y0 : Int32) (y1 : Int32) (r : (Sg × Int32)) (h : m_row_b133 K40 s l1 l3 l4 y0 y1 = some r) : g_Go M_m_row retI 0 133 [some (.inr (.inr (some (10, 0)))), some (.inl l1), none, some (.inl l3), some (.inl l4)] [.inl y1, .inl y0] s r := by
  have ht : g_Gd M_m_row retI 0 133 (t_m_row_b133 K40) := (G_iadd (nx := 134) (dc96 bs_m_row (by decide +kernel)) rfl (G_stIn (n := 2) (nx := 135) (by show 2 < 5; decide) (dc61 bs_m_row (by decide +kernel)) rfl rfl (G_ldAn (n := 0) (nx := 136) (dc42 bs_m_row (by decide +kernel)) rfl rfl (G_dup (nx := 137) (dc89 bs_m_row (by decide +kernel)) rfl (G_getI (nx := 140) fl_10_179 (Or.inl rfl) (dc180 (x := 0) (y := 179) bs_m_row (by decide +kernel) rfl) rfl (G_ldI (nx := 142) (dc21 (x := 4) bs_m_row (by decide +kernel)) rfl (G_ifeq (off := 7) (tg := 149) (nf := 145) (dc153 (x := 0) (y := 7) bs_m_row (by decide +kernel) (by decide +kernel)) (by decide +kernel) rfl
    (G_ic (n := 1) (nx := 150) (dc4 bs_m_row (by decide +kernel)) icv_1 rfl (G_iadd (nx := 151) (dc96 bs_m_row (by decide +kernel)) rfl (G_putI (nx := 154) fp_10_179 rfl (dc181 (x := 0) (y := 179) bs_m_row (by decide +kernel) rfl) rfl (G_inc (n := 3) (nx := 157) (by show 3 < 5; decide) (dc132 (x := 3) (y := 3) bs_m_row (by decide +kernel) (by decide +kernel)) icv_3 rfl (G_goto (off := -117) (nx := 40) (dc167 (x := 255) (y := 139) bs_m_row (by decide +kernel) (by decide +kernel)) (by decide +kernel) (G_lbl (Gp_C <| Gp_I fun a1 => Gp_I fun a2 => Gp_I fun a3 => Gp_E fun s r h => hK40 s a1 a2 a3 r h)))))))
    (G_ic (n := 0) (nx := 146) (dc3 bs_m_row (by decide +kernel)) icv_0 rfl (G_goto (off := 4) (nx := 150) (dc167 (x := 0) (y := 4) bs_m_row (by decide +kernel) (by decide +kernel)) (by decide +kernel) (G_iadd (nx := 151) (dc96 bs_m_row (by decide +kernel)) rfl (G_putI (nx := 154) fp_10_179 rfl (dc181 (x := 0) (y := 179) bs_m_row (by decide +kernel) rfl) rfl (G_inc (n := 3) (nx := 157) (by show 3 < 5; decide) (dc132 (x := 3) (y := 3) bs_m_row (by decide +kernel) (by decide +kernel)) icv_3 rfl (G_goto (off := -117) (nx := 40) (dc167 (x := 255) (y := 139) bs_m_row (by decide +kernel) (by decide +kernel)) (by decide +kernel) (G_lbl (Gp_C <| Gp_I fun a1 => Gp_I fun a2 => Gp_I fun a3 => Gp_E fun s r h => hK40 s a1 a2 a3 r h)))))))))))))))
  exact ht _ _ s r ((e_m_row_b133 K40 s l1 l3 l4 y0 y1).symm.trans h)

set_option maxRecDepth 100000 in
set_option maxHeartbeats 4000000 in
theorem B_m_row_b89 (K40 : Sg → Int32 → Int32 → Int32 → Option (Sg × Int32)) (hK40 : ∀ (s : Sg) (l1 : Int32) (l2 : Int32) (l3 : Int32) (r : (Sg × Int32)), K40 s l1 l2 l3 = some r → g_Go M_m_row retI 0 40 [some (.inr (.inr (some (10, 0)))), some (.inl l1), some (.inl l2), some (.inl l3), none] [] s r) (s : Sg) (l1 : Int32) (l2 : Int32) (l3 : Int32) (y0 : Int32) (r : (Sg × Int32)) (h : m_row_b89 K40 s l1 l2 l3 y0 = some r) : g_Go M_m_row retI 0 89 [some (.inr (.inr (some (10, 0)))), some (.inl l1), some (.inl l2), some (.inl l3), none] [.inl y0] s r := by
  have ht : g_Gd M_m_row retI 0 89 (t_m_row_b89 (m_row_b133 K40) m_adds) := (G_stI (nx := 91) (by show 4 < 5; decide) (dc54 (x := 4) bs_m_row (by decide +kernel)) rfl (G_ldI (nx := 93) (dc21 (x := 4) bs_m_row (by decide +kernel)) rfl (G_ifeq (off := 29) (tg := 122) (nf := 96) (dc153 (x := 0) (y := 29) bs_m_row (by decide +kernel) (by decide +kernel)) (by decide +kernel) rfl
    (G_ldIn (n := 2) (nx := 123) (dc28 bs_m_row (by decide +kernel)) rfl rfl (G_ldI (nx := 125) (dc21 (x := 4) bs_m_row (by decide +kernel)) rfl (G_ifeq (off := 7) (tg := 132) (nf := 128) (dc153 (x := 0) (y := 7) bs_m_row (by decide +kernel) (by decide +kernel)) (by decide +kernel) rfl
      (G_ic (n := 0) (nx := 133) (dc3 bs_m_row (by decide +kernel)) icv_0 rfl (G_lbl (Gp_C <| Gp_I fun a1 => Gp_I fun a3 => Gp_I fun a4 => Gq_I fun b1 => Gq_I fun b0 => Gp_E fun s r h => B_m_row_b133 K40 hK40 s a1 a3 a4 b0 b1 r h)))
      (G_ic (n := 1) (nx := 129) (dc4 bs_m_row (by decide +kernel)) icv_1 rfl (G_goto (off := 4) (nx := 133) (dc167 (x := 0) (y := 4) bs_m_row (by decide +kernel) (by decide +kernel)) (by decide +kernel) (G_lbl (Gp_C <| Gp_I fun a1 => Gp_I fun a3 => Gp_I fun a4 => Gq_I fun b1 => Gq_I fun b0 => Gp_E fun s r h => B_m_row_b133 K40 hK40 s a1 a3 a4 b0 b1 r h)))))))
    (G_ldAn (n := 0) (nx := 97) (dc42 bs_m_row (by decide +kernel)) rfl rfl (G_ldAn (n := 0) (nx := 98) (dc42 bs_m_row (by decide +kernel)) rfl rfl (G_getRc (nx := 101) fl_10_41 rf_10_11 (dc180 (x := 0) (y := 41) bs_m_row (by decide +kernel) rfl) rfl (G_ldIn (n := 3) (nx := 102) (dc29 bs_m_row (by decide +kernel)) rfl rfl (G_bald (nx := 103) ak_48 (dc51 bs_m_row (by decide +kernel)) rfl (G_ldAn (n := 0) (nx := 104) (dc42 bs_m_row (by decide +kernel)) rfl rfl (G_getRc (nx := 107) fl_10_41 rf_10_11 (dc180 (x := 0) (y := 41) bs_m_row (by decide +kernel) rfl) rfl (G_ldIn (n := 3) (nx := 108) (dc29 bs_m_row (by decide +kernel)) rfl rfl (G_ic (n := 1) (nx := 109) (dc4 bs_m_row (by decide +kernel)) icv_1 rfl (G_iadd (nx := 110) (dc96 bs_m_row (by decide +kernel)) rfl (G_bald (nx := 111) ak_48 (dc51 bs_m_row (by decide +kernel)) rfl (G_ldAn (n := 0) (nx := 112) (dc42 bs_m_row (by decide +kernel)) rfl rfl (G_getRc (nx := 115) fl_10_41 rf_10_11 (dc180 (x := 0) (y := 41) bs_m_row (by decide +kernel) rfl) rfl (G_ldIn (n := 3) (nx := 116) (dc29 bs_m_row (by decide +kernel)) rfl rfl (G_ic (n := 2) (nx := 117) (dc5 bs_m_row (by decide +kernel)) icv_2 rfl (G_iadd (nx := 118) (dc96 bs_m_row (by decide +kernel)) rfl (G_bald (nx := 119) ak_48 (dc51 bs_m_row (by decide +kernel)) rfl (G_callV (b0 := 0) (nx := 122) (T := TX10) (ci := 10) (g_Fn_of rfl h_m_adds) (cw_10_157) ⟨wd6_101, sel_GalleyRoomModel_adds__III_V⟩ ⟨rfl, rfl⟩ ⟨by decide, by show 5 ≤ 21; decide⟩ (Nat.zero_le _) (rec_m_adds _) (dc182 (x := 0) (y := 157) bs_m_row (by decide +kernel) rfl) rfl (G_ldIn (n := 2) (nx := 123) (dc28 bs_m_row (by decide +kernel)) rfl rfl (G_ldI (nx := 125) (dc21 (x := 4) bs_m_row (by decide +kernel)) rfl (G_ifeq (off := 7) (tg := 132) (nf := 128) (dc153 (x := 0) (y := 7) bs_m_row (by decide +kernel) (by decide +kernel)) (by decide +kernel) rfl
      (G_ic (n := 0) (nx := 133) (dc3 bs_m_row (by decide +kernel)) icv_0 rfl (G_lbl (Gp_C <| Gp_I fun a1 => Gp_I fun a3 => Gp_I fun a4 => Gq_I fun b1 => Gq_I fun b0 => Gp_E fun s r h => B_m_row_b133 K40 hK40 s a1 a3 a4 b0 b1 r h)))
      (G_ic (n := 1) (nx := 129) (dc4 bs_m_row (by decide +kernel)) icv_1 rfl (G_goto (off := 4) (nx := 133) (dc167 (x := 0) (y := 4) bs_m_row (by decide +kernel) (by decide +kernel)) (by decide +kernel) (G_lbl (Gp_C <| Gp_I fun a1 => Gp_I fun a3 => Gp_I fun a4 => Gq_I fun b1 => Gq_I fun b0 => Gp_E fun s r h => B_m_row_b133 K40 hK40 s a1 a3 a4 b0 b1 r h))))))))))))))))))))))))))))
  exact ht _ _ s r ((e_m_row_b89 (m_row_b133 K40) m_adds s l1 l2 l3 y0).symm.trans h)

set_option maxRecDepth 100000 in
set_option maxHeartbeats 4000000 in
theorem B_m_row_b40 : ∀ (n : Nat) (s : Sg) (l1 : Int32) (l2 : Int32) (l3 : Int32) (r : (Sg × Int32)), m_row_b40 n s l1 l2 l3 = some r → g_Go M_m_row retI 0 40 [some (.inr (.inr (some (10, 0)))), some (.inl l1), some (.inl l2), some (.inl l3), none] [] s r := by
  intro n
  induction n with
  | zero => intro s l1 l2 l3 r h; cases h
  | succ n hK40 =>
    intro s l1 l2 l3 r h
    have ht : g_Gd M_m_row retI 0 40 (t_m_row_b40 (m_row_b89 (m_row_b40 n)) m_wordMany m_canWord m_settled) := (G_ldIn (n := 3) (nx := 41) (dc29 bs_m_row (by decide +kernel)) rfl rfl (G_ic (n := 3) (nx := 42) (dc6 bs_m_row (by decide +kernel)) icv_3 rfl (G_iadd (nx := 43) (dc96 bs_m_row (by decide +kernel)) rfl (G_ldIn (n := 1) (nx := 44) (dc27 bs_m_row (by decide +kernel)) rfl rfl (G_icmpgt (off := 116) (tg := 160) (nf := 47) (dc163 (x := 0) (y := 116) bs_m_row (by decide +kernel) (by decide +kernel)) (by decide +kernel) rfl
    (G_ldAn (n := 0) (nx := 161) (dc42 bs_m_row (by decide +kernel)) rfl rfl (G_ldIn (n := 2) (nx := 162) (dc28 bs_m_row (by decide +kernel)) rfl rfl (G_callV (b0 := 0) (nx := 165) (T := TX10) (ci := 10) (g_Fn_of rfl h_m_settled) (cw_10_139) ⟨wd6_90, sel_GalleyRoomModel_settled__I_I⟩ ⟨rfl, rfl⟩ ⟨by decide, by show 2 ≤ 21; decide⟩ (Nat.zero_le _) (rec_m_settled _) (dc182 (x := 0) (y := 139) bs_m_row (by decide +kernel) rfl) rfl (G_iret rfl (dc172 bs_m_row (by decide +kernel))))))
    (G_ldAn (n := 0) (nx := 48) (dc42 bs_m_row (by decide +kernel)) rfl rfl (G_callV (b0 := 0) (nx := 51) (T := TX10) (ci := 10) (g_Fn_of rfl h_m_wordMany) (cw_10_142) ⟨wd5_102, sel_GalleyRoomModel_wordMany___I⟩ ⟨rfl, rfl⟩ ⟨by decide, by show 1 ≤ 21; decide⟩ (Nat.zero_le _) (rec_m_wordMany _) (dc182 (x := 0) (y := 142) bs_m_row (by decide +kernel) rfl) rfl (G_bi (n := 12) (nx := 53) (dc16 (x := 12) bs_m_row (by decide +kernel) (by decide +kernel)) biv_12 rfl (G_icmpge (off := 35) (tg := 88) (nf := 56) (dc162 (x := 0) (y := 35) bs_m_row (by decide +kernel) (by decide +kernel)) (by decide +kernel) rfl
      (G_ldAn (n := 0) (nx := 57) (dc42 bs_m_row (by decide +kernel)) rfl rfl (G_getRc (nx := 60) fl_10_41 rf_10_11 (dc180 (x := 0) (y := 41) bs_m_row (by decide +kernel) rfl) rfl (G_ldIn (n := 3) (nx := 61) (dc29 bs_m_row (by decide +kernel)) rfl rfl (G_bald (nx := 62) ak_48 (dc51 bs_m_row (by decide +kernel)) rfl (G_ldAn (n := 0) (nx := 63) (dc42 bs_m_row (by decide +kernel)) rfl rfl (G_getRc (nx := 66) fl_10_41 rf_10_11 (dc180 (x := 0) (y := 41) bs_m_row (by decide +kernel) rfl) rfl (G_ldIn (n := 3) (nx := 67) (dc29 bs_m_row (by decide +kernel)) rfl rfl (G_ic (n := 1) (nx := 68) (dc4 bs_m_row (by decide +kernel)) icv_1 rfl (G_iadd (nx := 69) (dc96 bs_m_row (by decide +kernel)) rfl (G_bald (nx := 70) ak_48 (dc51 bs_m_row (by decide +kernel)) rfl (G_ldAn (n := 0) (nx := 71) (dc42 bs_m_row (by decide +kernel)) rfl rfl (G_getRc (nx := 74) fl_10_41 rf_10_11 (dc180 (x := 0) (y := 41) bs_m_row (by decide +kernel) rfl) rfl (G_ldIn (n := 3) (nx := 75) (dc29 bs_m_row (by decide +kernel)) rfl rfl (G_ic (n := 2) (nx := 76) (dc5 bs_m_row (by decide +kernel)) icv_2 rfl (G_iadd (nx := 77) (dc96 bs_m_row (by decide +kernel)) rfl (G_bald (nx := 78) ak_48 (dc51 bs_m_row (by decide +kernel)) rfl (G_callS (b0 := 0) (nx := 81) (g_Fn_of rfl h_m_canWord) (cw_10_154) wd6_97 rfl ⟨by decide, by show 3 ≤ 21; decide⟩ (Nat.zero_le _) (dc184 (x := 0) (y := 154) bs_m_row (by decide +kernel) rfl) rfl (G_ifeq (off := 7) (tg := 88) (nf := 84) (dc153 (x := 0) (y := 7) bs_m_row (by decide +kernel) (by decide +kernel)) (by decide +kernel) rfl
        (G_ic (n := 0) (nx := 89) (dc3 bs_m_row (by decide +kernel)) icv_0 rfl (G_lbl (Gp_C <| Gp_I fun a1 => Gp_I fun a2 => Gp_I fun a3 => Gq_I fun b0 => Gp_E fun s r h => B_m_row_b89 (m_row_b40 n) hK40 s a1 a2 a3 b0 r h)))
        (G_ic (n := 1) (nx := 85) (dc4 bs_m_row (by decide +kernel)) icv_1 rfl (G_goto (off := 4) (nx := 89) (dc167 (x := 0) (y := 4) bs_m_row (by decide +kernel) (by decide +kernel)) (by decide +kernel) (G_lbl (Gp_C <| Gp_I fun a1 => Gp_I fun a2 => Gp_I fun a3 => Gq_I fun b0 => Gp_E fun s r h => B_m_row_b89 (m_row_b40 n) hK40 s a1 a2 a3 b0 r h))))))))))))))))))))))
      (G_ic (n := 0) (nx := 89) (dc3 bs_m_row (by decide +kernel)) icv_0 rfl (G_lbl (Gp_C <| Gp_I fun a1 => Gp_I fun a2 => Gp_I fun a3 => Gq_I fun b0 => Gp_E fun s r h => B_m_row_b89 (m_row_b40 n) hK40 s a1 a2 a3 b0 r h))))))))))))
    exact ht _ _ s r ((e_m_row_b40 (m_row_b89 (m_row_b40 n)) m_wordMany m_canWord m_settled s l1 l2 l3).symm.trans h)

set_option maxRecDepth 100000 in
set_option maxHeartbeats 4000000 in
theorem h_m_row : g_Ft M_m_row yX10_row 1 (FW_m_row m_row) := by
  intro l w hw σ as hlen hwf hok ρ k r e
  unfold FW_m_row at e
  obtain ⟨hh0, e⟩ := p_C_inv e
  have e := p_E_inv e
  obtain ⟨q, e1, e2⟩ := Option.bind_eq_some_iff.mp e
  have has : as = [.inr (.inr (some (10, 0)))] := g_as1 hlen hh0
  subst has
  have hGo : g_Go M_m_row retI (me M_m_row) 0 (g_loc [.inr (.inr (some (10, 0)))] (ml M_m_row)) [] σ q := by
    have ht : g_Gd M_m_row retI (me M_m_row) 0 (t_m_row (m_row_b40 FU) m_refuses) := (G_ldAn (n := 0) (nx := 1) (dc42 bs_m_row (by decide +kernel)) rfl rfl (G_getI (nx := 4) fl_10_176 (Or.inl rfl) (dc180 (x := 0) (y := 176) bs_m_row (by decide +kernel) rfl) rfl (G_stIn (n := 1) (nx := 5) (by show 1 < 5; decide) (dc60 bs_m_row (by decide +kernel)) rfl rfl (G_ldAn (n := 0) (nx := 6) (dc42 bs_m_row (by decide +kernel)) rfl rfl (G_ic (n := 0) (nx := 7) (dc3 bs_m_row (by decide +kernel)) icv_0 rfl (G_putI (nx := 10) fp_10_176 rfl (dc181 (x := 0) (y := 176) bs_m_row (by decide +kernel) rfl) rfl (G_ldIn (n := 1) (nx := 11) (dc27 bs_m_row (by decide +kernel)) rfl rfl (G_ifne (off := 10) (tg := 21) (nf := 14) (dc154 (x := 0) (y := 10) bs_m_row (by decide +kernel) (by decide +kernel)) (by decide +kernel) rfl
  (G_ldAn (n := 0) (nx := 15) (dc42 bs_m_row (by decide +kernel)) rfl rfl (G_bi (n := -6) (nx := 17) (dc16 (x := 250) bs_m_row (by decide +kernel) (by decide +kernel)) biv_m6 rfl (G_callV (b0 := 0) (nx := 20) (T := TX10) (ci := 10) (g_Fn_of rfl h_m_refuses) (cw_10_136) ⟨wd6_78, sel_GalleyRoomModel_refuses__I_I⟩ ⟨rfl, rfl⟩ ⟨by decide, by show 2 ≤ 21; decide⟩ (Nat.zero_le _) (rec_m_refuses _) (dc182 (x := 0) (y := 136) bs_m_row (by decide +kernel) rfl) rfl (G_iret rfl (dc172 bs_m_row (by decide +kernel))))))
  (G_ic (n := 0) (nx := 22) (dc3 bs_m_row (by decide +kernel)) icv_0 rfl (G_stIn (n := 2) (nx := 23) (by show 2 < 5; decide) (dc61 bs_m_row (by decide +kernel)) rfl rfl (G_ldAn (n := 0) (nx := 24) (dc42 bs_m_row (by decide +kernel)) rfl rfl (G_ldIn (n := 1) (nx := 25) (dc27 bs_m_row (by decide +kernel)) rfl rfl (G_ic (n := 3) (nx := 26) (dc6 bs_m_row (by decide +kernel)) icv_3 rfl (G_irem (nx := 27) (dc112 bs_m_row (by decide +kernel)) rfl (G_ifne (off := 7) (tg := 34) (nf := 30) (dc154 (x := 0) (y := 7) bs_m_row (by decide +kernel) (by decide +kernel)) (by decide +kernel) rfl
    (G_ic (n := 0) (nx := 31) (dc3 bs_m_row (by decide +kernel)) icv_0 rfl (G_goto (off := 4) (nx := 35) (dc167 (x := 0) (y := 4) bs_m_row (by decide +kernel) (by decide +kernel)) (by decide +kernel) (G_putI (nx := 38) fp_10_179 rfl (dc181 (x := 0) (y := 179) bs_m_row (by decide +kernel) rfl) rfl (G_ic (n := 0) (nx := 39) (dc3 bs_m_row (by decide +kernel)) icv_0 rfl (G_stIn (n := 3) (nx := 40) (by show 3 < 5; decide) (dc62 bs_m_row (by decide +kernel)) rfl rfl (G_lbl (Gp_C <| Gp_I fun a1 => Gp_I fun a2 => Gp_I fun a3 => Gp_E fun s r h => B_m_row_b40 FU s a1 a2 a3 r h)))))))
    (G_ic (n := 1) (nx := 35) (dc4 bs_m_row (by decide +kernel)) icv_1 rfl (G_putI (nx := 38) fp_10_179 rfl (dc181 (x := 0) (y := 179) bs_m_row (by decide +kernel) rfl) rfl (G_ic (n := 0) (nx := 39) (dc3 bs_m_row (by decide +kernel)) icv_0 rfl (G_stIn (n := 3) (nx := 40) (by show 3 < 5; decide) (dc62 bs_m_row (by decide +kernel)) rfl rfl (G_lbl (Gp_C <| Gp_I fun a1 => Gp_I fun a2 => Gp_I fun a3 => Gp_E fun s r h => B_m_row_b40 FU s a1 a2 a3 r h)))))))))))))))))))))
    exact ht _ _ σ q ((e_m_row (m_row_b40 FU) m_refuses σ ).symm.trans e1)
  exact g_meth (σ' := q.1) (v := some (.inl q.2)) (by decide) rfl hw hwf hok (Nat.le_of_ble_eq_true rfl) hGo (fun σ2 v2 h => retI_inv h) (by exact e2)

set_option maxRecDepth 100000 in
set_option maxHeartbeats 4000000 in
theorem h_m_turned : g_Ft M_m_turned yX10_turned 1 (FW_m_turned m_turned) := by
  intro l w hw σ as hlen hwf hok ρ k r e
  unfold FW_m_turned at e
  obtain ⟨hh0, e⟩ := p_C_inv e
  have e := p_E_inv e
  obtain ⟨q, e1, e2⟩ := Option.bind_eq_some_iff.mp e
  have has : as = [.inr (.inr (some (10, 0)))] := g_as1 hlen hh0
  subst has
  have hGo : g_Go M_m_turned retI (me M_m_turned) 0 (g_loc [.inr (.inr (some (10, 0)))] (ml M_m_turned)) [] σ q := by
    have ht : g_Gd M_m_turned retI (me M_m_turned) 0 (t_m_turned) := (G_ldAn (n := 0) (nx := 1) (dc42 bs_m_turned (by decide +kernel)) rfl rfl (G_getI (nx := 4) fl_10_179 (Or.inl rfl) (dc180 (x := 0) (y := 179) bs_m_turned (by decide +kernel) rfl) rfl (G_iret rfl (dc172 bs_m_turned (by decide +kernel)))))
    exact ht _ _ σ q ((e_m_turned  σ ).symm.trans e1)
  exact g_meth (σ' := q.1) (v := some (.inl q.2)) (by decide) rfl hw hwf hok (Nat.le_of_ble_eq_true rfl) hGo (fun σ2 v2 h => retI_inv h) (by exact e2)

set_option maxRecDepth 100000 in
set_option maxHeartbeats 4000000 in
theorem B_m_feed_b55 : ∀ (n : Nat) (s : Sg) (l6 : Int32) (r : (Sg × Int32)), m_feed_b55 n s l6 = some r → g_Go M_m_feed retI 0 55 [some (.inr (.inr (some (10, 0)))), none, none, none, none, none, some (.inl l6)] [] s r := by
  intro n
  induction n with
  | zero => intro s l6 r h; cases h
  | succ n hK55 =>
    intro s l6 r h
    have ht : g_Gd M_m_feed retI 0 55 (t_m_feed_b55 (m_feed_b55 n)) := (G_ldI (nx := 57) (dc21 (x := 6) bs_m_feed (by decide +kernel)) rfl (G_bi (n := 20) (nx := 59) (dc16 (x := 20) bs_m_feed (by decide +kernel) (by decide +kernel)) biv_20 rfl (G_icmpge (off := 42) (tg := 101) (nf := 62) (dc162 (x := 0) (y := 42) bs_m_feed (by decide +kernel) (by decide +kernel)) (by decide +kernel) rfl
    (G_ldAn (n := 0) (nx := 63) (dc42 bs_m_feed (by decide +kernel)) rfl rfl (G_getRc (nx := 66) fl_10_41 rf_10_11 (dc180 (x := 0) (y := 41) bs_m_feed (by decide +kernel) rfl) rfl (G_ldAn (n := 0) (nx := 67) (dc42 bs_m_feed (by decide +kernel)) rfl rfl (G_getI (nx := 70) fl_10_176 (Or.inl rfl) (dc180 (x := 0) (y := 176) bs_m_feed (by decide +kernel) rfl) rfl (G_ldI (nx := 72) (dc21 (x := 6) bs_m_feed (by decide +kernel)) rfl (G_iadd (nx := 73) (dc96 bs_m_feed (by decide +kernel)) rfl (G_ldAn (n := 0) (nx := 74) (dc42 bs_m_feed (by decide +kernel)) rfl rfl (G_getRc (nx := 77) fl_10_44 rf_10_12 (dc180 (x := 0) (y := 44) bs_m_feed (by decide +kernel) rfl) rfl (G_ldI (nx := 79) (dc21 (x := 6) bs_m_feed (by decide +kernel)) rfl (G_ic (n := 4) (nx := 80) (dc7 bs_m_feed (by decide +kernel)) icv_4 rfl (G_idiv (nx := 81) (dc108 bs_m_feed (by decide +kernel)) rfl (G_iald (nx := 82) ak_49 (dc46 bs_m_feed (by decide +kernel)) rfl (G_bi (n := 24) (nx := 84) (dc16 (x := 24) bs_m_feed (by decide +kernel) (by decide +kernel)) biv_24 rfl (G_bi (n := 8) (nx := 86) (dc16 (x := 8) bs_m_feed (by decide +kernel) (by decide +kernel)) biv_8 rfl (G_ldI (nx := 88) (dc21 (x := 6) bs_m_feed (by decide +kernel)) rfl (G_ic (n := 4) (nx := 89) (dc7 bs_m_feed (by decide +kernel)) icv_4 rfl (G_irem (nx := 90) (dc112 bs_m_feed (by decide +kernel)) rfl (G_imul (nx := 91) (dc104 bs_m_feed (by decide +kernel)) rfl (G_isub (nx := 92) (dc100 bs_m_feed (by decide +kernel)) rfl (G_ishr (nx := 93) (dc122 bs_m_feed (by decide +kernel)) rfl (G_i2b (nx := 94) (dc145 bs_m_feed (by decide +kernel)) rfl (G_bast (nx := 95) ak_48 (by decide) (dc84 bs_m_feed (by decide +kernel)) rfl (G_inc (n := 1) (nx := 98) (by show 6 < 7; decide) (dc132 (x := 6) (y := 1) bs_m_feed (by decide +kernel) (by decide +kernel)) icv_1 rfl (G_goto (off := -43) (nx := 55) (dc167 (x := 255) (y := 213) bs_m_feed (by decide +kernel) (by decide +kernel)) (by decide +kernel) (G_lbl (Gp_C <| Gp_I fun a6 => Gp_E fun s r h => hK55 s a6 r h))))))))))))))))))))))))))
    (G_ldAn (n := 0) (nx := 102) (dc42 bs_m_feed (by decide +kernel)) rfl rfl (G_dup (nx := 103) (dc89 bs_m_feed (by decide +kernel)) rfl (G_getI (nx := 106) fl_10_176 (Or.inl rfl) (dc180 (x := 0) (y := 176) bs_m_feed (by decide +kernel) rfl) rfl (G_bi (n := 20) (nx := 108) (dc16 (x := 20) bs_m_feed (by decide +kernel) (by decide +kernel)) biv_20 rfl (G_iadd (nx := 109) (dc96 bs_m_feed (by decide +kernel)) rfl (G_putI (nx := 112) fp_10_176 rfl (dc181 (x := 0) (y := 176) bs_m_feed (by decide +kernel) rfl) rfl (G_ldAn (n := 0) (nx := 113) (dc42 bs_m_feed (by decide +kernel)) rfl rfl (G_getI (nx := 116) fl_10_176 (Or.inl rfl) (dc180 (x := 0) (y := 176) bs_m_feed (by decide +kernel) rfl) rfl (G_iret rfl (dc172 bs_m_feed (by decide +kernel))))))))))))))
    exact ht _ _ s r ((e_m_feed_b55 (m_feed_b55 n) s l6).symm.trans h)

set_option maxRecDepth 100000 in
set_option maxHeartbeats 4000000 in
theorem h_m_feed : g_Ft M_m_feed yX10_feed 6 (FW_m_feed m_feed) := by
  intro l w hw σ as hlen hwf hok ρ k r e
  unfold FW_m_feed at e
  obtain ⟨hh0, e⟩ := p_C_inv e
  obtain ⟨l1, hh1, e⟩ := p_I_inv e
  obtain ⟨l2, hh2, e⟩ := p_I_inv e
  obtain ⟨l3, hh3, e⟩ := p_I_inv e
  obtain ⟨l4, hh4, e⟩ := p_I_inv e
  obtain ⟨l5, hh5, e⟩ := p_I_inv e
  have e := p_E_inv e
  obtain ⟨q, e1, e2⟩ := Option.bind_eq_some_iff.mp e
  have has : as = [.inr (.inr (some (10, 0))), .inl l1, .inl l2, .inl l3, .inl l4, .inl l5] := g_as6 hlen hh0 hh1 hh2 hh3 hh4 hh5
  subst has
  have hGo : g_Go M_m_feed retI (me M_m_feed) 0 (g_loc [.inr (.inr (some (10, 0))), .inl l1, .inl l2, .inl l3, .inl l4, .inl l5] (ml M_m_feed)) [] σ q := by
    have ht : g_Gd M_m_feed retI (me M_m_feed) 0 (t_m_feed (m_feed_b55 FU)) := (G_ldAn (n := 0) (nx := 1) (dc42 bs_m_feed (by decide +kernel)) rfl rfl (G_getI (nx := 4) fl_10_176 (Or.inl rfl) (dc180 (x := 0) (y := 176) bs_m_feed (by decide +kernel) rfl) rfl (G_bi (n := 20) (nx := 6) (dc16 (x := 20) bs_m_feed (by decide +kernel) (by decide +kernel)) biv_20 rfl (G_iadd (nx := 7) (dc96 bs_m_feed (by decide +kernel)) rfl (G_si (n := 400) (nx := 10) (dc17 (x := 1) (y := 144) bs_m_feed (by decide +kernel) (by decide +kernel)) siv_400 rfl (G_icmple (off := 5) (tg := 15) (nf := 13) (dc164 (x := 0) (y := 5) bs_m_feed (by decide +kernel) (by decide +kernel)) (by decide +kernel) rfl
  (G_ic (n := -1) (nx := 14) (dc2 bs_m_feed (by decide +kernel)) icv_m1 rfl (G_iret rfl (dc172 bs_m_feed (by decide +kernel))))
  (G_ldAn (n := 0) (nx := 16) (dc42 bs_m_feed (by decide +kernel)) rfl rfl (G_getRc (nx := 19) fl_10_44 rf_10_12 (dc180 (x := 0) (y := 44) bs_m_feed (by decide +kernel) rfl) rfl (G_ic (n := 0) (nx := 20) (dc3 bs_m_feed (by decide +kernel)) icv_0 rfl (G_ldIn (n := 1) (nx := 21) (dc27 bs_m_feed (by decide +kernel)) rfl rfl (G_iast (nx := 22) ak_49 (by decide) (dc79 bs_m_feed (by decide +kernel)) rfl (G_ldAn (n := 0) (nx := 23) (dc42 bs_m_feed (by decide +kernel)) rfl rfl (G_getRc (nx := 26) fl_10_44 rf_10_12 (dc180 (x := 0) (y := 44) bs_m_feed (by decide +kernel) rfl) rfl (G_ic (n := 1) (nx := 27) (dc4 bs_m_feed (by decide +kernel)) icv_1 rfl (G_ldIn (n := 2) (nx := 28) (dc28 bs_m_feed (by decide +kernel)) rfl rfl (G_iast (nx := 29) ak_49 (by decide) (dc79 bs_m_feed (by decide +kernel)) rfl (G_ldAn (n := 0) (nx := 30) (dc42 bs_m_feed (by decide +kernel)) rfl rfl (G_getRc (nx := 33) fl_10_44 rf_10_12 (dc180 (x := 0) (y := 44) bs_m_feed (by decide +kernel) rfl) rfl (G_ic (n := 2) (nx := 34) (dc5 bs_m_feed (by decide +kernel)) icv_2 rfl (G_ldIn (n := 3) (nx := 35) (dc29 bs_m_feed (by decide +kernel)) rfl rfl (G_iast (nx := 36) ak_49 (by decide) (dc79 bs_m_feed (by decide +kernel)) rfl (G_ldAn (n := 0) (nx := 37) (dc42 bs_m_feed (by decide +kernel)) rfl rfl (G_getRc (nx := 40) fl_10_44 rf_10_12 (dc180 (x := 0) (y := 44) bs_m_feed (by decide +kernel) rfl) rfl (G_ic (n := 3) (nx := 41) (dc6 bs_m_feed (by decide +kernel)) icv_3 rfl (G_ldI (nx := 43) (dc21 (x := 4) bs_m_feed (by decide +kernel)) rfl (G_iast (nx := 44) ak_49 (by decide) (dc79 bs_m_feed (by decide +kernel)) rfl (G_ldAn (n := 0) (nx := 45) (dc42 bs_m_feed (by decide +kernel)) rfl rfl (G_getRc (nx := 48) fl_10_44 rf_10_12 (dc180 (x := 0) (y := 44) bs_m_feed (by decide +kernel) rfl) rfl (G_ic (n := 4) (nx := 49) (dc7 bs_m_feed (by decide +kernel)) icv_4 rfl (G_ldI (nx := 51) (dc21 (x := 5) bs_m_feed (by decide +kernel)) rfl (G_iast (nx := 52) ak_49 (by decide) (dc79 bs_m_feed (by decide +kernel)) rfl (G_ic (n := 0) (nx := 53) (dc3 bs_m_feed (by decide +kernel)) icv_0 rfl (G_stI (nx := 55) (by show 6 < 7; decide) (dc54 (x := 6) bs_m_feed (by decide +kernel)) rfl (G_lbl (Gp_C <| Gp_I fun a6 => Gp_E fun s r h => B_m_feed_b55 FU s a6 r h)))))))))))))))))))))))))))))))))))
    exact ht _ _ σ q ((e_m_feed (m_feed_b55 FU) σ l1 l2 l3 l4 l5).symm.trans e1)
  exact g_meth (σ' := q.1) (v := some (.inl q.2)) (by decide) rfl hw hwf hok (Nat.le_of_ble_eq_true rfl) hGo (fun σ2 v2 h => retI_inv h) (by exact e2)

set_option maxRecDepth 100000 in
set_option maxHeartbeats 4000000 in
theorem h_m_end : g_Ft M_m_end yX10_end 2 (FW_m_end m_end) := by
  intro l w hw σ as hlen hwf hok ρ k r e
  unfold FW_m_end at e
  obtain ⟨hh0, e⟩ := p_C_inv e
  obtain ⟨l1, hh1, e⟩ := p_I_inv e
  have e := p_E_inv e
  obtain ⟨q, e1, e2⟩ := Option.bind_eq_some_iff.mp e
  have has : as = [.inr (.inr (some (10, 0))), .inl l1] := g_as2 hlen hh0 hh1
  subst has
  have hGo : g_Go M_m_end retI (me M_m_end) 0 (g_loc [.inr (.inr (some (10, 0))), .inl l1] (ml M_m_end)) [] σ q := by
    have ht : g_Gd M_m_end retI (me M_m_end) 0 (t_m_end m_lies) := (G_ldIn (n := 1) (nx := 1) (dc27 bs_m_end (by decide +kernel)) rfl rfl (G_ic (n := 0) (nx := 2) (dc3 bs_m_end (by decide +kernel)) icv_0 rfl (G_ldAn (n := 0) (nx := 3) (dc42 bs_m_end (by decide +kernel)) rfl rfl (G_getI (nx := 6) fl_10_176 (Or.inl rfl) (dc180 (x := 0) (y := 176) bs_m_end (by decide +kernel) rfl) rfl (G_callS (b0 := 0) (nx := 9) (g_Fn_of rfl h_m_lies) (cw_10_132) wd6_74 rfl ⟨by decide, by show 3 ≤ 21; decide⟩ (Nat.zero_le _) (dc184 (x := 0) (y := 132) bs_m_end (by decide +kernel) rfl) rfl (G_ifne (off := 5) (tg := 14) (nf := 12) (dc154 (x := 0) (y := 5) bs_m_end (by decide +kernel) (by decide +kernel)) (by decide +kernel) rfl
  (G_ic (n := -1) (nx := 13) (dc2 bs_m_end (by decide +kernel)) icv_m1 rfl (G_iret rfl (dc172 bs_m_end (by decide +kernel))))
  (G_ldAn (n := 0) (nx := 15) (dc42 bs_m_end (by decide +kernel)) rfl rfl (G_ldIn (n := 1) (nx := 16) (dc27 bs_m_end (by decide +kernel)) rfl rfl (G_putI (nx := 19) fp_10_176 rfl (dc181 (x := 0) (y := 176) bs_m_end (by decide +kernel) rfl) rfl (G_ldIn (n := 1) (nx := 20) (dc27 bs_m_end (by decide +kernel)) rfl rfl (G_iret rfl (dc172 bs_m_end (by decide +kernel)))))))))))))
    exact ht _ _ σ q ((e_m_end m_lies σ l1).symm.trans e1)
  exact g_meth (σ' := q.1) (v := some (.inl q.2)) (by decide) rfl hw hwf hok (Nat.le_of_ble_eq_true rfl) hGo (fun σ2 v2 h => retI_inv h) (by exact e2)

set_option maxRecDepth 100000 in
set_option maxHeartbeats 4000000 in
theorem h_m_isSmall : g_Ft M_m_isSmall yX10_isSmall 1 (FW_m_isSmall m_isSmall) := by
  intro l w hw σ as hlen hwf hok ρ k r e
  unfold FW_m_isSmall at e
  obtain ⟨l0, hh0, e⟩ := p_I_inv e
  have e := p_E_inv e
  obtain ⟨q, e1, e2⟩ := Option.bind_eq_some_iff.mp e
  have has : as = [.inl l0] := g_as1 hlen hh0
  subst has
  have hGo : g_Go M_m_isSmall retI (me M_m_isSmall) 0 (g_loc [.inl l0] (ml M_m_isSmall)) [] σ q := by
    have ht : g_Gd M_m_isSmall retI (me M_m_isSmall) 0 (t_m_isSmall) := (G_ldIn (n := 0) (nx := 1) (dc26 bs_m_isSmall (by decide +kernel)) rfl rfl (G_bi (n := 97) (nx := 3) (dc16 (x := 97) bs_m_isSmall (by decide +kernel) (by decide +kernel)) biv_97 rfl (G_icmplt (off := 13) (tg := 16) (nf := 6) (dc161 (x := 0) (y := 13) bs_m_isSmall (by decide +kernel) (by decide +kernel)) (by decide +kernel) rfl
  (G_ic (n := 0) (nx := 17) (dc3 bs_m_isSmall (by decide +kernel)) icv_0 rfl (G_zret rfl (dc172 bs_m_isSmall (by decide +kernel))))
  (G_ldIn (n := 0) (nx := 7) (dc26 bs_m_isSmall (by decide +kernel)) rfl rfl (G_bi (n := 122) (nx := 9) (dc16 (x := 122) bs_m_isSmall (by decide +kernel) (by decide +kernel)) biv_122 rfl (G_icmpgt (off := 7) (tg := 16) (nf := 12) (dc163 (x := 0) (y := 7) bs_m_isSmall (by decide +kernel) (by decide +kernel)) (by decide +kernel) rfl
    (G_ic (n := 0) (nx := 17) (dc3 bs_m_isSmall (by decide +kernel)) icv_0 rfl (G_zret rfl (dc172 bs_m_isSmall (by decide +kernel))))
    (G_ic (n := 1) (nx := 13) (dc4 bs_m_isSmall (by decide +kernel)) icv_1 rfl (G_goto (off := 4) (nx := 17) (dc167 (x := 0) (y := 4) bs_m_isSmall (by decide +kernel) (by decide +kernel)) (by decide +kernel) (G_zret rfl (dc172 bs_m_isSmall (by decide +kernel)))))))))))
    exact ht _ _ σ q ((e_m_isSmall  σ l0).symm.trans e1)
  exact g_meth (σ' := q.1) (v := some (.inl q.2)) (by decide) rfl hw hwf hok (Nat.le_of_ble_eq_true rfl) hGo (fun σ2 v2 h => retI_inv h) (by exact e2)

set_option maxRecDepth 100000 in
set_option maxHeartbeats 4000000 in
theorem h_m_isDigit : g_Ft M_m_isDigit yX10_isDigit 1 (FW_m_isDigit m_isDigit) := by
  intro l w hw σ as hlen hwf hok ρ k r e
  unfold FW_m_isDigit at e
  obtain ⟨l0, hh0, e⟩ := p_I_inv e
  have e := p_E_inv e
  obtain ⟨q, e1, e2⟩ := Option.bind_eq_some_iff.mp e
  have has : as = [.inl l0] := g_as1 hlen hh0
  subst has
  have hGo : g_Go M_m_isDigit retI (me M_m_isDigit) 0 (g_loc [.inl l0] (ml M_m_isDigit)) [] σ q := by
    have ht : g_Gd M_m_isDigit retI (me M_m_isDigit) 0 (t_m_isDigit) := (G_ldIn (n := 0) (nx := 1) (dc26 bs_m_isDigit (by decide +kernel)) rfl rfl (G_bi (n := 48) (nx := 3) (dc16 (x := 48) bs_m_isDigit (by decide +kernel) (by decide +kernel)) biv_48 rfl (G_icmplt (off := 13) (tg := 16) (nf := 6) (dc161 (x := 0) (y := 13) bs_m_isDigit (by decide +kernel) (by decide +kernel)) (by decide +kernel) rfl
  (G_ic (n := 0) (nx := 17) (dc3 bs_m_isDigit (by decide +kernel)) icv_0 rfl (G_zret rfl (dc172 bs_m_isDigit (by decide +kernel))))
  (G_ldIn (n := 0) (nx := 7) (dc26 bs_m_isDigit (by decide +kernel)) rfl rfl (G_bi (n := 57) (nx := 9) (dc16 (x := 57) bs_m_isDigit (by decide +kernel) (by decide +kernel)) biv_57 rfl (G_icmpgt (off := 7) (tg := 16) (nf := 12) (dc163 (x := 0) (y := 7) bs_m_isDigit (by decide +kernel) (by decide +kernel)) (by decide +kernel) rfl
    (G_ic (n := 0) (nx := 17) (dc3 bs_m_isDigit (by decide +kernel)) icv_0 rfl (G_zret rfl (dc172 bs_m_isDigit (by decide +kernel))))
    (G_ic (n := 1) (nx := 13) (dc4 bs_m_isDigit (by decide +kernel)) icv_1 rfl (G_goto (off := 4) (nx := 17) (dc167 (x := 0) (y := 4) bs_m_isDigit (by decide +kernel) (by decide +kernel)) (by decide +kernel) (G_zret rfl (dc172 bs_m_isDigit (by decide +kernel)))))))))))
    exact ht _ _ σ q ((e_m_isDigit  σ l0).symm.trans e1)
  exact g_meth (σ' := q.1) (v := some (.inl q.2)) (by decide) rfl hw hwf hok (Nat.le_of_ble_eq_true rfl) hGo (fun σ2 v2 h => retI_inv h) (by exact e2)

set_option maxRecDepth 100000 in
set_option maxHeartbeats 4000000 in
theorem B_m_wordOf_b57 (K5 : Sg → Int32 → Int32 → Int32 → Int32 → Option (Sg × Int32)) (hK5 : ∀ (s : Sg) (l1 : Int32) (l2 : Int32) (l3 : Int32) (l4 : Int32) (r : (Sg × Int32)), K5 s l1 l2 l3 l4 = some r → g_Go M_m_wordOf retI 0 5 [some (.inr (.inr (some (10, 0)))), some (.inl l1), some (.inl l2), some (.inl l3), some (.inl l4), none, none, none] [] s r) : ∀ (n : Nat) (s : Sg) (l1 : Int32) (l2 : Int32) (l3 : Int32) (l4 : Int32) (l5 : Int32) (l6 : Int32) (l7 : Int32) (r : (Sg × Int32)), m_wordOf_b57 K5 n s l1 l2 l3 l4 l5 l6 l7 = some r → g_Go M_m_wordOf retI 0 57 [some (.inr (.inr (some (10, 0)))), some (.inl l1), some (.inl l2), some (.inl l3), some (.inl l4), some (.inl l5), some (.inl l6), some (.inl l7)] [] s r := by
  intro n
  induction n with
  | zero => intro s l1 l2 l3 l4 l5 l6 l7 r h; cases h
  | succ n hK57 =>
    intro s l1 l2 l3 l4 l5 l6 l7 r h
    have ht : g_Gd M_m_wordOf retI 0 57 (t_m_wordOf_b57 K5 (m_wordOf_b57 K5 n)) := (G_ldI (nx := 59) (dc21 (x := 7) bs_m_wordOf (by decide +kernel)) rfl (G_ldI (nx := 61) (dc21 (x := 5) bs_m_wordOf (by decide +kernel)) rfl (G_icmpge (off := 43) (tg := 104) (nf := 64) (dc162 (x := 0) (y := 43) bs_m_wordOf (by decide +kernel) (by decide +kernel)) (by decide +kernel) rfl
    (G_ldI (nx := 66) (dc21 (x := 6) bs_m_wordOf (by decide +kernel)) rfl (G_ifeq (off := 38) (tg := 104) (nf := 69) (dc153 (x := 0) (y := 38) bs_m_wordOf (by decide +kernel) (by decide +kernel)) (by decide +kernel) rfl
      (G_ldI (nx := 106) (dc21 (x := 6) bs_m_wordOf (by decide +kernel)) rfl (G_ifeq (off := 5) (tg := 111) (nf := 109) (dc153 (x := 0) (y := 5) bs_m_wordOf (by decide +kernel) (by decide +kernel)) (by decide +kernel) rfl
        (G_ldI (nx := 113) (dc21 (x := 4) bs_m_wordOf (by decide +kernel)) rfl (G_ldI (nx := 115) (dc21 (x := 5) bs_m_wordOf (by decide +kernel)) rfl (G_ic (n := 1) (nx := 116) (dc4 bs_m_wordOf (by decide +kernel)) icv_1 rfl (G_iadd (nx := 117) (dc96 bs_m_wordOf (by decide +kernel)) rfl (G_iadd (nx := 118) (dc96 bs_m_wordOf (by decide +kernel)) rfl (G_stI (nx := 120) (by show 4 < 8; decide) (dc54 (x := 4) bs_m_wordOf (by decide +kernel)) rfl (G_inc (n := 1) (nx := 123) (by show 3 < 8; decide) (dc132 (x := 3) (y := 1) bs_m_wordOf (by decide +kernel) (by decide +kernel)) icv_1 rfl (G_goto (off := -118) (nx := 5) (dc167 (x := 255) (y := 138) bs_m_wordOf (by decide +kernel) (by decide +kernel)) (by decide +kernel) (G_lbl (Gp_C <| Gp_I fun a1 => Gp_I fun a2 => Gp_I fun a3 => Gp_I fun a4 => Gp_E fun s r h => hK5 s a1 a2 a3 a4 r h))))))))))
        (G_ldIn (n := 3) (nx := 110) (dc29 bs_m_wordOf (by decide +kernel)) rfl rfl (G_iret rfl (dc172 bs_m_wordOf (by decide +kernel))))))
      (G_ldAn (n := 0) (nx := 70) (dc42 bs_m_wordOf (by decide +kernel)) rfl rfl (G_getRc (nx := 73) fl_10_37 rf_10_7 (dc180 (x := 0) (y := 37) bs_m_wordOf (by decide +kernel) rfl) rfl (G_ldI (nx := 75) (dc21 (x := 4) bs_m_wordOf (by decide +kernel)) rfl (G_ldI (nx := 77) (dc21 (x := 7) bs_m_wordOf (by decide +kernel)) rfl (G_iadd (nx := 78) (dc96 bs_m_wordOf (by decide +kernel)) rfl (G_bald (nx := 79) ak_47 (dc51 bs_m_wordOf (by decide +kernel)) rfl (G_ldAn (n := 0) (nx := 80) (dc42 bs_m_wordOf (by decide +kernel)) rfl rfl (G_getRc (nx := 83) fl_10_41 rf_10_11 (dc180 (x := 0) (y := 41) bs_m_wordOf (by decide +kernel) rfl) rfl (G_ldIn (n := 1) (nx := 84) (dc27 bs_m_wordOf (by decide +kernel)) rfl rfl (G_ldI (nx := 86) (dc21 (x := 7) bs_m_wordOf (by decide +kernel)) rfl (G_iadd (nx := 87) (dc96 bs_m_wordOf (by decide +kernel)) rfl (G_bald (nx := 88) ak_48 (dc51 bs_m_wordOf (by decide +kernel)) rfl (G_icmpne (off := 7) (tg := 95) (nf := 91) (dc160 (x := 0) (y := 7) bs_m_wordOf (by decide +kernel) (by decide +kernel)) (by decide +kernel) rfl
        (G_ic (n := 1) (nx := 92) (dc4 bs_m_wordOf (by decide +kernel)) icv_1 rfl (G_goto (off := 4) (nx := 96) (dc167 (x := 0) (y := 4) bs_m_wordOf (by decide +kernel) (by decide +kernel)) (by decide +kernel) (G_stI (nx := 98) (by show 6 < 8; decide) (dc54 (x := 6) bs_m_wordOf (by decide +kernel)) rfl (G_inc (n := 1) (nx := 101) (by show 7 < 8; decide) (dc132 (x := 7) (y := 1) bs_m_wordOf (by decide +kernel) (by decide +kernel)) icv_1 rfl (G_goto (off := -44) (nx := 57) (dc167 (x := 255) (y := 212) bs_m_wordOf (by decide +kernel) (by decide +kernel)) (by decide +kernel) (G_lbl (Gp_C <| Gp_I fun a1 => Gp_I fun a2 => Gp_I fun a3 => Gp_I fun a4 => Gp_I fun a5 => Gp_I fun a6 => Gp_I fun a7 => Gp_E fun s r h => hK57 s a1 a2 a3 a4 a5 a6 a7 r h)))))))
        (G_ic (n := 0) (nx := 96) (dc3 bs_m_wordOf (by decide +kernel)) icv_0 rfl (G_stI (nx := 98) (by show 6 < 8; decide) (dc54 (x := 6) bs_m_wordOf (by decide +kernel)) rfl (G_inc (n := 1) (nx := 101) (by show 7 < 8; decide) (dc132 (x := 7) (y := 1) bs_m_wordOf (by decide +kernel) (by decide +kernel)) icv_1 rfl (G_goto (off := -44) (nx := 57) (dc167 (x := 255) (y := 212) bs_m_wordOf (by decide +kernel) (by decide +kernel)) (by decide +kernel) (G_lbl (Gp_C <| Gp_I fun a1 => Gp_I fun a2 => Gp_I fun a3 => Gp_I fun a4 => Gp_I fun a5 => Gp_I fun a6 => Gp_I fun a7 => Gp_E fun s r h => hK57 s a1 a2 a3 a4 a5 a6 a7 r h)))))))))))))))))))))
    (G_ldI (nx := 106) (dc21 (x := 6) bs_m_wordOf (by decide +kernel)) rfl (G_ifeq (off := 5) (tg := 111) (nf := 109) (dc153 (x := 0) (y := 5) bs_m_wordOf (by decide +kernel) (by decide +kernel)) (by decide +kernel) rfl
      (G_ldI (nx := 113) (dc21 (x := 4) bs_m_wordOf (by decide +kernel)) rfl (G_ldI (nx := 115) (dc21 (x := 5) bs_m_wordOf (by decide +kernel)) rfl (G_ic (n := 1) (nx := 116) (dc4 bs_m_wordOf (by decide +kernel)) icv_1 rfl (G_iadd (nx := 117) (dc96 bs_m_wordOf (by decide +kernel)) rfl (G_iadd (nx := 118) (dc96 bs_m_wordOf (by decide +kernel)) rfl (G_stI (nx := 120) (by show 4 < 8; decide) (dc54 (x := 4) bs_m_wordOf (by decide +kernel)) rfl (G_inc (n := 1) (nx := 123) (by show 3 < 8; decide) (dc132 (x := 3) (y := 1) bs_m_wordOf (by decide +kernel) (by decide +kernel)) icv_1 rfl (G_goto (off := -118) (nx := 5) (dc167 (x := 255) (y := 138) bs_m_wordOf (by decide +kernel) (by decide +kernel)) (by decide +kernel) (G_lbl (Gp_C <| Gp_I fun a1 => Gp_I fun a2 => Gp_I fun a3 => Gp_I fun a4 => Gp_E fun s r h => hK5 s a1 a2 a3 a4 r h))))))))))
      (G_ldIn (n := 3) (nx := 110) (dc29 bs_m_wordOf (by decide +kernel)) rfl rfl (G_iret rfl (dc172 bs_m_wordOf (by decide +kernel)))))))))
    exact ht _ _ s r ((e_m_wordOf_b57 K5 (m_wordOf_b57 K5 n) s l1 l2 l3 l4 l5 l6 l7).symm.trans h)

set_option maxRecDepth 100000 in
set_option maxHeartbeats 4000000 in
theorem B_m_wordOf_b18 (K5 : Sg → Int32 → Int32 → Int32 → Int32 → Option (Sg × Int32)) (hK5 : ∀ (s : Sg) (l1 : Int32) (l2 : Int32) (l3 : Int32) (l4 : Int32) (r : (Sg × Int32)), K5 s l1 l2 l3 l4 = some r → g_Go M_m_wordOf retI 0 5 [some (.inr (.inr (some (10, 0)))), some (.inl l1), some (.inl l2), some (.inl l3), some (.inl l4), none, none, none] [] s r) : ∀ (n : Nat) (s : Sg) (l1 : Int32) (l2 : Int32) (l3 : Int32) (l4 : Int32) (l5 : Int32) (r : (Sg × Int32)), m_wordOf_b18 K5 n s l1 l2 l3 l4 l5 = some r → g_Go M_m_wordOf retI 0 18 [some (.inr (.inr (some (10, 0)))), some (.inl l1), some (.inl l2), some (.inl l3), some (.inl l4), some (.inl l5), none, none] [] s r := by
  intro n
  induction n with
  | zero => intro s l1 l2 l3 l4 l5 r h; cases h
  | succ n hK18 =>
    intro s l1 l2 l3 l4 l5 r h
    have ht : g_Gd M_m_wordOf retI 0 18 (t_m_wordOf_b18 (m_wordOf_b18 K5 n) (m_wordOf_b57 K5 FU)) := (G_ldAn (n := 0) (nx := 19) (dc42 bs_m_wordOf (by decide +kernel)) rfl rfl (G_getRc (nx := 22) fl_10_37 rf_10_7 (dc180 (x := 0) (y := 37) bs_m_wordOf (by decide +kernel) rfl) rfl (G_ldI (nx := 24) (dc21 (x := 4) bs_m_wordOf (by decide +kernel)) rfl (G_ldI (nx := 26) (dc21 (x := 5) bs_m_wordOf (by decide +kernel)) rfl (G_iadd (nx := 27) (dc96 bs_m_wordOf (by decide +kernel)) rfl (G_bald (nx := 28) ak_47 (dc51 bs_m_wordOf (by decide +kernel)) rfl (G_bi (n := 32) (nx := 30) (dc16 (x := 32) bs_m_wordOf (by decide +kernel) (by decide +kernel)) biv_32 rfl (G_icmpeq (off := 9) (tg := 39) (nf := 33) (dc159 (x := 0) (y := 9) bs_m_wordOf (by decide +kernel) (by decide +kernel)) (by decide +kernel) rfl
    (G_ldI (nx := 41) (dc21 (x := 5) bs_m_wordOf (by decide +kernel)) rfl (G_ldIn (n := 2) (nx := 42) (dc28 bs_m_wordOf (by decide +kernel)) rfl rfl (G_ldIn (n := 1) (nx := 43) (dc27 bs_m_wordOf (by decide +kernel)) rfl rfl (G_isub (nx := 44) (dc100 bs_m_wordOf (by decide +kernel)) rfl (G_icmpne (off := 7) (tg := 51) (nf := 47) (dc160 (x := 0) (y := 7) bs_m_wordOf (by decide +kernel) (by decide +kernel)) (by decide +kernel) rfl
      (G_ic (n := 1) (nx := 48) (dc4 bs_m_wordOf (by decide +kernel)) icv_1 rfl (G_goto (off := 4) (nx := 52) (dc167 (x := 0) (y := 4) bs_m_wordOf (by decide +kernel) (by decide +kernel)) (by decide +kernel) (G_stI (nx := 54) (by show 6 < 8; decide) (dc54 (x := 6) bs_m_wordOf (by decide +kernel)) rfl (G_ic (n := 0) (nx := 55) (dc3 bs_m_wordOf (by decide +kernel)) icv_0 rfl (G_stI (nx := 57) (by show 7 < 8; decide) (dc54 (x := 7) bs_m_wordOf (by decide +kernel)) rfl (G_lbl (Gp_C <| Gp_I fun a1 => Gp_I fun a2 => Gp_I fun a3 => Gp_I fun a4 => Gp_I fun a5 => Gp_I fun a6 => Gp_I fun a7 => Gp_E fun s r h => B_m_wordOf_b57 K5 hK5 FU s a1 a2 a3 a4 a5 a6 a7 r h)))))))
      (G_ic (n := 0) (nx := 52) (dc3 bs_m_wordOf (by decide +kernel)) icv_0 rfl (G_stI (nx := 54) (by show 6 < 8; decide) (dc54 (x := 6) bs_m_wordOf (by decide +kernel)) rfl (G_ic (n := 0) (nx := 55) (dc3 bs_m_wordOf (by decide +kernel)) icv_0 rfl (G_stI (nx := 57) (by show 7 < 8; decide) (dc54 (x := 7) bs_m_wordOf (by decide +kernel)) rfl (G_lbl (Gp_C <| Gp_I fun a1 => Gp_I fun a2 => Gp_I fun a3 => Gp_I fun a4 => Gp_I fun a5 => Gp_I fun a6 => Gp_I fun a7 => Gp_E fun s r h => B_m_wordOf_b57 K5 hK5 FU s a1 a2 a3 a4 a5 a6 a7 r h)))))))))))
    (G_inc (n := 1) (nx := 36) (by show 5 < 8; decide) (dc132 (x := 5) (y := 1) bs_m_wordOf (by decide +kernel) (by decide +kernel)) icv_1 rfl (G_goto (off := -18) (nx := 18) (dc167 (x := 255) (y := 238) bs_m_wordOf (by decide +kernel) (by decide +kernel)) (by decide +kernel) (G_lbl (Gp_C <| Gp_I fun a1 => Gp_I fun a2 => Gp_I fun a3 => Gp_I fun a4 => Gp_I fun a5 => Gp_E fun s r h => hK18 s a1 a2 a3 a4 a5 r h))))))))))))
    exact ht _ _ s r ((e_m_wordOf_b18 (m_wordOf_b18 K5 n) (m_wordOf_b57 K5 FU) s l1 l2 l3 l4 l5).symm.trans h)

set_option maxRecDepth 100000 in
set_option maxHeartbeats 4000000 in
theorem B_m_wordOf_b5 : ∀ (n : Nat) (s : Sg) (l1 : Int32) (l2 : Int32) (l3 : Int32) (l4 : Int32) (r : (Sg × Int32)), m_wordOf_b5 n s l1 l2 l3 l4 = some r → g_Go M_m_wordOf retI 0 5 [some (.inr (.inr (some (10, 0)))), some (.inl l1), some (.inl l2), some (.inl l3), some (.inl l4), none, none, none] [] s r := by
  intro n
  induction n with
  | zero => intro s l1 l2 l3 l4 r h; cases h
  | succ n hK5 =>
    intro s l1 l2 l3 l4 r h
    have ht : g_Gd M_m_wordOf retI 0 5 (t_m_wordOf_b5 (m_wordOf_b18 (m_wordOf_b5 n) FU)) := (G_ldI (nx := 7) (dc21 (x := 4) bs_m_wordOf (by decide +kernel)) rfl (G_ldAn (n := 0) (nx := 8) (dc42 bs_m_wordOf (by decide +kernel)) rfl rfl (G_getRc (nx := 11) fl_10_37 rf_10_7 (dc180 (x := 0) (y := 37) bs_m_wordOf (by decide +kernel) rfl) rfl (G_alen (nx := 12) ak_47 (by decide) (dc190 bs_m_wordOf (by decide +kernel)) rfl (G_icmpge (off := 114) (tg := 126) (nf := 15) (dc162 (x := 0) (y := 114) bs_m_wordOf (by decide +kernel) (by decide +kernel)) (by decide +kernel) rfl
    (G_ic (n := 0) (nx := 16) (dc3 bs_m_wordOf (by decide +kernel)) icv_0 rfl (G_stI (nx := 18) (by show 5 < 8; decide) (dc54 (x := 5) bs_m_wordOf (by decide +kernel)) rfl (G_lbl (Gp_C <| Gp_I fun a1 => Gp_I fun a2 => Gp_I fun a3 => Gp_I fun a4 => Gp_I fun a5 => Gp_E fun s r h => B_m_wordOf_b18 (m_wordOf_b5 n) hK5 FU s a1 a2 a3 a4 a5 r h))))
    (G_ic (n := 0) (nx := 127) (dc3 bs_m_wordOf (by decide +kernel)) icv_0 rfl (G_iret rfl (dc172 bs_m_wordOf (by decide +kernel)))))))))
    exact ht _ _ s r ((e_m_wordOf_b5 (m_wordOf_b18 (m_wordOf_b5 n) FU) s l1 l2 l3 l4).symm.trans h)

set_option maxRecDepth 100000 in
set_option maxHeartbeats 4000000 in
theorem h_m_wordOf : g_Ft M_m_wordOf yX10_wordOf 3 (FW_m_wordOf m_wordOf) := by
  intro l w hw σ as hlen hwf hok ρ k r e
  unfold FW_m_wordOf at e
  obtain ⟨hh0, e⟩ := p_C_inv e
  obtain ⟨l1, hh1, e⟩ := p_I_inv e
  obtain ⟨l2, hh2, e⟩ := p_I_inv e
  have e := p_E_inv e
  obtain ⟨q, e1, e2⟩ := Option.bind_eq_some_iff.mp e
  have has : as = [.inr (.inr (some (10, 0))), .inl l1, .inl l2] := g_as3 hlen hh0 hh1 hh2
  subst has
  have hGo : g_Go M_m_wordOf retI (me M_m_wordOf) 0 (g_loc [.inr (.inr (some (10, 0))), .inl l1, .inl l2] (ml M_m_wordOf)) [] σ q := by
    have ht : g_Gd M_m_wordOf retI (me M_m_wordOf) 0 (t_m_wordOf (m_wordOf_b5 FU)) := (G_ic (n := 1) (nx := 1) (dc4 bs_m_wordOf (by decide +kernel)) icv_1 rfl (G_stIn (n := 3) (nx := 2) (by show 3 < 8; decide) (dc62 bs_m_wordOf (by decide +kernel)) rfl rfl (G_ic (n := 0) (nx := 3) (dc3 bs_m_wordOf (by decide +kernel)) icv_0 rfl (G_stI (nx := 5) (by show 4 < 8; decide) (dc54 (x := 4) bs_m_wordOf (by decide +kernel)) rfl (G_lbl (Gp_C <| Gp_I fun a1 => Gp_I fun a2 => Gp_I fun a3 => Gp_I fun a4 => Gp_E fun s r h => B_m_wordOf_b5 FU s a1 a2 a3 a4 r h))))))
    exact ht _ _ σ q ((e_m_wordOf (m_wordOf_b5 FU) σ l1 l2).symm.trans e1)
  exact g_meth (σ' := q.1) (v := some (.inl q.2)) (by decide) rfl hw hwf hok (Nat.le_of_ble_eq_true rfl) hGo (fun σ2 v2 h => retI_inv h) (by exact e2)

set_option maxRecDepth 100000 in
set_option maxHeartbeats 4000000 in
theorem B_m_splits_b169 (K7 : Sg → Int32 → Int32 → Option Sg) (hK7 : ∀ (s : Sg) (l1 : Int32) (l2 : Int32) (r : Sg), K7 s l1 l2 = some r → g_Go M_m_splits retV 0 7 [some (.inr (.inr (some (10, 0)))), some (.inl l1), some (.inl l2), none, none, none] [] s r) : ∀ (n : Nat) (s : Sg) (l1 : Int32) (l3 : Int32) (l4 : Int32) (l5 : Int32) (r : Sg), m_splits_b169 K7 n s l1 l3 l4 l5 = some r → g_Go M_m_splits retV 0 169 [some (.inr (.inr (some (10, 0)))), some (.inl l1), none, some (.inl l3), some (.inl l4), some (.inl l5)] [] s r := by
  intro n
  induction n with
  | zero => intro s l1 l3 l4 l5 r h; cases h
  | succ n hK169 =>
    intro s l1 l3 l4 l5 r h
    have ht : g_Gd M_m_splits retV 0 169 (t_m_splits_b169 K7 (m_splits_b169 K7 n) m_isDigit) := (G_ldI (nx := 171) (dc21 (x := 5) bs_m_splits (by decide +kernel)) rfl (G_ldI (nx := 173) (dc21 (x := 4) bs_m_splits (by decide +kernel)) rfl (G_icmpge (off := 74) (tg := 247) (nf := 176) (dc162 (x := 0) (y := 74) bs_m_splits (by decide +kernel) (by decide +kernel)) (by decide +kernel) rfl
    (G_ldIn (n := 3) (nx := 177) (dc29 bs_m_splits (by decide +kernel)) rfl rfl (G_callS (b0 := 0) (nx := 180) (g_Fn_of rfl h_m_isDigit) (cw_10_188) wd6_172 rfl ⟨by decide, by show 1 ≤ 21; decide⟩ (Nat.zero_le _) (dc184 (x := 0) (y := 188) bs_m_splits (by decide +kernel) rfl) rfl (G_ifeq (off := 67) (tg := 247) (nf := 183) (dc153 (x := 0) (y := 67) bs_m_splits (by decide +kernel) (by decide +kernel)) (by decide +kernel) rfl
      (G_ldAn (n := 0) (nx := 248) (dc42 bs_m_splits (by decide +kernel)) rfl rfl (G_dup (nx := 249) (dc89 bs_m_splits (by decide +kernel)) rfl (G_getI (nx := 252) fl_10_182 (Or.inl rfl) (dc180 (x := 0) (y := 182) bs_m_splits (by decide +kernel) rfl) rfl (G_ic (n := 1) (nx := 253) (dc4 bs_m_splits (by decide +kernel)) icv_1 rfl (G_iadd (nx := 254) (dc96 bs_m_splits (by decide +kernel)) rfl (G_putI (nx := 257) fp_10_182 rfl (dc181 (x := 0) (y := 182) bs_m_splits (by decide +kernel) rfl) rfl (G_ldI (nx := 259) (dc21 (x := 4) bs_m_splits (by decide +kernel)) rfl (G_stIn (n := 2) (nx := 260) (by show 2 < 6; decide) (dc61 bs_m_splits (by decide +kernel)) rfl rfl (G_goto (off := -253) (nx := 7) (dc167 (x := 255) (y := 3) bs_m_splits (by decide +kernel) (by decide +kernel)) (by decide +kernel) (G_lbl (Gp_C <| Gp_I fun a1 => Gp_I fun a2 => Gp_E fun s r h => hK7 s a1 a2 r h)))))))))))
      (G_ldAn (n := 0) (nx := 184) (dc42 bs_m_splits (by decide +kernel)) rfl rfl (G_getRc (nx := 187) fl_10_53 rf_10_16 (dc180 (x := 0) (y := 53) bs_m_splits (by decide +kernel) rfl) rfl (G_ldAn (n := 0) (nx := 188) (dc42 bs_m_splits (by decide +kernel)) rfl rfl (G_getI (nx := 191) fl_10_182 (Or.inl rfl) (dc180 (x := 0) (y := 182) bs_m_splits (by decide +kernel) rfl) rfl (G_ldAn (n := 0) (nx := 192) (dc42 bs_m_splits (by decide +kernel)) rfl rfl (G_getRc (nx := 195) fl_10_53 rf_10_16 (dc180 (x := 0) (y := 53) bs_m_splits (by decide +kernel) rfl) rfl (G_ldAn (n := 0) (nx := 196) (dc42 bs_m_splits (by decide +kernel)) rfl rfl (G_getI (nx := 199) fl_10_182 (Or.inl rfl) (dc180 (x := 0) (y := 182) bs_m_splits (by decide +kernel) rfl) rfl (G_iald (nx := 200) ak_51 (dc46 bs_m_splits (by decide +kernel)) rfl (G_ldc (nx := 202) wd6_178 (dc18 (x := 195) bs_m_splits (by decide +kernel)) rfl (G_icmple (off := 15) (tg := 217) (nf := 205) (dc164 (x := 0) (y := 15) bs_m_splits (by decide +kernel) (by decide +kernel)) (by decide +kernel) rfl
        (G_ldAn (n := 0) (nx := 206) (dc42 bs_m_splits (by decide +kernel)) rfl rfl (G_getRc (nx := 209) fl_10_53 rf_10_16 (dc180 (x := 0) (y := 53) bs_m_splits (by decide +kernel) rfl) rfl (G_ldAn (n := 0) (nx := 210) (dc42 bs_m_splits (by decide +kernel)) rfl rfl (G_getI (nx := 213) fl_10_182 (Or.inl rfl) (dc180 (x := 0) (y := 182) bs_m_splits (by decide +kernel) rfl) rfl (G_iald (nx := 214) ak_51 (dc46 bs_m_splits (by decide +kernel)) rfl (G_goto (off := 26) (nx := 240) (dc167 (x := 0) (y := 26) bs_m_splits (by decide +kernel) (by decide +kernel)) (by decide +kernel) (G_iast (nx := 241) ak_51 (by decide) (dc79 bs_m_splits (by decide +kernel)) rfl (G_inc (n := 1) (nx := 244) (by show 5 < 6; decide) (dc132 (x := 5) (y := 1) bs_m_splits (by decide +kernel) (by decide +kernel)) icv_1 rfl (G_goto (off := -75) (nx := 169) (dc167 (x := 255) (y := 181) bs_m_splits (by decide +kernel) (by decide +kernel)) (by decide +kernel) (G_lbl (Gp_C <| Gp_I fun a1 => Gp_I fun a3 => Gp_I fun a4 => Gp_I fun a5 => Gp_E fun s r h => hK169 s a1 a3 a4 a5 r h)))))))))))
        (G_bi (n := 10) (nx := 219) (dc16 (x := 10) bs_m_splits (by decide +kernel) (by decide +kernel)) biv_10 rfl (G_ldAn (n := 0) (nx := 220) (dc42 bs_m_splits (by decide +kernel)) rfl rfl (G_getRc (nx := 223) fl_10_53 rf_10_16 (dc180 (x := 0) (y := 53) bs_m_splits (by decide +kernel) rfl) rfl (G_ldAn (n := 0) (nx := 224) (dc42 bs_m_splits (by decide +kernel)) rfl rfl (G_getI (nx := 227) fl_10_182 (Or.inl rfl) (dc180 (x := 0) (y := 182) bs_m_splits (by decide +kernel) rfl) rfl (G_iald (nx := 228) ak_51 (dc46 bs_m_splits (by decide +kernel)) rfl (G_imul (nx := 229) (dc104 bs_m_splits (by decide +kernel)) rfl (G_ldAn (n := 0) (nx := 230) (dc42 bs_m_splits (by decide +kernel)) rfl rfl (G_getRc (nx := 233) fl_10_41 rf_10_11 (dc180 (x := 0) (y := 41) bs_m_splits (by decide +kernel) rfl) rfl (G_ldI (nx := 235) (dc21 (x := 5) bs_m_splits (by decide +kernel)) rfl (G_bald (nx := 236) ak_48 (dc51 bs_m_splits (by decide +kernel)) rfl (G_iadd (nx := 237) (dc96 bs_m_splits (by decide +kernel)) rfl (G_bi (n := 48) (nx := 239) (dc16 (x := 48) bs_m_splits (by decide +kernel) (by decide +kernel)) biv_48 rfl (G_isub (nx := 240) (dc100 bs_m_splits (by decide +kernel)) rfl (G_iast (nx := 241) ak_51 (by decide) (dc79 bs_m_splits (by decide +kernel)) rfl (G_inc (n := 1) (nx := 244) (by show 5 < 6; decide) (dc132 (x := 5) (y := 1) bs_m_splits (by decide +kernel) (by decide +kernel)) icv_1 rfl (G_goto (off := -75) (nx := 169) (dc167 (x := 255) (y := 181) bs_m_splits (by decide +kernel) (by decide +kernel)) (by decide +kernel) (G_lbl (Gp_C <| Gp_I fun a1 => Gp_I fun a3 => Gp_I fun a4 => Gp_I fun a5 => Gp_E fun s r h => hK169 s a1 a3 a4 a5 r h)))))))))))))))))))))))))))))))))
    (G_ldAn (n := 0) (nx := 248) (dc42 bs_m_splits (by decide +kernel)) rfl rfl (G_dup (nx := 249) (dc89 bs_m_splits (by decide +kernel)) rfl (G_getI (nx := 252) fl_10_182 (Or.inl rfl) (dc180 (x := 0) (y := 182) bs_m_splits (by decide +kernel) rfl) rfl (G_ic (n := 1) (nx := 253) (dc4 bs_m_splits (by decide +kernel)) icv_1 rfl (G_iadd (nx := 254) (dc96 bs_m_splits (by decide +kernel)) rfl (G_putI (nx := 257) fp_10_182 rfl (dc181 (x := 0) (y := 182) bs_m_splits (by decide +kernel) rfl) rfl (G_ldI (nx := 259) (dc21 (x := 4) bs_m_splits (by decide +kernel)) rfl (G_stIn (n := 2) (nx := 260) (by show 2 < 6; decide) (dc61 bs_m_splits (by decide +kernel)) rfl rfl (G_goto (off := -253) (nx := 7) (dc167 (x := 255) (y := 3) bs_m_splits (by decide +kernel) (by decide +kernel)) (by decide +kernel) (G_lbl (Gp_C <| Gp_I fun a1 => Gp_I fun a2 => Gp_E fun s r h => hK7 s a1 a2 r h))))))))))))))
    exact ht _ _ s r ((e_m_splits_b169 K7 (m_splits_b169 K7 n) m_isDigit s l1 l3 l4 l5).symm.trans h)

set_option maxRecDepth 100000 in
set_option maxHeartbeats 4000000 in
theorem B_m_splits_b100 (K7 : Sg → Int32 → Int32 → Option Sg) (hK7 : ∀ (s : Sg) (l1 : Int32) (l2 : Int32) (r : Sg), K7 s l1 l2 = some r → g_Go M_m_splits retV 0 7 [some (.inr (.inr (some (10, 0)))), some (.inl l1), some (.inl l2), none, none, none] [] s r) (s : Sg) (l1 : Int32) (l2 : Int32) (l3 : Int32) (l4 : Int32) (r : Sg) (h : m_splits_b100 K7 s l1 l2 l3 l4 = some r) : g_Go M_m_splits retV 0 100 [some (.inr (.inr (some (10, 0)))), some (.inl l1), some (.inl l2), some (.inl l3), some (.inl l4), none] [] s r := by
  have ht : g_Gd M_m_splits retV 0 100 (t_m_splits_b100 (m_splits_b169 K7 FU) m_isSmall m_wordOf m_isDigit) := (G_ldAn (n := 0) (nx := 101) (dc42 bs_m_splits (by decide +kernel)) rfl rfl (G_getRc (nx := 104) fl_10_56 rf_10_17 (dc180 (x := 0) (y := 56) bs_m_splits (by decide +kernel) rfl) rfl (G_ldAn (n := 0) (nx := 105) (dc42 bs_m_splits (by decide +kernel)) rfl rfl (G_getI (nx := 108) fl_10_182 (Or.inl rfl) (dc180 (x := 0) (y := 182) bs_m_splits (by decide +kernel) rfl) rfl (G_ldIn (n := 2) (nx := 109) (dc28 bs_m_splits (by decide +kernel)) rfl rfl (G_iast (nx := 110) ak_52 (by decide) (dc79 bs_m_splits (by decide +kernel)) rfl (G_ldAn (n := 0) (nx := 111) (dc42 bs_m_splits (by decide +kernel)) rfl rfl (G_getRc (nx := 114) fl_10_53 rf_10_16 (dc180 (x := 0) (y := 53) bs_m_splits (by decide +kernel) rfl) rfl (G_ldAn (n := 0) (nx := 115) (dc42 bs_m_splits (by decide +kernel)) rfl rfl (G_getI (nx := 118) fl_10_182 (Or.inl rfl) (dc180 (x := 0) (y := 182) bs_m_splits (by decide +kernel) rfl) rfl (G_ic (n := 0) (nx := 119) (dc3 bs_m_splits (by decide +kernel)) icv_0 rfl (G_iast (nx := 120) ak_51 (by decide) (dc79 bs_m_splits (by decide +kernel)) rfl (G_ldAn (n := 0) (nx := 121) (dc42 bs_m_splits (by decide +kernel)) rfl rfl (G_getRc (nx := 124) fl_10_50 rf_10_15 (dc180 (x := 0) (y := 50) bs_m_splits (by decide +kernel) rfl) rfl (G_ldAn (n := 0) (nx := 125) (dc42 bs_m_splits (by decide +kernel)) rfl rfl (G_getI (nx := 128) fl_10_182 (Or.inl rfl) (dc180 (x := 0) (y := 182) bs_m_splits (by decide +kernel) rfl) rfl (G_ldIn (n := 3) (nx := 129) (dc29 bs_m_splits (by decide +kernel)) rfl rfl (G_callS (b0 := 0) (nx := 132) (g_Fn_of rfl h_m_isSmall) (cw_10_185) wd6_169 rfl ⟨by decide, by show 1 ≤ 21; decide⟩ (Nat.zero_le _) (dc184 (x := 0) (y := 185) bs_m_splits (by decide +kernel) rfl) rfl (G_ifeq (off := 13) (tg := 145) (nf := 135) (dc153 (x := 0) (y := 13) bs_m_splits (by decide +kernel) (by decide +kernel)) (by decide +kernel) rfl
    (G_ldIn (n := 3) (nx := 146) (dc29 bs_m_splits (by decide +kernel)) rfl rfl (G_callS (b0 := 0) (nx := 149) (g_Fn_of rfl h_m_isDigit) (cw_10_188) wd6_172 rfl ⟨by decide, by show 1 ≤ 21; decide⟩ (Nat.zero_le _) (dc184 (x := 0) (y := 188) bs_m_splits (by decide +kernel) rfl) rfl (G_ifeq (off := 8) (tg := 157) (nf := 152) (dc153 (x := 0) (y := 8) bs_m_splits (by decide +kernel) (by decide +kernel)) (by decide +kernel) rfl
      (G_bi (n := 100) (nx := 159) (dc16 (x := 100) bs_m_splits (by decide +kernel) (by decide +kernel)) biv_100 rfl (G_ldIn (n := 3) (nx := 160) (dc29 bs_m_splits (by decide +kernel)) rfl rfl (G_si (n := 255) (nx := 163) (dc17 (x := 0) (y := 255) bs_m_splits (by decide +kernel) (by decide +kernel)) siv_255 rfl (G_iand (nx := 164) (dc126 bs_m_splits (by decide +kernel)) rfl (G_iadd (nx := 165) (dc96 bs_m_splits (by decide +kernel)) rfl (G_iast (nx := 166) ak_50 (by decide) (dc79 bs_m_splits (by decide +kernel)) rfl (G_ldIn (n := 2) (nx := 167) (dc28 bs_m_splits (by decide +kernel)) rfl rfl (G_stI (nx := 169) (by show 5 < 6; decide) (dc54 (x := 5) bs_m_splits (by decide +kernel)) rfl (G_lbl (Gp_C <| Gp_I fun a1 => Gp_I fun a3 => Gp_I fun a4 => Gp_I fun a5 => Gp_E fun s r h => B_m_splits_b169 K7 hK7 FU s a1 a3 a4 a5 r h))))))))))
      (G_bi (n := 50) (nx := 154) (dc16 (x := 50) bs_m_splits (by decide +kernel) (by decide +kernel)) biv_50 rfl (G_goto (off := 11) (nx := 165) (dc167 (x := 0) (y := 11) bs_m_splits (by decide +kernel) (by decide +kernel)) (by decide +kernel) (G_iast (nx := 166) ak_50 (by decide) (dc79 bs_m_splits (by decide +kernel)) rfl (G_ldIn (n := 2) (nx := 167) (dc28 bs_m_splits (by decide +kernel)) rfl rfl (G_stI (nx := 169) (by show 5 < 6; decide) (dc54 (x := 5) bs_m_splits (by decide +kernel)) rfl (G_lbl (Gp_C <| Gp_I fun a1 => Gp_I fun a3 => Gp_I fun a4 => Gp_I fun a5 => Gp_E fun s r h => B_m_splits_b169 K7 hK7 FU s a1 a3 a4 a5 r h))))))))))
    (G_ldAn (n := 0) (nx := 136) (dc42 bs_m_splits (by decide +kernel)) rfl rfl (G_ldIn (n := 2) (nx := 137) (dc28 bs_m_splits (by decide +kernel)) rfl rfl (G_ldI (nx := 139) (dc21 (x := 4) bs_m_splits (by decide +kernel)) rfl (G_callV (b0 := 0) (nx := 142) (T := TX10) (ci := 10) (g_Fn_of rfl h_m_wordOf) (cw_10_191) ⟨wd6_176, sel_GalleyRoomModel_wordOf__II_I⟩ ⟨rfl, rfl⟩ ⟨by decide, by show 8 ≤ 21; decide⟩ (Nat.zero_le _) (rec_m_wordOf _) (dc182 (x := 0) (y := 191) bs_m_splits (by decide +kernel) rfl) rfl (G_goto (off := 23) (nx := 165) (dc167 (x := 0) (y := 23) bs_m_splits (by decide +kernel) (by decide +kernel)) (by decide +kernel) (G_iast (nx := 166) ak_50 (by decide) (dc79 bs_m_splits (by decide +kernel)) rfl (G_ldIn (n := 2) (nx := 167) (dc28 bs_m_splits (by decide +kernel)) rfl rfl (G_stI (nx := 169) (by show 5 < 6; decide) (dc54 (x := 5) bs_m_splits (by decide +kernel)) rfl (G_lbl (Gp_C <| Gp_I fun a1 => Gp_I fun a3 => Gp_I fun a4 => Gp_I fun a5 => Gp_E fun s r h => B_m_splits_b169 K7 hK7 FU s a1 a3 a4 a5 r h)))))))))))))))))))))))))))))
  exact ht _ _ s r ((e_m_splits_b100 (m_splits_b169 K7 FU) m_isSmall m_wordOf m_isDigit s l1 l2 l3 l4).symm.trans h)

set_option maxRecDepth 100000 in
set_option maxHeartbeats 4000000 in
theorem B_m_splits_b75 (K7 : Sg → Int32 → Int32 → Option Sg) (hK7 : ∀ (s : Sg) (l1 : Int32) (l2 : Int32) (r : Sg), K7 s l1 l2 = some r → g_Go M_m_splits retV 0 7 [some (.inr (.inr (some (10, 0)))), some (.inl l1), some (.inl l2), none, none, none] [] s r) : ∀ (n : Nat) (s : Sg) (l1 : Int32) (l2 : Int32) (l3 : Int32) (l4 : Int32) (r : Sg), m_splits_b75 K7 n s l1 l2 l3 l4 = some r → g_Go M_m_splits retV 0 75 [some (.inr (.inr (some (10, 0)))), some (.inl l1), some (.inl l2), some (.inl l3), some (.inl l4), none] [] s r := by
  intro n
  induction n with
  | zero => intro s l1 l2 l3 l4 r h; cases h
  | succ n hK75 =>
    intro s l1 l2 l3 l4 r h
    have ht : g_Gd M_m_splits retV 0 75 (t_m_splits_b75 (m_splits_b75 K7 n) (m_splits_b100 K7) m_isDigit) := (G_ldI (nx := 77) (dc21 (x := 4) bs_m_splits (by decide +kernel)) rfl (G_ldIn (n := 1) (nx := 78) (dc27 bs_m_splits (by decide +kernel)) rfl rfl (G_icmpge (off := 22) (tg := 100) (nf := 81) (dc162 (x := 0) (y := 22) bs_m_splits (by decide +kernel) (by decide +kernel)) (by decide +kernel) rfl
    (G_ldAn (n := 0) (nx := 82) (dc42 bs_m_splits (by decide +kernel)) rfl rfl (G_getRc (nx := 85) fl_10_41 rf_10_11 (dc180 (x := 0) (y := 41) bs_m_splits (by decide +kernel) rfl) rfl (G_ldI (nx := 87) (dc21 (x := 4) bs_m_splits (by decide +kernel)) rfl (G_bald (nx := 88) ak_48 (dc51 bs_m_splits (by decide +kernel)) rfl (G_callS (b0 := 0) (nx := 91) (g_Fn_of rfl h_m_isDigit) (cw_10_188) wd6_172 rfl ⟨by decide, by show 1 ≤ 21; decide⟩ (Nat.zero_le _) (dc184 (x := 0) (y := 188) bs_m_splits (by decide +kernel) rfl) rfl (G_ifeq (off := 9) (tg := 100) (nf := 94) (dc153 (x := 0) (y := 9) bs_m_splits (by decide +kernel) (by decide +kernel)) (by decide +kernel) rfl
      (G_lbl (Gp_C <| Gp_I fun a1 => Gp_I fun a2 => Gp_I fun a3 => Gp_I fun a4 => Gp_E fun s r h => B_m_splits_b100 K7 hK7 s a1 a2 a3 a4 r h))
      (G_inc (n := 1) (nx := 97) (by show 4 < 6; decide) (dc132 (x := 4) (y := 1) bs_m_splits (by decide +kernel) (by decide +kernel)) icv_1 rfl (G_goto (off := -22) (nx := 75) (dc167 (x := 255) (y := 234) bs_m_splits (by decide +kernel) (by decide +kernel)) (by decide +kernel) (G_lbl (Gp_C <| Gp_I fun a1 => Gp_I fun a2 => Gp_I fun a3 => Gp_I fun a4 => Gp_E fun s r h => hK75 s a1 a2 a3 a4 r h))))))))))
    (G_lbl (Gp_C <| Gp_I fun a1 => Gp_I fun a2 => Gp_I fun a3 => Gp_I fun a4 => Gp_E fun s r h => B_m_splits_b100 K7 hK7 s a1 a2 a3 a4 r h)))))
    exact ht _ _ s r ((e_m_splits_b75 (m_splits_b75 K7 n) (m_splits_b100 K7) m_isDigit s l1 l2 l3 l4).symm.trans h)

set_option maxRecDepth 100000 in
set_option maxHeartbeats 4000000 in
theorem B_m_splits_b43 (K7 : Sg → Int32 → Int32 → Option Sg) (hK7 : ∀ (s : Sg) (l1 : Int32) (l2 : Int32) (r : Sg), K7 s l1 l2 = some r → g_Go M_m_splits retV 0 7 [some (.inr (.inr (some (10, 0)))), some (.inl l1), some (.inl l2), none, none, none] [] s r) : ∀ (n : Nat) (s : Sg) (l1 : Int32) (l2 : Int32) (l3 : Int32) (l4 : Int32) (r : Sg), m_splits_b43 K7 n s l1 l2 l3 l4 = some r → g_Go M_m_splits retV 0 43 [some (.inr (.inr (some (10, 0)))), some (.inl l1), some (.inl l2), some (.inl l3), some (.inl l4), none] [] s r := by
  intro n
  induction n with
  | zero => intro s l1 l2 l3 l4 r h; cases h
  | succ n hK43 =>
    intro s l1 l2 l3 l4 r h
    have ht : g_Gd M_m_splits retV 0 43 (t_m_splits_b43 (m_splits_b43 K7 n) (m_splits_b75 K7 FU) (m_splits_b100 K7) m_isSmall m_isDigit) := (G_ldI (nx := 45) (dc21 (x := 4) bs_m_splits (by decide +kernel)) rfl (G_ldIn (n := 1) (nx := 46) (dc27 bs_m_splits (by decide +kernel)) rfl rfl (G_icmpge (off := 22) (tg := 68) (nf := 49) (dc162 (x := 0) (y := 22) bs_m_splits (by decide +kernel) (by decide +kernel)) (by decide +kernel) rfl
    (G_ldAn (n := 0) (nx := 50) (dc42 bs_m_splits (by decide +kernel)) rfl rfl (G_getRc (nx := 53) fl_10_41 rf_10_11 (dc180 (x := 0) (y := 41) bs_m_splits (by decide +kernel) rfl) rfl (G_ldI (nx := 55) (dc21 (x := 4) bs_m_splits (by decide +kernel)) rfl (G_bald (nx := 56) ak_48 (dc51 bs_m_splits (by decide +kernel)) rfl (G_callS (b0 := 0) (nx := 59) (g_Fn_of rfl h_m_isSmall) (cw_10_185) wd6_169 rfl ⟨by decide, by show 1 ≤ 21; decide⟩ (Nat.zero_le _) (dc184 (x := 0) (y := 185) bs_m_splits (by decide +kernel) rfl) rfl (G_ifeq (off := 9) (tg := 68) (nf := 62) (dc153 (x := 0) (y := 9) bs_m_splits (by decide +kernel) (by decide +kernel)) (by decide +kernel) rfl
      (G_ldIn (n := 3) (nx := 69) (dc29 bs_m_splits (by decide +kernel)) rfl rfl (G_callS (b0 := 0) (nx := 72) (g_Fn_of rfl h_m_isDigit) (cw_10_188) wd6_172 rfl ⟨by decide, by show 1 ≤ 21; decide⟩ (Nat.zero_le _) (dc184 (x := 0) (y := 188) bs_m_splits (by decide +kernel) rfl) rfl (G_ifeq (off := 28) (tg := 100) (nf := 75) (dc153 (x := 0) (y := 28) bs_m_splits (by decide +kernel) (by decide +kernel)) (by decide +kernel) rfl
        (G_lbl (Gp_C <| Gp_I fun a1 => Gp_I fun a2 => Gp_I fun a3 => Gp_I fun a4 => Gp_E fun s r h => B_m_splits_b100 K7 hK7 s a1 a2 a3 a4 r h))
        (G_lbl (Gp_C <| Gp_I fun a1 => Gp_I fun a2 => Gp_I fun a3 => Gp_I fun a4 => Gp_E fun s r h => B_m_splits_b75 K7 hK7 FU s a1 a2 a3 a4 r h)))))
      (G_inc (n := 1) (nx := 65) (by show 4 < 6; decide) (dc132 (x := 4) (y := 1) bs_m_splits (by decide +kernel) (by decide +kernel)) icv_1 rfl (G_goto (off := -22) (nx := 43) (dc167 (x := 255) (y := 234) bs_m_splits (by decide +kernel) (by decide +kernel)) (by decide +kernel) (G_lbl (Gp_C <| Gp_I fun a1 => Gp_I fun a2 => Gp_I fun a3 => Gp_I fun a4 => Gp_E fun s r h => hK43 s a1 a2 a3 a4 r h))))))))))
    (G_ldIn (n := 3) (nx := 69) (dc29 bs_m_splits (by decide +kernel)) rfl rfl (G_callS (b0 := 0) (nx := 72) (g_Fn_of rfl h_m_isDigit) (cw_10_188) wd6_172 rfl ⟨by decide, by show 1 ≤ 21; decide⟩ (Nat.zero_le _) (dc184 (x := 0) (y := 188) bs_m_splits (by decide +kernel) rfl) rfl (G_ifeq (off := 28) (tg := 100) (nf := 75) (dc153 (x := 0) (y := 28) bs_m_splits (by decide +kernel) (by decide +kernel)) (by decide +kernel) rfl
      (G_lbl (Gp_C <| Gp_I fun a1 => Gp_I fun a2 => Gp_I fun a3 => Gp_I fun a4 => Gp_E fun s r h => B_m_splits_b100 K7 hK7 s a1 a2 a3 a4 r h))
      (G_lbl (Gp_C <| Gp_I fun a1 => Gp_I fun a2 => Gp_I fun a3 => Gp_I fun a4 => Gp_E fun s r h => B_m_splits_b75 K7 hK7 FU s a1 a2 a3 a4 r h))))))))
    exact ht _ _ s r ((e_m_splits_b43 (m_splits_b43 K7 n) (m_splits_b75 K7 FU) (m_splits_b100 K7) m_isSmall m_isDigit s l1 l2 l3 l4).symm.trans h)

set_option maxRecDepth 100000 in
set_option maxHeartbeats 4000000 in
theorem B_m_splits_b7 : ∀ (n : Nat) (s : Sg) (l1 : Int32) (l2 : Int32) (r : Sg), m_splits_b7 n s l1 l2 = some r → g_Go M_m_splits retV 0 7 [some (.inr (.inr (some (10, 0)))), some (.inl l1), some (.inl l2), none, none, none] [] s r := by
  intro n
  induction n with
  | zero => intro s l1 l2 r h; cases h
  | succ n hK7 =>
    intro s l1 l2 r h
    have ht : g_Gd M_m_splits retV 0 7 (t_m_splits_b7 (m_splits_b7 n) (m_splits_b43 (m_splits_b7 n) FU) (m_splits_b75 (m_splits_b7 n) FU) (m_splits_b100 (m_splits_b7 n)) m_isSmall m_isDigit) := (G_ldIn (n := 2) (nx := 8) (dc28 bs_m_splits (by decide +kernel)) rfl rfl (G_ldIn (n := 1) (nx := 9) (dc27 bs_m_splits (by decide +kernel)) rfl rfl (G_icmpge (off := 254) (tg := 263) (nf := 12) (dc162 (x := 0) (y := 254) bs_m_splits (by decide +kernel) (by decide +kernel)) (by decide +kernel) rfl
    (G_ldAn (n := 0) (nx := 13) (dc42 bs_m_splits (by decide +kernel)) rfl rfl (G_getRc (nx := 16) fl_10_41 rf_10_11 (dc180 (x := 0) (y := 41) bs_m_splits (by decide +kernel) rfl) rfl (G_ldIn (n := 2) (nx := 17) (dc28 bs_m_splits (by decide +kernel)) rfl rfl (G_bald (nx := 18) ak_48 (dc51 bs_m_splits (by decide +kernel)) rfl (G_stIn (n := 3) (nx := 19) (by show 3 < 6; decide) (dc62 bs_m_splits (by decide +kernel)) rfl rfl (G_ldIn (n := 3) (nx := 20) (dc29 bs_m_splits (by decide +kernel)) rfl rfl (G_bi (n := 32) (nx := 22) (dc16 (x := 32) bs_m_splits (by decide +kernel) (by decide +kernel)) biv_32 rfl (G_icmpne (off := 9) (tg := 31) (nf := 25) (dc160 (x := 0) (y := 9) bs_m_splits (by decide +kernel) (by decide +kernel)) (by decide +kernel) rfl
      (G_inc (n := 1) (nx := 28) (by show 2 < 6; decide) (dc132 (x := 2) (y := 1) bs_m_splits (by decide +kernel) (by decide +kernel)) icv_1 rfl (G_goto (off := -21) (nx := 7) (dc167 (x := 255) (y := 235) bs_m_splits (by decide +kernel) (by decide +kernel)) (by decide +kernel) (G_lbl (Gp_C <| Gp_I fun a1 => Gp_I fun a2 => Gp_E fun s r h => hK7 s a1 a2 r h))))
      (G_ldIn (n := 2) (nx := 32) (dc28 bs_m_splits (by decide +kernel)) rfl rfl (G_ic (n := 1) (nx := 33) (dc4 bs_m_splits (by decide +kernel)) icv_1 rfl (G_iadd (nx := 34) (dc96 bs_m_splits (by decide +kernel)) rfl (G_stI (nx := 36) (by show 4 < 6; decide) (dc54 (x := 4) bs_m_splits (by decide +kernel)) rfl (G_ldIn (n := 3) (nx := 37) (dc29 bs_m_splits (by decide +kernel)) rfl rfl (G_callS (b0 := 0) (nx := 40) (g_Fn_of rfl h_m_isSmall) (cw_10_185) wd6_169 rfl ⟨by decide, by show 1 ≤ 21; decide⟩ (Nat.zero_le _) (dc184 (x := 0) (y := 185) bs_m_splits (by decide +kernel) rfl) rfl (G_ifeq (off := 28) (tg := 68) (nf := 43) (dc153 (x := 0) (y := 28) bs_m_splits (by decide +kernel) (by decide +kernel)) (by decide +kernel) rfl
        (G_ldIn (n := 3) (nx := 69) (dc29 bs_m_splits (by decide +kernel)) rfl rfl (G_callS (b0 := 0) (nx := 72) (g_Fn_of rfl h_m_isDigit) (cw_10_188) wd6_172 rfl ⟨by decide, by show 1 ≤ 21; decide⟩ (Nat.zero_le _) (dc184 (x := 0) (y := 188) bs_m_splits (by decide +kernel) rfl) rfl (G_ifeq (off := 28) (tg := 100) (nf := 75) (dc153 (x := 0) (y := 28) bs_m_splits (by decide +kernel) (by decide +kernel)) (by decide +kernel) rfl
          (G_lbl (Gp_C <| Gp_I fun a1 => Gp_I fun a2 => Gp_I fun a3 => Gp_I fun a4 => Gp_E fun s r h => B_m_splits_b100 (m_splits_b7 n) hK7 s a1 a2 a3 a4 r h))
          (G_lbl (Gp_C <| Gp_I fun a1 => Gp_I fun a2 => Gp_I fun a3 => Gp_I fun a4 => Gp_E fun s r h => B_m_splits_b75 (m_splits_b7 n) hK7 FU s a1 a2 a3 a4 r h)))))
        (G_lbl (Gp_C <| Gp_I fun a1 => Gp_I fun a2 => Gp_I fun a3 => Gp_I fun a4 => Gp_E fun s r h => B_m_splits_b43 (m_splits_b7 n) hK7 FU s a1 a2 a3 a4 r h)))))))))))))))))
    (G_ldAn (n := 0) (nx := 264) (dc42 bs_m_splits (by decide +kernel)) rfl rfl (G_getRc (nx := 267) fl_10_56 rf_10_17 (dc180 (x := 0) (y := 56) bs_m_splits (by decide +kernel) rfl) rfl (G_ldAn (n := 0) (nx := 268) (dc42 bs_m_splits (by decide +kernel)) rfl rfl (G_getI (nx := 271) fl_10_182 (Or.inl rfl) (dc180 (x := 0) (y := 182) bs_m_splits (by decide +kernel) rfl) rfl (G_ldIn (n := 1) (nx := 272) (dc27 bs_m_splits (by decide +kernel)) rfl rfl (G_iast (nx := 273) ak_52 (by decide) (dc79 bs_m_splits (by decide +kernel)) rfl (G_ldAn (n := 0) (nx := 274) (dc42 bs_m_splits (by decide +kernel)) rfl rfl (G_getRc (nx := 277) fl_10_50 rf_10_15 (dc180 (x := 0) (y := 50) bs_m_splits (by decide +kernel) rfl) rfl (G_ldAn (n := 0) (nx := 278) (dc42 bs_m_splits (by decide +kernel)) rfl rfl (G_getI (nx := 281) fl_10_182 (Or.inl rfl) (dc180 (x := 0) (y := 182) bs_m_splits (by decide +kernel) rfl) rfl (G_ic (n := 0) (nx := 282) (dc3 bs_m_splits (by decide +kernel)) icv_0 rfl (G_iast (nx := 283) ak_50 (by decide) (dc79 bs_m_splits (by decide +kernel)) rfl (G_ldAn (n := 0) (nx := 284) (dc42 bs_m_splits (by decide +kernel)) rfl rfl (G_getRc (nx := 287) fl_10_53 rf_10_16 (dc180 (x := 0) (y := 53) bs_m_splits (by decide +kernel) rfl) rfl (G_ldAn (n := 0) (nx := 288) (dc42 bs_m_splits (by decide +kernel)) rfl rfl (G_getI (nx := 291) fl_10_182 (Or.inl rfl) (dc180 (x := 0) (y := 182) bs_m_splits (by decide +kernel) rfl) rfl (G_ic (n := 0) (nx := 292) (dc3 bs_m_splits (by decide +kernel)) icv_0 rfl (G_iast (nx := 293) ak_51 (by decide) (dc79 bs_m_splits (by decide +kernel)) rfl (G_vret rfl (dc177 bs_m_splits (by decide +kernel))))))))))))))))))))))))
    exact ht _ _ s r ((e_m_splits_b7 (m_splits_b7 n) (m_splits_b43 (m_splits_b7 n) FU) (m_splits_b75 (m_splits_b7 n) FU) (m_splits_b100 (m_splits_b7 n)) m_isSmall m_isDigit s l1 l2).symm.trans h)

set_option maxRecDepth 100000 in
set_option maxHeartbeats 4000000 in
theorem h_m_splits : g_Ft M_m_splits yX10_splits 2 (FW_m_splits m_splits) := by
  intro l w hw σ as hlen hwf hok ρ k r e
  unfold FW_m_splits at e
  obtain ⟨hh0, e⟩ := p_C_inv e
  obtain ⟨l1, hh1, e⟩ := p_I_inv e
  have e := p_E_inv e
  obtain ⟨q, e1, e2⟩ := Option.bind_eq_some_iff.mp e
  have has : as = [.inr (.inr (some (10, 0))), .inl l1] := g_as2 hlen hh0 hh1
  subst has
  have hGo : g_Go M_m_splits retV (me M_m_splits) 0 (g_loc [.inr (.inr (some (10, 0))), .inl l1] (ml M_m_splits)) [] σ q := by
    have ht : g_Gd M_m_splits retV (me M_m_splits) 0 (t_m_splits (m_splits_b7 FU)) := (G_ldAn (n := 0) (nx := 1) (dc42 bs_m_splits (by decide +kernel)) rfl rfl (G_ic (n := 0) (nx := 2) (dc3 bs_m_splits (by decide +kernel)) icv_0 rfl (G_putI (nx := 5) fp_10_182 rfl (dc181 (x := 0) (y := 182) bs_m_splits (by decide +kernel) rfl) rfl (G_ic (n := 0) (nx := 6) (dc3 bs_m_splits (by decide +kernel)) icv_0 rfl (G_stIn (n := 2) (nx := 7) (by show 2 < 6; decide) (dc61 bs_m_splits (by decide +kernel)) rfl rfl (G_lbl (Gp_C <| Gp_I fun a1 => Gp_I fun a2 => Gp_E fun s r h => B_m_splits_b7 FU s a1 a2 r h)))))))
    exact ht _ _ σ q ((e_m_splits (m_splits_b7 FU) σ l1).symm.trans e1)
  exact g_meth (σ' := q) (v := none) (by decide) rfl hw hwf hok (Nat.le_of_ble_eq_true rfl) hGo (fun σ2 v2 h => retV_inv h) (by exact e2)

set_option maxRecDepth 100000 in
set_option maxHeartbeats 4000000 in
theorem h_m_fine : g_Ft M_m_fine yX10_fine 1 (FW_m_fine m_fine) := by
  intro l w hw σ as hlen hwf hok ρ k r e
  unfold FW_m_fine at e
  obtain ⟨hh0, e⟩ := p_C_inv e
  have e := p_E_inv e
  obtain ⟨q, e1, e2⟩ := Option.bind_eq_some_iff.mp e
  have has : as = [.inr (.inr (some (10, 0)))] := g_as1 hlen hh0
  subst has
  have hGo : g_Go M_m_fine retI (me M_m_fine) 0 (g_loc [.inr (.inr (some (10, 0)))] (ml M_m_fine)) [] σ q := by
    have ht : g_Gd M_m_fine retI (me M_m_fine) 0 (t_m_fine) := (G_ldAn (n := 0) (nx := 1) (dc42 bs_m_fine (by decide +kernel)) rfl rfl (G_getI (nx := 4) fl_10_196 (Or.inl rfl) (dc180 (x := 0) (y := 196) bs_m_fine (by decide +kernel) rfl) rfl (G_ic (n := -1) (nx := 5) (dc2 bs_m_fine (by decide +kernel)) icv_m1 rfl (G_icmpne (off := 7) (tg := 12) (nf := 8) (dc160 (x := 0) (y := 7) bs_m_fine (by decide +kernel) (by decide +kernel)) (by decide +kernel) rfl
  (G_ic (n := 1) (nx := 9) (dc4 bs_m_fine (by decide +kernel)) icv_1 rfl (G_goto (off := 4) (nx := 13) (dc167 (x := 0) (y := 4) bs_m_fine (by decide +kernel) (by decide +kernel)) (by decide +kernel) (G_zret rfl (dc172 bs_m_fine (by decide +kernel)))))
  (G_ic (n := 0) (nx := 13) (dc3 bs_m_fine (by decide +kernel)) icv_0 rfl (G_zret rfl (dc172 bs_m_fine (by decide +kernel))))))))
    exact ht _ _ σ q ((e_m_fine  σ ).symm.trans e1)
  exact g_meth (σ' := q.1) (v := some (.inl q.2)) (by decide) rfl hw hwf hok (Nat.le_of_ble_eq_true rfl) hGo (fun σ2 v2 h => retI_inv h) (by exact e2)

set_option maxRecDepth 100000 in
set_option maxHeartbeats 4000000 in
theorem h_m_faults : g_Ft M_m_faults yX10_faults 1 (FW_m_faults m_faults) := by
  intro l w hw σ as hlen hwf hok ρ k r e
  unfold FW_m_faults at e
  obtain ⟨hh0, e⟩ := p_C_inv e
  have e := p_E_inv e
  obtain ⟨q, e1, e2⟩ := Option.bind_eq_some_iff.mp e
  have has : as = [.inr (.inr (some (10, 0)))] := g_as1 hlen hh0
  subst has
  have hGo : g_Go M_m_faults retV (me M_m_faults) 0 (g_loc [.inr (.inr (some (10, 0)))] (ml M_m_faults)) [] σ q := by
    have ht : g_Gd M_m_faults retV (me M_m_faults) 0 (t_m_faults m_fine) := (G_ldAn (n := 0) (nx := 1) (dc42 bs_m_faults (by decide +kernel)) rfl rfl (G_callV (b0 := 0) (nx := 4) (T := TX10) (ci := 10) (g_Fn_of rfl h_m_fine) (cw_10_199) ⟨wd6_193, sel_GalleyRoomModel_fine___Z⟩ ⟨rfl, rfl⟩ ⟨by decide, by show 1 ≤ 21; decide⟩ (Nat.zero_le _) (rec_m_fine _) (dc182 (x := 0) (y := 199) bs_m_faults (by decide +kernel) rfl) rfl (G_ifeq (off := 16) (tg := 20) (nf := 7) (dc153 (x := 0) (y := 16) bs_m_faults (by decide +kernel) (by decide +kernel)) (by decide +kernel) rfl
  (G_vret rfl (dc177 bs_m_faults (by decide +kernel)))
  (G_ldAn (n := 0) (nx := 8) (dc42 bs_m_faults (by decide +kernel)) rfl rfl (G_ldAn (n := 0) (nx := 9) (dc42 bs_m_faults (by decide +kernel)) rfl rfl (G_getRc (nx := 12) fl_10_56 rf_10_17 (dc180 (x := 0) (y := 56) bs_m_faults (by decide +kernel) rfl) rfl (G_ldAn (n := 0) (nx := 13) (dc42 bs_m_faults (by decide +kernel)) rfl rfl (G_getI (nx := 16) fl_10_203 (Or.inl rfl) (dc180 (x := 0) (y := 203) bs_m_faults (by decide +kernel) rfl) rfl (G_iald (nx := 17) ak_52 (dc46 bs_m_faults (by decide +kernel)) rfl (G_putI (nx := 20) fp_10_196 rfl (dc181 (x := 0) (y := 196) bs_m_faults (by decide +kernel) rfl) rfl (G_vret rfl (dc177 bs_m_faults (by decide +kernel)))))))))))))
    exact ht _ _ σ q ((e_m_faults m_fine σ ).symm.trans e1)
  exact g_meth (σ' := q) (v := none) (by decide) rfl hw hwf hok (Nat.le_of_ble_eq_true rfl) hGo (fun σ2 v2 h => retV_inv h) (by exact e2)

set_option maxRecDepth 100000 in
set_option maxHeartbeats 4000000 in
theorem h_m_tellsOp : g_Ft M_m_tellsOp yX10_tellsOp 3 (FW_m_tellsOp m_tellsOp) := by
  intro l w hw σ as hlen hwf hok ρ k r e
  unfold FW_m_tellsOp at e
  obtain ⟨hh0, e⟩ := p_C_inv e
  obtain ⟨l1, hh1, e⟩ := p_I_inv e
  obtain ⟨l2, hh2, e⟩ := p_I_inv e
  have e := p_E_inv e
  obtain ⟨q, e1, e2⟩ := Option.bind_eq_some_iff.mp e
  have has : as = [.inr (.inr (some (10, 0))), .inl l1, .inl l2] := g_as3 hlen hh0 hh1 hh2
  subst has
  have hGo : g_Go M_m_tellsOp retI (me M_m_tellsOp) 0 (g_loc [.inr (.inr (some (10, 0))), .inl l1, .inl l2] (ml M_m_tellsOp)) [] σ q := by
    have ht : g_Gd M_m_tellsOp retI (me M_m_tellsOp) 0 (t_m_tellsOp m_fine) := (G_ldAn (n := 0) (nx := 1) (dc42 bs_m_tellsOp (by decide +kernel)) rfl rfl (G_callV (b0 := 0) (nx := 4) (T := TX10) (ci := 10) (g_Fn_of rfl h_m_fine) (cw_10_199) ⟨wd6_193, sel_GalleyRoomModel_fine___Z⟩ ⟨rfl, rfl⟩ ⟨by decide, by show 1 ≤ 21; decide⟩ (Nat.zero_le _) (rec_m_fine _) (dc182 (x := 0) (y := 199) bs_m_tellsOp (by decide +kernel) rfl) rfl (G_ifne (off := 5) (tg := 9) (nf := 7) (dc154 (x := 0) (y := 5) bs_m_tellsOp (by decide +kernel) (by decide +kernel)) (by decide +kernel) rfl
  (G_ic (n := 0) (nx := 8) (dc3 bs_m_tellsOp (by decide +kernel)) icv_0 rfl (G_iret rfl (dc172 bs_m_tellsOp (by decide +kernel))))
  (G_ldAn (n := 0) (nx := 10) (dc42 bs_m_tellsOp (by decide +kernel)) rfl rfl (G_getRc (nx := 13) fl_10_59 rf_10_22 (dc180 (x := 0) (y := 59) bs_m_tellsOp (by decide +kernel) rfl) rfl (G_ldAn (n := 0) (nx := 14) (dc42 bs_m_tellsOp (by decide +kernel)) rfl rfl (G_getI (nx := 17) fl_10_206 (Or.inl rfl) (dc180 (x := 0) (y := 206) bs_m_tellsOp (by decide +kernel) rfl) rfl (G_ldIn (n := 1) (nx := 18) (dc27 bs_m_tellsOp (by decide +kernel)) rfl rfl (G_iast (nx := 19) ak_53 (by decide) (dc79 bs_m_tellsOp (by decide +kernel)) rfl (G_ldAn (n := 0) (nx := 20) (dc42 bs_m_tellsOp (by decide +kernel)) rfl rfl (G_getRc (nx := 23) fl_10_62 rf_10_23 (dc180 (x := 0) (y := 62) bs_m_tellsOp (by decide +kernel) rfl) rfl (G_ldAn (n := 0) (nx := 24) (dc42 bs_m_tellsOp (by decide +kernel)) rfl rfl (G_getI (nx := 27) fl_10_206 (Or.inl rfl) (dc180 (x := 0) (y := 206) bs_m_tellsOp (by decide +kernel) rfl) rfl (G_ldIn (n := 2) (nx := 28) (dc28 bs_m_tellsOp (by decide +kernel)) rfl rfl (G_iast (nx := 29) ak_54 (by decide) (dc79 bs_m_tellsOp (by decide +kernel)) rfl (G_ldAn (n := 0) (nx := 30) (dc42 bs_m_tellsOp (by decide +kernel)) rfl rfl (G_dup (nx := 31) (dc89 bs_m_tellsOp (by decide +kernel)) rfl (G_getI (nx := 34) fl_10_206 (Or.inl rfl) (dc180 (x := 0) (y := 206) bs_m_tellsOp (by decide +kernel) rfl) rfl (G_ic (n := 1) (nx := 35) (dc4 bs_m_tellsOp (by decide +kernel)) icv_1 rfl (G_iadd (nx := 36) (dc96 bs_m_tellsOp (by decide +kernel)) rfl (G_putI (nx := 39) fp_10_206 rfl (dc181 (x := 0) (y := 206) bs_m_tellsOp (by decide +kernel) rfl) rfl (G_ldAn (n := 0) (nx := 40) (dc42 bs_m_tellsOp (by decide +kernel)) rfl rfl (G_getI (nx := 43) fl_10_206 (Or.inl rfl) (dc180 (x := 0) (y := 206) bs_m_tellsOp (by decide +kernel) rfl) rfl (G_ic (n := 1) (nx := 44) (dc4 bs_m_tellsOp (by decide +kernel)) icv_1 rfl (G_isub (nx := 45) (dc100 bs_m_tellsOp (by decide +kernel)) rfl (G_iret rfl (dc172 bs_m_tellsOp (by decide +kernel))))))))))))))))))))))))))))
    exact ht _ _ σ q ((e_m_tellsOp m_fine σ l1 l2).symm.trans e1)
  exact g_meth (σ' := q.1) (v := some (.inl q.2)) (by decide) rfl hw hwf hok (Nat.le_of_ble_eq_true rfl) hGo (fun σ2 v2 h => retI_inv h) (by exact e2)

set_option maxRecDepth 100000 in
set_option maxHeartbeats 4000000 in
theorem h_m_takes0 : g_Ft M_m_takes0 yX10_takes0 2 (FW_m_takes0 m_takes0) := by
  intro l w hw σ as hlen hwf hok ρ k r e
  unfold FW_m_takes0 at e
  obtain ⟨hh0, e⟩ := p_C_inv e
  obtain ⟨l1, hh1, e⟩ := p_I_inv e
  have e := p_E_inv e
  obtain ⟨q, e1, e2⟩ := Option.bind_eq_some_iff.mp e
  have has : as = [.inr (.inr (some (10, 0))), .inl l1] := g_as2 hlen hh0 hh1
  subst has
  have hGo : g_Go M_m_takes0 retI (me M_m_takes0) 0 (g_loc [.inr (.inr (some (10, 0))), .inl l1] (ml M_m_takes0)) [] σ q := by
    have ht : g_Gd M_m_takes0 retI (me M_m_takes0) 0 (t_m_takes0 m_fine) := (G_ldAn (n := 0) (nx := 1) (dc42 bs_m_takes0 (by decide +kernel)) rfl rfl (G_callV (b0 := 0) (nx := 4) (T := TX10) (ci := 10) (g_Fn_of rfl h_m_fine) (cw_10_199) ⟨wd6_193, sel_GalleyRoomModel_fine___Z⟩ ⟨rfl, rfl⟩ ⟨by decide, by show 1 ≤ 21; decide⟩ (Nat.zero_le _) (rec_m_fine _) (dc182 (x := 0) (y := 199) bs_m_takes0 (by decide +kernel) rfl) rfl (G_ifeq (off := 20) (tg := 24) (nf := 7) (dc153 (x := 0) (y := 20) bs_m_takes0 (by decide +kernel) (by decide +kernel)) (by decide +kernel) rfl
  (G_ic (n := 0) (nx := 25) (dc3 bs_m_takes0 (by decide +kernel)) icv_0 rfl (G_stIn (n := 2) (nx := 26) (by show 2 < 3; decide) (dc61 bs_m_takes0 (by decide +kernel)) rfl rfl (G_ldIn (n := 2) (nx := 27) (dc28 bs_m_takes0 (by decide +kernel)) rfl rfl (G_ifeq (off := 13) (tg := 40) (nf := 30) (dc153 (x := 0) (y := 13) bs_m_takes0 (by decide +kernel) (by decide +kernel)) (by decide +kernel) rfl
    (G_ldIn (n := 2) (nx := 41) (dc28 bs_m_takes0 (by decide +kernel)) rfl rfl (G_zret rfl (dc172 bs_m_takes0 (by decide +kernel))))
    (G_ldAn (n := 0) (nx := 31) (dc42 bs_m_takes0 (by decide +kernel)) rfl rfl (G_dup (nx := 32) (dc89 bs_m_takes0 (by decide +kernel)) rfl (G_getI (nx := 35) fl_10_203 (Or.inl rfl) (dc180 (x := 0) (y := 203) bs_m_takes0 (by decide +kernel) rfl) rfl (G_ic (n := 1) (nx := 36) (dc4 bs_m_takes0 (by decide +kernel)) icv_1 rfl (G_iadd (nx := 37) (dc96 bs_m_takes0 (by decide +kernel)) rfl (G_putI (nx := 40) fp_10_203 rfl (dc181 (x := 0) (y := 203) bs_m_takes0 (by decide +kernel) rfl) rfl (G_ldIn (n := 2) (nx := 41) (dc28 bs_m_takes0 (by decide +kernel)) rfl rfl (G_zret rfl (dc172 bs_m_takes0 (by decide +kernel))))))))))))))
  (G_ldAn (n := 0) (nx := 8) (dc42 bs_m_takes0 (by decide +kernel)) rfl rfl (G_getRc (nx := 11) fl_10_50 rf_10_15 (dc180 (x := 0) (y := 50) bs_m_takes0 (by decide +kernel) rfl) rfl (G_ldAn (n := 0) (nx := 12) (dc42 bs_m_takes0 (by decide +kernel)) rfl rfl (G_getI (nx := 15) fl_10_203 (Or.inl rfl) (dc180 (x := 0) (y := 203) bs_m_takes0 (by decide +kernel) rfl) rfl (G_iald (nx := 16) ak_50 (dc46 bs_m_takes0 (by decide +kernel)) rfl (G_ldIn (n := 1) (nx := 17) (dc27 bs_m_takes0 (by decide +kernel)) rfl rfl (G_icmpne (off := 7) (tg := 24) (nf := 20) (dc160 (x := 0) (y := 7) bs_m_takes0 (by decide +kernel) (by decide +kernel)) (by decide +kernel) rfl
    (G_ic (n := 1) (nx := 21) (dc4 bs_m_takes0 (by decide +kernel)) icv_1 rfl (G_goto (off := 4) (nx := 25) (dc167 (x := 0) (y := 4) bs_m_takes0 (by decide +kernel) (by decide +kernel)) (by decide +kernel) (G_stIn (n := 2) (nx := 26) (by show 2 < 3; decide) (dc61 bs_m_takes0 (by decide +kernel)) rfl rfl (G_ldIn (n := 2) (nx := 27) (dc28 bs_m_takes0 (by decide +kernel)) rfl rfl (G_ifeq (off := 13) (tg := 40) (nf := 30) (dc153 (x := 0) (y := 13) bs_m_takes0 (by decide +kernel) (by decide +kernel)) (by decide +kernel) rfl
      (G_ldIn (n := 2) (nx := 41) (dc28 bs_m_takes0 (by decide +kernel)) rfl rfl (G_zret rfl (dc172 bs_m_takes0 (by decide +kernel))))
      (G_ldAn (n := 0) (nx := 31) (dc42 bs_m_takes0 (by decide +kernel)) rfl rfl (G_dup (nx := 32) (dc89 bs_m_takes0 (by decide +kernel)) rfl (G_getI (nx := 35) fl_10_203 (Or.inl rfl) (dc180 (x := 0) (y := 203) bs_m_takes0 (by decide +kernel) rfl) rfl (G_ic (n := 1) (nx := 36) (dc4 bs_m_takes0 (by decide +kernel)) icv_1 rfl (G_iadd (nx := 37) (dc96 bs_m_takes0 (by decide +kernel)) rfl (G_putI (nx := 40) fp_10_203 rfl (dc181 (x := 0) (y := 203) bs_m_takes0 (by decide +kernel) rfl) rfl (G_ldIn (n := 2) (nx := 41) (dc28 bs_m_takes0 (by decide +kernel)) rfl rfl (G_zret rfl (dc172 bs_m_takes0 (by decide +kernel)))))))))))))))
    (G_ic (n := 0) (nx := 25) (dc3 bs_m_takes0 (by decide +kernel)) icv_0 rfl (G_stIn (n := 2) (nx := 26) (by show 2 < 3; decide) (dc61 bs_m_takes0 (by decide +kernel)) rfl rfl (G_ldIn (n := 2) (nx := 27) (dc28 bs_m_takes0 (by decide +kernel)) rfl rfl (G_ifeq (off := 13) (tg := 40) (nf := 30) (dc153 (x := 0) (y := 13) bs_m_takes0 (by decide +kernel) (by decide +kernel)) (by decide +kernel) rfl
      (G_ldIn (n := 2) (nx := 41) (dc28 bs_m_takes0 (by decide +kernel)) rfl rfl (G_zret rfl (dc172 bs_m_takes0 (by decide +kernel))))
      (G_ldAn (n := 0) (nx := 31) (dc42 bs_m_takes0 (by decide +kernel)) rfl rfl (G_dup (nx := 32) (dc89 bs_m_takes0 (by decide +kernel)) rfl (G_getI (nx := 35) fl_10_203 (Or.inl rfl) (dc180 (x := 0) (y := 203) bs_m_takes0 (by decide +kernel) rfl) rfl (G_ic (n := 1) (nx := 36) (dc4 bs_m_takes0 (by decide +kernel)) icv_1 rfl (G_iadd (nx := 37) (dc96 bs_m_takes0 (by decide +kernel)) rfl (G_putI (nx := 40) fp_10_203 rfl (dc181 (x := 0) (y := 203) bs_m_takes0 (by decide +kernel) rfl) rfl (G_ldIn (n := 2) (nx := 41) (dc28 bs_m_takes0 (by decide +kernel)) rfl rfl (G_zret rfl (dc172 bs_m_takes0 (by decide +kernel))))))))))))))))))))))))
    exact ht _ _ σ q ((e_m_takes0 m_fine σ l1).symm.trans e1)
  exact g_meth (σ' := q.1) (v := some (.inl q.2)) (by decide) rfl hw hwf hok (Nat.le_of_ble_eq_true rfl) hGo (fun σ2 v2 h => retI_inv h) (by exact e2)

set_option maxRecDepth 100000 in
set_option maxHeartbeats 4000000 in
theorem h_m_must : g_Ft M_m_must yX10_must 2 (FW_m_must m_must) := by
  intro l w hw σ as hlen hwf hok ρ k r e
  unfold FW_m_must at e
  obtain ⟨hh0, e⟩ := p_C_inv e
  obtain ⟨l1, hh1, e⟩ := p_I_inv e
  have e := p_E_inv e
  obtain ⟨q, e1, e2⟩ := Option.bind_eq_some_iff.mp e
  have has : as = [.inr (.inr (some (10, 0))), .inl l1] := g_as2 hlen hh0 hh1
  subst has
  have hGo : g_Go M_m_must retV (me M_m_must) 0 (g_loc [.inr (.inr (some (10, 0))), .inl l1] (ml M_m_must)) [] σ q := by
    have ht : g_Gd M_m_must retV (me M_m_must) 0 (t_m_must m_takes0 m_faults) := (G_ldAn (n := 0) (nx := 1) (dc42 bs_m_must (by decide +kernel)) rfl rfl (G_ldIn (n := 1) (nx := 2) (dc27 bs_m_must (by decide +kernel)) rfl rfl (G_callV (b0 := 0) (nx := 5) (T := TX10) (ci := 10) (g_Fn_of rfl h_m_takes0) (cw_10_209) ⟨wd6_189, sel_GalleyRoomModel_takes0__I_Z⟩ ⟨rfl, rfl⟩ ⟨by decide, by show 3 ≤ 21; decide⟩ (Nat.zero_le _) (rec_m_takes0 _) (dc182 (x := 0) (y := 209) bs_m_must (by decide +kernel) rfl) rfl (G_ifne (off := 7) (tg := 12) (nf := 8) (dc154 (x := 0) (y := 7) bs_m_must (by decide +kernel) (by decide +kernel)) (by decide +kernel) rfl
  (G_ldAn (n := 0) (nx := 9) (dc42 bs_m_must (by decide +kernel)) rfl rfl (G_callV (b0 := 0) (nx := 12) (T := TX10) (ci := 10) (g_Fn_of rfl h_m_faults) (cw_10_212) ⟨wd6_212, sel_GalleyRoomModel_faults___V⟩ ⟨rfl, rfl⟩ ⟨by decide, by show 1 ≤ 21; decide⟩ (Nat.zero_le _) (rec_m_faults _) (dc182 (x := 0) (y := 212) bs_m_must (by decide +kernel) rfl) rfl (G_vret rfl (dc177 bs_m_must (by decide +kernel)))))
  (G_vret rfl (dc177 bs_m_must (by decide +kernel)))))))
    exact ht _ _ σ q ((e_m_must m_takes0 m_faults σ l1).symm.trans e1)
  exact g_meth (σ' := q) (v := none) (by decide) rfl hw hwf hok (Nat.le_of_ble_eq_true rfl) hGo (fun σ2 v2 h => retV_inv h) (by exact e2)

set_option maxRecDepth 100000 in
set_option maxHeartbeats 4000000 in
theorem B_m_leaf_b13 (s : Sg) (r : Sg) (h : m_leaf_b13 s  = some r) : g_Go M_m_leaf retV 0 13 [some (.inr (.inr (some (10, 0))))] [] s r := by
  have ht : g_Gd M_m_leaf retV 0 13 (t_m_leaf_b13 m_fine) := (G_ldAn (n := 0) (nx := 14) (dc42 bs_m_leaf (by decide +kernel)) rfl rfl (G_dup (nx := 15) (dc89 bs_m_leaf (by decide +kernel)) rfl (G_getI (nx := 18) fl_10_215 (Or.inl rfl) (dc180 (x := 0) (y := 215) bs_m_leaf (by decide +kernel) rfl) rfl (G_ic (n := 1) (nx := 19) (dc4 bs_m_leaf (by decide +kernel)) icv_1 rfl (G_iadd (nx := 20) (dc96 bs_m_leaf (by decide +kernel)) rfl (G_putI (nx := 23) fp_10_215 rfl (dc181 (x := 0) (y := 215) bs_m_leaf (by decide +kernel) rfl) rfl (G_ldAn (n := 0) (nx := 24) (dc42 bs_m_leaf (by decide +kernel)) rfl rfl (G_callV (b0 := 0) (nx := 27) (T := TX10) (ci := 10) (g_Fn_of rfl h_m_fine) (cw_10_199) ⟨wd6_193, sel_GalleyRoomModel_fine___Z⟩ ⟨rfl, rfl⟩ ⟨by decide, by show 1 ≤ 21; decide⟩ (Nat.zero_le _) (rec_m_fine _) (dc182 (x := 0) (y := 199) bs_m_leaf (by decide +kernel) rfl) rfl (G_ifeq (off := 13) (tg := 40) (nf := 30) (dc153 (x := 0) (y := 13) bs_m_leaf (by decide +kernel) (by decide +kernel)) (by decide +kernel) rfl
    (G_vret rfl (dc177 bs_m_leaf (by decide +kernel)))
    (G_ldAn (n := 0) (nx := 31) (dc42 bs_m_leaf (by decide +kernel)) rfl rfl (G_dup (nx := 32) (dc89 bs_m_leaf (by decide +kernel)) rfl (G_getI (nx := 35) fl_10_203 (Or.inl rfl) (dc180 (x := 0) (y := 203) bs_m_leaf (by decide +kernel) rfl) rfl (G_ic (n := 1) (nx := 36) (dc4 bs_m_leaf (by decide +kernel)) icv_1 rfl (G_iadd (nx := 37) (dc96 bs_m_leaf (by decide +kernel)) rfl (G_putI (nx := 40) fp_10_203 rfl (dc181 (x := 0) (y := 203) bs_m_leaf (by decide +kernel) rfl) rfl (G_vret rfl (dc177 bs_m_leaf (by decide +kernel))))))))))))))))))
  exact ht _ _ s r ((e_m_leaf_b13 m_fine s ).symm.trans h)

set_option maxRecDepth 100000 in
set_option maxHeartbeats 4000000 in
theorem h_m_leaf : g_Ft M_m_leaf yX10_leaf 1 (FW_m_leaf m_leaf) := by
  intro l w hw σ as hlen hwf hok ρ k r e
  unfold FW_m_leaf at e
  obtain ⟨hh0, e⟩ := p_C_inv e
  have e := p_E_inv e
  obtain ⟨q, e1, e2⟩ := Option.bind_eq_some_iff.mp e
  have has : as = [.inr (.inr (some (10, 0)))] := g_as1 hlen hh0
  subst has
  have hGo : g_Go M_m_leaf retV (me M_m_leaf) 0 (g_loc [.inr (.inr (some (10, 0)))] (ml M_m_leaf)) [] σ q := by
    have ht : g_Gd M_m_leaf retV (me M_m_leaf) 0 (t_m_leaf (m_leaf_b13) m_faults) := (G_ldAn (n := 0) (nx := 1) (dc42 bs_m_leaf (by decide +kernel)) rfl rfl (G_getI (nx := 4) fl_10_215 (Or.inl rfl) (dc180 (x := 0) (y := 215) bs_m_leaf (by decide +kernel) rfl) rfl (G_bi (n := 50) (nx := 6) (dc16 (x := 50) bs_m_leaf (by decide +kernel) (by decide +kernel)) biv_50 rfl (G_icmpne (off := 7) (tg := 13) (nf := 9) (dc160 (x := 0) (y := 7) bs_m_leaf (by decide +kernel) (by decide +kernel)) (by decide +kernel) rfl
  (G_ldAn (n := 0) (nx := 10) (dc42 bs_m_leaf (by decide +kernel)) rfl rfl (G_callV (b0 := 0) (nx := 13) (T := TX10) (ci := 10) (g_Fn_of rfl h_m_faults) (cw_10_212) ⟨wd6_212, sel_GalleyRoomModel_faults___V⟩ ⟨rfl, rfl⟩ ⟨by decide, by show 1 ≤ 21; decide⟩ (Nat.zero_le _) (rec_m_faults _) (dc182 (x := 0) (y := 212) bs_m_leaf (by decide +kernel) rfl) rfl (G_lbl (Gp_C <| Gp_E fun s r h => B_m_leaf_b13 s  r h))))
  (G_lbl (Gp_C <| Gp_E fun s r h => B_m_leaf_b13 s  r h))))))
    exact ht _ _ σ q ((e_m_leaf (m_leaf_b13) m_faults σ ).symm.trans e1)
  exact g_meth (σ' := q) (v := none) (by decide) rfl hw hwf hok (Nat.le_of_ble_eq_true rfl) hGo (fun σ2 v2 h => retV_inv h) (by exact e2)

set_option maxRecDepth 100000 in
set_option maxHeartbeats 4000000 in
theorem h_m_sign : g_Ft M_m_sign yX10_sign 1 (FW_m_sign m_sign) := by
  intro l w hw σ as hlen hwf hok ρ k r e
  unfold FW_m_sign at e
  obtain ⟨l0, hh0, e⟩ := p_I_inv e
  have e := p_E_inv e
  obtain ⟨q, e1, e2⟩ := Option.bind_eq_some_iff.mp e
  have has : as = [.inl l0] := g_as1 hlen hh0
  subst has
  have hGo : g_Go M_m_sign retI (me M_m_sign) 0 (g_loc [.inl l0] (ml M_m_sign)) [] σ q := by
    have ht : g_Gd M_m_sign retI (me M_m_sign) 0 (t_m_sign) := (G_bi (n := 100) (nx := 2) (dc16 (x := 100) bs_m_sign (by decide +kernel) (by decide +kernel)) biv_100 rfl (G_ldIn (n := 0) (nx := 3) (dc26 bs_m_sign (by decide +kernel)) rfl rfl (G_iadd (nx := 4) (dc96 bs_m_sign (by decide +kernel)) rfl (G_iret rfl (dc172 bs_m_sign (by decide +kernel))))))
    exact ht _ _ σ q ((e_m_sign  σ l0).symm.trans e1)
  exact g_meth (σ' := q.1) (v := some (.inl q.2)) (by decide) rfl hw hwf hok (Nat.le_of_ble_eq_true rfl) hGo (fun σ2 v2 h => retI_inv h) (by exact e2)

