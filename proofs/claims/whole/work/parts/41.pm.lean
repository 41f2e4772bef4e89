set_option maxRecDepth 100000 in
set_option maxHeartbeats 4000000 in
theorem h_m_lies : g_Ft M_m_lies yX10_lies 3 (FW_m_lies m_lies) := by
  intro l w hw σ as hlen hwf hok ρ k r e
  unfold FW_m_lies at e
  obtain ⟨l0, hh0, e⟩ := p_I_inv e
  obtain ⟨l1, hh1, e⟩ := p_I_inv e
  obtain ⟨l2, hh2, e⟩ := p_I_inv e
  have e := p_E_inv e
  obtain ⟨q, e1, e2⟩ := Option.bind_eq_some_iff.mp e
  have has : as = [.inl l0, .inl l1, .inl l2] := g_as3 hlen hh0 hh1 hh2
  subst has
  have hGo : g_Go M_m_lies retI (me M_m_lies) 0 (g_loc [.inl l0, .inl l1, .inl l2] (ml M_m_lies)) [] σ q := by
    have ht : g_Gd M_m_lies retI (me M_m_lies) 0 (t_m_lies) := (G_ldIn (n := 0) (nx := 1) (by decide +kernel) rfl rfl (G_ldIn (n := 1) (nx := 2) (by decide +kernel) rfl rfl (G_icmplt (off := 12) (tg := 14) (nf := 5) (by decide +kernel) (by decide +kernel) rfl
  (G_ic (n := 0) (nx := 15) (by decide +kernel) icv_0 rfl (G_zret rfl (by decide +kernel)))
  (G_ldIn (n := 0) (nx := 6) (by decide +kernel) rfl rfl (G_ldIn (n := 2) (nx := 7) (by decide +kernel) rfl rfl (G_icmpgt (off := 7) (tg := 14) (nf := 10) (by decide +kernel) (by decide +kernel) rfl
    (G_ic (n := 0) (nx := 15) (by decide +kernel) icv_0 rfl (G_zret rfl (by decide +kernel)))
    (G_ic (n := 1) (nx := 11) (by decide +kernel) icv_1 rfl (G_goto (off := 4) (nx := 15) (by decide +kernel) (by decide +kernel) (G_zret rfl (by decide +kernel))))))))))
    exact ht _ _ σ q ((e_m_lies  σ l0 l1 l2).symm.trans e1)
  exact g_meth (σ' := q.1) (v := some (.inl q.2)) (by decide) rfl hw hwf hok (Nat.le_of_ble_eq_true rfl) hGo (fun σ2 v2 h => retI_inv h) (by exact e2)

set_option maxRecDepth 100000 in
set_option maxHeartbeats 4000000 in
theorem h_m_lesser : g_Ft M_m_lesser yX10_lesser 2 (FW_m_lesser m_lesser) := by
  intro l w hw σ as hlen hwf hok ρ k r e
  unfold FW_m_lesser at e
  obtain ⟨l0, hh0, e⟩ := p_I_inv e
  obtain ⟨l1, hh1, e⟩ := p_I_inv e
  have e := p_E_inv e
  obtain ⟨q, e1, e2⟩ := Option.bind_eq_some_iff.mp e
  have has : as = [.inl l0, .inl l1] := g_as2 hlen hh0 hh1
  subst has
  have hGo : g_Go M_m_lesser retI (me M_m_lesser) 0 (g_loc [.inl l0, .inl l1] (ml M_m_lesser)) [] σ q := by
    have ht : g_Gd M_m_lesser retI (me M_m_lesser) 0 (t_m_lesser) := (G_ldIn (n := 0) (nx := 1) (by decide +kernel) rfl rfl (G_ldIn (n := 1) (nx := 2) (by decide +kernel) rfl rfl (G_icmpge (off := 7) (tg := 9) (nf := 5) (by decide +kernel) (by decide +kernel) rfl
  (G_ldIn (n := 0) (nx := 6) (by decide +kernel) rfl rfl (G_goto (off := 4) (nx := 10) (by decide +kernel) (by decide +kernel) (G_iret rfl (by decide +kernel))))
  (G_ldIn (n := 1) (nx := 10) (by decide +kernel) rfl rfl (G_iret rfl (by decide +kernel))))))
    exact ht _ _ σ q ((e_m_lesser  σ l0 l1).symm.trans e1)
  exact g_meth (σ' := q.1) (v := some (.inl q.2)) (by decide) rfl hw hwf hok (Nat.le_of_ble_eq_true rfl) hGo (fun σ2 v2 h => retI_inv h) (by exact e2)

set_option maxRecDepth 100000 in
set_option maxHeartbeats 4000000 in
theorem h_m_greater : g_Ft M_m_greater yX10_greater 2 (FW_m_greater m_greater) := by
  intro l w hw σ as hlen hwf hok ρ k r e
  unfold FW_m_greater at e
  obtain ⟨l0, hh0, e⟩ := p_I_inv e
  obtain ⟨l1, hh1, e⟩ := p_I_inv e
  have e := p_E_inv e
  obtain ⟨q, e1, e2⟩ := Option.bind_eq_some_iff.mp e
  have has : as = [.inl l0, .inl l1] := g_as2 hlen hh0 hh1
  subst has
  have hGo : g_Go M_m_greater retI (me M_m_greater) 0 (g_loc [.inl l0, .inl l1] (ml M_m_greater)) [] σ q := by
    have ht : g_Gd M_m_greater retI (me M_m_greater) 0 (t_m_greater) := (G_ldIn (n := 0) (nx := 1) (by decide +kernel) rfl rfl (G_ldIn (n := 1) (nx := 2) (by decide +kernel) rfl rfl (G_icmple (off := 7) (tg := 9) (nf := 5) (by decide +kernel) (by decide +kernel) rfl
  (G_ldIn (n := 0) (nx := 6) (by decide +kernel) rfl rfl (G_goto (off := 4) (nx := 10) (by decide +kernel) (by decide +kernel) (G_iret rfl (by decide +kernel))))
  (G_ldIn (n := 1) (nx := 10) (by decide +kernel) rfl rfl (G_iret rfl (by decide +kernel))))))
    exact ht _ _ σ q ((e_m_greater  σ l0 l1).symm.trans e1)
  exact g_meth (σ' := q.1) (v := some (.inl q.2)) (by decide) rfl hw hwf hok (Nat.le_of_ble_eq_true rfl) hGo (fun σ2 v2 h => retI_inv h) (by exact e2)

set_option maxRecDepth 100000 in
set_option maxHeartbeats 4000000 in
theorem h_m_refuses : g_Ft M_m_refuses yX10_refuses 2 (FW_m_refuses m_refuses) := by
  intro l w hw σ as hlen hwf hok ρ k r e
  unfold FW_m_refuses at e
  obtain ⟨hh0, e⟩ := p_C_inv e
  obtain ⟨l1, hh1, e⟩ := p_I_inv e
  have e := p_E_inv e
  obtain ⟨q, e1, e2⟩ := Option.bind_eq_some_iff.mp e
  have has : as = [.inr (.inr (some (10, 0))), .inl l1] := g_as2 hlen hh0 hh1
  subst has
  have hGo : g_Go M_m_refuses retI (me M_m_refuses) 0 (g_loc [.inr (.inr (some (10, 0))), .inl l1] (ml M_m_refuses)) [] σ q := by
    have ht : g_Gd M_m_refuses retI (me M_m_refuses) 0 (t_m_refuses) := (G_ldAn (n := 0) (nx := 1) (by decide +kernel) rfl rfl (G_ldIn (n := 1) (nx := 2) (by decide +kernel) rfl rfl (G_putI (nx := 5) fp_10_3 rfl (by decide +kernel) rfl (G_ldAn (n := 0) (nx := 6) (by decide +kernel) rfl rfl (G_getRc (nx := 9) fl_10_7 rf_10_1 (by decide +kernel) rfl (G_ldIn (n := 1) (nx := 10) (by decide +kernel) rfl rfl (G_neg (nx := 11) (by decide +kernel) rfl (G_dup2 (nx := 12) (by decide +kernel) rfl (G_iald (nx := 13) ak_42 (by decide +kernel) rfl (G_ic (n := 1) (nx := 14) (by decide +kernel) icv_1 rfl (G_iadd (nx := 15) (by decide +kernel) rfl (G_iast (nx := 16) ak_42 (by decide) (by decide +kernel) rfl (G_ldIn (n := 1) (nx := 17) (by decide +kernel) rfl rfl (G_iret rfl (by decide +kernel)))))))))))))))
    exact ht _ _ σ q ((e_m_refuses  σ l1).symm.trans e1)
  exact g_meth (σ' := q.1) (v := some (.inl q.2)) (by decide) rfl hw hwf hok (Nat.le_of_ble_eq_true rfl) hGo (fun σ2 v2 h => retI_inv h) (by exact e2)

set_option maxRecDepth 100000 in
set_option maxHeartbeats 4000000 in
theorem h_m_good : g_Ft M_m_good yX10_good 2 (FW_m_good m_good) := by
  intro l w hw σ as hlen hwf hok ρ k r e
  unfold FW_m_good at e
  obtain ⟨hh0, e⟩ := p_C_inv e
  obtain ⟨l1, hh1, e⟩ := p_I_inv e
  have e := p_E_inv e
  obtain ⟨q, e1, e2⟩ := Option.bind_eq_some_iff.mp e
  have has : as = [.inr (.inr (some (10, 0))), .inl l1] := g_as2 hlen hh0 hh1
  subst has
  have hGo : g_Go M_m_good retI (me M_m_good) 0 (g_loc [.inr (.inr (some (10, 0))), .inl l1] (ml M_m_good)) [] σ q := by
    have ht : g_Gd M_m_good retI (me M_m_good) 0 (t_m_good) := (G_ldAn (n := 0) (nx := 1) (by decide +kernel) rfl rfl (G_ic (n := 0) (nx := 2) (by decide +kernel) icv_0 rfl (G_putI (nx := 5) fp_10_3 rfl (by decide +kernel) rfl (G_ldIn (n := 1) (nx := 6) (by decide +kernel) rfl rfl (G_iret rfl (by decide +kernel))))))
    exact ht _ _ σ q ((e_m_good  σ l1).symm.trans e1)
  exact g_meth (σ' := q.1) (v := some (.inl q.2)) (by decide) rfl hw hwf hok (Nat.le_of_ble_eq_true rfl) hGo (fun σ2 v2 h => retI_inv h) (by exact e2)

set_option maxRecDepth 100000 in
set_option maxHeartbeats 4000000 in
theorem h_m_settled : g_Ft M_m_settled yX10_settled 2 (FW_m_settled m_settled) := by
  intro l w hw σ as hlen hwf hok ρ k r e
  unfold FW_m_settled at e
  obtain ⟨hh0, e⟩ := p_C_inv e
  obtain ⟨l1, hh1, e⟩ := p_I_inv e
  have e := p_E_inv e
  obtain ⟨q, e1, e2⟩ := Option.bind_eq_some_iff.mp e
  have has : as = [.inr (.inr (some (10, 0))), .inl l1] := g_as2 hlen hh0 hh1
  subst has
  have hGo : g_Go M_m_settled retI (me M_m_settled) 0 (g_loc [.inr (.inr (some (10, 0))), .inl l1] (ml M_m_settled)) [] σ q := by
    have ht : g_Gd M_m_settled retI (me M_m_settled) 0 (t_m_settled m_good) := (G_ldAn (n := 0) (nx := 1) (by decide +kernel) rfl rfl (G_ic (n := 0) (nx := 2) (by decide +kernel) icv_0 rfl (G_putI (nx := 5) fp_10_11 rfl (by decide +kernel) rfl (G_ldAn (n := 0) (nx := 6) (by decide +kernel) rfl rfl (G_ldIn (n := 1) (nx := 7) (by decide +kernel) rfl rfl (G_callV (b0 := 0) (nx := 10) (T := TX10) (ci := 10) (g_Fn_of rfl h_m_good) (cw_10_14) ⟨wd6_82, sel_GalleyRoomModel_good__I_I⟩ ⟨rfl, rfl⟩ ⟨by decide, by show 2 ≤ 21; decide⟩ (Nat.zero_le _) (rec_m_good _) (by decide +kernel) rfl (G_iret rfl (by decide +kernel))))))))
    exact ht _ _ σ q ((e_m_settled m_good σ l1).symm.trans e1)
  exact g_meth (σ' := q.1) (v := some (.inl q.2)) (by decide) rfl hw hwf hok (Nat.le_of_ble_eq_true rfl) hGo (fun σ2 v2 h => retI_inv h) (by exact e2)

set_option maxRecDepth 100000 in
set_option maxHeartbeats 4000000 in
theorem h_m_isIn : g_Ft M_m_isIn yX10_isIn 2 (FW_m_isIn m_isIn) := by
  intro l w hw σ as hlen hwf hok ρ k r e
  unfold FW_m_isIn at e
  obtain ⟨l0, hh0, e⟩ := p_I_inv e
  obtain ⟨l1, hh1, e⟩ := p_I_inv e
  have e := p_E_inv e
  obtain ⟨q, e1, e2⟩ := Option.bind_eq_some_iff.mp e
  have has : as = [.inl l0, .inl l1] := g_as2 hlen hh0 hh1
  subst has
  have hGo : g_Go M_m_isIn retI (me M_m_isIn) 0 (g_loc [.inl l0, .inl l1] (ml M_m_isIn)) [] σ q := by
    have ht : g_Gd M_m_isIn retI (me M_m_isIn) 0 (t_m_isIn) := (G_ldIn (n := 0) (nx := 1) (by decide +kernel) rfl rfl (G_ldIn (n := 1) (nx := 2) (by decide +kernel) rfl rfl (G_ishr (nx := 3) (by decide +kernel) rfl (G_ic (n := 1) (nx := 4) (by decide +kernel) icv_1 rfl (G_iand (nx := 5) (by decide +kernel) rfl (G_ic (n := 1) (nx := 6) (by decide +kernel) icv_1 rfl (G_icmpne (off := 7) (tg := 13) (nf := 9) (by decide +kernel) (by decide +kernel) rfl
  (G_ic (n := 1) (nx := 10) (by decide +kernel) icv_1 rfl (G_goto (off := 4) (nx := 14) (by decide +kernel) (by decide +kernel) (G_zret rfl (by decide +kernel))))
  (G_ic (n := 0) (nx := 14) (by decide +kernel) icv_0 rfl (G_zret rfl (by decide +kernel))))))))))
    exact ht _ _ σ q ((e_m_isIn  σ l0 l1).symm.trans e1)
  exact g_meth (σ' := q.1) (v := some (.inl q.2)) (by decide) rfl hw hwf hok (Nat.le_of_ble_eq_true rfl) hGo (fun σ2 v2 h => retI_inv h) (by exact e2)

set_option maxRecDepth 100000 in
set_option maxHeartbeats 4000000 in
theorem B_m_laysAside_b2 : ∀ (n : Nat) (s : Sg) (l1 : Int32) (l2 : Int32) (r : Sg), m_laysAside_b2 n s l1 l2 = some r → g_Go M_m_laysAside retV 0 2 [some (.inr (.inr (some (10, 0)))), some (.inl l1), some (.inl l2)] [] s r := by
  intro n
  induction n with
  | zero => intro s l1 l2 r h; cases h
  | succ n hK2 =>
    intro s l1 l2 r h
    have ht : g_Gd M_m_laysAside retV 0 2 (t_m_laysAside_b2 (m_laysAside_b2 n)) := (G_ldIn (n := 2) (nx := 3) (by decide +kernel) rfl rfl (G_bi (n := 15) (nx := 5) (by decide +kernel) biv_15 rfl (G_icmpge (off := 26) (tg := 31) (nf := 8) (by decide +kernel) (by decide +kernel) rfl
    (G_ldAn (n := 0) (nx := 9) (by decide +kernel) rfl rfl (G_getRc (nx := 12) fl_10_34 rf_10_5 (by decide +kernel) rfl (G_bi (n := 15) (nx := 14) (by decide +kernel) biv_15 rfl (G_ldIn (n := 1) (nx := 15) (by decide +kernel) rfl rfl (G_imul (nx := 16) (by decide +kernel) rfl (G_ldIn (n := 2) (nx := 17) (by decide +kernel) rfl rfl (G_iadd (nx := 18) (by decide +kernel) rfl (G_ldAn (n := 0) (nx := 19) (by decide +kernel) rfl rfl (G_getRc (nx := 22) fl_10_24 rf_10_2 (by decide +kernel) rfl (G_ldIn (n := 2) (nx := 23) (by decide +kernel) rfl rfl (G_iald (nx := 24) ak_43 (by decide +kernel) rfl (G_iast (nx := 25) ak_46 (by decide) (by decide +kernel) rfl (G_inc (n := 1) (nx := 28) (by show 2 < 3; decide) (by decide +kernel) icv_1 rfl (G_goto (off := -26) (nx := 2) (by decide +kernel) (by decide +kernel) (G_lbl (Gp_C <| Gp_I fun a1 => Gp_I fun a2 => Gp_E fun s r h => hK2 s a1 a2 r h))))))))))))))))
    (G_vret rfl (by decide +kernel)))))
    exact ht _ _ s r ((e_m_laysAside_b2 (m_laysAside_b2 n) s l1 l2).symm.trans h)

set_option maxRecDepth 100000 in
set_option maxHeartbeats 4000000 in
theorem h_m_laysAside : g_Ft M_m_laysAside yX10_laysAside 2 (FW_m_laysAside m_laysAside) := by
  intro l w hw σ as hlen hwf hok ρ k r e
  unfold FW_m_laysAside at e
  obtain ⟨hh0, e⟩ := p_C_inv e
  obtain ⟨l1, hh1, e⟩ := p_I_inv e
  have e := p_E_inv e
  obtain ⟨q, e1, e2⟩ := Option.bind_eq_some_iff.mp e
  have has : as = [.inr (.inr (some (10, 0))), .inl l1] := g_as2 hlen hh0 hh1
  subst has
  have hGo : g_Go M_m_laysAside retV (me M_m_laysAside) 0 (g_loc [.inr (.inr (some (10, 0))), .inl l1] (ml M_m_laysAside)) [] σ q := by
    have ht : g_Gd M_m_laysAside retV (me M_m_laysAside) 0 (t_m_laysAside (m_laysAside_b2 FU)) := (G_ic (n := 0) (nx := 1) (by decide +kernel) icv_0 rfl (G_stIn (n := 2) (nx := 2) (by show 2 < 3; decide) (by decide +kernel) rfl rfl (G_lbl (Gp_C <| Gp_I fun a1 => Gp_I fun a2 => Gp_E fun s r h => B_m_laysAside_b2 FU s a1 a2 r h))))
    exact ht _ _ σ q ((e_m_laysAside (m_laysAside_b2 FU) σ l1).symm.trans e1)
  exact g_meth (σ' := q) (v := none) (by decide) rfl hw hwf hok (Nat.le_of_ble_eq_true rfl) hGo (fun σ2 v2 h => retV_inv h) (by exact e2)

set_option maxRecDepth 100000 in
set_option maxHeartbeats 4000000 in
theorem B_m_takesBack_b2 : ∀ (n : Nat) (s : Sg) (l1 : Int32) (l2 : Int32) (r : Sg), m_takesBack_b2 n s l1 l2 = some r → g_Go M_m_takesBack retV 0 2 [some (.inr (.inr (some (10, 0)))), some (.inl l1), some (.inl l2)] [] s r := by
  intro n
  induction n with
  | zero => intro s l1 l2 r h; cases h
  | succ n hK2 =>
    intro s l1 l2 r h
    have ht : g_Gd M_m_takesBack retV 0 2 (t_m_takesBack_b2 (m_takesBack_b2 n)) := (G_ldIn (n := 2) (nx := 3) (by decide +kernel) rfl rfl (G_bi (n := 15) (nx := 5) (by decide +kernel) biv_15 rfl (G_icmpge (off := 26) (tg := 31) (nf := 8) (by decide +kernel) (by decide +kernel) rfl
    (G_ldAn (n := 0) (nx := 9) (by decide +kernel) rfl rfl (G_getRc (nx := 12) fl_10_24 rf_10_2 (by decide +kernel) rfl (G_ldIn (n := 2) (nx := 13) (by decide +kernel) rfl rfl (G_ldAn (n := 0) (nx := 14) (by decide +kernel) rfl rfl (G_getRc (nx := 17) fl_10_34 rf_10_5 (by decide +kernel) rfl (G_bi (n := 15) (nx := 19) (by decide +kernel) biv_15 rfl (G_ldIn (n := 1) (nx := 20) (by decide +kernel) rfl rfl (G_imul (nx := 21) (by decide +kernel) rfl (G_ldIn (n := 2) (nx := 22) (by decide +kernel) rfl rfl (G_iadd (nx := 23) (by decide +kernel) rfl (G_iald (nx := 24) ak_46 (by decide +kernel) rfl (G_iast (nx := 25) ak_43 (by decide) (by decide +kernel) rfl (G_inc (n := 1) (nx := 28) (by show 2 < 3; decide) (by decide +kernel) icv_1 rfl (G_goto (off := -26) (nx := 2) (by decide +kernel) (by decide +kernel) (G_lbl (Gp_C <| Gp_I fun a1 => Gp_I fun a2 => Gp_E fun s r h => hK2 s a1 a2 r h))))))))))))))))
    (G_vret rfl (by decide +kernel)))))
    exact ht _ _ s r ((e_m_takesBack_b2 (m_takesBack_b2 n) s l1 l2).symm.trans h)

set_option maxRecDepth 100000 in
set_option maxHeartbeats 4000000 in
theorem h_m_takesBack : g_Ft M_m_takesBack yX10_takesBack 2 (FW_m_takesBack m_takesBack) := by
  intro l w hw σ as hlen hwf hok ρ k r e
  unfold FW_m_takesBack at e
  obtain ⟨hh0, e⟩ := p_C_inv e
  obtain ⟨l1, hh1, e⟩ := p_I_inv e
  have e := p_E_inv e
  obtain ⟨q, e1, e2⟩ := Option.bind_eq_some_iff.mp e
  have has : as = [.inr (.inr (some (10, 0))), .inl l1] := g_as2 hlen hh0 hh1
  subst has
  have hGo : g_Go M_m_takesBack retV (me M_m_takesBack) 0 (g_loc [.inr (.inr (some (10, 0))), .inl l1] (ml M_m_takesBack)) [] σ q := by
    have ht : g_Gd M_m_takesBack retV (me M_m_takesBack) 0 (t_m_takesBack (m_takesBack_b2 FU)) := (G_ic (n := 0) (nx := 1) (by decide +kernel) icv_0 rfl (G_stIn (n := 2) (nx := 2) (by show 2 < 3; decide) (by decide +kernel) rfl rfl (G_lbl (Gp_C <| Gp_I fun a1 => Gp_I fun a2 => Gp_E fun s r h => B_m_takesBack_b2 FU s a1 a2 r h))))
    exact ht _ _ σ q ((e_m_takesBack (m_takesBack_b2 FU) σ l1).symm.trans e1)
  exact g_meth (σ' := q) (v := none) (by decide) rfl hw hwf hok (Nat.le_of_ble_eq_true rfl) hGo (fun σ2 v2 h => retV_inv h) (by exact e2)

set_option maxRecDepth 100000 in
set_option maxHeartbeats 4000000 in
theorem B_m_image_b17 : ∀ (n : Nat) (s : Sg) (l1 : Int32) (l2 : Int32) (r : (Sg × Int32)), m_image_b17 n s l1 l2 = some r → g_Go M_m_image retI 0 17 [some (.inr (.inr (some (10, 0)))), some (.inl l1), some (.inl l2)] [] s r := by
  intro n
  induction n with
  | zero => intro s l1 l2 r h; cases h
  | succ n hK17 =>
    intro s l1 l2 r h
    have ht : g_Gd M_m_image retI 0 17 (t_m_image_b17 (m_image_b17 n) m_good) := (G_ldIn (n := 2) (nx := 18) (by decide +kernel) rfl rfl (G_si (n := 5665) (nx := 21) (by decide +kernel) siv_5665 rfl (G_icmpge (off := 27) (tg := 48) (nf := 24) (by decide +kernel) (by decide +kernel) rfl
    (G_ldAn (n := 0) (nx := 25) (by decide +kernel) rfl rfl (G_getRc (nx := 28) fl_10_27 rf_10_3 (by decide +kernel) rfl (G_si (n := 5665) (nx := 31) (by decide +kernel) siv_5665 rfl (G_ldIn (n := 1) (nx := 32) (by decide +kernel) rfl rfl (G_imul (nx := 33) (by decide +kernel) rfl (G_ldIn (n := 2) (nx := 34) (by decide +kernel) rfl rfl (G_iadd (nx := 35) (by decide +kernel) rfl (G_ldAn (n := 0) (nx := 36) (by decide +kernel) rfl rfl (G_getRc (nx := 39) fl_10_24 rf_10_2 (by decide +kernel) rfl (G_ldIn (n := 2) (nx := 40) (by decide +kernel) rfl rfl (G_iald (nx := 41) ak_43 (by decide +kernel) rfl (G_iast (nx := 42) ak_44 (by decide) (by decide +kernel) rfl (G_inc (n := 1) (nx := 45) (by show 2 < 3; decide) (by decide +kernel) icv_1 rfl (G_goto (off := -28) (nx := 17) (by decide +kernel) (by decide +kernel) (G_lbl (Gp_C <| Gp_I fun a1 => Gp_I fun a2 => Gp_E fun s r h => hK17 s a1 a2 r h))))))))))))))))
    (G_ldAn (n := 0) (nx := 49) (by decide +kernel) rfl rfl (G_getRc (nx := 52) fl_10_30 rf_10_4 (by decide +kernel) rfl (G_ldIn (n := 1) (nx := 53) (by decide +kernel) rfl rfl (G_ic (n := 1) (nx := 54) (by decide +kernel) icv_1 rfl (G_zast (nx := 55) ak_45 (by decide) (by decide +kernel) rfl (G_ldAn (n := 0) (nx := 56) (by decide +kernel) rfl rfl (G_ic (n := 0) (nx := 57) (by decide +kernel) icv_0 rfl (G_callV (b0 := 0) (nx := 60) (T := TX10) (ci := 10) (g_Fn_of rfl h_m_good) (cw_10_14) ⟨wd6_82, sel_GalleyRoomModel_good__I_I⟩ ⟨rfl, rfl⟩ ⟨by decide, by show 2 ≤ 21; decide⟩ (Nat.zero_le _) (rec_m_good _) (by decide +kernel) rfl (G_iret rfl (by decide +kernel)))))))))))))
    exact ht _ _ s r ((e_m_image_b17 (m_image_b17 n) m_good s l1 l2).symm.trans h)

set_option maxRecDepth 100000 in
set_option maxHeartbeats 4000000 in
theorem h_m_image : g_Ft M_m_image yX10_image 2 (FW_m_image m_image) := by
  intro l w hw σ as hlen hwf hok ρ k r e
  unfold FW_m_image at e
  obtain ⟨hh0, e⟩ := p_C_inv e
  obtain ⟨l1, hh1, e⟩ := p_I_inv e
  have e := p_E_inv e
  obtain ⟨q, e1, e2⟩ := Option.bind_eq_some_iff.mp e
  have has : as = [.inr (.inr (some (10, 0))), .inl l1] := g_as2 hlen hh0 hh1
  subst has
  have hGo : g_Go M_m_image retI (me M_m_image) 0 (g_loc [.inr (.inr (some (10, 0))), .inl l1] (ml M_m_image)) [] σ q := by
    have ht : g_Gd M_m_image retI (me M_m_image) 0 (t_m_image (m_image_b17 FU) m_lies m_refuses) := (G_ldIn (n := 1) (nx := 1) (by decide +kernel) rfl rfl (G_ic (n := 0) (nx := 2) (by decide +kernel) icv_0 rfl (G_ic (n := 1) (nx := 3) (by decide +kernel) icv_1 rfl (G_callS (b0 := 0) (nx := 6) (g_Fn_of rfl h_m_lies) (cw_10_132) wd6_74 rfl ⟨by decide, by show 3 ≤ 21; decide⟩ (Nat.zero_le _) (by decide +kernel) rfl (G_ifne (off := 9) (tg := 15) (nf := 9) (by decide +kernel) (by decide +kernel) rfl
  (G_ldAn (n := 0) (nx := 10) (by decide +kernel) rfl rfl (G_ic (n := -1) (nx := 11) (by decide +kernel) icv_m1 rfl (G_callV (b0 := 0) (nx := 14) (T := TX10) (ci := 10) (g_Fn_of rfl h_m_refuses) (cw_10_136) ⟨wd6_78, sel_GalleyRoomModel_refuses__I_I⟩ ⟨rfl, rfl⟩ ⟨by decide, by show 2 ≤ 21; decide⟩ (Nat.zero_le _) (rec_m_refuses _) (by decide +kernel) rfl (G_iret rfl (by decide +kernel)))))
  (G_ic (n := 0) (nx := 16) (by decide +kernel) icv_0 rfl (G_stIn (n := 2) (nx := 17) (by show 2 < 3; decide) (by decide +kernel) rfl rfl (G_lbl (Gp_C <| Gp_I fun a1 => Gp_I fun a2 => Gp_E fun s r h => B_m_image_b17 FU s a1 a2 r h)))))))))
    exact ht _ _ σ q ((e_m_image (m_image_b17 FU) m_lies m_refuses σ l1).symm.trans e1)
  exact g_meth (σ' := q.1) (v := some (.inl q.2)) (by decide) rfl hw hwf hok (Nat.le_of_ble_eq_true rfl) hGo (fun σ2 v2 h => retI_inv h) (by exact e2)

set_option maxRecDepth 100000 in
set_option maxHeartbeats 4000000 in
theorem h_m_wordMany : g_Ft M_m_wordMany yX10_wordMany 1 (FW_m_wordMany m_wordMany) := by
  intro l w hw σ as hlen hwf hok ρ k r e
  unfold FW_m_wordMany at e
  obtain ⟨hh0, e⟩ := p_C_inv e
  have e := p_E_inv e
  obtain ⟨q, e1, e2⟩ := Option.bind_eq_some_iff.mp e
  have has : as = [.inr (.inr (some (10, 0)))] := g_as1 hlen hh0
  subst has
  have hGo : g_Go M_m_wordMany retI (me M_m_wordMany) 0 (g_loc [.inr (.inr (some (10, 0)))] (ml M_m_wordMany)) [] σ q := by
    have ht : g_Gd M_m_wordMany retI (me M_m_wordMany) 0 (t_m_wordMany) := (G_ldAn (n := 0) (nx := 1) (by decide +kernel) rfl rfl (G_getRc (nx := 4) fl_10_24 rf_10_2 (by decide +kernel) rfl (G_bi (n := 54) (nx := 6) (by decide +kernel) biv_54 rfl (G_iald (nx := 7) ak_43 (by decide +kernel) rfl (G_iret rfl (by decide +kernel))))))
    exact ht _ _ σ q ((e_m_wordMany  σ ).symm.trans e1)
  exact g_meth (σ' := q.1) (v := some (.inl q.2)) (by decide) rfl hw hwf hok (Nat.le_of_ble_eq_true rfl) hGo (fun σ2 v2 h => retI_inv h) (by exact e2)

set_option maxRecDepth 100000 in
set_option maxHeartbeats 4000000 in
theorem B_m_laysAllWords_b10 : ∀ (n : Nat) (s : Sg) (l1 : Int32) (r : Sg), m_laysAllWords_b10 n s l1 = some r → g_Go M_m_laysAllWords retV 0 10 [some (.inr (.inr (some (10, 0)))), some (.inl l1)] [] s r := by
  intro n
  induction n with
  | zero => intro s l1 r h; cases h
  | succ n hK10 =>
    intro s l1 r h
    have ht : g_Gd M_m_laysAllWords retV 0 10 (t_m_laysAllWords_b10 (m_laysAllWords_b10 n)) := (G_ldIn (n := 1) (nx := 11) (by decide +kernel) rfl rfl (G_ldAn (n := 0) (nx := 12) (by decide +kernel) rfl rfl (G_getI (nx := 15) fl_10_360 (Or.inl rfl) (by decide +kernel) rfl (G_icmpge (off := 16) (tg := 31) (nf := 18) (by decide +kernel) (by decide +kernel) rfl
    (G_ldAn (n := 0) (nx := 19) (by decide +kernel) rfl rfl (G_getRc (nx := 22) fl_10_72 rf_10_35 (by decide +kernel) rfl (G_ldIn (n := 1) (nx := 23) (by decide +kernel) rfl rfl (G_ldIn (n := 1) (nx := 24) (by decide +kernel) rfl rfl (G_iast (nx := 25) ak_57 (by decide) (by decide +kernel) rfl (G_inc (n := 1) (nx := 28) (by show 1 < 2; decide) (by decide +kernel) icv_1 rfl (G_goto (off := -18) (nx := 10) (by decide +kernel) (by decide +kernel) (G_lbl (Gp_C <| Gp_I fun a1 => Gp_E fun s r h => hK10 s a1 r h)))))))))
    (G_vret rfl (by decide +kernel))))))
    exact ht _ _ s r ((e_m_laysAllWords_b10 (m_laysAllWords_b10 n) s l1).symm.trans h)

set_option maxRecDepth 100000 in
set_option maxHeartbeats 4000000 in
theorem h_m_laysAllWords : g_Ft M_m_laysAllWords yX10_laysAllWords 1 (FW_m_laysAllWords m_laysAllWords) := by
  intro l w hw σ as hlen hwf hok ρ k r e
  unfold FW_m_laysAllWords at e
  obtain ⟨hh0, e⟩ := p_C_inv e
  have e := p_E_inv e
  obtain ⟨q, e1, e2⟩ := Option.bind_eq_some_iff.mp e
  have has : as = [.inr (.inr (some (10, 0)))] := g_as1 hlen hh0
  subst has
  have hGo : g_Go M_m_laysAllWords retV (me M_m_laysAllWords) 0 (g_loc [.inr (.inr (some (10, 0)))] (ml M_m_laysAllWords)) [] σ q := by
    have ht : g_Gd M_m_laysAllWords retV (me M_m_laysAllWords) 0 (t_m_laysAllWords (m_laysAllWords_b10 FU) m_wordMany) := (G_ldAn (n := 0) (nx := 1) (by decide +kernel) rfl rfl (G_ldAn (n := 0) (nx := 2) (by decide +kernel) rfl rfl (G_callV (b0 := 0) (nx := 5) (T := TX10) (ci := 10) (g_Fn_of rfl h_m_wordMany) (cw_10_142) ⟨wd5_102, sel_GalleyRoomModel_wordMany___I⟩ ⟨rfl, rfl⟩ ⟨by decide, by show 1 ≤ 21; decide⟩ (Nat.zero_le _) (rec_m_wordMany _) (by decide +kernel) rfl (G_putI (nx := 8) fp_10_360 rfl (by decide +kernel) rfl (G_ic (n := 0) (nx := 9) (by decide +kernel) icv_0 rfl (G_stIn (n := 1) (nx := 10) (by show 1 < 2; decide) (by decide +kernel) rfl rfl (G_lbl (Gp_C <| Gp_I fun a1 => Gp_E fun s r h => B_m_laysAllWords_b10 FU s a1 r h))))))))
    exact ht _ _ σ q ((e_m_laysAllWords (m_laysAllWords_b10 FU) m_wordMany σ ).symm.trans e1)
  exact g_meth (σ' := q) (v := none) (by decide) rfl hw hwf hok (Nat.le_of_ble_eq_true rfl) hGo (fun σ2 v2 h => retV_inv h) (by exact e2)

set_option maxRecDepth 100000 in
set_option maxHeartbeats 4000000 in
theorem B_m_back_b33 : ∀ (n : Nat) (s : Sg) (l1 : Int32) (l2 : Int32) (r : (Sg × Int32)), m_back_b33 n s l1 l2 = some r → g_Go M_m_back retI 0 33 [some (.inr (.inr (some (10, 0)))), some (.inl l1), some (.inl l2)] [] s r := by
  intro n
  induction n with
  | zero => intro s l1 l2 r h; cases h
  | succ n hK33 =>
    intro s l1 l2 r h
    have ht : g_Gd M_m_back retI 0 33 (t_m_back_b33 (m_back_b33 n) m_laysAllWords m_settled) := (G_ldIn (n := 2) (nx := 34) (by decide +kernel) rfl rfl (G_si (n := 5665) (nx := 37) (by decide +kernel) siv_5665 rfl (G_icmpge (off := 27) (tg := 64) (nf := 40) (by decide +kernel) (by decide +kernel) rfl
    (G_ldAn (n := 0) (nx := 41) (by decide +kernel) rfl rfl (G_getRc (nx := 44) fl_10_24 rf_10_2 (by decide +kernel) rfl (G_ldIn (n := 2) (nx := 45) (by decide +kernel) rfl rfl (G_ldAn (n := 0) (nx := 46) (by decide +kernel) rfl rfl (G_getRc (nx := 49) fl_10_27 rf_10_3 (by decide +kernel) rfl (G_si (n := 5665) (nx := 52) (by decide +kernel) siv_5665 rfl (G_ldIn (n := 1) (nx := 53) (by decide +kernel) rfl rfl (G_imul (nx := 54) (by decide +kernel) rfl (G_ldIn (n := 2) (nx := 55) (by decide +kernel) rfl rfl (G_iadd (nx := 56) (by decide +kernel) rfl (G_iald (nx := 57) ak_44 (by decide +kernel) rfl (G_iast (nx := 58) ak_43 (by decide) (by decide +kernel) rfl (G_inc (n := 1) (nx := 61) (by show 2 < 3; decide) (by decide +kernel) icv_1 rfl (G_goto (off := -28) (nx := 33) (by decide +kernel) (by decide +kernel) (G_lbl (Gp_C <| Gp_I fun a1 => Gp_I fun a2 => Gp_E fun s r h => hK33 s a1 a2 r h))))))))))))))))
    (G_ldAn (n := 0) (nx := 65) (by decide +kernel) rfl rfl (G_callV (b0 := 0) (nx := 68) (T := TX10) (ci := 10) (g_Fn_of rfl h_m_laysAllWords) (cw_10_129) ⟨wd5_98, sel_GalleyRoomModel_laysAllWords___V⟩ ⟨rfl, rfl⟩ ⟨by decide, by show 2 ≤ 21; decide⟩ (Nat.zero_le _) (rec_m_laysAllWords _) (by decide +kernel) rfl (G_ldAn (n := 0) (nx := 69) (by decide +kernel) rfl rfl (G_ic (n := 0) (nx := 70) (by decide +kernel) icv_0 rfl (G_callV (b0 := 0) (nx := 73) (T := TX10) (ci := 10) (g_Fn_of rfl h_m_settled) (cw_10_139) ⟨wd6_90, sel_GalleyRoomModel_settled__I_I⟩ ⟨rfl, rfl⟩ ⟨by decide, by show 2 ≤ 21; decide⟩ (Nat.zero_le _) (rec_m_settled _) (by decide +kernel) rfl (G_iret rfl (by decide +kernel))))))))))
    exact ht _ _ s r ((e_m_back_b33 (m_back_b33 n) m_laysAllWords m_settled s l1 l2).symm.trans h)

set_option maxRecDepth 100000 in
set_option maxHeartbeats 4000000 in
theorem h_m_back : g_Ft M_m_back yX10_back 2 (FW_m_back m_back) := by
  intro l w hw σ as hlen hwf hok ρ k r e
  unfold FW_m_back at e
  obtain ⟨hh0, e⟩ := p_C_inv e
  obtain ⟨l1, hh1, e⟩ := p_I_inv e
  have e := p_E_inv e
  obtain ⟨q, e1, e2⟩ := Option.bind_eq_some_iff.mp e
  have has : as = [.inr (.inr (some (10, 0))), .inl l1] := g_as2 hlen hh0 hh1
  subst has
  have hGo : g_Go M_m_back retI (me M_m_back) 0 (g_loc [.inr (.inr (some (10, 0))), .inl l1] (ml M_m_back)) [] σ q := by
    have ht : g_Gd M_m_back retI (me M_m_back) 0 (t_m_back (m_back_b33 FU) m_lies m_refuses) := (G_ldIn (n := 1) (nx := 1) (by decide +kernel) rfl rfl (G_ic (n := 0) (nx := 2) (by decide +kernel) icv_0 rfl (G_ic (n := 1) (nx := 3) (by decide +kernel) icv_1 rfl (G_callS (b0 := 0) (nx := 6) (g_Fn_of rfl h_m_lies) (cw_10_132) wd6_74 rfl ⟨by decide, by show 3 ≤ 21; decide⟩ (Nat.zero_le _) (by decide +kernel) rfl (G_ifne (off := 9) (tg := 15) (nf := 9) (by decide +kernel) (by decide +kernel) rfl
  (G_ldAn (n := 0) (nx := 10) (by decide +kernel) rfl rfl (G_ic (n := -1) (nx := 11) (by decide +kernel) icv_m1 rfl (G_callV (b0 := 0) (nx := 14) (T := TX10) (ci := 10) (g_Fn_of rfl h_m_refuses) (cw_10_136) ⟨wd6_78, sel_GalleyRoomModel_refuses__I_I⟩ ⟨rfl, rfl⟩ ⟨by decide, by show 2 ≤ 21; decide⟩ (Nat.zero_le _) (rec_m_refuses _) (by decide +kernel) rfl (G_iret rfl (by decide +kernel)))))
  (G_ldAn (n := 0) (nx := 16) (by decide +kernel) rfl rfl (G_getRc (nx := 19) fl_10_30 rf_10_4 (by decide +kernel) rfl (G_ldIn (n := 1) (nx := 20) (by decide +kernel) rfl rfl (G_zald (nx := 21) ak_45 (by decide +kernel) rfl (G_ifne (off := 10) (tg := 31) (nf := 24) (by decide +kernel) (by decide +kernel) rfl
    (G_ldAn (n := 0) (nx := 25) (by decide +kernel) rfl rfl (G_bi (n := -2) (nx := 27) (by decide +kernel) biv_m2 rfl (G_callV (b0 := 0) (nx := 30) (T := TX10) (ci := 10) (g_Fn_of rfl h_m_refuses) (cw_10_136) ⟨wd6_78, sel_GalleyRoomModel_refuses__I_I⟩ ⟨rfl, rfl⟩ ⟨by decide, by show 2 ≤ 21; decide⟩ (Nat.zero_le _) (rec_m_refuses _) (by decide +kernel) rfl (G_iret rfl (by decide +kernel)))))
    (G_ic (n := 0) (nx := 32) (by decide +kernel) icv_0 rfl (G_stIn (n := 2) (nx := 33) (by show 2 < 3; decide) (by decide +kernel) rfl rfl (G_lbl (Gp_C <| Gp_I fun a1 => Gp_I fun a2 => Gp_E fun s r h => B_m_back_b33 FU s a1 a2 r h))))))))))))))
    exact ht _ _ σ q ((e_m_back (m_back_b33 FU) m_lies m_refuses σ l1).symm.trans e1)
  exact g_meth (σ' := q.1) (v := some (.inl q.2)) (by decide) rfl hw hwf hok (Nat.le_of_ble_eq_true rfl) hGo (fun σ2 v2 h => retI_inv h) (by exact e2)

set_option maxRecDepth 100000 in
set_option maxHeartbeats 4000000 in
theorem h_m_isWord : g_Ft M_m_isWord yX10_isWord 2 (FW_m_isWord m_isWord) := by
  intro l w hw σ as hlen hwf hok ρ k r e
  unfold FW_m_isWord at e
  obtain ⟨hh0, e⟩ := p_C_inv e
  obtain ⟨l1, hh1, e⟩ := p_I_inv e
  have e := p_E_inv e
  obtain ⟨q, e1, e2⟩ := Option.bind_eq_some_iff.mp e
  have has : as = [.inr (.inr (some (10, 0))), .inl l1] := g_as2 hlen hh0 hh1
  subst has
  have hGo : g_Go M_m_isWord retI (me M_m_isWord) 0 (g_loc [.inr (.inr (some (10, 0))), .inl l1] (ml M_m_isWord)) [] σ q := by
    have ht : g_Gd M_m_isWord retI (me M_m_isWord) 0 (t_m_isWord m_wordMany m_lies) := (G_ldIn (n := 1) (nx := 1) (by decide +kernel) rfl rfl (G_ic (n := 0) (nx := 2) (by decide +kernel) icv_0 rfl (G_ldAn (n := 0) (nx := 3) (by decide +kernel) rfl rfl (G_callV (b0 := 0) (nx := 6) (T := TX10) (ci := 10) (g_Fn_of rfl h_m_wordMany) (cw_10_142) ⟨wd5_102, sel_GalleyRoomModel_wordMany___I⟩ ⟨rfl, rfl⟩ ⟨by decide, by show 1 ≤ 21; decide⟩ (Nat.zero_le _) (rec_m_wordMany _) (by decide +kernel) rfl (G_ic (n := 1) (nx := 7) (by decide +kernel) icv_1 rfl (G_isub (nx := 8) (by decide +kernel) rfl (G_callS (b0 := 0) (nx := 11) (g_Fn_of rfl h_m_lies) (cw_10_132) wd6_74 rfl ⟨by decide, by show 3 ≤ 21; decide⟩ (Nat.zero_le _) (by decide +kernel) rfl (G_zret rfl (by decide +kernel)))))))))
    exact ht _ _ σ q ((e_m_isWord m_wordMany m_lies σ l1).symm.trans e1)
  exact g_meth (σ' := q.1) (v := some (.inl q.2)) (by decide) rfl hw hwf hok (Nat.le_of_ble_eq_true rfl) hGo (fun σ2 v2 h => retI_inv h) (by exact e2)

set_option maxRecDepth 100000 in
set_option maxHeartbeats 4000000 in
theorem h_m_isLast : g_Ft M_m_isLast yX10_isLast 2 (FW_m_isLast m_isLast) := by
  intro l w hw σ as hlen hwf hok ρ k r e
  unfold FW_m_isLast at e
  obtain ⟨hh0, e⟩ := p_C_inv e
  obtain ⟨l1, hh1, e⟩ := p_I_inv e
  have e := p_E_inv e
  obtain ⟨q, e1, e2⟩ := Option.bind_eq_some_iff.mp e
  have has : as = [.inr (.inr (some (10, 0))), .inl l1] := g_as2 hlen hh0 hh1
  subst has
  have hGo : g_Go M_m_isLast retI (me M_m_isLast) 0 (g_loc [.inr (.inr (some (10, 0))), .inl l1] (ml M_m_isLast)) [] σ q := by
    have ht : g_Gd M_m_isLast retI (me M_m_isLast) 0 (t_m_isLast m_wordMany) := (G_ldIn (n := 1) (nx := 1) (by decide +kernel) rfl rfl (G_ldAn (n := 0) (nx := 2) (by decide +kernel) rfl rfl (G_callV (b0 := 0) (nx := 5) (T := TX10) (ci := 10) (g_Fn_of rfl h_m_wordMany) (cw_10_142) ⟨wd5_102, sel_GalleyRoomModel_wordMany___I⟩ ⟨rfl, rfl⟩ ⟨by decide, by show 1 ≤ 21; decide⟩ (Nat.zero_le _) (rec_m_wordMany _) (by decide +kernel) rfl (G_ic (n := 1) (nx := 6) (by decide +kernel) icv_1 rfl (G_isub (nx := 7) (by decide +kernel) rfl (G_icmpne (off := 7) (tg := 14) (nf := 10) (by decide +kernel) (by decide +kernel) rfl
  (G_ic (n := 1) (nx := 11) (by decide +kernel) icv_1 rfl (G_goto (off := 4) (nx := 15) (by decide +kernel) (by decide +kernel) (G_zret rfl (by decide +kernel))))
  (G_ic (n := 0) (nx := 15) (by decide +kernel) icv_0 rfl (G_zret rfl (by decide +kernel)))))))))
    exact ht _ _ σ q ((e_m_isLast m_wordMany σ l1).symm.trans e1)
  exact g_meth (σ' := q.1) (v := some (.inl q.2)) (by decide) rfl hw hwf hok (Nat.le_of_ble_eq_true rfl) hGo (fun σ2 v2 h => retI_inv h) (by exact e2)

set_option maxRecDepth 100000 in
set_option maxHeartbeats 4000000 in
theorem h_m_endsAfter : g_Ft M_m_endsAfter yX10_endsAfter 2 (FW_m_endsAfter m_endsAfter) := by
  intro l w hw σ as hlen hwf hok ρ k r e
  unfold FW_m_endsAfter at e
  obtain ⟨hh0, e⟩ := p_C_inv e
  obtain ⟨l1, hh1, e⟩ := p_I_inv e
  have e := p_E_inv e
  obtain ⟨q, e1, e2⟩ := Option.bind_eq_some_iff.mp e
  have has : as = [.inr (.inr (some (10, 0))), .inl l1] := g_as2 hlen hh0 hh1
  subst has
  have hGo : g_Go M_m_endsAfter retI (me M_m_endsAfter) 0 (g_loc [.inr (.inr (some (10, 0))), .inl l1] (ml M_m_endsAfter)) [] σ q := by
    have ht : g_Gd M_m_endsAfter retI (me M_m_endsAfter) 0 (t_m_endsAfter m_isLast m_isIn) := (G_ldAn (n := 0) (nx := 1) (by decide +kernel) rfl rfl (G_ldIn (n := 1) (nx := 2) (by decide +kernel) rfl rfl (G_callV (b0 := 0) (nx := 5) (T := TX10) (ci := 10) (g_Fn_of rfl h_m_isLast) (cw_10_146) ⟨wd6_117, sel_GalleyRoomModel_isLast__I_Z⟩ ⟨rfl, rfl⟩ ⟨by decide, by show 2 ≤ 21; decide⟩ (Nat.zero_le _) (rec_m_isLast _) (by decide +kernel) rfl (G_ifne (off := 16) (tg := 21) (nf := 8) (by decide +kernel) (by decide +kernel) rfl
  (G_ldAn (n := 0) (nx := 9) (by decide +kernel) rfl rfl (G_getRc (nx := 12) fl_10_24 rf_10_2 (by decide +kernel) rfl (G_ic (n := 0) (nx := 13) (by decide +kernel) icv_0 rfl (G_iald (nx := 14) ak_43 (by decide +kernel) rfl (G_ldIn (n := 1) (nx := 15) (by decide +kernel) rfl rfl (G_callS (b0 := 0) (nx := 18) (g_Fn_of rfl h_m_isIn) (cw_10_150) wd6_120 rfl ⟨by decide, by show 2 ≤ 21; decide⟩ (Nat.zero_le _) (by decide +kernel) rfl (G_ifeq (off := 7) (tg := 25) (nf := 21) (by decide +kernel) (by decide +kernel) rfl
    (G_ic (n := 0) (nx := 26) (by decide +kernel) icv_0 rfl (G_zret rfl (by decide +kernel)))
    (G_ic (n := 1) (nx := 22) (by decide +kernel) icv_1 rfl (G_goto (off := 4) (nx := 26) (by decide +kernel) (by decide +kernel) (G_zret rfl (by decide +kernel)))))))))))
  (G_ic (n := 1) (nx := 22) (by decide +kernel) icv_1 rfl (G_goto (off := 4) (nx := 26) (by decide +kernel) (by decide +kernel) (G_zret rfl (by decide +kernel))))))))
    exact ht _ _ σ q ((e_m_endsAfter m_isLast m_isIn σ l1).symm.trans e1)
  exact g_meth (σ' := q.1) (v := some (.inl q.2)) (by decide) rfl hw hwf hok (Nat.le_of_ble_eq_true rfl) hGo (fun σ2 v2 h => retI_inv h) (by exact e2)

set_option maxRecDepth 100000 in
set_option maxHeartbeats 4000000 in
theorem h_m_isSplit : g_Ft M_m_isSplit yX10_isSplit 2 (FW_m_isSplit m_isSplit) := by
  intro l w hw σ as hlen hwf hok ρ k r e
  unfold FW_m_isSplit at e
  obtain ⟨hh0, e⟩ := p_C_inv e
  obtain ⟨l1, hh1, e⟩ := p_I_inv e
  have e := p_E_inv e
  obtain ⟨q, e1, e2⟩ := Option.bind_eq_some_iff.mp e
  have has : as = [.inr (.inr (some (10, 0))), .inl l1] := g_as2 hlen hh0 hh1
  subst has
  have hGo : g_Go M_m_isSplit retI (me M_m_isSplit) 0 (g_loc [.inr (.inr (some (10, 0))), .inl l1] (ml M_m_isSplit)) [] σ q := by
    have ht : g_Gd M_m_isSplit retI (me M_m_isSplit) 0 (t_m_isSplit m_isIn) := (G_ldAn (n := 0) (nx := 1) (by decide +kernel) rfl rfl (G_getRc (nx := 4) fl_10_24 rf_10_2 (by decide +kernel) rfl (G_ic (n := 1) (nx := 5) (by decide +kernel) icv_1 rfl (G_iald (nx := 6) ak_43 (by decide +kernel) rfl (G_ldIn (n := 1) (nx := 7) (by decide +kernel) rfl rfl (G_callS (b0 := 0) (nx := 10) (g_Fn_of rfl h_m_isIn) (cw_10_150) wd6_120 rfl ⟨by decide, by show 2 ≤ 21; decide⟩ (Nat.zero_le _) (by decide +kernel) rfl (G_zret rfl (by decide +kernel))))))))
    exact ht _ _ σ q ((e_m_isSplit m_isIn σ l1).symm.trans e1)
  exact g_meth (σ' := q.1) (v := some (.inl q.2)) (by decide) rfl hw hwf hok (Nat.le_of_ble_eq_true rfl) hGo (fun σ2 v2 h => retI_inv h) (by exact e2)

set_option maxRecDepth 100000 in
set_option maxHeartbeats 4000000 in
theorem h_m_canWord : g_Ft M_m_canWord yX10_canWord 3 (FW_m_canWord m_canWord) := by
  intro l w hw σ as hlen hwf hok ρ k r e
  unfold FW_m_canWord at e
  obtain ⟨l0, hh0, e⟩ := p_I_inv e
  obtain ⟨l1, hh1, e⟩ := p_I_inv e
  obtain ⟨l2, hh2, e⟩ := p_I_inv e
  have e := p_E_inv e
  obtain ⟨q, e1, e2⟩ := Option.bind_eq_some_iff.mp e
  have has : as = [.inl l0, .inl l1, .inl l2] := g_as3 hlen hh0 hh1 hh2
  subst has
  have hGo : g_Go M_m_canWord retI (me M_m_canWord) 0 (g_loc [.inl l0, .inl l1, .inl l2] (ml M_m_canWord)) [] σ q := by
    have ht : g_Gd M_m_canWord retI (me M_m_canWord) 0 (t_m_canWord m_lies) := (G_ldIn (n := 0) (nx := 1) (by decide +kernel) rfl rfl (G_ic (n := 1) (nx := 2) (by decide +kernel) icv_1 rfl (G_bi (n := 20) (nx := 4) (by decide +kernel) biv_20 rfl (G_callS (b0 := 0) (nx := 7) (g_Fn_of rfl h_m_lies) (cw_10_132) wd6_74 rfl ⟨by decide, by show 3 ≤ 21; decide⟩ (Nat.zero_le _) (by decide +kernel) rfl (G_ifeq (off := 27) (tg := 34) (nf := 10) (by decide +kernel) (by decide +kernel) rfl
  (G_ic (n := 0) (nx := 35) (by decide +kernel) icv_0 rfl (G_zret rfl (by decide +kernel)))
  (G_ldIn (n := 1) (nx := 11) (by decide +kernel) rfl rfl (G_ic (n := 0) (nx := 12) (by decide +kernel) icv_0 rfl (G_ldIn (n := 0) (nx := 13) (by decide +kernel) rfl rfl (G_ic (n := 1) (nx := 14) (by decide +kernel) icv_1 rfl (G_isub (nx := 15) (by decide +kernel) rfl (G_callS (b0 := 0) (nx := 18) (g_Fn_of rfl h_m_lies) (cw_10_132) wd6_74 rfl ⟨by decide, by show 3 ≤ 21; decide⟩ (Nat.zero_le _) (by decide +kernel) rfl (G_ifeq (off := 16) (tg := 34) (nf := 21) (by decide +kernel) (by decide +kernel) rfl
    (G_ic (n := 0) (nx := 35) (by decide +kernel) icv_0 rfl (G_zret rfl (by decide +kernel)))
    (G_ldIn (n := 2) (nx := 22) (by decide +kernel) rfl rfl (G_ic (n := 0) (nx := 23) (by decide +kernel) icv_0 rfl (G_ic (n := 3) (nx := 24) (by decide +kernel) icv_3 rfl (G_callS (b0 := 0) (nx := 27) (g_Fn_of rfl h_m_lies) (cw_10_132) wd6_74 rfl ⟨by decide, by show 3 ≤ 21; decide⟩ (Nat.zero_le _) (by decide +kernel) rfl (G_ifeq (off := 7) (tg := 34) (nf := 30) (by decide +kernel) (by decide +kernel) rfl
      (G_ic (n := 0) (nx := 35) (by decide +kernel) icv_0 rfl (G_zret rfl (by decide +kernel)))
      (G_ic (n := 1) (nx := 31) (by decide +kernel) icv_1 rfl (G_goto (off := 4) (nx := 35) (by decide +kernel) (by decide +kernel) (G_zret rfl (by decide +kernel)))))))))))))))))))))
    exact ht _ _ σ q ((e_m_canWord m_lies σ l0 l1 l2).symm.trans e1)
  exact g_meth (σ' := q.1) (v := some (.inl q.2)) (by decide) rfl hw hwf hok (Nat.le_of_ble_eq_true rfl) hGo (fun σ2 v2 h => retI_inv h) (by exact e2)

set_option maxRecDepth 100000 in
set_option maxHeartbeats 4000000 in
theorem h_m_adds : g_Ft M_m_adds yX10_adds 4 (FW_m_adds m_adds) := by
  intro l w hw σ as hlen hwf hok ρ k r e
  unfold FW_m_adds at e
  obtain ⟨hh0, e⟩ := p_C_inv e
  obtain ⟨l1, hh1, e⟩ := p_I_inv e
  obtain ⟨l2, hh2, e⟩ := p_I_inv e
  obtain ⟨l3, hh3, e⟩ := p_I_inv e
  have e := p_E_inv e
  obtain ⟨q, e1, e2⟩ := Option.bind_eq_some_iff.mp e
  have has : as = [.inr (.inr (some (10, 0))), .inl l1, .inl l2, .inl l3] := g_as4 hlen hh0 hh1 hh2 hh3
  subst has
  have hGo : g_Go M_m_adds retV (me M_m_adds) 0 (g_loc [.inr (.inr (some (10, 0))), .inl l1, .inl l2, .inl l3] (ml M_m_adds)) [] σ q := by
    have ht : g_Gd M_m_adds retV (me M_m_adds) 0 (t_m_adds m_wordMany m_laysAllWords) := (G_ldAn (n := 0) (nx := 1) (by decide +kernel) rfl rfl (G_callV (b0 := 0) (nx := 4) (T := TX10) (ci := 10) (g_Fn_of rfl h_m_wordMany) (cw_10_142) ⟨wd5_102, sel_GalleyRoomModel_wordMany___I⟩ ⟨rfl, rfl⟩ ⟨by decide, by show 1 ≤ 21; decide⟩ (Nat.zero_le _) (rec_m_wordMany _) (by decide +kernel) rfl (G_stI (nx := 6) (by show 4 < 5; decide) (by decide +kernel) rfl (G_ldAn (n := 0) (nx := 7) (by decide +kernel) rfl rfl (G_getRc (nx := 10) fl_10_24 rf_10_2 (by decide +kernel) rfl (G_ic (n := 2) (nx := 11) (by decide +kernel) icv_2 rfl (G_ldI (nx := 13) (by decide +kernel) rfl (G_iadd (nx := 14) (by decide +kernel) rfl (G_ldIn (n := 1) (nx := 15) (by decide +kernel) rfl rfl (G_iast (nx := 16) ak_43 (by decide) (by decide +kernel) rfl (G_ldAn (n := 0) (nx := 17) (by decide +kernel) rfl rfl (G_getRc (nx := 20) fl_10_24 rf_10_2 (by decide +kernel) rfl (G_bi (n := 15) (nx := 22) (by decide +kernel) biv_15 rfl (G_ldI (nx := 24) (by decide +kernel) rfl (G_iadd (nx := 25) (by decide +kernel) rfl (G_ldIn (n := 2) (nx := 26) (by decide +kernel) rfl rfl (G_iast (nx := 27) ak_43 (by decide) (by decide +kernel) rfl (G_ldAn (n := 0) (nx := 28) (by decide +kernel) rfl rfl (G_getRc (nx := 31) fl_10_24 rf_10_2 (by decide +kernel) rfl (G_bi (n := 27) (nx := 33) (by decide +kernel) biv_27 rfl (G_ldI (nx := 35) (by decide +kernel) rfl (G_iadd (nx := 36) (by decide +kernel) rfl (G_ldIn (n := 3) (nx := 37) (by decide +kernel) rfl rfl (G_iast (nx := 38) ak_43 (by decide) (by decide +kernel) rfl (G_ldAn (n := 0) (nx := 39) (by decide +kernel) rfl rfl (G_getRc (nx := 42) fl_10_24 rf_10_2 (by decide +kernel) rfl (G_ic (n := 0) (nx := 43) (by decide +kernel) icv_0 rfl (G_dup2 (nx := 44) (by decide +kernel) rfl (G_iald (nx := 45) ak_43 (by decide +kernel) rfl (G_ic (n := 1) (nx := 46) (by decide +kernel) icv_1 rfl (G_ldI (nx := 48) (by decide +kernel) rfl (G_ishl (nx := 49) (by decide +kernel) rfl (G_ic (n := -1) (nx := 50) (by decide +kernel) icv_m1 rfl (G_ixor (nx := 51) (by decide +kernel) rfl (G_iand (nx := 52) (by decide +kernel) rfl (G_iast (nx := 53) ak_43 (by decide) (by decide +kernel) rfl (G_ldAn (n := 0) (nx := 54) (by decide +kernel) rfl rfl (G_getRc (nx := 57) fl_10_24 rf_10_2 (by decide +kernel) rfl (G_ic (n := 1) (nx := 58) (by decide +kernel) icv_1 rfl (G_dup2 (nx := 59) (by decide +kernel) rfl (G_iald (nx := 60) ak_43 (by decide +kernel) rfl (G_ic (n := 1) (nx := 61) (by decide +kernel) icv_1 rfl (G_ldI (nx := 63) (by decide +kernel) rfl (G_ishl (nx := 64) (by decide +kernel) rfl (G_ic (n := -1) (nx := 65) (by decide +kernel) icv_m1 rfl (G_ixor (nx := 66) (by decide +kernel) rfl (G_iand (nx := 67) (by decide +kernel) rfl (G_iast (nx := 68) ak_43 (by decide) (by decide +kernel) rfl (G_ldAn (n := 0) (nx := 69) (by decide +kernel) rfl rfl (G_getRc (nx := 72) fl_10_24 rf_10_2 (by decide +kernel) rfl (G_bi (n := 54) (nx := 74) (by decide +kernel) biv_54 rfl (G_dup2 (nx := 75) (by decide +kernel) rfl (G_iald (nx := 76) ak_43 (by decide +kernel) rfl (G_ic (n := 1) (nx := 77) (by decide +kernel) icv_1 rfl (G_iadd (nx := 78) (by decide +kernel) rfl (G_iast (nx := 79) ak_43 (by decide) (by decide +kernel) rfl (G_ldAn (n := 0) (nx := 80) (by decide +kernel) rfl rfl (G_callV (b0 := 0) (nx := 83) (T := TX10) (ci := 10) (g_Fn_of rfl h_m_laysAllWords) (cw_10_129) ⟨wd5_98, sel_GalleyRoomModel_laysAllWords___V⟩ ⟨rfl, rfl⟩ ⟨by decide, by show 2 ≤ 21; decide⟩ (Nat.zero_le _) (rec_m_laysAllWords _) (by decide +kernel) rfl (G_vret rfl (by decide +kernel))))))))))))))))))))))))))))))))))))))))))))))))))))))))))))
    exact ht _ _ σ q ((e_m_adds m_wordMany m_laysAllWords σ l1 l2 l3).symm.trans e1)
  exact g_meth (σ' := q) (v := none) (by decide) rfl hw hwf hok (Nat.le_of_ble_eq_true rfl) hGo (fun σ2 v2 h => retV_inv h) (by exact e2)

set_option maxRecDepth 100000 in
set_option maxHeartbeats 4000000 in
theorem h_m_word : g_Ft M_m_word yX10_word 4 (FW_m_word m_word) := by
  intro l w hw σ as hlen hwf hok ρ k r e
  unfold FW_m_word at e
  obtain ⟨hh0, e⟩ := p_C_inv e
  obtain ⟨l1, hh1, e⟩ := p_I_inv e
  obtain ⟨l2, hh2, e⟩ := p_I_inv e
  obtain ⟨l3, hh3, e⟩ := p_I_inv e
  have e := p_E_inv e
  obtain ⟨q, e1, e2⟩ := Option.bind_eq_some_iff.mp e
  have has : as = [.inr (.inr (some (10, 0))), .inl l1, .inl l2, .inl l3] := g_as4 hlen hh0 hh1 hh2 hh3
  subst has
  have hGo : g_Go M_m_word retI (me M_m_word) 0 (g_loc [.inr (.inr (some (10, 0))), .inl l1, .inl l2, .inl l3] (ml M_m_word)) [] σ q := by
    have ht : g_Gd M_m_word retI (me M_m_word) 0 (t_m_word m_canWord m_refuses m_wordMany m_adds m_settled) := (G_ldIn (n := 1) (nx := 1) (by decide +kernel) rfl rfl (G_ldIn (n := 2) (nx := 2) (by decide +kernel) rfl rfl (G_ldIn (n := 3) (nx := 3) (by decide +kernel) rfl rfl (G_callS (b0 := 0) (nx := 6) (g_Fn_of rfl h_m_canWord) (cw_10_154) wd6_97 rfl ⟨by decide, by show 3 ≤ 21; decide⟩ (Nat.zero_le _) (by decide +kernel) rfl (G_ifne (off := 9) (tg := 15) (nf := 9) (by decide +kernel) (by decide +kernel) rfl
  (G_ldAn (n := 0) (nx := 10) (by decide +kernel) rfl rfl (G_ic (n := -1) (nx := 11) (by decide +kernel) icv_m1 rfl (G_callV (b0 := 0) (nx := 14) (T := TX10) (ci := 10) (g_Fn_of rfl h_m_refuses) (cw_10_136) ⟨wd6_78, sel_GalleyRoomModel_refuses__I_I⟩ ⟨rfl, rfl⟩ ⟨by decide, by show 2 ≤ 21; decide⟩ (Nat.zero_le _) (rec_m_refuses _) (by decide +kernel) rfl (G_iret rfl (by decide +kernel)))))
  (G_ldAn (n := 0) (nx := 16) (by decide +kernel) rfl rfl (G_callV (b0 := 0) (nx := 19) (T := TX10) (ci := 10) (g_Fn_of rfl h_m_wordMany) (cw_10_142) ⟨wd5_102, sel_GalleyRoomModel_wordMany___I⟩ ⟨rfl, rfl⟩ ⟨by decide, by show 1 ≤ 21; decide⟩ (Nat.zero_le _) (rec_m_wordMany _) (by decide +kernel) rfl (G_bi (n := 12) (nx := 21) (by decide +kernel) biv_12 rfl (G_icmpne (off := 10) (tg := 31) (nf := 24) (by decide +kernel) (by decide +kernel) rfl
    (G_ldAn (n := 0) (nx := 25) (by decide +kernel) rfl rfl (G_bi (n := -5) (nx := 27) (by decide +kernel) biv_m5 rfl (G_callV (b0 := 0) (nx := 30) (T := TX10) (ci := 10) (g_Fn_of rfl h_m_refuses) (cw_10_136) ⟨wd6_78, sel_GalleyRoomModel_refuses__I_I⟩ ⟨rfl, rfl⟩ ⟨by decide, by show 2 ≤ 21; decide⟩ (Nat.zero_le _) (rec_m_refuses _) (by decide +kernel) rfl (G_iret rfl (by decide +kernel)))))
    (G_ldAn (n := 0) (nx := 32) (by decide +kernel) rfl rfl (G_ldIn (n := 1) (nx := 33) (by decide +kernel) rfl rfl (G_ldIn (n := 2) (nx := 34) (by decide +kernel) rfl rfl (G_ldIn (n := 3) (nx := 35) (by decide +kernel) rfl rfl (G_callV (b0 := 0) (nx := 38) (T := TX10) (ci := 10) (g_Fn_of rfl h_m_adds) (cw_10_157) ⟨wd6_101, sel_GalleyRoomModel_adds__III_V⟩ ⟨rfl, rfl⟩ ⟨by decide, by show 5 ≤ 21; decide⟩ (Nat.zero_le _) (rec_m_adds _) (by decide +kernel) rfl (G_ldAn (n := 0) (nx := 39) (by decide +kernel) rfl rfl (G_ldAn (n := 0) (nx := 40) (by decide +kernel) rfl rfl (G_callV (b0 := 0) (nx := 43) (T := TX10) (ci := 10) (g_Fn_of rfl h_m_wordMany) (cw_10_142) ⟨wd5_102, sel_GalleyRoomModel_wordMany___I⟩ ⟨rfl, rfl⟩ ⟨by decide, by show 1 ≤ 21; decide⟩ (Nat.zero_le _) (rec_m_wordMany _) (by decide +kernel) rfl (G_ic (n := 1) (nx := 44) (by decide +kernel) icv_1 rfl (G_isub (nx := 45) (by decide +kernel) rfl (G_callV (b0 := 0) (nx := 48) (T := TX10) (ci := 10) (g_Fn_of rfl h_m_settled) (cw_10_139) ⟨wd6_90, sel_GalleyRoomModel_settled__I_I⟩ ⟨rfl, rfl⟩ ⟨by decide, by show 2 ≤ 21; decide⟩ (Nat.zero_le _) (rec_m_settled _) (by decide +kernel) rfl (G_iret rfl (by decide +kernel))))))))))))))))))))))
    exact ht _ _ σ q ((e_m_word m_canWord m_refuses m_wordMany m_adds m_settled σ l1 l2 l3).symm.trans e1)
  exact g_meth (σ' := q.1) (v := some (.inl q.2)) (by decide) rfl hw hwf hok (Nat.le_of_ble_eq_true rfl) hGo (fun σ2 v2 h => retI_inv h) (by exact e2)

set_option maxRecDepth 100000 in
set_option maxHeartbeats 4000000 in
theorem h_m_of : g_Ft M_m_of yX10_of 3 (FW_m_of m_of) := by
  intro l w hw σ as hlen hwf hok ρ k r e
  unfold FW_m_of at e
  obtain ⟨hh0, e⟩ := p_C_inv e
  obtain ⟨l1, hh1, e⟩ := p_I_inv e
  obtain ⟨l2, hh2, e⟩ := p_I_inv e
  have e := p_E_inv e
  obtain ⟨q, e1, e2⟩ := Option.bind_eq_some_iff.mp e
  have has : as = [.inr (.inr (some (10, 0))), .inl l1, .inl l2] := g_as3 hlen hh0 hh1 hh2
  subst has
  have hGo : g_Go M_m_of retI (me M_m_of) 0 (g_loc [.inr (.inr (some (10, 0))), .inl l1, .inl l2] (ml M_m_of)) [] σ q := by
    have ht : g_Gd M_m_of retI (me M_m_of) 0 (t_m_of m_isWord m_endsAfter m_isSplit) := (G_ldAn (n := 0) (nx := 1) (by decide +kernel) rfl rfl (G_ldIn (n := 1) (nx := 2) (by decide +kernel) rfl rfl (G_callV (b0 := 0) (nx := 5) (T := TX10) (ci := 10) (g_Fn_of rfl h_m_isWord) (cw_10_161) ⟨wd6_109, sel_GalleyRoomModel_isWord__I_Z⟩ ⟨rfl, rfl⟩ ⟨by decide, by show 2 ≤ 21; decide⟩ (Nat.zero_le _) (rec_m_isWord _) (by decide +kernel) rfl (G_ifne (off := 5) (tg := 10) (nf := 8) (by decide +kernel) (by decide +kernel) rfl
  (G_ic (n := -1) (nx := 9) (by decide +kernel) icv_m1 rfl (G_iret rfl (by decide +kernel)))
  (G_ldIn (n := 2) (nx := 11) (by decide +kernel) rfl rfl (G_sw (dflt := 90) (lo := 0) (hi := 4) (offs := #[33, 42, 52, 62, 76]) (len := 33) (td := 101) (by decide +kernel) (by decide +kernel)
    (List.forall_mem_cons.mpr ⟨⟨33, 44, by decide +kernel, by decide +kernel, by decide +kernel, by decide +kernel,
    (G_ldAn (n := 0) (nx := 45) (by decide +kernel) rfl rfl (G_getRc (nx := 48) fl_10_24 rf_10_2 (by decide +kernel) rfl (G_ic (n := 2) (nx := 49) (by decide +kernel) icv_2 rfl (G_ldIn (n := 1) (nx := 50) (by decide +kernel) rfl rfl (G_iadd (nx := 51) (by decide +kernel) rfl (G_iald (nx := 52) ak_43 (by decide +kernel) rfl (G_iret rfl (by decide +kernel))))))))⟩, List.forall_mem_cons.mpr ⟨⟨42, 53, by decide +kernel, by decide +kernel, by decide +kernel, by decide +kernel,
    (G_ldAn (n := 0) (nx := 54) (by decide +kernel) rfl rfl (G_getRc (nx := 57) fl_10_24 rf_10_2 (by decide +kernel) rfl (G_bi (n := 15) (nx := 59) (by decide +kernel) biv_15 rfl (G_ldIn (n := 1) (nx := 60) (by decide +kernel) rfl rfl (G_iadd (nx := 61) (by decide +kernel) rfl (G_iald (nx := 62) ak_43 (by decide +kernel) rfl (G_iret rfl (by decide +kernel))))))))⟩, List.forall_mem_cons.mpr ⟨⟨52, 63, by decide +kernel, by decide +kernel, by decide +kernel, by decide +kernel,
    (G_ldAn (n := 0) (nx := 64) (by decide +kernel) rfl rfl (G_getRc (nx := 67) fl_10_24 rf_10_2 (by decide +kernel) rfl (G_bi (n := 27) (nx := 69) (by decide +kernel) biv_27 rfl (G_ldIn (n := 1) (nx := 70) (by decide +kernel) rfl rfl (G_iadd (nx := 71) (by decide +kernel) rfl (G_iald (nx := 72) ak_43 (by decide +kernel) rfl (G_iret rfl (by decide +kernel))))))))⟩, List.forall_mem_cons.mpr ⟨⟨62, 73, by decide +kernel, by decide +kernel, by decide +kernel, by decide +kernel,
    (G_ldAn (n := 0) (nx := 74) (by decide +kernel) rfl rfl (G_ldIn (n := 1) (nx := 75) (by decide +kernel) rfl rfl (G_callV (b0 := 0) (nx := 78) (T := TX10) (ci := 10) (g_Fn_of rfl h_m_endsAfter) (cw_10_164) ⟨wd6_113, sel_GalleyRoomModel_endsAfter__I_Z⟩ ⟨rfl, rfl⟩ ⟨by decide, by show 2 ≤ 21; decide⟩ (Nat.zero_le _) (rec_m_endsAfter _) (by decide +kernel) rfl (G_ifeq (off := 7) (tg := 85) (nf := 81) (by decide +kernel) (by decide +kernel) rfl
      (G_ic (n := 0) (nx := 86) (by decide +kernel) icv_0 rfl (G_iret rfl (by decide +kernel)))
      (G_ic (n := 1) (nx := 82) (by decide +kernel) icv_1 rfl (G_goto (off := 4) (nx := 86) (by decide +kernel) (by decide +kernel) (G_iret rfl (by decide +kernel))))))))⟩, List.forall_mem_cons.mpr ⟨⟨76, 87, by decide +kernel, by decide +kernel, by decide +kernel, by decide +kernel,
    (G_ldAn (n := 0) (nx := 88) (by decide +kernel) rfl rfl (G_ldIn (n := 1) (nx := 89) (by decide +kernel) rfl rfl (G_callV (b0 := 0) (nx := 92) (T := TX10) (ci := 10) (g_Fn_of rfl h_m_isSplit) (cw_10_167) ⟨wd6_124, sel_GalleyRoomModel_isSplit__I_Z⟩ ⟨rfl, rfl⟩ ⟨by decide, by show 2 ≤ 21; decide⟩ (Nat.zero_le _) (rec_m_isSplit _) (by decide +kernel) rfl (G_ifeq (off := 7) (tg := 99) (nf := 95) (by decide +kernel) (by decide +kernel) rfl
      (G_ic (n := 0) (nx := 100) (by decide +kernel) icv_0 rfl (G_iret rfl (by decide +kernel)))
      (G_ic (n := 1) (nx := 96) (by decide +kernel) icv_1 rfl (G_goto (off := 4) (nx := 100) (by decide +kernel) (by decide +kernel) (G_iret rfl (by decide +kernel))))))))⟩, fun _ h => absurd h List.not_mem_nil⟩⟩⟩⟩⟩)
    (g_swall _ (by decide +kernel) rfl)
    (G_ic (n := -1) (nx := 102) (by decide +kernel) icv_m1 rfl (G_iret rfl (by decide +kernel)))))))))
    exact ht _ _ σ q ((e_m_of m_isWord m_endsAfter m_isSplit σ l1 l2).symm.trans e1)
  exact g_meth (σ' := q.1) (v := some (.inl q.2)) (by decide) rfl hw hwf hok (Nat.le_of_ble_eq_true rfl) hGo (fun σ2 v2 h => retI_inv h) (by exact e2)

set_option maxRecDepth 100000 in
set_option maxHeartbeats 4000000 in
theorem h_m_isTerm : g_Ft M_m_isTerm yX10_isTerm 2 (FW_m_isTerm m_isTerm) := by
  intro l w hw σ as hlen hwf hok ρ k r e
  unfold FW_m_isTerm at e
  obtain ⟨l0, hh0, e⟩ := p_I_inv e
  obtain ⟨l1, hh1, e⟩ := p_I_inv e
  have e := p_E_inv e
  obtain ⟨q, e1, e2⟩ := Option.bind_eq_some_iff.mp e
  have has : as = [.inl l0, .inl l1] := g_as2 hlen hh0 hh1
  subst has
  have hGo : g_Go M_m_isTerm retI (me M_m_isTerm) 0 (g_loc [.inl l0, .inl l1] (ml M_m_isTerm)) [] σ q := by
    have ht : g_Gd M_m_isTerm retI (me M_m_isTerm) 0 (t_m_isTerm m_lies) := (G_ldIn (n := 0) (nx := 1) (by decide +kernel) rfl rfl (G_sw (dflt := 65) (lo := 0) (hi := 3) (offs := #[31, 40, 48, 56]) (len := 31) (td := 66) (by decide +kernel) (by decide +kernel)
  (List.forall_mem_cons.mpr ⟨⟨31, 32, by decide +kernel, by decide +kernel, by decide +kernel, by decide +kernel,
  (G_ldIn (n := 1) (nx := 33) (by decide +kernel) rfl rfl (G_ic (n := 0) (nx := 34) (by decide +kernel) icv_0 rfl (G_si (n := 999) (nx := 37) (by decide +kernel) siv_999 rfl (G_callS (b0 := 0) (nx := 40) (g_Fn_of rfl h_m_lies) (cw_10_132) wd6_74 rfl ⟨by decide, by show 3 ≤ 21; decide⟩ (Nat.zero_le _) (by decide +kernel) rfl (G_zret rfl (by decide +kernel))))))⟩, List.forall_mem_cons.mpr ⟨⟨40, 41, by decide +kernel, by decide +kernel, by decide +kernel, by decide +kernel,
  (G_ldIn (n := 1) (nx := 42) (by decide +kernel) rfl rfl (G_ic (n := 0) (nx := 43) (by decide +kernel) icv_0 rfl (G_bi (n := 10) (nx := 45) (by decide +kernel) biv_10 rfl (G_callS (b0 := 0) (nx := 48) (g_Fn_of rfl h_m_lies) (cw_10_132) wd6_74 rfl ⟨by decide, by show 3 ≤ 21; decide⟩ (Nat.zero_le _) (by decide +kernel) rfl (G_zret rfl (by decide +kernel))))))⟩, List.forall_mem_cons.mpr ⟨⟨48, 49, by decide +kernel, by decide +kernel, by decide +kernel, by decide +kernel,
  (G_ldIn (n := 1) (nx := 50) (by decide +kernel) rfl rfl (G_ic (n := 0) (nx := 51) (by decide +kernel) icv_0 rfl (G_bi (n := 9) (nx := 53) (by decide +kernel) biv_9 rfl (G_callS (b0 := 0) (nx := 56) (g_Fn_of rfl h_m_lies) (cw_10_132) wd6_74 rfl ⟨by decide, by show 3 ≤ 21; decide⟩ (Nat.zero_le _) (by decide +kernel) rfl (G_zret rfl (by decide +kernel))))))⟩, List.forall_mem_cons.mpr ⟨⟨56, 57, by decide +kernel, by decide +kernel, by decide +kernel, by decide +kernel,
  (G_ldIn (n := 1) (nx := 58) (by decide +kernel) rfl rfl (G_bi (n := 10) (nx := 60) (by decide +kernel) biv_10 rfl (G_bi (n := 60) (nx := 62) (by decide +kernel) biv_60 rfl (G_callS (b0 := 0) (nx := 65) (g_Fn_of rfl h_m_lies) (cw_10_132) wd6_74 rfl ⟨by decide, by show 3 ≤ 21; decide⟩ (Nat.zero_le _) (by decide +kernel) rfl (G_zret rfl (by decide +kernel))))))⟩, fun _ h => absurd h List.not_mem_nil⟩⟩⟩⟩)
  (g_swall _ (by decide +kernel) rfl)
  (G_ic (n := 0) (nx := 67) (by decide +kernel) icv_0 rfl (G_zret rfl (by decide +kernel)))))
    exact ht _ _ σ q ((e_m_isTerm m_lies σ l0 l1).symm.trans e1)
  exact g_meth (σ' := q.1) (v := some (.inl q.2)) (by decide) rfl hw hwf hok (Nat.le_of_ble_eq_true rfl) hGo (fun σ2 v2 h => retI_inv h) (by exact e2)

set_option maxRecDepth 100000 in
set_option maxHeartbeats 4000000 in
theorem h_m_termAt : g_Ft M_m_termAt yX10_termAt 1 (FW_m_termAt m_termAt) := by
  intro l w hw σ as hlen hwf hok ρ k r e
  unfold FW_m_termAt at e
  obtain ⟨l0, hh0, e⟩ := p_I_inv e
  have e := p_E_inv e
  obtain ⟨q, e1, e2⟩ := Option.bind_eq_some_iff.mp e
  have has : as = [.inl l0] := g_as1 hlen hh0
  subst has
  have hGo : g_Go M_m_termAt retI (me M_m_termAt) 0 (g_loc [.inl l0] (ml M_m_termAt)) [] σ q := by
    have ht : g_Gd M_m_termAt retI (me M_m_termAt) 0 (t_m_termAt) := (G_ldIn (n := 0) (nx := 1) (by decide +kernel) rfl rfl (G_ifne (off := 8) (tg := 9) (nf := 4) (by decide +kernel) (by decide +kernel) rfl
  (G_bi (n := 14) (nx := 6) (by decide +kernel) biv_14 rfl (G_goto (off := 25) (nx := 31) (by decide +kernel) (by decide +kernel) (G_iret rfl (by decide +kernel))))
  (G_ldIn (n := 0) (nx := 10) (by decide +kernel) rfl rfl (G_ic (n := 1) (nx := 11) (by decide +kernel) icv_1 rfl (G_icmpne (off := 8) (tg := 19) (nf := 14) (by decide +kernel) (by decide +kernel) rfl
    (G_bi (n := 51) (nx := 16) (by decide +kernel) biv_51 rfl (G_goto (off := 15) (nx := 31) (by decide +kernel) (by decide +kernel) (G_iret rfl (by decide +kernel))))
    (G_ldIn (n := 0) (nx := 20) (by decide +kernel) rfl rfl (G_ic (n := 2) (nx := 21) (by decide +kernel) icv_2 rfl (G_icmpne (off := 8) (tg := 29) (nf := 24) (by decide +kernel) (by decide +kernel) rfl
      (G_bi (n := 52) (nx := 26) (by decide +kernel) biv_52 rfl (G_goto (off := 5) (nx := 31) (by decide +kernel) (by decide +kernel) (G_iret rfl (by decide +kernel))))
      (G_bi (n := 53) (nx := 31) (by decide +kernel) biv_53 rfl (G_iret rfl (by decide +kernel)))))))))))
    exact ht _ _ σ q ((e_m_termAt  σ l0).symm.trans e1)
  exact g_meth (σ' := q.1) (v := some (.inl q.2)) (by decide) rfl hw hwf hok (Nat.le_of_ble_eq_true rfl) hGo (fun σ2 v2 h => retI_inv h) (by exact e2)

set_option maxRecDepth 100000 in
set_option maxHeartbeats 4000000 in
theorem h_m_terms : g_Ft M_m_terms yX10_terms 3 (FW_m_terms m_terms) := by
  intro l w hw σ as hlen hwf hok ρ k r e
  unfold FW_m_terms at e
  obtain ⟨hh0, e⟩ := p_C_inv e
  obtain ⟨l1, hh1, e⟩ := p_I_inv e
  obtain ⟨l2, hh2, e⟩ := p_I_inv e
  have e := p_E_inv e
  obtain ⟨q, e1, e2⟩ := Option.bind_eq_some_iff.mp e
  have has : as = [.inr (.inr (some (10, 0))), .inl l1, .inl l2] := g_as3 hlen hh0 hh1 hh2
  subst has
  have hGo : g_Go M_m_terms retI (me M_m_terms) 0 (g_loc [.inr (.inr (some (10, 0))), .inl l1, .inl l2] (ml M_m_terms)) [] σ q := by
    have ht : g_Gd M_m_terms retI (me M_m_terms) 0 (t_m_terms m_isTerm m_refuses m_termAt m_settled) := (G_ldIn (n := 1) (nx := 1) (by decide +kernel) rfl rfl (G_ldIn (n := 2) (nx := 2) (by decide +kernel) rfl rfl (G_callS (b0 := 0) (nx := 5) (g_Fn_of rfl h_m_isTerm) (cw_10_170) wd6_131 rfl ⟨by decide, by show 2 ≤ 21; decide⟩ (Nat.zero_le _) (by decide +kernel) rfl (G_ifne (off := 9) (tg := 14) (nf := 8) (by decide +kernel) (by decide +kernel) rfl
  (G_ldAn (n := 0) (nx := 9) (by decide +kernel) rfl rfl (G_ic (n := -1) (nx := 10) (by decide +kernel) icv_m1 rfl (G_callV (b0 := 0) (nx := 13) (T := TX10) (ci := 10) (g_Fn_of rfl h_m_refuses) (cw_10_136) ⟨wd6_78, sel_GalleyRoomModel_refuses__I_I⟩ ⟨rfl, rfl⟩ ⟨by decide, by show 2 ≤ 21; decide⟩ (Nat.zero_le _) (rec_m_refuses _) (by decide +kernel) rfl (G_iret rfl (by decide +kernel)))))
  (G_ldAn (n := 0) (nx := 15) (by decide +kernel) rfl rfl (G_getRc (nx := 18) fl_10_24 rf_10_2 (by decide +kernel) rfl (G_ldIn (n := 1) (nx := 19) (by decide +kernel) rfl rfl (G_callS (b0 := 0) (nx := 22) (g_Fn_of rfl h_m_termAt) (cw_10_173) wd6_134 rfl ⟨by decide, by show 1 ≤ 21; decide⟩ (Nat.zero_le _) (by decide +kernel) rfl (G_iald (nx := 23) ak_43 (by decide +kernel) rfl (G_stIn (n := 3) (nx := 24) (by show 3 < 4; decide) (by decide +kernel) rfl rfl (G_ldAn (n := 0) (nx := 25) (by decide +kernel) rfl rfl (G_getRc (nx := 28) fl_10_24 rf_10_2 (by decide +kernel) rfl (G_ldIn (n := 1) (nx := 29) (by decide +kernel) rfl rfl (G_callS (b0 := 0) (nx := 32) (g_Fn_of rfl h_m_termAt) (cw_10_173) wd6_134 rfl ⟨by decide, by show 1 ≤ 21; decide⟩ (Nat.zero_le _) (by decide +kernel) rfl (G_ldIn (n := 2) (nx := 33) (by decide +kernel) rfl rfl (G_iast (nx := 34) ak_43 (by decide) (by decide +kernel) rfl (G_ldAn (n := 0) (nx := 35) (by decide +kernel) rfl rfl (G_ldIn (n := 3) (nx := 36) (by decide +kernel) rfl rfl (G_callV (b0 := 0) (nx := 39) (T := TX10) (ci := 10) (g_Fn_of rfl h_m_settled) (cw_10_139) ⟨wd6_90, sel_GalleyRoomModel_settled__I_I⟩ ⟨rfl, rfl⟩ ⟨by decide, by show 2 ≤ 21; decide⟩ (Nat.zero_le _) (rec_m_settled _) (by decide +kernel) rfl (G_iret rfl (by decide +kernel)))))))))))))))))))))
    exact ht _ _ σ q ((e_m_terms m_isTerm m_refuses m_termAt m_settled σ l1 l2).symm.trans e1)
  exact g_meth (σ' := q.1) (v := some (.inl q.2)) (by decide) rfl hw hwf hok (Nat.le_of_ble_eq_true rfl) hGo (fun σ2 v2 h => retI_inv h) (by exact e2)

set_option maxRecDepth 100000 in
set_option maxHeartbeats 4000000 in
theorem B_m_row_b133 (K40 : Sg → Int32 → Int32 → Int32 → Option (Sg × Int32)) (hK40 : ∀ (s : Sg) (l1 : Int32) (l2 : Int32) (l3 : Int32) (r : (Sg × Int32)), K40 s l1 l2 l3 = some r → g_Go M_m_row retI 0 40 [some (.inr (.inr (some (10, 0)))), some (.inl l1), some (.inl l2), some (.inl l3), none] [] s r) (s : Sg) (l1 : Int32) (l3 : Int32) (l4 : Int32) (y0 : Int32) (y1 : Int32) (r : (Sg × Int32)) (h : m_row_b133 K40 s l1 l3 l4 y0 y1 = some r) : g_Go M_m_row retI 0 133 [some (.inr (.inr (some (10, 0)))), some (.inl l1), none, some (.inl l3), some (.inl l4)] [.inl y1, .inl y0] s r := by
  have ht : g_Gd M_m_row retI 0 133 (t_m_row_b133 K40) := (G_iadd (nx := 134) (by decide +kernel) rfl (G_stIn (n := 2) (nx := 135) (by show 2 < 5; decide) (by decide +kernel) rfl rfl (G_ldAn (n := 0) (nx := 136) (by decide +kernel) rfl rfl (G_dup (nx := 137) (by decide +kernel) rfl (G_getI (nx := 140) fl_10_179 (Or.inl rfl) (by decide +kernel) rfl (G_ldI (nx := 142) (by decide +kernel) rfl (G_ifeq (off := 7) (tg := 149) (nf := 145) (by decide +kernel) (by decide +kernel) rfl
    (G_ic (n := 1) (nx := 150) (by decide +kernel) icv_1 rfl (G_iadd (nx := 151) (by decide +kernel) rfl (G_putI (nx := 154) fp_10_179 rfl (by decide +kernel) rfl (G_inc (n := 3) (nx := 157) (by show 3 < 5; decide) (by decide +kernel) icv_3 rfl (G_goto (off := -117) (nx := 40) (by decide +kernel) (by decide +kernel) (G_lbl (Gp_C <| Gp_I fun a1 => Gp_I fun a2 => Gp_I fun a3 => Gp_E fun s r h => hK40 s a1 a2 a3 r h)))))))
    (G_ic (n := 0) (nx := 146) (by decide +kernel) icv_0 rfl (G_goto (off := 4) (nx := 150) (by decide +kernel) (by decide +kernel) (G_iadd (nx := 151) (by decide +kernel) rfl (G_putI (nx := 154) fp_10_179 rfl (by decide +kernel) rfl (G_inc (n := 3) (nx := 157) (by show 3 < 5; decide) (by decide +kernel) icv_3 rfl (G_goto (off := -117) (nx := 40) (by decide +kernel) (by decide +kernel) (G_lbl (Gp_C <| Gp_I fun a1 => Gp_I fun a2 => Gp_I fun a3 => Gp_E fun s r h => hK40 s a1 a2 a3 r h)))))))))))))))
  exact ht _ _ s r ((e_m_row_b133 K40 s l1 l3 l4 y0 y1).symm.trans h)

set_option maxRecDepth 100000 in
set_option maxHeartbeats 4000000 in
theorem B_m_row_b89 (K40 : Sg → Int32 → Int32 → Int32 → Option (Sg × Int32)) (hK40 : ∀ (s : Sg) (l1 : Int32) (l2 : Int32) (l3 : Int32) (r : (Sg × Int32)), K40 s l1 l2 l3 = some r → g_Go M_m_row retI 0 40 [some (.inr (.inr (some (10, 0)))), some (.inl l1), some (.inl l2), some (.inl l3), none] [] s r) (s : Sg) (l1 : Int32) (l2 : Int32) (l3 : Int32) (y0 : Int32) (r : (Sg × Int32)) (h : m_row_b89 K40 s l1 l2 l3 y0 = some r) : g_Go M_m_row retI 0 89 [some (.inr (.inr (some (10, 0)))), some (.inl l1), some (.inl l2), some (.inl l3), none] [.inl y0] s r := by
  have ht : g_Gd M_m_row retI 0 89 (t_m_row_b89 (m_row_b133 K40) m_adds) := (G_stI (nx := 91) (by show 4 < 5; decide) (by decide +kernel) rfl (G_ldI (nx := 93) (by decide +kernel) rfl (G_ifeq (off := 29) (tg := 122) (nf := 96) (by decide +kernel) (by decide +kernel) rfl
    (G_ldIn (n := 2) (nx := 123) (by decide +kernel) rfl rfl (G_ldI (nx := 125) (by decide +kernel) rfl (G_ifeq (off := 7) (tg := 132) (nf := 128) (by decide +kernel) (by decide +kernel) rfl
      (G_ic (n := 0) (nx := 133) (by decide +kernel) icv_0 rfl (G_lbl (Gp_C <| Gp_I fun a1 => Gp_I fun a3 => Gp_I fun a4 => Gq_I fun b1 => Gq_I fun b0 => Gp_E fun s r h => B_m_row_b133 K40 hK40 s a1 a3 a4 b0 b1 r h)))
      (G_ic (n := 1) (nx := 129) (by decide +kernel) icv_1 rfl (G_goto (off := 4) (nx := 133) (by decide +kernel) (by decide +kernel) (G_lbl (Gp_C <| Gp_I fun a1 => Gp_I fun a3 => Gp_I fun a4 => Gq_I fun b1 => Gq_I fun b0 => Gp_E fun s r h => B_m_row_b133 K40 hK40 s a1 a3 a4 b0 b1 r h)))))))
    (G_ldAn (n := 0) (nx := 97) (by decide +kernel) rfl rfl (G_ldAn (n := 0) (nx := 98) (by decide +kernel) rfl rfl (G_getRc (nx := 101) fl_10_41 rf_10_11 (by decide +kernel) rfl (G_ldIn (n := 3) (nx := 102) (by decide +kernel) rfl rfl (G_bald (nx := 103) ak_48 (by decide +kernel) rfl (G_ldAn (n := 0) (nx := 104) (by decide +kernel) rfl rfl (G_getRc (nx := 107) fl_10_41 rf_10_11 (by decide +kernel) rfl (G_ldIn (n := 3) (nx := 108) (by decide +kernel) rfl rfl (G_ic (n := 1) (nx := 109) (by decide +kernel) icv_1 rfl (G_iadd (nx := 110) (by decide +kernel) rfl (G_bald (nx := 111) ak_48 (by decide +kernel) rfl (G_ldAn (n := 0) (nx := 112) (by decide +kernel) rfl rfl (G_getRc (nx := 115) fl_10_41 rf_10_11 (by decide +kernel) rfl (G_ldIn (n := 3) (nx := 116) (by decide +kernel) rfl rfl (G_ic (n := 2) (nx := 117) (by decide +kernel) icv_2 rfl (G_iadd (nx := 118) (by decide +kernel) rfl (G_bald (nx := 119) ak_48 (by decide +kernel) rfl (G_callV (b0 := 0) (nx := 122) (T := TX10) (ci := 10) (g_Fn_of rfl h_m_adds) (cw_10_157) ⟨wd6_101, sel_GalleyRoomModel_adds__III_V⟩ ⟨rfl, rfl⟩ ⟨by decide, by show 5 ≤ 21; decide⟩ (Nat.zero_le _) (rec_m_adds _) (by decide +kernel) rfl (G_ldIn (n := 2) (nx := 123) (by decide +kernel) rfl rfl (G_ldI (nx := 125) (by decide +kernel) rfl (G_ifeq (off := 7) (tg := 132) (nf := 128) (by decide +kernel) (by decide +kernel) rfl
      (G_ic (n := 0) (nx := 133) (by decide +kernel) icv_0 rfl (G_lbl (Gp_C <| Gp_I fun a1 => Gp_I fun a3 => Gp_I fun a4 => Gq_I fun b1 => Gq_I fun b0 => Gp_E fun s r h => B_m_row_b133 K40 hK40 s a1 a3 a4 b0 b1 r h)))
      (G_ic (n := 1) (nx := 129) (by decide +kernel) icv_1 rfl (G_goto (off := 4) (nx := 133) (by decide +kernel) (by decide +kernel) (G_lbl (Gp_C <| Gp_I fun a1 => Gp_I fun a3 => Gp_I fun a4 => Gq_I fun b1 => Gq_I fun b0 => Gp_E fun s r h => B_m_row_b133 K40 hK40 s a1 a3 a4 b0 b1 r h))))))))))))))))))))))))))))
  exact ht _ _ s r ((e_m_row_b89 (m_row_b133 K40) m_adds s l1 l2 l3 y0).symm.trans h)

set_option maxRecDepth 100000 in
set_option maxHeartbeats 4000000 in
theorem B_m_row_b40 : ∀ (n : Nat) (s : Sg) (l1 : Int32) (l2 : Int32) (l3 : Int32) (r : (Sg × Int32)), m_row_b40 n s l1 l2 l3 = some r → g_Go M_m_row retI 0 40 [some (.inr (.inr (some (10, 0)))), some (.inl l1), some (.inl l2), some (.inl l3), none] [] s r := by
  intro n
  induction n with
  | zero => intro s l1 l2 l3 r h; cases h
  | succ n hK40 =>
    intro s l1 l2 l3 r h
    have ht : g_Gd M_m_row retI 0 40 (t_m_row_b40 (m_row_b89 (m_row_b40 n)) m_wordMany m_canWord m_settled) := (G_ldIn (n := 3) (nx := 41) (by decide +kernel) rfl rfl (G_ic (n := 3) (nx := 42) (by decide +kernel) icv_3 rfl (G_iadd (nx := 43) (by decide +kernel) rfl (G_ldIn (n := 1) (nx := 44) (by decide +kernel) rfl rfl (G_icmpgt (off := 116) (tg := 160) (nf := 47) (by decide +kernel) (by decide +kernel) rfl
    (G_ldAn (n := 0) (nx := 161) (by decide +kernel) rfl rfl (G_ldIn (n := 2) (nx := 162) (by decide +kernel) rfl rfl (G_callV (b0 := 0) (nx := 165) (T := TX10) (ci := 10) (g_Fn_of rfl h_m_settled) (cw_10_139) ⟨wd6_90, sel_GalleyRoomModel_settled__I_I⟩ ⟨rfl, rfl⟩ ⟨by decide, by show 2 ≤ 21; decide⟩ (Nat.zero_le _) (rec_m_settled _) (by decide +kernel) rfl (G_iret rfl (by decide +kernel)))))
    (G_ldAn (n := 0) (nx := 48) (by decide +kernel) rfl rfl (G_callV (b0 := 0) (nx := 51) (T := TX10) (ci := 10) (g_Fn_of rfl h_m_wordMany) (cw_10_142) ⟨wd5_102, sel_GalleyRoomModel_wordMany___I⟩ ⟨rfl, rfl⟩ ⟨by decide, by show 1 ≤ 21; decide⟩ (Nat.zero_le _) (rec_m_wordMany _) (by decide +kernel) rfl (G_bi (n := 12) (nx := 53) (by decide +kernel) biv_12 rfl (G_icmpge (off := 35) (tg := 88) (nf := 56) (by decide +kernel) (by decide +kernel) rfl
      (G_ldAn (n := 0) (nx := 57) (by decide +kernel) rfl rfl (G_getRc (nx := 60) fl_10_41 rf_10_11 (by decide +kernel) rfl (G_ldIn (n := 3) (nx := 61) (by decide +kernel) rfl rfl (G_bald (nx := 62) ak_48 (by decide +kernel) rfl (G_ldAn (n := 0) (nx := 63) (by decide +kernel) rfl rfl (G_getRc (nx := 66) fl_10_41 rf_10_11 (by decide +kernel) rfl (G_ldIn (n := 3) (nx := 67) (by decide +kernel) rfl rfl (G_ic (n := 1) (nx := 68) (by decide +kernel) icv_1 rfl (G_iadd (nx := 69) (by decide +kernel) rfl (G_bald (nx := 70) ak_48 (by decide +kernel) rfl (G_ldAn (n := 0) (nx := 71) (by decide +kernel) rfl rfl (G_getRc (nx := 74) fl_10_41 rf_10_11 (by decide +kernel) rfl (G_ldIn (n := 3) (nx := 75) (by decide +kernel) rfl rfl (G_ic (n := 2) (nx := 76) (by decide +kernel) icv_2 rfl (G_iadd (nx := 77) (by decide +kernel) rfl (G_bald (nx := 78) ak_48 (by decide +kernel) rfl (G_callS (b0 := 0) (nx := 81) (g_Fn_of rfl h_m_canWord) (cw_10_154) wd6_97 rfl ⟨by decide, by show 3 ≤ 21; decide⟩ (Nat.zero_le _) (by decide +kernel) rfl (G_ifeq (off := 7) (tg := 88) (nf := 84) (by decide +kernel) (by decide +kernel) rfl
        (G_ic (n := 0) (nx := 89) (by decide +kernel) icv_0 rfl (G_lbl (Gp_C <| Gp_I fun a1 => Gp_I fun a2 => Gp_I fun a3 => Gq_I fun b0 => Gp_E fun s r h => B_m_row_b89 K40 hK40 s a1 a2 a3 b0 r h)))
        (G_ic (n := 1) (nx := 85) (by decide +kernel) icv_1 rfl (G_goto (off := 4) (nx := 89) (by decide +kernel) (by decide +kernel) (G_lbl (Gp_C <| Gp_I fun a1 => Gp_I fun a2 => Gp_I fun a3 => Gq_I fun b0 => Gp_E fun s r h => B_m_row_b89 K40 hK40 s a1 a2 a3 b0 r h))))))))))))))))))))))
      (G_ic (n := 0) (nx := 89) (by decide +kernel) icv_0 rfl (G_lbl (Gp_C <| Gp_I fun a1 => Gp_I fun a2 => Gp_I fun a3 => Gq_I fun b0 => Gp_E fun s r h => B_m_row_b89 K40 hK40 s a1 a2 a3 b0 r h))))))))))))
    exact ht _ _ s r ((e_m_row_b40 (m_row_b89 (m_row_b40 n)) m_wordMany m_canWord m_settled s l1 l2 l3).symm.trans h)

set_option maxRecDepth 100000 in
set_option maxHeartbeats 4000000 in
theorem h_m_row : g_Ft M_m_row yX10_row 1 (FW_m_row m_row) := by
  intro l w hw σ as hlen hwf hok ρ k r e
  unfold FW_m_row at e
  obtain ⟨hh0, e⟩ := p_C_inv e
  have e := p_E_inv e
  obtain ⟨q, e1, e2⟩ := Option.bind_eq_some_iff.mp e
  have has : as = [.inr (.inr (some (10, 0)))] := g_as1 hlen hh0
  subst has
  have hGo : g_Go M_m_row retI (me M_m_row) 0 (g_loc [.inr (.inr (some (10, 0)))] (ml M_m_row)) [] σ q := by
    have ht : g_Gd M_m_row retI (me M_m_row) 0 (t_m_row (m_row_b40 FU) m_refuses) := (G_ldAn (n := 0) (nx := 1) (by decide +kernel) rfl rfl (G_getI (nx := 4) fl_10_176 (Or.inl rfl) (by decide +kernel) rfl (G_stIn (n := 1) (nx := 5) (by show 1 < 5; decide) (by decide +kernel) rfl rfl (G_ldAn (n := 0) (nx := 6) (by decide +kernel) rfl rfl (G_ic (n := 0) (nx := 7) (by decide +kernel) icv_0 rfl (G_putI (nx := 10) fp_10_176 rfl (by decide +kernel) rfl (G_ldIn (n := 1) (nx := 11) (by decide +kernel) rfl rfl (G_ifne (off := 10) (tg := 21) (nf := 14) (by decide +kernel) (by decide +kernel) rfl
  (G_ldAn (n := 0) (nx := 15) (by decide +kernel) rfl rfl (G_bi (n := -6) (nx := 17) (by decide +kernel) biv_m6 rfl (G_callV (b0 := 0) (nx := 20) (T := TX10) (ci := 10) (g_Fn_of rfl h_m_refuses) (cw_10_136) ⟨wd6_78, sel_GalleyRoomModel_refuses__I_I⟩ ⟨rfl, rfl⟩ ⟨by decide, by show 2 ≤ 21; decide⟩ (Nat.zero_le _) (rec_m_refuses _) (by decide +kernel) rfl (G_iret rfl (by decide +kernel)))))
  (G_ic (n := 0) (nx := 22) (by decide +kernel) icv_0 rfl (G_stIn (n := 2) (nx := 23) (by show 2 < 5; decide) (by decide +kernel) rfl rfl (G_ldAn (n := 0) (nx := 24) (by decide +kernel) rfl rfl (G_ldIn (n := 1) (nx := 25) (by decide +kernel) rfl rfl (G_ic (n := 3) (nx := 26) (by decide +kernel) icv_3 rfl (G_irem (nx := 27) (by decide +kernel) rfl (G_ifne (off := 7) (tg := 34) (nf := 30) (by decide +kernel) (by decide +kernel) rfl
    (G_ic (n := 0) (nx := 31) (by decide +kernel) icv_0 rfl (G_goto (off := 4) (nx := 35) (by decide +kernel) (by decide +kernel) (G_putI (nx := 38) fp_10_179 rfl (by decide +kernel) rfl (G_ic (n := 0) (nx := 39) (by decide +kernel) icv_0 rfl (G_stIn (n := 3) (nx := 40) (by show 3 < 5; decide) (by decide +kernel) rfl rfl (G_lbl (Gp_C <| Gp_I fun a1 => Gp_I fun a2 => Gp_I fun a3 => Gp_E fun s r h => B_m_row_b40 FU s a1 a2 a3 r h)))))))
    (G_ic (n := 1) (nx := 35) (by decide +kernel) icv_1 rfl (G_putI (nx := 38) fp_10_179 rfl (by decide +kernel) rfl (G_ic (n := 0) (nx := 39) (by decide +kernel) icv_0 rfl (G_stIn (n := 3) (nx := 40) (by show 3 < 5; decide) (by decide +kernel) rfl rfl (G_lbl (Gp_C <| Gp_I fun a1 => Gp_I fun a2 => Gp_I fun a3 => Gp_E fun s r h => B_m_row_b40 FU s a1 a2 a3 r h)))))))))))))))))))))
    exact ht _ _ σ q ((e_m_row (m_row_b40 FU) m_refuses σ ).symm.trans e1)
  exact g_meth (σ' := q.1) (v := some (.inl q.2)) (by decide) rfl hw hwf hok (Nat.le_of_ble_eq_true rfl) hGo (fun σ2 v2 h => retI_inv h) (by exact e2)

set_option maxRecDepth 100000 in
set_option maxHeartbeats 4000000 in
theorem h_m_turned : g_Ft M_m_turned yX10_turned 1 (FW_m_turned m_turned) := by
  intro l w hw σ as hlen hwf hok ρ k r e
  unfold FW_m_turned at e
  obtain ⟨hh0, e⟩ := p_C_inv e
  have e := p_E_inv e
  obtain ⟨q, e1, e2⟩ := Option.bind_eq_some_iff.mp e
  have has : as = [.inr (.inr (some (10, 0)))] := g_as1 hlen hh0
  subst has
  have hGo : g_Go M_m_turned retI (me M_m_turned) 0 (g_loc [.inr (.inr (some (10, 0)))] (ml M_m_turned)) [] σ q := by
    have ht : g_Gd M_m_turned retI (me M_m_turned) 0 (t_m_turned) := (G_ldAn (n := 0) (nx := 1) (by decide +kernel) rfl rfl (G_getI (nx := 4) fl_10_179 (Or.inl rfl) (by decide +kernel) rfl (G_iret rfl (by decide +kernel))))
    exact ht _ _ σ q ((e_m_turned  σ ).symm.trans e1)
  exact g_meth (σ' := q.1) (v := some (.inl q.2)) (by decide) rfl hw hwf hok (Nat.le_of_ble_eq_true rfl) hGo (fun σ2 v2 h => retI_inv h) (by exact e2)

set_option maxRecDepth 100000 in
set_option maxHeartbeats 4000000 in
theorem B_m_feed_b55 : ∀ (n : Nat) (s : Sg) (l6 : Int32) (r : (Sg × Int32)), m_feed_b55 n s l6 = some r → g_Go M_m_feed retI 0 55 [some (.inr (.inr (some (10, 0)))), none, none, none, none, none, some (.inl l6)] [] s r := by
  intro n
  induction n with
  | zero => intro s l6 r h; cases h
  | succ n hK55 =>
    intro s l6 r h
    have ht : g_Gd M_m_feed retI 0 55 (t_m_feed_b55 (m_feed_b55 n)) := (G_ldI (nx := 57) (by decide +kernel) rfl (G_bi (n := 20) (nx := 59) (by decide +kernel) biv_20 rfl (G_icmpge (off := 42) (tg := 101) (nf := 62) (by decide +kernel) (by decide +kernel) rfl
    (G_ldAn (n := 0) (nx := 63) (by decide +kernel) rfl rfl (G_getRc (nx := 66) fl_10_41 rf_10_11 (by decide +kernel) rfl (G_ldAn (n := 0) (nx := 67) (by decide +kernel) rfl rfl (G_getI (nx := 70) fl_10_176 (Or.inl rfl) (by decide +kernel) rfl (G_ldI (nx := 72) (by decide +kernel) rfl (G_iadd (nx := 73) (by decide +kernel) rfl (G_ldAn (n := 0) (nx := 74) (by decide +kernel) rfl rfl (G_getRc (nx := 77) fl_10_44 rf_10_12 (by decide +kernel) rfl (G_ldI (nx := 79) (by decide +kernel) rfl (G_ic (n := 4) (nx := 80) (by decide +kernel) icv_4 rfl (G_idiv (nx := 81) (by decide +kernel) rfl (G_iald (nx := 82) ak_49 (by decide +kernel) rfl (G_bi (n := 24) (nx := 84) (by decide +kernel) biv_24 rfl (G_bi (n := 8) (nx := 86) (by decide +kernel) biv_8 rfl (G_ldI (nx := 88) (by decide +kernel) rfl (G_ic (n := 4) (nx := 89) (by decide +kernel) icv_4 rfl (G_irem (nx := 90) (by decide +kernel) rfl (G_imul (nx := 91) (by decide +kernel) rfl (G_isub (nx := 92) (by decide +kernel) rfl (G_ishr (nx := 93) (by decide +kernel) rfl (G_i2b (nx := 94) (by decide +kernel) rfl (G_bast (nx := 95) ak_48 (by decide) (by decide +kernel) rfl (G_inc (n := 1) (nx := 98) (by show 6 < 7; decide) (by decide +kernel) icv_1 rfl (G_goto (off := -43) (nx := 55) (by decide +kernel) (by decide +kernel) (G_lbl (Gp_C <| Gp_I fun a6 => Gp_E fun s r h => hK55 s a6 r h))))))))))))))))))))))))))
    (G_ldAn (n := 0) (nx := 102) (by decide +kernel) rfl rfl (G_dup (nx := 103) (by decide +kernel) rfl (G_getI (nx := 106) fl_10_176 (Or.inl rfl) (by decide +kernel) rfl (G_bi (n := 20) (nx := 108) (by decide +kernel) biv_20 rfl (G_iadd (nx := 109) (by decide +kernel) rfl (G_putI (nx := 112) fp_10_176 rfl (by decide +kernel) rfl (G_ldAn (n := 0) (nx := 113) (by decide +kernel) rfl rfl (G_getI (nx := 116) fl_10_176 (Or.inl rfl) (by decide +kernel) rfl (G_iret rfl (by decide +kernel)))))))))))))
    exact ht _ _ s r ((e_m_feed_b55 (m_feed_b55 n) s l6).symm.trans h)

set_option maxRecDepth 100000 in
set_option maxHeartbeats 4000000 in
theorem h_m_feed : g_Ft M_m_feed yX10_feed 6 (FW_m_feed m_feed) := by
  intro l w hw σ as hlen hwf hok ρ k r e
  unfold FW_m_feed at e
  obtain ⟨hh0, e⟩ := p_C_inv e
  obtain ⟨l1, hh1, e⟩ := p_I_inv e
  obtain ⟨l2, hh2, e⟩ := p_I_inv e
  obtain ⟨l3, hh3, e⟩ := p_I_inv e
  obtain ⟨l4, hh4, e⟩ := p_I_inv e
  obtain ⟨l5, hh5, e⟩ := p_I_inv e
  have e := p_E_inv e
  obtain ⟨q, e1, e2⟩ := Option.bind_eq_some_iff.mp e
  have has : as = [.inr (.inr (some (10, 0))), .inl l1, .inl l2, .inl l3, .inl l4, .inl l5] := g_as6 hlen hh0 hh1 hh2 hh3 hh4 hh5
  subst has
  have hGo : g_Go M_m_feed retI (me M_m_feed) 0 (g_loc [.inr (.inr (some (10, 0))), .inl l1, .inl l2, .inl l3, .inl l4, .inl l5] (ml M_m_feed)) [] σ q := by
    have ht : g_Gd M_m_feed retI (me M_m_feed) 0 (t_m_feed (m_feed_b55 FU)) := (G_ldAn (n := 0) (nx := 1) (by decide +kernel) rfl rfl (G_getI (nx := 4) fl_10_176 (Or.inl rfl) (by decide +kernel) rfl (G_bi (n := 20) (nx := 6) (by decide +kernel) biv_20 rfl (G_iadd (nx := 7) (by decide +kernel) rfl (G_si (n := 400) (nx := 10) (by decide +kernel) siv_400 rfl (G_icmple (off := 5) (tg := 15) (nf := 13) (by decide +kernel) (by decide +kernel) rfl
  (G_ic (n := -1) (nx := 14) (by decide +kernel) icv_m1 rfl (G_iret rfl (by decide +kernel)))
  (G_ldAn (n := 0) (nx := 16) (by decide +kernel) rfl rfl (G_getRc (nx := 19) fl_10_44 rf_10_12 (by decide +kernel) rfl (G_ic (n := 0) (nx := 20) (by decide +kernel) icv_0 rfl (G_ldIn (n := 1) (nx := 21) (by decide +kernel) rfl rfl (G_iast (nx := 22) ak_49 (by decide) (by decide +kernel) rfl (G_ldAn (n := 0) (nx := 23) (by decide +kernel) rfl rfl (G_getRc (nx := 26) fl_10_44 rf_10_12 (by decide +kernel) rfl (G_ic (n := 1) (nx := 27) (by decide +kernel) icv_1 rfl (G_ldIn (n := 2) (nx := 28) (by decide +kernel) rfl rfl (G_iast (nx := 29) ak_49 (by decide) (by decide +kernel) rfl (G_ldAn (n := 0) (nx := 30) (by decide +kernel) rfl rfl (G_getRc (nx := 33) fl_10_44 rf_10_12 (by decide +kernel) rfl (G_ic (n := 2) (nx := 34) (by decide +kernel) icv_2 rfl (G_ldIn (n := 3) (nx := 35) (by decide +kernel) rfl rfl (G_iast (nx := 36) ak_49 (by decide) (by decide +kernel) rfl (G_ldAn (n := 0) (nx := 37) (by decide +kernel) rfl rfl (G_getRc (nx := 40) fl_10_44 rf_10_12 (by decide +kernel) rfl (G_ic (n := 3) (nx := 41) (by decide +kernel) icv_3 rfl (G_ldI (nx := 43) (by decide +kernel) rfl (G_iast (nx := 44) ak_49 (by decide) (by decide +kernel) rfl (G_ldAn (n := 0) (nx := 45) (by decide +kernel) rfl rfl (G_getRc (nx := 48) fl_10_44 rf_10_12 (by decide +kernel) rfl (G_ic (n := 4) (nx := 49) (by decide +kernel) icv_4 rfl (G_ldI (nx := 51) (by decide +kernel) rfl (G_iast (nx := 52) ak_49 (by decide) (by decide +kernel) rfl (G_ic (n := 0) (nx := 53) (by decide +kernel) icv_0 rfl (G_stI (nx := 55) (by show 6 < 7; decide) (by decide +kernel) rfl (G_lbl (Gp_C <| Gp_I fun a6 => Gp_E fun s r h => B_m_feed_b55 FU s a6 r h)))))))))))))))))))))))))))))))))))
    exact ht _ _ σ q ((e_m_feed (m_feed_b55 FU) σ l1 l2 l3 l4 l5).symm.trans e1)
  exact g_meth (σ' := q.1) (v := some (.inl q.2)) (by decide) rfl hw hwf hok (Nat.le_of_ble_eq_true rfl) hGo (fun σ2 v2 h => retI_inv h) (by exact e2)

set_option maxRecDepth 100000 in
set_option maxHeartbeats 4000000 in
theorem h_m_end : g_Ft M_m_end yX10_end 2 (FW_m_end m_end) := by
  intro l w hw σ as hlen hwf hok ρ k r e
  unfold FW_m_end at e
  obtain ⟨hh0, e⟩ := p_C_inv e
  obtain ⟨l1, hh1, e⟩ := p_I_inv e
  have e := p_E_inv e
  obtain ⟨q, e1, e2⟩ := Option.bind_eq_some_iff.mp e
  have has : as = [.inr (.inr (some (10, 0))), .inl l1] := g_as2 hlen hh0 hh1
  subst has
  have hGo : g_Go M_m_end retI (me M_m_end) 0 (g_loc [.inr (.inr (some (10, 0))), .inl l1] (ml M_m_end)) [] σ q := by
    have ht : g_Gd M_m_end retI (me M_m_end) 0 (t_m_end m_lies) := (G_ldIn (n := 1) (nx := 1) (by decide +kernel) rfl rfl (G_ic (n := 0) (nx := 2) (by decide +kernel) icv_0 rfl (G_ldAn (n := 0) (nx := 3) (by decide +kernel) rfl rfl (G_getI (nx := 6) fl_10_176 (Or.inl rfl) (by decide +kernel) rfl (G_callS (b0 := 0) (nx := 9) (g_Fn_of rfl h_m_lies) (cw_10_132) wd6_74 rfl ⟨by decide, by show 3 ≤ 21; decide⟩ (Nat.zero_le _) (by decide +kernel) rfl (G_ifne (off := 5) (tg := 14) (nf := 12) (by decide +kernel) (by decide +kernel) rfl
  (G_ic (n := -1) (nx := 13) (by decide +kernel) icv_m1 rfl (G_iret rfl (by decide +kernel)))
  (G_ldAn (n := 0) (nx := 15) (by decide +kernel) rfl rfl (G_ldIn (n := 1) (nx := 16) (by decide +kernel) rfl rfl (G_putI (nx := 19) fp_10_176 rfl (by decide +kernel) rfl (G_ldIn (n := 1) (nx := 20) (by decide +kernel) rfl rfl (G_iret rfl (by decide +kernel))))))))))))
    exact ht _ _ σ q ((e_m_end m_lies σ l1).symm.trans e1)
  exact g_meth (σ' := q.1) (v := some (.inl q.2)) (by decide) rfl hw hwf hok (Nat.le_of_ble_eq_true rfl) hGo (fun σ2 v2 h => retI_inv h) (by exact e2)

set_option maxRecDepth 100000 in
set_option maxHeartbeats 4000000 in
theorem h_m_isSmall : g_Ft M_m_isSmall yX10_isSmall 1 (FW_m_isSmall m_isSmall) := by
  intro l w hw σ as hlen hwf hok ρ k r e
  unfold FW_m_isSmall at e
  obtain ⟨l0, hh0, e⟩ := p_I_inv e
  have e := p_E_inv e
  obtain ⟨q, e1, e2⟩ := Option.bind_eq_some_iff.mp e
  have has : as = [.inl l0] := g_as1 hlen hh0
  subst has
  have hGo : g_Go M_m_isSmall retI (me M_m_isSmall) 0 (g_loc [.inl l0] (ml M_m_isSmall)) [] σ q := by
    have ht : g_Gd M_m_isSmall retI (me M_m_isSmall) 0 (t_m_isSmall) := (G_ldIn (n := 0) (nx := 1) (by decide +kernel) rfl rfl (G_bi (n := 97) (nx := 3) (by decide +kernel) biv_97 rfl (G_icmplt (off := 13) (tg := 16) (nf := 6) (by decide +kernel) (by decide +kernel) rfl
  (G_ic (n := 0) (nx := 17) (by decide +kernel) icv_0 rfl (G_zret rfl (by decide +kernel)))
  (G_ldIn (n := 0) (nx := 7) (by decide +kernel) rfl rfl (G_bi (n := 122) (nx := 9) (by decide +kernel) biv_122 rfl (G_icmpgt (off := 7) (tg := 16) (nf := 12) (by decide +kernel) (by decide +kernel) rfl
    (G_ic (n := 0) (nx := 17) (by decide +kernel) icv_0 rfl (G_zret rfl (by decide +kernel)))
    (G_ic (n := 1) (nx := 13) (by decide +kernel) icv_1 rfl (G_goto (off := 4) (nx := 17) (by decide +kernel) (by decide +kernel) (G_zret rfl (by decide +kernel))))))))))
    exact ht _ _ σ q ((e_m_isSmall  σ l0).symm.trans e1)
  exact g_meth (σ' := q.1) (v := some (.inl q.2)) (by decide) rfl hw hwf hok (Nat.le_of_ble_eq_true rfl) hGo (fun σ2 v2 h => retI_inv h) (by exact e2)

set_option maxRecDepth 100000 in
set_option maxHeartbeats 4000000 in
theorem h_m_isDigit : g_Ft M_m_isDigit yX10_isDigit 1 (FW_m_isDigit m_isDigit) := by
  intro l w hw σ as hlen hwf hok ρ k r e
  unfold FW_m_isDigit at e
  obtain ⟨l0, hh0, e⟩ := p_I_inv e
  have e := p_E_inv e
  obtain ⟨q, e1, e2⟩ := Option.bind_eq_some_iff.mp e
  have has : as = [.inl l0] := g_as1 hlen hh0
  subst has
  have hGo : g_Go M_m_isDigit retI (me M_m_isDigit) 0 (g_loc [.inl l0] (ml M_m_isDigit)) [] σ q := by
    have ht : g_Gd M_m_isDigit retI (me M_m_isDigit) 0 (t_m_isDigit) := (G_ldIn (n := 0) (nx := 1) (by decide +kernel) rfl rfl (G_bi (n := 48) (nx := 3) (by decide +kernel) biv_48 rfl (G_icmplt (off := 13) (tg := 16) (nf := 6) (by decide +kernel) (by decide +kernel) rfl
  (G_ic (n := 0) (nx := 17) (by decide +kernel) icv_0 rfl (G_zret rfl (by decide +kernel)))
  (G_ldIn (n := 0) (nx := 7) (by decide +kernel) rfl rfl (G_bi (n := 57) (nx := 9) (by decide +kernel) biv_57 rfl (G_icmpgt (off := 7) (tg := 16) (nf := 12) (by decide +kernel) (by decide +kernel) rfl
    (G_ic (n := 0) (nx := 17) (by decide +kernel) icv_0 rfl (G_zret rfl (by decide +kernel)))
    (G_ic (n := 1) (nx := 13) (by decide +kernel) icv_1 rfl (G_goto (off := 4) (nx := 17) (by decide +kernel) (by decide +kernel) (G_zret rfl (by decide +kernel))))))))))
    exact ht _ _ σ q ((e_m_isDigit  σ l0).symm.trans e1)
  exact g_meth (σ' := q.1) (v := some (.inl q.2)) (by decide) rfl hw hwf hok (Nat.le_of_ble_eq_true rfl) hGo (fun σ2 v2 h => retI_inv h) (by exact e2)

set_option maxRecDepth 100000 in
set_option maxHeartbeats 4000000 in
theorem B_m_wordOf_b57 (K5 : Sg → Int32 → Int32 → Int32 → Int32 → Option (Sg × Int32)) (hK5 : ∀ (s : Sg) (l1 : Int32) (l2 : Int32) (l3 : Int32) (l4 : Int32) (r : (Sg × Int32)), K5 s l1 l2 l3 l4 = some r → g_Go M_m_wordOf retI 0 5 [some (.inr (.inr (some (10, 0)))), some (.inl l1), some (.inl l2), some (.inl l3), some (.inl l4), none, none, none] [] s r) : ∀ (n : Nat) (s : Sg) (l1 : Int32) (l2 : Int32) (l3 : Int32) (l4 : Int32) (l5 : Int32) (l6 : Int32) (l7 : Int32) (r : (Sg × Int32)), m_wordOf_b57 K5 n s l1 l2 l3 l4 l5 l6 l7 = some r → g_Go M_m_wordOf retI 0 57 [some (.inr (.inr (some (10, 0)))), some (.inl l1), some (.inl l2), some (.inl l3), some (.inl l4), some (.inl l5), some (.inl l6), some (.inl l7)] [] s r := by
  intro n
  induction n with
  | zero => intro s l1 l2 l3 l4 l5 l6 l7 r h; cases h
  | succ n hK57 =>
    intro s l1 l2 l3 l4 l5 l6 l7 r h
    have ht : g_Gd M_m_wordOf retI 0 57 (t_m_wordOf_b57 K5 (m_wordOf_b57 K5 n)) := (G_ldI (nx := 59) (by decide +kernel) rfl (G_ldI (nx := 61) (by decide +kernel) rfl (G_icmpge (off := 43) (tg := 104) (nf := 64) (by decide +kernel) (by decide +kernel) rfl
    (G_ldI (nx := 66) (by decide +kernel) rfl (G_ifeq (off := 38) (tg := 104) (nf := 69) (by decide +kernel) (by decide +kernel) rfl
      (G_ldI (nx := 106) (by decide +kernel) rfl (G_ifeq (off := 5) (tg := 111) (nf := 109) (by decide +kernel) (by decide +kernel) rfl
        (G_ldI (nx := 113) (by decide +kernel) rfl (G_ldI (nx := 115) (by decide +kernel) rfl (G_ic (n := 1) (nx := 116) (by decide +kernel) icv_1 rfl (G_iadd (nx := 117) (by decide +kernel) rfl (G_iadd (nx := 118) (by decide +kernel) rfl (G_stI (nx := 120) (by show 4 < 8; decide) (by decide +kernel) rfl (G_inc (n := 1) (nx := 123) (by show 3 < 8; decide) (by decide +kernel) icv_1 rfl (G_goto (off := -118) (nx := 5) (by decide +kernel) (by decide +kernel) (G_lbl (Gp_C <| Gp_I fun a1 => Gp_I fun a2 => Gp_I fun a3 => Gp_I fun a4 => Gp_E fun s r h => hK5 s a1 a2 a3 a4 r h))))))))))
        (G_ldIn (n := 3) (nx := 110) (by decide +kernel) rfl rfl (G_iret rfl (by decide +kernel)))))
      (G_ldAn (n := 0) (nx := 70) (by decide +kernel) rfl rfl (G_getRc (nx := 73) fl_10_37 rf_10_7 (by decide +kernel) rfl (G_ldI (nx := 75) (by decide +kernel) rfl (G_ldI (nx := 77) (by decide +kernel) rfl (G_iadd (nx := 78) (by decide +kernel) rfl (G_bald (nx := 79) ak_47 (by decide +kernel) rfl (G_ldAn (n := 0) (nx := 80) (by decide +kernel) rfl rfl (G_getRc (nx := 83) fl_10_41 rf_10_11 (by decide +kernel) rfl (G_ldIn (n := 1) (nx := 84) (by decide +kernel) rfl rfl (G_ldI (nx := 86) (by decide +kernel) rfl (G_iadd (nx := 87) (by decide +kernel) rfl (G_bald (nx := 88) ak_48 (by decide +kernel) rfl (G_icmpne (off := 7) (tg := 95) (nf := 91) (by decide +kernel) (by decide +kernel) rfl
        (G_ic (n := 1) (nx := 92) (by decide +kernel) icv_1 rfl (G_goto (off := 4) (nx := 96) (by decide +kernel) (by decide +kernel) (G_stI (nx := 98) (by show 6 < 8; decide) (by decide +kernel) rfl (G_inc (n := 1) (nx := 101) (by show 7 < 8; decide) (by decide +kernel) icv_1 rfl (G_goto (off := -44) (nx := 57) (by decide +kernel) (by decide +kernel) (G_lbl (Gp_C <| Gp_I fun a1 => Gp_I fun a2 => Gp_I fun a3 => Gp_I fun a4 => Gp_I fun a5 => Gp_I fun a6 => Gp_I fun a7 => Gp_E fun s r h => hK57 s a1 a2 a3 a4 a5 a6 a7 r h)))))))
        (G_ic (n := 0) (nx := 96) (by decide +kernel) icv_0 rfl (G_stI (nx := 98) (by show 6 < 8; decide) (by decide +kernel) rfl (G_inc (n := 1) (nx := 101) (by show 7 < 8; decide) (by decide +kernel) icv_1 rfl (G_goto (off := -44) (nx := 57) (by decide +kernel) (by decide +kernel) (G_lbl (Gp_C <| Gp_I fun a1 => Gp_I fun a2 => Gp_I fun a3 => Gp_I fun a4 => Gp_I fun a5 => Gp_I fun a6 => Gp_I fun a7 => Gp_E fun s r h => hK57 s a1 a2 a3 a4 a5 a6 a7 r h)))))))))))))))))))))
    (G_ldI (nx := 106) (by decide +kernel) rfl (G_ifeq (off := 5) (tg := 111) (nf := 109) (by decide +kernel) (by decide +kernel) rfl
      (G_ldI (nx := 113) (by decide +kernel) rfl (G_ldI (nx := 115) (by decide +kernel) rfl (G_ic (n := 1) (nx := 116) (by decide +kernel) icv_1 rfl (G_iadd (nx := 117) (by decide +kernel) rfl (G_iadd (nx := 118) (by decide +kernel) rfl (G_stI (nx := 120) (by show 4 < 8; decide) (by decide +kernel) rfl (G_inc (n := 1) (nx := 123) (by show 3 < 8; decide) (by decide +kernel) icv_1 rfl (G_goto (off := -118) (nx := 5) (by decide +kernel) (by decide +kernel) (G_lbl (Gp_C <| Gp_I fun a1 => Gp_I fun a2 => Gp_I fun a3 => Gp_I fun a4 => Gp_E fun s r h => hK5 s a1 a2 a3 a4 r h))))))))))
      (G_ldIn (n := 3) (nx := 110) (by decide +kernel) rfl rfl (G_iret rfl (by decide +kernel))))))))
    exact ht _ _ s r ((e_m_wordOf_b57 K5 (m_wordOf_b57 K5 n) s l1 l2 l3 l4 l5 l6 l7).symm.trans h)

set_option maxRecDepth 100000 in
set_option maxHeartbeats 4000000 in
theorem B_m_wordOf_b18 (K5 : Sg → Int32 → Int32 → Int32 → Int32 → Option (Sg × Int32)) (hK5 : ∀ (s : Sg) (l1 : Int32) (l2 : Int32) (l3 : Int32) (l4 : Int32) (r : (Sg × Int32)), K5 s l1 l2 l3 l4 = some r → g_Go M_m_wordOf retI 0 5 [some (.inr (.inr (some (10, 0)))), some (.inl l1), some (.inl l2), some (.inl l3), some (.inl l4), none, none, none] [] s r) : ∀ (n : Nat) (s : Sg) (l1 : Int32) (l2 : Int32) (l3 : Int32) (l4 : Int32) (l5 : Int32) (r : (Sg × Int32)), m_wordOf_b18 K5 n s l1 l2 l3 l4 l5 = some r → g_Go M_m_wordOf retI 0 18 [some (.inr (.inr (some (10, 0)))), some (.inl l1), some (.inl l2), some (.inl l3), some (.inl l4), some (.inl l5), none, none] [] s r := by
  intro n
  induction n with
  | zero => intro s l1 l2 l3 l4 l5 r h; cases h
  | succ n hK18 =>
    intro s l1 l2 l3 l4 l5 r h
    have ht : g_Gd M_m_wordOf retI 0 18 (t_m_wordOf_b18 (m_wordOf_b18 K5 n) (m_wordOf_b57 K5 FU)) := (G_ldAn (n := 0) (nx := 19) (by decide +kernel) rfl rfl (G_getRc (nx := 22) fl_10_37 rf_10_7 (by decide +kernel) rfl (G_ldI (nx := 24) (by decide +kernel) rfl (G_ldI (nx := 26) (by decide +kernel) rfl (G_iadd (nx := 27) (by decide +kernel) rfl (G_bald (nx := 28) ak_47 (by decide +kernel) rfl (G_bi (n := 32) (nx := 30) (by decide +kernel) biv_32 rfl (G_icmpeq (off := 9) (tg := 39) (nf := 33) (by decide +kernel) (by decide +kernel) rfl
    (G_ldI (nx := 41) (by decide +kernel) rfl (G_ldIn (n := 2) (nx := 42) (by decide +kernel) rfl rfl (G_ldIn (n := 1) (nx := 43) (by decide +kernel) rfl rfl (G_isub (nx := 44) (by decide +kernel) rfl (G_icmpne (off := 7) (tg := 51) (nf := 47) (by decide +kernel) (by decide +kernel) rfl
      (G_ic (n := 1) (nx := 48) (by decide +kernel) icv_1 rfl (G_goto (off := 4) (nx := 52) (by decide +kernel) (by decide +kernel) (G_stI (nx := 54) (by show 6 < 8; decide) (by decide +kernel) rfl (G_ic (n := 0) (nx := 55) (by decide +kernel) icv_0 rfl (G_stI (nx := 57) (by show 7 < 8; decide) (by decide +kernel) rfl (G_lbl (Gp_C <| Gp_I fun a1 => Gp_I fun a2 => Gp_I fun a3 => Gp_I fun a4 => Gp_I fun a5 => Gp_I fun a6 => Gp_I fun a7 => Gp_E fun s r h => B_m_wordOf_b57 K5 hK5 FU s a1 a2 a3 a4 a5 a6 a7 r h)))))))
      (G_ic (n := 0) (nx := 52) (by decide +kernel) icv_0 rfl (G_stI (nx := 54) (by show 6 < 8; decide) (by decide +kernel) rfl (G_ic (n := 0) (nx := 55) (by decide +kernel) icv_0 rfl (G_stI (nx := 57) (by show 7 < 8; decide) (by decide +kernel) rfl (G_lbl (Gp_C <| Gp_I fun a1 => Gp_I fun a2 => Gp_I fun a3 => Gp_I fun a4 => Gp_I fun a5 => Gp_I fun a6 => Gp_I fun a7 => Gp_E fun s r h => B_m_wordOf_b57 K5 hK5 FU s a1 a2 a3 a4 a5 a6 a7 r h)))))))))))
    (G_inc (n := 1) (nx := 36) (by show 5 < 8; decide) (by decide +kernel) icv_1 rfl (G_goto (off := -18) (nx := 18) (by decide +kernel) (by decide +kernel) (G_lbl (Gp_C <| Gp_I fun a1 => Gp_I fun a2 => Gp_I fun a3 => Gp_I fun a4 => Gp_I fun a5 => Gp_E fun s r h => hK18 s a1 a2 a3 a4 a5 r h))))))))))))
    exact ht _ _ s r ((e_m_wordOf_b18 (m_wordOf_b18 K5 n) (m_wordOf_b57 K5 FU) s l1 l2 l3 l4 l5).symm.trans h)

set_option maxRecDepth 100000 in
set_option maxHeartbeats 4000000 in
theorem B_m_wordOf_b5 : ∀ (n : Nat) (s : Sg) (l1 : Int32) (l2 : Int32) (l3 : Int32) (l4 : Int32) (r : (Sg × Int32)), m_wordOf_b5 n s l1 l2 l3 l4 = some r → g_Go M_m_wordOf retI 0 5 [some (.inr (.inr (some (10, 0)))), some (.inl l1), some (.inl l2), some (.inl l3), some (.inl l4), none, none, none] [] s r := by
  intro n
  induction n with
  | zero => intro s l1 l2 l3 l4 r h; cases h
  | succ n hK5 =>
    intro s l1 l2 l3 l4 r h
    have ht : g_Gd M_m_wordOf retI 0 5 (t_m_wordOf_b5 (m_wordOf_b18 (m_wordOf_b5 n) FU)) := (G_ldI (nx := 7) (by decide +kernel) rfl (G_ldAn (n := 0) (nx := 8) (by decide +kernel) rfl rfl (G_getRc (nx := 11) fl_10_37 rf_10_7 (by decide +kernel) rfl (G_alen (nx := 12) ak_47 (by decide) (by decide +kernel) rfl (G_icmpge (off := 114) (tg := 126) (nf := 15) (by decide +kernel) (by decide +kernel) rfl
    (G_ic (n := 0) (nx := 16) (by decide +kernel) icv_0 rfl (G_stI (nx := 18) (by show 5 < 8; decide) (by decide +kernel) rfl (G_lbl (Gp_C <| Gp_I fun a1 => Gp_I fun a2 => Gp_I fun a3 => Gp_I fun a4 => Gp_I fun a5 => Gp_E fun s r h => B_m_wordOf_b18 K5 hK5 FU s a1 a2 a3 a4 a5 r h))))
    (G_ic (n := 0) (nx := 127) (by decide +kernel) icv_0 rfl (G_iret rfl (by decide +kernel))))))))
    exact ht _ _ s r ((e_m_wordOf_b5 (m_wordOf_b18 (m_wordOf_b5 n) FU) s l1 l2 l3 l4).symm.trans h)

set_option maxRecDepth 100000 in
set_option maxHeartbeats 4000000 in
theorem h_m_wordOf : g_Ft M_m_wordOf yX10_wordOf 3 (FW_m_wordOf m_wordOf) := by
  intro l w hw σ as hlen hwf hok ρ k r e
  unfold FW_m_wordOf at e
  obtain ⟨hh0, e⟩ := p_C_inv e
  obtain ⟨l1, hh1, e⟩ := p_I_inv e
  obtain ⟨l2, hh2, e⟩ := p_I_inv e
  have e := p_E_inv e
  obtain ⟨q, e1, e2⟩ := Option.bind_eq_some_iff.mp e
  have has : as = [.inr (.inr (some (10, 0))), .inl l1, .inl l2] := g_as3 hlen hh0 hh1 hh2
  subst has
  have hGo : g_Go M_m_wordOf retI (me M_m_wordOf) 0 (g_loc [.inr (.inr (some (10, 0))), .inl l1, .inl l2] (ml M_m_wordOf)) [] σ q := by
    have ht : g_Gd M_m_wordOf retI (me M_m_wordOf) 0 (t_m_wordOf (m_wordOf_b5 FU)) := (G_ic (n := 1) (nx := 1) (by decide +kernel) icv_1 rfl (G_stIn (n := 3) (nx := 2) (by show 3 < 8; decide) (by decide +kernel) rfl rfl (G_ic (n := 0) (nx := 3) (by decide +kernel) icv_0 rfl (G_stI (nx := 5) (by show 4 < 8; decide) (by decide +kernel) rfl (G_lbl (Gp_C <| Gp_I fun a1 => Gp_I fun a2 => Gp_I fun a3 => Gp_I fun a4 => Gp_E fun s r h => B_m_wordOf_b5 FU s a1 a2 a3 a4 r h))))))
    exact ht _ _ σ q ((e_m_wordOf (m_wordOf_b5 FU) σ l1 l2).symm.trans e1)
  exact g_meth (σ' := q.1) (v := some (.inl q.2)) (by decide) rfl hw hwf hok (Nat.le_of_ble_eq_true rfl) hGo (fun σ2 v2 h => retI_inv h) (by exact e2)

set_option maxRecDepth 100000 in
set_option maxHeartbeats 4000000 in
theorem B_m_splits_b169 (K7 : Sg → Int32 → Int32 → Option Sg) (hK7 : ∀ (s : Sg) (l1 : Int32) (l2 : Int32) (r : Sg), K7 s l1 l2 = some r → g_Go M_m_splits retV 0 7 [some (.inr (.inr (some (10, 0)))), some (.inl l1), some (.inl l2), none, none, none] [] s r) : ∀ (n : Nat) (s : Sg) (l1 : Int32) (l3 : Int32) (l4 : Int32) (l5 : Int32) (r : Sg), m_splits_b169 K7 n s l1 l3 l4 l5 = some r → g_Go M_m_splits retV 0 169 [some (.inr (.inr (some (10, 0)))), some (.inl l1), none, some (.inl l3), some (.inl l4), some (.inl l5)] [] s r := by
  intro n
  induction n with
  | zero => intro s l1 l3 l4 l5 r h; cases h
  | succ n hK169 =>
    intro s l1 l3 l4 l5 r h
    have ht : g_Gd M_m_splits retV 0 169 (t_m_splits_b169 K7 (m_splits_b169 K7 n) m_isDigit) := (G_ldI (nx := 171) (by decide +kernel) rfl (G_ldI (nx := 173) (by decide +kernel) rfl (G_icmpge (off := 74) (tg := 247) (nf := 176) (by decide +kernel) (by decide +kernel) rfl
    (G_ldIn (n := 3) (nx := 177) (by decide +kernel) rfl rfl (G_callS (b0 := 0) (nx := 180) (g_Fn_of rfl h_m_isDigit) (cw_10_188) wd6_172 rfl ⟨by decide, by show 1 ≤ 21; decide⟩ (Nat.zero_le _) (by decide +kernel) rfl (G_ifeq (off := 67) (tg := 247) (nf := 183) (by decide +kernel) (by decide +kernel) rfl
      (G_ldAn (n := 0) (nx := 248) (by decide +kernel) rfl rfl (G_dup (nx := 249) (by decide +kernel) rfl (G_getI (nx := 252) fl_10_182 (Or.inl rfl) (by decide +kernel) rfl (G_ic (n := 1) (nx := 253) (by decide +kernel) icv_1 rfl (G_iadd (nx := 254) (by decide +kernel) rfl (G_putI (nx := 257) fp_10_182 rfl (by decide +kernel) rfl (G_ldI (nx := 259) (by decide +kernel) rfl (G_stIn (n := 2) (nx := 260) (by show 2 < 6; decide) (by decide +kernel) rfl rfl (G_goto (off := -253) (nx := 7) (by decide +kernel) (by decide +kernel) (G_lbl (Gp_C <| Gp_I fun a1 => Gp_I fun a2 => Gp_E fun s r h => hK7 s a1 a2 r h)))))))))))
      (G_ldAn (n := 0) (nx := 184) (by decide +kernel) rfl rfl (G_getRc (nx := 187) fl_10_53 rf_10_16 (by decide +kernel) rfl (G_ldAn (n := 0) (nx := 188) (by decide +kernel) rfl rfl (G_getI (nx := 191) fl_10_182 (Or.inl rfl) (by decide +kernel) rfl (G_ldAn (n := 0) (nx := 192) (by decide +kernel) rfl rfl (G_getRc (nx := 195) fl_10_53 rf_10_16 (by decide +kernel) rfl (G_ldAn (n := 0) (nx := 196) (by decide +kernel) rfl rfl (G_getI (nx := 199) fl_10_182 (Or.inl rfl) (by decide +kernel) rfl (G_iald (nx := 200) ak_51 (by decide +kernel) rfl (G_ldc (nx := 202) wd6_178 (by decide +kernel) rfl (G_icmple (off := 15) (tg := 217) (nf := 205) (by decide +kernel) (by decide +kernel) rfl
        (G_ldAn (n := 0) (nx := 206) (by decide +kernel) rfl rfl (G_getRc (nx := 209) fl_10_53 rf_10_16 (by decide +kernel) rfl (G_ldAn (n := 0) (nx := 210) (by decide +kernel) rfl rfl (G_getI (nx := 213) fl_10_182 (Or.inl rfl) (by decide +kernel) rfl (G_iald (nx := 214) ak_51 (by decide +kernel) rfl (G_goto (off := 26) (nx := 240) (by decide +kernel) (by decide +kernel) (G_iast (nx := 241) ak_51 (by decide) (by decide +kernel) rfl (G_inc (n := 1) (nx := 244) (by show 5 < 6; decide) (by decide +kernel) icv_1 rfl (G_goto (off := -75) (nx := 169) (by decide +kernel) (by decide +kernel) (G_lbl (Gp_C <| Gp_I fun a1 => Gp_I fun a3 => Gp_I fun a4 => Gp_I fun a5 => Gp_E fun s r h => hK169 s a1 a3 a4 a5 r h)))))))))))
        (G_bi (n := 10) (nx := 219) (by decide +kernel) biv_10 rfl (G_ldAn (n := 0) (nx := 220) (by decide +kernel) rfl rfl (G_getRc (nx := 223) fl_10_53 rf_10_16 (by decide +kernel) rfl (G_ldAn (n := 0) (nx := 224) (by decide +kernel) rfl rfl (G_getI (nx := 227) fl_10_182 (Or.inl rfl) (by decide +kernel) rfl (G_iald (nx := 228) ak_51 (by decide +kernel) rfl (G_imul (nx := 229) (by decide +kernel) rfl (G_ldAn (n := 0) (nx := 230) (by decide +kernel) rfl rfl (G_getRc (nx := 233) fl_10_41 rf_10_11 (by decide +kernel) rfl (G_ldI (nx := 235) (by decide +kernel) rfl (G_bald (nx := 236) ak_48 (by decide +kernel) rfl (G_iadd (nx := 237) (by decide +kernel) rfl (G_bi (n := 48) (nx := 239) (by decide +kernel) biv_48 rfl (G_isub (nx := 240) (by decide +kernel) rfl (G_iast (nx := 241) ak_51 (by decide) (by decide +kernel) rfl (G_inc (n := 1) (nx := 244) (by show 5 < 6; decide) (by decide +kernel) icv_1 rfl (G_goto (off := -75) (nx := 169) (by decide +kernel) (by decide +kernel) (G_lbl (Gp_C <| Gp_I fun a1 => Gp_I fun a3 => Gp_I fun a4 => Gp_I fun a5 => Gp_E fun s r h => hK169 s a1 a3 a4 a5 r h)))))))))))))))))))))))))))))))))
    (G_ldAn (n := 0) (nx := 248) (by decide +kernel) rfl rfl (G_dup (nx := 249) (by decide +kernel) rfl (G_getI (nx := 252) fl_10_182 (Or.inl rfl) (by decide +kernel) rfl (G_ic (n := 1) (nx := 253) (by decide +kernel) icv_1 rfl (G_iadd (nx := 254) (by decide +kernel) rfl (G_putI (nx := 257) fp_10_182 rfl (by decide +kernel) rfl (G_ldI (nx := 259) (by decide +kernel) rfl (G_stIn (n := 2) (nx := 260) (by show 2 < 6; decide) (by decide +kernel) rfl rfl (G_goto (off := -253) (nx := 7) (by decide +kernel) (by decide +kernel) (G_lbl (Gp_C <| Gp_I fun a1 => Gp_I fun a2 => Gp_E fun s r h => hK7 s a1 a2 r h))))))))))))))
    exact ht _ _ s r ((e_m_splits_b169 K7 (m_splits_b169 K7 n) m_isDigit s l1 l3 l4 l5).symm.trans h)

set_option maxRecDepth 100000 in
set_option maxHeartbeats 4000000 in
theorem B_m_splits_b100 (K7 : Sg → Int32 → Int32 → Option Sg) (hK7 : ∀ (s : Sg) (l1 : Int32) (l2 : Int32) (r : Sg), K7 s l1 l2 = some r → g_Go M_m_splits retV 0 7 [some (.inr (.inr (some (10, 0)))), some (.inl l1), some (.inl l2), none, none, none] [] s r) (s : Sg) (l1 : Int32) (l2 : Int32) (l3 : Int32) (l4 : Int32) (r : Sg) (h : m_splits_b100 K7 s l1 l2 l3 l4 = some r) : g_Go M_m_splits retV 0 100 [some (.inr (.inr (some (10, 0)))), some (.inl l1), some (.inl l2), some (.inl l3), some (.inl l4), none] [] s r := by
  have ht : g_Gd M_m_splits retV 0 100 (t_m_splits_b100 (m_splits_b169 K7 FU) m_isSmall m_wordOf m_isDigit) := (G_ldAn (n := 0) (nx := 101) (by decide +kernel) rfl rfl (G_getRc (nx := 104) fl_10_56 rf_10_17 (by decide +kernel) rfl (G_ldAn (n := 0) (nx := 105) (by decide +kernel) rfl rfl (G_getI (nx := 108) fl_10_182 (Or.inl rfl) (by decide +kernel) rfl (G_ldIn (n := 2) (nx := 109) (by decide +kernel) rfl rfl (G_iast (nx := 110) ak_52 (by decide) (by decide +kernel) rfl (G_ldAn (n := 0) (nx := 111) (by decide +kernel) rfl rfl (G_getRc (nx := 114) fl_10_53 rf_10_16 (by decide +kernel) rfl (G_ldAn (n := 0) (nx := 115) (by decide +kernel) rfl rfl (G_getI (nx := 118) fl_10_182 (Or.inl rfl) (by decide +kernel) rfl (G_ic (n := 0) (nx := 119) (by decide +kernel) icv_0 rfl (G_iast (nx := 120) ak_51 (by decide) (by decide +kernel) rfl (G_ldAn (n := 0) (nx := 121) (by decide +kernel) rfl rfl (G_getRc (nx := 124) fl_10_50 rf_10_15 (by decide +kernel) rfl (G_ldAn (n := 0) (nx := 125) (by decide +kernel) rfl rfl (G_getI (nx := 128) fl_10_182 (Or.inl rfl) (by decide +kernel) rfl (G_ldIn (n := 3) (nx := 129) (by decide +kernel) rfl rfl (G_callS (b0 := 0) (nx := 132) (g_Fn_of rfl h_m_isSmall) (cw_10_185) wd6_169 rfl ⟨by decide, by show 1 ≤ 21; decide⟩ (Nat.zero_le _) (by decide +kernel) rfl (G_ifeq (off := 13) (tg := 145) (nf := 135) (by decide +kernel) (by decide +kernel) rfl
    (G_ldIn (n := 3) (nx := 146) (by decide +kernel) rfl rfl (G_callS (b0 := 0) (nx := 149) (g_Fn_of rfl h_m_isDigit) (cw_10_188) wd6_172 rfl ⟨by decide, by show 1 ≤ 21; decide⟩ (Nat.zero_le _) (by decide +kernel) rfl (G_ifeq (off := 8) (tg := 157) (nf := 152) (by decide +kernel) (by decide +kernel) rfl
      (G_bi (n := 100) (nx := 159) (by decide +kernel) biv_100 rfl (G_ldIn (n := 3) (nx := 160) (by decide +kernel) rfl rfl (G_si (n := 255) (nx := 163) (by decide +kernel) siv_255 rfl (G_iand (nx := 164) (by decide +kernel) rfl (G_iadd (nx := 165) (by decide +kernel) rfl (G_iast (nx := 166) ak_50 (by decide) (by decide +kernel) rfl (G_ldIn (n := 2) (nx := 167) (by decide +kernel) rfl rfl (G_stI (nx := 169) (by show 5 < 6; decide) (by decide +kernel) rfl (G_lbl (Gp_C <| Gp_I fun a1 => Gp_I fun a3 => Gp_I fun a4 => Gp_I fun a5 => Gp_E fun s r h => B_m_splits_b169 K7 hK7 FU s a1 a3 a4 a5 r h))))))))))
      (G_bi (n := 50) (nx := 154) (by decide +kernel) biv_50 rfl (G_goto (off := 11) (nx := 165) (by decide +kernel) (by decide +kernel) (G_iast (nx := 166) ak_50 (by decide) (by decide +kernel) rfl (G_ldIn (n := 2) (nx := 167) (by decide +kernel) rfl rfl (G_stI (nx := 169) (by show 5 < 6; decide) (by decide +kernel) rfl (G_lbl (Gp_C <| Gp_I fun a1 => Gp_I fun a3 => Gp_I fun a4 => Gp_I fun a5 => Gp_E fun s r h => B_m_splits_b169 K7 hK7 FU s a1 a3 a4 a5 r h))))))))))
    (G_ldAn (n := 0) (nx := 136) (by decide +kernel) rfl rfl (G_ldIn (n := 2) (nx := 137) (by decide +kernel) rfl rfl (G_ldI (nx := 139) (by decide +kernel) rfl (G_callV (b0 := 0) (nx := 142) (T := TX10) (ci := 10) (g_Fn_of rfl h_m_wordOf) (cw_10_191) ⟨wd6_176, sel_GalleyRoomModel_wordOf__II_I⟩ ⟨rfl, rfl⟩ ⟨by decide, by show 8 ≤ 21; decide⟩ (Nat.zero_le _) (rec_m_wordOf _) (by decide +kernel) rfl (G_goto (off := 23) (nx := 165) (by decide +kernel) (by decide +kernel) (G_iast (nx := 166) ak_50 (by decide) (by decide +kernel) rfl (G_ldIn (n := 2) (nx := 167) (by decide +kernel) rfl rfl (G_stI (nx := 169) (by show 5 < 6; decide) (by decide +kernel) rfl (G_lbl (Gp_C <| Gp_I fun a1 => Gp_I fun a3 => Gp_I fun a4 => Gp_I fun a5 => Gp_E fun s r h => B_m_splits_b169 K7 hK7 FU s a1 a3 a4 a5 r h)))))))))))))))))))))))))))))
  exact ht _ _ s r ((e_m_splits_b100 (m_splits_b169 K7 FU) m_isSmall m_wordOf m_isDigit s l1 l2 l3 l4).symm.trans h)

set_option maxRecDepth 100000 in
set_option maxHeartbeats 4000000 in
theorem B_m_splits_b75 (K7 : Sg → Int32 → Int32 → Option Sg) (hK7 : ∀ (s : Sg) (l1 : Int32) (l2 : Int32) (r : Sg), K7 s l1 l2 = some r → g_Go M_m_splits retV 0 7 [some (.inr (.inr (some (10, 0)))), some (.inl l1), some (.inl l2), none, none, none] [] s r) : ∀ (n : Nat) (s : Sg) (l1 : Int32) (l2 : Int32) (l3 : Int32) (l4 : Int32) (r : Sg), m_splits_b75 K7 n s l1 l2 l3 l4 = some r → g_Go M_m_splits retV 0 75 [some (.inr (.inr (some (10, 0)))), some (.inl l1), some (.inl l2), some (.inl l3), some (.inl l4), none] [] s r := by
  intro n
  induction n with
  | zero => intro s l1 l2 l3 l4 r h; cases h
  | succ n hK75 =>
    intro s l1 l2 l3 l4 r h
    have ht : g_Gd M_m_splits retV 0 75 (t_m_splits_b75 (m_splits_b75 K7 n) (m_splits_b100 K7) m_isDigit) := (G_ldI (nx := 77) (by decide +kernel) rfl (G_ldIn (n := 1) (nx := 78) (by decide +kernel) rfl rfl (G_icmpge (off := 22) (tg := 100) (nf := 81) (by decide +kernel) (by decide +kernel) rfl
    (G_ldAn (n := 0) (nx := 82) (by decide +kernel) rfl rfl (G_getRc (nx := 85) fl_10_41 rf_10_11 (by decide +kernel) rfl (G_ldI (nx := 87) (by decide +kernel) rfl (G_bald (nx := 88) ak_48 (by decide +kernel) rfl (G_callS (b0 := 0) (nx := 91) (g_Fn_of rfl h_m_isDigit) (cw_10_188) wd6_172 rfl ⟨by decide, by show 1 ≤ 21; decide⟩ (Nat.zero_le _) (by decide +kernel) rfl (G_ifeq (off := 9) (tg := 100) (nf := 94) (by decide +kernel) (by decide +kernel) rfl
      (G_lbl (Gp_C <| Gp_I fun a1 => Gp_I fun a2 => Gp_I fun a3 => Gp_I fun a4 => Gp_E fun s r h => B_m_splits_b100 K7 hK7 s a1 a2 a3 a4 r h))
      (G_inc (n := 1) (nx := 97) (by show 4 < 6; decide) (by decide +kernel) icv_1 rfl (G_goto (off := -22) (nx := 75) (by decide +kernel) (by decide +kernel) (G_lbl (Gp_C <| Gp_I fun a1 => Gp_I fun a2 => Gp_I fun a3 => Gp_I fun a4 => Gp_E fun s r h => hK75 s a1 a2 a3 a4 r h))))))))))
    (G_lbl (Gp_C <| Gp_I fun a1 => Gp_I fun a2 => Gp_I fun a3 => Gp_I fun a4 => Gp_E fun s r h => B_m_splits_b100 K7 hK7 s a1 a2 a3 a4 r h)))))
    exact ht _ _ s r ((e_m_splits_b75 (m_splits_b75 K7 n) (m_splits_b100 K7) m_isDigit s l1 l2 l3 l4).symm.trans h)

set_option maxRecDepth 100000 in
set_option maxHeartbeats 4000000 in
theorem B_m_splits_b43 (K7 : Sg → Int32 → Int32 → Option Sg) (hK7 : ∀ (s : Sg) (l1 : Int32) (l2 : Int32) (r : Sg), K7 s l1 l2 = some r → g_Go M_m_splits retV 0 7 [some (.inr (.inr (some (10, 0)))), some (.inl l1), some (.inl l2), none, none, none] [] s r) : ∀ (n : Nat) (s : Sg) (l1 : Int32) (l2 : Int32) (l3 : Int32) (l4 : Int32) (r : Sg), m_splits_b43 K7 n s l1 l2 l3 l4 = some r → g_Go M_m_splits retV 0 43 [some (.inr (.inr (some (10, 0)))), some (.inl l1), some (.inl l2), some (.inl l3), some (.inl l4), none] [] s r := by
  intro n
  induction n with
  | zero => intro s l1 l2 l3 l4 r h; cases h
  | succ n hK43 =>
    intro s l1 l2 l3 l4 r h
    have ht : g_Gd M_m_splits retV 0 43 (t_m_splits_b43 (m_splits_b43 K7 n) (m_splits_b75 K7 FU) (m_splits_b100 K7) m_isSmall m_isDigit) := (G_ldI (nx := 45) (by decide +kernel) rfl (G_ldIn (n := 1) (nx := 46) (by decide +kernel) rfl rfl (G_icmpge (off := 22) (tg := 68) (nf := 49) (by decide +kernel) (by decide +kernel) rfl
    (G_ldAn (n := 0) (nx := 50) (by decide +kernel) rfl rfl (G_getRc (nx := 53) fl_10_41 rf_10_11 (by decide +kernel) rfl (G_ldI (nx := 55) (by decide +kernel) rfl (G_bald (nx := 56) ak_48 (by decide +kernel) rfl (G_callS (b0 := 0) (nx := 59) (g_Fn_of rfl h_m_isSmall) (cw_10_185) wd6_169 rfl ⟨by decide, by show 1 ≤ 21; decide⟩ (Nat.zero_le _) (by decide +kernel) rfl (G_ifeq (off := 9) (tg := 68) (nf := 62) (by decide +kernel) (by decide +kernel) rfl
      (G_ldIn (n := 3) (nx := 69) (by decide +kernel) rfl rfl (G_callS (b0 := 0) (nx := 72) (g_Fn_of rfl h_m_isDigit) (cw_10_188) wd6_172 rfl ⟨by decide, by show 1 ≤ 21; decide⟩ (Nat.zero_le _) (by decide +kernel) rfl (G_ifeq (off := 28) (tg := 100) (nf := 75) (by decide +kernel) (by decide +kernel) rfl
        (G_lbl (Gp_C <| Gp_I fun a1 => Gp_I fun a2 => Gp_I fun a3 => Gp_I fun a4 => Gp_E fun s r h => B_m_splits_b100 K7 hK7 s a1 a2 a3 a4 r h))
        (G_lbl (Gp_C <| Gp_I fun a1 => Gp_I fun a2 => Gp_I fun a3 => Gp_I fun a4 => Gp_E fun s r h => B_m_splits_b75 K7 hK7 FU s a1 a2 a3 a4 r h)))))
      (G_inc (n := 1) (nx := 65) (by show 4 < 6; decide) (by decide +kernel) icv_1 rfl (G_goto (off := -22) (nx := 43) (by decide +kernel) (by decide +kernel) (G_lbl (Gp_C <| Gp_I fun a1 => Gp_I fun a2 => Gp_I fun a3 => Gp_I fun a4 => Gp_E fun s r h => hK43 s a1 a2 a3 a4 r h))))))))))
    (G_ldIn (n := 3) (nx := 69) (by decide +kernel) rfl rfl (G_callS (b0 := 0) (nx := 72) (g_Fn_of rfl h_m_isDigit) (cw_10_188) wd6_172 rfl ⟨by decide, by show 1 ≤ 21; decide⟩ (Nat.zero_le _) (by decide +kernel) rfl (G_ifeq (off := 28) (tg := 100) (nf := 75) (by decide +kernel) (by decide +kernel) rfl
      (G_lbl (Gp_C <| Gp_I fun a1 => Gp_I fun a2 => Gp_I fun a3 => Gp_I fun a4 => Gp_E fun s r h => B_m_splits_b100 K7 hK7 s a1 a2 a3 a4 r h))
      (G_lbl (Gp_C <| Gp_I fun a1 => Gp_I fun a2 => Gp_I fun a3 => Gp_I fun a4 => Gp_E fun s r h => B_m_splits_b75 K7 hK7 FU s a1 a2 a3 a4 r h))))))))
    exact ht _ _ s r ((e_m_splits_b43 (m_splits_b43 K7 n) (m_splits_b75 K7 FU) (m_splits_b100 K7) m_isSmall m_isDigit s l1 l2 l3 l4).symm.trans h)

set_option maxRecDepth 100000 in
set_option maxHeartbeats 4000000 in
theorem B_m_splits_b7 : ∀ (n : Nat) (s : Sg) (l1 : Int32) (l2 : Int32) (r : Sg), m_splits_b7 n s l1 l2 = some r → g_Go M_m_splits retV 0 7 [some (.inr (.inr (some (10, 0)))), some (.inl l1), some (.inl l2), none, none, none] [] s r := by
  intro n
  induction n with
  | zero => intro s l1 l2 r h; cases h
  | succ n hK7 =>
    intro s l1 l2 r h
    have ht : g_Gd M_m_splits retV 0 7 (t_m_splits_b7 (m_splits_b7 n) (m_splits_b43 (m_splits_b7 n) FU) (m_splits_b75 (m_splits_b7 n) FU) (m_splits_b100 (m_splits_b7 n)) m_isSmall m_isDigit) := (G_ldIn (n := 2) (nx := 8) (by decide +kernel) rfl rfl (G_ldIn (n := 1) (nx := 9) (by decide +kernel) rfl rfl (G_icmpge (off := 254) (tg := 263) (nf := 12) (by decide +kernel) (by decide +kernel) rfl
    (G_ldAn (n := 0) (nx := 13) (by decide +kernel) rfl rfl (G_getRc (nx := 16) fl_10_41 rf_10_11 (by decide +kernel) rfl (G_ldIn (n := 2) (nx := 17) (by decide +kernel) rfl rfl (G_bald (nx := 18) ak_48 (by decide +kernel) rfl (G_stIn (n := 3) (nx := 19) (by show 3 < 6; decide) (by decide +kernel) rfl rfl (G_ldIn (n := 3) (nx := 20) (by decide +kernel) rfl rfl (G_bi (n := 32) (nx := 22) (by decide +kernel) biv_32 rfl (G_icmpne (off := 9) (tg := 31) (nf := 25) (by decide +kernel) (by decide +kernel) rfl
      (G_inc (n := 1) (nx := 28) (by show 2 < 6; decide) (by decide +kernel) icv_1 rfl (G_goto (off := -21) (nx := 7) (by decide +kernel) (by decide +kernel) (G_lbl (Gp_C <| Gp_I fun a1 => Gp_I fun a2 => Gp_E fun s r h => hK7 s a1 a2 r h))))
      (G_ldIn (n := 2) (nx := 32) (by decide +kernel) rfl rfl (G_ic (n := 1) (nx := 33) (by decide +kernel) icv_1 rfl (G_iadd (nx := 34) (by decide +kernel) rfl (G_stI (nx := 36) (by show 4 < 6; decide) (by decide +kernel) rfl (G_ldIn (n := 3) (nx := 37) (by decide +kernel) rfl rfl (G_callS (b0 := 0) (nx := 40) (g_Fn_of rfl h_m_isSmall) (cw_10_185) wd6_169 rfl ⟨by decide, by show 1 ≤ 21; decide⟩ (Nat.zero_le _) (by decide +kernel) rfl (G_ifeq (off := 28) (tg := 68) (nf := 43) (by decide +kernel) (by decide +kernel) rfl
        (G_ldIn (n := 3) (nx := 69) (by decide +kernel) rfl rfl (G_callS (b0 := 0) (nx := 72) (g_Fn_of rfl h_m_isDigit) (cw_10_188) wd6_172 rfl ⟨by decide, by show 1 ≤ 21; decide⟩ (Nat.zero_le _) (by decide +kernel) rfl (G_ifeq (off := 28) (tg := 100) (nf := 75) (by decide +kernel) (by decide +kernel) rfl
          (G_lbl (Gp_C <| Gp_I fun a1 => Gp_I fun a2 => Gp_I fun a3 => Gp_I fun a4 => Gp_E fun s r h => B_m_splits_b100 K7 hK7 s a1 a2 a3 a4 r h))
          (G_lbl (Gp_C <| Gp_I fun a1 => Gp_I fun a2 => Gp_I fun a3 => Gp_I fun a4 => Gp_E fun s r h => B_m_splits_b75 K7 hK7 FU s a1 a2 a3 a4 r h)))))
        (G_lbl (Gp_C <| Gp_I fun a1 => Gp_I fun a2 => Gp_I fun a3 => Gp_I fun a4 => Gp_E fun s r h => B_m_splits_b43 K7 hK7 FU s a1 a2 a3 a4 r h)))))))))))))))))
    (G_ldAn (n := 0) (nx := 264) (by decide +kernel) rfl rfl (G_getRc (nx := 267) fl_10_56 rf_10_17 (by decide +kernel) rfl (G_ldAn (n := 0) (nx := 268) (by decide +kernel) rfl rfl (G_getI (nx := 271) fl_10_182 (Or.inl rfl) (by decide +kernel) rfl (G_ldIn (n := 1) (nx := 272) (by decide +kernel) rfl rfl (G_iast (nx := 273) ak_52 (by decide) (by decide +kernel) rfl (G_ldAn (n := 0) (nx := 274) (by decide +kernel) rfl rfl (G_getRc (nx := 277) fl_10_50 rf_10_15 (by decide +kernel) rfl (G_ldAn (n := 0) (nx := 278) (by decide +kernel) rfl rfl (G_getI (nx := 281) fl_10_182 (Or.inl rfl) (by decide +kernel) rfl (G_ic (n := 0) (nx := 282) (by decide +kernel) icv_0 rfl (G_iast (nx := 283) ak_50 (by decide) (by decide +kernel) rfl (G_ldAn (n := 0) (nx := 284) (by decide +kernel) rfl rfl (G_getRc (nx := 287) fl_10_53 rf_10_16 (by decide +kernel) rfl (G_ldAn (n := 0) (nx := 288) (by decide +kernel) rfl rfl (G_getI (nx := 291) fl_10_182 (Or.inl rfl) (by decide +kernel) rfl (G_ic (n := 0) (nx := 292) (by decide +kernel) icv_0 rfl (G_iast (nx := 293) ak_51 (by decide) (by decide +kernel) rfl (G_vret rfl (by decide +kernel)))))))))))))))))))))))
    exact ht _ _ s r ((e_m_splits_b7 (m_splits_b7 n) (m_splits_b43 (m_splits_b7 n) FU) (m_splits_b75 (m_splits_b7 n) FU) (m_splits_b100 (m_splits_b7 n)) m_isSmall m_isDigit s l1 l2).symm.trans h)

set_option maxRecDepth 100000 in
set_option maxHeartbeats 4000000 in
theorem h_m_splits : g_Ft M_m_splits yX10_splits 2 (FW_m_splits m_splits) := by
  intro l w hw σ as hlen hwf hok ρ k r e
  unfold FW_m_splits at e
  obtain ⟨hh0, e⟩ := p_C_inv e
  obtain ⟨l1, hh1, e⟩ := p_I_inv e
  have e := p_E_inv e
  obtain ⟨q, e1, e2⟩ := Option.bind_eq_some_iff.mp e
  have has : as = [.inr (.inr (some (10, 0))), .inl l1] := g_as2 hlen hh0 hh1
  subst has
  have hGo : g_Go M_m_splits retV (me M_m_splits) 0 (g_loc [.inr (.inr (some (10, 0))), .inl l1] (ml M_m_splits)) [] σ q := by
    have ht : g_Gd M_m_splits retV (me M_m_splits) 0 (t_m_splits (m_splits_b7 FU)) := (G_ldAn (n := 0) (nx := 1) (by decide +kernel) rfl rfl (G_ic (n := 0) (nx := 2) (by decide +kernel) icv_0 rfl (G_putI (nx := 5) fp_10_182 rfl (by decide +kernel) rfl (G_ic (n := 0) (nx := 6) (by decide +kernel) icv_0 rfl (G_stIn (n := 2) (nx := 7) (by show 2 < 6; decide) (by decide +kernel) rfl rfl (G_lbl (Gp_C <| Gp_I fun a1 => Gp_I fun a2 => Gp_E fun s r h => B_m_splits_b7 FU s a1 a2 r h)))))))
    exact ht _ _ σ q ((e_m_splits (m_splits_b7 FU) σ l1).symm.trans e1)
  exact g_meth (σ' := q) (v := none) (by decide) rfl hw hwf hok (Nat.le_of_ble_eq_true rfl) hGo (fun σ2 v2 h => retV_inv h) (by exact e2)

set_option maxRecDepth 100000 in
set_option maxHeartbeats 4000000 in
theorem h_m_fine : g_Ft M_m_fine yX10_fine 1 (FW_m_fine m_fine) := by
  intro l w hw σ as hlen hwf hok ρ k r e
  unfold FW_m_fine at e
  obtain ⟨hh0, e⟩ := p_C_inv e
  have e := p_E_inv e
  obtain ⟨q, e1, e2⟩ := Option.bind_eq_some_iff.mp e
  have has : as = [.inr (.inr (some (10, 0)))] := g_as1 hlen hh0
  subst has
  have hGo : g_Go M_m_fine retI (me M_m_fine) 0 (g_loc [.inr (.inr (some (10, 0)))] (ml M_m_fine)) [] σ q := by
    have ht : g_Gd M_m_fine retI (me M_m_fine) 0 (t_m_fine) := (G_ldAn (n := 0) (nx := 1) (by decide +kernel) rfl rfl (G_getI (nx := 4) fl_10_196 (Or.inl rfl) (by decide +kernel) rfl (G_ic (n := -1) (nx := 5) (by decide +kernel) icv_m1 rfl (G_icmpne (off := 7) (tg := 12) (nf := 8) (by decide +kernel) (by decide +kernel) rfl
  (G_ic (n := 1) (nx := 9) (by decide +kernel) icv_1 rfl (G_goto (off := 4) (nx := 13) (by decide +kernel) (by decide +kernel) (G_zret rfl (by decide +kernel))))
  (G_ic (n := 0) (nx := 13) (by decide +kernel) icv_0 rfl (G_zret rfl (by decide +kernel)))))))
    exact ht _ _ σ q ((e_m_fine  σ ).symm.trans e1)
  exact g_meth (σ' := q.1) (v := some (.inl q.2)) (by decide) rfl hw hwf hok (Nat.le_of_ble_eq_true rfl) hGo (fun σ2 v2 h => retI_inv h) (by exact e2)

set_option maxRecDepth 100000 in
set_option maxHeartbeats 4000000 in
theorem h_m_faults : g_Ft M_m_faults yX10_faults 1 (FW_m_faults m_faults) := by
  intro l w hw σ as hlen hwf hok ρ k r e
  unfold FW_m_faults at e
  obtain ⟨hh0, e⟩ := p_C_inv e
  have e := p_E_inv e
  obtain ⟨q, e1, e2⟩ := Option.bind_eq_some_iff.mp e
  have has : as = [.inr (.inr (some (10, 0)))] := g_as1 hlen hh0
  subst has
  have hGo : g_Go M_m_faults retV (me M_m_faults) 0 (g_loc [.inr (.inr (some (10, 0)))] (ml M_m_faults)) [] σ q := by
    have ht : g_Gd M_m_faults retV (me M_m_faults) 0 (t_m_faults m_fine) := (G_ldAn (n := 0) (nx := 1) (by decide +kernel) rfl rfl (G_callV (b0 := 0) (nx := 4) (T := TX10) (ci := 10) (g_Fn_of rfl h_m_fine) (cw_10_199) ⟨wd6_193, sel_GalleyRoomModel_fine___Z⟩ ⟨rfl, rfl⟩ ⟨by decide, by show 1 ≤ 21; decide⟩ (Nat.zero_le _) (rec_m_fine _) (by decide +kernel) rfl (G_ifeq (off := 16) (tg := 20) (nf := 7) (by decide +kernel) (by decide +kernel) rfl
  (G_vret rfl (by decide +kernel))
  (G_ldAn (n := 0) (nx := 8) (by decide +kernel) rfl rfl (G_ldAn (n := 0) (nx := 9) (by decide +kernel) rfl rfl (G_getRc (nx := 12) fl_10_56 rf_10_17 (by decide +kernel) rfl (G_ldAn (n := 0) (nx := 13) (by decide +kernel) rfl rfl (G_getI (nx := 16) fl_10_203 (Or.inl rfl) (by decide +kernel) rfl (G_iald (nx := 17) ak_52 (by decide +kernel) rfl (G_putI (nx := 20) fp_10_196 rfl (by decide +kernel) rfl (G_vret rfl (by decide +kernel))))))))))))
    exact ht _ _ σ q ((e_m_faults m_fine σ ).symm.trans e1)
  exact g_meth (σ' := q) (v := none) (by decide) rfl hw hwf hok (Nat.le_of_ble_eq_true rfl) hGo (fun σ2 v2 h => retV_inv h) (by exact e2)

set_option maxRecDepth 100000 in
set_option maxHeartbeats 4000000 in
theorem h_m_tellsOp : g_Ft M_m_tellsOp yX10_tellsOp 3 (FW_m_tellsOp m_tellsOp) := by
  intro l w hw σ as hlen hwf hok ρ k r e
  unfold FW_m_tellsOp at e
  obtain ⟨hh0, e⟩ := p_C_inv e
  obtain ⟨l1, hh1, e⟩ := p_I_inv e
  obtain ⟨l2, hh2, e⟩ := p_I_inv e
  have e := p_E_inv e
  obtain ⟨q, e1, e2⟩ := Option.bind_eq_some_iff.mp e
  have has : as = [.inr (.inr (some (10, 0))), .inl l1, .inl l2] := g_as3 hlen hh0 hh1 hh2
  subst has
  have hGo : g_Go M_m_tellsOp retI (me M_m_tellsOp) 0 (g_loc [.inr (.inr (some (10, 0))), .inl l1, .inl l2] (ml M_m_tellsOp)) [] σ q := by
    have ht : g_Gd M_m_tellsOp retI (me M_m_tellsOp) 0 (t_m_tellsOp m_fine) := (G_ldAn (n := 0) (nx := 1) (by decide +kernel) rfl rfl (G_callV (b0 := 0) (nx := 4) (T := TX10) (ci := 10) (g_Fn_of rfl h_m_fine) (cw_10_199) ⟨wd6_193, sel_GalleyRoomModel_fine___Z⟩ ⟨rfl, rfl⟩ ⟨by decide, by show 1 ≤ 21; decide⟩ (Nat.zero_le _) (rec_m_fine _) (by decide +kernel) rfl (G_ifne (off := 5) (tg := 9) (nf := 7) (by decide +kernel) (by decide +kernel) rfl
  (G_ic (n := 0) (nx := 8) (by decide +kernel) icv_0 rfl (G_iret rfl (by decide +kernel)))
  (G_ldAn (n := 0) (nx := 10) (by decide +kernel) rfl rfl (G_getRc (nx := 13) fl_10_59 rf_10_22 (by decide +kernel) rfl (G_ldAn (n := 0) (nx := 14) (by decide +kernel) rfl rfl (G_getI (nx := 17) fl_10_206 (Or.inl rfl) (by decide +kernel) rfl (G_ldIn (n := 1) (nx := 18) (by decide +kernel) rfl rfl (G_iast (nx := 19) ak_53 (by decide) (by decide +kernel) rfl (G_ldAn (n := 0) (nx := 20) (by decide +kernel) rfl rfl (G_getRc (nx := 23) fl_10_62 rf_10_23 (by decide +kernel) rfl (G_ldAn (n := 0) (nx := 24) (by decide +kernel) rfl rfl (G_getI (nx := 27) fl_10_206 (Or.inl rfl) (by decide +kernel) rfl (G_ldIn (n := 2) (nx := 28) (by decide +kernel) rfl rfl (G_iast (nx := 29) ak_54 (by decide) (by decide +kernel) rfl (G_ldAn (n := 0) (nx := 30) (by decide +kernel) rfl rfl (G_dup (nx := 31) (by decide +kernel) rfl (G_getI (nx := 34) fl_10_206 (Or.inl rfl) (by decide +kernel) rfl (G_ic (n := 1) (nx := 35) (by decide +kernel) icv_1 rfl (G_iadd (nx := 36) (by decide +kernel) rfl (G_putI (nx := 39) fp_10_206 rfl (by decide +kernel) rfl (G_ldAn (n := 0) (nx := 40) (by decide +kernel) rfl rfl (G_getI (nx := 43) fl_10_206 (Or.inl rfl) (by decide +kernel) rfl (G_ic (n := 1) (nx := 44) (by decide +kernel) icv_1 rfl (G_isub (nx := 45) (by decide +kernel) rfl (G_iret rfl (by decide +kernel)))))))))))))))))))))))))))
    exact ht _ _ σ q ((e_m_tellsOp m_fine σ l1 l2).symm.trans e1)
  exact g_meth (σ' := q.1) (v := some (.inl q.2)) (by decide) rfl hw hwf hok (Nat.le_of_ble_eq_true rfl) hGo (fun σ2 v2 h => retI_inv h) (by exact e2)

set_option maxRecDepth 100000 in
set_option maxHeartbeats 4000000 in
theorem h_m_takes0 : g_Ft M_m_takes0 yX10_takes0 2 (FW_m_takes0 m_takes0) := by
  intro l w hw σ as hlen hwf hok ρ k r e
  unfold FW_m_takes0 at e
  obtain ⟨hh0, e⟩ := p_C_inv e
  obtain ⟨l1, hh1, e⟩ := p_I_inv e
  have e := p_E_inv e
  obtain ⟨q, e1, e2⟩ := Option.bind_eq_some_iff.mp e
  have has : as = [.inr (.inr (some (10, 0))), .inl l1] := g_as2 hlen hh0 hh1
  subst has
  have hGo : g_Go M_m_takes0 retI (me M_m_takes0) 0 (g_loc [.inr (.inr (some (10, 0))), .inl l1] (ml M_m_takes0)) [] σ q := by
    have ht : g_Gd M_m_takes0 retI (me M_m_takes0) 0 (t_m_takes0 m_fine) := (G_ldAn (n := 0) (nx := 1) (by decide +kernel) rfl rfl (G_callV (b0 := 0) (nx := 4) (T := TX10) (ci := 10) (g_Fn_of rfl h_m_fine) (cw_10_199) ⟨wd6_193, sel_GalleyRoomModel_fine___Z⟩ ⟨rfl, rfl⟩ ⟨by decide, by show 1 ≤ 21; decide⟩ (Nat.zero_le _) (rec_m_fine _) (by decide +kernel) rfl (G_ifeq (off := 20) (tg := 24) (nf := 7) (by decide +kernel) (by decide +kernel) rfl
  (G_ic (n := 0) (nx := 25) (by decide +kernel) icv_0 rfl (G_stIn (n := 2) (nx := 26) (by show 2 < 3; decide) (by decide +kernel) rfl rfl (G_ldIn (n := 2) (nx := 27) (by decide +kernel) rfl rfl (G_ifeq (off := 13) (tg := 40) (nf := 30) (by decide +kernel) (by decide +kernel) rfl
    (G_ldIn (n := 2) (nx := 41) (by decide +kernel) rfl rfl (G_zret rfl (by decide +kernel)))
    (G_ldAn (n := 0) (nx := 31) (by decide +kernel) rfl rfl (G_dup (nx := 32) (by decide +kernel) rfl (G_getI (nx := 35) fl_10_203 (Or.inl rfl) (by decide +kernel) rfl (G_ic (n := 1) (nx := 36) (by decide +kernel) icv_1 rfl (G_iadd (nx := 37) (by decide +kernel) rfl (G_putI (nx := 40) fp_10_203 rfl (by decide +kernel) rfl (G_ldIn (n := 2) (nx := 41) (by decide +kernel) rfl rfl (G_zret rfl (by decide +kernel)))))))))))))
  (G_ldAn (n := 0) (nx := 8) (by decide +kernel) rfl rfl (G_getRc (nx := 11) fl_10_50 rf_10_15 (by decide +kernel) rfl (G_ldAn (n := 0) (nx := 12) (by decide +kernel) rfl rfl (G_getI (nx := 15) fl_10_203 (Or.inl rfl) (by decide +kernel) rfl (G_iald (nx := 16) ak_50 (by decide +kernel) rfl (G_ldIn (n := 1) (nx := 17) (by decide +kernel) rfl rfl (G_icmpne (off := 7) (tg := 24) (nf := 20) (by decide +kernel) (by decide +kernel) rfl
    (G_ic (n := 1) (nx := 21) (by decide +kernel) icv_1 rfl (G_goto (off := 4) (nx := 25) (by decide +kernel) (by decide +kernel) (G_stIn (n := 2) (nx := 26) (by show 2 < 3; decide) (by decide +kernel) rfl rfl (G_ldIn (n := 2) (nx := 27) (by decide +kernel) rfl rfl (G_ifeq (off := 13) (tg := 40) (nf := 30) (by decide +kernel) (by decide +kernel) rfl
      (G_ldIn (n := 2) (nx := 41) (by decide +kernel) rfl rfl (G_zret rfl (by decide +kernel)))
      (G_ldAn (n := 0) (nx := 31) (by decide +kernel) rfl rfl (G_dup (nx := 32) (by decide +kernel) rfl (G_getI (nx := 35) fl_10_203 (Or.inl rfl) (by decide +kernel) rfl (G_ic (n := 1) (nx := 36) (by decide +kernel) icv_1 rfl (G_iadd (nx := 37) (by decide +kernel) rfl (G_putI (nx := 40) fp_10_203 rfl (by decide +kernel) rfl (G_ldIn (n := 2) (nx := 41) (by decide +kernel) rfl rfl (G_zret rfl (by decide +kernel))))))))))))))
    (G_ic (n := 0) (nx := 25) (by decide +kernel) icv_0 rfl (G_stIn (n := 2) (nx := 26) (by show 2 < 3; decide) (by decide +kernel) rfl rfl (G_ldIn (n := 2) (nx := 27) (by decide +kernel) rfl rfl (G_ifeq (off := 13) (tg := 40) (nf := 30) (by decide +kernel) (by decide +kernel) rfl
      (G_ldIn (n := 2) (nx := 41) (by decide +kernel) rfl rfl (G_zret rfl (by decide +kernel)))
      (G_ldAn (n := 0) (nx := 31) (by decide +kernel) rfl rfl (G_dup (nx := 32) (by decide +kernel) rfl (G_getI (nx := 35) fl_10_203 (Or.inl rfl) (by decide +kernel) rfl (G_ic (n := 1) (nx := 36) (by decide +kernel) icv_1 rfl (G_iadd (nx := 37) (by decide +kernel) rfl (G_putI (nx := 40) fp_10_203 rfl (by decide +kernel) rfl (G_ldIn (n := 2) (nx := 41) (by decide +kernel) rfl rfl (G_zret rfl (by decide +kernel)))))))))))))))))))))))
    exact ht _ _ σ q ((e_m_takes0 m_fine σ l1).symm.trans e1)
  exact g_meth (σ' := q.1) (v := some (.inl q.2)) (by decide) rfl hw hwf hok (Nat.le_of_ble_eq_true rfl) hGo (fun σ2 v2 h => retI_inv h) (by exact e2)

set_option maxRecDepth 100000 in
set_option maxHeartbeats 4000000 in
theorem h_m_must : g_Ft M_m_must yX10_must 2 (FW_m_must m_must) := by
  intro l w hw σ as hlen hwf hok ρ k r e
  unfold FW_m_must at e
  obtain ⟨hh0, e⟩ := p_C_inv e
  obtain ⟨l1, hh1, e⟩ := p_I_inv e
  have e := p_E_inv e
  obtain ⟨q, e1, e2⟩ := Option.bind_eq_some_iff.mp e
  have has : as = [.inr (.inr (some (10, 0))), .inl l1] := g_as2 hlen hh0 hh1
  subst has
  have hGo : g_Go M_m_must retV (me M_m_must) 0 (g_loc [.inr (.inr (some (10, 0))), .inl l1] (ml M_m_must)) [] σ q := by
    have ht : g_Gd M_m_must retV (me M_m_must) 0 (t_m_must m_takes0 m_faults) := (G_ldAn (n := 0) (nx := 1) (by decide +kernel) rfl rfl (G_ldIn (n := 1) (nx := 2) (by decide +kernel) rfl rfl (G_callV (b0 := 0) (nx := 5) (T := TX10) (ci := 10) (g_Fn_of rfl h_m_takes0) (cw_10_209) ⟨wd6_189, sel_GalleyRoomModel_takes0__I_Z⟩ ⟨rfl, rfl⟩ ⟨by decide, by show 3 ≤ 21; decide⟩ (Nat.zero_le _) (rec_m_takes0 _) (by decide +kernel) rfl (G_ifne (off := 7) (tg := 12) (nf := 8) (by decide +kernel) (by decide +kernel) rfl
  (G_ldAn (n := 0) (nx := 9) (by decide +kernel) rfl rfl (G_callV (b0 := 0) (nx := 12) (T := TX10) (ci := 10) (g_Fn_of rfl h_m_faults) (cw_10_212) ⟨wd6_212, sel_GalleyRoomModel_faults___V⟩ ⟨rfl, rfl⟩ ⟨by decide, by show 1 ≤ 21; decide⟩ (Nat.zero_le _) (rec_m_faults _) (by decide +kernel) rfl (G_vret rfl (by decide +kernel))))
  (G_vret rfl (by decide +kernel))))))
    exact ht _ _ σ q ((e_m_must m_takes0 m_faults σ l1).symm.trans e1)
  exact g_meth (σ' := q) (v := none) (by decide) rfl hw hwf hok (Nat.le_of_ble_eq_true rfl) hGo (fun σ2 v2 h => retV_inv h) (by exact e2)

set_option maxRecDepth 100000 in
set_option maxHeartbeats 4000000 in
theorem B_m_leaf_b13 (s : Sg) (r : Sg) (h : m_leaf_b13 s  = some r) : g_Go M_m_leaf retV 0 13 [some (.inr (.inr (some (10, 0))))] [] s r := by
  have ht : g_Gd M_m_leaf retV 0 13 (t_m_leaf_b13 m_fine) := (G_ldAn (n := 0) (nx := 14) (by decide +kernel) rfl rfl (G_dup (nx := 15) (by decide +kernel) rfl (G_getI (nx := 18) fl_10_215 (Or.inl rfl) (by decide +kernel) rfl (G_ic (n := 1) (nx := 19) (by decide +kernel) icv_1 rfl (G_iadd (nx := 20) (by decide +kernel) rfl (G_putI (nx := 23) fp_10_215 rfl (by decide +kernel) rfl (G_ldAn (n := 0) (nx := 24) (by decide +kernel) rfl rfl (G_callV (b0 := 0) (nx := 27) (T := TX10) (ci := 10) (g_Fn_of rfl h_m_fine) (cw_10_199) ⟨wd6_193, sel_GalleyRoomModel_fine___Z⟩ ⟨rfl, rfl⟩ ⟨by decide, by show 1 ≤ 21; decide⟩ (Nat.zero_le _) (rec_m_fine _) (by decide +kernel) rfl (G_ifeq (off := 13) (tg := 40) (nf := 30) (by decide +kernel) (by decide +kernel) rfl
    (G_vret rfl (by decide +kernel))
    (G_ldAn (n := 0) (nx := 31) (by decide +kernel) rfl rfl (G_dup (nx := 32) (by decide +kernel) rfl (G_getI (nx := 35) fl_10_203 (Or.inl rfl) (by decide +kernel) rfl (G_ic (n := 1) (nx := 36) (by decide +kernel) icv_1 rfl (G_iadd (nx := 37) (by decide +kernel) rfl (G_putI (nx := 40) fp_10_203 rfl (by decide +kernel) rfl (G_vret rfl (by decide +kernel)))))))))))))))))
  exact ht _ _ s r ((e_m_leaf_b13 m_fine s ).symm.trans h)

set_option maxRecDepth 100000 in
set_option maxHeartbeats 4000000 in
theorem h_m_leaf : g_Ft M_m_leaf yX10_leaf 1 (FW_m_leaf m_leaf) := by
  intro l w hw σ as hlen hwf hok ρ k r e
  unfold FW_m_leaf at e
  obtain ⟨hh0, e⟩ := p_C_inv e
  have e := p_E_inv e
  obtain ⟨q, e1, e2⟩ := Option.bind_eq_some_iff.mp e
  have has : as = [.inr (.inr (some (10, 0)))] := g_as1 hlen hh0
  subst has
  have hGo : g_Go M_m_leaf retV (me M_m_leaf) 0 (g_loc [.inr (.inr (some (10, 0)))] (ml M_m_leaf)) [] σ q := by
    have ht : g_Gd M_m_leaf retV (me M_m_leaf) 0 (t_m_leaf (m_leaf_b13) m_faults) := (G_ldAn (n := 0) (nx := 1) (by decide +kernel) rfl rfl (G_getI (nx := 4) fl_10_215 (Or.inl rfl) (by decide +kernel) rfl (G_bi (n := 50) (nx := 6) (by decide +kernel) biv_50 rfl (G_icmpne (off := 7) (tg := 13) (nf := 9) (by decide +kernel) (by decide +kernel) rfl
  (G_ldAn (n := 0) (nx := 10) (by decide +kernel) rfl rfl (G_callV (b0 := 0) (nx := 13) (T := TX10) (ci := 10) (g_Fn_of rfl h_m_faults) (cw_10_212) ⟨wd6_212, sel_GalleyRoomModel_faults___V⟩ ⟨rfl, rfl⟩ ⟨by decide, by show 1 ≤ 21; decide⟩ (Nat.zero_le _) (rec_m_faults _) (by decide +kernel) rfl (G_lbl (Gp_C <| Gp_E fun s r h => B_m_leaf_b13 s  r h))))
  (G_lbl (Gp_C <| Gp_E fun s r h => B_m_leaf_b13 s  r h))))))
    exact ht _ _ σ q ((e_m_leaf (m_leaf_b13) m_faults σ ).symm.trans e1)
  exact g_meth (σ' := q) (v := none) (by decide) rfl hw hwf hok (Nat.le_of_ble_eq_true rfl) hGo (fun σ2 v2 h => retV_inv h) (by exact e2)

set_option maxRecDepth 100000 in
set_option maxHeartbeats 4000000 in
theorem h_m_sign : g_Ft M_m_sign yX10_sign 1 (FW_m_sign m_sign) := by
  intro l w hw σ as hlen hwf hok ρ k r e
  unfold FW_m_sign at e
  obtain ⟨l0, hh0, e⟩ := p_I_inv e
  have e := p_E_inv e
  obtain ⟨q, e1, e2⟩ := Option.bind_eq_some_iff.mp e
  have has : as = [.inl l0] := g_as1 hlen hh0
  subst has
  have hGo : g_Go M_m_sign retI (me M_m_sign) 0 (g_loc [.inl l0] (ml M_m_sign)) [] σ q := by
    have ht : g_Gd M_m_sign retI (me M_m_sign) 0 (t_m_sign) := (G_bi (n := 100) (nx := 2) (by decide +kernel) biv_100 rfl (G_ldIn (n := 0) (nx := 3) (by decide +kernel) rfl rfl (G_iadd (nx := 4) (by decide +kernel) rfl (G_iret rfl (by decide +kernel)))))
    exact ht _ _ σ q ((e_m_sign  σ l0).symm.trans e1)
  exact g_meth (σ' := q.1) (v := some (.inl q.2)) (by decide) rfl hw hwf hok (Nat.le_of_ble_eq_true rfl) hGo (fun σ2 v2 h => retI_inv h) (by exact e2)

set_option maxRecDepth 100000 in
set_option maxHeartbeats 4000000 in
theorem h_m_mustNumber : g_Ft M_m_mustNumber yX10_mustNumber 3 (FW_m_mustNumber m_mustNumber) := by
  intro l w hw σ as hlen hwf hok ρ k r e
  unfold FW_m_mustNumber at e
  obtain ⟨hh0, e⟩ := p_C_inv e
  obtain ⟨l1, hh1, e⟩ := p_I_inv e
  obtain ⟨l2, hh2, e⟩ := p_I_inv e
  have e := p_E_inv e
  obtain ⟨q, e1, e2⟩ := Option.bind_eq_some_iff.mp e
  have has : as = [.inr (.inr (some (10, 0))), .inl l1, .inl l2] := g_as3 hlen hh0 hh1 hh2
  subst has
  have hGo : g_Go M_m_mustNumber retV (me M_m_mustNumber) 0 (g_loc [.inr (.inr (some (10, 0))), .inl l1, .inl l2] (ml M_m_mustNumber)) [] σ q := by
    have ht : g_Gd M_m_mustNumber retV (me M_m_mustNumber) 0 (t_m_mustNumber m_fine m_lies m_faults) := (G_ldAn (n := 0) (nx := 1) (by decide +kernel) rfl rfl (G_callV (b0 := 0) (nx := 4) (T := TX10) (ci := 10) (g_Fn_of rfl h_m_fine) (cw_10_199) ⟨wd6_193, sel_GalleyRoomModel_fine___Z⟩ ⟨rfl, rfl⟩ ⟨by decide, by show 1 ≤ 21; decide⟩ (Nat.zero_le _) (rec_m_fine _) (by decide +kernel) rfl (G_ifeq (off := 38) (tg := 42) (nf := 7) (by decide +kernel) (by decide +kernel) rfl
  (G_ldAn (n := 0) (nx := 43) (by decide +kernel) rfl rfl (G_callV (b0 := 0) (nx := 46) (T := TX10) (ci := 10) (g_Fn_of rfl h_m_fine) (cw_10_199) ⟨wd6_193, sel_GalleyRoomModel_fine___Z⟩ ⟨rfl, rfl⟩ ⟨by decide, by show 1 ≤ 21; decide⟩ (Nat.zero_le _) (rec_m_fine _) (by decide +kernel) rfl (G_ifeq (off := 13) (tg := 59) (nf := 49) (by decide +kernel) (by decide +kernel) rfl
    (G_vret rfl (by decide +kernel))
    (G_ldAn (n := 0) (nx := 50) (by decide +kernel) rfl rfl (G_dup (nx := 51) (by decide +kernel) rfl (G_getI (nx := 54) fl_10_203 (Or.inl rfl) (by decide +kernel) rfl (G_ic (n := 1) (nx := 55) (by decide +kernel) icv_1 rfl (G_iadd (nx := 56) (by decide +kernel) rfl (G_putI (nx := 59) fp_10_203 rfl (by decide +kernel) rfl (G_vret rfl (by decide +kernel)))))))))))
  (G_ldAn (n := 0) (nx := 8) (by decide +kernel) rfl rfl (G_getRc (nx := 11) fl_10_50 rf_10_15 (by decide +kernel) rfl (G_ldAn (n := 0) (nx := 12) (by decide +kernel) rfl rfl (G_getI (nx := 15) fl_10_203 (Or.inl rfl) (by decide +kernel) rfl (G_iald (nx := 16) ak_50 (by decide +kernel) rfl (G_bi (n := 50) (nx := 18) (by decide +kernel) biv_50 rfl (G_icmpne (off := 20) (tg := 38) (nf := 21) (by decide +kernel) (by decide +kernel) rfl
    (G_ldAn (n := 0) (nx := 22) (by decide +kernel) rfl rfl (G_getRc (nx := 25) fl_10_53 rf_10_16 (by decide +kernel) rfl (G_ldAn (n := 0) (nx := 26) (by decide +kernel) rfl rfl (G_getI (nx := 29) fl_10_203 (Or.inl rfl) (by decide +kernel) rfl (G_iald (nx := 30) ak_51 (by decide +kernel) rfl (G_ldIn (n := 1) (nx := 31) (by decide +kernel) rfl rfl (G_ldIn (n := 2) (nx := 32) (by decide +kernel) rfl rfl (G_callS (b0 := 0) (nx := 35) (g_Fn_of rfl h_m_lies) (cw_10_132) wd6_74 rfl ⟨by decide, by show 3 ≤ 21; decide⟩ (Nat.zero_le _) (by decide +kernel) rfl (G_ifne (off := 7) (tg := 42) (nf := 38) (by decide +kernel) (by decide +kernel) rfl
      (G_ldAn (n := 0) (nx := 39) (by decide +kernel) rfl rfl (G_callV (b0 := 0) (nx := 42) (T := TX10) (ci := 10) (g_Fn_of rfl h_m_faults) (cw_10_212) ⟨wd6_212, sel_GalleyRoomModel_faults___V⟩ ⟨rfl, rfl⟩ ⟨by decide, by show 1 ≤ 21; decide⟩ (Nat.zero_le _) (rec_m_faults _) (by decide +kernel) rfl (G_ldAn (n := 0) (nx := 43) (by decide +kernel) rfl rfl (G_callV (b0 := 0) (nx := 46) (T := TX10) (ci := 10) (g_Fn_of rfl h_m_fine) (cw_10_199) ⟨wd6_193, sel_GalleyRoomModel_fine___Z⟩ ⟨rfl, rfl⟩ ⟨by decide, by show 1 ≤ 21; decide⟩ (Nat.zero_le _) (rec_m_fine _) (by decide +kernel) rfl (G_ifeq (off := 13) (tg := 59) (nf := 49) (by decide +kernel) (by decide +kernel) rfl
        (G_vret rfl (by decide +kernel))
        (G_ldAn (n := 0) (nx := 50) (by decide +kernel) rfl rfl (G_dup (nx := 51) (by decide +kernel) rfl (G_getI (nx := 54) fl_10_203 (Or.inl rfl) (by decide +kernel) rfl (G_ic (n := 1) (nx := 55) (by decide +kernel) icv_1 rfl (G_iadd (nx := 56) (by decide +kernel) rfl (G_putI (nx := 59) fp_10_203 rfl (by decide +kernel) rfl (G_vret rfl (by decide +kernel)))))))))))))
      (G_ldAn (n := 0) (nx := 43) (by decide +kernel) rfl rfl (G_callV (b0 := 0) (nx := 46) (T := TX10) (ci := 10) (g_Fn_of rfl h_m_fine) (cw_10_199) ⟨wd6_193, sel_GalleyRoomModel_fine___Z⟩ ⟨rfl, rfl⟩ ⟨by decide, by show 1 ≤ 21; decide⟩ (Nat.zero_le _) (rec_m_fine _) (by decide +kernel) rfl (G_ifeq (off := 13) (tg := 59) (nf := 49) (by decide +kernel) (by decide +kernel) rfl
        (G_vret rfl (by decide +kernel))
        (G_ldAn (n := 0) (nx := 50) (by decide +kernel) rfl rfl (G_dup (nx := 51) (by decide +kernel) rfl (G_getI (nx := 54) fl_10_203 (Or.inl rfl) (by decide +kernel) rfl (G_ic (n := 1) (nx := 55) (by decide +kernel) icv_1 rfl (G_iadd (nx := 56) (by decide +kernel) rfl (G_putI (nx := 59) fp_10_203 rfl (by decide +kernel) rfl (G_vret rfl (by decide +kernel))))))))))))))))))))
    (G_ldAn (n := 0) (nx := 39) (by decide +kernel) rfl rfl (G_callV (b0 := 0) (nx := 42) (T := TX10) (ci := 10) (g_Fn_of rfl h_m_faults) (cw_10_212) ⟨wd6_212, sel_GalleyRoomModel_faults___V⟩ ⟨rfl, rfl⟩ ⟨by decide, by show 1 ≤ 21; decide⟩ (Nat.zero_le _) (rec_m_faults _) (by decide +kernel) rfl (G_ldAn (n := 0) (nx := 43) (by decide +kernel) rfl rfl (G_callV (b0 := 0) (nx := 46) (T := TX10) (ci := 10) (g_Fn_of rfl h_m_fine) (cw_10_199) ⟨wd6_193, sel_GalleyRoomModel_fine___Z⟩ ⟨rfl, rfl⟩ ⟨by decide, by show 1 ≤ 21; decide⟩ (Nat.zero_le _) (rec_m_fine _) (by decide +kernel) rfl (G_ifeq (off := 13) (tg := 59) (nf := 49) (by decide +kernel) (by decide +kernel) rfl
      (G_vret rfl (by decide +kernel))
      (G_ldAn (n := 0) (nx := 50) (by decide +kernel) rfl rfl (G_dup (nx := 51) (by decide +kernel) rfl (G_getI (nx := 54) fl_10_203 (Or.inl rfl) (by decide +kernel) rfl (G_ic (n := 1) (nx := 55) (by decide +kernel) icv_1 rfl (G_iadd (nx := 56) (by decide +kernel) rfl (G_putI (nx := 59) fp_10_203 rfl (by decide +kernel) rfl (G_vret rfl (by decide +kernel)))))))))))))))))))))))
    exact ht _ _ σ q ((e_m_mustNumber m_fine m_lies m_faults σ l1 l2).symm.trans e1)
  exact g_meth (σ' := q) (v := none) (by decide) rfl hw hwf hok (Nat.le_of_ble_eq_true rfl) hGo (fun σ2 v2 h => retV_inv h) (by exact e2)

set_option maxRecDepth 100000 in
set_option maxHeartbeats 4000000 in
theorem B_m_readPart_b111 (d : Nat) (rs : Sg → Int32 → Option Sg) (H_rs : g_Ft (M_m_readSum d) yX10_readSum 2 (FW_m_readSum rs)) (s : Sg) (l2 : Int32) (r : Sg) (h : m_readPart_b111 rs s l2 = some r) : g_Go (M_m_readPart d) retV 0 111 [some (.inr (.inr (some (10, 0)))), none, some (.inl l2)] [] s r := by
  have ht : g_Gd (M_m_readPart d) retV 0 111 (t_m_readPart_b111 m_tellsOp m_leaf m_mustNumber) := (G_ldAn (n := 0) (nx := 112) (by show decode cX10_readPart 111 = _; decide +kernel) rfl rfl (G_ldIn (n := 2) (nx := 113) (by show decode cX10_readPart 112 = _; decide +kernel) rfl rfl (G_ldAn (n := 0) (nx := 114) (by show decode cX10_readPart 113 = _; decide +kernel) rfl rfl (G_getRc (nx := 117) fl_10_53 rf_10_16 (by show decode cX10_readPart 114 = _; decide +kernel) rfl (G_ldAn (n := 0) (nx := 118) (by show decode cX10_readPart 117 = _; decide +kernel) rfl rfl (G_getI (nx := 121) fl_10_203 (Or.inl rfl) (by show decode cX10_readPart 118 = _; decide +kernel) rfl (G_iald (nx := 122) ak_51 (by show decode cX10_readPart 121 = _; decide +kernel) rfl (G_callV (b0 := 0) (nx := 125) (T := TX10) (ci := 10) (g_Fn_of rfl h_m_tellsOp) (cw_10_218) ⟨wd6_220, sel_GalleyRoomModel_tellsOp__II_I⟩ ⟨rfl, rfl⟩ ⟨by simp only [M_m_tellsOp, M_m_readPart, DR]; omega, by show 3 ≤ 21; decide⟩ (Nat.zero_le _) (rec_m_tellsOp _) (by show decode cX10_readPart 122 = _; decide +kernel) rfl (G_pop (nx := 126) (by show decode cX10_readPart 125 = _; decide +kernel) rfl (G_ldAn (n := 0) (nx := 127) (by show decode cX10_readPart 126 = _; decide +kernel) rfl rfl (G_callV (b0 := 0) (nx := 130) (T := TX10) (ci := 10) (g_Fn_of rfl h_m_leaf) (cw_10_267) ⟨wd6_224, sel_GalleyRoomModel_leaf___V⟩ ⟨rfl, rfl⟩ ⟨by simp only [M_m_leaf, M_m_readPart, DR]; omega, by show 1 ≤ 21; decide⟩ (Nat.zero_le _) (rec_m_leaf _) (by show decode cX10_readPart 127 = _; decide +kernel) rfl (G_ldAn (n := 0) (nx := 131) (by show decode cX10_readPart 130 = _; decide +kernel) rfl rfl (G_getI (nx := 134) fl_10_235 (Or.inr rfl) (by show decode cX10_readPart 131 = _; decide +kernel) rfl (G_ifeq (off := 29) (tg := 163) (nf := 137) (by show decode cX10_readPart 134 = _; decide +kernel) (by decide +kernel) rfl
    (G_vret rfl (by show decode cX10_readPart 163 = _; decide +kernel))
    (G_ldIn (n := 2) (nx := 138) (by show decode cX10_readPart 137 = _; decide +kernel) rfl rfl (G_bi (n := 20) (nx := 140) (by show decode cX10_readPart 138 = _; decide +kernel) biv_20 rfl (G_icmpeq (off := 9) (tg := 149) (nf := 143) (by show decode cX10_readPart 140 = _; decide +kernel) (by decide +kernel) rfl
      (G_ldAn (n := 0) (nx := 150) (by show decode cX10_readPart 149 = _; decide +kernel) rfl rfl (G_ic (n := 0) (nx := 151) (by show decode cX10_readPart 150 = _; decide +kernel) icv_0 rfl (G_bi (n := 11) (nx := 153) (by show decode cX10_readPart 151 = _; decide +kernel) biv_11 rfl (G_callV (b0 := 0) (nx := 156) (T := TX10) (ci := 10) (g_Fn_of rfl h_m_mustNumber) (cw_10_231) ⟨wd6_228, sel_GalleyRoomModel_mustNumber__II_V⟩ ⟨rfl, rfl⟩ ⟨by simp only [M_m_mustNumber, M_m_readPart, DR]; omega, by show 3 ≤ 21; decide⟩ (Nat.zero_le _) (rec_m_mustNumber _) (by show decode cX10_readPart 153 = _; decide +kernel) rfl (G_goto (off := 7) (nx := 163) (by show decode cX10_readPart 156 = _; decide +kernel) (by decide +kernel) (G_vret rfl (by show decode cX10_readPart 163 = _; decide +kernel)))))))
      (G_ldIn (n := 2) (nx := 144) (by show decode cX10_readPart 143 = _; decide +kernel) rfl rfl (G_bi (n := 21) (nx := 146) (by show decode cX10_readPart 144 = _; decide +kernel) biv_21 rfl (G_icmpne (off := 17) (tg := 163) (nf := 149) (by show decode cX10_readPart 146 = _; decide +kernel) (by decide +kernel) rfl
        (G_ldAn (n := 0) (nx := 150) (by show decode cX10_readPart 149 = _; decide +kernel) rfl rfl (G_ic (n := 0) (nx := 151) (by show decode cX10_readPart 150 = _; decide +kernel) icv_0 rfl (G_bi (n := 11) (nx := 153) (by show decode cX10_readPart 151 = _; decide +kernel) biv_11 rfl (G_callV (b0 := 0) (nx := 156) (T := TX10) (ci := 10) (g_Fn_of rfl h_m_mustNumber) (cw_10_231) ⟨wd6_228, sel_GalleyRoomModel_mustNumber__II_V⟩ ⟨rfl, rfl⟩ ⟨by simp only [M_m_mustNumber, M_m_readPart, DR]; omega, by show 3 ≤ 21; decide⟩ (Nat.zero_le _) (rec_m_mustNumber _) (by show decode cX10_readPart 153 = _; decide +kernel) rfl (G_goto (off := 7) (nx := 163) (by show decode cX10_readPart 156 = _; decide +kernel) (by decide +kernel) (G_vret rfl (by show decode cX10_readPart 163 = _; decide +kernel)))))))
        (G_vret rfl (by show decode cX10_readPart 163 = _; decide +kernel))))))))))))))))))))))
  exact ht _ _ s r ((e_m_readPart_b111 m_tellsOp m_leaf m_mustNumber s l2).symm.trans h)

set_option maxRecDepth 100000 in
set_option maxHeartbeats 4000000 in
theorem B_m_readPart_b37 (d : Nat) (rs : Sg → Int32 → Option Sg) (H_rs : g_Ft (M_m_readSum d) yX10_readSum 2 (FW_m_readSum rs)) (s : Sg) (l1 : Int32) (r : Sg) (h : m_readPart_b37 rs s l1 = some r) : g_Go (M_m_readPart d) retV 0 37 [some (.inr (.inr (some (10, 0)))), some (.inl l1), none] [] s r := by
  have ht : g_Gd (M_m_readPart d) retV 0 37 (t_m_readPart_b37 m_fine rs m_sign m_must) := (G_ldAn (n := 0) (nx := 38) (by show decode cX10_readPart 37 = _; decide +kernel) rfl rfl (G_callV (b0 := 0) (nx := 41) (T := TX10) (ci := 10) (g_Fn_of rfl h_m_fine) (cw_10_199) ⟨wd6_193, sel_GalleyRoomModel_fine___Z⟩ ⟨rfl, rfl⟩ ⟨by simp only [M_m_fine, M_m_readPart, DR]; omega, by show 1 ≤ 21; decide⟩ (Nat.zero_le _) (rec_m_fine _) (by show decode cX10_readPart 38 = _; decide +kernel) rfl (G_ifne (off := 4) (tg := 45) (nf := 44) (by show decode cX10_readPart 41 = _; decide +kernel) (by decide +kernel) rfl
    (G_vret rfl (by show decode cX10_readPart 44 = _; decide +kernel))
    (G_ldAn (n := 0) (nx := 46) (by show decode cX10_readPart 45 = _; decide +kernel) rfl rfl (G_dup (nx := 47) (by show decode cX10_readPart 46 = _; decide +kernel) rfl (G_getI (nx := 50) fl_10_203 (Or.inl rfl) (by show decode cX10_readPart 47 = _; decide +kernel) rfl (G_ic (n := 1) (nx := 51) (by show decode cX10_readPart 50 = _; decide +kernel) icv_1 rfl (G_iadd (nx := 52) (by show decode cX10_readPart 51 = _; decide +kernel) rfl (G_putI (nx := 55) fp_10_203 rfl (by show decode cX10_readPart 52 = _; decide +kernel) rfl (G_ldAn (n := 0) (nx := 56) (by show decode cX10_readPart 55 = _; decide +kernel) rfl rfl (G_ldIn (n := 1) (nx := 57) (by show decode cX10_readPart 56 = _; decide +kernel) rfl rfl (G_ic (n := 1) (nx := 58) (by show decode cX10_readPart 57 = _; decide +kernel) icv_1 rfl (G_iadd (nx := 59) (by show decode cX10_readPart 58 = _; decide +kernel) rfl (G_callV (b0 := 0) (nx := 62) (T := TX10) (ci := 10) (g_Fn_of rfl H_rs) (cw_10_221 d) ⟨wd6_197, sel_GalleyRoomModel_readSum__I_V⟩ ⟨rfl, rfl⟩ ⟨by simp only [M_m_readSum, M_m_readPart, DR]; omega, by show 3 ≤ 21; decide⟩ (Nat.zero_le _) (rec_m_readSum _) (by show decode cX10_readPart 59 = _; decide +kernel) rfl (G_ldAn (n := 0) (nx := 63) (by show decode cX10_readPart 62 = _; decide +kernel) rfl rfl (G_bi (n := 93) (nx := 65) (by show decode cX10_readPart 63 = _; decide +kernel) biv_93 rfl (G_callS (b0 := 0) (nx := 68) (g_Fn_of rfl h_m_sign) (cw_10_251) wd6_208 rfl ⟨by simp only [M_m_sign, M_m_readPart, DR]; omega, by show 1 ≤ 21; decide⟩ (Nat.zero_le _) (by show decode cX10_readPart 65 = _; decide +kernel) rfl (G_callV (b0 := 0) (nx := 71) (T := TX10) (ci := 10) (g_Fn_of rfl h_m_must) (cw_10_225) ⟨wd6_216, sel_GalleyRoomModel_must__I_V⟩ ⟨rfl, rfl⟩ ⟨by simp only [M_m_must, M_m_readPart, DR]; omega, by show 2 ≤ 21; decide⟩ (Nat.zero_le _) (rec_m_must _) (by show decode cX10_readPart 68 = _; decide +kernel) rfl (G_goto (off := 92) (nx := 163) (by show decode cX10_readPart 71 = _; decide +kernel) (by decide +kernel) (G_vret rfl (by show decode cX10_readPart 163 = _; decide +kernel)))))))))))))))))))))
  exact ht _ _ s r ((e_m_readPart_b37 m_fine rs m_sign m_must s l1).symm.trans h)

set_option maxRecDepth 100000 in
set_option maxHeartbeats 4000000 in
theorem h_m_readPart (d : Nat) (rs : Sg → Int32 → Option Sg) (H_rs : g_Ft (M_m_readSum d) yX10_readSum 2 (FW_m_readSum rs)) : g_Ft (M_m_readPart d) yX10_readPart 2 (FW_m_readPart (m_readPart rs)) := by
  intro l w hw σ as hlen hwf hok ρ k r e
  unfold FW_m_readPart at e
  obtain ⟨hh0, e⟩ := p_C_inv e
  obtain ⟨l1, hh1, e⟩ := p_I_inv e
  have e := p_E_inv e
  obtain ⟨q, e1, e2⟩ := Option.bind_eq_some_iff.mp e
  have has : as = [.inr (.inr (some (10, 0))), .inl l1] := g_as2 hlen hh0 hh1
  subst has
  have hGo : g_Go (M_m_readPart d) retV (me (M_m_readPart d)) 0 (g_loc [.inr (.inr (some (10, 0))), .inl l1] (ml (M_m_readPart d))) [] σ q := by
    have ht : g_Gd (M_m_readPart d) retV (me (M_m_readPart d)) 0 (t_m_readPart (m_readPart_b37 rs) (m_readPart_b111 rs) m_fine m_sign m_faults) := (G_ldAn (n := 0) (nx := 1) (by show decode cX10_readPart 0 = _; decide +kernel) rfl rfl (G_callV (b0 := 0) (nx := 4) (T := TX10) (ci := 10) (g_Fn_of rfl h_m_fine) (cw_10_199) ⟨wd6_193, sel_GalleyRoomModel_fine___Z⟩ ⟨rfl, rfl⟩ ⟨by simp only [M_m_fine, M_m_readPart, DR]; omega, by show 1 ≤ 21; decide⟩ (Nat.zero_le _) (rec_m_fine _) (by show decode cX10_readPart 1 = _; decide +kernel) rfl (G_ifne (off := 4) (tg := 8) (nf := 7) (by show decode cX10_readPart 4 = _; decide +kernel) (by decide +kernel) rfl
  (G_vret rfl (by show decode cX10_readPart 7 = _; decide +kernel))
  (G_ldAn (n := 0) (nx := 9) (by show decode cX10_readPart 8 = _; decide +kernel) rfl rfl (G_getRc (nx := 12) fl_10_50 rf_10_15 (by show decode cX10_readPart 9 = _; decide +kernel) rfl (G_ldAn (n := 0) (nx := 13) (by show decode cX10_readPart 12 = _; decide +kernel) rfl rfl (G_getI (nx := 16) fl_10_203 (Or.inl rfl) (by show decode cX10_readPart 13 = _; decide +kernel) rfl (G_iald (nx := 17) ak_50 (by show decode cX10_readPart 16 = _; decide +kernel) rfl (G_stIn (n := 2) (nx := 18) (by show 2 < 3; decide) (by show decode cX10_readPart 17 = _; decide +kernel) rfl rfl (G_ldIn (n := 2) (nx := 19) (by show decode cX10_readPart 18 = _; decide +kernel) rfl rfl (G_bi (n := 91) (nx := 21) (by show decode cX10_readPart 19 = _; decide +kernel) biv_91 rfl (G_callS (b0 := 0) (nx := 24) (g_Fn_of rfl h_m_sign) (cw_10_251) wd6_208 rfl ⟨by simp only [M_m_sign, M_m_readPart, DR]; omega, by show 1 ≤ 21; decide⟩ (Nat.zero_le _) (by show decode cX10_readPart 21 = _; decide +kernel) rfl (G_icmpne (off := 50) (tg := 74) (nf := 27) (by show decode cX10_readPart 24 = _; decide +kernel) (by decide +kernel) rfl
    (G_ldIn (n := 1) (nx := 28) (by show decode cX10_readPart 27 = _; decide +kernel) rfl rfl (G_bi (n := 8) (nx := 30) (by show decode cX10_readPart 28 = _; decide +kernel) biv_8 rfl (G_icmpne (off := 7) (tg := 37) (nf := 33) (by show decode cX10_readPart 30 = _; decide +kernel) (by decide +kernel) rfl
      (G_ldAn (n := 0) (nx := 34) (by show decode cX10_readPart 33 = _; decide +kernel) rfl rfl (G_callV (b0 := 0) (nx := 37) (T := TX10) (ci := 10) (g_Fn_of rfl h_m_faults) (cw_10_212) ⟨wd6_212, sel_GalleyRoomModel_faults___V⟩ ⟨rfl, rfl⟩ ⟨by simp only [M_m_faults, M_m_readPart, DR]; omega, by show 1 ≤ 21; decide⟩ (Nat.zero_le _) (rec_m_faults _) (by show decode cX10_readPart 34 = _; decide +kernel) rfl (G_lbl (Gp_C <| Gp_I fun a1 => Gp_E fun s r h => B_m_readPart_b37 d rs H_rs s a1 r h))))
      (G_lbl (Gp_C <| Gp_I fun a1 => Gp_E fun s r h => B_m_readPart_b37 d rs H_rs s a1 r h)))))
    (G_ldIn (n := 2) (nx := 75) (by show decode cX10_readPart 74 = _; decide +kernel) rfl rfl (G_bi (n := 50) (nx := 77) (by show decode cX10_readPart 75 = _; decide +kernel) biv_50 rfl (G_icmpne (off := 18) (tg := 95) (nf := 80) (by show decode cX10_readPart 77 = _; decide +kernel) (by decide +kernel) rfl
      (G_ldAn (n := 0) (nx := 81) (by show decode cX10_readPart 80 = _; decide +kernel) rfl rfl (G_getRc (nx := 84) fl_10_53 rf_10_16 (by show decode cX10_readPart 81 = _; decide +kernel) rfl (G_ldAn (n := 0) (nx := 85) (by show decode cX10_readPart 84 = _; decide +kernel) rfl rfl (G_getI (nx := 88) fl_10_203 (Or.inl rfl) (by show decode cX10_readPart 85 = _; decide +kernel) rfl (G_iald (nx := 89) ak_51 (by show decode cX10_readPart 88 = _; decide +kernel) rfl (G_si (n := 1000) (nx := 92) (by show decode cX10_readPart 89 = _; decide +kernel) siv_1000 rfl (G_icmple (off := 19) (tg := 111) (nf := 95) (by show decode cX10_readPart 92 = _; decide +kernel) (by decide +kernel) rfl
        (G_ldIn (n := 2) (nx := 96) (by show decode cX10_readPart 95 = _; decide +kernel) rfl rfl (G_ldAn (n := 0) (nx := 97) (by show decode cX10_readPart 96 = _; decide +kernel) rfl rfl (G_getI (nx := 100) fl_10_261 (Or.inl rfl) (by show decode cX10_readPart 97 = _; decide +kernel) rfl (G_icmplt (off := 59) (tg := 159) (nf := 103) (by show decode cX10_readPart 100 = _; decide +kernel) (by decide +kernel) rfl
          (G_ldAn (n := 0) (nx := 160) (by show decode cX10_readPart 159 = _; decide +kernel) rfl rfl (G_callV (b0 := 0) (nx := 163) (T := TX10) (ci := 10) (g_Fn_of rfl h_m_faults) (cw_10_212) ⟨wd6_212, sel_GalleyRoomModel_faults___V⟩ ⟨rfl, rfl⟩ ⟨by simp only [M_m_faults, M_m_readPart, DR]; omega, by show 1 ≤ 21; decide⟩ (Nat.zero_le _) (rec_m_faults _) (by show decode cX10_readPart 160 = _; decide +kernel) rfl (G_vret rfl (by show decode cX10_readPart 163 = _; decide +kernel))))
          (G_ldIn (n := 2) (nx := 104) (by show decode cX10_readPart 103 = _; decide +kernel) rfl rfl (G_ldAn (n := 0) (nx := 105) (by show decode cX10_readPart 104 = _; decide +kernel) rfl rfl (G_getI (nx := 108) fl_10_264 (Or.inl rfl) (by show decode cX10_readPart 105 = _; decide +kernel) rfl (G_icmpgt (off := 51) (tg := 159) (nf := 111) (by show decode cX10_readPart 108 = _; decide +kernel) (by decide +kernel) rfl
            (G_ldAn (n := 0) (nx := 160) (by show decode cX10_readPart 159 = _; decide +kernel) rfl rfl (G_callV (b0 := 0) (nx := 163) (T := TX10) (ci := 10) (g_Fn_of rfl h_m_faults) (cw_10_212) ⟨wd6_212, sel_GalleyRoomModel_faults___V⟩ ⟨rfl, rfl⟩ ⟨by simp only [M_m_faults, M_m_readPart, DR]; omega, by show 1 ≤ 21; decide⟩ (Nat.zero_le _) (rec_m_faults _) (by show decode cX10_readPart 160 = _; decide +kernel) rfl (G_vret rfl (by show decode cX10_readPart 163 = _; decide +kernel))))
            (G_lbl (Gp_C <| Gp_I fun a2 => Gp_E fun s r h => B_m_readPart_b111 d rs H_rs s a2 r h))))))))))
        (G_lbl (Gp_C <| Gp_I fun a2 => Gp_E fun s r h => B_m_readPart_b111 d rs H_rs s a2 r h)))))))))
      (G_ldIn (n := 2) (nx := 96) (by show decode cX10_readPart 95 = _; decide +kernel) rfl rfl (G_ldAn (n := 0) (nx := 97) (by show decode cX10_readPart 96 = _; decide +kernel) rfl rfl (G_getI (nx := 100) fl_10_261 (Or.inl rfl) (by show decode cX10_readPart 97 = _; decide +kernel) rfl (G_icmplt (off := 59) (tg := 159) (nf := 103) (by show decode cX10_readPart 100 = _; decide +kernel) (by decide +kernel) rfl
        (G_ldAn (n := 0) (nx := 160) (by show decode cX10_readPart 159 = _; decide +kernel) rfl rfl (G_callV (b0 := 0) (nx := 163) (T := TX10) (ci := 10) (g_Fn_of rfl h_m_faults) (cw_10_212) ⟨wd6_212, sel_GalleyRoomModel_faults___V⟩ ⟨rfl, rfl⟩ ⟨by simp only [M_m_faults, M_m_readPart, DR]; omega, by show 1 ≤ 21; decide⟩ (Nat.zero_le _) (rec_m_faults _) (by show decode cX10_readPart 160 = _; decide +kernel) rfl (G_vret rfl (by show decode cX10_readPart 163 = _; decide +kernel))))
        (G_ldIn (n := 2) (nx := 104) (by show decode cX10_readPart 103 = _; decide +kernel) rfl rfl (G_ldAn (n := 0) (nx := 105) (by show decode cX10_readPart 104 = _; decide +kernel) rfl rfl (G_getI (nx := 108) fl_10_264 (Or.inl rfl) (by show decode cX10_readPart 105 = _; decide +kernel) rfl (G_icmpgt (off := 51) (tg := 159) (nf := 111) (by show decode cX10_readPart 108 = _; decide +kernel) (by decide +kernel) rfl
          (G_ldAn (n := 0) (nx := 160) (by show decode cX10_readPart 159 = _; decide +kernel) rfl rfl (G_callV (b0 := 0) (nx := 163) (T := TX10) (ci := 10) (g_Fn_of rfl h_m_faults) (cw_10_212) ⟨wd6_212, sel_GalleyRoomModel_faults___V⟩ ⟨rfl, rfl⟩ ⟨by simp only [M_m_faults, M_m_readPart, DR]; omega, by show 1 ≤ 21; decide⟩ (Nat.zero_le _) (rec_m_faults _) (by show decode cX10_readPart 160 = _; decide +kernel) rfl (G_vret rfl (by show decode cX10_readPart 163 = _; decide +kernel))))
          (G_lbl (Gp_C <| Gp_I fun a2 => Gp_E fun s r h => B_m_readPart_b111 d rs H_rs s a2 r h))))))))))))))))))))))))))
    exact ht _ _ σ q ((e_m_readPart (m_readPart_b37 rs) (m_readPart_b111 rs) m_fine m_sign m_faults σ l1).symm.trans e1)
  exact g_meth (σ' := q) (v := none) (by decide) rfl hw hwf hok (Nat.le_of_ble_eq_true rfl) hGo (fun σ2 v2 h => retV_inv h) (by exact e2)

set_option maxRecDepth 100000 in
set_option maxHeartbeats 4000000 in
theorem B_m_readTerm_b41 (d : Nat) (rs : Sg → Int32 → Option Sg) (H_rs : g_Ft (M_m_readSum d) yX10_readSum 2 (FW_m_readSum rs)) (K5 : Sg → Int32 → Option Sg) (hK5 : ∀ (s : Sg) (l1 : Int32) (r : Sg), K5 s l1 = some r → g_Go (M_m_readTerm d) retV 0 5 [some (.inr (.inr (some (10, 0)))), some (.inl l1), none] [] s r) (s : Sg) (l1 : Int32) (r : Sg) (h : m_readTerm_b41 rs K5 s l1 = some r) : g_Go (M_m_readTerm d) retV 0 41 [some (.inr (.inr (some (10, 0)))), some (.inl l1), none] [] s r := by
  have ht : g_Gd (M_m_readTerm d) retV 0 41 (t_m_readTerm_b41 K5 (m_readPart rs) m_tellsOp) := (G_ldAn (n := 0) (nx := 42) (by show decode cX10_readTerm 41 = _; decide +kernel) rfl rfl (G_getRc (nx := 45) fl_10_50 rf_10_15 (by show decode cX10_readTerm 42 = _; decide +kernel) rfl (G_ldAn (n := 0) (nx := 46) (by show decode cX10_readTerm 45 = _; decide +kernel) rfl rfl (G_getI (nx := 49) fl_10_203 (Or.inl rfl) (by show decode cX10_readTerm 46 = _; decide +kernel) rfl (G_ic (n := 1) (nx := 50) (by show decode cX10_readTerm 49 = _; decide +kernel) icv_1 rfl (G_isub (nx := 51) (by show decode cX10_readTerm 50 = _; decide +kernel) rfl (G_iald (nx := 52) ak_50 (by show decode cX10_readTerm 51 = _; decide +kernel) rfl (G_stIn (n := 2) (nx := 53) (by show 2 < 3; decide) (by show decode cX10_readTerm 52 = _; decide +kernel) rfl rfl (G_ldAn (n := 0) (nx := 54) (by show decode cX10_readTerm 53 = _; decide +kernel) rfl rfl (G_ldIn (n := 1) (nx := 55) (by show decode cX10_readTerm 54 = _; decide +kernel) rfl rfl (G_callV (b0 := 0) (nx := 58) (T := TX10) (ci := 10) (g_Fn_of rfl (h_m_readPart d H_rs)) (cw_10_258 d) ⟨wd6_205, sel_GalleyRoomModel_readPart__I_V⟩ ⟨rfl, rfl⟩ ⟨by simp only [M_m_readPart, M_m_readTerm, DR]; omega, by show 3 ≤ 21; decide⟩ (Nat.zero_le _) (rec_m_readPart _) (by show decode cX10_readTerm 55 = _; decide +kernel) rfl (G_ldAn (n := 0) (nx := 59) (by show decode cX10_readTerm 58 = _; decide +kernel) rfl rfl (G_ldIn (n := 2) (nx := 60) (by show decode cX10_readTerm 59 = _; decide +kernel) rfl rfl (G_ic (n := 0) (nx := 61) (by show decode cX10_readTerm 60 = _; decide +kernel) icv_0 rfl (G_callV (b0 := 0) (nx := 64) (T := TX10) (ci := 10) (g_Fn_of rfl h_m_tellsOp) (cw_10_218) ⟨wd6_220, sel_GalleyRoomModel_tellsOp__II_I⟩ ⟨rfl, rfl⟩ ⟨by simp only [M_m_tellsOp, M_m_readTerm, DR]; omega, by show 3 ≤ 21; decide⟩ (Nat.zero_le _) (rec_m_tellsOp _) (by show decode cX10_readTerm 61 = _; decide +kernel) rfl (G_pop (nx := 65) (by show decode cX10_readTerm 64 = _; decide +kernel) rfl (G_goto (off := -60) (nx := 5) (by show decode cX10_readTerm 65 = _; decide +kernel) (by decide +kernel) (G_lbl (Gp_C <| Gp_I fun a1 => Gp_E fun s r h => hK5 s a1 r h)))))))))))))))))))
  exact ht _ _ s r ((e_m_readTerm_b41 K5 (m_readPart rs) m_tellsOp s l1).symm.trans h)

set_option maxRecDepth 100000 in
set_option maxHeartbeats 4000000 in
theorem B_m_readTerm_b5 (d : Nat) (rs : Sg → Int32 → Option Sg) (H_rs : g_Ft (M_m_readSum d) yX10_readSum 2 (FW_m_readSum rs)) : ∀ (n : Nat) (s : Sg) (l1 : Int32) (r : Sg), m_readTerm_b5 rs n s l1 = some r → g_Go (M_m_readTerm d) retV 0 5 [some (.inr (.inr (some (10, 0)))), some (.inl l1), none] [] s r := by
  intro n
  induction n with
  | zero => intro s l1 r h; cases h
  | succ n hK5 =>
    intro s l1 r h
    have ht : g_Gd (M_m_readTerm d) retV 0 5 (t_m_readTerm_b5 (m_readTerm_b41 rs (m_readTerm_b5 rs n)) m_sign m_takes0) := (G_ldAn (n := 0) (nx := 6) (by show decode cX10_readTerm 5 = _; decide +kernel) rfl rfl (G_bi (n := 42) (nx := 8) (by show decode cX10_readTerm 6 = _; decide +kernel) biv_42 rfl (G_callS (b0 := 0) (nx := 11) (g_Fn_of rfl h_m_sign) (cw_10_251) wd6_208 rfl ⟨by simp only [M_m_sign, M_m_readTerm, DR]; omega, by show 1 ≤ 21; decide⟩ (Nat.zero_le _) (by show decode cX10_readTerm 8 = _; decide +kernel) rfl (G_callV (b0 := 0) (nx := 14) (T := TX10) (ci := 10) (g_Fn_of rfl h_m_takes0) (cw_10_209) ⟨wd6_189, sel_GalleyRoomModel_takes0__I_Z⟩ ⟨rfl, rfl⟩ ⟨by simp only [M_m_takes0, M_m_readTerm, DR]; omega, by show 3 ≤ 21; decide⟩ (Nat.zero_le _) (rec_m_takes0 _) (by show decode cX10_readTerm 11 = _; decide +kernel) rfl (G_ifne (off := 27) (tg := 41) (nf := 17) (by show decode cX10_readTerm 14 = _; decide +kernel) (by decide +kernel) rfl
    (G_ldAn (n := 0) (nx := 18) (by show decode cX10_readTerm 17 = _; decide +kernel) rfl rfl (G_bi (n := 47) (nx := 20) (by show decode cX10_readTerm 18 = _; decide +kernel) biv_47 rfl (G_callS (b0 := 0) (nx := 23) (g_Fn_of rfl h_m_sign) (cw_10_251) wd6_208 rfl ⟨by simp only [M_m_sign, M_m_readTerm, DR]; omega, by show 1 ≤ 21; decide⟩ (Nat.zero_le _) (by show decode cX10_readTerm 20 = _; decide +kernel) rfl (G_callV (b0 := 0) (nx := 26) (T := TX10) (ci := 10) (g_Fn_of rfl h_m_takes0) (cw_10_209) ⟨wd6_189, sel_GalleyRoomModel_takes0__I_Z⟩ ⟨rfl, rfl⟩ ⟨by simp only [M_m_takes0, M_m_readTerm, DR]; omega, by show 3 ≤ 21; decide⟩ (Nat.zero_le _) (rec_m_takes0 _) (by show decode cX10_readTerm 23 = _; decide +kernel) rfl (G_ifne (off := 15) (tg := 41) (nf := 29) (by show decode cX10_readTerm 26 = _; decide +kernel) (by decide +kernel) rfl
      (G_ldAn (n := 0) (nx := 30) (by show decode cX10_readTerm 29 = _; decide +kernel) rfl rfl (G_bi (n := 37) (nx := 32) (by show decode cX10_readTerm 30 = _; decide +kernel) biv_37 rfl (G_callS (b0 := 0) (nx := 35) (g_Fn_of rfl h_m_sign) (cw_10_251) wd6_208 rfl ⟨by simp only [M_m_sign, M_m_readTerm, DR]; omega, by show 1 ≤ 21; decide⟩ (Nat.zero_le _) (by show decode cX10_readTerm 32 = _; decide +kernel) rfl (G_callV (b0 := 0) (nx := 38) (T := TX10) (ci := 10) (g_Fn_of rfl h_m_takes0) (cw_10_209) ⟨wd6_189, sel_GalleyRoomModel_takes0__I_Z⟩ ⟨rfl, rfl⟩ ⟨by simp only [M_m_takes0, M_m_readTerm, DR]; omega, by show 3 ≤ 21; decide⟩ (Nat.zero_le _) (rec_m_takes0 _) (by show decode cX10_readTerm 35 = _; decide +kernel) rfl (G_ifeq (off := 30) (tg := 68) (nf := 41) (by show decode cX10_readTerm 38 = _; decide +kernel) (by decide +kernel) rfl
        (G_vret rfl (by show decode cX10_readTerm 68 = _; decide +kernel))
        (G_lbl (Gp_C <| Gp_I fun a1 => Gp_E fun s r h => B_m_readTerm_b41 d rs H_rs K5 hK5 s a1 r h)))))))
      (G_lbl (Gp_C <| Gp_I fun a1 => Gp_E fun s r h => B_m_readTerm_b41 d rs H_rs K5 hK5 s a1 r h)))))))
    (G_lbl (Gp_C <| Gp_I fun a1 => Gp_E fun s r h => B_m_readTerm_b41 d rs H_rs K5 hK5 s a1 r h)))))))
    exact ht _ _ s r ((e_m_readTerm_b5 (m_readTerm_b41 rs (m_readTerm_b5 rs n)) m_sign m_takes0 s l1).symm.trans h)

set_option maxRecDepth 100000 in
set_option maxHeartbeats 4000000 in
theorem h_m_readTerm (d : Nat) (rs : Sg → Int32 → Option Sg) (H_rs : g_Ft (M_m_readSum d) yX10_readSum 2 (FW_m_readSum rs)) : g_Ft (M_m_readTerm d) yX10_readTerm 2 (FW_m_readTerm (m_readTerm rs)) := by
  intro l w hw σ as hlen hwf hok ρ k r e
  unfold FW_m_readTerm at e
  obtain ⟨hh0, e⟩ := p_C_inv e
  obtain ⟨l1, hh1, e⟩ := p_I_inv e
  have e := p_E_inv e
  obtain ⟨q, e1, e2⟩ := Option.bind_eq_some_iff.mp e
  have has : as = [.inr (.inr (some (10, 0))), .inl l1] := g_as2 hlen hh0 hh1
  subst has
  have hGo : g_Go (M_m_readTerm d) retV (me (M_m_readTerm d)) 0 (g_loc [.inr (.inr (some (10, 0))), .inl l1] (ml (M_m_readTerm d))) [] σ q := by
    have ht : g_Gd (M_m_readTerm d) retV (me (M_m_readTerm d)) 0 (t_m_readTerm (m_readTerm_b5 rs FU) (m_readPart rs)) := (G_ldAn (n := 0) (nx := 1) (by show decode cX10_readTerm 0 = _; decide +kernel) rfl rfl (G_ldIn (n := 1) (nx := 2) (by show decode cX10_readTerm 1 = _; decide +kernel) rfl rfl (G_callV (b0 := 0) (nx := 5) (T := TX10) (ci := 10) (g_Fn_of rfl (h_m_readPart d H_rs)) (cw_10_258 d) ⟨wd6_205, sel_GalleyRoomModel_readPart__I_V⟩ ⟨rfl, rfl⟩ ⟨by simp only [M_m_readPart, M_m_readTerm, DR]; omega, by show 3 ≤ 21; decide⟩ (Nat.zero_le _) (rec_m_readPart _) (by show decode cX10_readTerm 2 = _; decide +kernel) rfl (G_lbl (Gp_C <| Gp_I fun a1 => Gp_E fun s r h => B_m_readTerm_b5 d rs H_rs FU s a1 r h)))))
    exact ht _ _ σ q ((e_m_readTerm (m_readTerm_b5 rs FU) (m_readPart rs) σ l1).symm.trans e1)
  exact g_meth (σ' := q) (v := none) (by decide) rfl hw hwf hok (Nat.le_of_ble_eq_true rfl) hGo (fun σ2 v2 h => retV_inv h) (by exact e2)

set_option maxRecDepth 100000 in
set_option maxHeartbeats 4000000 in
theorem B_m_readSum_b29 (d : Nat) (rs : Sg → Int32 → Option Sg) (H_rs : g_Ft (M_m_readSum d) yX10_readSum 2 (FW_m_readSum rs)) (K5 : Sg → Int32 → Option Sg) (hK5 : ∀ (s : Sg) (l1 : Int32) (r : Sg), K5 s l1 = some r → g_Go (M_m_readSum d) retV 0 5 [some (.inr (.inr (some (10, 0)))), some (.inl l1), none] [] s r) (s : Sg) (l1 : Int32) (r : Sg) (h : m_readSum_b29 rs K5 s l1 = some r) : g_Go (M_m_readSum d) retV 0 29 [some (.inr (.inr (some (10, 0)))), some (.inl l1), none] [] s r := by
  have ht : g_Gd (M_m_readSum d) retV 0 29 (t_m_readSum_b29 K5 (m_readTerm rs) m_tellsOp) := (G_ldAn (n := 0) (nx := 30) (by show decode cX10_readSum 29 = _; decide +kernel) rfl rfl (G_getRc (nx := 33) fl_10_50 rf_10_15 (by show decode cX10_readSum 30 = _; decide +kernel) rfl (G_ldAn (n := 0) (nx := 34) (by show decode cX10_readSum 33 = _; decide +kernel) rfl rfl (G_getI (nx := 37) fl_10_203 (Or.inl rfl) (by show decode cX10_readSum 34 = _; decide +kernel) rfl (G_ic (n := 1) (nx := 38) (by show decode cX10_readSum 37 = _; decide +kernel) icv_1 rfl (G_isub (nx := 39) (by show decode cX10_readSum 38 = _; decide +kernel) rfl (G_iald (nx := 40) ak_50 (by show decode cX10_readSum 39 = _; decide +kernel) rfl (G_stIn (n := 2) (nx := 41) (by show 2 < 3; decide) (by show decode cX10_readSum 40 = _; decide +kernel) rfl rfl (G_ldAn (n := 0) (nx := 42) (by show decode cX10_readSum 41 = _; decide +kernel) rfl rfl (G_ldIn (n := 1) (nx := 43) (by show decode cX10_readSum 42 = _; decide +kernel) rfl rfl (G_callV (b0 := 0) (nx := 46) (T := TX10) (ci := 10) (g_Fn_of rfl (h_m_readTerm d H_rs)) (cw_10_255 d) ⟨wd6_201, sel_GalleyRoomModel_readTerm__I_V⟩ ⟨rfl, rfl⟩ ⟨by simp only [M_m_readTerm, M_m_readSum, DR]; omega, by show 3 ≤ 21; decide⟩ (Nat.zero_le _) (rec_m_readTerm _) (by show decode cX10_readSum 43 = _; decide +kernel) rfl (G_ldAn (n := 0) (nx := 47) (by show decode cX10_readSum 46 = _; decide +kernel) rfl rfl (G_ldIn (n := 2) (nx := 48) (by show decode cX10_readSum 47 = _; decide +kernel) rfl rfl (G_ic (n := 0) (nx := 49) (by show decode cX10_readSum 48 = _; decide +kernel) icv_0 rfl (G_callV (b0 := 0) (nx := 52) (T := TX10) (ci := 10) (g_Fn_of rfl h_m_tellsOp) (cw_10_218) ⟨wd6_220, sel_GalleyRoomModel_tellsOp__II_I⟩ ⟨rfl, rfl⟩ ⟨by simp only [M_m_tellsOp, M_m_readSum, DR]; omega, by show 3 ≤ 21; decide⟩ (Nat.zero_le _) (rec_m_tellsOp _) (by show decode cX10_readSum 49 = _; decide +kernel) rfl (G_pop (nx := 53) (by show decode cX10_readSum 52 = _; decide +kernel) rfl (G_goto (off := -48) (nx := 5) (by show decode cX10_readSum 53 = _; decide +kernel) (by decide +kernel) (G_lbl (Gp_C <| Gp_I fun a1 => Gp_E fun s r h => hK5 s a1 r h)))))))))))))))))))
  exact ht _ _ s r ((e_m_readSum_b29 K5 (m_readTerm rs) m_tellsOp s l1).symm.trans h)

set_option maxRecDepth 100000 in
set_option maxHeartbeats 4000000 in
theorem B_m_readSum_b5 (d : Nat) (rs : Sg → Int32 → Option Sg) (H_rs : g_Ft (M_m_readSum d) yX10_readSum 2 (FW_m_readSum rs)) : ∀ (n : Nat) (s : Sg) (l1 : Int32) (r : Sg), m_readSum_b5 rs n s l1 = some r → g_Go (M_m_readSum d) retV 0 5 [some (.inr (.inr (some (10, 0)))), some (.inl l1), none] [] s r := by
  intro n
  induction n with
  | zero => intro s l1 r h; cases h
  | succ n hK5 =>
    intro s l1 r h
    have ht : g_Gd (M_m_readSum d) retV 0 5 (t_m_readSum_b5 (m_readSum_b29 rs (m_readSum_b5 rs n)) m_sign m_takes0) := (G_ldAn (n := 0) (nx := 6) (by show decode cX10_readSum 5 = _; decide +kernel) rfl rfl (G_bi (n := 43) (nx := 8) (by show decode cX10_readSum 6 = _; decide +kernel) biv_43 rfl (G_callS (b0 := 0) (nx := 11) (g_Fn_of rfl h_m_sign) (cw_10_251) wd6_208 rfl ⟨by simp only [M_m_sign, M_m_readSum, DR]; omega, by show 1 ≤ 21; decide⟩ (Nat.zero_le _) (by show decode cX10_readSum 8 = _; decide +kernel) rfl (G_callV (b0 := 0) (nx := 14) (T := TX10) (ci := 10) (g_Fn_of rfl h_m_takes0) (cw_10_209) ⟨wd6_189, sel_GalleyRoomModel_takes0__I_Z⟩ ⟨rfl, rfl⟩ ⟨by simp only [M_m_takes0, M_m_readSum, DR]; omega, by show 3 ≤ 21; decide⟩ (Nat.zero_le _) (rec_m_takes0 _) (by show decode cX10_readSum 11 = _; decide +kernel) rfl (G_ifne (off := 15) (tg := 29) (nf := 17) (by show decode cX10_readSum 14 = _; decide +kernel) (by decide +kernel) rfl
    (G_ldAn (n := 0) (nx := 18) (by show decode cX10_readSum 17 = _; decide +kernel) rfl rfl (G_bi (n := 45) (nx := 20) (by show decode cX10_readSum 18 = _; decide +kernel) biv_45 rfl (G_callS (b0 := 0) (nx := 23) (g_Fn_of rfl h_m_sign) (cw_10_251) wd6_208 rfl ⟨by simp only [M_m_sign, M_m_readSum, DR]; omega, by show 1 ≤ 21; decide⟩ (Nat.zero_le _) (by show decode cX10_readSum 20 = _; decide +kernel) rfl (G_callV (b0 := 0) (nx := 26) (T := TX10) (ci := 10) (g_Fn_of rfl h_m_takes0) (cw_10_209) ⟨wd6_189, sel_GalleyRoomModel_takes0__I_Z⟩ ⟨rfl, rfl⟩ ⟨by simp only [M_m_takes0, M_m_readSum, DR]; omega, by show 3 ≤ 21; decide⟩ (Nat.zero_le _) (rec_m_takes0 _) (by show decode cX10_readSum 23 = _; decide +kernel) rfl (G_ifeq (off := 30) (tg := 56) (nf := 29) (by show decode cX10_readSum 26 = _; decide +kernel) (by decide +kernel) rfl
      (G_vret rfl (by show decode cX10_readSum 56 = _; decide +kernel))
      (G_lbl (Gp_C <| Gp_I fun a1 => Gp_E fun s r h => B_m_readSum_b29 d rs H_rs K5 hK5 s a1 r h)))))))
    (G_lbl (Gp_C <| Gp_I fun a1 => Gp_E fun s r h => B_m_readSum_b29 d rs H_rs K5 hK5 s a1 r h)))))))
    exact ht _ _ s r ((e_m_readSum_b5 (m_readSum_b29 rs (m_readSum_b5 rs n)) m_sign m_takes0 s l1).symm.trans h)

set_option maxRecDepth 100000 in
set_option maxHeartbeats 4000000 in
theorem h_m_readSum : ∀ d : Nat, g_Ft (M_m_readSum d) yX10_readSum 2 (FW_m_readSum (m_readSum d)) := by
  intro d
  induction d with
  | zero =>
    intro l w hw σ as hlen hwf hok ρ k r e
    unfold FW_m_readSum at e
    obtain ⟨hh0, e⟩ := p_C_inv e
    obtain ⟨l1, hh1, e⟩ := p_I_inv e
    have e := p_E_inv e
    cases e
  | succ d H_rs =>
    intro l w hw σ as hlen hwf hok ρ k r e
    unfold FW_m_readSum at e
    obtain ⟨hh0, e⟩ := p_C_inv e
    obtain ⟨l1, hh1, e⟩ := p_I_inv e
    have e := p_E_inv e
    obtain ⟨q, e1, e2⟩ := Option.bind_eq_some_iff.mp e
    have has : as = [.inr (.inr (some (10, 0))), .inl l1] := g_as2 hlen hh0 hh1
    subst has
    have hGo : g_Go (M_m_readSum (d + 1)) retV (me (M_m_readSum (d + 1))) 0 (g_loc [.inr (.inr (some (10, 0))), .inl l1] (ml (M_m_readSum (d + 1)))) [] σ q := by
      have ht : g_Gd (M_m_readSum (d + 1)) retV (me (M_m_readSum (d + 1))) 0 (t_m_readSum (m_readSum_b5 (m_readSum d) FU) (m_readTerm (m_readSum d))) := (G_ldAn (n := 0) (nx := 1) (by show decode cX10_readSum 0 = _; decide +kernel) rfl rfl (G_ldIn (n := 1) (nx := 2) (by show decode cX10_readSum 1 = _; decide +kernel) rfl rfl (G_callV (b0 := 0) (nx := 5) (T := TX10) (ci := 10) (g_Fn_of rfl (h_m_readTerm d H_rs)) (cw_10_255 d) ⟨wd6_201, sel_GalleyRoomModel_readTerm__I_V⟩ ⟨rfl, rfl⟩ ⟨by simp only [M_m_readTerm, M_m_readSum, DR]; omega, by show 3 ≤ 21; decide⟩ (Nat.zero_le _) (rec_m_readTerm _) (by show decode cX10_readSum 2 = _; decide +kernel) rfl (G_lbl (Gp_C <| Gp_I fun a1 => Gp_E fun s r h => B_m_readSum_b5 d rs H_rs FU s a1 r h)))))
      exact ht _ _ σ q ((e_m_readSum (m_readSum_b5 (m_readSum d) FU) (m_readTerm (m_readSum d)) σ l1).symm.trans e1)
    exact g_meth (σ' := q) (v := none) (by decide) rfl hw hwf hok (Nat.le_of_ble_eq_true rfl) hGo (fun σ2 v2 h => retV_inv h) (by exact e2)
  
